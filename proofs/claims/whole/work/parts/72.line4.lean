-- heard
section LI4
variable {t : Nat → Nat} {n : Nat}
theorem c_hdL {C : kSt} {H p v : Nat} {f g : Nat → Nat} (hH : H ≤ 8) (hp : p < 2 ^ 31) (hv : v < 2 ^ 31) (h26 : C.1 2 6 = nI H) (hf : ∀ k, k < H → C.1 35 k = nI (f k) ∧ f k < 2 ^ 31 ∧ C.1 36 k = nI (g k) ∧ g k < 2 ^ 31) (K1 K2 : kSt → Option (Bool × kSt)) (hK1 : ∀ S, K1 S = some (true, S)) (hK2 : ∀ S, K2 S = some (false, S)) : ∀ (d i fu : Nat), i + d = H → d < fu → f_m5_isHeard_d_L2 K1 K2 (nI p) (nI v) fu (nI i) C = some (anB (fun k => decide (f k = p ∧ g k = v)) d i, C) := by
  intro d
  induction d with
  | zero =>
    intro i fu hi hfu
    obtain ⟨fu, rfl⟩ : ∃ m, fu = m + 1 := ⟨fu - 1, by omega⟩
    rw [f_m5_isHeard_d_L2, h26, if_pos (nI_le (by omega) (by omega)), hK2, anB]
  | succ d ih =>
    intro i fu hi hfu
    obtain ⟨fu, rfl⟩ : ∃ m, fu = m + 1 := ⟨fu - 1, by omega⟩
    obtain ⟨f1, f2, f3, f4⟩ := hf i (by omega)
    rw [f_m5_isHeard_d_L2, h26, if_neg (nI_ge (by omega) (by omega)), kgi_nI (by omega) (by omega)]
    simp only [knx_e]
    rw [kgi_nI (show i < 8 by omega) (by omega), nI_clamp (by omega), f1, f3, kite (nI_eq f2 hp), kite (nI_eq f4 hv), anB, nI_1]
    by_cases q : f i = p
    · rw [if_pos q]
      by_cases q2 : g i = v
      · rw [if_pos q2, if_pos (decide_eq_true ⟨q, q2⟩), hK1]
      · rw [if_neg q2, if_neg (fun h => q2 (of_decide_eq_true h).2)]
        exact ih (i + 1) fu (by omega) (by omega)
    · rw [if_neg q, if_neg (fun h => q (of_decide_eq_true h).1)]
      exact ih (i + 1) fu (by omega) (by omega)
theorem m_hdF {M : kSt} {H : Nat} {c1 c2 c3 : Int32} (hH : H ≤ 8) (h13 : M.1 14 13 = 1) (h6 : M.1 58 6 = nI H) (K : kSt → Option kSt) : ∀ (d i fu : Nat), i + d = H → d < fu → f_m11_heardLine_L47 K c1 c2 c3 fu (nI i) M = K M := by
  intro d
  induction d with
  | zero =>
    intro i fu hi hfu
    obtain ⟨fu, rfl⟩ : ∃ m, fu = m + 1 := ⟨fu - 1, by omega⟩
    rw [f_m11_heardLine_L47, h6, if_pos (nI_le (by omega) (by omega))]
  | succ d ih =>
    intro i fu hi hfu
    obtain ⟨fu, rfl⟩ : ∃ m, fu = m + 1 := ⟨fu - 1, by omega⟩
    rw [f_m11_heardLine_L47, h6, if_neg (nI_ge (by omega) (by omega)), kg1 h13]
    simp only [knx_e, if_true]
    rw [nI_1]
    exact ih (i + 1) fu (by omega) (by omega)
theorem m_hdL {M : kSt} {H p v s : Nat} {c1 : Int32} {f g : Nat → Nat} (hH : H ≤ 8) (hp : p < 2 ^ 31) (hv : v < 2 ^ 31) (hm : mR t n M s) (h6 : M.1 58 6 = nI H) (hf : ∀ k, k < H → M.1 58 (26 + 3 * k) = nI (f k) ∧ f k < 2 ^ 31 ∧ M.1 58 (27 + 3 * k) = nI (g k) ∧ g k < 2 ^ 31) (K : kSt → Option kSt) : ∀ (d i fu : Nat), i + d = H → d < fu → f_m11_heardLine_L47 K c1 (nI p) (nI v) fu (nI i) M = if anB (fun k => decide (f k = p ∧ g k = v)) d i = true then K (flM M 3 s) else K M := by
  intro d
  induction d with
  | zero =>
    intro i fu hi hfu
    obtain ⟨fu, rfl⟩ : ∃ m, fu = m + 1 := ⟨fu - 1, by omega⟩
    rw [f_m11_heardLine_L47, h6, if_pos (nI_le (by omega) (by omega)), anB, if_neg (by decide)]
  | succ d ih =>
    intro i fu hi hfu
    obtain ⟨fu, rfl⟩ : ∃ m, fu = m + 1 := ⟨fu - 1, by omega⟩
    obtain ⟨f1, f2, f3, f4⟩ := hf i (by omega)
    have i1 : nI (26 + 3 * i) + 1 = nI (27 + 3 * i) := by rw [nI_1]; congr 1; omega
    rw [f_m11_heardLine_L47, h6, if_neg (nI_ge (by omega) (by omega)), kg0 hm.ok]
    simp only [knx_e, Bool.false_eq_true, if_false]
    rw [show 3 * nI i = nI (3 * i) from pk_mul 3 i, show 26 + nI (3 * i) = nI (26 + 3 * i) from nI_add 26 (3 * i), i1, kgi_nI (by omega) (by omega), kgi_nI (by omega) (by omega), nI_clamp (by omega), nI_clamp (by omega), f1, f3, kite (nI_eq f2 hp), kite (nI_eq f4 hv), anB, nI_1]
    by_cases q : f i = p
    · rw [if_pos q]
      by_cases q2 : g i = v
      · rw [if_pos q2, if_pos (decide_eq_true ⟨q, q2⟩), hm.at, show f_m11_wrong 3 (nI s) M = _ from m_wrg hm.ok 3 s]
        simp only [Option.bind_some, if_true]
        exact m_hdF hH (flM_13 _ _ _) (by rw [flM_58]; exact h6) K d (i + 1) fu (by omega) (by omega)
      · have hq : ¬ decide (f i = p ∧ g i = v) = true := fun h => q2 (of_decide_eq_true h).2
        rw [if_neg q2, if_neg hq]
        exact ih (i + 1) fu (by omega) (by omega)
    · have hq : ¬ decide (f i = p ∧ g i = v) = true := fun h => q (of_decide_eq_true h).1
      rw [if_neg q, if_neg hq]
      exact ih (i + 1) fu (by omega) (by omega)
theorem DR_heard {C M C6 E : kSt} {P U H p v u : Nat} {aS aL : Nat → Nat} (hd : DR t n P U H aS aL C M) (hH8 : H < 8) (hp : p < P) (z3 : v ≤ 30) (x7 : u ≤ gN M 58 0) (cE : ∀ a j, a = 58 ∨ a = 60 → E.1 a j = if a = 58 ∧ j = 6 then M.1 58 6 + 1 else if a = 58 ∧ j = 28 + 3 * H then nI u else if a = 58 ∧ j = 27 + 3 * H then nI v else if a = 58 ∧ j = 26 + 3 * H then nI p else M.1 a j) (dC : ∀ a j, a ≠ 3 → C6.1 a j = if a = 2 ∧ j = 6 then C.1 2 6 + 1 else if a = 37 ∧ j = H then nI u else if a = 36 ∧ j = H then nI v else if a = 35 ∧ j = H then nI p else C.1 a j) : DR t n P U (H + 1) aS aL C6 E := by
  have hP := hd.1.1.1
  have h586 := hd.1.2.2.1.2
  have hW9 : gN M 58 0 ≤ 99 := hd.1.2.2.2.2.1.2.2
  have c58 : ∀ j, j ≠ 6 → j ≠ 26 + 3 * H → j ≠ 27 + 3 * H → j ≠ 28 + 3 * H → E.1 58 j = M.1 58 j := fun j j1 j2 j3 j4 => by rw [cE _ _ (by omega), if_neg (by omega), if_neg (by omega), if_neg (by omega), if_neg (by omega)]
  have c586 : E.1 58 6 = M.1 58 6 + 1 := by rw [cE _ _ (by omega), if_pos ⟨rfl, rfl⟩]
  have c58a : E.1 58 (26 + 3 * H) = nI p := by rw [cE _ _ (by omega), if_neg (by omega), if_neg (by omega), if_neg (by omega), if_pos ⟨rfl, rfl⟩]
  have c58b : E.1 58 (27 + 3 * H) = nI v := by rw [cE _ _ (by omega), if_neg (by omega), if_neg (by omega), if_pos ⟨rfl, rfl⟩]
  have c58c : E.1 58 (28 + 3 * H) = nI u := by rw [cE _ _ (by omega), if_neg (by omega), if_pos ⟨rfl, rfl⟩]
  have c60 : ∀ j, E.1 60 j = M.1 60 j := fun j => by rw [cE _ _ (by omega), if_neg (by omega), if_neg (by omega), if_neg (by omega), if_neg (by omega)]
  have d2 : ∀ j, j ≠ 6 → C6.1 2 j = C.1 2 j := fun j hj => by rw [dC 2 j (by decide), if_neg (by omega), if_neg (by omega), if_neg (by omega), if_neg (by omega)]
  have d26 : C6.1 2 6 = C.1 2 6 + 1 := by rw [dC 2 6 (by decide), if_pos ⟨rfl, rfl⟩]
  have d35 : ∀ j, j ≠ H → C6.1 35 j = C.1 35 j := fun j hj => by rw [dC 35 j (by decide), if_neg (by omega), if_neg (by omega), if_neg (by omega), if_neg (by omega)]
  have d35p : C6.1 35 H = nI p := by rw [dC 35 H (by decide), if_neg (by omega), if_neg (by omega), if_neg (by omega), if_pos ⟨rfl, rfl⟩]
  have d36 : ∀ j, j ≠ H → C6.1 36 j = C.1 36 j := fun j hj => by rw [dC 36 j (by decide), if_neg (by omega), if_neg (by omega), if_neg (by omega), if_neg (by omega)]
  have d36p : C6.1 36 H = nI v := by rw [dC 36 H (by decide), if_neg (by omega), if_neg (by omega), if_pos ⟨rfl, rfl⟩]
  have d37 : ∀ j, j ≠ H → C6.1 37 j = C.1 37 j := fun j hj => by rw [dC 37 j (by decide), if_neg (by omega), if_neg (by omega), if_neg (by omega), if_neg (by omega)]
  have d37p : C6.1 37 H = nI u := by rw [dC 37 H (by decide), if_neg (by omega), if_pos ⟨rfl, rfl⟩]
  have dd : ∀ a, a ≠ 2 → a ≠ 3 → a ≠ 35 → a ≠ 36 → a ≠ 37 → C6.1 a = C.1 a := fun a h1 h2 h3 h4 h5 => funext fun j => by rw [dC a j h2, if_neg (by omega), if_neg (by omega), if_neg (by omega), if_neg (by omega)]
  obtain ⟨z1', z2', z3', z4, z5, z6, z7, z8, z9⟩ := hd
  refine ⟨dA_u (i0 := 6) z1' (by omega) (by omega) (fun j _ hj => c58 j hj (by omega) (by omega) (by omega)) d2 c586 d26 ⟨z1'.1.1, by rw [c58 2 (by omega) (by omega) (by omega) (by omega)]; exact z1'.1.2⟩ ⟨z1'.2.1.1, by rw [c58 5 (by omega) (by omega) (by omega) (by omega)]; exact z1'.2.1.2⟩ ⟨by omega, by rw [c586, h586, nI_1]⟩, dL_c z2' (fun j _ _ => c58 j (by omega) (by omega) (by omega) (by omega)) (dd 28 (by decide) (by decide) (by decide) (by decide) (by decide)), dE_c z3' (fun j _ _ => c58 j (by omega) (by omega) (by omega) (by omega)) (dd 31 (by decide) (by decide) (by decide) (by decide) (by decide)), dF_c z4 (gN_c (c58 0 (by omega) (by omega) (by omega) (by omega))) (fun j _ => c60 j) (dd 29 (by decide) (by decide) (by decide) (by decide) (by decide)) (dd 30 (by decide) (by decide) (by decide) (by decide) (by decide)), dO_c z5 (fun j _ _ => c60 j) (dd 32 (by decide) (by decide) (by decide) (by decide) (by decide)), dU_c z6 (Nat.le_refl _) (fun j _ _ => c58 j (by omega) (by omega) (by omega) (by omega)) (dd 33 (by decide) (by decide) (by decide) (by decide) (by decide)) (dd 34 (by decide) (by decide) (by decide) (by decide) (by decide)), fun k hk => ?_, nmC_c z8 (dd 38 (by decide) (by decide) (by decide) (by decide) (by decide)) (dd 39 (by decide) (by decide) (by decide) (by decide) (by decide)), nmM_c hP (fun p hp => (z8 p hp).2.2.2.1) z9 (fun j _ _ => c58 j (by omega) (by omega) (by omega) (by omega))⟩
  by_cases hkH : k = H
  · subst hkH
    have hg : gN E 58 (26 + 3 * k) = p := gN_of c58a (by omega)
    exact ⟨kB_of c58a (by omega) (by omega), kB_of c58b z3 (by omega), kB_of c58c (by omega) (by omega), fun _ => ⟨by rw [d35p, c58a], by rw [d36p, c58b], by rw [d37p, c58c], by rw [hg]; exact hp⟩⟩
  · obtain ⟨u1, u2, u2', u3⟩ := z7 k hk
    refine ⟨(kB_c (c58 _ (by omega) (by omega) (by omega) (by omega))).mpr u1, (kB_c (c58 _ (by omega) (by omega) (by omega) (by omega))).mpr u2, (kB_c (c58 _ (by omega) (by omega) (by omega) (by omega))).mpr u2', fun hk1 => ?_⟩
    obtain ⟨u4, u5, u6, u7⟩ := u3 (by omega)
    exact ⟨by rw [d35 k hkH, c58 _ (by omega) (by omega) (by omega) (by omega)]; exact u4, by rw [d36 k hkH, c58 _ (by omega) (by omega) (by omega) (by omega)]; exact u5, by rw [d37 k hkH, c58 _ (by omega) (by omega) (by omega) (by omega)]; exact u6, by rw [gN_c (c58 _ (by omega) (by omega) (by omega) (by omega))]; exact u7⟩
theorem sim_heard2 {C M C2 C3 M3 : kSt} {s P U H p v : Nat} {aS aL : Nat → Nat} (hd : DR t n P U H aS aL C M) (hH8 : H < 8) (hp : p < P) (z3 : v ≤ 30) (g1 : s ≤ nxS t n s) (g2 : nxS t n s ≤ nxS t n (nxS t n s)) (r2 : cR t n C2 (nxS t n (nxS t n s))) (r3 : cR t n C3 (nxS t n (nxS t n (nxS t n s)))) (n3 : mR t n M3 (nxS t n (nxS t n (nxS t n s)))) (qq3 : eqC C C3) (kk3 : eqM M M3) (w5 : C3.1 3 5 = nI v) :
    Sim t n s C M ((f_m7_next (kuI (kuI C3 35 H (nI p)) 36 H (nI v))).bind fun q15 => (f_m7_takeWord 12 q15).bind fun q16 => if q16.1 = true then (f_m7_seesWhole (nI 0) (q16.2.1 2 0) q16.2).bind fun q18 => if q18.1 = true then (f_m7_next (kuI (kuI q18.2 37 H (q18.2.1 3 5)) 2 6 ((kuI q18.2 37 H (q18.2.1 3 5)).1 2 6 + 1))).bind fun q22 => some (true, q22) else some (false, q18.2) else some (false, q16.2))
      ((f_m11_pass M3).bind fun q19 => (f_m11_after 12 (nI 0) (q19.1 58 0) q19).bind fun q20 => kgb (q20.2.1 14 13) fun b21 => if b21 = true then some q20.2 else kgi (nI (26 + 3 * H)) 95 (kgi (nI (26 + 3 * H) + 1) 95 (kgi (nI (26 + 3 * H) + 2) 95 (some (kuI (kuI (kuI (kuI q20.2 58 (nI (26 + 3 * H)).toNatClampNeg (nI p)) 58 (nI (26 + 3 * H) + 1).toNatClampNeg (nI v)) 58 (nI (26 + 3 * H) + 2).toNatClampNeg q20.1) 58 6 ((kuI (kuI (kuI q20.2 58 (nI (26 + 3 * H)).toNatClampNeg (nI p)) 58 (nI (26 + 3 * H) + 1).toNatClampNeg (nI v)) 58 (nI (26 + 3 * H) + 2).toNatClampNeg q20.1).1 58 6 + 1)))))) := by
  have hF := kFU_big
  have hP := hd.1.1.1
  have h586 := hd.1.2.2.1.2
  have h26 : C.1 2 6 = nI H := by rw [hd.1.2.2.2.1 6 (by omega)]; exact h586
  have hW : M.1 58 0 = nI (gN M 58 0) := hd.1.2.2.2.2.1.2.1
  have hW9 : gN M 58 0 ≤ 99 := hd.1.2.2.2.2.1.2.2
  have h20 : C.1 2 0 = nI (gN M 58 0) := by rw [hd.1.2.2.2.1 0 (by omega)]; exact hW
  have rr : cR t n (kuI (kuI C3 35 H (nI p)) 36 H (nI v)) (nxS t n (nxS t n (nxS t n s))) := (r3.u (by decide) (by decide) _ _).u (by decide) (by decide) _ _
  obtain ⟨C4, e4, r4, q4⟩ := rr.nx
  obtain ⟨M4, m4, n4, k4⟩ := m_pass n3
  have kk4 : eqM M M4 := kk3.tr k4
  have hW4 : M4.1 58 0 = nI (gN M 58 0) := by rw [kk4.1 58 (by decide) (by decide)]; exact hW
  rw [e4, m4]
  simp only [Option.bind_some]
  rw [hW4]
  have qf4 : frC C C4 := ((qq3.fr.u (by omega) _ _).u (by omega) _ _).tr q4.fr
  have h1 := nxS_ge (t := t) r2.2.1
  have h2 := nxS_ge (t := t) r3.2.1
  have h3 := nxS_ge (t := t) r4.2.1
  rcases ts_j (i := 12) (lo := 0) (hi := gN M 58 0) (by omega) (by omega) (by omega) r4 n4 with ⟨x1, x2⟩ | ⟨C5, M5, k, s5, x1, x2, x3, x4, x5⟩ | ⟨C5, M5, u, x1, x2, x3, x4, x5, x6, x7, x8, x9, x10⟩
  · rw [x1, x2]
    simp only [Option.bind_some, Bool.false_eq_true, if_false]
    rw [kg1 (flM_13 _ _ _)]
    simp only [if_true]
    exact sim_fail qf4 kk4.fr _ _
  · have h205 : C5.1 2 0 = nI (gN M 58 0) := by rw [x4 2 (by decide), q4 2 (by decide), kuI_ne _ _ _ (by decide), kuI_ne _ _ _ (by decide), qq3 2 (by decide)]; exact h20
    rw [x1, x3]
    simp only [Option.bind_some, if_true]
    rw [h205, x2, kg1 (flM_13 _ _ _)]
    simp only [Option.bind_some, Bool.false_eq_true, if_false, if_true]
    exact sim_fail (qf4.tr x4.fr) (kk4.tr x5).fr _ _
  · have h205 : C5.1 2 0 = nI (gN M 58 0) := by rw [x9 2 (by decide), q4 2 (by decide), kuI_ne _ _ _ (by decide), kuI_ne _ _ _ (by decide), qq3 2 (by decide)]; exact h20
    rw [x1, x3]
    simp only [Option.bind_some, if_true]
    rw [h205, x2, kg0 x8.ok]
    simp only [Option.bind_some, Bool.false_eq_true, if_false, if_true]
    have i1 : nI (26 + 3 * H) + 1 = nI (27 + 3 * H) := by rw [nI_1]; congr 1; omega
    have i2 : nI (26 + 3 * H) + 2 = nI (28 + 3 * H) := by rw [show nI (26 + 3 * H) + 2 = nI (26 + 3 * H + 2) from nI_add _ 2]; congr 1; omega
    have ka : ∀ x : Option kSt, kgi (nI (26 + 3 * H)) 95 x = x := fun x => kgi_nI (by omega) (by omega)
    have kb' : ∀ x : Option kSt, kgi (nI (27 + 3 * H)) 95 x = x := fun x => kgi_nI (by omega) (by omega)
    have kc : ∀ x : Option kSt, kgi (nI (28 + 3 * H)) 95 x = x := fun x => kgi_nI (by omega) (by omega)
    have ca : (nI (26 + 3 * H)).toNatClampNeg = 26 + 3 * H := nI_clamp (by omega)
    have cb : (nI (27 + 3 * H)).toNatClampNeg = 27 + 3 * H := nI_clamp (by omega)
    have cc : (nI (28 + 3 * H)).toNatClampNeg = 28 + 3 * H := nI_clamp (by omega)
    simp only [i1, i2, ka, kb', kc, ca, cb, cc, x5]
    have rr5 : cR t n (kuI (kuI C5 37 H (nI u)) 2 6 ((kuI C5 37 H (nI u)).1 2 6 + 1)) (nxS t n (nxS t n (nxS t n (nxS t n (nxS t n s))))) := (x4.u (by decide) (by decide) _ _).u (by decide) (by decide) _ _
    obtain ⟨C6, e6, r6, q6⟩ := rr5.nx
    rw [e6]
    simp only [Option.bind_some]
    have kk : eqM M M5 := kk4.tr x10
    have h4 := nxS_ge (t := t) x4.2.1
    refine ⟨C6, _, rfl, (((qf4.tr x9.fr).u (by omega) _ _).u (by omega) _ _).tr q6.fr, (((kk.fr.u (by omega) _ _).u (by omega) _ _).u (by omega) _ _).u (by omega) _ _, Or.inl ⟨rfl, _, Nat.le_trans g1 (Nat.le_trans g2 (Nat.le_trans h1 (Nat.le_trans h2 (Nat.le_trans h3 h4)))), r6, (((x8.u (by decide) (by decide) (by decide) _ _).u (by decide) (by decide) (by decide) _ _).u (by decide) (by decide) (by decide) _ _).u (by decide) (by decide) (by decide) _ _, P, U, H + 1, aS, aL, ?_⟩⟩
    refine DR_heard hd hH8 hp z3 x7 (fun a j ha => ?_) (fun a j ha => ?_)
    · rw [uI_get, uI_no _ _ (show ¬ ((58 : Nat) = 58 ∧ 6 = 28 + 3 * H) by omega), uI_no _ _ (show ¬ ((58 : Nat) = 58 ∧ 6 = 27 + 3 * H) by omega), uI_no _ _ (show ¬ ((58 : Nat) = 58 ∧ 6 = 26 + 3 * H) by omega), uI_get, uI_get, uI_get, kk.1 58 (by decide) (by decide), kk.1 a (by omega) (by omega)]
    · rw [q6 a ha, uI_get, uI_no _ _ (show ¬ ((2 : Nat) = 37 ∧ 6 = H) by omega), uI_get, x9 2 (by decide), x9 a ha, q4 2 (by decide), q4 a ha, uI_no _ _ (show ¬ ((2 : Nat) = 36 ∧ 6 = H) by omega), uI_no _ _ (show ¬ ((2 : Nat) = 35 ∧ 6 = H) by omega), uI_get, uI_get, qq3 a ha, qq3 2 (by decide)]
theorem m_heardF {M F : kSt} {H : Nat} (h0 : M.1 14 13 = 0) (hH : H ≤ 8) (hp : f_m11_pairHere M = some (0, F)) (h13 : F.1 14 13 = 1) (h6 : F.1 58 6 = nI H) : f_m11_heardLine M = some F := by
  have hF := kFU_big
  unfold f_m11_heardLine
  simp only [knx_e]
  rw [kg0 h0]
  simp only [Bool.false_eq_true, if_false]
  rw [hp]
  simp only [Option.bind_some]
  rw [mf_pass h13]
  simp only [Option.bind_some]
  rw [mf_must h13]
  simp only [Option.bind_some]
  rw [mf_numH h13]
  simp only [Option.bind_some]
  rw [show (0 : Int32) = nI 0 from rfl, m_hdF hH h13 h6 _ H 0 kFU (by omega) (by omega), mf_pass h13]
  simp only [Option.bind_some]
  rw [mf_after h13]
  simp only [Option.bind_some]
  rw [kg1 h13]
  simp only [if_true]
theorem sim_heard {C M : kSt} {s P U H : Nat} {aS aL : Nat → Nat} (hc : cR t n C s) (hm : mR t n M (nxS t n s)) (hd : DR t n P U H aS aL C M) (hH8 : H < 8) : Sim t n s C M (f_m7_readHeard C) (f_m11_heardLine M) := by
  have hF := kFU_big
  have hs := hc.2.1
  obtain ⟨C1, e1, r1, q1⟩ := hc.nx
  have hd1 : DR t n P U H aS aL C1 M := hd.c (fun a ha => q1 a (by omega)) rfl rfl
  have hP := hd.1.1.1
  have h586 := hd.1.2.2.1.2
  have h26 : C.1 2 6 = nI H := by rw [hd.1.2.2.2.1 6 (by omega)]; exact h586
  have hW : M.1 58 0 = nI (gN M 58 0) := hd.1.2.2.2.2.1.2.1
  have hW9 : gN M 58 0 ≤ 99 := hd.1.2.2.2.2.1.2.2
  have h20 : C.1 2 0 = nI (gN M 58 0) := by rw [hd.1.2.2.2.1 0 (by omega)]; exact hW
  have g1 := nxS_ge (t := t) hs
  have g2 := nxS_ge (t := t) r1.2.1
  obtain ⟨a1, a2⟩ := c_seen r1 hd1
  obtain ⟨b1, b2⟩ := m_pairH hm hd1
  by_cases hk : pq t n (nxS t n s) aS aL P = 0
  · have hp := pq_0 hk
    unfold f_m7_readHeard f_m11_heardLine
    simp only [knx_e]
    rw [h26, if_pos (show nI H < (8 : Int32) from nI_lt (b := 8) hH8 (by omega)), e1, kg0 hm.ok, h586]
    simp only [Option.bind_some, Bool.false_eq_true, if_false]
    rw [show 3 * nI H = nI (3 * H) from pk_mul 3 H, show 26 + nI (3 * H) = nI (26 + 3 * H) from nI_add 26 (3 * H)]
    rw [a1 hk, b1 hk]
    clear a1 a2 b1 b2 hk
    generalize pnI t n (nxS t n s) aS aL P = p at hp ⊢
    obtain ⟨C2, e2, r2, q2⟩ := r1.nx
    obtain ⟨M2, m2, n2, k2⟩ := m_pass hm
    simp only [Option.bind_some]
    rw [if_pos (nI_pos' (by omega)), e2, m2]
    simp only [Option.bind_some]
    have h62 : M2.1 58 6 = nI H := by rw [k2.1 58 (by decide) (by decide)]; exact h586
    obtain ⟨w1, w2⟩ := c_takeWord (i := 15) (by omega) r2
    obtain ⟨v1, v2⟩ := m_must (i := 15) (by omega) n2
    cases hw : wq t n (nxS t n (nxS t n s)) 15
    · rw [w2 hw, v2 hw]
      simp only [Option.bind_some, Bool.false_eq_true, if_false]
      rw [mf_numH (flM_13 _ _ _)]
      simp only [Option.bind_some]
      rw [show (0 : Int32) = nI 0 from rfl, m_hdF (H := H) (by omega) (flM_13 _ _ _) (by rw [flM_58]; exact h62) _ H 0 kFU (by omega) (by omega), mf_pass (flM_13 _ _ _)]
      simp only [Option.bind_some]
      rw [mf_after (flM_13 _ _ _)]
      simp only [Option.bind_some]
      rw [kg1 (flM_13 _ _ _)]
      simp only [if_true]
      exact sim_fail (q1.tr q2).fr k2.fr _ _
    · obtain ⟨C3, e3, r3, q3⟩ := w1 hw
      obtain ⟨M3, m3, n3, k3⟩ := v1 hw
      rw [e3, m3]
      simp only [Option.bind_some, if_true]
      have h63 : M3.1 58 6 = nI H := by rw [k3.1 58 (by decide) (by decide)]; exact h62
      obtain ⟨s1, s2⟩ := c_sees (lo := 1) (hi := 30) (by omega) (by omega) r3
      obtain ⟨y1, y2⟩ := m_numH (lo := 1) (hi := 30) (by omega) (by omega) n3
      have qq3 : eqC C C3 := (q1.tr q2).tr q3
      have kk3 : eqM M M3 := k2.tr k3
      by_cases hq : nq t n (nxS t n (nxS t n (nxS t n s))) 1 30 = 0
      · obtain ⟨z1, z2, z3⟩ := nq_0 hq
        have w5 := r3.2.2.2.2.2.1 z1
        rw [show f_m7_seesWhole 1 30 C3 = _ from s1 hq, show f_m11_numberHere 1 30 M3 = _ from y1 hq]
        simp only [Option.bind_some, if_true]
        rw [w5]
        generalize wvN t n (nxS t n (nxS t n (nxS t n s))) = v at *
        have hfm : ∀ k, k < H → M.1 58 (26 + 3 * k) = nI (gN M 58 (26 + 3 * k)) ∧ gN M 58 (26 + 3 * k) < 2 ^ 31 ∧ M.1 58 (27 + 3 * k) = nI (gN M 58 (27 + 3 * k)) ∧ gN M 58 (27 + 3 * k) < 2 ^ 31 := fun k hk => by
          obtain ⟨⟨x1, x2⟩, ⟨x3, x4⟩, -, -⟩ := hd.2.2.2.2.2.2.1 k (by omega)
          exact ⟨x1, by omega, x3, by omega⟩
        have hfc : ∀ k, k < H → C3.1 35 k = nI (gN M 58 (26 + 3 * k)) ∧ gN M 58 (26 + 3 * k) < 2 ^ 31 ∧ C3.1 36 k = nI (gN M 58 (27 + 3 * k)) ∧ gN M 58 (27 + 3 * k) < 2 ^ 31 := fun k hk => by
          obtain ⟨x1, x2, x3, x4⟩ := hfm k hk
          obtain ⟨-, -, -, x5⟩ := hd.2.2.2.2.2.2.1 k (by omega)
          obtain ⟨x6, x7, -⟩ := x5 hk
          exact ⟨by rw [qq3 35 (by decide), x6]; exact x1, x2, by rw [qq3 36 (by decide), x7]; exact x3, x4⟩
        have hcU : f_m5_isHeard_d (nI p) (nI v) C3 = some (anB (fun k => decide (gN M 58 (26 + 3 * k) = p ∧ gN M 58 (27 + 3 * k) = v)) H 0, C3) := by
          unfold f_m5_isHeard_d
          exact c_hdL (f := fun k => gN M 58 (26 + 3 * k)) (g := fun k => gN M 58 (27 + 3 * k)) (by omega) (by omega) (by omega) (by rw [qq3 2 (by decide)]; exact h26) hfc _ _ (fun _ => rfl) (fun _ => rfl) H 0 kFU (by omega) (by omega)
        rw [hcU, show (0 : Int32) = nI 0 from rfl, m_hdL (f := fun k => gN M 58 (26 + 3 * k)) (g := fun k => gN M 58 (27 + 3 * k)) (by omega) (by omega) (by omega) n3 h63 (fun k hk => by rw [kk3.1 58 (by decide) (by decide)]; exact hfm k hk) _ H 0 kFU (by omega) (by omega)]
        simp only [Option.bind_some]
        cases hB : anB (fun k => decide (gN M 58 (26 + 3 * k) = p ∧ gN M 58 (27 + 3 * k) = v)) H 0
        · simp only [Bool.false_eq_true, if_false]
          have kgH : ∀ x : Option (Bool × kSt), kgi (nI H) 8 x = x := fun x => kgi_nI hH8 (by omega)
          have cl3 : (nI H).toNatClampNeg = H := nI_clamp (by omega)
          simp only [kgH, cl3]
          have w6 : (kuI C3 35 H (nI p)).1 3 5 = nI v := by rw [kuI_ne _ _ _ (by decide)]; exact w5
          rw [w6]
          exact sim_heard2 hd hH8 hp z3 g1 g2 r2 r3 n3 qq3 kk3 w5
        · simp only [if_true]
          rw [show f_m7_found 3 C3 = _ from c_found r3 3, mf_pass (flM_13 _ _ _)]
          simp only [Option.bind_some]
          rw [mf_after (flM_13 _ _ _)]
          simp only [Option.bind_some]
          rw [kg1 (flM_13 _ _ _)]
          simp only [if_true]
          exact sim_fail qq3.fr kk3.fr 3 _
      · rw [show f_m7_seesWhole 1 30 C3 = _ from s2 hq, show f_m11_numberHere 1 30 M3 = _ from y2 hq]
        simp only [Option.bind_some, Bool.false_eq_true, if_false]
        rw [show (0 : Int32) = nI 0 from rfl, m_hdF (H := H) (by omega) (flM_13 _ _ _) (by rw [flM_58]; exact h63) _ H 0 kFU (by omega) (by omega), mf_pass (flM_13 _ _ _)]
        simp only [Option.bind_some]
        rw [mf_after (flM_13 _ _ _)]
        simp only [Option.bind_some]
        rw [kg1 (flM_13 _ _ _)]
        simp only [if_true]
        exact sim_fail qq3.fr kk3.fr _ _
  · rw [m_heardF (H := H) hm.ok (by omega) (b2 hk) (flM_13 _ _ _) (by rw [flM_58]; exact h586)]
    unfold f_m7_readHeard
    simp only [knx_e]
    rw [h26, if_pos (show nI H < (8 : Int32) from nI_lt (b := 8) hH8 (by omega)), e1]
    simp only [Option.bind_some]
    rw [a2 hk]
    simp only [Option.bind_some]
    rw [if_neg (show ¬ (0 : Int32) ≤ -1 by decide)]
    exact sim_fail q1.fr frR.rf _ _
end LI4
