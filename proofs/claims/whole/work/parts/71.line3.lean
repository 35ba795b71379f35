-- unsure, heard
section LI3
variable {t : Nat → Nat} {n : Nat}
def anB (q : Nat → Bool) : Nat → Nat → Bool
  | 0, _ => false
  | j + 1, i => if q i = true then true else anB q j (i + 1)
theorem anB_f (q : Nat → Bool) : ∀ j i, anB q j i = false → ∀ k, i ≤ k → k < i + j → q k = false
  | 0, i, _, k, h1, h2 => by omega
  | j + 1, i, h, k, h1, h2 => by
    rw [anB] at h
    by_cases hq : q i = true
    · rw [if_pos hq] at h
      exact absurd h (by decide)
    · rw [if_neg hq] at h
      by_cases e : k = i
      · rw [e]
        exact Bool.eq_false_iff.mpr hq
      · exact anB_f q j (i + 1) h k (by omega) (by omega)
theorem c_unL {C : kSt} {U p : Nat} {f : Nat → Nat} (hU : U ≤ 4) (hp : p < 2 ^ 31) (h25 : C.1 2 5 = nI U) (hf : ∀ k, k < U → C.1 33 k = nI (f k) ∧ f k < 2 ^ 31) (K1 K2 : kSt → Option (Bool × kSt)) (hK1 : ∀ S, K1 S = some (true, S)) (hK2 : ∀ S, K2 S = some (false, S)) : ∀ (d i fu : Nat), i + d = U → d < fu → f_m5_isUnsure_d_L2 K1 K2 (nI p) fu (nI i) C = some (anB (fun k => decide (f k = p)) d i, C) := by
  intro d
  induction d with
  | zero =>
    intro i fu hi hfu
    obtain ⟨fu, rfl⟩ : ∃ m, fu = m + 1 := ⟨fu - 1, by omega⟩
    rw [f_m5_isUnsure_d_L2, h25, if_pos (nI_le (by omega) (by omega)), hK2, anB]
  | succ d ih =>
    intro i fu hi hfu
    obtain ⟨fu, rfl⟩ : ∃ m, fu = m + 1 := ⟨fu - 1, by omega⟩
    obtain ⟨f1, f2⟩ := hf i (by omega)
    rw [f_m5_isUnsure_d_L2, h25, if_neg (nI_ge (by omega) (by omega)), kgi_nI (by omega) (by omega), nI_clamp (by omega), f1, kite (nI_eq f2 hp), anB]
    by_cases q : f i = p
    · rw [if_pos q, if_pos (decide_eq_true q), hK1]
    · rw [if_neg q, if_neg (fun h => q (of_decide_eq_true h)), knx_e, nI_1]
      exact ih (i + 1) fu (by omega) (by omega)
theorem m_unF {M : kSt} {U : Nat} {c1 c2 : Int32} (hU : U ≤ 4) (h13 : M.1 14 13 = 1) (h5 : M.1 58 5 = nI U) (K : kSt → Option kSt) : ∀ (d i fu : Nat), i + d = U → d < fu → f_m11_unsureLine_L27 K c1 c2 fu (nI i) M = K M := by
  intro d
  induction d with
  | zero =>
    intro i fu hi hfu
    obtain ⟨fu, rfl⟩ : ∃ m, fu = m + 1 := ⟨fu - 1, by omega⟩
    rw [f_m11_unsureLine_L27, h5, if_pos (nI_le (by omega) (by omega))]
  | succ d ih =>
    intro i fu hi hfu
    obtain ⟨fu, rfl⟩ : ∃ m, fu = m + 1 := ⟨fu - 1, by omega⟩
    rw [f_m11_unsureLine_L27, h5, if_neg (nI_ge (by omega) (by omega)), kg1 h13]
    simp only [knx_e, if_true]
    rw [nI_1]
    exact ih (i + 1) fu (by omega) (by omega)
theorem flM_58 (M : kSt) (k s : Nat) : (flM M k s).1 58 = M.1 58 := by
  unfold flM
  rw [kuI_ne _ _ _ (by decide), kuI_ne _ _ _ (by decide), kuI_ne _ _ _ (by decide)]
theorem m_unL {M : kSt} {U p s : Nat} {c1 : Int32} {f : Nat → Nat} (hU : U ≤ 4) (hp : p < 2 ^ 31) (hm : mR t n M s) (h5 : M.1 58 5 = nI U) (hf : ∀ k, k < U → M.1 58 (18 + 2 * k) = nI (f k) ∧ f k < 2 ^ 31) (K : kSt → Option kSt) : ∀ (d i fu : Nat), i + d = U → d < fu → f_m11_unsureLine_L27 K c1 (nI p) fu (nI i) M = if anB (fun k => decide (f k = p)) d i = true then K (flM M 3 s) else K M := by
  intro d
  induction d with
  | zero =>
    intro i fu hi hfu
    obtain ⟨fu, rfl⟩ : ∃ m, fu = m + 1 := ⟨fu - 1, by omega⟩
    rw [f_m11_unsureLine_L27, h5, if_pos (nI_le (by omega) (by omega)), anB, if_neg (by decide)]
  | succ d ih =>
    intro i fu hi hfu
    obtain ⟨fu, rfl⟩ : ∃ m, fu = m + 1 := ⟨fu - 1, by omega⟩
    obtain ⟨f1, f2⟩ := hf i (by omega)
    rw [f_m11_unsureLine_L27, h5, if_neg (nI_ge (by omega) (by omega)), kg0 hm.ok]
    simp only [knx_e, Bool.false_eq_true, if_false]
    rw [show 2 * nI i = nI (2 * i) from pk_mul 2 i, show 18 + nI (2 * i) = nI (18 + 2 * i) from nI_add 18 (2 * i), kgi_nI (by omega) (by omega), nI_clamp (by omega), f1, kite (nI_eq f2 hp), anB, nI_1]
    by_cases q : f i = p
    · rw [if_pos q, if_pos (decide_eq_true q), hm.at, show f_m11_wrong 3 (nI s) M = _ from m_wrg hm.ok 3 s]
      simp only [Option.bind_some, if_true]
      exact m_unF hU (flM_13 _ _ _) (by rw [flM_58]; exact h5) K d (i + 1) fu (by omega) (by omega)
    · rw [if_neg q, if_neg (fun h => q (of_decide_eq_true h))]
      exact ih (i + 1) fu (by omega) (by omega)
theorem sim_unsure {C M : kSt} {s P U H : Nat} {aS aL : Nat → Nat} (hc : cR t n C s) (hm : mR t n M (nxS t n s)) (hd : DR t n P U H aS aL C M) (hU4 : U < 4) : Sim t n s C M (f_m7_readUnsure C) (f_m11_unsureLine M) := by
  have hF := kFU_big
  have hs := hc.2.1
  obtain ⟨C1, e1, r1, q1⟩ := hc.nx
  have hd1 : DR t n P U H aS aL C1 M := hd.c (fun a ha => q1 a (by omega)) rfl rfl
  have hP := hd.1.1.1
  have h585 := hd.1.2.1.2
  have h25 : C.1 2 5 = nI U := by rw [hd.1.2.2.2.1 5 (by omega)]; exact h585
  have h25' : C1.1 2 5 = nI U := by rw [q1 2 (by decide)]; exact h25
  have g1 := nxS_ge (t := t) hs
  have g2 := nxS_ge (t := t) r1.2.1
  unfold f_m7_readUnsure f_m11_unsureLine
  simp only [knx_e]
  rw [h25, if_pos (show nI U < (4 : Int32) from nI_lt (b := 4) hU4 (by omega)), e1, kg0 hm.ok, h585]
  simp only [Option.bind_some, Bool.false_eq_true, if_false]
  rw [show 2 * nI U = nI (2 * U) from pk_mul 2 U, show 18 + nI (2 * U) = nI (18 + 2 * U) from nI_add 18 (2 * U)]
  obtain ⟨a1, a2⟩ := c_seen r1 hd1
  obtain ⟨b1, b2⟩ := m_pairH hm hd1
  by_cases hk : pq t n (nxS t n s) aS aL P = 0
  · have hp := pq_0 hk
    rw [a1 hk, b1 hk]
    clear a1 a2 b1 b2 hk
    generalize pnI t n (nxS t n s) aS aL P = p at hp ⊢
    simp only [Option.bind_some]
    have hfu : ∀ k, k < U → C1.1 33 k = nI (gN M 58 (18 + 2 * k)) ∧ gN M 58 (18 + 2 * k) < 2 ^ 31 := fun k hk => by
      obtain ⟨⟨x1, x2⟩, -, x3⟩ := hd1.2.2.2.2.2.1 k (by omega)
      exact ⟨by rw [(x3 hk).1]; exact x1, by omega⟩
    have hfm : ∀ k, k < U → M.1 58 (18 + 2 * k) = nI (gN M 58 (18 + 2 * k)) ∧ gN M 58 (18 + 2 * k) < 2 ^ 31 := fun k hk => by
      obtain ⟨⟨x1, x2⟩, -, x3⟩ := hd1.2.2.2.2.2.1 k (by omega)
      exact ⟨x1, by omega⟩
    rw [if_pos (nI_pos' (by omega))]
    have hcU : f_m5_isUnsure_d (nI p) C1 = some (anB (fun k => decide (gN M 58 (18 + 2 * k) = p)) U 0, C1) := by
      unfold f_m5_isUnsure_d
      exact c_unL (f := fun k => gN M 58 (18 + 2 * k)) (by omega) (by omega) h25' hfu _ _ (fun _ => rfl) (fun _ => rfl) U 0 kFU (by omega) (by omega)
    rw [hcU, show (0 : Int32) = nI 0 from rfl, m_unL (f := fun k => gN M 58 (18 + 2 * k)) (by omega) (by omega) hm h585 hfm _ U 0 kFU (by omega) (by omega)]
    simp only [Option.bind_some]
    cases hB : anB (fun k => decide (gN M 58 (18 + 2 * k) = p)) U 0
    · simp only [Bool.false_eq_true, if_false]
      obtain ⟨C2, e2, r2, q2⟩ := r1.nx
      obtain ⟨M2, m2, n2, k2⟩ := m_pass hm
      rw [e2, m2]
      simp only [Option.bind_some]
      obtain ⟨s1, s2⟩ := c_sees (lo := 0) (hi := 20) (by omega) (by omega) r2
      obtain ⟨y1, y2⟩ := m_num (lo := 0) (hi := 20) (by omega) (by omega) n2
      by_cases hq : nq t n (nxS t n (nxS t n s)) 0 20 = 0
      · obtain ⟨M4, m4, n4, k4⟩ := y1 hq
        obtain ⟨z1, z2, z3⟩ := nq_0 hq
        have w5 := r2.2.2.2.2.2.1 z1
        rw [show f_m7_seesWhole (nI 0) 20 C2 = _ from s1 hq, show f_m11_number (nI 0) 20 M2 = _ from m4]
        simp only [Option.bind_some, if_true]
        rw [kg0 n4.ok]
        simp only [Bool.false_eq_true, if_false]
        have kgU : ∀ x : Option (Bool × kSt), kgi (nI U) 4 x = x := fun x => kgi_nI hU4 (by omega)
        have kg1' : ∀ x : Option kSt, kgi (nI (18 + 2 * U)) 95 x = x := fun x => kgi_nI (by omega) (by omega)
        have kg2' : ∀ x : Option kSt, kgi (nI (19 + 2 * U)) 95 x = x := fun x => kgi_nI (by omega) (by omega)
        have i1 : nI (18 + 2 * U) + 1 = nI (19 + 2 * U) := by rw [nI_1]; congr 1; omega
        have cl1 : (nI (18 + 2 * U)).toNatClampNeg = 18 + 2 * U := nI_clamp (by omega)
        have cl2 : (nI (19 + 2 * U)).toNatClampNeg = 19 + 2 * U := nI_clamp (by omega)
        have cl3 : (nI U).toNatClampNeg = U := nI_clamp (by omega)
        simp only [kgU, kg1', i1, kg2', cl1, cl2, cl3]
        have w6 : (kuI C2 33 U (nI p)).1 3 5 = nI (wvN t n (nxS t n (nxS t n s))) := by rw [kuI_ne _ _ _ (by decide)]; exact w5
        rw [w6]
        generalize wvN t n (nxS t n (nxS t n s)) = v at *
        have rr : cR t n (kuI (kuI (kuI C2 33 U (nI p)) 34 U (nI v)) 2 5 ((kuI (kuI C2 33 U (nI p)) 34 U (nI v)).1 2 5 + 1)) (nxS t n (nxS t n s)) := ((r2.u (by decide) (by decide) _ _).u (by decide) (by decide) _ _).u (by decide) (by decide) _ _
        obtain ⟨C4, e4, r4, q4⟩ := rr.nx
        rw [e4]
        simp only [Option.bind_some]
        have qq : eqC C C2 := q1.tr q2
        have kk : eqM M M4 := k2.tr k4
        have h1 := nxS_ge (t := t) r2.2.1
        refine ⟨C4, _, rfl, (((qq.fr.u (by omega) _ _).u (by omega) _ _).u (by omega) _ _).tr q4.fr, ((kk.fr.u (by omega) _ _).u (by omega) _ _).u (by omega) _ _, Or.inl ⟨rfl, _, Nat.le_trans g1 (Nat.le_trans g2 h1), r4, ((n4.u (by decide) (by decide) (by decide) _ _).u (by decide) (by decide) (by decide) _ _).u (by decide) (by decide) (by decide) _ _, P, U + 1, H, aS, aL, ?_⟩⟩
        have c58 : ∀ j, j ≠ 5 → j ≠ 18 + 2 * U → j ≠ 19 + 2 * U → (kuI (kuI (kuI M4 58 (18 + 2 * U) (nI p)) 58 (19 + 2 * U) (nI v)) 58 5 ((kuI (kuI M4 58 (18 + 2 * U) (nI p)) 58 (19 + 2 * U) (nI v)).1 58 5 + 1)).1 58 j = M.1 58 j := fun j j1 j2 j3 => by rw [uI_no _ _ (by omega), uI_no _ _ (by omega), uI_no _ _ (by omega), kk.1 58 (by decide) (by decide)]
        have c585 : (kuI (kuI (kuI M4 58 (18 + 2 * U) (nI p)) 58 (19 + 2 * U) (nI v)) 58 5 ((kuI (kuI M4 58 (18 + 2 * U) (nI p)) 58 (19 + 2 * U) (nI v)).1 58 5 + 1)).1 58 5 = M.1 58 5 + 1 := by rw [uI_at, uI_no _ _ (by omega), uI_no _ _ (by omega), kk.1 58 (by decide) (by decide)]
        have c58a : (kuI (kuI (kuI M4 58 (18 + 2 * U) (nI p)) 58 (19 + 2 * U) (nI v)) 58 5 ((kuI (kuI M4 58 (18 + 2 * U) (nI p)) 58 (19 + 2 * U) (nI v)).1 58 5 + 1)).1 58 (18 + 2 * U) = nI p := by rw [uI_no _ _ (by omega), uI_no _ _ (by omega), uI_at]
        have c58b : (kuI (kuI (kuI M4 58 (18 + 2 * U) (nI p)) 58 (19 + 2 * U) (nI v)) 58 5 ((kuI (kuI M4 58 (18 + 2 * U) (nI p)) 58 (19 + 2 * U) (nI v)).1 58 5 + 1)).1 58 (19 + 2 * U) = nI v := by rw [uI_no _ _ (by omega), uI_at]
        have c60 : ∀ j, (kuI (kuI (kuI M4 58 (18 + 2 * U) (nI p)) 58 (19 + 2 * U) (nI v)) 58 5 ((kuI (kuI M4 58 (18 + 2 * U) (nI p)) 58 (19 + 2 * U) (nI v)).1 58 5 + 1)).1 60 j = M.1 60 j := fun j => by rw [kuI_ne _ _ _ (by decide), kuI_ne _ _ _ (by decide), kuI_ne _ _ _ (by decide), kk.1 60 (by decide) (by decide)]
        have d2 : ∀ j, j ≠ 5 → C4.1 2 j = C.1 2 j := fun j hj => by rw [q4 2 (by decide), uI_no _ _ (by omega), uI_no _ _ (by omega), uI_no _ _ (by omega), qq 2 (by decide)]
        have d25 : C4.1 2 5 = C.1 2 5 + 1 := by rw [q4 2 (by decide), uI_at, uI_no _ _ (by omega), uI_no _ _ (by omega), qq 2 (by decide)]
        have d33 : ∀ j, j ≠ U → C4.1 33 j = C.1 33 j := fun j hj => by rw [q4 33 (by decide), uI_no _ _ (by omega), uI_no _ _ (by omega), uI_no _ _ (by omega), qq 33 (by decide)]
        have d33p : C4.1 33 U = nI p := by rw [q4 33 (by decide), uI_no _ _ (by omega), uI_no _ _ (by omega), uI_at]
        have d34 : ∀ j, j ≠ U → C4.1 34 j = C.1 34 j := fun j hj => by rw [q4 34 (by decide), uI_no _ _ (by omega), uI_no _ _ (by omega), uI_no _ _ (by omega), qq 34 (by decide)]
        have d34p : C4.1 34 U = nI v := by rw [q4 34 (by decide), uI_no _ _ (by omega), uI_at]
        have dd : ∀ a, a ≠ 2 → a ≠ 3 → a ≠ 33 → a ≠ 34 → C4.1 a = C.1 a := fun a h1 h2 h3 h4 => by rw [q4 a h2, kuI_ne _ _ _ h1, kuI_ne _ _ _ h4, kuI_ne _ _ _ h3, qq a h2]
        generalize kuI (kuI (kuI M4 58 (18 + 2 * U) (nI p)) 58 (19 + 2 * U) (nI v)) 58 5 ((kuI (kuI M4 58 (18 + 2 * U) (nI p)) 58 (19 + 2 * U) (nI v)).1 58 5 + 1) = E at *
        obtain ⟨z1', z2', z3', z4, z5, z6, z7, z8, z9⟩ := hd
        refine ⟨dA_u (i0 := 5) z1' (by omega) (by omega) (fun j _ hj => c58 j hj (by omega) (by omega)) d2 c585 d25 ⟨z1'.1.1, by rw [c58 2 (by omega) (by omega) (by omega)]; exact z1'.1.2⟩ ⟨by omega, by rw [c585, h585, nI_1]⟩ ⟨z1'.2.2.1.1, by rw [c58 6 (by omega) (by omega) (by omega)]; exact z1'.2.2.1.2⟩, dL_c z2' (fun j _ _ => c58 j (by omega) (by omega) (by omega)) (dd 28 (by decide) (by decide) (by decide) (by decide)), dE_c z3' (fun j _ _ => c58 j (by omega) (by omega) (by omega)) (dd 31 (by decide) (by decide) (by decide) (by decide)), dF_c z4 (gN_c (c58 0 (by omega) (by omega) (by omega))) (fun j _ => c60 j) (dd 29 (by decide) (by decide) (by decide) (by decide)) (dd 30 (by decide) (by decide) (by decide) (by decide)), dO_c z5 (fun j _ _ => c60 j) (dd 32 (by decide) (by decide) (by decide) (by decide)), fun k hk => ?_, dHd_c z7 (Nat.le_refl _) (fun j _ _ => c58 j (by omega) (by omega) (by omega)) (dd 35 (by decide) (by decide) (by decide) (by decide)) (dd 36 (by decide) (by decide) (by decide) (by decide)) (dd 37 (by decide) (by decide) (by decide) (by decide)), nmC_c z8 (dd 38 (by decide) (by decide) (by decide) (by decide)) (dd 39 (by decide) (by decide) (by decide) (by decide)), nmM_c hP (fun p hp => (z8 p hp).2.2.2.1) z9 (fun j _ _ => c58 j (by omega) (by omega) (by omega))⟩
        by_cases hkU : k = U
        · subst hkU
          have hg : gN E 58 (18 + 2 * k) = p := gN_of c58a (by omega)
          refine ⟨kB_of c58a (by omega) (by omega), kB_of c58b z3 (by omega), fun _ => ⟨by rw [d33p, c58a], by rw [d34p, c58b], by rw [hg]; exact hp, fun i hi => ?_⟩⟩
          rw [hg, gN_c (c58 _ (by omega) (by omega) (by omega))]
          exact of_decide_eq_false (anB_f _ k 0 hB i (by omega) (by omega))
        · obtain ⟨u1, u2, u3⟩ := z6 k hk
          refine ⟨(kB_c (c58 _ (by omega) (by omega) (by omega))).mpr u1, (kB_c (c58 _ (by omega) (by omega) (by omega))).mpr u2, fun hk1 => ?_⟩
          obtain ⟨u4, u5, u6, u7⟩ := u3 (by omega)
          refine ⟨by rw [d33 k hkU, c58 _ (by omega) (by omega) (by omega)]; exact u4, by rw [d34 k hkU, c58 _ (by omega) (by omega) (by omega)]; exact u5, by rw [gN_c (c58 _ (by omega) (by omega) (by omega))]; exact u6, fun i hi => ?_⟩
          rw [gN_c (c58 _ (by omega) (by omega) (by omega)), gN_c (c58 _ (by omega) (by omega) (by omega))]
          exact u7 i hi
      · rw [show f_m7_seesWhole (nI 0) 20 C2 = _ from s2 hq, show f_m11_number (nI 0) 20 M2 = _ from y2 hq]
        simp only [Option.bind_some, Bool.false_eq_true, if_false]
        rw [kg1 (flM_13 _ _ _)]
        simp only [if_true]
        exact sim_fail (q1.tr q2).fr k2.fr _ _
    · simp only [if_true]
      rw [show f_m7_found 3 C1 = _ from c_found r1 3, mf_pass (flM_13 _ _ _)]
      simp only [Option.bind_some]
      rw [mf_num (flM_13 _ _ _)]
      simp only [Option.bind_some]
      rw [kg1 (flM_13 _ _ _)]
      simp only [if_true]
      exact sim_fail q1.fr frR.rf 3 _
  · rw [a2 hk, b2 hk]
    simp only [Option.bind_some]
    rw [if_neg (show ¬ (0 : Int32) ≤ -1 by decide), show (0 : Int32) = nI 0 from rfl, m_unF (U := U) (by omega) (flM_13 _ _ _) (by rw [flM_58]; exact h585) _ U 0 kFU (by omega) (by omega), mf_pass (flM_13 _ _ _)]
    simp only [Option.bind_some]
    rw [mf_num (flM_13 _ _ _)]
    simp only [Option.bind_some]
    rw [kg1 (flM_13 _ _ _)]
    simp only [if_true]
    exact sim_fail q1.fr frR.rf _ _
end LI3
