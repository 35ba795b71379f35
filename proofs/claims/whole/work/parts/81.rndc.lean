-- rounds, the class
section RC
variable {S : kSt} {p : Nat}
/-- the cells of the class's rounds alone have changed -/
def frR8 (S S' : kSt) : Prop := (∀ a, a ≠ 6 → a ≠ 8 → a ≠ 44 → a ≠ 45 → S'.1 a = S.1 a)
theorem frR8.tr {S S1 S2 : kSt} (h1 : frR8 S S1) (h2 : frR8 S1 S2) : frR8 S S2 := fun a x y z w => (h2 a x y z w).trans (h1 a x y z w)
theorem frR8.kp {S S' : kSt} (h : frR8 S S') : keep S S' ∧ S'.1 0 18 = S.1 0 18 := by
  have e0 := h 0 (by decide) (by decide) (by decide) (by decide)
  have e3 := h 3 (by decide) (by decide) (by decide) (by decide)
  have e14 := h 14 (by decide) (by decide) (by decide) (by decide)
  refine ⟨⟨fun a ha => h a ?_ ?_ ?_ ?_, ?_, ?_, ?_⟩, by rw [e0]⟩
  · rintro rfl; exact absurd ha (by decide)
  · rintro rfl; exact absurd ha (by decide)
  · rintro rfl; exact absurd ha (by decide)
  · rintro rfl; exact absurd ha (by decide)
  · rw [e0]; exact ⟨rfl, rfl, rfl⟩
  · rw [e3]; exact ⟨rfl, rfl⟩
  · rw [e14]; exact ⟨rfl, rfl, rfl, rfl, rfl, rfl⟩
theorem c_stateOf {T : kSt} (hm : mOk S) (hp : p < 5) {k : Nat} (hk : k ≤ 2000) (h : Wk S T 6 p k) : f_m8_stateOf T = some (nI (cq S p k), T) := by
  obtain ⟨-, -, -, h3, h4, h5⟩ := h
  have ht := stT_b hm hp
  have he := (hm.2.2.2.2.2.1 p hp).2.2
  have hq := (sq_lt hm hp k).2
  have hse := hm.sea
  unfold f_m8_stateOf
  rw [h3, h4, h5, show (1 : Int32) = nI 1 from rfl, kmax_nI (by omega) (by omega), show max 1 (gN S 57 (13 + p)) = stT S p from rfl]
  simp only [knx_e]
  rw [kgz_nI (by omega) (by omega), pk_mul, krem_nI (by omega) (by omega) (by omega), nI_add, show sayS S p k * stT S p + (gN S 61 35 + k) % stT S p = cq S p k from rfl, show (899 : Int32) = nI 899 from rfl, kmin_nI (by omega) (by omega), show (0 : Int32) = nI 0 from rfl, kmax_nI (by omega) (by omega), Nat.max_eq_right (by omega), Nat.min_eq_right (by omega)]
theorem Wk.c {T T' : kSt} {k : Nat} (h : Wk S T 6 p k) (e : T'.1 6 = T.1 6) : Wk S T' 6 p k := by
  unfold Wk wk at *
  rw [e]
  exact h
/-- the loop over states -/
theorem c_flL (hm : mOk S) (hp : p < 5) {m F L A : Nat} (hR : RP S p m F L A) (K : Int32 → Int32 → kSt → Option kSt) : ∀ (d c fu : Nat) (T : kSt), c + d = m → d < fu → Wk S T 6 p c → (∀ i, i < c → T.1 44 (cq S p i) = nI i ∧ T.1 45 i = nI (sayS S p i)) → (∀ x, x < 900 → (∀ i, i < c → ¬ cq S p i = x) → T.1 44 x = -1) → ∃ T', f_m8_follow_L15 K fu (nI c) (nI (cq S p c)) T = K (nI m) (nI (cq S p m)) T' ∧ frR8 T T' ∧ (∀ j, T'.1 8 j = T.1 8 j) ∧ T'.1 44 (cq S p m) = nI F ∧ ∀ i, i < m → T'.1 45 i = nI (sayS S p i) := by
  obtain ⟨⟨hF, hm9, hFm, hdis⟩, -⟩ := hR
  intro d
  induction d with
  | zero =>
    intro c fu T hc hfu hW h1 h2
    obtain ⟨fu, rfl⟩ : ∃ q, fu = q + 1 := ⟨fu - 1, by omega⟩
    have e : c = m := by omega
    subst e
    have hcF : cq S p F = cq S p c := (cq_i hm hp).mpr hFm
    have h44 : T.1 44 (cq S p c) = nI F := by rw [← hcF]; exact (h1 F hF).1
    refine ⟨T, ?_, fun _ _ _ _ _ => rfl, fun _ => rfl, h44, fun i hi => (h1 i hi).2⟩
    rw [f_m8_follow_L15]
    by_cases q : (900 : Int32) ≤ nI c
    · rw [if_pos q]
    · have hq := (sq_lt hm hp c).2
      rw [if_neg q, kgi_nI hq (by omega), nI_clamp (by omega), h44, if_pos (nI_pos' (by omega))]
  | succ d ih =>
    intro c fu T hc hfu hW h1 h2
    obtain ⟨fu, rfl⟩ : ∃ q, fu = q + 1 := ⟨fu - 1, by omega⟩
    have hq := (sq_lt hm hp c).2
    have h44 : T.1 44 (cq S p c) = -1 := h2 _ hq (fun i hi e => hdis i c hi (by omega) ((cq_i hm hp).mp e))
    have kg : ∀ o : Option kSt, kgi (nI (cq S p c)) 900 o = o := fun o => kgi_nI hq (by omega)
    have kg2 : ∀ o : Option kSt, kgi (nI c) 900 o = o := fun o => kgi_nI (by omega) (by omega)
    have c1 : (nI (cq S p c)).toNatClampNeg = cq S p c := nI_clamp (by omega)
    have c2 : (nI c).toNatClampNeg = c := nI_clamp (by omega)
    rw [f_m8_follow_L15, if_neg (show ¬ (900 : Int32) ≤ nI c from nI_ge (b := 900) (by omega) (by omega))]
    simp only [knx_e, kg, kg2, c1, c2]
    rw [h44, if_neg (by decide), nI_1, kuI_ne _ _ _ (show (6 : Nat) ≠ 44 by decide), hW.2.2.2.2.1]
    have hW1 : Wk S (kuI (kuI T 44 (cq S p c) (nI c)) 45 c (nI (sayS S p c))) 6 p c := hW.c (by rw [kuI_ne _ _ _ (by decide), kuI_ne _ _ _ (by decide)])
    obtain ⟨T2, g1, g2, g3⟩ := c_step hm hp (by omega) hW1
    rw [g1]
    simp only [Option.bind_some]
    rw [c_stateOf hm hp (by omega) g2]
    simp only [Option.bind_some]
    have x44 : ∀ x, T2.1 44 x = if x = cq S p c then nI c else T.1 44 x := fun x => by
      rw [g3.1 44 (by decide), uI_no _ _ (by omega), uI_get]
      by_cases e : x = cq S p c
      · rw [if_pos ⟨rfl, e⟩, if_pos e]
      · rw [if_neg (fun h => e h.2), if_neg e]
    have x45 : ∀ x, T2.1 45 x = if x = c then nI (sayS S p c) else T.1 45 x := fun x => by
      rw [g3.1 45 (by decide), uI_get, uI_no _ _ (show ¬ ((45 : Nat) = 44 ∧ x = cq S p c) by omega)]
      by_cases e : x = c
      · rw [if_pos ⟨rfl, e⟩, if_pos e]
      · rw [if_neg (fun h => e h.2), if_neg e]
    obtain ⟨T', k1, k2, k3, k4, k5⟩ := ih (c + 1) fu T2 (by omega) (by omega) g2 (fun i hi => by
      by_cases e : i = c
      · subst e
        exact ⟨by rw [x44, if_pos rfl], by rw [x45, if_pos rfl]⟩
      · have hne : ¬ cq S p i = cq S p c := fun q => hdis i c (by omega) (by omega) ((cq_i hm hp).mp q)
        exact ⟨by rw [x44, if_neg hne]; exact (h1 i (by omega)).1, by rw [x45, if_neg e]; exact (h1 i (by omega)).2⟩) (fun x hx hn => by
      rw [x44, if_neg (fun e => hn c (by omega) e.symm)]
      exact h2 x hx (fun i hi => hn i (by omega)))
    refine ⟨T', k1, fun a x y z w => ?_, fun j => ?_, k4, k5⟩
    · rw [k2 a x y z w, g3.1 a x, kuI_ne _ _ _ w, kuI_ne _ _ _ z]
    · rw [k3 j, g3.1 8 (by decide), kuI_ne _ _ _ (by decide), kuI_ne _ _ _ (by decide)]
theorem c_caL (hm : mOk S) (hp : p < 5) {m F d : Nat} (hF : F < m) (hm9 : m ≤ 900) (hd : d < 900) {T : kSt} (h2 : T.1 8 2 = nI F) (h3 : T.1 8 3 = nI (m - F)) (h45 : ∀ i, i < m → T.1 45 i = nI (sayS S p i)) (K1 K2 : kSt → Option (Bool × kSt)) (hK1 : ∀ T, K1 T = some (false, T)) (hK2 : ∀ T, K2 T = some (true, T)) : ∀ (j i fu : Nat), i + j = m → j < fu → F ≤ i → (∀ k, F ≤ k → k < i → k + d < m → sayS S p k = sayS S p (k + d)) → ∃ b : Bool, f_m8_comesAgainBehind_L5 K1 K2 (nI d) fu (nI i) T = some (b, T) ∧ (b = true ↔ ∀ k, F ≤ k → k + d < m → sayS S p k = sayS S p (k + d)) := by
  intro j
  induction j with
  | zero =>
    intro i fu hi hfu hFi hk
    obtain ⟨fu, rfl⟩ : ∃ q, fu = q + 1 := ⟨fu - 1, by omega⟩
    refine ⟨true, ?_, ⟨fun _ k k1 k2 => hk k k1 (by omega) k2, fun _ => rfl⟩⟩
    rw [f_m8_comesAgainBehind_L5, h2, h3, nI_add, nI_add, if_pos (nI_le (by omega) (by omega)), hK2]
  | succ j ih =>
    intro i fu hi hfu hFi hk
    obtain ⟨fu, rfl⟩ : ∃ q, fu = q + 1 := ⟨fu - 1, by omega⟩
    rw [f_m8_comesAgainBehind_L5, h2, h3, nI_add, nI_add, kite (nI_leI (by omega) (by omega))]
    by_cases q : F + (m - F) ≤ i + d
    · rw [if_pos q, hK2]
      exact ⟨true, rfl, ⟨fun _ k k1 k2 => hk k k1 (by omega) k2, fun _ => rfl⟩⟩
    · have s1 := say99 hm hp i
      have s2 := say99 hm hp (i + d)
      rw [if_neg q, kgi_nI (by omega) (by omega)]
      simp only [knx_e]
      rw [kgi_nI (by omega) (by omega), nI_clamp (by omega), nI_clamp (by omega), h45 i (by omega), h45 (i + d) (by omega), kite (nI_eq (by omega) (by omega)), nI_1]
      by_cases e : sayS S p i = sayS S p (i + d)
      · rw [if_pos e]
        refine ih (i + 1) fu (by omega) (by omega) (by omega) (fun k k1 k2 k3 => ?_)
        by_cases e2 : k = i
        · rw [e2]; exact e
        · exact hk k k1 (by omega) k3
      · rw [if_neg e, hK1]
        exact ⟨false, rfl, ⟨fun h => absurd h (by decide), fun h => absurd (h i hFi (by omega)) e⟩⟩
theorem c_shL (hm : mOk S) (hp : p < 5) {m F L A : Nat} (hR : RP S p m F L A) (K : kSt → Option kSt) {T : kSt} (h2 : T.1 8 2 = nI F) (h3 : T.1 8 3 = nI (m - F)) (h45 : ∀ i, i < m → T.1 45 i = nI (sayS S p i)) : ∀ (j d fu : Nat), d + j = L → j + 1 < fu → 1 ≤ d → f_m8_shortenRound_L2 K fu (nI d) T = K (kuI T 8 3 (nI L)) := by
  have hFF := kFU_big
  obtain ⟨⟨hF, hm9, hFm, hdis⟩, ⟨hL1, hLR, hLd, hLf⟩, hmin, -⟩ := id hR
  have hca : ∀ d, d < 900 → ∃ b : Bool, f_m8_comesAgainBehind (nI d) T = some (b, T) ∧ (b = true ↔ ∀ k, F ≤ k → k + d < m → sayS S p k = sayS S p (k + d)) := by
    intro d hd
    unfold f_m8_comesAgainBehind
    rw [knx_e, h2]
    exact c_caL hm hp hF hm9 hd h2 h3 h45 _ _ (fun _ => rfl) (fun _ => rfl) (m - F) F kFU (by omega) (by omega) (Nat.le_refl F) (fun k k1 k2 => by omega)
  intro j
  induction j with
  | zero =>
    intro d fu hd hfu hd1
    obtain ⟨fu, rfl⟩ : ∃ q, fu = q + 1 + 1 := ⟨fu - 2, by omega⟩
    have e : d = L := by omega
    subst e
    rw [f_m8_shortenRound_L2, h3, kite (nI_leI (by omega) (by omega))]
    by_cases q : m - F ≤ d
    · rw [if_pos q, show d = m - F by omega, kuI_id h3]
    · obtain ⟨b, c1, c2⟩ := hca d (by omega)
      have hb : b = true := c2.mpr (fun k k1 _ => hLf k k1)
      rw [if_neg q, kgz_nI (by omega) (by omega)]
      simp only [knx_e]
      rw [krem_nI (by omega) (by omega) (by omega), hLd, if_pos (show nI 0 = 0 from rfl), c1, hb]
      simp only [Option.bind_some, if_true]
      rw [nI_1, f_m8_shortenRound_L2, uI_at, if_pos (nI_le (by omega) (by omega))]
  | succ j ih =>
    intro d fu hd hfu hd1
    obtain ⟨fu, rfl⟩ : ∃ q, fu = q + 1 := ⟨fu - 1, by omega⟩
    rw [f_m8_shortenRound_L2, h3, if_neg (nI_ge (by omega) (by omega)), kgz_nI (by omega) (by omega)]
    simp only [knx_e]
    have hmod : (m - F) % d < 2 ^ 31 := Nat.lt_of_le_of_lt (Nat.mod_le _ _) (by omega)
    rw [krem_nI (by omega) (by omega) (by omega), kite (show nI ((m - F) % d) = 0 ↔ (m - F) % d = 0 from nI_eq (b := 0) hmod (by omega)), nI_1, ih (d + 1) fu (by omega) (by omega) (by omega)]
    by_cases q : (m - F) % d = 0
    · obtain ⟨b, c1, c2⟩ := hca d (by omega)
      have hb : b = false := by
        cases hq : b
        · rfl
        · exact absurd ⟨q, RP_c hm hp hR hd1 q (c2.mp hq)⟩ (hmin d hd1 (by omega))
      rw [if_pos q, c1, hb]
      simp only [Option.bind_some, Bool.false_eq_true, if_false]
      exact ih (d + 1) fu (by omega) (by omega) (by omega)
    · rw [if_neg q]
theorem ph_q {g F m T : Nat} (hF : 1 ≤ F) (hm : F < m) (h : (g + F) % T = (g + m) % T) : (g + (F - 1)) % T = (g + (m - 1)) % T := by
  obtain ⟨c, hc⟩ := Nat.dvd_of_mod_eq_zero (Nat.sub_mod_eq_zero_of_mod_eq h.symm)
  rw [show g + (m - 1) = g + (F - 1) + T * c by omega, Nat.add_mul_mod_self_left]
/-- sayings come again from where their states do, no earlier: a round of states is a whole number of terms -/
theorem RP_AF (hm : mOk S) (hp : p < 5) {m F L A : Nat} (h : RP S p m F L A) : A = F := by
  obtain ⟨⟨hF, hm9, hFm, hdis⟩, ⟨hL1, hLR, hLd, hLf⟩, hmin, hAF, hA, hA0⟩ := h
  by_cases q : A = F
  · exact q
  · exfalso
    have h1 : 1 ≤ F := by omega
    obtain ⟨z, hz⟩ := Nat.dvd_of_mod_eq_zero hLd
    have e1 := per_q hA (show A ≤ F - 1 by omega) z
    rw [← hz, show F - 1 + (m - F) = m - 1 by omega] at e1
    exact hdis (F - 1) (m - 1) (by omega) (by omega) ((sq_i hm hp).mpr ⟨e1, ph_q h1 hF ((sq_i hm hp).mp hFm).2⟩)
theorem c_goRound {m F L A : Nat} (hc : cOk S) (hm : mOk S) (hp2 : p < gN S 57 2) (hR : RP S p m F L A) : ∃ T, f_m10_goRound (nI p) S = some T ∧ frR8 S T ∧ T.1 8 2 = nI A ∧ T.1 8 3 = nI L ∧ ∀ i, i < m → T.1 45 i = nI (sayS S p i) := by
  have hFF := kFU_big
  have hp := p5 hm hp2
  obtain ⟨⟨hF, hm9, hFm, hdis⟩, ⟨hL1, hLR, hLd, hLf⟩, hmin, hAF, hA, hA0⟩ := id hR
  obtain ⟨T0, a1, a2, a3⟩ := c_start hc hm (w := 6) (Or.inl rfl) hp2
  obtain ⟨T1, b1, b2, b3, -⟩ := c_fill (S := T0) (w := 44) (n := 900) (-1) (by omega)
  have hW1 : Wk S T1 6 p 0 := a2.c (b2.1 6 (by decide))
  have hq := (sq_lt hm hp m).2
  unfold f_m10_goRound
  rw [a1]
  simp only [Option.bind_some]
  unfold f_m8_follow
  rw [b1]
  simp only [Option.bind_some]
  rw [c_stateOf hm hp (by omega) hW1]
  simp only [Option.bind_some, knx_e]
  obtain ⟨T2, e1, e2, e3, e4, e5⟩ := c_flL hm hp hR (fun (x10 : Int32) (x11 : Int32) (S12 : kSt) => kgi x11 900 ((f_m8_shortenRound (kuI (kuI S12 8 2 (kmax 0 (S12.1 44 x11.toNatClampNeg))) 8 3 (kmax 1 (x10 - (kuI S12 8 2 (kmax 0 (S12.1 44 x11.toNatClampNeg))).1 8 2)))).bind fun q15 => some q15)) m 0 kFU T1 (by omega) (by omega) hW1 (fun i hi => by omega) (fun x hx _ => b3 x hx)
  rw [show (0 : Int32) = nI 0 from rfl] at e1 ⊢
  rw [e1, kgi_nI hq (by omega), nI_clamp (by omega), e4, kmax_nI (by omega) (by omega), Nat.max_eq_right (by omega), uI_at, pk_sub (by omega), show (1 : Int32) = nI 1 from rfl, kmax_nI (by omega) (by omega), Nat.max_eq_right (by omega)]
  unfold f_m8_shortenRound
  rw [show (1 : Int32) = nI 1 from rfl, c_shL hm hp hR _ (T := kuI (kuI T2 8 2 (nI F)) 8 3 (nI (m - F))) (by rw [uI_no _ _ (by omega), uI_at]) (uI_at _ _ _ _) (fun i hi => by rw [kuI_ne _ _ _ (by decide), kuI_ne _ _ _ (by decide)]; exact e5 i hi) (L - 1) 1 kFU (by omega) (by omega) (by omega), kuI_2w]
  simp only [Option.bind_some]
  refine ⟨_, rfl, fun a x y z w => ?_, ?_, uI_at _ _ _ _, fun i hi => ?_⟩
  · rw [kuI_ne _ _ _ y, kuI_ne _ _ _ y, e2 a x y z w, b2.1 a z, a3.1 a x]
  · rw [uI_no _ _ (by omega), uI_at, RP_AF hm hp hR]
  · rw [kuI_ne _ _ _ (by decide), kuI_ne _ _ _ (by decide)]
    exact e5 i hi
end RC
