-- pier
section PIE
variable {t : Nat → Nat} {n : Nat}
theorem m_z39 (K : kSt → Option (Int32 × kSt)) (c1 : Int32) : ∀ (d k fu : Nat) (M : kSt), k + d = 95 → d < fu → (∀ j, j < k → M.1 58 j = 0) → ∃ M', f_m11_pier_L39 K c1 fu (nI k) M = K M' ∧ (∀ j, j < 95 → M'.1 58 j = 0) ∧ ∀ a, a ≠ 58 → M'.1 a = M.1 a := by
  intro d
  induction d with
  | zero =>
    intro k fu M hk hfu hj
    obtain ⟨fu, rfl⟩ : ∃ m, fu = m + 1 := ⟨fu - 1, by omega⟩
    refine ⟨M, ?_, fun j q => hj j (by omega), fun _ _ => rfl⟩
    rw [f_m11_pier_L39, if_pos (show (95 : Int32) ≤ nI k from nI_le (a := 95) (by omega) (by omega))]
  | succ d ih =>
    intro k fu M hk hfu hj
    obtain ⟨fu, rfl⟩ : ∃ m, fu = m + 1 := ⟨fu - 1, by omega⟩
    rw [f_m11_pier_L39, if_neg (show ¬ (95 : Int32) ≤ nI k from nI_ge (b := 95) (by omega) (by omega)), kgi_nI (by omega) (by omega), nI_clamp (by omega)]
    simp only [knx_e]
    rw [nI_1]
    obtain ⟨M', g1, g2, g3⟩ := ih (k + 1) fu (kuI M 58 k 0) (by omega) (by omega) (fun j q => by
      rw [uI_get]
      by_cases e : j = k
      · rw [if_pos ⟨rfl, e⟩]
      · rw [if_neg (fun h => e h.2)]
        exact hj j (by omega))
    exact ⟨M', g1, g2, fun a ha => by rw [g3 a ha, kuI_ne _ _ _ ha]⟩
theorem m_z60 (K : kSt → Option (Int32 × kSt)) (c1 : Int32) : ∀ (d k fu : Nat) (M : kSt), k + d = 36 → d < fu → (∀ j, j < k → M.1 60 j = 0) → ∃ M', f_m11_pier_L60 K c1 fu (nI k) M = K M' ∧ (∀ j, j < 36 → M'.1 60 j = 0) ∧ ∀ a, a ≠ 60 → M'.1 a = M.1 a := by
  intro d
  induction d with
  | zero =>
    intro k fu M hk hfu hj
    obtain ⟨fu, rfl⟩ : ∃ m, fu = m + 1 := ⟨fu - 1, by omega⟩
    refine ⟨M, ?_, fun j q => hj j (by omega), fun _ _ => rfl⟩
    rw [f_m11_pier_L60, if_pos (show (36 : Int32) ≤ nI k from nI_le (a := 36) (by omega) (by omega))]
  | succ d ih =>
    intro k fu M hk hfu hj
    obtain ⟨fu, rfl⟩ : ∃ m, fu = m + 1 := ⟨fu - 1, by omega⟩
    rw [f_m11_pier_L60, if_neg (show ¬ (36 : Int32) ≤ nI k from nI_ge (b := 36) (by omega) (by omega)), kgi_nI (by omega) (by omega), nI_clamp (by omega)]
    simp only [knx_e]
    rw [nI_1]
    obtain ⟨M', g1, g2, g3⟩ := ih (k + 1) fu (kuI M 60 k 0) (by omega) (by omega) (fun j q => by
      rw [uI_get]
      by_cases e : j = k
      · rw [if_pos ⟨rfl, e⟩]
      · rw [if_neg (fun h => e h.2)]
        exact hj j (by omega))
    exact ⟨M', g1, g2, fun a ha => by rw [g3 a ha, kuI_ne _ _ _ ha]⟩
theorem mc_of {C M S : kSt} {P U H : Nat} {aS aL : Nat → Nat} (hd : DR t n P U H aS aL C M) (hP1 : 1 ≤ P) (h57 : ∀ j, j < 95 → S.1 57 j = M.1 58 j) (h59 : ∀ j, j < 36 → S.1 59 j = M.1 60 j ∧ S.1 61 j = M.1 60 j) (h1 : S.1 1 = C.1 2) (hx : ∀ a, 18 ≤ a → a < 28 → S.1 a = C.1 (a + 10)) (h40 : ∀ j, j < 5 → S.1 40 j = C.1 29 j ∧ S.1 41 j = C.1 30 j) (h42 : ∀ j, j < 25 → S.1 42 j = C.1 32 j) (h4 : S.1 4 0 = 0) : mOk S ∧ cOk S := by
  obtain ⟨⟨⟨a1, a2⟩, ⟨a3, a4⟩, ⟨a5, a6⟩, a7, ⟨a8, a9⟩, a10, a11⟩, z2, z3, z4, ⟨z5, z5a, z5b⟩, z6, z7, -, -⟩ := hd
  have v : ∀ {j b : Nat}, j < 95 → kB M 58 j b → kB S 57 j b := fun hj h => kB_v (h57 _ hj) h
  have g : ∀ {j : Nat}, j < 95 → gN S 57 j = gN M 58 j := fun hj => by unfold gN; rw [h57 _ hj]
  have g2 : gN S 57 2 = P := by rw [g (by omega), gN_of a2 (by omega)]
  have g5 : gN S 57 5 = U := by rw [g (by omega), gN_of a4 (by omega)]
  have g6 : gN S 57 6 = H := by rw [g (by omega), gN_of a6 (by omega)]
  have row : ∀ c, (∀ j, j < 36 → S.1 c j = M.1 60 j) → rowOk S c 0 := by
    intro c hc
    have v' : ∀ {j b : Nat}, j < 36 → kB M 60 j b → kB S c j b := fun hj h => kB_v (hc _ hj) h
    refine ⟨fun p hp => ⟨?_, ?_⟩, fun j hj => ?_, fun p hp => ?_, ?_⟩
    · rw [Nat.zero_add, g (by omega)]
      exact v' (by omega) (z4 p hp).2.2.1
    · rw [Nat.zero_add]
      exact v' (by omega) (z4 p hp).2.2.2
    · rw [Nat.zero_add]
      exact v' (by omega) (z5 j hj).2
    · rw [Nat.zero_add, hc _ (by omega)]
      exact z5a p hp
    · rw [Nat.zero_add]
      exact kB_0 (by omega) (by rw [hc _ (by omega)]; exact z5b)
  refine ⟨⟨⟨by rw [g (by omega)]; exact a8, v (by omega) a9⟩, v (by omega) a10, ⟨by rw [g2]; exact hP1, kB_of (n := P) (by rw [h57 2 (by omega)]; exact a2) a1 (by omega)⟩, kB_of (n := U) (by rw [h57 5 (by omega)]; exact a4) a3 (by omega), kB_of (n := H) (by rw [h57 6 (by omega)]; exact a6) a5 (by omega), fun p hp => ⟨v (by omega) (z2 p hp).1, v (by omega) (z3 p hp).1⟩, fun k hk => ?_, fun k hk => ?_, row 59 (fun j hj => (h59 j hj).1), row 61 (fun j hj => (h59 j hj).2)⟩, fun i hi => by rw [h1, h57 i (by omega)]; exact a7 i hi, fun p hp => ?_, fun p hp => ?_, fun j hj => ?_, fun k hk => ?_, fun k hk => ?_, ?_⟩
  · obtain ⟨u1, u2, u3⟩ := z6 k hk
    refine ⟨v (by omega) u1, v (by omega) u2, fun q => ?_⟩
    rw [g5] at q
    obtain ⟨-, -, u4, u5⟩ := u3 q
    refine ⟨by rw [g (by omega), g2]; exact u4, fun i hi => ?_⟩
    rw [g (by omega), g (by omega)]
    exact u5 i hi
  · obtain ⟨u1, u2, u2', u3⟩ := z7 k hk
    refine ⟨v (by omega) u1, v (by omega) u2, v (by omega) u2', fun q => ?_⟩
    rw [g6] at q
    rw [g (by omega), g2]
    exact (u3 q).2.2.2
  · rw [g2] at hp
    rw [hx 18 (by omega) (by omega), h57 _ (by omega)]
    exact (z2 p (by omega)).2 hp
  · obtain ⟨y1, y2, -, -⟩ := z4 p hp
    refine ⟨by rw [hx 21 (by omega) (by omega), h57 _ (by omega)]; exact (z3 p hp).2, by rw [hx 19 (by omega) (by omega), (h59 _ (by omega)).1]; exact y1, by rw [hx 20 (by omega) (by omega), (h59 _ (by omega)).1]; exact y2, by rw [(h40 p hp).1, (h59 _ (by omega)).2]; exact y1, by rw [(h40 p hp).2, (h59 _ (by omega)).2]; exact y2⟩
  · exact ⟨by rw [hx 22 (by omega) (by omega), (h59 _ (by omega)).1]; exact (z5 j hj).1, by rw [h42 j hj, (h59 _ (by omega)).2]; exact (z5 j hj).1⟩
  · rw [g5] at hk
    obtain ⟨-, -, u3⟩ := z6 k (by omega)
    obtain ⟨u4, u5, -, -⟩ := u3 hk
    exact ⟨by rw [hx 23 (by omega) (by omega), h57 _ (by omega)]; exact u4, by rw [hx 24 (by omega) (by omega), h57 _ (by omega)]; exact u5⟩
  · rw [g6] at hk
    obtain ⟨-, -, -, u3⟩ := z7 k (by omega)
    obtain ⟨u4, u5, u6, -⟩ := u3 hk
    exact ⟨by rw [hx 25 (by omega) (by omega), h57 _ (by omega)]; exact u4, by rw [hx 26 (by omega) (by omega), h57 _ (by omega)]; exact u5, by rw [hx 27 (by omega) (by omega), h57 _ (by omega)]; exact u6⟩
  · rw [h4, (h59 35 (by omega)).2, z5b]
theorem inv_new {S S' : kSt} (hI : Inv S) (h15 : S'.1 15 = S.1 15) (h55 : S'.1 55 = S.1 55) (a1 : S'.1 0 1 = 0) (a2 : S'.1 14 2 = 0) (a3 : S'.1 14 14 = 1) (a4 : S'.1 0 5 = 1) (a5 : S'.1 0 18 = 0) (a6 : S'.1 14 11 = 0) (a7 : S'.1 3 9 = 0) (a8 : S'.1 14 9 = 0) (a9 : S'.1 14 22 = 0) (a10 : S'.1 5 2 = 0) (a11 : S'.1 5 1 = S.1 5 1) (a12 : S'.1 14 23 = 0) (a13 : S'.1 0 9 = 0) (hm : mOk S') (hc : cOk S') : Inv S' := by
  have g22 : gN S' 14 22 = 0 := gN_of (n := 0) a9 (by omega)
  have g23 : gN S' 14 23 = 0 := gN_of (n := 0) a12 (by omega)
  refine ⟨⟨⟨kB_0 (by omega) a2, by rw [a1, a2]⟩, fun j hj => ?_⟩, ⟨true, a3, a4, fun _ => hm, fun q => absurd q (by decide)⟩, hc, ⟨by rw [a5, a6], by rw [a7, a8], fun q => by rw [a6] at q; exact absurd q (by decide)⟩, ⟨kB_0 (by omega) a9, by rw [a10, a9], (kB_c a11).mpr hI.hi.2.2.1, fun i hi => by omega⟩, kB_0 (by omega) a12, by rw [a13, a12], fun i hi => by omega⟩
  have := hI.1.2 j hj
  exact ⟨(kB_c (by rw [h55])).mpr this.1, by rw [h15, h55]; exact this.2⟩
theorem inv_bad {S S' : kSt} (hI : Inv S) (h : ∀ a, a ≠ 0 → a ≠ 2 → a ≠ 3 → a ≠ 14 → ¬ (28 ≤ a ∧ a ≤ 39) → a ≠ 56 → a ≠ 58 → a ≠ 60 → S'.1 a = S.1 a) (h0 : ∀ j, j ≠ 1 → j ≠ 18 → S'.1 0 j = S.1 0 j) (k14 : S'.1 14 14 = S.1 14 14) (k22 : S'.1 14 22 = S.1 14 22) (k23 : S'.1 14 23 = S.1 14 23) (a1 : S'.1 0 1 = 0) (a2 : S'.1 14 2 = 0) (a3 : S'.1 0 18 = S'.1 14 11) (a4 : S'.1 3 9 = S'.1 14 9) (a5 : S'.1 3 10 = S'.1 14 10) : Inv S' := by
  obtain ⟨i3, ⟨b, i4, i5, i6, i7⟩, i8, -, ⟨i12, i13, i14, i15⟩, i16, i17, i18⟩ := hI
  have h57 := h 57 (by decide) (by decide) (by decide) (by decide) (by decide) (by decide) (by decide) (by decide)
  have h59 := h 59 (by decide) (by decide) (by decide) (by decide) (by decide) (by decide) (by decide) (by decide)
  have h61 := h 61 (by decide) (by decide) (by decide) (by decide) (by decide) (by decide) (by decide) (by decide)
  have h62 := h 62 (by decide) (by decide) (by decide) (by decide) (by decide) (by decide) (by decide) (by decide)
  have h63 := h 63 (by decide) (by decide) (by decide) (by decide) (by decide) (by decide) (by decide) (by decide)
  have h5 := h 5 (by decide) (by decide) (by decide) (by decide) (by decide) (by decide) (by decide) (by decide)
  have h15 := h 15 (by decide) (by decide) (by decide) (by decide) (by decide) (by decide) (by decide) (by decide)
  have h55 := h 55 (by decide) (by decide) (by decide) (by decide) (by decide) (by decide) (by decide) (by decide)
  refine ⟨⟨⟨kB_0 (by omega) a2, by rw [a1, a2]⟩, fun j hj => ?_⟩, ⟨b, by rw [k14]; exact i4, by rw [h0 5 (by decide) (by decide)]; exact i5, fun q => mOk_e h57 h59 h61 (i6 q), fun q => ?_⟩, ?_, ⟨a3, a4, fun _ => a5⟩, ⟨(kB_c k22).mpr i12, by rw [h5, k22]; exact i13, (kB_c (by rw [h5])).mpr i14, fun i hi => ?_⟩, (kB_c k23).mpr i16, by rw [h0 9 (by decide) (by decide), k23]; exact i17, fun i hi => ?_⟩
  · have := i3.2 j hj
    exact ⟨(kB_c (by rw [h55])).mpr this.1, by rw [h15, h55]; exact this.2⟩
  · obtain ⟨j1, j2, j3, j4⟩ := i7 q
    exact ⟨fun i hi => by rw [h57]; exact j1 i hi, by rw [h61]; exact j2, by rw [k22]; exact j3, by rw [k23]; exact j4⟩
  · refine cOk_e (fun a ha => h a ?_ ?_ ?_ ?_ ?_ ?_ ?_ ?_) i8
    all_goals (intro q; unfold cel at ha; simp only [Bool.or_eq_true, Bool.and_eq_true, decide_eq_true_eq, beq_iff_eq] at ha; omega)
  · rw [gN_c k22] at hi ⊢
    rw [gN_c (show S'.1 5 1 = S.1 5 1 by rw [h5])]
    have hr := i15 i hi
    have hc := h (73 + (gN S 5 1 + 15 - i) % 16) (by omega) (by omega) (by omega) (by omega) (by omega) (by omega) (by omega) (by omega)
    exact ⟨rowEq_c (fun k _ => by rw [h62]) (fun j => by rw [hc]) hr.1, rowOk_c (fun k _ => by rw [h62]) (by rw [h57]) hr.2⟩
  · rw [gN_c k23] at hi
    have hr := i18 i hi
    have hc := h (70 + i) (by omega) (by omega) (by omega) (by omega) (by omega) (by omega) (by omega) (by omega)
    exact ⟨rowEq_c (fun k _ => by rw [h63]) (fun j => by rw [hc]) hr.1, rowOk_c (fun k _ => by rw [h63]) (by rw [h57]) hr.2⟩
/-- what the reference reads on, from any state -/
theorem m_start {S1 : kSt} (h55 : ∀ j, j < 900 → t j ≤ 255 ∧ S1.1 55 j = nI (t j)) (hn : n ≤ 900) (hin : nI n ≤ S1.1 14 2) : ∃ M0, f_m11_pier (nI n) S1 = ((f_m11_next M0).bind fun q17 => (f_m11_readLine q17).bind fun q18 => f_m11_pier_L97 rT kFU q18) ∧ mT t n M0 ∧ M0.1 14 5 = nI 0 ∧ M0.1 14 9 = 0 ∧ M0.1 14 13 = 0 ∧ (∀ j, j < 95 → M0.1 58 j = 0) ∧ (∀ j, j < 36 → M0.1 60 j = 0) ∧ (∀ a, a ≠ 14 → a ≠ 58 → a ≠ 60 → M0.1 a = S1.1 a) ∧ M0.1 14 2 = 0 ∧ M0.1 14 11 = 0 ∧ ∀ j, j ≠ 0 → j ≠ 2 → j ≠ 3 → j ≠ 5 → j ≠ 9 → j ≠ 11 → j ≠ 13 → M0.1 14 j = S1.1 14 j := by
  have hF := kFU_big
  have e2 : (kG0 S1).1 14 2 = S1.1 14 2 := by unfold kG0; rw [uI_no _ _ (by omega), uI_no _ _ (by omega)]
  rw [pier_e, e2, decide_eq_true ⟨nI_pos' (by omega), hin⟩, if_pos rfl, show (0 : Int32) = nI 0 from rfl]
  obtain ⟨M1, g1, g2, g3⟩ := m_z39 (fun S10 => f_m11_pier_L60 (fun S14 => (f_m11_next (kuI (kuI S14 14 3 (nI n)) 14 5 (nI 0))).bind fun q17 => (f_m11_readLine q17).bind fun q18 => f_m11_pier_L97 rT kFU q18) (nI n) kFU (nI 0) S10) (nI n) 95 0 kFU (kuI (kuI (kuI (kG0 S1) 14 2 (nI 0)) 14 9 (nI 0)) 14 13 (kb false)) (by omega) (by omega) (fun j hj => by omega)
  rw [g1]
  obtain ⟨M2, k1, k2, k3⟩ := m_z60 (fun S14 => (f_m11_next (kuI (kuI S14 14 3 (nI n)) 14 5 (nI 0))).bind fun q17 => (f_m11_readLine q17).bind fun q18 => f_m11_pier_L97 rT kFU q18) (nI n) 36 0 kFU M1 (by omega) (by omega) (fun j hj => by omega)
  rw [k1]
  have h14 : ∀ j, M2.1 14 j = (kuI (kuI (kuI (kG0 S1) 14 2 (nI 0)) 14 9 (nI 0)) 14 13 (kb false)).1 14 j := fun j => by rw [k3 14 (by decide), g3 14 (by decide)]
  have hx : ∀ a, a ≠ 14 → a ≠ 58 → a ≠ 60 → M2.1 a = S1.1 a := fun a x1 x2 x3 => by
    rw [k3 a x3, g3 a x2, kuI_ne _ _ _ x1, kuI_ne _ _ _ x1, kuI_ne _ _ _ x1]
    unfold kG0
    rw [kuI_ne _ _ _ x1, kuI_ne _ _ _ x1]
  refine ⟨kuI (kuI M2 14 3 (nI n)) 14 5 (nI 0), rfl, ⟨fun j hj => ?_, hn, ?_⟩, uI_at _ _ _ _, ?_, ?_, fun j hj => ?_, fun j hj => ?_, fun a x1 x2 x3 => ?_, ?_, ?_, fun j j1 j2 j3 j4 j5 j6 j7 => ?_⟩
  · rw [kuI_ne _ _ _ (by decide), kuI_ne _ _ _ (by decide), hx 55 (by decide) (by decide) (by decide)]
    exact h55 j hj
  · rw [uI_no _ _ (by omega), uI_at]
  · rw [uI_no _ _ (by omega), uI_no _ _ (by omega), h14, uI_no _ _ (by omega), uI_at]
  · rw [uI_no _ _ (by omega), uI_no _ _ (by omega), h14, uI_at]
    rfl
  · rw [kuI_ne _ _ _ (by decide), kuI_ne _ _ _ (by decide), k3 58 (by decide)]
    exact g2 j hj
  · rw [kuI_ne _ _ _ (by decide), kuI_ne _ _ _ (by decide)]
    exact k2 j hj
  · rw [kuI_ne _ _ _ x1, kuI_ne _ _ _ x1]
    exact hx a x1 x2 x3
  · rw [uI_no _ _ (by omega), uI_no _ _ (by omega), h14, uI_no _ _ (by omega), uI_no _ _ (by omega), uI_at]
  · rw [uI_no _ _ (by omega), uI_no _ _ (by omega), h14, uI_no _ _ (by omega), uI_no _ _ (by omega), uI_no _ _ (by omega)]
    exact kG0_11 S1
  · rw [uI_no _ _ (by omega), uI_no _ _ (by omega), h14, uI_no _ _ (by omega), uI_no _ _ (by omega), uI_no _ _ (by omega)]
    unfold kG0
    rw [uI_no _ _ (by omega), uI_no _ _ (by omega)]
end PIE
