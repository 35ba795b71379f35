-- undo, back, image
theorem load_now {S T S2 : kSt} {w m o : Nat} (hr : rowEq S w m o) (h0 : T.1 4 0 = S.1 w 0) (h1 : ∀ j, j < 5 → T.1 40 j = S.1 w (1 + j) ∧ T.1 41 j = S.1 w (6 + j)) (h2 : ∀ j, j < 25 → T.1 42 j = S.1 w (11 + j)) (e : S2.1 4 = T.1 4 ∧ S2.1 40 = T.1 40 ∧ S2.1 41 = T.1 41 ∧ S2.1 42 = T.1 42) (h61 : ∀ k, k < 36 → S2.1 61 k = S.1 m (o + k)) : nowE S2 := by
  obtain ⟨r1, r2⟩ := hr
  obtain ⟨e4, e40, e41, e42⟩ := e
  refine ⟨fun p hp => ⟨?_, ?_⟩, fun j hj => ?_, ?_⟩
  · rw [e40, (h1 p hp).1, h61 p (by omega), Nat.add_comm, r1 p (by omega)]
  · rw [e41, (h1 p hp).2, h61 (5 + p) (by omega), show 6 + p = (5 + p) + 1 by omega, r1 (5 + p) (by omega)]
  · rw [e42, h2 j hj, h61 (10 + j) (by omega), show 11 + j = (10 + j) + 1 by omega, r1 (10 + j) (by omega)]
  · rw [e4, h0, h61 35 (by omega), r2]
theorem hB_u {S : kSt} (hI : Inv S) (h : ¬ S.1 14 22 = 0) : hB S = true := by
  obtain ⟨-, ⟨b, i4, i5, i6, i7⟩, -⟩ := hI
  unfold hB
  rw [i4]
  cases b
  · exact absurd (i7 rfl).2.2.1 h
  · rfl
theorem hB_i {S : kSt} (hI : Inv S) (h : ¬ S.1 14 23 = 0) : hB S = true := by
  obtain ⟨-, ⟨b, i4, i5, i6, i7⟩, -⟩ := hI
  unfold hB
  rw [i4]
  cases b
  · exact absurd (i7 rfl).2.2.2 h
  · rfl
theorem kpA_d : ∀ a, kpA a = true → a < 73 ∧ a ≠ 0 ∧ a ≠ 3 ∧ a ≠ 5 ∧ a ≠ 4 ∧ ¬ (40 ≤ a ∧ a ≤ 42) ∧ a ≠ 14 ∧ a ≠ 61 ∧ a ≠ 62 := by
  intro a ha
  unfold kpA at ha
  simp only [Bool.or_eq_true, Bool.and_eq_true, decide_eq_true_eq, beq_iff_eq] at ha
  omega
theorem md16b {f i : Nat} (hf : f ≤ 15) (h2 : i < 15) : ((f + 15) % 16 + 15 - i) % 16 = (f + 15 - (i + 1)) % 16 := by omega
theorem ag_undo {S : kSt} (hI : Inv S) : Agree f_m10_undo f_m11_undo S := by
  obtain ⟨⟨u1, u16⟩, u2, ⟨f1, f15⟩, hr⟩ := hI.hi
  unfold Agree f_m10_undo
  rw [u2, u1]
  by_cases h0 : gN S 14 22 = 0
  · rw [h0, if_pos (show nI 0 = 0 from rfl)]
    refine ⟨_, _, kuI (kG0 (kuI S 0 18 6)) 14 11 6, rfl, ?_, ?_⟩
    · unfold f_m11_undo
      rw [m_good]
      simp only [Option.bind_some]
      rw [if_pos]
      · rfl
      · unfold kG0
        rw [uI_get, if_neg (by omega), uI_get, if_neg (by omega), uI_get, if_neg (by omega), u1, h0]
        rfl
    · exact inv_no hI (k018_keep.tr (kG0_keep.tr k11_keep)) (x := 6) (by simp [uI_get, kG0]) (by simp [uI_get]) (by decide)
  · have hb : hB S = true := hB_u hI (by rw [u1]; exact nI_ne0 (by omega) (by omega))
    rw [if_neg (nI_ne0 (by omega) (by omega))]
    unfold f_m3_takeBack
    rw [u2, u1, if_neg (nI_nle (by omega) (by omega))]
    simp only [knx_e]
    have k1 : krem ((S.1 5 1 + 16) - 1) 16 = nI ((gN S 5 1 + 15) % 16) := by
      rw [f1, show nI (gN S 5 1) + 16 = nI (gN S 5 1 + 16) from nI_add _ 16, show nI (gN S 5 1 + 16) - 1 = nI (gN S 5 1 + 15) from nI_pred _]
      exact krem_nI (b := 16) (by omega) (by omega) (by omega)
    have k2 : (kuI S 5 1 (nI ((gN S 5 1 + 15) % 16))).1 5 2 - 1 = nI (gN S 14 22 - 1) := by
      rw [uI_get, if_neg (by omega), u2, u1]
      exact pk_sub (b := 1) (by omega)
    rw [k1, k2]
    have k3 : (kuI (kuI S 5 1 (nI ((gN S 5 1 + 15) % 16))) 5 2 (nI (gN S 14 22 - 1))).1 5 1 = nI ((gN S 5 1 + 15) % 16) := by
      rw [uI_get, if_neg (by omega), uI_get, if_pos ⟨rfl, rfl⟩]
    rw [k3, kgi_nI (by omega) (by omega), nI_clamp (by omega)]
    obtain ⟨T, e1, e2, e3, e4, e5⟩ := c_load (S := kuI (kuI S 5 1 (nI ((gN S 5 1 + 15) % 16))) 5 2 (nI (gN S 14 22 - 1))) (w := 73 + (gN S 5 1 + 15) % 16) (by omega)
    have n5 : ∀ a, a ≠ 5 → (kuI (kuI S 5 1 (nI ((gN S 5 1 + 15) % 16))) 5 2 (nI (gN S 14 22 - 1))).1 a = S.1 a := fun a ha => by rw [kuI_ne _ _ _ ha, kuI_ne _ _ _ ha]
    rw [n5 _ (by omega)] at e3 e4 e5
    rw [e1]
    simp only [Option.bind_some, knx_e]
    have h14 : (kG0 (kuI T 0 18 0)).1 14 22 = nI (gN S 14 22) := by
      unfold kG0
      rw [uI_get, if_neg (by omega), uI_get, if_neg (by omega), uI_get, if_neg (by omega), e2 14 (by decide) (by decide) (by decide) (by decide), n5 14 (by decide), u1]
    obtain ⟨T', g1, g2, g3⟩ := m_copy (S := kuI (kG0 (kuI T 0 18 0)) 14 22 (nI (gN S 14 22 - 1))) (w0 := 62) (n0 := 576) (w2 := 61) (n2 := 36) (a := 36 * (gN S 14 22 - 1)) (b := 0) (m := 36) (by decide) (by omega) (by omega) (by omega) (by omega) (by omega)
    have nG : ∀ a, a ≠ 14 → a ≠ 0 → a ≠ 61 → T'.1 a = T.1 a := fun a h1 h2 h3 => by
      rw [g2.1 a h3, kuI_ne _ _ _ h1]
      unfold kG0
      rw [kuI_ne _ _ _ h1, kuI_ne _ _ _ h1, kuI_ne _ _ _ h2]
    have nT : ∀ a, a ≠ 4 → ¬ (40 ≤ a ∧ a ≤ 42) → a ≠ 5 → T.1 a = S.1 a := fun a h1 h2 h3 => by rw [e2 a h1 (by omega) (by omega) (by omega), n5 a h3]
    have n14 : ∀ j, j ≠ 0 → j ≠ 11 → j ≠ 22 → T'.1 14 j = S.1 14 j := fun j h1 h2 h3 => by
      rw [g2.1 14 (by decide), uI_get, if_neg (fun q => h3 q.2)]
      unfold kG0
      rw [uI_get, if_neg (fun q => h2 q.2), uI_get, if_neg (fun q => h1 q.2), kuI_ne _ _ _ (by decide), nT 14 (by decide) (by decide) (by decide)]
    have x22 : T'.1 14 22 = nI (gN S 14 22 - 1) := by rw [g2.1 14 (by decide), uI_get, if_pos ⟨rfl, rfl⟩]
    have x11 : T'.1 14 11 = 0 := by rw [g2.1 14 (by decide), uI_get, if_neg (by omega), kG0_11]
    have x0 : ∀ j, j ≠ 18 → T'.1 0 j = S.1 0 j := fun j hj => by
      rw [g2.1 0 (by decide), kuI_ne _ _ _ (by decide)]
      unfold kG0
      rw [kuI_ne _ _ _ (by decide), kuI_ne _ _ _ (by decide), uI_get, if_neg (fun q => hj q.2), nT 0 (by decide) (by decide) (by decide)]
    have x18 : T'.1 0 18 = 0 := by
      rw [g2.1 0 (by decide), kuI_ne _ _ _ (by decide), kG0_18, uI_get, if_pos ⟨rfl, rfl⟩]
    have x51 : T'.1 5 1 = nI ((gN S 5 1 + 15) % 16) := by rw [nG 5 (by decide) (by decide) (by decide), e2 5 (by decide) (by decide) (by decide) (by decide)]; exact k3
    have x52 : T'.1 5 2 = nI (gN S 14 22 - 1) := by rw [nG 5 (by decide) (by decide) (by decide), e2 5 (by decide) (by decide) (by decide) (by decide), uI_get, if_pos ⟨rfl, rfl⟩]
    have x61 : ∀ k, k < 36 → T'.1 61 k = S.1 62 (36 * (gN S 14 22 - 1) + k) := fun k hk => by
      rw [g3 k, if_pos (by omega), kuI_ne _ _ _ (by decide)]
      unfold kG0
      rw [kuI_ne _ _ _ (by decide), kuI_ne _ _ _ (by decide), kuI_ne _ _ _ (by decide), nT 62 (by decide) (by decide) (by decide)]
      rfl
    have xr : rest S T' := by
      refine ⟨fun a ha => ?_, ⟨x0 1 (by decide), x0 5 (by decide), x0 9 (by decide)⟩, ?_, n14 2 (by decide) (by decide) (by decide), n14 9 (by decide) (by decide) (by decide), n14 10 (by decide) (by decide) (by decide), n14 14 (by decide) (by decide) (by decide), n14 23 (by decide) (by decide) (by decide)⟩
      · obtain ⟨d1, d2, d3, d4, d5, d6, d7, d8, d9⟩ := kpA_d a ha
        rw [nG a d7 d2 d8, nT a d5 d6 d4]
      · rw [nG 3 (by decide) (by decide) (by decide), nT 3 (by decide) (by decide) (by decide)]
        exact ⟨rfl, rfl⟩
    have hr0 := hr 0 (by omega)
    rw [show (gN S 5 1 + 15 - 0) % 16 = (gN S 5 1 + 15) % 16 by omega, show gN S 14 22 - 1 - 0 = gN S 14 22 - 1 by omega] at hr0
    refine ⟨true, kuI T 0 18 0, T', rfl, ?_, act_inv hI hb xr.r0 (xr.im hI.im) ?_ ?_ ?_ (by rw [x18, x11]) (by rw [x11]; decide)⟩
    · unfold f_m11_undo
      rw [m_good]
      simp only [Option.bind_some]
      rw [h14, if_neg (nI_ne0 (by omega) (by omega)), knx_e, show nI (gN S 14 22) - 1 = nI (gN S 14 22 - 1) from pk_sub (b := 1) (by omega)]
      have e9 : (36 : Int32) * (kuI (kG0 (kuI T 0 18 0)) 14 22 (nI (gN S 14 22 - 1))).1 14 22 = nI (36 * (gN S 14 22 - 1)) := by
        rw [uI_get, if_pos ⟨rfl, rfl⟩]
        exact pk_mul 36 _
      rw [e9, show f_m11_copy 62 576 (nI (36 * (gN S 14 22 - 1))) 61 36 0 36 _ = _ from g1]
      rfl
    · have g22 : gN T' 14 22 = gN S 14 22 - 1 := gN_of x22 (by omega)
      have g51 : gN T' 5 1 = (gN S 5 1 + 15) % 16 := gN_of x51 (by omega)
      refine ⟨kB_of x22 (by omega) (by omega), by rw [x52, x22], kB_of x51 (by omega) (by omega), ?_⟩
      rw [g22, g51]
      intro i hi
      obtain ⟨r1, r2⟩ := hr (i + 1) (by omega)
      rw [md16b f15 (by omega)]
      have e62 : ∀ k, k < 36 → T'.1 62 (36 * (gN S 14 22 - 1 - 1 - i) + k) = S.1 62 (36 * (gN S 14 22 - 1 - (i + 1)) + k) := fun k _ => by
        rw [nG 62 (by decide) (by decide) (by decide), nT 62 (by decide) (by decide) (by decide), show gN S 14 22 - 1 - 1 - i = gN S 14 22 - 1 - (i + 1) by omega]
      refine ⟨rowEq_c e62 (fun j => ?_) r1, rowOk_c e62 ?_ r2⟩
      · rw [nG _ (by omega) (by omega) (by omega), nT _ (by omega) (by omega) (by omega)]
      · rw [nG 57 (by decide) (by decide) (by decide), nT 57 (by decide) (by decide) (by decide)]
    · exact load_now hr0.1 e3 e4 e5 ⟨nG 4 (by decide) (by decide) (by decide), nG 40 (by decide) (by decide) (by decide), nG 41 (by decide) (by decide) (by decide), nG 42 (by decide) (by decide) (by decide)⟩ x61
    · exact rowOk_c (fun k hk => by rw [Nat.zero_add]; exact x61 k hk) (by rw [nG 57 (by decide) (by decide) (by decide), nT 57 (by decide) (by decide) (by decide)]) hr0.2
def iB (S : kSt) (a : Int32) : Bool := decide (0 ≤ a ∧ a < S.1 14 23)
theorem iB_c {S : kSt} (hI : Inv S) (a : Int32) : (if a < 0 then false else (if (S.1 0 9) ≤ a then false else true)) = iB S a := by
  unfold iB
  rw [hI.im.2.1]
  by_cases h1 : a < 0
  · rw [if_pos h1, decide_eq_false (fun q => absurd q.1 (Int32.not_le.mpr h1))]
  · rw [if_neg h1]
    by_cases h2 : S.1 14 23 ≤ a
    · rw [if_pos h2, decide_eq_false (fun q => absurd q.2 (Int32.not_lt.mpr h2))]
    · rw [if_neg h2, decide_eq_true ⟨Int32.not_lt.mp h1, Int32.not_le.mp h2⟩]
theorem iB_m {S : kSt} (hI : Inv S) (a : Int32) : decide (0 ≤ a ∧ a ≤ S.1 14 23 - 1) = iB S a := by
  unfold iB
  obtain ⟨n1, n3⟩ := hI.im.1
  rw [n1]
  by_cases h0 : 0 ≤ a
  · obtain ⟨j, hj, rfl⟩ := nI_of (Int32.not_lt.mpr h0)
    simp only [h0, true_and, decide_eq_decide]
    by_cases hn : gN S 14 23 = 0
    · rw [hn]
      constructor
      · intro q
        exact absurd (Int32.le_trans h0 q) (by decide)
      · intro q
        exact absurd q (nI_pos hj)
    · rw [show nI (gN S 14 23) - 1 = nI (gN S 14 23 - 1) from pk_sub (b := 1) (by omega), nI_leI hj (by omega), nI_ltI hj (by omega)]
      omega
  · simp [h0]
theorem iB_ok {S : kSt} (hI : Inv S) {a : Int32} (h : iB S a = true) : ∃ i, i < gN S 14 23 ∧ a = nI i := by
  unfold iB at h
  obtain ⟨h1, h2⟩ := of_decide_eq_true h
  obtain ⟨n1, n3⟩ := hI.im.1
  rw [n1] at h2
  obtain ⟨j, hj, rfl⟩ := nI_of (Int32.not_lt.mpr h1)
  exact ⟨j, (nI_ltI hj (by omega)).mp h2, rfl⟩
theorem ag_back {S : kSt} (hI : Inv S) (a1 : Int32) : Agree (f_m10_back a1) (f_m11_back a1) S := by
  unfold Agree f_m10_back
  rw [knx_e, iB_c hI, c_may1]
  simp only [Option.bind_some]
  cases hA : iB S a1
  · simp only [Bool.false_eq_true, if_false]
    refine ⟨_, _, kuI (kG0 (kuI S 0 18 1)) 14 11 1, rfl, ?_, ?_⟩
    · unfold f_m11_back
      rw [m_good]
      simp only [Option.bind_some]
      rw [m_in, show (kG0 (kuI S 0 18 1)).1 14 23 = S.1 14 23 by simp [kG0, uI_get], iB_m hI, hA]
      rfl
    · exact inv_no hI (k018_keep.tr (kG0_keep.tr k11_keep)) (x := 1) (by simp [uI_get, kG0]) (by simp [uI_get]) (by decide)
  · obtain ⟨i, hi, rfl⟩ := iB_ok hI hA
    obtain ⟨n1, n3⟩ := hI.im.1
    have hb : hB S = true := hB_i hI (by rw [n1]; exact nI_ne0 (by omega) (by omega))
    obtain ⟨r1, r2⟩ := hI.im.2.2 i hi
    simp only [if_true]
    rw [kgi_nI (by omega) (by omega), nI_clamp (by omega)]
    obtain ⟨T, e1, e2, e3, e4, e5⟩ := c_load (S := kuI S 0 18 0) (w := 70 + i) (by omega)
    rw [kuI_ne _ _ _ (show 70 + i ≠ 0 by omega)] at e3 e4 e5
    rw [e1]
    unfold f_m3_forget
    simp only [Option.bind_some, knx_e]
    obtain ⟨T', g1, g2, g3⟩ := m_copy (S := kG0 (kuI T 5 2 0)) (w0 := 63) (n0 := 108) (w2 := 61) (n2 := 36) (a := 36 * i) (b := 0) (m := 36) (by decide) (by omega) (by omega) (by omega) (by omega) (by omega)
    have nT : ∀ a, a ≠ 0 → a ≠ 4 → ¬ (40 ≤ a ∧ a ≤ 42) → T.1 a = S.1 a := fun a h0 h1 h2 => by rw [e2 a h1 (by omega) (by omega) (by omega), kuI_ne _ _ _ h0]
    have nG : ∀ a, a ≠ 14 → a ≠ 5 → a ≠ 61 → T'.1 a = T.1 a := fun a h1 h2 h3 => by
      rw [g2.1 a h3]
      unfold kG0
      rw [kuI_ne _ _ _ h1, kuI_ne _ _ _ h1, kuI_ne _ _ _ h2]
    have n14 : ∀ j, j ≠ 0 → j ≠ 11 → T'.1 14 j = S.1 14 j := fun j h1 h2 => by
      rw [g2.1 14 (by decide)]
      unfold kG0
      rw [uI_get, if_neg (fun q => h2 q.2), uI_get, if_neg (fun q => h1 q.2), kuI_ne _ _ _ (by decide), nT 14 (by decide) (by decide) (by decide)]
    have x11 : T'.1 14 11 = 0 := by rw [g2.1 14 (by decide), kG0_11]
    have x0 : ∀ j, j ≠ 18 → T'.1 0 j = S.1 0 j := fun j hj => by
      rw [nG 0 (by decide) (by decide) (by decide), e2 0 (by decide) (by decide) (by decide) (by decide), uI_get, if_neg (fun q => hj q.2)]
    have x18 : T'.1 0 18 = 0 := by
      rw [nG 0 (by decide) (by decide) (by decide), e2 0 (by decide) (by decide) (by decide) (by decide), uI_get, if_pos ⟨rfl, rfl⟩]
    have x61 : ∀ k, k < 36 → T'.1 61 k = S.1 63 (36 * i + k) := fun k hk => by
      rw [g3 k, if_pos (by omega)]
      unfold kG0
      rw [kuI_ne _ _ _ (by decide), kuI_ne _ _ _ (by decide), kuI_ne _ _ _ (by decide), nT 63 (by decide) (by decide) (by decide)]
      rfl
    have x5 : T'.1 5 1 = S.1 5 1 ∧ T'.1 5 2 = 0 := by
      rw [g2.1 5 (by decide)]
      unfold kG0
      rw [kuI_ne _ _ _ (by decide), kuI_ne _ _ _ (by decide), uI_get, if_neg (by omega), uI_get, if_pos ⟨rfl, rfl⟩, nT 5 (by decide) (by decide) (by decide)]
      exact ⟨rfl, rfl⟩
    have w14 : ∀ j, j ≠ 22 → (kuI T' 14 22 0).1 14 j = T'.1 14 j := fun j hj => by rw [uI_get, if_neg (fun q => hj q.2)]
    have wn : ∀ a, a ≠ 14 → (kuI T' 14 22 0).1 a = T'.1 a := fun a ha => kuI_ne _ _ _ ha
    have xr : rest S (kuI T' 14 22 0) := by
      refine ⟨fun a ha => ?_, ?_, ?_, ?_⟩
      · obtain ⟨d1, d2, d3, d4, d5, d6, d7, d8, d9⟩ := kpA_d a ha
        rw [wn a d7, nG a d7 d4 d8, nT a d2 d5 d6]
      · rw [wn 0 (by decide)]
        exact ⟨x0 1 (by decide), x0 5 (by decide), x0 9 (by decide)⟩
      · rw [wn 3 (by decide), nG 3 (by decide) (by decide) (by decide), nT 3 (by decide) (by decide) (by decide)]
        exact ⟨rfl, rfl⟩
      · rw [w14 2 (by decide), w14 9 (by decide), w14 10 (by decide), w14 14 (by decide), w14 23 (by decide)]
        exact ⟨n14 2 (by decide) (by decide), n14 9 (by decide) (by decide), n14 10 (by decide) (by decide), n14 14 (by decide) (by decide), n14 23 (by decide) (by decide)⟩
    refine ⟨true, kuI T 5 2 0, kuI T' 14 22 0, rfl, ?_, act_inv hI hb xr.r0 (xr.im hI.im) ?_ ?_ ?_ (by rw [wn 0 (by decide), w14 11 (by decide), x18, x11]) (by rw [w14 11 (by decide), x11]; decide)⟩
    · unfold f_m11_back
      rw [m_good]
      simp only [Option.bind_some]
      rw [m_in, show (kG0 (kuI T 5 2 0)).1 14 23 = S.1 14 23 by rw [← n14 23 (by decide) (by decide), g2.1 14 (by decide)], iB_m hI, hA]
      simp only [Option.bind_some, if_true]
      rw [show (36 : Int32) * nI i = nI (36 * i) from pk_mul 36 _, show f_m11_copy 63 108 (nI (36 * i)) 61 36 0 36 _ = _ from g1]
      rfl
    · have g22 : gN (kuI T' 14 22 0) 14 22 = 0 := gN_of (n := 0) (by rw [uI_get, if_pos ⟨rfl, rfl⟩]; rfl) (by omega)
      refine ⟨kB_of (n := 0) (by rw [uI_get, if_pos ⟨rfl, rfl⟩]; rfl) (by omega) (by omega), by rw [wn 5 (by decide), x5.2, uI_get, if_pos ⟨rfl, rfl⟩], kB_v (by rw [wn 5 (by decide), x5.1]) hI.hi.2.2.1, fun j hj => ?_⟩
      rw [g22] at hj
      omega
    · exact load_now r1 e3 e4 e5 ⟨by rw [wn 4 (by decide), nG 4 (by decide) (by decide) (by decide)], by rw [wn 40 (by decide), nG 40 (by decide) (by decide) (by decide)], by rw [wn 41 (by decide), nG 41 (by decide) (by decide) (by decide)], by rw [wn 42 (by decide), nG 42 (by decide) (by decide) (by decide)]⟩ (fun k hk => by rw [wn 61 (by decide)]; exact x61 k hk)
    · exact rowOk_c (fun k hk => by rw [Nat.zero_add, wn 61 (by decide)]; exact x61 k hk) (by rw [wn 57 (by decide), nG 57 (by decide) (by decide) (by decide), nT 57 (by decide) (by decide) (by decide)]) r2
theorem ag_img {S : kSt} (hI : Inv S) : Agree f_m10_image f_m11_image S := by
  unfold Agree f_m10_image
  rw [hB_c hI, c_may1]
  simp only [Option.bind_some]
  cases hA : hB S
  · simp only [Bool.false_eq_true, if_false]
    refine ⟨_, _, kuI (kG0 (kuI S 0 18 1)) 14 11 1, rfl, ?_, ?_⟩
    · unfold f_m11_image
      rw [m_good]
      simp only [Option.bind_some]
      rw [hB_m hI (k018_keep.tr kG0_keep), hA]
      rfl
    · exact inv_no hI (k018_keep.tr (kG0_keep.tr k11_keep)) (x := 1) (by simp [uI_get, kG0]) (by simp [uI_get]) (by decide)
  · obtain ⟨n1, n3⟩ := hI.im.1
    have hm := hB_ok hI hA
    have x9 : (kuI S 0 18 0).1 0 9 = nI (gN S 14 23) := by rw [uI_get, if_neg (by omega), hI.im.2.1, n1]
    simp only [if_true]
    rw [x9, kite (show nI (gN S 14 23) < 3 ↔ gN S 14 23 < 3 from nI_ltI (b := 3) (show gN S 14 23 < 2 ^ 31 by omega) (by omega))]
    by_cases h3 : gN S 14 23 < 3
    · rw [if_pos h3, knx_e, kgi_nI (by omega) (by omega), nI_clamp (by omega)]
      obtain ⟨T, e1, e2, e3, e4, e5⟩ := c_save (S := kuI S 0 18 0) (w := 70 + gN S 14 23) (by omega)
      have hk0 : keep S (kuI S 0 18 0) := k018_keep
      have e6 := row_of (hk0.ck.mpr hI.c).now e3 e4 e5
      rw [kuI_ne _ _ _ (show (61 : Nat) ≠ 0 by decide)] at e6
      rw [e1]
      simp only [Option.bind_some, knx_e]
      have t9 : T.1 0 9 = nI (gN S 14 23) := by rw [e2.1 0 (by omega)]; exact x9
      rw [t9, nI_1]
      rw [show (kuI T 0 9 (nI (gN S 14 23 + 1))).1 0 9 = nI (gN S 14 23 + 1) by rw [uI_get, if_pos ⟨rfl, rfl⟩], nI_pred]
      obtain ⟨T', g1, g2, g3⟩ := m_copy (S := kG0 (kuI T 0 9 (nI (gN S 14 23 + 1)))) (w0 := 61) (n0 := 36) (w2 := 63) (n2 := 108) (a := 0) (b := 36 * gN S 14 23) (m := 36) (by decide) (by omega) (by omega) (by omega) (by omega) (by omega)
      have nT : ∀ a, a ≠ 0 → a ≠ 70 + gN S 14 23 → T.1 a = S.1 a := fun a h0 h1 => by rw [e2.1 a h1, kuI_ne _ _ _ h0]
      have nG : ∀ a, a ≠ 14 → a ≠ 0 → a ≠ 63 → T'.1 a = T.1 a := fun a h1 h2 h3 => by
        rw [g2.1 a h3]
        unfold kG0
        rw [kuI_ne _ _ _ h1, kuI_ne _ _ _ h1, kuI_ne _ _ _ h2]
      have n14 : ∀ j, j ≠ 0 → j ≠ 11 → T'.1 14 j = S.1 14 j := fun j h1 h2 => by
        rw [g2.1 14 (by decide)]
        unfold kG0
        rw [uI_get, if_neg (fun q => h2 q.2), uI_get, if_neg (fun q => h1 q.2), kuI_ne _ _ _ (by decide), nT 14 (by decide) (by omega)]
      have x11 : T'.1 14 11 = 0 := by rw [g2.1 14 (by decide), kG0_11]
      have t0 : T'.1 0 = (kuI T 0 9 (nI (gN S 14 23 + 1))).1 0 := by
        rw [g2.1 0 (by decide)]
        unfold kG0
        rw [kuI_ne _ _ _ (by decide), kuI_ne _ _ _ (by decide)]
      have x0 : ∀ j, j ≠ 18 → j ≠ 9 → T'.1 0 j = S.1 0 j := fun j hj h9 => by
        rw [t0, uI_get, if_neg (fun q => h9 q.2), e2.1 0 (by omega), uI_get, if_neg (fun q => hj q.2)]
      have x18 : T'.1 0 18 = 0 := by rw [t0, uI_get, if_neg (by omega), e2.1 0 (by omega), uI_get, if_pos ⟨rfl, rfl⟩]
      have x09 : T'.1 0 9 = nI (gN S 14 23 + 1) := by rw [t0, uI_get, if_pos ⟨rfl, rfl⟩]
      have x61 : (kG0 (kuI T 0 9 (nI (gN S 14 23 + 1)))).1 61 = S.1 61 := by
        unfold kG0
        rw [kuI_ne _ _ _ (by decide), kuI_ne _ _ _ (by decide), kuI_ne _ _ _ (by decide), nT 61 (by decide) (by omega)]
      have x63 : (kG0 (kuI T 0 9 (nI (gN S 14 23 + 1)))).1 63 = S.1 63 := by
        unfold kG0
        rw [kuI_ne _ _ _ (by decide), kuI_ne _ _ _ (by decide), kuI_ne _ _ _ (by decide), nT 63 (by decide) (by omega)]
      have w14 : ∀ j, j ≠ 23 → (kuI T' 14 23 (nI (gN S 14 23 + 1))).1 14 j = T'.1 14 j := fun j hj => by rw [uI_get, if_neg (fun q => hj q.2)]
      have wn : ∀ a, a ≠ 14 → (kuI T' 14 23 (nI (gN S 14 23 + 1))).1 a = T'.1 a := fun a ha => kuI_ne _ _ _ ha
      have z : ∀ a, a ≠ 14 → a ≠ 0 → a ≠ 63 → a ≠ 70 + gN S 14 23 → (kuI T' 14 23 (nI (gN S 14 23 + 1))).1 a = S.1 a := fun a h1 h2 h3 h4 => by rw [wn a h1, nG a h1 h2 h3, nT a h2 h4]
      have y23 : (kuI T' 14 23 (nI (gN S 14 23 + 1))).1 14 23 = nI (gN S 14 23 + 1) := by rw [uI_get, if_pos ⟨rfl, rfl⟩]
      refine ⟨nI (gN S 14 23), kuI T 0 9 (nI (gN S 14 23 + 1)), kuI T' 14 23 (nI (gN S 14 23 + 1)), rfl, ?_, act_inv hI hA ?_ ?_ ?_ ?_ ?_ (by rw [wn 0 (by decide), w14 11 (by decide), x18, x11]) (by rw [w14 11 (by decide), x11]; decide)⟩
      · unfold f_m11_image
        rw [m_good]
        simp only [Option.bind_some]
        have q23 : (kG0 (kuI T 0 9 (nI (gN S 14 23 + 1)))).1 14 23 = nI (gN S 14 23) := by rw [← n1, ← n14 23 (by decide) (by decide), g2.1 14 (by decide)]
        rw [hB_mR hI (T := kG0 (kuI T 0 9 (nI (gN S 14 23 + 1)))) (by rw [← n14 14 (by decide) (by decide), g2.1 14 (by decide)]), hA]
        simp only [if_true]
        rw [q23, if_neg (show ¬ nI (gN S 14 23) = 3 from fun q => by have := (nI_eq (b := 3) (by omega) (by omega)).mp q; omega), show (36 : Int32) * nI (gN S 14 23) = nI (36 * gN S 14 23) from pk_mul 36 _, show f_m11_copy 61 36 0 63 108 (nI (36 * gN S 14 23)) 36 _ = _ from g1]
        simp only [Option.bind_some, knx_e]
        rw [n14 23 (by decide) (by decide), n1, nI_1, y23, nI_pred]
      · refine ⟨fun a ha => ?_, ?_, ?_, ?_⟩
        · have d := kpA_d a (kp0_kpA a ha)
          have d2 : a ≠ 63 ∧ a < 70 := by
            unfold kp0 at ha
            simp only [Bool.or_eq_true, Bool.and_eq_true, decide_eq_true_eq, beq_iff_eq] at ha
            omega
          exact z a d.2.2.2.2.2.2.1 d.2.1 d2.1 (by omega)
        · rw [wn 0 (by decide)]
          exact ⟨x0 1 (by decide) (by decide), x0 5 (by decide) (by decide)⟩
        · rw [z 3 (by decide) (by decide) (by decide) (by omega)]
          exact ⟨rfl, rfl⟩
        · rw [w14 2 (by decide), w14 9 (by decide), w14 10 (by decide), w14 14 (by decide)]
          exact ⟨n14 2 (by decide) (by decide), n14 9 (by decide) (by decide), n14 10 (by decide) (by decide), n14 14 (by decide) (by decide)⟩
      · have g23 : gN (kuI T' 14 23 (nI (gN S 14 23 + 1))) 14 23 = gN S 14 23 + 1 := gN_of y23 (by omega)
        refine ⟨kB_of y23 (by omega) (by omega), by rw [y23, wn 0 (by decide), x09], ?_⟩
        rw [g23]
        intro i hi
        by_cases q : i = gN S 14 23
        · subst q
          have h63 : ∀ k, k < 36 → (kuI T' 14 23 (nI (gN S 14 23 + 1))).1 63 (36 * gN S 14 23 + k) = S.1 61 (0 + k) := fun k hk => by
            rw [wn 63 (by decide), g3, if_pos (by omega), x61]
            exact congrArg (S.1 61) (by omega)
          refine ⟨⟨fun j hj => ?_, ?_⟩, rowOk_c h63 (by rw [z 57 (by decide) (by decide) (by decide) (by omega)]) hm.row⟩
          · rw [h63 j (by omega), wn _ (by omega), nG _ (by omega) (by omega) (by omega), e6.1 j hj, Nat.zero_add]
          · rw [h63 35 (by omega), wn _ (by omega), nG _ (by omega) (by omega) (by omega), e6.2]
        · obtain ⟨r1, r2⟩ := hI.im.2.2 i (by omega)
          have h63 : ∀ k, k < 36 → (kuI T' 14 23 (nI (gN S 14 23 + 1))).1 63 (36 * i + k) = S.1 63 (36 * i + k) := fun k hk => by
            rw [wn 63 (by decide), g3, if_neg (by omega), x63]
          refine ⟨rowEq_c h63 (fun j => by rw [z _ (by omega) (by omega) (by omega) (by omega)]) r1, rowOk_c h63 (by rw [z 57 (by decide) (by decide) (by decide) (by omega)]) r2⟩
      · obtain ⟨i12, i13, i14, i15⟩ := hI.hi
        have g22 : (kuI T' 14 23 (nI (gN S 14 23 + 1))).1 14 22 = S.1 14 22 := by rw [w14 22 (by decide)]; exact n14 22 (by decide) (by decide)
        have g5 : (kuI T' 14 23 (nI (gN S 14 23 + 1))).1 5 = S.1 5 := z 5 (by decide) (by decide) (by decide) (by omega)
        refine ⟨(kB_c g22).mpr i12, by rw [g5, g22]; exact i13, (kB_c (by rw [g5])).mpr i14, fun i hi => ?_⟩
        rw [gN_c g22] at hi ⊢
        rw [gN_c (show (kuI T' 14 23 (nI (gN S 14 23 + 1))).1 5 1 = S.1 5 1 by rw [g5])]
        have := i15 i hi
        have e62 : ∀ k, k < 36 → (kuI T' 14 23 (nI (gN S 14 23 + 1))).1 62 (36 * (gN S 14 22 - 1 - i) + k) = S.1 62 (36 * (gN S 14 22 - 1 - i) + k) := fun k _ => by rw [z 62 (by decide) (by decide) (by decide) (by omega)]
        exact ⟨rowEq_c e62 (fun j => by rw [z _ (by omega) (by omega) (by omega) (by omega)]) this.1, rowOk_c e62 (by rw [z 57 (by decide) (by decide) (by decide) (by omega)]) this.2⟩
      · have hn := hI.c.now
        unfold nowE
        rw [z 40 (by decide) (by decide) (by decide) (by omega), z 41 (by decide) (by decide) (by decide) (by omega), z 42 (by decide) (by decide) (by decide) (by omega), z 4 (by decide) (by decide) (by decide) (by omega), z 61 (by decide) (by decide) (by decide) (by omega)]
        exact hn
      · exact rowOk_c (fun k _ => by rw [z 61 (by decide) (by decide) (by decide) (by omega)]) (by rw [z 57 (by decide) (by decide) (by decide) (by omega)]) hm.row
    · rw [if_neg h3]
      refine ⟨_, _, kuI (kG0 (kuI (kuI S 0 18 0) 0 18 3)) 14 11 3, rfl, ?_, ?_⟩
      · unfold f_m11_image
        rw [m_good]
        simp only [Option.bind_some]
        have hk : keep S (kG0 (kuI (kuI S 0 18 0) 0 18 3)) := k018_keep.tr (k018_keep.tr kG0_keep)
        rw [hB_m hI hk, hA]
        simp only [if_true]
        rw [show (kG0 (kuI (kuI S 0 18 0) 0 18 3)).1 14 23 = 3 by rw [hk.2.2.2.2.2.2.2.2, n1, show gN S 14 23 = 3 by omega]; rfl, if_pos rfl]
        rfl
      · exact inv_no hI (keep_no 3 3) (x := 3) (by simp [uI_get, kG0]) (by simp [uI_get]) (by decide)
