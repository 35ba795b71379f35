-- change, step, pay
theorem m_isPairR {S T : kSt} (hI : Inv S) (h14 : T.1 14 14 = S.1 14 14) (h57 : T.1 57 2 = S.1 57 2) (a : Int32) : f_m11_isPair a T = some (pB S a, T) := by
  have hx := m_isPair hI (keep.rf (S := S)) a
  unfold f_m11_isPair at hx ⊢
  rw [h14, h57]
  obtain ⟨-, ⟨b, i4, -⟩, -⟩ := hI
  rw [i4, kgb_kb] at hx ⊢
  cases b
  · simp only [Bool.false_eq_true, if_false, Option.some.injEq, Prod.mk.injEq, and_true] at hx ⊢
    exact hx
  · simp only [if_true] at hx ⊢
    rw [m_in] at hx ⊢
    simp only [Option.bind_some] at hx ⊢
    cases hq : decide (0 ≤ a ∧ a ≤ S.1 57 2 - 1)
    · rw [hq] at hx
      simp only [Bool.false_eq_true, if_false, Option.some.injEq, Prod.mk.injEq, and_true] at hx ⊢
      exact hx
    · rw [hq] at hx
      simp only [if_true, Option.some.injEq, Prod.mk.injEq, and_true] at hx ⊢
      exact hx
theorem m_twoR {S T : kSt} (hI : Inv S) (h14 : T.1 14 14 = S.1 14 14) (h57 : T.1 57 2 = S.1 57 2) (a b : Int32) : f_m11_areTwo a b T = some (ppB S a b, T) := by
  unfold f_m11_areTwo ppB
  rw [m_isPairR hI h14 h57]
  simp only [Option.bind_some]
  cases pB S a
  · rfl
  · simp only [if_true]
    rw [m_isPairR hI h14 h57]
    simp only [Option.bind_some]
    cases pB S b
    · rfl
    · simp only [if_true]
      by_cases h : a = b
      · simp [h]
      · simp [h]
theorem hB_mR {S T : kSt} (hI : Inv S) (h14 : T.1 14 14 = S.1 14 14) {α : Type} (F : Bool → Option α) : kgb (T.1 14 14) F = F (hB S) := by
  have := hB_m hI (keep.rf (S := S)) F
  rw [h14]
  exact this
theorem pB_hB {S : kSt} {a : Int32} (h : pB S a = true) : hB S = true := by
  unfold pB at h
  unfold hB
  exact decide_eq_true (of_decide_eq_true h).1
/-- refused on both sides -/
theorem inv_no {S T : kSt} (hI : Inv S) (hk : keep S T) {x : Int32} (h0 : T.1 0 18 = x) (h1 : T.1 14 11 = x) (h4 : ¬ x = 4) : Inv T := hk.inv hI (by rw [h0, h1]) (fun q => absurd (h1 ▸ q) h4)
theorem Cact.g {S T : kSt} (hI : Inv S) (h : Cact S T) : (kG0 T).1 14 14 = S.1 14 14 ∧ (kG0 T).1 57 = S.1 57 ∧ (kG0 T).1 61 = S.1 61 ∧ (kG0 T).1 14 22 = S.1 14 22 := by
  have f15 : gN S 5 1 ≤ 15 := hI.hi.2.2.1.2
  obtain ⟨c1, -⟩ := h
  have h14 : T.1 14 = S.1 14 := c1 14 (by decide) (by decide) (by omega) (by decide) (by decide) rfl
  have h61 : T.1 61 = S.1 61 := c1 61 (by decide) (by decide) (by omega) (by decide) (by decide) rfl
  have h57 : T.1 57 = S.1 57 := c1 57 (by decide) (by decide) (by omega) (by decide) (by decide) rfl
  unfold kG0
  exact ⟨by rw [uI_get, if_neg (by omega), uI_get, if_neg (by omega), h14], by rw [kuI_ne _ _ _ (by decide), kuI_ne _ _ _ (by decide), h57], by rw [kuI_ne _ _ _ (by decide), kuI_ne _ _ _ (by decide), h61], by rw [uI_get, if_neg (by omega), uI_get, if_neg (by omega), h14]⟩
theorem mOk.f61 {S : kSt} (h : mOk S) {p : Nat} (hp : p < 5) : S.1 61 p = nI (gN S 61 p) ∧ S.1 61 (5 + p) = nI (gN S 61 (5 + p)) := by
  have hr := h.row.1 p hp
  simp only [Nat.zero_add] at hr
  exact ⟨hr.1.1, hr.2.1⟩
theorem keep_no {S : kSt} (x y : Int32) : keep S (kuI (kG0 (kuI (kuI S 0 18 0) 0 18 x)) 14 11 y) := k018_keep.tr (k018_keep.tr (kG0_keep.tr k11_keep))
theorem Cact.e57 {S T : kSt} (hI : Inv S) (h : Cact S T) : T.1 57 = S.1 57 := by
  have f15 : gN S 5 1 ≤ 15 := hI.hi.2.2.1.2
  exact h.1 57 (by decide) (by decide) (by omega) (by decide) (by decide) rfl
theorem act_fin {S T T' : kSt} (hI : Inv S) (hb : hB S = true) (e : T.1 4 = S.1 4 ∧ T.1 40 = S.1 40 ∧ T.1 41 = S.1 41 ∧ T.1 42 = S.1 42) {k j i : Nat} {x : Int32} (hkj : (k = 40 ∧ j < 5 ∧ i = j) ∨ (k = 41 ∧ j < 5 ∧ i = 5 + j) ∨ (k = 42 ∧ j < 25 ∧ i = 10 + j)) (hC : Cact S (kuI T k j x)) (hM : Mact S (kuI T k j x) T') (h61 : T'.1 61 = S.1 61) (hv : okV S i x) : Inv (kuI T' 61 i x) := by
  have hm := hB_ok hI hb
  obtain ⟨e3, e4, e5, e6⟩ := e
  refine act_push hI hb hC (hM.u _ _) ?_ ?_
  · have e61 : ∀ q, (kuI T' 61 i x).1 61 q = if q = i then x else S.1 61 q := fun q => by
      rw [uI_get, h61]
      by_cases z : q = i
      · rw [if_pos ⟨rfl, z⟩, if_pos z]
      · rw [if_neg (fun y => z y.2), if_neg z]
    have en : ∀ a q, a ≠ 14 → a ≠ 61 → a ≠ 62 → (kuI T' 61 i x).1 a q = if a = k ∧ q = j then x else T.1 a q := fun a q h1 h2 h3 => by rw [kuI_ne _ _ _ h2, hM.1 a h1 h2 h3, uI_get]
    have hnow := hI.c.now
    refine ⟨fun p hp => ⟨?_, ?_⟩, fun q hq => ?_, ?_⟩
    · rw [en 40 p (by decide) (by decide) (by decide), e61, e4]
      by_cases z : p = i
      · rw [if_pos (by omega), if_pos z]
      · rw [if_neg (by omega), if_neg z]; exact (hnow.1 p hp).1
    · rw [en 41 p (by decide) (by decide) (by decide), e61, e5]
      by_cases z : 5 + p = i
      · rw [if_pos (by omega), if_pos z]
      · rw [if_neg (by omega), if_neg z]; exact (hnow.1 p hp).2
    · rw [en 42 q (by decide) (by decide) (by decide), e61, e6]
      by_cases z : 10 + q = i
      · rw [if_pos (by omega), if_pos z]
      · rw [if_neg (by omega), if_neg z]; exact hnow.2.1 q hq
    · rw [en 4 0 (by decide) (by decide) (by decide), e61, e3, if_neg (by omega), if_neg (by omega)]; exact hnow.2.2
  · refine rowOk_u hm (j := i) ?_ (fun k hk => ?_) ?_
    · rw [kuI_ne _ _ _ (by decide), hM.1 57 (by decide) (by decide) (by decide), hC.e57 hI]
    · rw [uI_get, if_neg (fun z => hk z.2), h61]
    · rw [uI_get, if_pos ⟨rfl, rfl⟩]
      exact hv
theorem ag_chg {S : kSt} (hI : Inv S) (a1 : Int32) : Agree (f_m10_change a1) (f_m11_change a1) S := by
  unfold Agree f_m10_change
  rw [c_isPair hI]
  simp only [Option.bind_some]
  rw [c_may1]
  simp only [Option.bind_some]
  cases hA : pB S a1
  · simp only [Bool.false_eq_true, if_false]
    refine ⟨_, _, kuI (kG0 (kuI S 0 18 1)) 14 11 1, rfl, ?_, ?_⟩
    · unfold f_m11_change
      rw [m_good]
      simp only [Option.bind_some]
      rw [m_isPair hI (k018_keep.tr kG0_keep), hA]
      rfl
    · exact inv_no hI (k018_keep.tr (kG0_keep.tr k11_keep)) (x := 1) (by simp [uI_get, kG0]) (by simp [uI_get]) (by decide)
  · obtain ⟨hm, p, hp, rfl⟩ := pB_ok hI hA
    have h5 := p5 hm hp
    have hf := (hm.f61 h5).1
    have hfw := hm.fig h5
    have hw := hm.1.2.1
    have hw99 := hm.1.2.2
    have e40 : S.1 40 p = S.1 61 p := (hI.c.now.1 p h5).1
    have e0 : ∀ a, a ≠ 0 → (kuI S 0 18 0).1 a = S.1 a := fun a ha => kuI_ne S 18 0 ha
    simp only [if_true]
    rw [kgi_nI h5 (by omega), knx_e, kgi_nI h5 (by omega), nI_clamp (by omega), e0 1 (by decide), e0 40 (by decide), hI.c.words, e40, hf, hw, pk_sub hfw, kite (nI_eq (show gN S 57 0 - gN S 61 p < 2 ^ 31 by omega) (show gN S 61 p < 2 ^ 31 by omega))]
    by_cases hq : gN S 57 0 - gN S 61 p = gN S 61 p
    · rw [if_pos hq]
      refine ⟨_, _, kuI (kG0 (kuI (kuI S 0 18 0) 0 18 5)) 14 11 5, rfl, ?_, ?_⟩
      · unfold f_m11_change
        rw [m_good]
        simp only [Option.bind_some]
        have hk : keep S (kG0 (kuI (kuI S 0 18 0) 0 18 5)) := k018_keep.tr (k018_keep.tr kG0_keep)
        rw [m_isPair hI hk, hA]
        simp only [Option.bind_some, if_true]
        rw [kgi_nI (by omega) (by omega), nI_clamp (by omega), hk.at (a := 61) rfl, hk.at (a := 57) rfl, hf, hw, show (2 : Int32) * nI (gN S 61 p) = nI (2 * gN S 61 p) from pk_mul 2 _, if_pos (by rw [nI_eq (by omega) (by omega)]; omega)]
        rfl
      · exact inv_no hI (keep_no 5 5) (x := 5) (by simp [uI_get, kG0]) (by simp [uI_get]) (by decide)
    · rw [if_neg hq]
      obtain ⟨T, e1, e2, e3, e4, e5, e6⟩ := c_act0 hI
      rw [e1]
      simp only [Option.bind_some]
      rw [kgi_nI h5 (by omega), knx_e]
      have hC : Cact S (kuI T 40 p (nI (gN S 57 0 - gN S 61 p))) := e2.u hI (Or.inr (by omega)) _ _
      obtain ⟨T', g1, g2, g3⟩ := m_act0 hI hC
      obtain ⟨q1, q2, q3, q4⟩ := hC.g hI
      refine ⟨_, _, kuI T' 61 p (nI (gN S 57 0 - gN S 61 p)), rfl, ?_, ?_⟩
      · unfold f_m11_change
        rw [m_good]
        simp only [Option.bind_some]
        rw [m_isPairR hI q1 (by rw [q2]), hA]
        simp only [Option.bind_some, if_true]
        have h57 : T'.1 57 = S.1 57 := by rw [g2.1 57 (by decide) (by decide) (by decide), hC.e57 hI]
        rw [kgi_nI (by omega) (by omega), nI_clamp (by omega), q3, q2, hf, hw, show (2 : Int32) * nI (gN S 61 p) = nI (2 * gN S 61 p) from pk_mul 2 _, if_neg (by rw [nI_eq (by omega) (by omega)]; omega), g1]
        simp only [Option.bind_some]
        rw [kgi_nI (by omega) (by omega), kgi_nI (by omega) (by omega), knx_e, kgi_nI (by omega) (by omega), g3, h57, hf, hw, pk_sub hfw, uI_get, if_pos ⟨rfl, rfl⟩]
      · exact act_fin hI (pB_hB hA) ⟨e3, e4, e5, e6⟩ (Or.inl ⟨rfl, h5, rfl⟩) hC g2 g3 ⟨_, rfl, fun _ => by omega, fun q => by omega, fun q => by omega, fun q => by omega, by omega⟩
theorem ag_stp {S : kSt} (hI : Inv S) (a1 a2 : Int32) : Agree (f_m10_step a1 a2) (f_m11_step a1 a2) S := by
  unfold Agree f_m10_step
  rw [c_isPair hI]
  simp only [Option.bind_some]
  rw [c_upTo]
  simp only [Option.bind_some]
  rw [c_may]
  simp only [Option.bind_some]
  cases hA : pB S a1
  · simp only [Bool.false_and, Bool.false_eq_true, if_false]
    refine ⟨_, _, kuI (kG0 (kuI S 0 18 1)) 14 11 1, rfl, ?_, ?_⟩
    · unfold f_m11_step
      rw [m_good]
      simp only [Option.bind_some]
      rw [m_isPair hI (k018_keep.tr kG0_keep), hA]
      rfl
    · exact inv_no hI (k018_keep.tr (kG0_keep.tr k11_keep)) (x := 1) (by simp [uI_get, kG0]) (by simp [uI_get]) (by decide)
  · cases hU : uB a2 20
    · simp only [Bool.true_and, Bool.false_eq_true, if_false, if_true]
      refine ⟨_, _, kuI (kG0 (kuI S 0 18 2)) 14 11 2, rfl, ?_, ?_⟩
      · unfold f_m11_step
        rw [m_good]
        simp only [Option.bind_some]
        rw [m_isPair hI (k018_keep.tr kG0_keep), hA]
        simp only [Option.bind_some, if_true]
        rw [m_in, show decide (0 ≤ a2 ∧ a2 ≤ 20) = uB a2 20 from rfl, hU]
        rfl
      · exact inv_no hI (k018_keep.tr (kG0_keep.tr k11_keep)) (x := 2) (by simp [uI_get, kG0]) (by simp [uI_get]) (by decide)
    · obtain ⟨hm, p, hp, rfl⟩ := pB_ok hI hA
      obtain ⟨s, hs, rfl⟩ := uB_ok (N := 20) (by omega) hU
      have h5 := p5 hm hp
      have hf := (hm.f61 h5).2
      have hfw := hm.stp h5
      have e41 : S.1 41 p = S.1 61 (5 + p) := (hI.c.now.1 p h5).2
      have e0 : ∀ a, a ≠ 0 → (kuI S 0 18 0).1 a = S.1 a := fun a ha => kuI_ne S 18 0 ha
      simp only [Bool.true_and, if_true]
      rw [kgi_nI h5 (by omega), nI_clamp (by omega), e0 41 (by decide), e41, hf, kite (nI_eq (show gN S 61 (5 + p) < 2 ^ 31 by omega) (show s < 2 ^ 31 by omega))]
      by_cases hq : gN S 61 (5 + p) = s
      · rw [if_pos hq]
        refine ⟨_, _, kuI (kG0 (kuI (kuI S 0 18 0) 0 18 5)) 14 11 5, rfl, ?_, ?_⟩
        · unfold f_m11_step
          rw [m_good]
          simp only [Option.bind_some]
          have hk : keep S (kG0 (kuI (kuI S 0 18 0) 0 18 5)) := k018_keep.tr (k018_keep.tr kG0_keep)
          rw [m_isPair hI hk, hA]
          simp only [Option.bind_some, if_true]
          rw [m_in, show decide (0 ≤ nI s ∧ nI s ≤ 20) = uB (nI s) 20 from rfl, hU]
          simp only [Option.bind_some, if_true]
          rw [knx_e, nI5, kgi_nI (by omega) (by omega), nI_clamp (by omega), hk.at (a := 61) rfl, hf, if_pos (by rw [hq])]
          rfl
        · exact inv_no hI (keep_no 5 5) (x := 5) (by simp [uI_get, kG0]) (by simp [uI_get]) (by decide)
      · rw [if_neg hq]
        obtain ⟨T, e1, e2, e3, e4, e5, e6⟩ := c_act0 hI
        rw [e1]
        simp only [Option.bind_some]
        rw [kgi_nI h5 (by omega), knx_e]
        have hC : Cact S (kuI T 41 p (nI s)) := e2.u hI (Or.inr (by omega)) _ _
        obtain ⟨T', g1, g2, g3⟩ := m_act0 hI hC
        obtain ⟨q1, q2, q3, q4⟩ := hC.g hI
        refine ⟨_, _, kuI T' 61 (5 + p) (nI s), rfl, ?_, ?_⟩
        · unfold f_m11_step
          rw [m_good]
          simp only [Option.bind_some]
          rw [m_isPairR hI q1 (by rw [q2]), hA]
          simp only [Option.bind_some, if_true]
          rw [m_in, show decide (0 ≤ nI s ∧ nI s ≤ 20) = uB (nI s) 20 from rfl, hU]
          simp only [Option.bind_some, if_true]
          rw [knx_e, nI5, kgi_nI (by omega) (by omega), nI_clamp (by omega), q3, hf, if_neg (by rw [nI_eq (by omega) (by omega)]; exact hq), g1]
          simp only [Option.bind_some]
          rw [knx_e, kgi_nI (by omega) (by omega), nI_clamp (by omega), knx_e]
        · exact act_fin hI (pB_hB hA) ⟨e3, e4, e5, e6⟩ (Or.inr (Or.inl ⟨rfl, h5, rfl⟩)) hC g2 g3 ⟨_, rfl, fun _ => by omega, fun _ _ => by omega, fun q => by omega, fun q => by omega, by omega⟩
def dB99 (a : Int32) : Bool := decide (1 ≤ a ∧ a ≤ 99)
theorem dB99_ok {a : Int32} (h : dB99 a = true) : ∃ n, 1 ≤ n ∧ n ≤ 99 ∧ a = nI n := by
  unfold dB99 at h
  obtain ⟨h1, h2⟩ := of_decide_eq_true h
  obtain ⟨j, hj, rfl⟩ := nI_of (x := a) (fun q => Int32.lt_irrefl (Int32.lt_of_lt_of_le (Int32.lt_of_le_of_lt h1 q) (by decide)))
  exact ⟨j, (nI_leI (a := 1) (by omega) hj).mp h1, (nI_leI (b := 99) hj (by omega)).mp h2, rfl⟩
theorem dB99_c (a : Int32) : (if a < 1 then false else (if 99 < a then false else true)) = dB99 a := by
  unfold dB99
  by_cases h1 : a < 1
  · rw [if_pos h1, decide_eq_false (fun q => absurd q.1 (Int32.not_le.mpr h1))]
  · rw [if_neg h1]
    by_cases h2 : 99 < a
    · rw [if_pos h2, decide_eq_false (fun q => absurd q.2 (Int32.not_le.mpr h2))]
    · rw [if_neg h2, decide_eq_true ⟨Int32.not_lt.mp h1, Int32.not_lt.mp h2⟩]
theorem m_debtOf {T : kSt} {p q : Nat} (hp : p < 5) (hq : q < 5) : f_m11_debtOf (nI p) (nI q) T = some (T.1 61 (10 + 5 * p + q), T) := by
  unfold f_m11_debtOf
  rw [knx_e, show (10 : Int32) + 5 * nI p + nI q = nI (10 + 5 * p + q) by rw [show (10 : Int32) = nI 10 from rfl, show (5 : Int32) = nI 5 from rfl, pk_mul, nI_add, nI_add], kgi_nI (by omega) (by omega), nI_clamp (by omega)]
theorem ppB_hB {S : kSt} {a b : Int32} (h : ppB S a b = true) : hB S = true := by
  unfold ppB at h
  simp only [Bool.and_eq_true] at h
  exact pB_hB h.1.1
theorem ag_pay {S : kSt} (hI : Inv S) (a1 a2 a3 : Int32) : Agree (f_m10_pay a1 a2 a3) (f_m11_pay a1 a2 a3) S := by
  unfold Agree f_m10_pay
  rw [c_unlike hI]
  simp only [Option.bind_some]
  rw [knx_e, dB99_c, c_may]
  simp only [Option.bind_some]
  cases hA : ppB S a1 a2
  · simp only [Bool.false_and, Bool.false_eq_true, if_false]
    refine ⟨_, _, kuI (kG0 (kuI S 0 18 1)) 14 11 1, rfl, ?_, ?_⟩
    · unfold f_m11_pay
      rw [m_good]
      simp only [Option.bind_some]
      rw [m_two hI (k018_keep.tr kG0_keep), hA]
      simp only [Option.bind_some]
      rw [m_in]
      simp only [Option.bind_some]
      rw [m_why]
      simp only [Option.bind_some, Bool.false_eq_true, if_false]
      rw [knx_e, if_neg (show ¬ (1 : Int32) = 0 by decide)]
      exact Eq.trans (if_neg (show ¬ (1 : Int32) = 0 by decide)) rfl
    · exact inv_no hI (k018_keep.tr (kG0_keep.tr k11_keep)) (x := 1) (by simp [uI_get, kG0]) (by simp [uI_get]) (by decide)
  · cases hU : dB99 a3
    · simp only [Bool.true_and, Bool.false_eq_true, if_false, if_true]
      refine ⟨_, _, kuI (kG0 (kuI S 0 18 2)) 14 11 2, rfl, ?_, ?_⟩
      · unfold f_m11_pay
        rw [m_good]
        simp only [Option.bind_some]
        rw [m_two hI (k018_keep.tr kG0_keep), hA]
        simp only [Option.bind_some]
        rw [m_in, show decide (1 ≤ a3 ∧ a3 ≤ 99) = dB99 a3 from rfl, hU]
        simp only [Option.bind_some]
        rw [m_why]
        simp only [Option.bind_some, Bool.false_eq_true, if_false, if_true]
        rw [knx_e, if_neg (show ¬ (2 : Int32) = 0 by decide)]
        exact Eq.trans (if_neg (show ¬ (2 : Int32) = 0 by decide)) rfl
      · exact inv_no hI (k018_keep.tr (kG0_keep.tr k11_keep)) (x := 2) (by simp [uI_get, kG0]) (by simp [uI_get]) (by decide)
    · obtain ⟨hm, p, q, hp, hq, hpq, rfl, rfl⟩ := ppB_ok hI hA
      obtain ⟨s, hs1, hs, rfl⟩ := dB99_ok hU
      have h5 := p5 hm hp
      have h5q := p5 hm hq
      obtain ⟨hf, hfw⟩ := hm.debt h5 h5q
      have e42 : S.1 42 (p * 5 + q) = S.1 61 (10 + 5 * p + q) := hI.c.debt h5 h5q
      have e0 : ∀ a, a ≠ 0 → (kuI S 0 18 0).1 a = S.1 a := fun a ha => kuI_ne S 18 0 ha
      simp only [Bool.true_and, if_true]
      rw [knx_e, nI5m, kgi_nI (by omega) (by omega), nI_clamp (by omega), e0 42 (by decide), e42, hf, kite (nI_leI (show s < 2 ^ 31 by omega) (show gN S 61 (10 + 5 * p + q) < 2 ^ 31 by omega))]
      by_cases hle : s ≤ gN S 61 (10 + 5 * p + q)
      · rw [if_pos hle]
        obtain ⟨T, e1, e2, e3, e4, e5, e6⟩ := c_act0 hI
        rw [e1]
        simp only [Option.bind_some]
        rw [kgi_nI (by omega) (by omega), kgi_nI (by omega) (by omega), knx_e, kgi_nI (by omega) (by omega), e6, e42, hf, pk_sub hle]
        have hC : Cact S (kuI T 42 (p * 5 + q) (nI (gN S 61 (10 + 5 * p + q) - s))) := e2.u hI (Or.inr (by omega)) _ _
        obtain ⟨T', g1, g2, g3⟩ := m_act0 hI hC
        obtain ⟨q1, q2, q3, q4⟩ := hC.g hI
        refine ⟨_, _, kuI T' 61 (10 + 5 * p + q) (nI (gN S 61 (10 + 5 * p + q) - s)), rfl, ?_, ?_⟩
        · unfold f_m11_pay
          rw [m_good]
          simp only [Option.bind_some]
          rw [m_twoR hI q1 (by rw [q2]), hA]
          simp only [Option.bind_some]
          rw [m_in, show decide (1 ≤ nI s ∧ nI s ≤ 99) = dB99 (nI s) from rfl, hU]
          simp only [Option.bind_some]
          rw [m_why]
          simp only [Option.bind_some, if_true]
          rw [knx_e, m_debtOf h5 h5q]
          simp only [Option.bind_some]
          rw [q3, hf, if_pos (nI_le hle (by omega)), if_pos True.intro, g1]
          simp only [Option.bind_some]
          rw [knx_e, show (10 : Int32) + 5 * nI p + nI q = nI (10 + 5 * p + q) by rw [show (10 : Int32) = nI 10 from rfl, show (5 : Int32) = nI 5 from rfl, pk_mul, nI_add, nI_add], kgi_nI (by omega) (by omega), kgi_nI (by omega) (by omega), nI_clamp (by omega), knx_e, g3, hf, pk_sub hle, m_debtOf h5 h5q]
          simp only [Option.bind_some]
          rw [uI_get, if_pos ⟨rfl, rfl⟩, uI_get, if_pos ⟨rfl, rfl⟩]
        · refine act_fin hI (ppB_hB hA) ⟨e3, e4, e5, e6⟩ (Or.inr (Or.inr ⟨rfl, by omega, by omega⟩)) hC g2 g3 ⟨_, rfl, fun _ => by omega, fun _ _ => by omega, fun _ _ => by omega, fun _ _ q => by omega, by omega⟩
      · rw [if_neg hle]
        refine ⟨_, _, kuI (kG0 (kuI (kuI S 0 18 0) 0 18 5)) 14 11 5, rfl, ?_, ?_⟩
        · unfold f_m11_pay
          rw [m_good]
          simp only [Option.bind_some]
          have hk : keep S (kG0 (kuI (kuI S 0 18 0) 0 18 5)) := k018_keep.tr (k018_keep.tr kG0_keep)
          rw [m_two hI hk, hA]
          simp only [Option.bind_some]
          rw [m_in, show decide (1 ≤ nI s ∧ nI s ≤ 99) = dB99 (nI s) from rfl, hU]
          simp only [Option.bind_some]
          rw [m_why]
          simp only [Option.bind_some, if_true]
          rw [knx_e, m_debtOf h5 h5q]
          simp only [Option.bind_some]
          rw [hk.at (a := 61) rfl, hf, if_neg (nI_ge (by omega) (by omega)), if_neg (show ¬ (5 : Int32) = 0 by decide)]
          rfl
        · exact inv_no hI (keep_no 5 5) (x := 5) (by simp [uI_get, kG0]) (by simp [uI_get]) (by decide)
