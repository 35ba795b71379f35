-- a call, class beside reference
def Agree {ρ : Type} (f g : kSt → Option (ρ × kSt)) (S : kSt) : Prop := ∃ r S1 S2, f S = some (r, S1) ∧ g S1 = some (r, S2) ∧ Inv S2
/-- both bodies answer alike, and leave what is to be left -/
def Body {ρ : Type} (cb mb : kSt → Option (ρ × kSt)) (S : kSt) : Prop := ∃ r, (∃ S1, cb S = some (r, S1) ∧ keep S S1 ∧ S1.1 0 18 = S.1 0 18) ∧ ∀ T, keep S T → ∃ S2, mb T = some (r, S2) ∧ keep T S2 ∧ S2.1 14 11 = T.1 14 11 ∧ S2.1 0 18 = T.1 0 18
def kG0 (S : kSt) : kSt := kuI (kuI S 14 0 0) 14 11 0
theorem kG0_keep {S : kSt} : keep S (kG0 S) := (keep_u (k := 14) (j := 0) rfl (by decide) (by decide) (by decide)).tr (keep_u (k := 14) (j := 11) rfl (by decide) (by decide) (by decide))
theorem kG0_11 (S : kSt) : (kG0 S).1 14 11 = 0 := by simp [kG0, uI_get]
theorem kG0_18 (S : kSt) : (kG0 S).1 0 18 = S.1 0 18 := by simp [kG0, uI_get]
theorem k018_keep {S : kSt} {x : Int32} : keep S (kuI S 0 18 x) := keep_u (k := 0) (j := 18) rfl (by decide) (by decide) (by decide)
theorem k11_keep {S : kSt} {x : Int32} : keep S (kuI S 14 11 x) := keep_u (k := 14) (j := 11) rfl (by decide) (by decide) (by decide)
theorem ag_core {ρ : Type} {S : kSt} (hI : Inv S) {A B : Bool} {rf : ρ} {f g cb mb : kSt → Option (ρ × kSt)}
    (hf : f S = if A && B then cb (kuI S 0 18 0) else some (rf, kuI S 0 18 (if A then 2 else 1)))
    (hg : ∀ S1, keep S S1 → g S1 = if A && B then mb (kG0 S1) else some (rf, kuI (kG0 S1) 14 11 (if A then 2 else 1)))
    (hB : A = true → B = true → Body cb mb (kuI S 0 18 0)) : Agree f g S := by
  cases hAB : (A && B)
  · rw [hAB] at hf
    refine ⟨rf, kuI S 0 18 (if A then 2 else 1), kuI (kG0 (kuI S 0 18 (if A then 2 else 1))) 14 11 (if A then 2 else 1), hf, ?_, ?_⟩
    · rw [hg _ k018_keep, hAB]
      rfl
    · refine (k018_keep.tr (kG0_keep.tr k11_keep)).inv hI ?_ ?_
      · simp [uI_get, kG0]
      · intro h
        rw [uI_get, if_pos ⟨rfl, rfl⟩] at h
        cases A <;> simp at h
  · rw [hAB] at hf
    rw [Bool.and_eq_true] at hAB
    obtain ⟨r, ⟨S1, h1, h2, h3⟩, hm⟩ := hB hAB.1 hAB.2
    have hk : keep S S1 := k018_keep.tr h2
    obtain ⟨S2, g1, g2, g3, g4⟩ := hm (kG0 S1) (h2.tr kG0_keep)
    refine ⟨r, S1, S2, by rw [hf]; exact h1, ?_, ?_⟩
    · rw [hg S1 hk, hAB.1, hAB.2]
      exact g1
    · refine (hk.tr (kG0_keep.tr g2)).inv hI ?_ ?_
      · rw [g4, kG0_18, h3, g3, kG0_11, uI_get]
        rfl
      · intro h
        rw [g3, kG0_11] at h
        exact absurd h (by decide)
def hB (S : kSt) : Bool := decide (S.1 14 14 = 1)
theorem hB_c {S : kSt} (hI : Inv S) {α : Type} (F : Bool → Option α) : kgb (S.1 0 5) F = F (hB S) := by
  obtain ⟨-, ⟨b, i4, i5, i6, i7⟩, -⟩ := hI
  unfold hB
  rw [i5, kgb_kb, i4]
  cases b <;> rfl
theorem hB_m {S T : kSt} (hI : Inv S) (hk : keep S T) {α : Type} (F : Bool → Option α) : kgb (T.1 14 14) F = F (hB S) := by
  obtain ⟨-, ⟨b, i4, i5, i6, i7⟩, -⟩ := hI
  unfold hB
  rw [hk.2.2.2.2.2.2.1, i4, kgb_kb]
  cases b <;> rfl
theorem hB_ok {S : kSt} (hI : Inv S) (h : hB S = true) : mOk S := by
  obtain ⟨-, ⟨b, i4, i5, i6, i7⟩, -⟩ := hI
  unfold hB at h
  have h1 := of_decide_eq_true h
  rw [i4] at h1
  cases b
  · exact absurd h1 (by decide)
  · exact i6 rfl
theorem pB_ok {S : kSt} (hI : Inv S) {a : Int32} (h : pB S a = true) : mOk S ∧ ∃ p, p < gN S 57 2 ∧ a = nI p := by
  unfold pB at h
  obtain ⟨h1, h2, h3⟩ := of_decide_eq_true h
  have hm : mOk S := hB_ok hI (decide_eq_true h1)
  refine ⟨hm, ?_⟩
  obtain ⟨-, hP, hP5⟩ := hm.2.2.1
  rw [hP] at h3
  obtain ⟨j, hj, rfl⟩ := nI_of (Int32.not_lt.mpr h2)
  exact ⟨j, (nI_ltI hj (by omega)).mp h3, rfl⟩
theorem uB_ok {a : Int32} {N : Nat} (hN : N < 2 ^ 31) (h : uB a (nI N) = true) : ∃ n, n ≤ N ∧ a = nI n := by
  unfold uB at h
  obtain ⟨h1, h2⟩ := of_decide_eq_true h
  obtain ⟨j, hj, rfl⟩ := nI_of (Int32.not_lt.mpr h1)
  exact ⟨j, (nI_leI hj hN).mp h2, rfl⟩
theorem m_good (S : kSt) : f_m11_good S = some (kG0 S) := rfl
theorem m_no (t : Int32) (S : kSt) : f_m11_no t S = some (-1, kuI S 14 11 t) := rfl
theorem m_why (a b : Bool) (S : kSt) : f_m11_why a b S = some (if a then (if b then 0 else 2) else 1, S) := by
  unfold f_m11_why
  cases a <;> cases b <;> rfl
theorem m_aheadWhy (a : Bool) (n : Int32) (S : kSt) : f_m11_aheadWhy a n S = some (if a then (if uB n 60 then 0 else 2) else 1, S) := by
  unfold f_m11_aheadWhy
  rw [m_in]
  simp only [Option.bind_some]
  rw [m_why]
  rfl
theorem m_isPair {S T : kSt} (hI : Inv S) (hk : keep S T) (a : Int32) : f_m11_isPair a T = some (pB S a, T) := by
  unfold f_m11_isPair
  rw [hB_m hI hk, hk.at (a := 57) rfl]
  cases hh : hB S
  · have : pB S a = false := by
      unfold pB
      unfold hB at hh
      have := of_decide_eq_false hh
      simp [this]
    rw [this]
    rfl
  · have hm := hB_ok hI hh
    obtain ⟨hP1, hP, hP5⟩ := hm.2.2.1
    simp only [if_true]
    rw [m_in]
    simp only [Option.bind_some]
    have h1 := of_decide_eq_true hh
    have e : (decide (0 ≤ a ∧ a ≤ S.1 57 2 - 1)) = pB S a := by
      unfold pB
      rw [hP, show (1 : Int32) = nI 1 from rfl, pk_sub hP1]
      by_cases h0 : 0 ≤ a
      · obtain ⟨j, hj, rfl⟩ := nI_of (Int32.not_lt.mpr h0)
        simp only [h0, true_and, nI_leI hj (show gN S 57 2 - 1 < 2 ^ 31 by omega), nI_ltI hj (show gN S 57 2 < 2 ^ 31 by omega), decide_eq_decide]
        constructor
        · intro q
          exact ⟨h1, by omega⟩
        · intro q
          omega
      · simp [h0]
    rw [e]
    cases pB S a <;> rfl
theorem pB_k {S T : kSt} (hk : keep S T) (a : Int32) : pB T a = pB S a := by
  unfold pB
  rw [hk.2.2.2.2.2.2.1, hk.at (a := 57) rfl]
def ppB (S : kSt) (a b : Int32) : Bool := pB S a && pB S b && decide (¬ a = b)
theorem c_unlike {S : kSt} (hI : Inv S) (a b : Int32) : f_m10_areUnlike a b S = some (ppB S a b, S) := by
  unfold f_m10_areUnlike ppB
  rw [c_isPair hI]
  simp only [Option.bind_some]
  cases pB S a
  · rfl
  · simp only [if_true]
    rw [c_isPair hI]
    simp only [Option.bind_some]
    cases pB S b
    · rfl
    · simp only [if_true]
      by_cases h : a = b
      · simp [h]
      · simp [h]
theorem m_two {S T : kSt} (hI : Inv S) (hk : keep S T) (a b : Int32) : f_m11_areTwo a b T = some (ppB S a b, T) := by
  unfold f_m11_areTwo ppB
  rw [m_isPair hI hk]
  simp only [Option.bind_some]
  cases pB S a
  · rfl
  · simp only [if_true]
    rw [m_isPair hI hk]
    simp only [Option.bind_some]
    cases pB S b
    · rfl
    · simp only [if_true]
      by_cases h : a = b
      · simp [h]
      · simp [h]
theorem ppB_ok {S : kSt} (hI : Inv S) {a b : Int32} (h : ppB S a b = true) : mOk S ∧ ∃ p q, p < gN S 57 2 ∧ q < gN S 57 2 ∧ p ≠ q ∧ a = nI p ∧ b = nI q := by
  unfold ppB at h
  simp only [Bool.and_eq_true, decide_eq_true_eq] at h
  obtain ⟨hm, p, hp, rfl⟩ := pB_ok hI h.1.1
  obtain ⟨-, q, hq, rfl⟩ := pB_ok hI h.1.2
  exact ⟨hm, p, q, hp, hq, fun e => h.2 (by rw [e]), rfl, rfl⟩
theorem Inv.c {S : kSt} (h : Inv S) : cOk S := h.2.2.1
