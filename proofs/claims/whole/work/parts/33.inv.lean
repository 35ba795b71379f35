-- THE INVARIANT between class and reference
def rowEq (S : kSt) (c m o : Nat) : Prop := (∀ j, j < 35 → S.1 c (j + 1) = S.1 m (o + j)) ∧ S.1 c 0 = S.1 m (o + 35)
def none57 (S : kSt) : Prop := (∀ i, i < 7 → S.1 57 i = 0) ∧ S.1 61 35 = 0 ∧ S.1 14 22 = 0 ∧ S.1 14 23 = 0
def Inv (S : kSt) : Prop :=
  ((kB S 14 2 900 ∧ S.1 0 1 = S.1 14 2) ∧ ∀ j, j < 900 → kB S 55 j 255 ∧ S.1 15 j = (S.1 55 j).toInt8.toInt32) ∧
  (∃ b : Bool, S.1 14 14 = kb b ∧ S.1 0 5 = kb b ∧ (b = true → mOk S) ∧ (b = false → none57 S)) ∧
  cOk S ∧
  (S.1 0 18 = S.1 14 11 ∧ S.1 3 9 = S.1 14 9 ∧ (S.1 14 11 = 4 → S.1 3 10 = S.1 14 10)) ∧
  (kB S 14 22 16 ∧ S.1 5 2 = S.1 14 22 ∧ kB S 5 1 15 ∧ ∀ i, i < gN S 14 22 → rowEq S (73 + (gN S 5 1 + 15 - i) % 16) 62 (36 * (gN S 14 22 - 1 - i)) ∧ rowOk S 62 (36 * (gN S 14 22 - 1 - i))) ∧
  (kB S 14 23 3 ∧ S.1 0 9 = S.1 14 23 ∧ ∀ i, i < gN S 14 23 → rowEq S (70 + i) 63 (36 * i) ∧ rowOk S 63 (36 * i))
/-- cells that hold something from call to call -/
def kpc (a : Nat) : Bool := a == 1 || a == 4 || a == 5 || a == 15 || (18 ≤ a && a < 28) || (40 ≤ a && a < 43) || (70 ≤ a && a < 89) || a == 55 || a == 57 || a == 59 || a == 61 || a == 62 || a == 63
/-- nothing of that has changed but the two troubles -/
def keep (S S' : kSt) : Prop := (∀ a, kpc a = true → S'.1 a = S.1 a) ∧ (S'.1 0 1 = S.1 0 1 ∧ S'.1 0 5 = S.1 0 5 ∧ S'.1 0 9 = S.1 0 9) ∧ (S'.1 3 9 = S.1 3 9 ∧ S'.1 3 10 = S.1 3 10) ∧ (S'.1 14 2 = S.1 14 2 ∧ S'.1 14 9 = S.1 14 9 ∧ S'.1 14 10 = S.1 14 10 ∧ S'.1 14 14 = S.1 14 14 ∧ S'.1 14 22 = S.1 14 22 ∧ S'.1 14 23 = S.1 14 23)
theorem keep.rf {S : kSt} : keep S S := ⟨fun _ _ => rfl, ⟨rfl, rfl, rfl⟩, ⟨rfl, rfl⟩, rfl, rfl, rfl, rfl, rfl, rfl⟩
theorem keep.tr {S S1 S2 : kSt} (h1 : keep S S1) (h2 : keep S1 S2) : keep S S2 := by
  obtain ⟨a1, ⟨a2, a3, a4⟩, ⟨a5, a6⟩, a7, a8, a9, a10, a11, a12⟩ := h1
  obtain ⟨b1, ⟨b2, b3, b4⟩, ⟨b5, b6⟩, b7, b8, b9, b10, b11, b12⟩ := h2
  exact ⟨fun a h => (b1 a h).trans (a1 a h), ⟨b2.trans a2, b3.trans a3, b4.trans a4⟩, ⟨b5.trans a5, b6.trans a6⟩, b7.trans a7, b8.trans a8, b9.trans a9, b10.trans a10, b11.trans a11, b12.trans a12⟩
theorem frm.keep {w : Nat} {S S' : kSt} (h : frm w S S') (hw : kpc w = false) (h0 : w ≠ 0) (h3 : w ≠ 3) (h14 : w ≠ 14) : keep S S' := by
  have e0 := h.1 0 (Ne.symm h0)
  have e3 := h.1 3 (Ne.symm h3)
  have e14 := h.1 14 (Ne.symm h14)
  refine ⟨fun a ha => h.1 a (fun q => by rw [q, hw] at ha; cases ha), ?_, ?_, ?_⟩
  · rw [e0]; exact ⟨rfl, rfl, rfl⟩
  · rw [e3]; exact ⟨rfl, rfl⟩
  · rw [e14]; exact ⟨rfl, rfl, rfl, rfl, rfl, rfl⟩
theorem keep_u {S : kSt} {k j : Nat} {x : Int32} (h : kpc k = false) (h0 : k = 0 → j ≠ 1 ∧ j ≠ 5 ∧ j ≠ 9) (h3 : k = 3 → j ≠ 9 ∧ j ≠ 10) (h14 : k = 14 → j ≠ 2 ∧ j ≠ 9 ∧ j ≠ 10 ∧ j ≠ 14 ∧ j ≠ 22 ∧ j ≠ 23) : keep S (kuI S k j x) := by
  refine ⟨fun a ha => kuI_ne S j x (fun q => by rw [q, h] at ha; cases ha), ?_, ?_, ?_⟩
  · refine ⟨?_, ?_, ?_⟩ <;> (rw [uI_get, if_neg]; rintro ⟨q1, q2⟩; have := h0 q1.symm; omega)
  · refine ⟨?_, ?_⟩ <;> (rw [uI_get, if_neg]; rintro ⟨q1, q2⟩; have := h3 q1.symm; omega)
  · refine ⟨?_, ?_, ?_, ?_, ?_, ?_⟩ <;> (rw [uI_get, if_neg]; rintro ⟨q1, q2⟩; have := h14 q1.symm; omega)
theorem keep_L {S S' : kSt} (h : S'.1 = S.1) : keep S S' := by
  refine ⟨fun a _ => by rw [h], ?_, ?_, ?_⟩ <;> rw [h] <;> simp
theorem gN_c {S S' : kSt} {k j : Nat} (h : S'.1 k j = S.1 k j) : gN S' k j = gN S k j := by
  unfold gN
  rw [h]
theorem kB_c {S S' : kSt} {k j b : Nat} (h : S'.1 k j = S.1 k j) : kB S' k j b ↔ kB S k j b := by
  unfold kB gN
  rw [h]
theorem keep.at {S S' : kSt} (h : keep S S') {a : Nat} (ha : kpc a = true) (j : Nat) : S'.1 a j = S.1 a j := by
  rw [h.1 a ha]
theorem keep.gn {S S' : kSt} (h : keep S S') {a : Nat} (ha : kpc a = true) (j : Nat) : gN S' a j = gN S a j := gN_c (h.at ha j)
theorem keep.row {S S' : kSt} (h : keep S S') {c o : Nat} (hc : kpc c = true) : rowOk S' c o ↔ rowOk S c o := by
  unfold rowOk
  simp only [kB_c (h.at hc _), h.at hc, h.gn (a := 57) rfl]
theorem keep.req {S S' : kSt} (h : keep S S') {c m o : Nat} (hc : kpc c = true) (hm : kpc m = true) : rowEq S' c m o ↔ rowEq S c m o := by
  unfold rowEq
  simp only [h.at hc, h.at hm]
theorem keep.mk {S S' : kSt} (h : keep S S') : mOk S' ↔ mOk S := by
  unfold mOk
  simp only [kB_c (h.at (a := 57) rfl _), h.gn (a := 57) rfl, h.row (c := 59) rfl, h.row (c := 61) rfl]
theorem keep.ck {S S' : kSt} (h : keep S S') : cOk S' ↔ cOk S := by
  unfold cOk
  simp only [h.at (a := 57) rfl, h.gn (a := 57) rfl, h.at (a := 1) rfl, h.at (a := 18) rfl, h.at (a := 21) rfl, h.at (a := 19) rfl, h.at (a := 20) rfl, h.at (a := 40) rfl, h.at (a := 41) rfl, h.at (a := 59) rfl, h.at (a := 61) rfl, h.at (a := 22) rfl, h.at (a := 42) rfl, h.at (a := 23) rfl, h.at (a := 24) rfl, h.at (a := 25) rfl, h.at (a := 26) rfl, h.at (a := 27) rfl, h.at (a := 4) rfl]
theorem kpc_row (i : Nat) (h : i < 19) : kpc (70 + i) = true := by
  have : ∀ i, i < 19 → kpc (70 + i) = true := by decide +kernel
  exact this i h
theorem keep.inv {S S' : kSt} (h : keep S S') (hI : Inv S) (ht : S'.1 0 18 = S'.1 14 11) (h4 : S'.1 14 11 = 4 → S.1 14 11 = 4) : Inv S' := by
  obtain ⟨⟨⟨i1, i2⟩, i3⟩, ⟨b, i4, i5, i6, i7⟩, i8, ⟨i9, i10, i11⟩, ⟨i12, i13, i14, i15⟩, i16, i17, i18⟩ := hI
  obtain ⟨k1, ⟨k2, k3, k4⟩, ⟨k5, k6⟩, k7, k8, k9, k10, k11, k12⟩ := id h
  refine ⟨⟨⟨(kB_c k7).mpr i1, by rw [k2, k7]; exact i2⟩, fun j hj => ?_⟩, ⟨b, by rw [k10]; exact i4, by rw [k3]; exact i5, fun q => h.mk.mpr (i6 q), fun q => ?_⟩, h.ck.mpr i8, ⟨ht, by rw [k5, k8]; exact i10, fun q => by rw [k6, k9]; exact i11 (h4 q)⟩, ⟨(kB_c k11).mpr i12, by rw [h.at (a := 5) rfl, k11]; exact i13, (kB_c (h.at (a := 5) rfl _)).mpr i14, fun i hi => ?_⟩, (kB_c k12).mpr i16, by rw [k4, k12]; exact i17, fun i hi => ?_⟩
  · have := i3 j hj
    exact ⟨(kB_c (h.at (a := 55) rfl _)).mpr this.1, by rw [h.at (a := 15) rfl, h.at (a := 55) rfl]; exact this.2⟩
  · obtain ⟨j1, j2, j3, j4⟩ := i7 q
    exact ⟨fun i hi => by rw [h.at (a := 57) rfl]; exact j1 i hi, by rw [h.at (a := 61) rfl]; exact j2, by rw [k11]; exact j3, by rw [k12]; exact j4⟩
  · rw [gN_c k11] at hi ⊢
    rw [h.gn (a := 5) rfl]
    have hr : kpc (73 + (gN S 5 1 + 15 - i) % 16) = true := by
      have := kpc_row (3 + (gN S 5 1 + 15 - i) % 16) (by omega)
      rw [show 73 + (gN S 5 1 + 15 - i) % 16 = 70 + (3 + (gN S 5 1 + 15 - i) % 16) by omega]
      exact this
    have := i15 i hi
    exact ⟨(h.req hr rfl).mpr this.1, (h.row rfl).mpr this.2⟩
  · rw [gN_c k12] at hi
    have h3 : gN S 14 23 ≤ 3 := i16.2
    have := i18 i hi
    exact ⟨(h.req (kpc_row i (by omega)) rfl).mpr this.1, (h.row rfl).mpr this.2⟩
-- heads of calls
def pB (S : kSt) (a : Int32) : Bool := decide (S.1 14 14 = 1 ∧ 0 ≤ a ∧ a < S.1 57 2)
def uB (a : Int32) (n : Int32) : Bool := decide (0 ≤ a ∧ a ≤ n)
theorem ge0 {a : Int32} : ¬ a < 0 ↔ 0 ≤ a := Int32.not_lt
theorem c_upTo (a n : Int32) (S : kSt) : f_m10_upTo a n S = some (uB a n, S) := by
  unfold f_m10_upTo uB
  by_cases h1 : a < 0
  · rw [if_pos h1]
    simp [Int32.not_le.mpr h1]
  · rw [if_neg h1]
    by_cases h2 : n < a
    · rw [if_pos h2]
      simp [Int32.not_le.mpr h2]
    · rw [if_neg h2]
      simp [ge0.mp h1, Int32.not_lt.mp h2]
theorem c_isPair {S : kSt} (hI : Inv S) (a : Int32) : f_m10_isPair a S = some (pB S a, S) := by
  obtain ⟨-, ⟨b, i4, i5, i6, i7⟩, i8, -⟩ := hI
  have h2 := i8.1 2 (by omega)
  unfold f_m10_isPair pB
  rw [i5, kgb_kb, i4, h2]
  cases b
  · simp [kb]
  · simp only [if_true]
    by_cases h1 : a < 0
    · rw [if_pos h1]
      simp [Int32.not_le.mpr h1]
    · rw [if_neg h1]
      by_cases h2 : S.1 57 2 ≤ a
      · rw [if_pos h2]
        simp [Int32.not_lt.mpr h2]
      · rw [if_neg h2]
        simp [ge0.mp h1, Int32.not_le.mp h2, kb]
theorem c_may (a b : Bool) (S : kSt) : f_m10_may a b S = some (a && b, kuI S 0 18 (if a then (if b then 0 else 2) else 1)) := by
  unfold f_m10_may
  cases a <;> cases b <;> simp [knx, uI_get]
theorem c_may1 (a : Bool) (S : kSt) : f_m10_may_ a S = some (a, kuI S 0 18 (if a then 0 else 1)) := by
  unfold f_m10_may_
  rw [c_may]
  cases a <;> rfl
theorem m_in (a l h : Int32) (S : kSt) : f_m11_in a l h S = some (decide (l ≤ a ∧ a ≤ h), S) := by
  unfold f_m11_in
  by_cases h1 : a < l
  · rw [if_pos h1]
    simp [Int32.not_le.mpr h1]
  · rw [if_neg h1]
    by_cases h2 : h < a
    · rw [if_pos h2]
      simp [Int32.not_le.mpr h2]
    · rw [if_neg h2]
      simp [Int32.not_lt.mp h1, Int32.not_lt.mp h2]
