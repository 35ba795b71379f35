-- acts: history
def hist (S : kSt) : Prop := kB S 14 22 16 ∧ S.1 5 2 = S.1 14 22 ∧ kB S 5 1 15 ∧ ∀ i, i < gN S 14 22 → rowEq S (73 + (gN S 5 1 + 15 - i) % 16) 62 (36 * (gN S 14 22 - 1 - i)) ∧ rowOk S 62 (36 * (gN S 14 22 - 1 - i))
def nowE (S : kSt) : Prop := (∀ p, p < 5 → S.1 40 p = S.1 61 p ∧ S.1 41 p = S.1 61 (5 + p)) ∧ (∀ j, j < 25 → S.1 42 j = S.1 61 (10 + j)) ∧ S.1 4 0 = S.1 61 35
def kpA (a : Nat) : Bool := a == 1 || a == 15 || (18 ≤ a && a < 28) || a == 55 || a == 57 || a == 59 || a == 63 || (70 ≤ a && a < 73)
def rest (S S' : kSt) : Prop := (∀ a, kpA a = true → S'.1 a = S.1 a) ∧ (S'.1 0 1 = S.1 0 1 ∧ S'.1 0 5 = S.1 0 5 ∧ S'.1 0 9 = S.1 0 9) ∧ (S'.1 3 9 = S.1 3 9 ∧ S'.1 3 10 = S.1 3 10) ∧ (S'.1 14 2 = S.1 14 2 ∧ S'.1 14 9 = S.1 14 9 ∧ S'.1 14 10 = S.1 14 10 ∧ S'.1 14 14 = S.1 14 14 ∧ S'.1 14 23 = S.1 14 23)
theorem rest.tr {S S1 S2 : kSt} (h1 : rest S S1) (h2 : rest S1 S2) : rest S S2 := by
  obtain ⟨a1, ⟨a2, a3, a4⟩, ⟨a5, a6⟩, a7, a8, a9, a10, a12⟩ := h1
  obtain ⟨b1, ⟨b2, b3, b4⟩, ⟨b5, b6⟩, b7, b8, b9, b10, b12⟩ := h2
  exact ⟨fun a h => (b1 a h).trans (a1 a h), ⟨b2.trans a2, b3.trans a3, b4.trans a4⟩, ⟨b5.trans a5, b6.trans a6⟩, b7.trans a7, b8.trans a8, b9.trans a9, b10.trans a10, b12.trans a12⟩
theorem kpA_kpc : ∀ a, kpA a = true → kpc a = true := by
  intro a h
  by_cases h2 : a < 90
  · have : ∀ a, a < 90 → kpA a = true → kpc a = true := by decide +kernel
    exact this a h2 h
  · exfalso
    unfold kpA at h
    simp only [Bool.or_eq_true, Bool.and_eq_true, decide_eq_true_eq, beq_iff_eq] at h
    omega
theorem keep.rest {S S' : kSt} (h : keep S S') : rest S S' := by
  obtain ⟨k1, k2, k3, k7, k8, k9, k10, k11, k12⟩ := h
  exact ⟨fun a ha => k1 a (kpA_kpc a ha), k2, k3, k7, k8, k9, k10, k12⟩
theorem kB_v {S S' : kSt} {k j k' j' b : Nat} (h : S'.1 k' j' = S.1 k j) (hb : kB S k j b) : kB S' k' j' b := by
  unfold kB gN at *
  rw [h]
  exact hb
theorem rowOk_c {S S' : kSt} {c c' o o' : Nat} (h : ∀ k, k < 36 → S'.1 c' (o' + k) = S.1 c (o + k)) (h57 : S'.1 57 0 = S.1 57 0) (hr : rowOk S c o) : rowOk S' c' o' := by
  obtain ⟨h1, h2, h3, h4⟩ := hr
  refine ⟨fun p hp => ⟨?_, ?_⟩, fun j hj => ?_, fun p hp => ?_, ?_⟩
  · rw [gN_c h57]
    exact kB_v (h p (by omega)) (h1 p hp).1
  · rw [Nat.add_assoc]
    refine kB_v (h (5 + p) (by omega)) ?_
    rw [← Nat.add_assoc]
    exact (h1 p hp).2
  · rw [Nat.add_assoc]
    refine kB_v (h (10 + j) (by omega)) ?_
    rw [← Nat.add_assoc]
    exact h2 j hj
  · rw [Nat.add_assoc, h (10 + 6 * p) (by omega), ← Nat.add_assoc]
    exact h3 p hp
  · exact kB_v (h 35 (by omega)) h4
theorem rowEq_c {S S' : kSt} {c m o c' m' o' : Nat} (h : ∀ k, k < 36 → S'.1 m' (o' + k) = S.1 m (o + k)) (hc : ∀ j, S'.1 c' j = S.1 c j) (hr : rowEq S c m o) : rowEq S' c' m' o' := by
  obtain ⟨h1, h2⟩ := hr
  refine ⟨fun j hj => ?_, ?_⟩
  · rw [hc, h j (by omega)]
    exact h1 j hj
  · rw [hc, h 35 (by omega)]
    exact h2
theorem md16 {f i : Nat} (hf : f ≤ 15) (hi : 1 ≤ i) (h2 : i < 16) : ((f + 1) % 16 + 15 - i) % 16 = (f + 15 - (i - 1)) % 16 ∧ ¬ (f + 15 - (i - 1)) % 16 = f := by omega
theorem hist_push {S S' : kSt} (hh : hist S) (ho : rowOk S 61 0) (h57 : S'.1 57 0 = S.1 57 0) (h51 : S'.1 5 1 = nI ((gN S 5 1 + 1) % 16)) (h52 : S'.1 5 2 = nI (min (gN S 14 22 + 1) 16)) (h22 : S'.1 14 22 = nI (min (gN S 14 22 + 1) 16))
    (hrow : ∀ c, c < 16 → ¬ c = gN S 5 1 → ∀ j, S'.1 (73 + c) j = S.1 (73 + c) j) (hnew : (∀ j, j < 35 → S'.1 (73 + gN S 5 1) (j + 1) = S.1 61 j) ∧ S'.1 (73 + gN S 5 1) 0 = S.1 61 35)
    (h62 : ∀ k, k < 36 → S'.1 62 (36 * (if gN S 14 22 = 16 then 15 else gN S 14 22) + k) = S.1 61 k) (h62o : ∀ k, k < 36 * (if gN S 14 22 = 16 then 15 else gN S 14 22) → S'.1 62 k = S.1 62 (if gN S 14 22 = 16 then k + 36 else k)) : hist S' := by
  obtain ⟨⟨-, u16⟩, -, ⟨-, f15⟩, hr⟩ := hh
  generalize hu : gN S 14 22 = u at *
  generalize hff : gN S 5 1 = f at *
  have g22 : gN S' 14 22 = min (u + 1) 16 := gN_of h22 (by omega)
  have g51 : gN S' 5 1 = (f + 1) % 16 := gN_of h51 (by omega)
  refine ⟨kB_of h22 (by omega) (by omega), by rw [h52, h22], kB_of h51 (by omega) (by omega), ?_⟩
  rw [g22, g51]
  intro i hi
  by_cases hi0 : i = 0
  · subst hi0
    have e1 : ((f + 1) % 16 + 15 - 0) % 16 = f := by omega
    have e2 : 36 * (min (u + 1) 16 - 1 - 0) = 36 * (if u = 16 then 15 else u) := by
      by_cases q : u = 16
      · rw [if_pos q]; omega
      · rw [if_neg q]; omega
    rw [e1, e2]
    refine ⟨⟨fun j hj => ?_, ?_⟩, ?_⟩
    · rw [hnew.1 j hj, h62 j (by omega)]
    · rw [hnew.2, h62 35 (by omega)]
    · exact rowOk_c (fun k hk => by rw [h62 k hk, Nat.zero_add]) h57 ho
  · obtain ⟨e1, e2⟩ := md16 f15 (show 1 ≤ i by omega) (show i < 16 by omega)
    rw [e1]
    have hlt : i - 1 < u := by omega
    obtain ⟨r1, r2⟩ := hr (i - 1) hlt
    have e3 : ∀ k, k < 36 → S'.1 62 (36 * (min (u + 1) 16 - 1 - i) + k) = S.1 62 (36 * (u - 1 - (i - 1)) + k) := by
      intro k hk
      by_cases q : u = 16
      · rw [if_pos q] at h62o
        simp only [if_pos q] at h62o
        rw [h62o _ (by omega)]
        exact congrArg (S.1 62) (by omega)
      · rw [if_neg q] at h62o
        simp only [if_neg q] at h62o
        rw [h62o _ (by omega)]
        exact congrArg (S.1 62) (by omega)
    refine ⟨rowEq_c e3 (fun j => ?_) r1, rowOk_c e3 h57 r2⟩
    exact hrow _ (by omega) e2 j
theorem cp_get (S : kSt) (k0 k1 sp dp n a j : Nat) : (kcp S k0 k1 sp dp n).1 a j = if a = k1 then (if dp ≤ j ∧ j < dp + n then S.1 k0 (sp + (j - dp)) else S.1 k1 j) else S.1 a j := by
  unfold kcp
  rw [uA_get]
  by_cases h : a = k1
  · rw [if_pos h, if_pos h]
    by_cases h2 : dp ≤ j ∧ j < dp + n
    · rw [if_pos h2, pk_cpy_in h2.1 h2.2]
    · rw [if_neg h2, pk_cpy_out (by omega)]
  · rw [if_neg h, if_neg h]
theorem c_save {S : kSt} {w : Nat} (hw : 70 ≤ w) : ∃ T, f_m4_save w S = some T ∧ frm w S T ∧ T.1 w 0 = S.1 4 0 ∧ (∀ j, j < 5 → T.1 w (1 + j) = S.1 40 j ∧ T.1 w (6 + j) = S.1 41 j) ∧ ∀ j, j < 25 → T.1 w (11 + j) = S.1 42 j := by
  unfold f_m4_save
  rw [if_pos (show (36 : Int32) ≤ Int32.ofNat 36 by decide)]
  rw [show kgi 0 36 = fun (o : Option kSt) => o from funext fun o => kgi_nI (n := 0) (by omega) (by omega)]
  simp only [knx]
  have n4 : ¬ 4 = w := by omega
  have n40 : ¬ 40 = w := by omega
  have n41 : ¬ 41 = w := by omega
  have n42 : ¬ 42 = w := by omega
  refine ⟨_, rfl, ⟨fun a ha => funext fun j => ?_, rfl⟩, ?_, fun j hj => ⟨?_, ?_⟩, fun j hj => ?_⟩
  · simp only [cp_get, uI_get, ha, if_false, false_and]
  · simp only [cp_get, uI_get, if_true, n40, n41, n42, if_false, false_and]
    rfl
  · simp only [cp_get, uI_get, if_true, n40, n41, n42, if_false, false_and]
    rw [if_neg (by omega), if_neg (by omega), if_pos (by omega)]
    exact congrArg (S.1 40) (by omega)
  · simp only [cp_get, uI_get, if_true, n40, n41, n42, if_false, false_and]
    rw [if_neg (by omega), if_pos (by omega)]
    exact congrArg (S.1 41) (by omega)
  · simp only [cp_get, uI_get, if_true, n40, n41, n42, if_false, false_and]
    rw [if_pos (by omega)]
    exact congrArg (S.1 42) (by omega)
theorem c_load {S : kSt} {w : Nat} (hw : 70 ≤ w) : ∃ T, f_m4_load w S = some T ∧ (∀ a, a ≠ 4 → a ≠ 40 → a ≠ 41 → a ≠ 42 → T.1 a = S.1 a) ∧ T.1 4 0 = S.1 w 0 ∧ (∀ j, j < 5 → T.1 40 j = S.1 w (1 + j) ∧ T.1 41 j = S.1 w (6 + j)) ∧ ∀ j, j < 25 → T.1 42 j = S.1 w (11 + j) := by
  unfold f_m4_load
  rw [if_pos (show (36 : Int32) ≤ Int32.ofNat 36 by decide)]
  rw [show kgi 0 36 = fun (o : Option kSt) => o from funext fun o => kgi_nI (n := 0) (by omega) (by omega)]
  simp only [knx]
  have n4 : ¬ w = 4 := by omega
  have n40 : ¬ w = 40 := by omega
  have n41 : ¬ w = 41 := by omega
  have n42 : ¬ w = 42 := by omega
  refine ⟨_, rfl, fun a h4 h40 h41 h42 => funext fun j => ?_, ?_, fun j hj => ⟨?_, ?_⟩, fun j hj => ?_⟩
  · simp only [cp_get, uI_get, h4, h40, h41, h42, if_false, false_and]
  · simp only [cp_get, uI_get, if_true, show ¬ (4 : Nat) = 40 by decide, show ¬ (4 : Nat) = 41 by decide, show ¬ (4 : Nat) = 42 by decide, if_false, true_and]
    rfl
  · simp only [cp_get, uI_get, if_true, n4, n40, n41, n42, show ¬ (40 : Nat) = 41 by decide, show ¬ (40 : Nat) = 42 by decide, if_false, false_and]
    rw [if_pos (by omega)]
    congr 1
  · simp only [cp_get, uI_get, if_true, n4, n40, n41, n42, show ¬ (41 : Nat) = 42 by decide, if_false, false_and]
    rw [if_pos (by omega)]
    congr 1
  · simp only [cp_get, uI_get, if_true, n4, n40, n41, n42, if_false, false_and]
    rw [if_pos (by omega)]
    congr 1
theorem row_of {S T : kSt} {w : Nat} (hn : nowE S) (h0 : T.1 w 0 = S.1 4 0) (h1 : ∀ j, j < 5 → T.1 w (1 + j) = S.1 40 j ∧ T.1 w (6 + j) = S.1 41 j) (h2 : ∀ j, j < 25 → T.1 w (11 + j) = S.1 42 j) : (∀ j, j < 35 → T.1 w (j + 1) = S.1 61 j) ∧ T.1 w 0 = S.1 61 35 := by
  refine ⟨fun j hj => ?_, by rw [h0]; exact hn.2.2⟩
  by_cases a : j < 5
  · rw [Nat.add_comm, (h1 j a).1, (hn.1 j a).1]
  · by_cases b : j < 10
    · rw [show j + 1 = 6 + (j - 5) by omega, (h1 (j - 5) (by omega)).2, (hn.1 (j - 5) (by omega)).2]
      exact congrArg (S.1 61) (by omega)
    · rw [show j + 1 = 11 + (j - 10) by omega, h2 (j - 10) (by omega), hn.2.1 (j - 10) (by omega)]
      exact congrArg (S.1 61) (by omega)
theorem c_keep {S : kSt} (hh : hist S) (hn : nowE S) : ∃ T, f_m3_keep S = some T ∧ (∀ a, a ≠ 5 → a ≠ 73 + gN S 5 1 → T.1 a = S.1 a) ∧ T.1 5 1 = nI ((gN S 5 1 + 1) % 16) ∧ T.1 5 2 = nI (min (gN S 14 22 + 1) 16) ∧ (∀ j, j < 35 → T.1 (73 + gN S 5 1) (j + 1) = S.1 61 j) ∧ T.1 (73 + gN S 5 1) 0 = S.1 61 35 := by
  obtain ⟨⟨u1, u16⟩, u2, ⟨f1, f15⟩, -⟩ := hh
  unfold f_m3_keep
  simp only [knx]
  rw [f1, kgi_nI (by omega) (by omega), nI_clamp (by omega)]
  obtain ⟨T, e1, e2, e3, e4, e5⟩ := c_save (S := S) (w := 73 + gN S 5 1) (by omega)
  rw [e1]
  simp only [Option.bind_some]
  have e6 := row_of hn e3 e4 e5
  have h5 : T.1 5 = S.1 5 := e2.1 5 (by omega)
  refine ⟨_, rfl, fun a h5 h7 => ?_, ?_, ?_, fun j hj => ?_, ?_⟩
  · rw [kuI_ne _ _ _ h5, kuI_ne _ _ _ h5]
    exact e2.1 a h7
  · rw [uI_get, if_neg (by omega), uI_get, if_pos ⟨rfl, rfl⟩, h5, f1, nI_1]
    exact krem_nI (b := 16) (by omega) (by omega) (by omega)
  · rw [uI_get, if_pos ⟨rfl, rfl⟩, uI_get, if_neg (by omega), h5, u2, u1, nI_1]
    exact kmin_nI (b := 16) (by omega) (by omega)
  · rw [uI_get, if_neg (by omega), uI_get, if_neg (by omega)]
    exact e6.1 j hj
  · rw [uI_get, if_neg (by omega), uI_get, if_neg (by omega)]
    exact e6.2
theorem m_shiftL {S : kSt} (K : kSt → Option kSt) : ∀ (j i fu : Nat) (T : kSt), i + j = 540 → j < fu → frm 62 S T → (∀ k, k < i → T.1 62 k = S.1 62 (k + 36)) → (∀ k, i ≤ k → T.1 62 k = S.1 62 k) → ∃ T', f_m11_note_L11 K fu (nI i) T = K T' ∧ frm 62 S T' ∧ (∀ k, k < 540 → T'.1 62 k = S.1 62 (k + 36)) := by
  intro j
  induction j with
  | zero =>
    intro i fu T hi hfu hf h1 h2
    obtain ⟨fu, rfl⟩ : ∃ m, fu = m + 1 := ⟨fu - 1, by omega⟩
    rw [f_m11_note_L11, if_pos (show (540 : Int32) ≤ nI i from nI_le (a := 540) (by omega) (by omega))]
    exact ⟨T, rfl, hf, fun k hk => h1 k (by omega)⟩
  | succ j ih =>
    intro i fu T hi hfu hf h1 h2
    obtain ⟨fu, rfl⟩ : ∃ m, fu = m + 1 := ⟨fu - 1, by omega⟩
    rw [f_m11_note_L11, if_neg (show ¬ (540 : Int32) ≤ nI i from nI_ge (b := 540) (by omega) (by omega))]
    simp only [knx]
    rw [show nI i + 36 = nI (i + 36) from nI_add i 36, kgi_nI (by omega) (by omega), kgi_nI (by omega) (by omega), nI_clamp (by omega), nI_clamp (by omega), nI_1]
    refine ih (i + 1) fu _ (by omega) (by omega) (hf.u _ _) (fun k hk => ?_) (fun k hk => ?_)
    · rw [uI_get]
      by_cases q : k = i
      · rw [if_pos ⟨rfl, q⟩, h2 (i + 36) (by omega), q]
      · rw [if_neg (fun z => q z.2), h1 k (by omega)]
    · rw [uI_get, if_neg (by omega), h2 k (by omega)]
def frN (S T : kSt) : Prop := (∀ a, a ≠ 14 → a ≠ 62 → T.1 a = S.1 a) ∧ ∀ j, j ≠ 22 → T.1 14 j = S.1 14 j
theorem m_noteT {S : kSt} {u : Nat} (hu : u ≤ 15) (h22 : S.1 14 22 = nI u) : ∃ T, ((f_m11_copy 61 36 0 62 576 (36 * (S.1 14 22)) 36 S).bind fun q2 => knx (kuI q2 14 22 ((q2.1 14 22) + 1)) fun S3 => some S3) = some T ∧ frN S T ∧ T.1 14 22 = nI (u + 1) ∧ (∀ k, k < 36 → T.1 62 (36 * u + k) = S.1 61 k) ∧ ∀ k, k < 36 * u → T.1 62 k = S.1 62 k := by
  obtain ⟨T, e1, e2, e3⟩ := m_copy (S := S) (w0 := 61) (n0 := 36) (w2 := 62) (n2 := 576) (a := 0) (b := 36 * u) (m := 36) (by decide) (by omega) (by omega) (by omega) (by omega) (by omega)
  rw [h22, show (36 : Int32) * nI u = nI (36 * u) from pk_mul 36 u, show f_m11_copy 61 36 0 62 576 (nI (36 * u)) 36 S = _ from e1]
  simp only [Option.bind_some, knx]
  have h14 : T.1 14 = S.1 14 := e2.1 14 (by decide)
  refine ⟨_, rfl, ⟨fun a h1 h2 => ?_, fun j hj => ?_⟩, ?_, fun k hk => ?_, fun k hk => ?_⟩
  · rw [kuI_ne _ _ _ h1]
    exact e2.1 a h2
  · rw [uI_get, if_neg (fun q => hj q.2), h14]
  · rw [uI_get, if_pos ⟨rfl, rfl⟩, h14, h22, nI_1]
  · rw [uI_get, if_neg (by omega), e3, if_pos (by omega)]
    exact congrArg (S.1 61) (by omega)
  · rw [uI_get, if_neg (by omega), e3, if_neg (by omega)]
theorem m_note {S : kSt} {u : Nat} (hu : u ≤ 16) (h22 : S.1 14 22 = nI u) : ∃ T, f_m11_note S = some T ∧ frN S T ∧ T.1 14 22 = nI (min (u + 1) 16) ∧ (∀ k, k < 36 → T.1 62 (36 * (if u = 16 then 15 else u) + k) = S.1 61 k) ∧ ∀ k, k < 36 * (if u = 16 then 15 else u) → T.1 62 k = S.1 62 (if u = 16 then k + 36 else k) := by
  unfold f_m11_note
  rw [knx_e, h22]
  by_cases q : u = 16
  · subst q
    rw [if_pos (show nI 16 = 16 from rfl)]
    obtain ⟨T, e1, e2, e3⟩ := m_shiftL (S := S) (fun (S9 : kSt) => knx (kuI S9 14 22 ((S9.1 14 22) - 1)) fun S10 => (f_m11_copy 61 36 0 62 576 (36 * (S10.1 14 22)) 36 S10).bind fun q2 => knx (kuI q2 14 22 ((q2.1 14 22) + 1)) fun S3 => some S3) 540 0 kFU S (by omega) (by have := kFU_big; omega) frm.rf (fun k hk => absurd hk (by omega)) (fun k _ => rfl)
    have h14 : T.1 14 = S.1 14 := e2.1 14 (by decide)
    obtain ⟨T2, g1, g2, g3, g4, g5⟩ := m_noteT (S := kuI T 14 22 ((T.1 14 22) - 1)) (u := 15) (by omega) (by rw [uI_get, if_pos ⟨rfl, rfl⟩, h14, h22]; rfl)
    refine ⟨T2, Eq.trans e1 g1, ⟨fun a h1 h2 => ?_, fun j hj => ?_⟩, g3, fun k hk => ?_, fun k hk => ?_⟩
    · rw [g2.1 a h1 h2, kuI_ne _ _ _ h1]
      exact e2.1 a h2
    · rw [g2.2 j hj, uI_get, if_neg (fun z => hj z.2), h14]
    · rw [if_pos rfl, g4 k hk, kuI_ne _ _ _ (by decide), e2.1 61 (by decide)]
    · rw [if_pos rfl] at hk ⊢
      rw [g5 k hk, kuI_ne _ _ _ (by decide), e3 k (by omega)]
  · rw [if_neg (show ¬ nI u = 16 from fun z => q ((nI_eq (b := 16) (by omega) (by omega)).mp z))]
    obtain ⟨T2, g1, g2, g3, g4, g5⟩ := m_noteT (S := S) (u := u) (by omega) h22
    refine ⟨T2, g1, g2, by rw [g3, Nat.min_eq_left (by omega)], fun k hk => ?_, fun k hk => ?_⟩
    · rw [if_neg q, g4 k hk]
    · rw [if_neg q] at hk ⊢
      exact g5 k hk
