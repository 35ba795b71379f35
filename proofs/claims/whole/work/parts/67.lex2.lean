-- the reference's next; words
section LEX
variable {t : Nat → Nat} {n : Nat}
theorem nI_m1 {b : Nat} (hb : b < 2 ^ 31) : ¬ nI b = (-1 : Int32) := by
  intro q
  have h := nI_pos (n := b) hb
  rw [q] at h
  exact h (by decide)
theorem m_next {M : kSt} {e : Nat} (hT : mT t n M) (he : e ≤ n) (h5 : M.1 14 5 = nI e) (h9 : M.1 14 9 = 0) (h13 : M.1 14 13 = 0) : ∃ M', f_m11_next M = some M' ∧ mR t n M' (rnE spB t n e) ∧ eqM M M' := by
  have hn := hT.2.1
  have hF := kFU_big
  have hb := rnE_b spB t n e
  have hsn := hb.2.1 he
  unfold f_m11_next
  rw [knx_e, h5, m_spL hT (n - e) e kFU (by omega) (by omega)]
  generalize rnE spB t n e = s at *
  simp only [knx_e]
  have hT1 : mT t n (kuI M 14 4 (nI s)) := hT.c (kuI_ne _ _ _ (by decide)) (uI_no _ _ (by omega))
  rw [m_see hT1 (by omega)]
  simp only [Option.bind_some]
  have hT2 : mT t n (kuI (kuI (kuI M 14 4 (nI s)) 14 8 0) 14 7 0) := hT1.c (by rw [kuI_ne _ _ _ (by decide), kuI_ne _ _ _ (by decide)]) (by rw [uI_no _ _ (by omega), uI_no _ _ (by omega)])
  have e4 : (kuI (kuI (kuI M 14 4 (nI s)) 14 8 0) 14 7 0).1 14 4 = nI s := by rw [uI_no _ _ (by omega), uI_no _ _ (by omega), uI_at]
  have e8 : (kuI (kuI (kuI M 14 4 (nI s)) 14 8 0) 14 7 0).1 14 8 = nI 0 := by rw [uI_no _ _ (by omega), uI_at]; rfl
  have e7 : (kuI (kuI (kuI M 14 4 (nI s)) 14 8 0) 14 7 0).1 14 7 = nI 0 := by rw [uI_at]; rfl
  have e9 : (kuI (kuI (kuI M 14 4 (nI s)) 14 8 0) 14 7 0).1 14 9 = 0 := by rw [uI_no _ _ (by omega), uI_no _ _ (by omega), uI_no _ _ (by omega)]; exact h9
  have e13 : (kuI (kuI (kuI M 14 4 (nI s)) 14 8 0) 14 7 0).1 14 13 = 0 := by rw [uI_no _ _ (by omega), uI_no _ _ (by omega), uI_no _ _ (by omega)]; exact h13
  have ee : eqM M (kuI (kuI (kuI M 14 4 (nI s)) 14 8 0) 14 7 0) := ⟨fun a h1 h2 => by rw [kuI_ne _ _ _ h1, kuI_ne _ _ _ h1, kuI_ne _ _ _ h1], fun j h1 h2 => by rw [uI_no _ _ (by omega), uI_no _ _ (by omega), uI_no _ _ (by omega)]⟩
  generalize kuI (kuI (kuI M 14 4 (nI s)) 14 8 0) 14 7 0 = D at *
  unfold mR
  by_cases h0 : s < n
  · have b1 := (hT2.1 s (by omega)).1
    have hv : seeV t n s = nI (t s) := by unfold seeV; rw [if_pos h0]
    rw [hv, if_neg (nI_m1 (by omega)), m_isSmall b1]
    simp only [Option.bind_some]
    by_cases h1 : ltB (t s) = true
    · have hE : lexE t n s = rnE ltB t n s := by unfold lexE; rw [if_pos h0, if_pos h1]
      have hK : lexK t n s = if 8 < rnE ltB t n s - s then 4 else 1 := by unfold lexK; rw [if_pos h0, if_pos h1]
      have hbl := rnE_b ltB t n s
      have hbn := hbl.2.1 hsn
      rw [if_pos h1]
      obtain ⟨M', g1, g2, g3, g4, g5, g6⟩ := m_ltL (t := t) (n := n) (K := fun (x46 : Int32) (S47 : kSt) => some (kuI (kuI S47 14 5 x46) 14 6 (if ((kuI S47 14 5 x46).1 14 8) ≤ 8 then 2 else 1))) (n - s) s kFU 0 D hT2 (by omega) (by omega) (by omega) e8
      rw [g1]
      rw [Nat.zero_add] at g2 g3
      rw [uI_no _ _ (show ¬ ((14 : Nat) = 14 ∧ 8 = 5) by omega), g2, kite (show nI (rnE ltB t n s - s) ≤ (8 : Int32) ↔ rnE ltB t n s - s ≤ 8 from nI_leI (b := 8) (by omega) (by omega))]
      refine ⟨_, rfl, ⟨hT2.c (by rw [kuI_ne _ _ _ (by decide), kuI_ne _ _ _ (by decide), g5 55 (by decide) (by decide)]) (by rw [uI_no _ _ (by omega), uI_no _ _ (by omega), g6 3 (by decide)]), hsn, ?_, ?_, ?_, fun q => ⟨?_, fun k hk => ?_⟩, fun q => ?_, ?_, ?_⟩, fun a a1 a2 => ?_, fun j j1 j2 => ?_⟩
      · rw [uI_no _ _ (by omega), uI_no _ _ (by omega), g6 4 (by decide), e4]
      · rw [uI_no _ _ (by omega), uI_at, hE]
      · rw [uI_at, hK]
        by_cases h8 : 8 < rnE ltB t n s - s
        · rw [if_neg (by omega), if_pos h8]; rfl
        · rw [if_pos (by omega), if_neg h8]; rfl
      · rw [uI_no _ _ (by omega), uI_no _ _ (by omega), g2, hE]
      · have h8 := (lexK_1 q).2.1
        rw [kuI_ne _ _ _ (by decide), kuI_ne _ _ _ (by decide)]
        rw [hE] at hk h8
        rw [g3 k (by omega) hk (by omega), Nat.sub_zero]
      · rw [hK] at q
        by_cases h8 : 8 < rnE ltB t n s - s
        · rw [if_pos h8] at q; omega
        · rw [if_neg h8] at q; omega
      · rw [uI_no _ _ (by omega), uI_no _ _ (by omega), g6 9 (by decide), e9]
      · rw [uI_no _ _ (by omega), uI_no _ _ (by omega), g6 13 (by decide), e13]
      · rw [kuI_ne _ _ _ a1, kuI_ne _ _ _ a1, g5 a a1 a2, ee.1 a a1 a2]
      · rw [uI_no _ _ (by omega), uI_no _ _ (by omega), g6 j (by omega), ee.2 j j1 j2]
    · rw [if_neg h1, m_isDigit b1]
      simp only [Option.bind_some]
      by_cases hd : dgB (t s) = true
      · have hE : lexE t n s = rnE dgB t n s := by unfold lexE; rw [if_pos h0, if_neg h1, if_pos hd]
        have hK : lexK t n s = if 3 < rnE dgB t n s - s then 4 else 2 := by unfold lexK; rw [if_pos h0, if_neg h1, if_pos hd]
        have hbl := rnE_b dgB t n s
        have hbn := hbl.2.1 hsn
        rw [if_pos hd]
        obtain ⟨M', g1, g2, g3, g4⟩ := m_dgL (t := t) (n := n) (K := fun (x29 : Int32) (x30 : Int32) (S31 : kSt) => some (kuI (kuI S31 14 5 x29) 14 6 (if x30 ≤ 3 then 3 else 1))) (n - s) s kFU 0 0 D hT2 (by omega) (by omega) (by omega) (fun _ => e7)
        rw [show (0 : Int32) = nI 0 from rfl, g1]
        rw [Nat.zero_add] at g2
        rw [Nat.zero_add, kite (show nI (rnE dgB t n s - s) ≤ (3 : Int32) ↔ rnE dgB t n s - s ≤ 3 from nI_leI (b := 3) (by omega) (by omega))]
        refine ⟨_, rfl, ⟨hT2.c (by rw [kuI_ne _ _ _ (by decide), kuI_ne _ _ _ (by decide), g3 55 (by decide)]) (by rw [uI_no _ _ (by omega), uI_no _ _ (by omega), g4 3 (by decide)]), hsn, ?_, ?_, ?_, fun q => ?_, fun q => ?_, ?_, ?_⟩, fun a a1 a2 => ?_, fun j j1 j2 => ?_⟩
        · rw [uI_no _ _ (by omega), uI_no _ _ (by omega), g4 4 (by decide), e4]
        · rw [uI_no _ _ (by omega), uI_at, hE]
        · rw [uI_at, hK]
          by_cases h8 : 3 < rnE dgB t n s - s
          · rw [if_neg (by omega), if_pos h8]; rfl
          · rw [if_pos (by omega), if_neg h8]; rfl
        · rw [hK] at q
          by_cases h8 : 3 < rnE dgB t n s - s
          · rw [if_pos h8] at q; omega
          · rw [if_neg h8] at q; omega
        · rw [hK] at q
          by_cases h8 : 3 < rnE dgB t n s - s
          · rw [if_pos h8] at q; omega
          · rw [uI_no _ _ (by omega), uI_no _ _ (by omega), g2 (by omega)]
            unfold wvN
            rw [hE]
        · rw [uI_no _ _ (by omega), uI_no _ _ (by omega), g4 9 (by decide)]; exact e9
        · rw [uI_no _ _ (by omega), uI_no _ _ (by omega), g4 13 (by decide)]; exact e13
        · rw [kuI_ne _ _ _ a1, kuI_ne _ _ _ a1, g3 a a1, ee.1 a a1 a2]
        · rw [uI_no _ _ (by omega), uI_no _ _ (by omega), g4 j (by omega), ee.2 j j1 j2]
      · have hE : lexE t n s = s + 1 := by unfold lexE; rw [if_pos h0, if_neg h1, if_neg hd]
        have hK : lexK t n s = if t s = 59 then 3 else 4 := by unfold lexK; rw [if_pos h0, if_neg h1, if_neg hd]
        rw [if_neg hd, nI_1, kite (show nI (t s) = 59 ↔ t s = 59 from nI_eq (b := 59) (by omega) (by omega))]
        refine ⟨_, rfl, ⟨hT2.c (by rw [kuI_ne _ _ _ (by decide), kuI_ne _ _ _ (by decide)]) (by rw [uI_no _ _ (by omega), uI_no _ _ (by omega)]), hsn, ?_, ?_, ?_, fun q => ?_, fun q => ?_, ?_, ?_⟩, fun a a1 a2 => ?_, fun j j1 j2 => ?_⟩
        · rw [uI_no _ _ (by omega), uI_no _ _ (by omega), e4]
        · rw [uI_no _ _ (by omega), uI_at, hE]
        · rw [uI_at, hK]
          by_cases h8 : t s = 59
          · rw [if_pos h8, if_pos h8, h8]; rfl
          · rw [if_neg h8, if_neg h8]; rfl
        · rw [hK] at q
          by_cases h8 : t s = 59
          · rw [if_pos h8] at q; omega
          · rw [if_neg h8] at q; omega
        · rw [hK] at q
          by_cases h8 : t s = 59
          · rw [if_pos h8] at q; omega
          · rw [if_neg h8] at q; omega
        · rw [uI_no _ _ (by omega), uI_no _ _ (by omega), e9]
        · rw [uI_no _ _ (by omega), uI_no _ _ (by omega), e13]
        · rw [kuI_ne _ _ _ a1, kuI_ne _ _ _ a1, ee.1 a a1 a2]
        · rw [uI_no _ _ (by omega), uI_no _ _ (by omega), ee.2 j j1 j2]
  · have hE : lexE t n s = s := by unfold lexE; rw [if_neg h0]
    have hK : lexK t n s = 0 := by unfold lexK; rw [if_neg h0]
    have hv : seeV t n s = -1 := by unfold seeV; rw [if_neg h0]
    rw [hv, if_pos rfl]
    refine ⟨_, rfl, ⟨hT2.c (by rw [kuI_ne _ _ _ (by decide), kuI_ne _ _ _ (by decide)]) (by rw [uI_no _ _ (by omega), uI_no _ _ (by omega)]), hsn, ?_, ?_, ?_, fun q => by omega, fun q => by omega, ?_, ?_⟩, fun a a1 a2 => ?_, fun j j1 j2 => ?_⟩
    · rw [uI_no _ _ (by omega), uI_no _ _ (by omega), e4]
    · rw [uI_at, hE]
    · rw [uI_no _ _ (by omega), uI_at, hK]; rfl
    · rw [uI_no _ _ (by omega), uI_no _ _ (by omega), e9]
    · rw [uI_no _ _ (by omega), uI_no _ _ (by omega), e13]
    · rw [kuI_ne _ _ _ a1, kuI_ne _ _ _ a1, ee.1 a a1 a2]
    · rw [uI_no _ _ (by omega), uI_no _ _ (by omega), ee.2 j j1 j2]
theorem cR.nx {C : kSt} {s : Nat} (h : cR t n C s) : ∃ C', f_m7_next C = some C' ∧ cR t n C' (nxS t n s) ∧ eqC C C' := by
  obtain ⟨a, b, c, d, e, f, g⟩ := h
  exact c_nxt a (lexE_b b).2 d g
theorem mR.nx {M : kSt} {s : Nat} (h : mR t n M s) : ∃ M', f_m11_next M = some M' ∧ mR t n M' (nxS t n s) ∧ eqM M M' := by
  obtain ⟨a, b, c, d, e, f, g, i, j⟩ := h
  exact m_next a (lexE_b b).2 d i j
theorem cR.c {C C' : kSt} {s : Nat} (h : cR t n C s) (h3 : C'.1 3 = C.1 3) (h15 : C'.1 15 = C.1 15) : cR t n C' s := by
  obtain ⟨a, b, c, d, e, f, g⟩ := h
  exact ⟨a.c h15 (by rw [h3]), b, by rw [h3]; exact c, by rw [h3]; exact d, by rw [h3]; exact e, by rw [h3]; exact f, by rw [h3]; exact g⟩
theorem mR.c {M M' : kSt} {s : Nat} (h : mR t n M s) (h14 : M'.1 14 = M.1 14) (h55 : M'.1 55 = M.1 55) (h56 : M'.1 56 = M.1 56) : mR t n M' s := by
  obtain ⟨a, b, c, d, e, f, g, i, j⟩ := h
  exact ⟨a.c h55 (by rw [h14]), b, by rw [h14]; exact c, by rw [h14]; exact d, by rw [h14]; exact e, by rw [h14, h56]; exact f, by rw [h14]; exact g, by rw [h14]; exact i, by rw [h14]; exact j⟩
theorem cR.u {C : kSt} {s k : Nat} (h : cR t n C s) (h3 : k ≠ 3) (h15 : k ≠ 15) (j : Nat) (x : Int32) : cR t n (kuI C k j x) s := h.c (kuI_ne _ _ _ (Ne.symm h3)) (kuI_ne _ _ _ (Ne.symm h15))
theorem mR.u {M : kSt} {s k : Nat} (h : mR t n M s) (h14 : k ≠ 14) (h55 : k ≠ 55) (h56 : k ≠ 56) (j : Nat) (x : Int32) : mR t n (kuI M k j x) s := h.c (kuI_ne _ _ _ (Ne.symm h14)) (kuI_ne _ _ _ (Ne.symm h55)) (kuI_ne _ _ _ (Ne.symm h56))
theorem eqC.rf {C : kSt} : eqC C C := fun _ _ => rfl
theorem eqC.tr {C C1 C2 : kSt} (h1 : eqC C C1) (h2 : eqC C1 C2) : eqC C C2 := fun a ha => (h2 a ha).trans (h1 a ha)
theorem eqM.rf {M : kSt} : eqM M M := ⟨fun _ _ _ => rfl, fun _ _ _ => rfl⟩
theorem eqM.tr {M M1 M2 : kSt} (h1 : eqM M M1) (h2 : eqM M1 M2) : eqM M M2 := ⟨fun a a1 a2 => (h2.1 a a1 a2).trans (h1.1 a a1 a2), fun j j1 j2 => (h2.2 j j1 j2).trans (h1.2 j j1 j2)⟩
theorem uI_cg {S S' : kSt} {a : Nat} (h : S'.1 a = S.1 a) (k j : Nat) (x : Int32) : (kuI S' k j x).1 a = (kuI S k j x).1 a := by
  unfold kuI
  by_cases q : a = k
  · simp only [q, if_true]
    rw [← q, h]
  · simp only [q, if_false]
    exact h
theorem eqC.u {C C' : kSt} (h : eqC C C') (k j : Nat) (x : Int32) : eqC (kuI C k j x) (kuI C' k j x) := fun a ha => uI_cg (h a ha) k j x
theorem eqM.u {M M' : kSt} (h : eqM M M') {k : Nat} (hk : k ≠ 14) (j : Nat) (x : Int32) : eqM (kuI M k j x) (kuI M' k j x) := ⟨fun a a1 a2 => uI_cg (h.1 a a1 a2) k j x, fun i i1 i2 => by rw [kuI_ne _ _ _ (Ne.symm hk), kuI_ne _ _ _ (Ne.symm hk)]; exact h.2 i i1 i2⟩
-- words
theorem J_len (i : Nat) (hi : i < 16) (S : kSt) : f_mJ_length_J0 i S = some (nI (kLen.getD i 0), S) := by
  have h : ∀ i, i < 16 → (Int32.ofNat (kLen.getD i 0)) >>> ((0 : Int32) &&& 31) = nI (kLen.getD i 0) := by decide +kernel
  show some (_, S) = _
  exact congrArg (fun x => some (x, S)) (h i hi)
def wBy (i k : Nat) : Int32 := (kByt.getD i []).getD k 0
theorem kLen_8 : ∀ i, i < 16 → kLen.getD i 0 ≤ 8 ∧ 1 ≤ kLen.getD i 0 := by decide +kernel
theorem J_chr : ∀ i, i < 16 → ∀ k, k < kLen.getD i 0 → ((wBy i k &&& 255).toUInt32 % 65536).toInt32 = wBy i k := by decide +kernel
theorem wBy_l : ∀ i, i < 16 → ∀ k, k < kLen.getD i 0 → wBy i k = nI (wBy i k).toNatClampNeg ∧ (wBy i k).toNatClampNeg < 128 := by decide +kernel
theorem J_at {i k : Nat} (hi : i < 16) (hk : k < kLen.getD i 0) (S : kSt) : f_mJ_charAt_J0 i (nI k) S = some (wBy i k, S) := by
  have h8 := (kLen_8 i hi).1
  unfold f_mJ_charAt_J0
  rw [show f_mJ_isLatin1_J0 i S = some (true, S) from rfl]
  simp only [Option.bind_some, if_true]
  unfold f_mJ_charAt_J1 f_mJ_checkIndex_J0 f_mJ_checkIndex_J3
  simp only [knx_e]
  rw [if_neg (nI_pos (by omega)), if_pos (show nI k < Int32.ofNat (kLen.getD i 0) from nI_lt hk (by omega))]
  simp only [Option.bind_some]
  rw [kgi_nI hk (by omega), nI_clamp (by omega)]
  simp only [Option.bind_some]
  exact congrArg (fun x => some (x, S)) (J_chr i hi k hk)
/-- the token at s is the i-th word -/
def wq (t : Nat → Nat) (n s i : Nat) : Bool := decide (lexK t n s = 1 ∧ lexE t n s - s = kLen.getD i 0 ∧ ∀ k, k < kLen.getD i 0 → nI (t (s + k)) = wBy i k)
theorem wq_f {s i k : Nat} (hk : k < kLen.getD i 0) (h : ¬ nI (t (s + k)) = wBy i k) : wq t n s i = false := decide_eq_false (fun q => h (q.2.2 k hk))
theorem c_wdL {C : kSt} {s i : Nat} (hi : i < 16) (h : cR t n C s) (hK : lexK t n s = 1) (hL : lexE t n s - s = kLen.getD i 0) (K1 K2 : kSt → Option (Bool × kSt)) (hK1 : ∀ S, K1 S = some (false, S)) (hK2 : ∀ S, K2 S = some (true, S)) : ∀ (d k fu : Nat), k + d = kLen.getD i 0 → d < fu → (∀ j, j < k → nI (t (s + j)) = wBy i j) → f_m7_isWord_L28 i K1 K2 fu (nI k) C = some (wq t n s i, C) := by
  obtain ⟨hT, hs, h4, -⟩ := h
  have h8 := (kLen_8 i hi).1
  have hn := hT.2.1
  have hb := lexE_b (t := t) hs
  intro d
  induction d with
  | zero =>
    intro k fu hk hfu hj
    obtain ⟨fu, rfl⟩ : ∃ m, fu = m + 1 := ⟨fu - 1, by omega⟩
    rw [f_m7_isWord_L28, J_len i hi]
    simp only [Option.bind_some]
    rw [if_pos (nI_le (by omega) (by omega)), hK2]
    unfold wq
    rw [decide_eq_true ⟨hK, hL, fun j q => hj j (by omega)⟩]
  | succ d ih =>
    intro k fu hk hfu hj
    obtain ⟨fu, rfl⟩ : ∃ m, fu = m + 1 := ⟨fu - 1, by omega⟩
    rw [f_m7_isWord_L28, J_len i hi]
    simp only [Option.bind_some, knx_e]
    obtain ⟨b1, b2⟩ := hT.1 (s + k) (by omega)
    obtain ⟨w1, w2⟩ := wBy_l i hi k (by omega)
    rw [if_neg (nI_ge (by omega) (by omega)), h4, nI_add, kgi_nI (by omega) (by omega), nI_clamp (by omega), J_at hi (by omega), b2]
    simp only [Option.bind_some]
    rw [kite (show sg (t (s + k)) = wBy i k ↔ nI (t (s + k)) = wBy i k from by rw [w1, sg_eq b1 w2, nI_eq (by omega) (by omega)])]
    by_cases q : nI (t (s + k)) = wBy i k
    · rw [if_pos q, nI_1, ih (k + 1) fu (by omega) (by omega) (fun j hj2 => by
        by_cases e : j = k
        · rw [e]; exact q
        · exact hj j (by omega))]
    · rw [if_neg q, hK1, wq_f (by omega) q]
theorem c_isWord {C : kSt} {s i : Nat} (hi : i < 16) (h : cR t n C s) : f_m7_isWord i C = some (wq t n s i, C) := by
  have hF := kFU_big
  have h8 := (kLen_8 i hi).1
  have hb := lexE_b (t := t) h.2.1
  have hn := h.1.2.1
  have h4 := lexK_4 (t := t) (n := n) s
  unfold f_m7_isWord
  rw [h.2.2.2.2.1, kite (show nI (lexK t n s) = 1 ↔ lexK t n s = 1 from nI_eq (b := 1) (by omega) (by omega))]
  by_cases hK : lexK t n s = 1
  · rw [if_pos hK, J_len i hi]
    simp only [Option.bind_some]
    rw [h.2.2.2.1, h.2.2.1, pk_sub hb.1, kite (nI_eq (by omega) (by omega))]
    by_cases hL : lexE t n s - s = kLen.getD i 0
    · rw [if_pos hL]
      exact c_wdL hi h hK hL _ _ (fun _ => rfl) (fun _ => rfl) (kLen.getD i 0) 0 kFU (by omega) (by omega) (fun j hj => by omega)
    · rw [if_neg hL]
      unfold wq
      rw [decide_eq_false (fun q => hL q.2.1)]
  · rw [if_neg hK]
    unfold wq
    rw [decide_eq_false (fun q => hK q.1)]
theorem m_wdL0 {M : kSt} {L i : Nat} (hL : L ≤ 8) (h8 : M.1 14 8 = nI L) (K : Bool → kSt → Option (Bool × kSt)) : ∀ (d k fu : Nat), k + d = L → d < fu → f_m11_isWord_L32 i K fu false (nI k) M = K false M := by
  intro d
  induction d with
  | zero =>
    intro k fu hk hfu
    obtain ⟨fu, rfl⟩ : ∃ m, fu = m + 1 := ⟨fu - 1, by omega⟩
    rw [f_m11_isWord_L32, h8, if_pos (nI_le (by omega) (by omega))]
  | succ d ih =>
    intro k fu hk hfu
    obtain ⟨fu, rfl⟩ : ∃ m, fu = m + 1 := ⟨fu - 1, by omega⟩
    rw [f_m11_isWord_L32, h8, if_neg (nI_ge (by omega) (by omega))]
    simp only [knx_e, Bool.false_eq_true, if_false]
    rw [nI_1]
    exact ih (k + 1) fu (by omega) (by omega)
theorem m_wdL {M : kSt} {s i : Nat} (hi : i < 16) (h : mR t n M s) (hK : lexK t n s = 1) (hL : lexE t n s - s = kLen.getD i 0) (K : Bool → kSt → Option (Bool × kSt)) : ∀ (d k fu : Nat), k + d = kLen.getD i 0 → d < fu → (∀ j, j < k → nI (t (s + j)) = wBy i j) → f_m11_isWord_L32 i K fu true (nI k) M = K (wq t n s i) M := by
  obtain ⟨hT, hs, -, -, -, hw, -⟩ := h
  obtain ⟨h8, h56⟩ := hw hK
  have hl8 := (kLen_8 i hi).1
  have hn := hT.2.1
  have hb := lexE_b (t := t) hs
  intro d
  induction d with
  | zero =>
    intro k fu hk hfu hj
    obtain ⟨fu, rfl⟩ : ∃ m, fu = m + 1 := ⟨fu - 1, by omega⟩
    rw [f_m11_isWord_L32, h8, if_pos (nI_le (by omega) (by omega))]
    unfold wq
    rw [decide_eq_true ⟨hK, hL, fun j q => hj j (by omega)⟩]
  | succ d ih =>
    intro k fu hk hfu hj
    obtain ⟨fu, rfl⟩ : ∃ m, fu = m + 1 := ⟨fu - 1, by omega⟩
    rw [f_m11_isWord_L32, h8, if_neg (nI_ge (by omega) (by omega))]
    simp only [knx_e, if_true]
    rw [kgi_nI (by omega) (by omega), nI_clamp (by omega), J_at hi (by omega), h56 k (by omega)]
    simp only [Option.bind_some]
    by_cases q : nI (t (s + k)) = wBy i k
    · rw [if_pos q, nI_1, ih (k + 1) fu (by omega) (by omega) (fun j hj2 => by
        by_cases e : j = k
        · rw [e]; exact q
        · exact hj j (by omega))]
    · rw [if_neg q, nI_1, m_wdL0 (L := kLen.getD i 0) hl8 (by rw [h8, hL]) K d (k + 1) fu (by omega) (by omega), wq_f (by omega) q]
theorem tkM_2 : ∀ k, k ≤ 4 → (tkM k = 2 ↔ k = 1) ∧ (tkM k = 3 ↔ k = 2) ∧ (tkM k = 59 ↔ k = 3) ∧ (tkM k = 0 ↔ k = 0) ∧ tkM k ≤ 59 := by decide +kernel
theorem m_isWord {M : kSt} {s i : Nat} (hi : i < 16) (h : mR t n M s) : f_m11_isWord i M = some (wq t n s i, M) := by
  have hF := kFU_big
  have h8 := (kLen_8 i hi).1
  have hb := lexE_b (t := t) h.2.1
  have hn := h.1.2.1
  have h4 := tkM_2 _ (lexK_4 (t := t) (n := n) s)
  unfold f_m11_isWord
  rw [h.2.2.2.2.2.2.2.2, show (0 : Int32) = kb false from rfl, kgb_kb]
  simp only [Bool.false_eq_true, if_false]
  rw [h.2.2.2.2.1, kite (show nI (tkM (lexK t n s)) = 2 ↔ lexK t n s = 1 from (nI_eq (b := 2) (by omega) (by omega)).trans h4.1)]
  by_cases hK : lexK t n s = 1
  · rw [if_pos hK, J_len i hi]
    simp only [Option.bind_some]
    rw [(h.2.2.2.2.2.1 hK).1, kite (nI_eq (by omega) (by omega))]
    by_cases hL : lexE t n s - s = kLen.getD i 0
    · rw [if_pos hL]
      exact m_wdL hi h hK hL _ (kLen.getD i 0) 0 kFU (by omega) (by omega) (fun j hj => by omega)
    · rw [if_neg hL]
      unfold wq
      rw [decide_eq_false (fun q => hL q.2.1)]
  · rw [if_neg hK]
    unfold wq
    rw [decide_eq_false (fun q => hK q.1)]
end LEX
