-- who says MORE, as bits
def bitM (S : kSt) (P : Nat → Bool) : Nat → Int32
  | 0 => 0
  | k + 1 => bitM S P k ||| (if P k then 1 <<< (nI k &&& 31) else 0)
theorem c_isMore10 {S T : kSt} (hc : cOk S) (hm : mOk S) (hf : T.1 1 = S.1 1) {f : Nat} (h : f ≤ gN S 57 0) : f_m10_isMore (nI f) T = some (decide (gN S 57 0 < 2 * f), T) := by
  have b3 := hm.1.2.2
  unfold f_m10_isMore
  rw [hf, hc.words, hm.1.2.1, pk_sub h, kite (nI_leI (by omega) (by omega))]
  by_cases q : f ≤ gN S 57 0 - f
  · rw [if_pos q, decide_eq_false (by omega)]
  · rw [if_neg q, decide_eq_true (by omega)]
theorem c_bitsL {S T : kSt} (hc : cOk S) (hm : mOk S) {w : Nat} {v : Nat → Nat} (hf : T.1 1 = S.1 1) (hv : ∀ p, p < gN S 57 2 → T.1 w p = nI (v p) ∧ v p ≤ gN S 57 0) (K : Int32 → kSt → Option (Int32 × kSt)) : ∀ (j i fu : Nat), i + j = gN S 57 2 → j < fu → f_m10_bitsOfMore_L4 w K fu (bitM S (fun p => decide (gN S 57 0 < 2 * v p)) i) (nI i) T = K (bitM S (fun p => decide (gN S 57 0 < 2 * v p)) (gN S 57 2)) T := by
  intro j
  have hP := hm.2.2.1.2.1
  have hP5 := hm.2.2.1.2.2
  induction j with
  | zero =>
    intro i fu hi hfu
    obtain ⟨fu, rfl⟩ : ∃ m, fu = m + 1 := ⟨fu - 1, by omega⟩
    rw [f_m10_bitsOfMore_L4, hf, hc.pairs, hP, if_pos (nI_le (by omega) (by omega)), show gN S 57 2 = i by omega]
  | succ j ih =>
    intro i fu hi hfu
    obtain ⟨fu, rfl⟩ : ∃ m, fu = m + 1 := ⟨fu - 1, by omega⟩
    obtain ⟨v1, v2⟩ := hv i (by omega)
    rw [f_m10_bitsOfMore_L4, hf, hc.pairs, hP, if_neg (nI_ge (by omega) (by omega)), if_neg (show ¬ Int32.ofNat 5 ≤ nI i from nI_ge (by omega) (by omega)), kgi_nI (by omega) (by omega), nI_clamp (by omega), v1, c_isMore10 hc hm hf v2]
    simp only [Option.bind_some, knx]
    rw [nI_1, ← ih (i + 1) fu (by omega) (by omega), bitM]
    by_cases q : gN S 57 0 < 2 * v i
    · simp only [q, decide_true, if_true]
    · simp only [q, decide_false, Bool.false_eq_true, if_false, Int32.or_zero]
theorem c_bits {S T : kSt} (hc : cOk S) (hm : mOk S) {w : Nat} {v : Nat → Nat} (hf : T.1 1 = S.1 1) (hv : ∀ p, p < gN S 57 2 → T.1 w p = nI (v p) ∧ v p ≤ gN S 57 0) : f_m10_bitsOfMore w T = some (bitM S (fun p => decide (gN S 57 0 < 2 * v p)) (gN S 57 2), T) := by
  have hP5 := hm.2.2.1.2.2
  exact c_bitsL hc hm hf hv (fun x S => some (x, S)) (gN S 57 2) 0 kFU (by omega) (by show _ < 1000000; omega)
theorem m_mastL {S : kSt} (hm : mOk S) {n : Nat} (hn : n ≤ 60) (K : Int32 → kSt → Option (Int32 × kSt)) : ∀ (j i fu : Nat), i + j = gN S 57 2 → j < fu → f_m11_mastersIn_L4 K (nI n) fu (bitM S (fun p => moreS S p n) i) (nI i) S = K (bitM S (fun p => moreS S p n) (gN S 57 2)) S := by
  intro j
  have hP := hm.2.2.1.2.1
  have hP5 := hm.2.2.1.2.2
  induction j with
  | zero =>
    intro i fu hi hfu
    obtain ⟨fu, rfl⟩ : ∃ m, fu = m + 1 := ⟨fu - 1, by omega⟩
    rw [f_m11_mastersIn_L4, hP, if_pos (nI_le (by omega) (by omega)), show gN S 57 2 = i by omega]
  | succ j ih =>
    intro i fu hi hfu
    obtain ⟨fu, rfl⟩ : ∃ m, fu = m + 1 := ⟨fu - 1, by omega⟩
    rw [f_m11_mastersIn_L4, hP, if_neg (nI_ge (by omega) (by omega)), m_saysIn hm (by omega) (by omega)]
    simp only [Option.bind_some, knx]
    rw [m_isMore hm.1.2.1 (sayS_le hm (by omega) _) hm.1.2.2]
    simp only [Option.bind_some]
    rw [nI_1, ← ih (i + 1) fu (by omega) (by omega), bitM]
    show (if moreS S i n = true then _ else _) = _
    cases moreS S i n
    · simp only [Bool.false_eq_true, if_false]
    · simp only [if_true]
theorem m_mast {S : kSt} (hm : mOk S) {n : Nat} (hn : n ≤ 60) : f_m11_mastersIn (nI n) S = some (bitM S (fun p => moreS S p n) (gN S 57 2), S) := by
  have hP5 := hm.2.2.1.2.2
  exact m_mastL hm hn (fun x S => some (x, S)) (gN S 57 2) 0 kFU (by omega) (by show _ < 1000000; omega)
theorem bitM_k {S T : kSt} {P : Nat → Bool} : ∀ k, bitM T P k = bitM S P k
  | 0 => rfl
  | k + 1 => by rw [bitM, bitM, bitM_k (S := S) (T := T) k]
theorem b_masters {S : kSt} (hc : cOk S) (hm : mOk S) {n : Nat} (hn : n ≤ 60) : Body (cb_masters (nI n)) (mb_masters (nI n)) S := by
  have hP5 := hm.2.2.1.2.2
  refine body_c (bitM S (fun p => moreS S p n) (gN S 57 2)) ?_ (fun T hk => ?_)
  · obtain ⟨T, e1, e2, e3⟩ := c_all hc hm hn
    refine ⟨T, ?_, e2⟩
    unfold cb_masters
    rw [e1]
    simp only [Option.bind_some]
    rw [c_bits hc hm (w := 16) (v := fun p => sayS S p n) (e2 1 (by decide)) (fun p hp => ⟨e3 p hp, sayS_le hm (p5 hm hp) n⟩)]
    rfl
  · unfold mb_masters
    rw [m_mast (hk.mk.mpr hm) hn]
    simp only [Option.bind_some]
    rw [show (fun p => moreS T p n) = (fun p => moreS S p n) from funext fun p => moreS_k hk p n, hk.gn (a := 57) rfl, bitM_k (S := S) (T := T)]
-- turnsAbout
def trnS (S : kSt) (p k : Nat) : Bool := !(moreS S p (k - 1) == moreS S p k)
theorem c_trnL {S : kSt} (hm : mOk S) {p : Nat} (hp : p < 5) (K : Int32 → kSt → Option (Int32 × kSt)) : ∀ (j i fu : Nat) (T : kSt), i + j = 60 → j < fu → Wk S T 6 p i → ∃ T', f_m10_turnsAbout_L43 K fu (nI (cntK (trnS S p) i)) (moreS S p i) (nI (i + 1)) T = K (nI (cntK (trnS S p) 60)) T' ∧ frm 6 T T' := by
  intro j
  induction j with
  | zero =>
    intro i fu T hi hfu h
    obtain ⟨fu, rfl⟩ : ∃ m, fu = m + 1 := ⟨fu - 1, by omega⟩
    rw [f_m10_turnsAbout_L43, if_pos (show (60 : Int32) < nI (i + 1) from nI_lt (a := 60) (by omega) (by omega)), show i = 60 by omega]
    exact ⟨T, rfl, frm.rf⟩
  | succ j ih =>
    intro i fu T hi hfu h
    obtain ⟨fu, rfl⟩ : ∃ m, fu = m + 1 := ⟨fu - 1, by omega⟩
    rw [f_m10_turnsAbout_L43, if_neg (show ¬ (60 : Int32) < nI (i + 1) from nI_nlt (a := 60) (by omega) (by omega))]
    obtain ⟨T1, e1, e2, e3⟩ := c_step hm hp (by omega) h
    rw [e1]
    simp only [Option.bind_some, knx]
    rw [c_isMore e2 (sayS_le hm hp _) hm.1.2.2]
    simp only [Option.bind_some]
    rw [nI_1, nI_1]
    obtain ⟨T2, g1, g2⟩ := ih (i + 1) fu T1 (by omega) (by omega) e2
    refine ⟨T2, ?_, e3.tr g2⟩
    rw [← g1, cntK]
    show (if kb (moreS S p (i + 1)) = kb (moreS S p i) then f_m10_turnsAbout_L43 K fu _ (moreS S p (i + 1)) _ T1 else f_m10_turnsAbout_L43 K fu _ (moreS S p (i + 1)) _ T1) = _
    unfold trnS
    rw [show i + 1 - 1 = i by omega]
    cases moreS S p (i + 1) <;> cases moreS S p i <;> rfl
theorem m_trnL {S : kSt} (hm : mOk S) {p : Nat} (hp : p < 5) (K : Int32 → kSt → Option (Int32 × kSt)) : ∀ (j i fu : Nat), i + j = 60 → j < fu → f_m11_turnsAbout_L22 K (nI p) fu (nI (cntK (trnS S p) i)) (nI i) S = K (nI (cntK (trnS S p) 60)) S := by
  intro j
  induction j with
  | zero =>
    intro i fu hi hfu
    obtain ⟨fu, rfl⟩ : ∃ m, fu = m + 1 := ⟨fu - 1, by omega⟩
    rw [f_m11_turnsAbout_L22, if_pos (show (60 : Int32) ≤ nI i from nI_le (a := 60) (by omega) (by omega)), show i = 60 by omega]
  | succ j ih =>
    intro i fu hi hfu
    obtain ⟨fu, rfl⟩ : ∃ m, fu = m + 1 := ⟨fu - 1, by omega⟩
    rw [f_m11_turnsAbout_L22, if_neg (show ¬ (60 : Int32) ≤ nI i from nI_ge (b := 60) (by omega) (by omega)), m_saysIn hm hp (by omega)]
    simp only [Option.bind_some, knx]
    rw [m_isMore hm.1.2.1 (sayS_le hm hp _) hm.1.2.2]
    simp only [Option.bind_some]
    rw [nI_1, m_saysIn hm hp (by omega)]
    simp only [Option.bind_some]
    rw [m_isMore hm.1.2.1 (sayS_le hm hp _) hm.1.2.2]
    simp only [Option.bind_some]
    have e : nI (cntK (trnS S p) i) + kb (if kb (decide (gN S 57 0 < 2 * sayS S p i)) = kb (decide (gN S 57 0 < 2 * sayS S p (i + 1))) then false else true) = nI (cntK (trnS S p) (i + 1)) := by
      rw [cntK]
      show nI (cntK (trnS S p) i) + kb (if kb (moreS S p i) = kb (moreS S p (i + 1)) then false else true) = nI (cntK (trnS S p) i + if (!(moreS S p (i + 1 - 1) == moreS S p (i + 1))) = true then 1 else 0)
      rw [show i + 1 - 1 = i by omega]
      cases moreS S p (i + 1) <;> cases moreS S p i
      · exact nI_add _ 0
      · exact nI_add _ 1
      · exact nI_add _ 1
      · exact nI_add _ 0
    rw [e]
    exact ih (i + 1) fu (by omega) (by omega)
theorem b_turnsAbout {S : kSt} (hc : cOk S) (hm : mOk S) {p : Nat} (hp : p < gN S 57 2) : Body (cb_turnsAbout (nI p)) (mb_turnsAbout (nI p)) S := by
  refine body_of (nI (cntK (trnS S p) 60)) ?_ (fun T hk => ?_)
  · obtain ⟨T0, h1, h2, h3⟩ := c_start hc hm (w := 6) (Or.inl rfl) hp
    obtain ⟨T1, g1, g2⟩ := c_trnL hm (p5 hm hp) (fun x S => some (x, S)) 60 0 kFU T0 rfl (by decide) h2
    refine ⟨T1, ?_, h3.tr g2⟩
    unfold cb_turnsAbout
    rw [h1]
    simp only [Option.bind_some]
    rw [c_isMore h2 (sayS_le hm (p5 hm hp) _) hm.1.2.2]
    exact g1
  · have := m_trnL (hk.mk.mpr hm) (p5 hm hp) (fun x S => some (x, S)) 60 0 kFU rfl (by decide)
    rw [show trnS T p = trnS S p from funext fun k => by unfold trnS; rw [moreS_k hk, moreS_k hk]] at this
    exact this
