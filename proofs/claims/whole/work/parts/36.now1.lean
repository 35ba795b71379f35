-- walks beside the reference's sayings
def Wk (S T : kSt) (w p k : Nat) : Prop := wk T w (gN S 57 0) (gN S 57 (8 + p)) (gN S 61 (5 + p)) (gN S 57 (13 + p)) (sayS S p k) (gN S 61 35 + k)
theorem mOk.fig {S : kSt} (h : mOk S) {p : Nat} (hp : p < 5) : gN S 61 p ≤ gN S 57 0 := by
  have := (h.2.2.2.2.2.2.2.2.2.1 p hp).1.2
  simpa using this
theorem mOk.stp {S : kSt} (h : mOk S) {p : Nat} (hp : p < 5) : gN S 61 (5 + p) ≤ 20 := by
  have := (h.2.2.2.2.2.2.2.2.2.1 p hp).2.2
  simpa using this
theorem mOk.sea {S : kSt} (h : mOk S) : gN S 61 35 ≤ 999 := by
  have := h.2.2.2.2.2.2.2.2.2.2.2.2.2
  simpa using this
theorem sayS_le {S : kSt} (h : mOk S) {p : Nat} (hp : p < 5) (k : Nat) : sayS S p k ≤ gN S 57 0 := sayN_le (h.fig hp) k
theorem c_step {S T : kSt} (hm : mOk S) {w p k : Nat} (hp : p < 5) (hk : k < 2000) (h : Wk S T w p k) : ∃ T', f_m9_go w T = some T' ∧ Wk S T' w p (k + 1) ∧ frm w T T' :=
  c_go h hm.1.2.2 (hm.2.2.2.2.2.1 p hp).1.2 (hm.stp hp) (hm.2.2.2.2.2.1 p hp).2.2 (sayS_le hm hp k) (by have := hm.sea; omega)
theorem m_isMore {S : kSt} {w f : Nat} (hw : S.1 57 0 = nI w) (hf : f ≤ w) (hw2 : w ≤ 99) : f_m11_isMore (nI f) S = some (decide (w < 2 * f), S) := by
  unfold f_m11_isMore
  rw [nI2m, hw, kite (nI_leI (by omega) (by omega))]
  by_cases h : 2 * f ≤ w
  · rw [if_pos h]
    simp [Nat.not_lt.mpr h]
  · rw [if_neg h]
    simp [Nat.not_le.mp h]
theorem c_isMore {S : kSt} {w W g s e f n : Nat} (h : wk S w W g s e f n) (hf : f ≤ W) (hW : W ≤ 99) : f_m9_isMore w S = some (decide (W < 2 * f), S) := by
  obtain ⟨h0, -, -, -, h4, -⟩ := h
  unfold f_m9_isMore
  rw [h0, h4, pk_sub hf, kite (nI_leI (by omega) (by omega))]
  by_cases h : f ≤ W - f
  · rw [if_pos h]
    simp only [show ¬ W < 2 * f by omega, decide_false]
  · rw [if_neg h]
    simp only [show W < 2 * f by omega, decide_true]
/-- the figure of p says MORE k seasons on -/
def moreS (S : kSt) (p k : Nat) : Bool := decide (gN S 57 0 < 2 * sayS S p k)
theorem sayS_k {S T : kSt} (hk : keep S T) (p k : Nat) : sayS T p k = sayS S p k := by
  unfold sayS
  rw [hk.gn (a := 57) rfl, hk.gn (a := 57) rfl, hk.gn (a := 57) rfl, hk.gn (a := 61) rfl, hk.gn (a := 61) rfl, hk.gn (a := 61) rfl]
theorem moreS_k {S T : kSt} (hk : keep S T) (p k : Nat) : moreS T p k = moreS S p k := by
  unfold moreS
  rw [sayS_k hk, hk.gn (a := 57) rfl]
theorem frm6 {S T : kSt} (h : frm 6 S T) : keep S T ∧ T.1 0 18 = S.1 0 18 := ⟨h.keep rfl (by decide) (by decide) (by decide), by rw [h.1 0 (by decide)]⟩
theorem p5 {S : kSt} (h : mOk S) {p : Nat} (hp : p < gN S 57 2) : p < 5 := Nat.lt_of_lt_of_le hp h.2.2.1.2.2
theorem c_start {S : kSt} (hc : cOk S) (hm : mOk S) {w p : Nat} (hw : w = 6 ∨ w = 7 ∨ w = 13) (hp : p < gN S 57 2) : ∃ T, f_m9_begin w (nI p) S = some T ∧ Wk S T w p 0 ∧ frm w S T := c_begin hc hw (p5 hm hp) hp hm
/-- the reference leaves S as it is -/
theorem body_of {ρ : Type} {cb mb : kSt → Option (ρ × kSt)} {S : kSt} (r : ρ) (hc : ∃ S1, cb S = some (r, S1) ∧ frm 6 S S1) (hm : ∀ T, keep S T → mb T = some (r, T)) : Body cb mb S := by
  obtain ⟨S1, h1, h2⟩ := hc
  exact ⟨r, ⟨S1, h1, frm6 h2⟩, fun T hk => ⟨T, hm T hk, keep.rf, rfl, rfl⟩⟩
theorem b_says {S : kSt} (hc : cOk S) (hm : mOk S) {p n : Nat} (hp : p < gN S 57 2) (hn : n ≤ 60) : Body (cb_says (nI p) (nI n)) (mb_says (nI p) (nI n)) S := by
  refine body_of (nI (sayS S p n)) ?_ (fun T hk => ?_)
  · obtain ⟨S1, h1, h2⟩ := c_saying hc hm hp (N := n) (by omega)
    refine ⟨S1, ?_, h2⟩
    unfold cb_says
    rw [h1]
    rfl
  · unfold mb_says
    rw [m_saysIn (hk.mk.mpr hm) (p5 hm hp) (by omega), sayS_k hk]
    rfl
-- saysAll
def sumK (S : kSt) (p : Nat) : Nat → Nat
  | 0 => 0
  | k + 1 => sumK S p k + sayS S p (k + 1)
theorem sumK_le {S : kSt} (h : mOk S) {p : Nat} (hp : p < 5) : ∀ k, sumK S p k ≤ 99 * k
  | 0 => Nat.le_refl _
  | k + 1 => by
    have h1 := sumK_le h hp k
    have h2 := sayS_le h hp (k + 1)
    have h3 := h.1.2.2
    rw [sumK]
    omega
theorem sumK_k {S T : kSt} (hk : keep S T) (p : Nat) : ∀ k, sumK T p k = sumK S p k
  | 0 => rfl
  | k + 1 => by rw [sumK, sumK, sumK_k hk p k, sayS_k hk]
theorem c_saysAllL {S : kSt} (hm : mOk S) {p N : Nat} (hp : p < 5) (hN : N ≤ 60) (K : Int32 → kSt → Option (Int32 × kSt)) : ∀ (j i fu : Nat) (T : kSt), i + j = N → j < fu → Wk S T 6 p i → ∃ T', f_m10_saysAll_L41 K (nI N) fu (nI (sumK S p i)) (nI (i + 1)) T = K (nI (sumK S p N)) T' ∧ frm 6 T T' := by
  intro j
  induction j with
  | zero =>
    intro i fu T hi hfu h
    obtain ⟨fu, rfl⟩ : ∃ m, fu = m + 1 := ⟨fu - 1, by omega⟩
    rw [f_m10_saysAll_L41, if_pos (nI_lt (by omega) (by omega)), show i = N by omega]
    exact ⟨T, rfl, frm.rf⟩
  | succ j ih =>
    intro i fu T hi hfu h
    obtain ⟨fu, rfl⟩ : ∃ m, fu = m + 1 := ⟨fu - 1, by omega⟩
    rw [f_m10_saysAll_L41, if_neg (nI_nlt (by omega) (by omega))]
    obtain ⟨T1, e1, e2, e3⟩ := c_step hm hp (by omega) h
    rw [e1]
    simp only [Option.bind_some, knx]
    rw [e2.2.2.2.2.1, nI_add, nI_1]
    obtain ⟨T2, g1, g2⟩ := ih (i + 1) fu T1 (by omega) (by omega) e2
    exact ⟨T2, g1, e3.tr g2⟩
theorem m_saysAllL {S : kSt} (hm : mOk S) {p N : Nat} (hp : p < 5) (hN : N ≤ 60) (K : Int32 → kSt → Option (Int32 × kSt)) : ∀ (j i fu : Nat), i + j = N → j < fu → f_m11_saysAll_L31 K (nI p) (nI N) fu (nI (sumK S p i)) (nI (i + 1)) S = K (nI (sumK S p N)) S := by
  intro j
  induction j with
  | zero =>
    intro i fu hi hfu
    obtain ⟨fu, rfl⟩ : ∃ m, fu = m + 1 := ⟨fu - 1, by omega⟩
    rw [f_m11_saysAll_L31, if_pos (nI_lt (by omega) (by omega)), show i = N by omega]
  | succ j ih =>
    intro i fu hi hfu
    obtain ⟨fu, rfl⟩ : ∃ m, fu = m + 1 := ⟨fu - 1, by omega⟩
    rw [f_m11_saysAll_L31, if_neg (nI_nlt (by omega) (by omega)), m_saysIn hm hp (by omega)]
    simp only [Option.bind_some, knx]
    rw [nI_add, nI_1]
    exact ih (i + 1) fu (by omega) (by omega)
theorem b_saysAll {S : kSt} (hc : cOk S) (hm : mOk S) {p n : Nat} (hp : p < gN S 57 2) (hn : n ≤ 60) : Body (cb_saysAll (nI p) (nI n)) (mb_saysAll (nI p) (nI n)) S := by
  refine body_of (nI (sumK S p n)) ?_ (fun T hk => ?_)
  · obtain ⟨T0, h1, h2, h3⟩ := c_start hc hm (w := 6) (Or.inl rfl) hp
    obtain ⟨T1, g1, g2⟩ := c_saysAllL hm (p5 hm hp) hn (fun x S => some (x, S)) n 0 kFU T0 (by omega) (by show n < 1000000; omega) h2
    refine ⟨T1, ?_, h3.tr g2⟩
    unfold cb_saysAll
    rw [h1]
    exact g1
  · unfold mb_saysAll
    have := m_saysAllL (hk.mk.mpr hm) (p5 hm hp) hn (fun x S => some (x, S)) n 0 kFU (by omega) (by show n < 1000000; omega)
    rw [sumK_k hk p n] at this
    exact this
-- how often
def cntK (P : Nat → Bool) : Nat → Nat
  | 0 => 0
  | k + 1 => cntK P k + (if P (k + 1) then 1 else 0)
theorem cntK_le (P : Nat → Bool) : ∀ k, cntK P k ≤ k
  | 0 => Nat.le_refl _
  | k + 1 => by
    have := cntK_le P k
    rw [cntK]
    split <;> omega
theorem c_countL {S : kSt} (hm : mOk S) {p N : Nat} (hp : p < 5) (hN : N ≤ 60) (K : Int32 → kSt → Option (Int32 × kSt)) : ∀ (j i fu : Nat) (T : kSt), i + j = N → j < fu → Wk S T 6 p i → ∃ T', f_m9_countMore_L4 6 K (nI N) fu (nI (cntK (moreS S p) i)) (nI i) T = K (nI (cntK (moreS S p) N)) T' ∧ frm 6 T T' := by
  intro j
  induction j with
  | zero =>
    intro i fu T hi hfu h
    obtain ⟨fu, rfl⟩ : ∃ m, fu = m + 1 := ⟨fu - 1, by omega⟩
    rw [f_m9_countMore_L4, if_pos (nI_le (by omega) (by omega)), show i = N by omega]
    exact ⟨T, rfl, frm.rf⟩
  | succ j ih =>
    intro i fu T hi hfu h
    obtain ⟨fu, rfl⟩ : ∃ m, fu = m + 1 := ⟨fu - 1, by omega⟩
    rw [f_m9_countMore_L4, if_neg (nI_ge (by omega) (by omega))]
    obtain ⟨T1, e1, e2, e3⟩ := c_step hm hp (by omega) h
    rw [e1]
    simp only [Option.bind_some, knx]
    rw [c_isMore e2 (sayS_le hm hp _) hm.1.2.2]
    simp only [Option.bind_some]
    rw [nI_1, nI_1]
    obtain ⟨T2, g1, g2⟩ := ih (i + 1) fu T1 (by omega) (by omega) e2
    refine ⟨T2, ?_, e3.tr g2⟩
    rw [← g1, cntK]
    show (if decide (gN S 57 0 < 2 * sayS S p (i + 1)) = true then _ else _) = _
    cases hb : moreS S p (i + 1)
    · unfold moreS at hb
      rw [hb]
      rfl
    · unfold moreS at hb
      rw [hb]
      rfl
theorem m_countL {S : kSt} (hm : mOk S) {p N : Nat} (hp : p < 5) (hN : N ≤ 60) (K : Int32 → kSt → Option (Int32 × kSt)) : ∀ (j i fu : Nat), i + j = N → j < fu → f_m11_moreTimes_L31 K (nI p) (nI N) fu (nI (cntK (moreS S p) i)) (nI (i + 1)) S = K (nI (cntK (moreS S p) N)) S := by
  intro j
  induction j with
  | zero =>
    intro i fu hi hfu
    obtain ⟨fu, rfl⟩ : ∃ m, fu = m + 1 := ⟨fu - 1, by omega⟩
    rw [f_m11_moreTimes_L31, if_pos (nI_lt (by omega) (by omega)), show i = N by omega]
  | succ j ih =>
    intro i fu hi hfu
    obtain ⟨fu, rfl⟩ : ∃ m, fu = m + 1 := ⟨fu - 1, by omega⟩
    rw [f_m11_moreTimes_L31, if_neg (nI_nlt (by omega) (by omega)), m_saysIn hm hp (by omega)]
    simp only [Option.bind_some, knx]
    rw [m_isMore hm.1.2.1 (sayS_le hm hp _) hm.1.2.2]
    simp only [Option.bind_some]
    rw [nI_1]
    have e : nI (cntK (moreS S p) i) + kb (if decide (gN S 57 0 < 2 * sayS S p (i + 1)) = true then true else false) = nI (cntK (moreS S p) (i + 1)) := by
      rw [cntK]
      show nI (cntK (moreS S p) i) + kb (if moreS S p (i + 1) = true then true else false) = _
      cases moreS S p (i + 1)
      · exact nI_add _ 0
      · exact nI_add _ 1
    rw [e]
    exact ih (i + 1) fu (by omega) (by omega)
theorem b_moreTimes {S : kSt} (hc : cOk S) (hm : mOk S) {p n : Nat} (hp : p < gN S 57 2) (hn : n ≤ 60) : Body (cb_moreTimes (nI p) (nI n)) (mb_moreTimes (nI p) (nI n)) S := by
  refine body_of (nI (cntK (moreS S p) n)) ?_ (fun T hk => ?_)
  · obtain ⟨T0, h1, h2, h3⟩ := c_start hc hm (w := 6) (Or.inl rfl) hp
    obtain ⟨T1, g1, g2⟩ := c_countL hm (p5 hm hp) hn (fun x S => some (x, S)) n 0 kFU T0 (by omega) (by show n < 1000000; omega) h2
    refine ⟨T1, ?_, h3.tr g2⟩
    unfold cb_moreTimes f_m9_countMore
    rw [h1]
    simp only [Option.bind_some]
    rw [show (0 : Int32) = nI (cntK (moreS S p) 0) from rfl, show nI (cntK (moreS S p) 0) = nI 0 from rfl] at *
    rw [g1]
    rfl
  · unfold mb_moreTimes
    have := m_countL (hk.mk.mpr hm) (p5 hm hp) hn (fun x S => some (x, S)) n 0 kFU (by omega) (by show n < 1000000; omega)
    rw [show moreS T p = moreS S p from funext (moreS_k hk p)] at this
    exact this
