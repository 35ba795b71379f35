-- by any step, any every
def sayG (S : kSt) (p s e k : Nat) : Nat := sayN (gN S 57 0) (gN S 57 (8 + p)) s e (gN S 61 35) (gN S 61 p) k
def moreG (S : kSt) (p s e k : Nat) : Bool := decide (gN S 57 0 < 2 * sayG S p s e k)
def WkG (S T : kSt) (w p s e k : Nat) : Prop := wk T w (gN S 57 0) (gN S 57 (8 + p)) s e (sayG S p s e k) (gN S 61 35 + k)
theorem sayG_le {S : kSt} (h : mOk S) {p : Nat} (hp : p < 5) (s e k : Nat) : sayG S p s e k ≤ gN S 57 0 := sayN_le (h.fig hp) k
theorem sayG_k {S T : kSt} (hk : keep S T) (p s e k : Nat) : sayG T p s e k = sayG S p s e k := by
  unfold sayG
  rw [hk.gn (a := 57) rfl, hk.gn (a := 57) rfl, hk.gn (a := 61) rfl, hk.gn (a := 61) rfl]
theorem moreG_k {S T : kSt} (hk : keep S T) (p s e k : Nat) : moreG T p s e k = moreG S p s e k := by
  unfold moreG
  rw [sayG_k hk, hk.gn (a := 57) rfl]
theorem c_stepG {S T : kSt} (hm : mOk S) {w p s e k : Nat} (hp : p < 5) (hs : s ≤ 20) (he : e ≤ 9) (hk : k < 2000) (h : WkG S T w p s e k) : ∃ T', f_m9_go w T = some T' ∧ WkG S T' w p s e (k + 1) ∧ frm w T T' :=
  c_go h hm.1.2.2 (hm.2.2.2.2.2.1 p hp).1.2 hs he (sayG_le hm hp s e k) (by have := hm.sea; omega)
theorem c_goOnG {S T : kSt} (hm : mOk S) {w p s e N : Nat} (hp : p < 5) (hs : s ≤ 20) (he : e ≤ 9) (hN : N ≤ 60) (h : WkG S T w p s e 0) : ∃ T', f_m9_goOn w (nI N) T = some T' ∧ WkG S T' w p s e N ∧ frm w T T' := by
  obtain ⟨T', h1, h2, h3⟩ := c_goOn h hm.1.2.2 (hm.2.2.2.2.2.1 p hp).1.2 hs he (sayG_le hm hp s e 0) (N := N) (by omega) (by have := hm.sea; omega)
  exact ⟨T', h1, h2, h3⟩
theorem c_countG {S : kSt} (hm : mOk S) {p s e N : Nat} (hp : p < 5) (hs : s ≤ 20) (he : e ≤ 9) (hN : N ≤ 60) (K : Int32 → kSt → Option (Int32 × kSt)) : ∀ (j i fu : Nat) (T : kSt), i + j = N → j < fu → WkG S T 6 p s e i → ∃ T', f_m9_countMore_L4 6 K (nI N) fu (nI (cntK (moreG S p s e) i)) (nI i) T = K (nI (cntK (moreG S p s e) N)) T' ∧ frm 6 T T' := by
  intro j
  induction j with
  | zero =>
    intro i fu T hi hfu h
    obtain ⟨fu, rfl⟩ : ∃ m, fu = m + 1 := ⟨fu - 1, by omega⟩
    rw [f_m9_countMore_L4, if_pos (nI_le (by omega) (by omega)), show i = N by omega]
    exact ⟨T, rfl, frm.rf⟩
  | succ j ih =>
    intro i fu T hi hfu h
    obtain ⟨fu, rfl⟩ : ∃ m, fu = m + 1 := ⟨fu - 1, by omega⟩
    rw [f_m9_countMore_L4, if_neg (nI_ge (by omega) (by omega))]
    obtain ⟨T1, e1, e2, e3⟩ := c_stepG hm hp hs he (by omega) h
    rw [e1]
    simp only [Option.bind_some, knx]
    rw [c_isMore e2 (sayG_le hm hp s e _) hm.1.2.2]
    simp only [Option.bind_some]
    rw [nI_1, nI_1]
    obtain ⟨T2, g1, g2⟩ := ih (i + 1) fu T1 (by omega) (by omega) e2
    refine ⟨T2, ?_, e3.tr g2⟩
    rw [← g1, cntK]
    show (if decide (gN S 57 0 < 2 * sayG S p s e (i + 1)) = true then _ else _) = _
    cases hb : moreG S p s e (i + 1)
    · unfold moreG at hb
      rw [hb]
      rfl
    · unfold moreG at hb
      rw [hb]
      rfl
-- the first of i, i + 1 .. (j of them) that is so
def fnd (P : Nat → Bool) : Nat → Nat → Int32
  | 0, _ => -2
  | j + 1, i => if P i then nI i else fnd P j (i + 1)
theorem c_moreInL {S : kSt} (hm : mOk S) {p : Nat} (hp : p < 5) : ∀ (j i fu : Nat) (T : kSt), i + j = 61 → j < fu → Wk S T 6 p i → ∃ T', f_m10_moreIn_L32 (fun x S => some (x, S)) (fun S => some (-2, S)) fu (nI i) T = some (fnd (moreS S p) j i, T') ∧ frm 6 T T' := by
  intro j
  induction j with
  | zero =>
    intro i fu T hi hfu h
    obtain ⟨fu, rfl⟩ : ∃ m, fu = m + 1 := ⟨fu - 1, by omega⟩
    rw [f_m10_moreIn_L32, if_pos (show (60 : Int32) < nI i from nI_lt (a := 60) (by omega) (by omega))]
    exact ⟨T, rfl, frm.rf⟩
  | succ j ih =>
    intro i fu T hi hfu h
    obtain ⟨fu, rfl⟩ : ∃ m, fu = m + 1 := ⟨fu - 1, by omega⟩
    rw [f_m10_moreIn_L32, if_neg (show ¬ (60 : Int32) < nI i from nI_nlt (a := 60) (by omega) (by omega)), c_isMore h (sayS_le hm hp _) hm.1.2.2]
    simp only [Option.bind_some, knx]
    show ∃ T', (if moreS S p i = true then _ else _) = _ ∧ _
    rw [fnd]
    cases moreS S p i
    · simp only [Bool.false_eq_true, if_false]
      obtain ⟨T1, e1, e2, e3⟩ := c_step hm hp (by omega) h
      rw [e1]
      simp only [Option.bind_some]
      rw [nI_1]
      obtain ⟨T2, g1, g2⟩ := ih (i + 1) fu T1 (by omega) (by omega) e2
      exact ⟨T2, g1, e3.tr g2⟩
    · simp only [if_true]
      exact ⟨T, rfl, frm.rf⟩
theorem m_moreInL {S : kSt} (hm : mOk S) {p : Nat} (hp : p < 5) : ∀ (j i fu : Nat), i + j = 61 → j < fu → f_m11_moreIn_L20 (fun x S => some (x, S)) (fun S => some (-2, S)) (nI p) fu (nI i) S = some (fnd (moreS S p) j i, S) := by
  intro j
  induction j with
  | zero =>
    intro i fu hi hfu
    obtain ⟨fu, rfl⟩ : ∃ m, fu = m + 1 := ⟨fu - 1, by omega⟩
    rw [f_m11_moreIn_L20, if_pos (show (60 : Int32) < nI i from nI_lt (a := 60) (by omega) (by omega))]
    rfl
  | succ j ih =>
    intro i fu hi hfu
    obtain ⟨fu, rfl⟩ : ∃ m, fu = m + 1 := ⟨fu - 1, by omega⟩
    rw [f_m11_moreIn_L20, if_neg (show ¬ (60 : Int32) < nI i from nI_nlt (a := 60) (by omega) (by omega)), m_saysIn hm hp (by omega)]
    simp only [Option.bind_some, knx]
    rw [m_isMore hm.1.2.1 (sayS_le hm hp _) hm.1.2.2]
    simp only [Option.bind_some]
    show (if moreS S p i = true then _ else _) = _
    rw [fnd]
    cases moreS S p i
    · simp only [Bool.false_eq_true, if_false]
      rw [nI_1]
      exact ih (i + 1) fu (by omega) (by omega)
    · simp only [if_true]
theorem b_moreIn {S : kSt} (hc : cOk S) (hm : mOk S) {p : Nat} (hp : p < gN S 57 2) : Body (cb_moreIn (nI p)) (mb_moreIn (nI p)) S := by
  refine body_of (fnd (moreS S p) 61 0) ?_ (fun T hk => ?_)
  · obtain ⟨T0, h1, h2, h3⟩ := c_start hc hm (w := 6) (Or.inl rfl) hp
    obtain ⟨T1, g1, g2⟩ := c_moreInL hm (p5 hm hp) 61 0 kFU T0 rfl (by decide) h2
    refine ⟨T1, ?_, h3.tr g2⟩
    unfold cb_moreIn
    rw [h1]
    exact g1
  · unfold mb_moreIn
    have := m_moreInL (hk.mk.mpr hm) (p5 hm hp) 61 0 kFU rfl (by decide)
    rw [show moreS T p = moreS S p from funext (moreS_k hk p)] at this
    exact this
-- two walks
theorem Wk_k {S T0 T : kSt} (hk : keep S T0) {w p k : Nat} (h : Wk T0 T w p k) : Wk S T w p k := by
  unfold Wk at h ⊢
  rw [sayS_k hk, hk.gn (a := 57) rfl, hk.gn (a := 57) rfl, hk.gn (a := 57) rfl, hk.gn (a := 61) rfl, hk.gn (a := 61) rfl] at h
  exact h
theorem wk_frm {T T' : kSt} {w w' W g s e f n : Nat} (h : wk T w W g s e f n) (hf : frm w' T T') (hw : w ≠ w') : wk T' w W g s e f n := by
  unfold wk at h ⊢
  rw [hf.1 w hw]
  exact h
def fr67 (S T : kSt) : Prop := ∀ a, a ≠ 6 → a ≠ 7 → T.1 a = S.1 a
theorem fr67.keep {S T : kSt} (h : fr67 S T) : keep S T ∧ T.1 0 18 = S.1 0 18 := by
  have e0 := h 0 (by decide) (by decide)
  have e3 := h 3 (by decide) (by decide)
  have e14 := h 14 (by decide) (by decide)
  refine ⟨⟨fun a ha => h a (fun q => by rw [q] at ha; cases ha) (fun q => by rw [q] at ha; cases ha), ?_, ?_, ?_⟩, by rw [e0]⟩
  · rw [e0]; exact ⟨rfl, rfl, rfl⟩
  · rw [e3]; exact ⟨rfl, rfl⟩
  · rw [e14]; exact ⟨rfl, rfl, rfl, rfl, rfl, rfl⟩
theorem fr67.tr {S T U : kSt} (h1 : fr67 S T) (h2 : fr67 T U) : fr67 S U := fun a h6 h7 => (h2 a h6 h7).trans (h1 a h6 h7)
theorem frm.f6 {S T : kSt} (h : frm 6 S T) : fr67 S T := fun a h6 _ => h.1 a h6
theorem frm.f7 {S T : kSt} (h : frm 7 S T) : fr67 S T := fun a _ h7 => h.1 a h7
theorem c_two {S : kSt} (hc : cOk S) (hm : mOk S) {p q : Nat} (hp : p < gN S 57 2) (hq : q < gN S 57 2) : ∃ T0 T1, f_m9_begin 6 (nI p) S = some T0 ∧ f_m9_begin 7 (nI q) T0 = some T1 ∧ Wk S T1 6 p 0 ∧ Wk S T1 7 q 0 ∧ fr67 S T1 := by
  obtain ⟨T0, h1, h2, h3⟩ := c_start hc hm (w := 6) (Or.inl rfl) hp
  have hk := (frm6 h3).1
  obtain ⟨T1, g1, g2, g3⟩ := c_start (hk.ck.mpr hc) (hk.mk.mpr hm) (w := 7) (Or.inr (Or.inl rfl)) (p := q) (by rw [hk.gn (a := 57) rfl]; exact hq)
  exact ⟨T0, T1, h1, g1, wk_frm h2 g3 (by decide), Wk_k hk g2, h3.f6.tr g3.f7⟩
theorem c_step2 {S T : kSt} (hm : mOk S) {p q k : Nat} (hp : p < 5) (hq : q < 5) (hk : k < 2000) (h6 : Wk S T 6 p k) (h7 : Wk S T 7 q k) : ∃ T1 T2, f_m9_go 6 T = some T1 ∧ f_m9_go 7 T1 = some T2 ∧ Wk S T2 6 p (k + 1) ∧ Wk S T2 7 q (k + 1) ∧ fr67 T T2 := by
  obtain ⟨T1, e1, e2, e3⟩ := c_step hm hp hk h6
  obtain ⟨T2, g1, g2, g3⟩ := c_step hm hq hk (wk_frm h7 e3 (by decide))
  exact ⟨T1, T2, e1, g1, wk_frm e2 g3 (by decide), g2, e3.f6.tr g3.f7⟩
def alkS (S : kSt) (p q k : Nat) : Bool := decide (sayS S p k = sayS S q k)
def ovtS (S : kSt) (p q k : Nat) : Bool := decide (sayS S q k < sayS S p k)
theorem c_alikeL {S : kSt} (hm : mOk S) {p q : Nat} (hp : p < 5) (hq : q < 5) : ∀ (j i fu : Nat) (T : kSt), i + j = 61 → j < fu → Wk S T 6 p i → Wk S T 7 q i → ∃ T', f_m10_alikeIn_L49 (fun x S => some (x, S)) (fun S => some (-2, S)) fu (nI i) T = some (fnd (alkS S p q) j i, T') ∧ fr67 T T' := by
  intro j
  induction j with
  | zero =>
    intro i fu T hi hfu h h7
    obtain ⟨fu, rfl⟩ : ∃ m, fu = m + 1 := ⟨fu - 1, by omega⟩
    rw [f_m10_alikeIn_L49, if_pos (show (60 : Int32) < nI i from nI_lt (a := 60) (by omega) (by omega))]
    exact ⟨T, rfl, fun _ _ _ => rfl⟩
  | succ j ih =>
    intro i fu T hi hfu h h7
    obtain ⟨fu, rfl⟩ : ∃ m, fu = m + 1 := ⟨fu - 1, by omega⟩
    have b1 := sayS_le hm hp i
    have b2 := sayS_le hm hq i
    have b3 := hm.1.2.2
    rw [f_m10_alikeIn_L49, if_neg (show ¬ (60 : Int32) < nI i from nI_nlt (a := 60) (by omega) (by omega)), h.2.2.2.2.1, h7.2.2.2.2.1, kite (nI_eq (by omega) (by omega)), fnd]
    unfold alkS
    by_cases hb : sayS S p i = sayS S q i
    · rw [if_pos hb, decide_eq_true hb]
      exact ⟨T, rfl, fun _ _ _ => rfl⟩
    · rw [if_neg hb, decide_eq_false hb]
      obtain ⟨T1, T2, e1, e2, e3, e4, e5⟩ := c_step2 hm hp hq (by omega) h h7
      rw [e1]
      simp only [Option.bind_some]
      rw [e2]
      simp only [Option.bind_some, knx]
      rw [nI_1]
      obtain ⟨T3, g1, g2⟩ := ih (i + 1) fu T2 (by omega) (by omega) e3 e4
      exact ⟨T3, g1, e5.tr g2⟩
theorem m_alikeL {S : kSt} (hm : mOk S) {p q : Nat} (hp : p < 5) (hq : q < 5) : ∀ (j i fu : Nat), i + j = 61 → j < fu → f_m11_alikeIn_L21 (fun x S => some (x, S)) (fun S => some (-2, S)) (nI p) (nI q) fu (nI i) S = some (fnd (alkS S p q) j i, S) := by
  intro j
  induction j with
  | zero =>
    intro i fu hi hfu
    obtain ⟨fu, rfl⟩ : ∃ m, fu = m + 1 := ⟨fu - 1, by omega⟩
    rw [f_m11_alikeIn_L21, if_pos (show (60 : Int32) < nI i from nI_lt (a := 60) (by omega) (by omega))]
    rfl
  | succ j ih =>
    intro i fu hi hfu
    obtain ⟨fu, rfl⟩ : ∃ m, fu = m + 1 := ⟨fu - 1, by omega⟩
    have b1 := sayS_le hm hp i
    have b2 := sayS_le hm hq i
    have b3 := hm.1.2.2
    rw [f_m11_alikeIn_L21, if_neg (show ¬ (60 : Int32) < nI i from nI_nlt (a := 60) (by omega) (by omega)), m_saysIn hm hp (by omega)]
    simp only [Option.bind_some, knx]
    rw [m_saysIn hm hq (by omega)]
    simp only [Option.bind_some]
    rw [kite (nI_eq (by omega) (by omega)), fnd, nI_1]
    unfold alkS
    by_cases hb : sayS S p i = sayS S q i
    · rw [if_pos hb, decide_eq_true hb]
      rfl
    · rw [if_neg hb, decide_eq_false hb]
      exact ih (i + 1) fu (by omega) (by omega)
theorem body_67 {ρ : Type} {cb mb : kSt → Option (ρ × kSt)} {S : kSt} (r : ρ) (hc : ∃ S1, cb S = some (r, S1) ∧ fr67 S S1) (hm : ∀ T, keep S T → mb T = some (r, T)) : Body cb mb S := by
  obtain ⟨S1, h1, h2⟩ := hc
  exact ⟨r, ⟨S1, h1, h2.keep⟩, fun T hk => ⟨T, hm T hk, keep.rf, rfl, rfl⟩⟩
theorem b_alikeIn {S : kSt} (hc : cOk S) (hm : mOk S) {p q : Nat} (hp : p < gN S 57 2) (hq : q < gN S 57 2) : Body (cb_alikeIn (nI p) (nI q)) (mb_alikeIn (nI p) (nI q)) S := by
  refine body_67 (fnd (alkS S p q) 61 0) ?_ (fun T hk => ?_)
  · obtain ⟨T0, T1, h1, h2, h3, h4, h5⟩ := c_two hc hm hp hq
    obtain ⟨T2, g1, g2⟩ := c_alikeL hm (p5 hm hp) (p5 hm hq) 61 0 kFU T1 rfl (by decide) h3 h4
    refine ⟨T2, ?_, h5.tr g2⟩
    unfold cb_alikeIn
    rw [h1]
    simp only [Option.bind_some]
    rw [h2]
    exact g1
  · unfold mb_alikeIn
    have := m_alikeL (hk.mk.mpr hm) (p5 hm hp) (p5 hm hq) 61 0 kFU rfl (by decide)
    rw [show alkS T p q = alkS S p q from funext fun k => by unfold alkS; rw [sayS_k hk, sayS_k hk]] at this
    exact this
