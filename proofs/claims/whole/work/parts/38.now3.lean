theorem m_saysG {S : kSt} (h : mOk S) {p s e N : Nat} (hp : p < 5) (hs : s ≤ 20) (he : e ≤ 9) (hN : N ≤ 2000) : f_m11_saysBy (nI p) (nI N) (nI s) (nI e) S = some (nI (sayG S p s e N), S) := m_saysBy h hp hs he hN
theorem c_ovtL {S : kSt} (hm : mOk S) {p q : Nat} (hp : p < 5) (hq : q < 5) : ∀ (j i fu : Nat) (T : kSt), i + j = 61 → j < fu → Wk S T 6 p i → Wk S T 7 q i → ∃ T', f_m10_overtakes_L49 (fun x S => some (x, S)) (fun S => some (-2, S)) fu (nI i) T = some (fnd (ovtS S p q) j i, T') ∧ fr67 T T' := by
  intro j
  induction j with
  | zero =>
    intro i fu T hi hfu h h7
    obtain ⟨fu, rfl⟩ : ∃ m, fu = m + 1 := ⟨fu - 1, by omega⟩
    rw [f_m10_overtakes_L49, if_pos (show (60 : Int32) < nI i from nI_lt (a := 60) (by omega) (by omega))]
    exact ⟨T, rfl, fun _ _ _ => rfl⟩
  | succ j ih =>
    intro i fu T hi hfu h h7
    obtain ⟨fu, rfl⟩ : ∃ m, fu = m + 1 := ⟨fu - 1, by omega⟩
    have b1 := sayS_le hm hp i
    have b2 := sayS_le hm hq i
    have b3 := hm.1.2.2
    rw [f_m10_overtakes_L49, if_neg (show ¬ (60 : Int32) < nI i from nI_nlt (a := 60) (by omega) (by omega)), h.2.2.2.2.1, h7.2.2.2.2.1, kite (nI_leI (by omega) (by omega)), fnd]
    unfold ovtS
    by_cases hb : sayS S p i ≤ sayS S q i
    · rw [if_pos hb, decide_eq_false (by omega)]
      obtain ⟨T1, T2, e1, e2, e3, e4, e5⟩ := c_step2 hm hp hq (by omega) h h7
      rw [e1]
      simp only [Option.bind_some]
      rw [e2]
      simp only [Option.bind_some, knx]
      rw [nI_1]
      obtain ⟨T3, g1, g2⟩ := ih (i + 1) fu T2 (by omega) (by omega) e3 e4
      exact ⟨T3, g1, e5.tr g2⟩
    · rw [if_neg hb, decide_eq_true (by omega)]
      exact ⟨T, rfl, fun _ _ _ => rfl⟩
theorem m_ovtL {S : kSt} (hm : mOk S) {p q : Nat} (hp : p < 5) (hq : q < 5) : ∀ (j i fu : Nat), i + j = 61 → j < fu → f_m11_overtakes_L21 (fun x S => some (x, S)) (fun S => some (-2, S)) (nI p) (nI q) fu (nI i) S = some (fnd (ovtS S p q) j i, S) := by
  intro j
  induction j with
  | zero =>
    intro i fu hi hfu
    obtain ⟨fu, rfl⟩ : ∃ m, fu = m + 1 := ⟨fu - 1, by omega⟩
    rw [f_m11_overtakes_L21, if_pos (show (60 : Int32) < nI i from nI_lt (a := 60) (by omega) (by omega))]
    rfl
  | succ j ih =>
    intro i fu hi hfu
    obtain ⟨fu, rfl⟩ : ∃ m, fu = m + 1 := ⟨fu - 1, by omega⟩
    have b1 := sayS_le hm hp i
    have b2 := sayS_le hm hq i
    have b3 := hm.1.2.2
    rw [f_m11_overtakes_L21, if_neg (show ¬ (60 : Int32) < nI i from nI_nlt (a := 60) (by omega) (by omega)), m_saysIn hm hp (by omega)]
    simp only [Option.bind_some, knx]
    rw [m_saysIn hm hq (by omega)]
    simp only [Option.bind_some]
    rw [kite (nI_leI (by omega) (by omega)), fnd, nI_1]
    unfold ovtS
    by_cases hb : sayS S p i ≤ sayS S q i
    · rw [if_pos hb, decide_eq_false (by omega)]
      exact ih (i + 1) fu (by omega) (by omega)
    · rw [if_neg hb, decide_eq_true (by omega)]
      rfl
theorem b_overtakes {S : kSt} (hc : cOk S) (hm : mOk S) {p q : Nat} (hp : p < gN S 57 2) (hq : q < gN S 57 2) : Body (cb_overtakes (nI p) (nI q)) (mb_overtakes (nI p) (nI q)) S := by
  refine body_67 (fnd (ovtS S p q) 61 0) ?_ (fun T hk => ?_)
  · obtain ⟨T0, T1, h1, h2, h3, h4, h5⟩ := c_two hc hm hp hq
    obtain ⟨T2, g1, g2⟩ := c_ovtL hm (p5 hm hp) (p5 hm hq) 61 0 kFU T1 rfl (by decide) h3 h4
    refine ⟨T2, ?_, h5.tr g2⟩
    unfold cb_overtakes
    rw [h1]
    simp only [Option.bind_some]
    rw [h2]
    exact g1
  · unfold mb_overtakes
    have := m_ovtL (hk.mk.mpr hm) (p5 hm hp) (p5 hm hq) 61 0 kFU rfl (by decide)
    rw [show ovtS T p q = ovtS S p q from funext fun k => by unfold ovtS; rw [sayS_k hk, sayS_k hk]] at this
    exact this
-- a walk by another every, another step
theorem WkG_of {S T : kSt} {w p : Nat} (h : Wk S T w p 0) (e : Nat) : WkG S (kuI T w 3 (nI e)) w p (gN S 61 (5 + p)) e 0 := by
  obtain ⟨h0, h1, h2, h3, h4, h5⟩ := h
  refine ⟨?_, ?_, ?_, ?_, ?_, ?_⟩ <;> simp only [uI_get, true_and, if_true, show ¬ (0 : Nat) = 3 by decide, show ¬ (1 : Nat) = 3 by decide, show ¬ (2 : Nat) = 3 by decide, show ¬ (4 : Nat) = 3 by decide, show ¬ (5 : Nat) = 3 by decide, if_false, h0, h1, h2, h5]
  exact h4
theorem WkG_st {S T : kSt} {w p : Nat} (h : Wk S T w p 0) (s : Nat) : WkG S (kuI T w 2 (nI s)) w p s (gN S 57 (13 + p)) 0 := by
  obtain ⟨h0, h1, h2, h3, h4, h5⟩ := h
  refine ⟨?_, ?_, ?_, ?_, ?_, ?_⟩ <;> simp only [uI_get, true_and, if_true, show ¬ (0 : Nat) = 2 by decide, show ¬ (1 : Nat) = 2 by decide, show ¬ (3 : Nat) = 2 by decide, show ¬ (4 : Nat) = 2 by decide, show ¬ (5 : Nat) = 2 by decide, if_false, h0, h1, h3, h5]
  exact h4
theorem Wk_frm {S T U : kSt} (hk : keep S T) {w p k : Nat} (h : Wk T U w p k) : Wk S U w p k := Wk_k hk h
def nevS (S : kSt) (p e : Nat) : Bool := decide (cntK (moreG S p (gN S 61 (5 + p)) e) 60 = 0)
theorem c_nevL {S : kSt} (hc : cOk S) (hm : mOk S) {p : Nat} (hp : p < gN S 57 2) : ∀ (j i fu : Nat) (T : kSt), i + j = 10 → j < fu → frm 6 S T → ∃ T', f_m10_everyNever_L16 (fun x S => some (x, S)) (fun S => some (-2, S)) (nI p) fu (nI i) T = some (fnd (nevS S p) j i, T') ∧ frm 6 S T' := by
  intro j
  induction j with
  | zero =>
    intro i fu T hi hfu hf
    obtain ⟨fu, rfl⟩ : ∃ m, fu = m + 1 := ⟨fu - 1, by omega⟩
    rw [f_m10_everyNever_L16, if_pos (show (9 : Int32) < nI i from nI_lt (a := 9) (by omega) (by omega))]
    exact ⟨T, rfl, hf⟩
  | succ j ih =>
    intro i fu T hi hfu hf
    obtain ⟨fu, rfl⟩ : ∃ m, fu = m + 1 := ⟨fu - 1, by omega⟩
    have hk := (frm6 hf).1
    rw [f_m10_everyNever_L16, if_neg (show ¬ (9 : Int32) < nI i from nI_nlt (a := 9) (by omega) (by omega))]
    obtain ⟨T0, h1, h2, h3⟩ := c_start (hk.ck.mpr hc) (hk.mk.mpr hm) (w := 6) (Or.inl rfl) (p := p) (by rw [hk.gn (a := 57) rfl]; exact hp)
    rw [h1]
    simp only [Option.bind_some, knx]
    have hg := WkG_of (Wk_k hk h2) i
    obtain ⟨T1, g1, g2⟩ := c_countG hm (p5 hm hp) (hm.stp (p5 hm hp)) (show i ≤ 9 by omega) (Nat.le_refl 60) (fun x S => some (x, S)) 60 0 kFU _ rfl (by decide) hg
    unfold f_m9_countMore
    rw [show f_m9_countMore_L4 6 (fun x9 S10 => some (x9, S10)) 60 kFU 0 0 (kuI T0 6 3 (nI i)) = _ from g1]
    simp only [Option.bind_some]
    rw [show (0 : Int32) = nI 0 from rfl, kite (nI_eq (Nat.lt_of_le_of_lt (cntK_le _ _) (by omega)) (by omega)), fnd, nI_1]
    have hfr : frm 6 S T1 := ((hf.tr h3).u _ _).tr g2
    unfold nevS
    by_cases hb : cntK (moreG S p (gN S 61 (5 + p)) i) 60 = 0
    · rw [if_pos hb, decide_eq_true hb]
      exact ⟨T1, rfl, hfr⟩
    · rw [if_neg hb, decide_eq_false hb]
      exact ih (i + 1) fu T1 (by omega) (by omega) hfr
/-- none of i + 1 .. N -/
theorem m_nmL {S : kSt} (hm : mOk S) {p e : Nat} (hp : p < 5) (he : e ≤ 9) : ∀ (j i fu : Nat), i + j = 60 → j < fu → cntK (moreG S p (gN S 61 (5 + p)) e) i = 0 → f_m11_isNeverMore_L2 (fun S => some (false, S)) (fun S => some (true, S)) (nI p) (nI e) fu (nI (i + 1)) S = some (nevS S p e, S) := by
  intro j
  induction j with
  | zero =>
    intro i fu hi hfu h0
    obtain ⟨fu, rfl⟩ : ∃ m, fu = m + 1 := ⟨fu - 1, by omega⟩
    rw [f_m11_isNeverMore_L2, if_pos (show (60 : Int32) < nI (i + 1) from nI_lt (a := 60) (by omega) (by omega))]
    unfold nevS
    rw [show (60 : Nat) = i by omega, h0]
    rfl
  | succ j ih =>
    intro i fu hi hfu h0
    obtain ⟨fu, rfl⟩ : ∃ m, fu = m + 1 := ⟨fu - 1, by omega⟩
    have hst := (hm.2.2.2.2.2.2.2.2.2.1 p hp).2.1
    simp only [Nat.zero_add] at hst
    rw [f_m11_isNeverMore_L2, if_neg (show ¬ (60 : Int32) < nI (i + 1) from nI_nlt (a := 60) (by omega) (by omega))]
    simp only [knx]
    rw [nI5, kgi_nI (by omega) (by omega), nI_clamp (by omega), hst, m_saysG hm hp (hm.stp hp) he (by omega)]
    simp only [Option.bind_some]
    rw [m_isMore hm.1.2.1 (sayG_le hm hp _ _ _) hm.1.2.2]
    simp only [Option.bind_some]
    show (if moreG S p (gN S 61 (5 + p)) e (i + 1) = true then _ else _) = _
    cases hb : moreG S p (gN S 61 (5 + p)) e (i + 1)
    · simp only [Bool.false_eq_true, if_false]
      rw [nI_1]
      refine ih (i + 1) fu (by omega) (by omega) ?_
      rw [cntK, h0, hb]
      rfl
    · simp only [if_true]
      have hmono : ∀ k m, cntK (moreG S p (gN S 61 (5 + p)) e) k ≤ cntK (moreG S p (gN S 61 (5 + p)) e) (k + m) := by
        intro k m
        induction m with
        | zero => exact Nat.le_refl _
        | succ m ihm => exact Nat.le_trans ihm (by rw [Nat.add_succ, cntK]; omega)
      have h1 : 1 ≤ cntK (moreG S p (gN S 61 (5 + p)) e) (i + 1) := by
        rw [cntK, hb]
        simp
      have h2 := hmono (i + 1) (60 - (i + 1))
      rw [show i + 1 + (60 - (i + 1)) = 60 by omega] at h2
      unfold nevS
      rw [decide_eq_false (by omega)]
theorem m_nevL {S : kSt} (hm : mOk S) {p : Nat} (hp : p < 5) : ∀ (j i fu : Nat), i + j = 10 → j < fu → f_m11_everyNever_L20 (fun x S => some (x, S)) (fun S => some (-2, S)) (nI p) fu (nI i) S = some (fnd (nevS S p) j i, S) := by
  intro j
  induction j with
  | zero =>
    intro i fu hi hfu
    obtain ⟨fu, rfl⟩ : ∃ m, fu = m + 1 := ⟨fu - 1, by omega⟩
    rw [f_m11_everyNever_L20, if_pos (show (9 : Int32) < nI i from nI_lt (a := 9) (by omega) (by omega))]
    rfl
  | succ j ih =>
    intro i fu hi hfu
    obtain ⟨fu, rfl⟩ : ∃ m, fu = m + 1 := ⟨fu - 1, by omega⟩
    rw [f_m11_everyNever_L20, if_neg (show ¬ (9 : Int32) < nI i from nI_nlt (a := 9) (by omega) (by omega))]
    unfold f_m11_isNeverMore
    rw [show f_m11_isNeverMore_L2 _ _ (nI p) (nI i) kFU 1 S = _ from m_nmL hm hp (show i ≤ 9 by omega) 60 0 kFU rfl (by decide) rfl]
    simp only [Option.bind_some, knx]
    rw [fnd, nI_1]
    cases nevS S p i
    · simp only [Bool.false_eq_true, if_false]
      exact ih (i + 1) fu (by omega) (by omega)
    · simp only [if_true]
theorem b_everyNever {S : kSt} (hc : cOk S) (hm : mOk S) {p : Nat} (hp : p < gN S 57 2) : Body (cb_everyNever (nI p)) (mb_everyNever (nI p)) S := by
  refine body_of (fnd (nevS S p) 10 0) ?_ (fun T hk => ?_)
  · exact c_nevL hc hm hp 10 0 kFU S rfl (by decide) frm.rf
  · have := m_nevL (hk.mk.mpr hm) (p5 hm hp) 10 0 kFU rfl (by decide)
    rw [show nevS T p = nevS S p from funext fun e => by unfold nevS; rw [show moreG T p (gN T 61 (5 + p)) e = moreG S p (gN S 61 (5 + p)) e from funext fun k => by rw [moreG_k hk, hk.gn (a := 61) rfl]]] at this
    exact this
