-- stepFor
def stpS (S : kSt) (p n s : Nat) : Bool := moreG S p s (gN S 57 (13 + p)) n
theorem c_stpL {S : kSt} (hc : cOk S) (hm : mOk S) {p n : Nat} (hp : p < gN S 57 2) (hn : n ≤ 60) : ∀ (j i fu : Nat) (T : kSt), i + j = 21 → j < fu → frm 6 S T → ∃ T', f_m10_stepFor_L22 (fun x S => some (x, S)) (fun S => some (-2, S)) (nI p) (nI n) fu (nI i) T = some (fnd (stpS S p n) j i, T') ∧ frm 6 S T' := by
  intro j
  induction j with
  | zero =>
    intro i fu T hi hfu hf
    obtain ⟨fu, rfl⟩ : ∃ m, fu = m + 1 := ⟨fu - 1, by omega⟩
    rw [f_m10_stepFor_L22, if_pos (show (20 : Int32) < nI i from nI_lt (a := 20) (by omega) (by omega))]
    exact ⟨T, rfl, hf⟩
  | succ j ih =>
    intro i fu T hi hfu hf
    obtain ⟨fu, rfl⟩ : ∃ m, fu = m + 1 := ⟨fu - 1, by omega⟩
    have hk := (frm6 hf).1
    have hev := (hm.2.2.2.2.2.1 p (p5 hm hp)).2.2
    rw [f_m10_stepFor_L22, if_neg (show ¬ (20 : Int32) < nI i from nI_nlt (a := 20) (by omega) (by omega))]
    obtain ⟨T0, h1, h2, h3⟩ := c_start (hk.ck.mpr hc) (hk.mk.mpr hm) (w := 6) (Or.inl rfl) (p := p) (by rw [hk.gn (a := 57) rfl]; exact hp)
    rw [h1]
    simp only [Option.bind_some, knx]
    have hg := WkG_st (Wk_k hk h2) i
    obtain ⟨T1, g1, g2, g3⟩ := c_goOnG hm (p5 hm hp) (show i ≤ 20 by omega) hev hn hg
    rw [g1]
    simp only [Option.bind_some]
    rw [c_isMore g2 (sayG_le hm (p5 hm hp) _ _ _) hm.1.2.2]
    simp only [Option.bind_some]
    rw [fnd, nI_1]
    have hfr : frm 6 S T1 := ((hf.tr h3).u _ _).tr g3
    show ∃ T', (if stpS S p n i = true then _ else _) = _ ∧ _
    cases stpS S p n i
    · simp only [Bool.false_eq_true, if_false]
      exact ih (i + 1) fu T1 (by omega) (by omega) hfr
    · simp only [if_true]
      exact ⟨T1, rfl, hfr⟩
theorem m_stpL {S : kSt} (hm : mOk S) {p n : Nat} (hp : p < 5) (hn : n ≤ 60) : ∀ (j i fu : Nat), i + j = 21 → j < fu → f_m11_stepFor_L28 (fun x S => some (x, S)) (fun S => some (-2, S)) (nI p) (nI n) fu (nI i) S = some (fnd (stpS S p n) j i, S) := by
  intro j
  induction j with
  | zero =>
    intro i fu hi hfu
    obtain ⟨fu, rfl⟩ : ∃ m, fu = m + 1 := ⟨fu - 1, by omega⟩
    rw [f_m11_stepFor_L28, if_pos (show (20 : Int32) < nI i from nI_lt (a := 20) (by omega) (by omega))]
    rfl
  | succ j ih =>
    intro i fu hi hfu
    obtain ⟨fu, rfl⟩ : ∃ m, fu = m + 1 := ⟨fu - 1, by omega⟩
    have hev := (hm.2.2.2.2.2.1 p hp).2
    rw [f_m11_stepFor_L28, if_neg (show ¬ (20 : Int32) < nI i from nI_nlt (a := 20) (by omega) (by omega))]
    simp only [knx]
    rw [nI13, kgi_nI (by omega) (by omega), nI_clamp (by omega), hev.1, m_saysG hm hp (show i ≤ 20 by omega) hev.2 (by omega)]
    simp only [Option.bind_some]
    rw [m_isMore hm.1.2.1 (sayG_le hm hp _ _ _) hm.1.2.2]
    simp only [Option.bind_some]
    rw [fnd, nI_1]
    show (if stpS S p n i = true then _ else _) = _
    cases stpS S p n i
    · simp only [Bool.false_eq_true, if_false]
      exact ih (i + 1) fu (by omega) (by omega)
    · simp only [if_true]
theorem b_stepFor {S : kSt} (hc : cOk S) (hm : mOk S) {p n : Nat} (hp : p < gN S 57 2) (hn : n ≤ 60) : Body (cb_stepFor (nI p) (nI n)) (mb_stepFor (nI p) (nI n)) S := by
  refine body_of (fnd (stpS S p n) 21 0) ?_ (fun T hk => ?_)
  · exact c_stpL hc hm hp hn 21 0 kFU S rfl (by decide) frm.rf
  · have := m_stpL (hk.mk.mpr hm) (p5 hm hp) hn 21 0 kFU rfl (by decide)
    rw [show stpS T p n = stpS S p n from funext fun s => by unfold stpS; rw [moreG_k hk, hk.gn (a := 57) rfl]] at this
    exact this
-- the best every
def bstE (f : Nat → Nat) : Nat → Nat
  | 0 => 0
  | k + 1 => if f (k + 1) ≤ f (bstE f k) then bstE f k else k + 1
theorem bstE_le (f : Nat → Nat) : ∀ k, bstE f k ≤ k
  | 0 => Nat.le_refl _
  | k + 1 => by
    have := bstE_le f k
    rw [bstE]
    split <;> omega
def evyS (S : kSt) (p n e : Nat) : Nat := sayG S p (gN S 61 (5 + p)) e n
theorem c_byEvery {S T : kSt} (hc : cOk S) (hm : mOk S) {p n e : Nat} (hp : p < gN S 57 2) (hn : n ≤ 60) (he : e ≤ 9) (hf : frm 6 S T) : ∃ T', f_m10_sayingByEvery (nI p) (nI e) (nI n) T = some (nI (evyS S p n e), T') ∧ frm 6 S T' := by
  have hk := (frm6 hf).1
  obtain ⟨T0, h1, h2, h3⟩ := c_start (hk.ck.mpr hc) (hk.mk.mpr hm) (w := 6) (Or.inl rfl) (p := p) (by rw [hk.gn (a := 57) rfl]; exact hp)
  have hg := WkG_of (Wk_k hk h2) e
  obtain ⟨T1, g1, g2, g3⟩ := c_goOnG hm (p5 hm hp) (hm.stp (p5 hm hp)) he hn hg
  refine ⟨T1, ?_, ((hf.tr h3).u _ _).tr g3⟩
  unfold f_m10_sayingByEvery
  rw [h1]
  simp only [Option.bind_some, knx]
  rw [g1]
  simp only [Option.bind_some]
  rw [g2.2.2.2.2.1]
  rfl
theorem c_bestL {S : kSt} (hc : cOk S) (hm : mOk S) {p n : Nat} (hp : p < gN S 57 2) (hn : n ≤ 60) : ∀ (j i fu : Nat) (T : kSt), i + j = 9 → j < fu → frm 6 S T → ∃ T', f_m10_bestEvery_L8 (fun x S => some (x, S)) (nI p) (nI n) fu (nI (bstE (evyS S p n) i)) (nI (evyS S p n (bstE (evyS S p n) i))) (nI (i + 1)) T = some (nI (bstE (evyS S p n) 9), T') ∧ frm 6 S T' := by
  intro j
  induction j with
  | zero =>
    intro i fu T hi hfu hf
    obtain ⟨fu, rfl⟩ : ∃ m, fu = m + 1 := ⟨fu - 1, by omega⟩
    rw [f_m10_bestEvery_L8, if_pos (show (9 : Int32) < nI (i + 1) from nI_lt (a := 9) (by omega) (by omega)), show i = 9 by omega]
    exact ⟨T, rfl, hf⟩
  | succ j ih =>
    intro i fu T hi hfu hf
    obtain ⟨fu, rfl⟩ : ∃ m, fu = m + 1 := ⟨fu - 1, by omega⟩
    rw [f_m10_bestEvery_L8, if_neg (show ¬ (9 : Int32) < nI (i + 1) from nI_nlt (a := 9) (by omega) (by omega))]
    obtain ⟨T1, g1, g2⟩ := c_byEvery hc hm hp hn (show i + 1 ≤ 9 by omega) hf
    rw [g1]
    simp only [Option.bind_some, knx]
    have b1 : evyS S p n (i + 1) ≤ gN S 57 0 := sayG_le hm (p5 hm hp) (gN S 61 (5 + p)) (i + 1) n
    have b2 : evyS S p n (bstE (evyS S p n) i) ≤ gN S 57 0 := sayG_le hm (p5 hm hp) (gN S 61 (5 + p)) (bstE (evyS S p n) i) n
    have b3 := hm.1.2.2
    rw [kite (nI_leI (show evyS S p n (i + 1) < 2 ^ 31 by omega) (show evyS S p n (bstE (evyS S p n) i) < 2 ^ 31 by omega)), nI_1]
    obtain ⟨T2, e1, e2⟩ := ih (i + 1) fu T1 (by omega) (by omega) g2
    refine ⟨T2, ?_, e2⟩
    rw [← e1, bstE]
    split <;> rfl
theorem c_best {S : kSt} (hc : cOk S) (hm : mOk S) {p n : Nat} (hp : p < gN S 57 2) (hn : n ≤ 60) : ∃ T', f_m10_bestEvery (nI p) (nI n) S = some (nI (bstE (evyS S p n) 9), T') ∧ frm 6 S T' := by
  unfold f_m10_bestEvery
  obtain ⟨T1, g1, g2⟩ := c_byEvery hc hm hp hn (show 0 ≤ 9 by omega) (frm.rf (w := 6) (S := S))
  obtain ⟨T2, e1, e2⟩ := c_bestL hc hm hp hn 9 0 999999 T1 rfl (by decide) g2
  refine ⟨T2, ?_, e2⟩
  rw [← e1, show kFU = 999999 + 1 from rfl, f_m10_bestEvery_L8, if_neg (by decide)]
  rw [show f_m10_sayingByEvery (nI p) 0 (nI n) S = _ from g1]
  simp only [Option.bind_some, knx]
  rw [if_neg]
  · rfl
  · intro h
    have b1 := sayG_le hm (p5 hm hp) (gN S 61 (5 + p)) 0 n
    have b3 := hm.1.2.2
    have h0 : (0 : Int32) ≤ nI (evyS S p n 0) := nI_pos' (by unfold evyS; omega)
    exact absurd (Int32.le_trans h0 h) (by decide)
theorem m_bestL {S : kSt} (hm : mOk S) {p n : Nat} (hp : p < 5) (hn : n ≤ 60) : ∀ (j i fu : Nat), i + j = 9 → j < fu → f_m11_bestEvery_L5 (fun x S => some (x, S)) (nI p) (nI n) fu (nI (bstE (evyS S p n) i)) (nI (i + 1)) S = some (nI (bstE (evyS S p n) 9), S) := by
  intro j
  induction j with
  | zero =>
    intro i fu hi hfu
    obtain ⟨fu, rfl⟩ : ∃ m, fu = m + 1 := ⟨fu - 1, by omega⟩
    rw [f_m11_bestEvery_L5, if_pos (show (9 : Int32) < nI (i + 1) from nI_lt (a := 9) (by omega) (by omega)), show i = 9 by omega]
  | succ j ih =>
    intro i fu hi hfu
    obtain ⟨fu, rfl⟩ : ∃ m, fu = m + 1 := ⟨fu - 1, by omega⟩
    have hst := (hm.2.2.2.2.2.2.2.2.2.1 p hp).2.1
    simp only [Nat.zero_add] at hst
    have hb := bstE_le (evyS S p n) i
    rw [f_m11_bestEvery_L5, if_neg (show ¬ (9 : Int32) < nI (i + 1) from nI_nlt (a := 9) (by omega) (by omega))]
    simp only [knx]
    rw [nI5, kgi_nI (by omega) (by omega), nI_clamp (by omega), hst, m_saysG hm hp (hm.stp hp) (show i + 1 ≤ 9 by omega) (by omega)]
    simp only [Option.bind_some]
    rw [kgi_nI (by omega) (by omega), hst, m_saysG hm hp (hm.stp hp) (show bstE (evyS S p n) i ≤ 9 by omega) (by omega)]
    simp only [Option.bind_some]
    have b1 := sayG_le hm hp (gN S 61 (5 + p)) (i + 1) n
    have b2 := sayG_le hm hp (gN S 61 (5 + p)) (bstE (evyS S p n) i) n
    have b3 := hm.1.2.2
    rw [kite (nI_leI (by omega) (by omega)), nI_1]
    have e1 := ih (i + 1) fu (by omega) (by omega)
    rw [← e1, bstE]
    show (if evyS S p n (i + 1) ≤ evyS S p n (bstE (evyS S p n) i) then _ else _) = _
    split <;> rfl
theorem m_best {S : kSt} (hm : mOk S) {p n : Nat} (hp : p < 5) (hn : n ≤ 60) : f_m11_bestEvery (nI p) (nI n) S = some (nI (bstE (evyS S p n) 9), S) := m_bestL hm hp hn 9 0 kFU rfl (by decide)
theorem evyS_k {S T : kSt} (hk : keep S T) (p n : Nat) : evyS T p n = evyS S p n := funext fun e => by
  unfold evyS
  rw [sayG_k hk, hk.gn (a := 61) rfl]
theorem b_everyFor {S : kSt} (hc : cOk S) (hm : mOk S) {p n : Nat} (hp : p < gN S 57 2) (hn : n ≤ 60) : Body (cb_everyFor (nI p) (nI n)) (mb_everyFor (nI p) (nI n)) S := by
  refine body_of (nI (bstE (evyS S p n) 9)) ?_ (fun T hk => ?_)
  · obtain ⟨T1, g1, g2⟩ := c_best hc hm hp hn
    refine ⟨T1, ?_, g2⟩
    unfold cb_everyFor
    rw [g1]
    rfl
  · unfold mb_everyFor
    rw [m_best (hk.mk.mpr hm) (p5 hm hp) hn, evyS_k hk]
    rfl
theorem b_everySays {S : kSt} (hc : cOk S) (hm : mOk S) {p n : Nat} (hp : p < gN S 57 2) (hn : n ≤ 60) : Body (cb_everySays (nI p) (nI n)) (mb_everySays (nI p) (nI n)) S := by
  have hb := bstE_le (evyS S p n) 9
  refine body_of (nI (evyS S p n (bstE (evyS S p n) 9))) ?_ (fun T hk => ?_)
  · obtain ⟨T1, g1, g2⟩ := c_best hc hm hp hn
    obtain ⟨T2, e1, e2⟩ := c_byEvery hc hm hp hn hb g2
    refine ⟨T2, ?_, e2⟩
    unfold cb_everySays
    rw [g1]
    simp only [Option.bind_some]
    rw [e1]
    rfl
  · have hm2 := hk.mk.mpr hm
    have hst := (hm2.2.2.2.2.2.2.2.2.2.1 p (p5 hm hp)).2.1
    simp only [Nat.zero_add] at hst
    unfold mb_everySays
    simp only [knx]
    rw [nI5, kgi_nI (by have := p5 hm hp; omega) (by omega), m_best hm2 (p5 hm hp) hn]
    simp only [Option.bind_some]
    rw [nI_clamp (by have := p5 hm hp; omega), hst, evyS_k hk, m_saysG hm2 (p5 hm hp) (hm2.stp (p5 hm hp)) hb (by omega)]
    simp only [Option.bind_some]
    rw [sayG_k hk, hk.gn (a := 61) rfl]
    rfl
