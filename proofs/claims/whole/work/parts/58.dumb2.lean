theorem b_mean {S : kSt} (hc : cOk S) (hm : mOk S) {p n : Nat} (lo : Bool) (hp : p < gN S 57 2) (hn : n ≤ 5) : Body (cb_mean (nI p) (nI n) lo) (mb_mean (nI p) (nI n) lo) S := by
  have h32 := p2n hn
  have h100 := p100 hn
  have hle := sdM_le hm (p5 hm hp) n h100.1 (2 ^ n)
  have hlt : sdM S p n (2 ^ n) < 2 ^ 45 := by
    have h3 : 2 ^ n * (10000000000 * 99) ≤ 32 * (10000000000 * 99) := Nat.mul_le_mul_right _ h32
    exact Nat.lt_of_le_of_lt (Nat.le_trans hle h3) (by decide)
  refine body_cm (lN (loT (sdM S p n (2 ^ n)) (100 ^ n) lo)) ?_ (fun T hk => ?_)
  · unfold cb_mean
    obtain ⟨T1, e1, e2⟩ := c_meanL (lo := lo) hc hm hp hn (fun (x9 : Int64) (S10 : kSt) => (f_m10_allChances (nI n) S10).bind fun q11 => (f_m6_reduce x9 q11.1 q11.2).bind fun q12 => (f_m6_part lo q12).bind fun q13 => some (q13.1, q13.2)) (2 ^ n) 0 kFU S (by omega) (by show _ < 1000000; omega) frm.rf
    rw [show f_m10_mean_L27 _ (nI p) (nI n) lo kFU 0 0 S = _ from e1]
    rw [c_all100 hn]
    simp only [Option.bind_some]
    obtain ⟨T2, g1, g2⟩ := c_ratio lo T1 (a := sdM S p n (2 ^ n)) (b := 100 ^ n) hlt (by omega) h100.2
    refine ⟨T2, g1, fun a ha => ?_⟩
    rw [g2]
    exact (e2.c rfl) a ha
  · unfold mb_mean
    obtain ⟨T1, e1, e2, e3, e4, e5⟩ := m_td (hk.mk.mpr hm) (p := p) (n := n) (much := 0) (p5 hm hp) hn (by omega)
    rw [show f_m11_tryDumb (nI p) (nI n) 0 T = _ from e1]
    simp only [Option.bind_some]
    rw [e3, e5, sdM_k hk, m_lowest lo T1 hlt (by omega) h100.2]
    exact ⟨T1, rfl, frM_eq e2⟩
def cb_odds (a1 a2 a3 : Int32) (a4 : Bool) (S : kSt) : Option (Int64 × kSt) :=
  f_m10_odds_L44 
    (fun (x14 : Int64) (S15 : kSt) =>
      (f_m10_allChances a2 S15).bind fun q16 =>
      (f_m6_reduce x14 q16.1 q16.2).bind fun q17 =>
      (f_m6_part a4 q17).bind fun q18 =>
      some (q18.1, q18.2)
    )
    a1 a2 a3 a4 kFU 0 0 S
def mb_odds (a1 a2 a3 : Int32) (a4 : Bool) (S : kSt) : Option (Int64 × kSt) :=
  (f_m11_tryDumb a1 a2 a3 S).bind fun q8 =>
  (f_m11_lowest (q8.2 14 40) (q8.2 14 39) a4 q8).bind fun q9 =>
  some (q9.1, q9.2)
theorem ag_odds {S : kSt} (hI : Inv S) (a1 a2 a3 : Int32) (a4 : Bool) (h : pB S a1 = true → (uB a2 5 && uB a3 99) = true → Body (cb_odds a1 a2 a3 a4) (mb_odds a1 a2 a3 a4) (kuI S 0 18 0)) : Agree (f_m10_odds a1 a2 a3 a4) (f_m11_odds a1 a2 a3 a4) S := by
  refine ag_core hI (A := pB S a1) (B := uB a2 5 && uB a3 99) (rf := (-1)) ?_ (fun T hk => ?_) h
  · unfold f_m10_odds
    rw [c_isPair hI]
    simp only [Option.bind_some, knx_e]
    rw [c_upTo]
    simp only [Option.bind_some]
    rw [c_upTo]
    cases pB S a1 <;> cases uB a2 5 <;> cases uB a3 99 <;> simp only [Bool.false_and, Bool.and_false, Bool.true_and, Bool.and_self, Bool.false_eq_true, if_false, if_true, Option.bind_some, c_may, cb_odds]
  · unfold f_m11_odds
    rw [m_good]
    simp only [Option.bind_some, knx_e]
    rw [m_isPair hI (hk.tr kG0_keep)]
    simp only [Option.bind_some]
    rw [m_in, show (decide (0 ≤ a2 ∧ a2 ≤ 5)) = uB a2 5 from rfl]
    simp only [Option.bind_some]
    rw [m_in, show (decide (0 ≤ a3 ∧ a3 ≤ 99)) = uB a3 99 from rfl]
    cases pB S a1 <;> cases uB a2 5 <;> cases uB a3 99 <;> simp only [Bool.false_and, Bool.and_false, Bool.true_and, Bool.and_self, Bool.false_eq_true, if_false, if_true, Option.bind_some, m_why, k1ne, k2ne, m_no, kn64, mb_odds]
theorem b_odds {S : kSt} (hc : cOk S) (hm : mOk S) {p n much : Nat} (lo : Bool) (hp : p < gN S 57 2) (hn : n ≤ 5) (hu : much ≤ 99) : Body (cb_odds (nI p) (nI n) (nI much) lo) (mb_odds (nI p) (nI n) (nI much) lo) S := by
  have h32 := p2n hn
  have h100 := p100 hn
  have hle := sdO_le hm p n much h100.1 (2 ^ n)
  have hlt : sdO S p n much (2 ^ n) < 2 ^ 45 := by
    have h3 : 2 ^ n * 10000000000 ≤ 32 * 10000000000 := Nat.mul_le_mul_right _ h32
    exact Nat.lt_of_le_of_lt (Nat.le_trans hle h3) (by decide)
  refine body_cm (lN (loT (sdO S p n much (2 ^ n)) (100 ^ n) lo)) ?_ (fun T hk => ?_)
  · unfold cb_odds
    obtain ⟨T1, e1, e2⟩ := c_oddsL (lo := lo) hc hm hp hn hu (fun (x14 : Int64) (S15 : kSt) => (f_m10_allChances (nI n) S15).bind fun q16 => (f_m6_reduce x14 q16.1 q16.2).bind fun q17 => (f_m6_part lo q17).bind fun q18 => some (q18.1, q18.2)) (2 ^ n) 0 kFU S (by omega) (by show _ < 1000000; omega) frm.rf
    rw [show f_m10_odds_L44 _ (nI p) (nI n) (nI much) lo kFU 0 0 S = _ from e1]
    rw [c_all100 hn]
    simp only [Option.bind_some]
    obtain ⟨T2, g1, g2⟩ := c_ratio lo T1 (a := sdO S p n much (2 ^ n)) (b := 100 ^ n) hlt (by omega) h100.2
    refine ⟨T2, g1, fun a ha => ?_⟩
    rw [g2]
    exact (e2.c rfl) a ha
  · unfold mb_odds
    obtain ⟨T1, e1, e2, e3, e4, e5⟩ := m_td (hk.mk.mpr hm) (p := p) (n := n) (much := much) (p5 hm hp) hn hu
    rw [e1]
    simp only [Option.bind_some]
    rw [e3, e4, sdO_k hk, m_lowest lo T1 hlt (by omega) h100.2]
    exact ⟨T1, rfl, frM_eq e2⟩
-- drawn
def drB (d s k : Nat) : Bool := decide (drK s (k + 1) % 100 < d)
theorem c_drwL {S : kSt} (hc : cOk S) (hm : mOk S) {p n s : Nat} (hp : p < 5) (hn : n ≤ 60) (hs : s ≤ 65536) (K : kSt → Option (Int32 × kSt)) : ∀ (j i fu : Nat) (T : kSt), i + j = n → j < fu → frm 6 S T → WkB S T p (drB (gN S 57 1) s) i → ∃ T', f_m10_drawn_L60 K (nI n) fu (nI (drK s i)) (nI i) T = K T' ∧ WkB S T' p (drB (gN S 57 1) s) n ∧ frm 6 S T' := by
  have hd := hm.dmb
  have h11 : S.1 1 1 = S.1 57 1 := hc.1 1 (by omega)
  intro j
  induction j with
  | zero =>
    intro i fu T hi hfu hf hw
    obtain ⟨fu, rfl⟩ : ∃ m, fu = m + 1 := ⟨fu - 1, by omega⟩
    rw [f_m10_drawn_L60, if_pos (nI_le (by omega) (by omega))]
    have hin : n = i := by omega
    subst hin
    exact ⟨T, rfl, hw, hf⟩
  | succ j ih =>
    intro i fu T hi hfu hf hw
    obtain ⟨fu, rfl⟩ : ∃ m, fu = m + 1 := ⟨fu - 1, by omega⟩
    have hd0 := drK_le hs i
    have hd1 := drK_le hs (i + 1)
    rw [f_m10_drawn_L60, if_neg (nI_ge (by omega) (by omega))]
    unfold f_m10_drawFrom
    simp only [Option.bind_some, knx_e]
    rw [draw_I hd0, show (75 * drK s i + 74) % 65537 = drK s (i + 1) from rfl, show (100 : Int32) = nI 100 from rfl, krem_nI (by omega) (by omega) (by omega), hf.1 1 (by decide), h11, hd.1, kite (nI_leI (by omega) (show drK s (i + 1) % 100 < 2 ^ 31 by omega)), nI_1]
    by_cases hb : gN S 57 1 ≤ drK s (i + 1) % 100
    · rw [if_pos hb]
      obtain ⟨T1, e1, e2, e3⟩ := c_stepF hm hp (by omega) hw (by unfold drB; exact decide_eq_false (by omega))
      rw [e1]
      simp only [Option.bind_some]
      exact ih (i + 1) fu T1 (by omega) (by omega) (hf.tr e3) e2
    · rw [if_neg hb]
      obtain ⟨T1, e1, e2, e3⟩ := c_stepT hm hp (by omega) hw (by unfold drB; exact decide_eq_true (by omega))
      rw [e1]
      simp only [Option.bind_some]
      exact ih (i + 1) fu T1 (by omega) (by omega) (hf.tr e3) e2
theorem m_drwL {S : kSt} (hm : mOk S) {p n s : Nat} (hp : p < 5) (hn : n ≤ 60) (hs : s ≤ 65536) (K : Int32 → kSt → Option (Int32 × kSt)) : ∀ (j i fu : Nat), i + j = n → j < fu → f_m11_drawn_L67 K (nI p) (nI n) fu (nI (drK s i)) (nI (sayB S p (drB (gN S 57 1) s) i)) (nI (i + 1)) S = K (nI (sayB S p (drB (gN S 57 1) s) n)) S := by
  have hd := hm.dmb
  have hst := (hm.2.2.2.2.2.2.2.2.2.1 p hp).2
  have hev := (hm.2.2.2.2.2.1 p hp).2
  have hse := hm.2.2.2.2.2.2.2.2.2.2.2.2
  simp only [Nat.zero_add] at hst hse
  intro j
  induction j with
  | zero =>
    intro i fu hi hfu
    obtain ⟨fu, rfl⟩ : ∃ m, fu = m + 1 := ⟨fu - 1, by omega⟩
    rw [f_m11_drawn_L67, if_pos (nI_lt (by omega) (by omega)), show n = i by omega]
  | succ j ih =>
    intro i fu hi hfu
    obtain ⟨fu, rfl⟩ : ∃ m, fu = m + 1 := ⟨fu - 1, by omega⟩
    have h35 := hse.2
    have hd0 := drK_le hs i
    have hd1 := drK_le hs (i + 1)
    have hy := sayB_le hm hp (drB (gN S 57 1) s) i
    rw [f_m11_drawn_L67, if_neg (nI_nlt (by omega) (by omega))]
    simp only [knx_e]
    rw [draw_I hd0, show (75 * drK s i + 74) % 65537 = drK s (i + 1) from rfl, show (100 : Int32) = nI 100 from rfl, krem_nI (by omega) (by omega) (by omega), hd.1, kite (nI_leI (by omega) (show drK s (i + 1) % 100 < 2 ^ 31 by omega)), nI5, kgi_nI (by omega) (by omega), nI13, kgi_nI (by omega) (by omega), nI_clamp (by omega), nI_clamp (by omega), hst.1, hev.1, hse.1, nI_add]
    have hbb : (if gN S 57 1 ≤ drK s (i + 1) % 100 then false else true) = drB (gN S 57 1) s i := by
      unfold drB
      by_cases hb : gN S 57 1 ≤ drK s (i + 1) % 100
      · rw [if_pos hb, decide_eq_false (by omega)]
      · rw [if_neg hb, decide_eq_true (by omega)]
    rw [hbb, m_behind hm hp hy hst.2 hev.2 (by omega) (drB (gN S 57 1) s i)]
    simp only [Option.bind_some]
    rw [nI_1]
    exact ih (i + 1) fu (by omega) (by omega)
def cb_drawn (a1 a2 a3 : Int32) (S : kSt) : Option (Int32 × kSt) :=
  (f_m9_begin 6 a1 S).bind fun q7 =>
  f_m10_drawn_L60 
    (fun  (S15 : kSt) =>
      some (S15.1 6 4, S15)
    )
    a3 kFU a2 0 q7
def mb_drawn (a1 a2 a3 : Int32) (S : kSt) : Option (Int32 × kSt) :=
  kgi a1 36 (
    knx (S.1 61 a1.toNatClampNeg) fun x8 =>
    f_m11_drawn_L67 
      (fun (x17 : Int32) (S18 : kSt) =>
        some (x17, S18)
      )
      a1 a3 kFU a2 x8 1 S
  )
theorem ag_drawn {S : kSt} (hI : Inv S) (a1 a2 a3 : Int32) (h : pB S a1 = true → (uB a2 65536 && uB a3 60) = true → Body (cb_drawn a1 a2 a3) (mb_drawn a1 a2 a3) (kuI S 0 18 0)) : Agree (f_m10_drawn a1 a2 a3) (f_m11_drawn a1 a2 a3) S := by
  refine ag_core hI (A := pB S a1) (B := uB a2 65536 && uB a3 60) (rf := (-1)) ?_ (fun T hk => ?_) h
  · unfold f_m10_drawn
    rw [c_isPair hI]
    simp only [Option.bind_some, knx_e]
    rw [c_upTo]
    simp only [Option.bind_some]
    rw [c_upTo]
    cases pB S a1 <;> cases uB a2 65536 <;> cases uB a3 60 <;> simp only [Bool.false_and, Bool.and_false, Bool.true_and, Bool.and_self, Bool.false_eq_true, if_false, if_true, Option.bind_some, c_may, cb_drawn]
  · unfold f_m11_drawn
    rw [m_good]
    simp only [Option.bind_some, knx_e]
    rw [m_isPair hI (hk.tr kG0_keep)]
    simp only [Option.bind_some]
    rw [m_in, show (decide (0 ≤ a2 ∧ a2 ≤ 65536)) = uB a2 65536 from rfl]
    simp only [Option.bind_some]
    rw [m_in, show (decide (0 ≤ a3 ∧ a3 ≤ 60)) = uB a3 60 from rfl]
    cases pB S a1 <;> cases uB a2 65536 <;> cases uB a3 60 <;> simp only [Bool.false_and, Bool.and_false, Bool.true_and, Bool.and_self, Bool.false_eq_true, if_false, if_true, Option.bind_some, m_why, k1ne, k2ne, m_no, mb_drawn, knx]
theorem b_drawn {S : kSt} (hc : cOk S) (hm : mOk S) {p s n : Nat} (hp : p < gN S 57 2) (hs : s ≤ 65536) (hn : n ≤ 60) : Body (cb_drawn (nI p) (nI s) (nI n)) (mb_drawn (nI p) (nI s) (nI n)) S := by
  have h5 := p5 hm hp
  refine body_cm (nI (sayB S p (drB (gN S 57 1) s) n)) ?_ (fun T hk => ?_)
  · unfold cb_drawn
    obtain ⟨T1, e1, e2, e3⟩ := c_start hc hm (w := 6) (p := p) (Or.inl rfl) hp
    rw [e1]
    simp only [Option.bind_some]
    have e4 : WkB S T1 p (drB (gN S 57 1) s) 0 := e2
    obtain ⟨T2, g1, g2, g3⟩ := c_drwL hc hm h5 hn hs (fun (S15 : kSt) => some (S15.1 6 4, S15)) n 0 kFU T1 (by omega) (by show _ < 1000000; omega) e3 e4
    refine ⟨T2, ?_, g3.c rfl⟩
    rw [show f_m10_drawn_L60 _ (nI n) kFU (nI s) 0 T1 = _ from g1, g2.2.2.2.2.1]
  · unfold mb_drawn
    have hm2 := hk.mk.mpr hm
    have hf0 := (hm2.2.2.2.2.2.2.2.2.2.1 p h5).1.1
    simp only [Nat.zero_add] at hf0
    simp only [knx_e]
    rw [kgi_nI (by omega) (by omega), nI_clamp (by omega), hf0]
    have := m_drwL hm2 h5 hn hs (fun (x17 : Int32) (S18 : kSt) => some (x17, S18)) n 0 kFU (by omega) (by show _ < 1000000; omega)
    rw [sayB_k hk p _ n, hk.gn (a := 57) rfl] at this
    exact ⟨T, this, frM.rf⟩
