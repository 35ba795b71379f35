-- which sets fit: the class
def okH (S : kSt) (p s h : Nat) : Bool := decide (hP S h = p → hN S p s (hS S h) = hF S h)
def fhB (S : kSt) (p s : Nat) : Bool := alF (okH S p s) (gN S 57 6) 0
theorem c_heardL {S : kSt} (hc : cOk S) (hm : mOk S) {p s : Nat} (hp : p < gN S 57 2) (hs : s ≤ 20) : ∀ (j i fu : Nat) (T : kSt), i + j = gN S 57 6 → j < fu → frc S T → ∃ T', f_m1_fitsHeard_L3 (fun S => some (false, S)) (fun S => some (true, S)) (nI p) (nI s) fu (nI i) T = some (alF (okH S p s) j i, T') ∧ frc S T' ∧ frm 13 T T' := by
  intro j
  have hp5 := p5 hm hp
  have hH := hm.hrs.1
  have hH8 := hm.hrs.2
  have hc6 := hc.1 6 (by omega)
  induction j with
  | zero =>
    intro i fu T hi hfu hf
    obtain ⟨fu, rfl⟩ : ∃ m, fu = m + 1 := ⟨fu - 1, by omega⟩
    rw [f_m1_fitsHeard_L3, hf 1 (by decide), hc6, hH, if_pos (nI_le (by omega) (by omega))]
    exact ⟨T, rfl, hf, frm.rf⟩
  | succ j ih =>
    intro i fu T hi hfu hf
    obtain ⟨fu, rfl⟩ : ∃ m, fu = m + 1 := ⟨fu - 1, by omega⟩
    have hk := hf.kp.1
    obtain ⟨u1, u2, u3, u4⟩ := hm.hr (k := i) (by omega)
    obtain ⟨c1, c2, c3⟩ := hc.2.2.2.2.2.1 i (by omega)
    rw [f_m1_fitsHeard_L3, hf 1 (by decide), hc6, hH, if_neg (nI_ge (by omega) (by omega)), kgi_nI (by omega) (by omega), nI_clamp (by omega), hf 25 (by decide), c1, u1.1]
    simp only [knx_e]
    rw [kite (nI_eq (by have := u1.2; omega) (by omega)), nI_1]
    by_cases h : gN S 57 (26 + 3 * i) = p
    · rw [if_pos h]
      obtain ⟨T1, e1, e2, e3⟩ := c_asTold (hk.ck.mpr hc) (w := 13) (p := p) (Or.inr (Or.inr rfl)) hp5 (by rw [hk.gn (a := 57) rfl]; exact hp) (hk.mk.mpr hm)
      have ht := hm.told hp5
      have hl := hm.2.2.2.2.2.1 _ hp5
      rw [hk.gn (a := 57) rfl, hk.gn (a := 57) rfl, hk.gn (a := 57) rfl, hk.gn (a := 59) rfl, hk.gn (a := 59) rfl] at e2
      have e2' : wk (kuI T1 13 2 (nI s)) 13 (gN S 57 0) (gN S 57 (8 + p)) s (gN S 57 (13 + p)) (gN S 59 p) 0 := by
        obtain ⟨a0, a1, a2, a3, a4, a5⟩ := e2
        refine ⟨?_, ?_, ?_, ?_, ?_, ?_⟩ <;> simp [uI_get, a0, a1, a3, a4, a5]
      obtain ⟨T2, g1, g2, g3⟩ := c_goOn e2' hm.1.2.2 hl.1.2 hs hl.2.2 ht.1 (N := gN S 57 (27 + 3 * i)) (by have := u2.2; omega) (by omega)
      rw [e1]
      simp only [Option.bind_some]
      have e26 : (kuI T1 13 2 (nI s)).1 26 i = nI (gN S 57 (27 + 3 * i)) := by
        rw [uI_get, if_neg (by omega), e3.1 26 (by decide), hf 26 (by decide), c2, u2.1]
      rw [e26, kgi_nI (by omega) (by omega), g1]
      simp only [Option.bind_some]
      have e27 : T2.1 27 i = nI (gN S 57 (28 + 3 * i)) := by
        rw [g3.1 27 (by decide), kuI_ne _ _ _ (by decide), e3.1 27 (by decide), hf 27 (by decide), c3, u3.1]
      have hb := hN_le hm hp5 s (gN S 57 (27 + 3 * i))
      have hw := hm.1.2.2
      have f13 : frm 13 T T2 := (e3.u _ _).tr g3
      have f2 : frc S T2 := hf.tr (f13.c rfl)
      rw [kgi_nI (by omega) (by omega), e27, g2.2.2.2.2.1]
      show ∃ T', (if nI (hN S p s (gN S 57 (27 + 3 * i))) = _ then _ else _) = _ ∧ _ ∧ _
      rw [kite (nI_eq (by omega) (by have := u3.2; omega)), alF]
      by_cases h2 : hN S p s (gN S 57 (27 + 3 * i)) = gN S 57 (28 + 3 * i)
      · have ho : okH S p s i = true := decide_eq_true (fun _ => h2)
        rw [if_pos h2, ho, Bool.true_and]
        obtain ⟨T3, k1, k2, k3⟩ := ih (i + 1) fu T2 (by omega) (by omega) f2
        exact ⟨T3, k1, k2, f13.tr k3⟩
      · have ho : okH S p s i = false := decide_eq_false (fun q => h2 (q h))
        rw [if_neg h2, ho, Bool.false_and]
        exact ⟨T2, rfl, f2, f13⟩
    · have ho : okH S p s i = true := decide_eq_true (fun q => absurd q h)
      rw [if_neg h, alF, ho, Bool.true_and]
      exact ih (i + 1) fu T (by omega) (by omega) hf
theorem c_heard {S T : kSt} (hc : cOk S) (hm : mOk S) {p s : Nat} (hp : p < gN S 57 2) (hs : s ≤ 20) (hf : frc S T) : ∃ T', f_m1_fitsHeard (nI p) (nI s) T = some (fhB S p s, T') ∧ frc S T' ∧ frm 13 T T' := by
  have hH8 := hm.hrs.2
  have hFU := kFU_big
  obtain ⟨T', e1, e2, e3⟩ := c_heardL hc hm hp hs (gN S 57 6) 0 kFU T (by omega) (by omega) hf
  rw [nI_0] at e1
  exact ⟨T', e1, e2, e3⟩
def uP (S : kSt) (u : Nat) : Nat := gN S 57 (18 + 2 * u)
def uS (S : kSt) (u : Nat) : Nat := gN S 57 (19 + 2 * u)
def tS (S : kSt) (p : Nat) : Nat := gN S 59 (5 + p)
def sureB (S : kSt) (p : Nat) : Bool := alF (fun u => decide (¬ uP S u = p)) (gN S 57 5) 0
theorem c_unsL {S T : kSt} (hc : cOk S) (hm : mOk S) (hf : frc S T) {p : Nat} (hp : p < 5) : ∀ (j i fu : Nat), i + j = gN S 57 5 → j < fu → f_m5_isUnsure_t_L2 (fun S => some (true, S)) (fun S => some (false, S)) (nI p) fu (nI i) T = some (!alF (fun u => decide (¬ uP S u = p)) j i, T) := by
  intro j
  have hU := hm.uns.1
  have hU4 := hm.uns.2
  have hc5 := hc.1 5 (by omega)
  induction j with
  | zero =>
    intro i fu hi hfu
    obtain ⟨fu, rfl⟩ : ∃ m, fu = m + 1 := ⟨fu - 1, by omega⟩
    rw [f_m5_isUnsure_t_L2, hf 1 (by decide), hc5, hU, if_pos (nI_le (by omega) (by omega))]
    rfl
  | succ j ih =>
    intro i fu hi hfu
    obtain ⟨fu, rfl⟩ : ∃ m, fu = m + 1 := ⟨fu - 1, by omega⟩
    obtain ⟨u1, u2, u3⟩ := hm.un (k := i) (by omega)
    rw [f_m5_isUnsure_t_L2, hf 1 (by decide), hc5, hU, if_neg (nI_ge (by omega) (by omega)), kgi_nI (by omega) (by omega), nI_clamp (by omega), hf 23 (by decide), (hc.2.2.2.2.1 i (by omega)).1, u1.1, kite (nI_eq (by have := u1.2; omega) (by omega)), alF]
    simp only [knx_e]
    rw [nI_1, ih (i + 1) fu (by omega) (by omega)]
    by_cases h : gN S 57 (18 + 2 * i) = p
    · rw [if_pos h, decide_eq_false (fun q => q (show uP S i = p from h))]
      rfl
    · rw [if_neg h, decide_eq_true (show ¬ uP S i = p from h)]
      rfl
theorem c_uns {S T : kSt} (hc : cOk S) (hm : mOk S) (hf : frc S T) {p : Nat} (hp : p < 5) : f_m5_isUnsure_t (nI p) T = some (!sureB S p, T) := by
  have hU4 := hm.uns.2
  have hFU := kFU_big
  have := c_unsL hc hm hf hp (gN S 57 5) 0 kFU (by omega) (by omega)
  rw [nI_0] at this
  exact this
def preB (S : kSt) (p : Nat) : Bool := !sureB S p || fhB S p (tS S p)
theorem cOk.stp {S : kSt} (h : cOk S) {p : Nat} (hp : p < 5) : S.1 20 p = S.1 59 (5 + p) := (h.2.2.1 p hp).2.2.1
theorem c_findA {S : kSt} (hc : cOk S) (hm : mOk S) (K1 K2 : kSt → Option kSt) : ∀ (j i fu : Nat) (T : kSt), i + j = gN S 57 2 → j < fu → frc S T → T.1 9 4 = 0 → ∃ T', f_m1_find_L7 K1 K2 fu (nI i) T = (if alF (preB S) j i then K2 T' else K1 T') ∧ frc S T' ∧ T'.1 9 4 = 0 := by
  intro j
  have hP := hm.2.2.1.2.1
  have hP5 := hm.2.2.1.2.2
  induction j with
  | zero =>
    intro i fu T hi hfu hf h9
    obtain ⟨fu, rfl⟩ : ∃ m, fu = m + 1 := ⟨fu - 1, by omega⟩
    rw [f_m1_find_L7, hf 1 (by decide), hc.pairs, hP, if_pos (nI_le (by omega) (by omega))]
    exact ⟨T, rfl, hf, h9⟩
  | succ j ih =>
    intro i fu T hi hfu hf h9
    obtain ⟨fu, rfl⟩ : ∃ m, fu = m + 1 := ⟨fu - 1, by omega⟩
    rw [f_m1_find_L7, hf 1 (by decide), hc.pairs, hP, if_neg (nI_ge (by omega) (by omega)), c_uns hc hm hf (by omega)]
    simp only [Option.bind_some, knx_e]
    rw [nI_1, kgi_nI (by omega) (by omega), nI_clamp (by omega), hf 20 (by decide), hc.stp (by omega), (hm.told (show i < 5 by omega)).2.2.2, alF]
    obtain ⟨T1, e1, e2, e3⟩ := c_heard hc hm (p := i) (s := gN S 59 (5 + i)) (by omega) (hm.told (by omega)).2.2.1 hf
    rw [e1]
    simp only [Option.bind_some]
    have h91 : T1.1 9 4 = 0 := by rw [e3.1 9 (by decide)]; exact h9
    unfold preB tS
    cases hs : sureB S i
    · rw [if_pos (by decide)]
      simp only [Bool.not_false, Bool.true_or, Bool.true_and]
      exact ih (i + 1) fu T (by omega) (by omega) hf h9
    · rw [if_neg (by decide)]
      cases hh : fhB S i (gN S 59 (5 + i))
      · rw [if_neg (by decide)]
        simp only [Bool.not_true, Bool.or_self, Bool.false_and, Bool.false_eq_true, if_false]
        exact ⟨T1, rfl, e2, h91⟩
      · rw [if_pos rfl]
        simp only [Bool.not_true, Bool.false_or, Bool.true_and]
        exact ih (i + 1) fu T1 (by omega) (by omega) e2 h91
def uOk (S T : kSt) (n : Nat) : Prop := ∀ u, u < n → T.1 46 u = kb (fhB S (uP S u) (tS S (uP S u))) ∧ T.1 47 u = kb (fhB S (uP S u) (uS S u))
theorem kb_i (b : Bool) : (if b = true then true else false) = b := by cases b <;> rfl
theorem c_findB {S : kSt} (hc : cOk S) (hm : mOk S) (K : kSt → Option kSt) : ∀ (j i fu : Nat) (T : kSt), i + j = gN S 57 5 → j < fu → frc S T → T.1 9 4 = 0 → uOk S T i → ∃ T', f_m1_find_L47 K fu (nI i) T = K T' ∧ frc S T' ∧ T'.1 9 4 = 0 ∧ uOk S T' (gN S 57 5) := by
  intro j
  have hU := hm.uns.1
  have hU4 := hm.uns.2
  have hc5 := hc.1 5 (by omega)
  induction j with
  | zero =>
    intro i fu T hi hfu hf h9 ho
    obtain ⟨fu, rfl⟩ : ∃ m, fu = m + 1 := ⟨fu - 1, by omega⟩
    rw [f_m1_find_L47, hf 1 (by decide), hc5, hU, if_pos (nI_le (by omega) (by omega)), show gN S 57 5 = i by omega]
    exact ⟨T, rfl, hf, h9, ho⟩
  | succ j ih =>
    intro i fu T hi hfu hf h9 ho
    obtain ⟨fu, rfl⟩ : ∃ m, fu = m + 1 := ⟨fu - 1, by omega⟩
    obtain ⟨u1, u2, u3⟩ := hm.un (k := i) (by omega)
    have hp := (u3 (by omega)).1
    have hp5 := p5 hm hp
    obtain ⟨c1, c2⟩ := hc.2.2.2.2.1 i (by omega)
    rw [f_m1_find_L47, hf 1 (by decide), hc5, hU, if_neg (nI_ge (by omega) (by omega)), kgi_nI (by omega) (by omega), nI_clamp (by omega), hf 23 (by decide), c1, u1.1]
    simp only [knx_e]
    rw [kgi_nI hp5 (by omega), nI_clamp (by omega), hf 20 (by decide), hc.stp hp5, (hm.told hp5).2.2.2]
    obtain ⟨T1, e1, e2, e3⟩ := c_heard hc hm (p := gN S 57 (18 + 2 * i)) (s := gN S 59 (5 + gN S 57 (18 + 2 * i))) hp (hm.told hp5).2.2.1 hf
    rw [e1]
    simp only [Option.bind_some]
    rw [kgi_nI (by omega) (by omega), kgi_nI (by omega) (by omega), kuI_ne _ _ _ (by decide), e2 24 (by decide), c2, u2.1, kb_i]
    obtain ⟨T2, g1, g2, g3⟩ := c_heard hc hm (T := kuI T1 46 i (kb (fhB S (gN S 57 (18 + 2 * i)) (gN S 59 (5 + gN S 57 (18 + 2 * i)))))) (p := gN S 57 (18 + 2 * i)) (s := gN S 57 (19 + 2 * i)) hp u2.2 (e2.u rfl _ _)
    rw [g1]
    simp only [Option.bind_some]
    rw [kgi_nI (by omega) (by omega), kb_i, nI_1]
    refine ih (i + 1) fu _ (by omega) (by omega) (g2.u rfl _ _) ?_ (fun u hu => ?_)
    · rw [uI_get, if_neg (by omega), g3.1 9 (by decide), uI_get, if_neg (by omega), e3.1 9 (by decide)]
      exact h9
    · by_cases h : u = i
      · subst h
        refine ⟨?_, ?_⟩
        · rw [uI_get, if_neg (by omega), g3.1 46 (by decide), uI_get, if_pos ⟨rfl, rfl⟩]
          rfl
        · rw [uI_get, if_pos ⟨rfl, rfl⟩]
          rfl
      · refine ⟨?_, ?_⟩
        · rw [uI_get, if_neg (by omega), g3.1 46 (by decide), uI_get, if_neg (by omega), e3.1 46 (by decide)]
          exact (ho u (by omega)).1
        · rw [uI_get, if_neg (by omega), g3.1 47 (by decide), uI_get, if_neg (by omega), e3.1 47 (by decide)]
          exact (ho u (by omega)).2
def gdB (S : kSt) (set u : Nat) : Bool := fhB S (uP S u) (if tb set u then uS S u else tS S (uP S u))
theorem kb0 (b : Bool) : kb b = 0 ↔ b = false := by cases b <;> decide
theorem c_isFitL {S T : kSt} (hm : mOk S) (ho : uOk S T (gN S 57 5)) {set : Nat} (hs : set < 32) : ∀ (j i fu : Nat), i + j = gN S 57 5 → j < fu → f_m1_isFit_L2 (fun S => some (false, S)) (fun S => some (true, S)) (nI set) (nI (gN S 57 5)) fu (nI i) T = some (alF (gdB S set) j i, T) := by
  intro j
  have hU4 := hm.uns.2
  induction j with
  | zero =>
    intro i fu hi hfu
    obtain ⟨fu, rfl⟩ : ∃ m, fu = m + 1 := ⟨fu - 1, by omega⟩
    rw [f_m1_isFit_L2, if_pos (nI_le (by omega) (by omega))]
    rfl
  | succ j ih =>
    intro i fu hi hfu
    obtain ⟨fu, rfl⟩ : ∃ m, fu = m + 1 := ⟨fu - 1, by omega⟩
    obtain ⟨o1, o2⟩ := ho i (by omega)
    rw [f_m1_isFit_L2, if_neg (nI_ge (by omega) (by omega))]
    simp only [knx_e]
    rw [kgi_nI (by omega) (by omega), kgi_nI (by omega) (by omega), nI_clamp (by omega), o1, o2, nI_1, ih (i + 1) fu (by omega) (by omega), tb_bit set hs i (by omega), show (0 : Int32) = nI 0 from rfl, kite (nI_eq (show set / 2 ^ i % 2 < 2 ^ 31 by omega) (by omega)), nI_0, kite (kb0 _), kite (kb0 _), alF]
    unfold gdB tb
    by_cases h : set / 2 ^ i % 2 = 0
    · rw [if_pos h, decide_eq_false (by omega)]
      simp only [Bool.false_eq_true, if_false]
      cases fhB S (uP S i) (tS S (uP S i)) <;> rfl
    · rw [if_neg h, decide_eq_true (by omega)]
      simp only [if_true]
      cases fhB S (uP S i) (uS S i) <;> rfl
theorem c_isFit {S T : kSt} (hm : mOk S) (ho : uOk S T (gN S 57 5)) {set : Nat} (hs : set < 32) : f_m1_isFit (nI set) (nI (gN S 57 5)) T = some (alF (gdB S set) (gN S 57 5) 0, T) := by
  have hU4 := hm.uns.2
  have hFU := kFU_big
  have := c_isFitL hm ho hs (gN S 57 5) 0 kFU (by omega) (by omega)
  rw [nI_0] at this
  exact this
-- the same sets
theorem stK_sure {S : kSt} {p set : Nat} : ∀ k, (∀ u, u < k → ¬ uP S u = p) → stK S p set k = tS S p
  | 0, _ => rfl
  | k + 1, h => by
    rw [stK, if_neg (fun q => h k (by omega) q.1), stK_sure k (fun u hu => h u (by omega))]
theorem stK_u {S : kSt} {set u : Nat} (hlt : ∀ i, i < u → ¬ uP S i = uP S u) : ∀ k, (∀ i, u < i → i < u + 1 + k → ¬ uP S i = uP S u) → stK S (uP S u) set (u + 1 + k) = if tb set u then uS S u else tS S (uP S u)
  | 0, _ => by
    rw [Nat.add_zero, stK, stK_sure u hlt]
    cases h : tb set u
    · rw [if_neg (fun q => by cases q.2), if_neg (by decide)]
    · rw [if_pos ⟨rfl, rfl⟩, if_pos rfl]
      rfl
  | k + 1, hgt => by
    rw [← Nat.add_assoc, stK, if_neg (fun q => hgt (u + 1 + k) (by omega) (by omega) q.1), stK_u hlt k (fun i h1 h2 => hgt i h1 (by omega))]
theorem stB_u {S : kSt} (hm : mOk S) {set u : Nat} (hu : u < gN S 57 5) : stB S (uP S u) set = if tb set u then uS S u else tS S (uP S u) := by
  have hU4 := hm.uns.2
  have := stK_u (S := S) (set := set) (u := u) (fun i hi => ((hm.un (k := u) (by omega)).2.2 hu).2 i hi) (gN S 57 5 - (u + 1)) (fun i h1 h2 => fun q => ((hm.un (k := i) (by omega)).2.2 (by omega)).2 u h1 q.symm)
  rw [show u + 1 + (gN S 57 5 - (u + 1)) = gN S 57 5 by omega] at this
  exact this
theorem stB_sure {S : kSt} {p set : Nat} (h : sureB S p = true) : stB S p set = tS S p := by
  unfold sureB at h
  rw [alF_iff] at h
  exact stK_sure _ (fun u hu => of_decide_eq_true (h u (by omega) (by omega)))
theorem fB_iff {S : kSt} (set : Nat) : fB S set = true ↔ ∀ h, h < gN S 57 6 → hN S (hP S h) (stB S (hP S h) set) (hS S h) = hF S h := by
  unfold fB
  rw [alF_iff]
  constructor
  · intro q h hh
    have := q h (by omega) (by omega)
    unfold hW at this
    simpa using this
  · intro q h h1 h2
    unfold hW
    simpa using q h (by omega)
theorem fhB_iff {S : kSt} (p s : Nat) : fhB S p s = true ↔ ∀ h, h < gN S 57 6 → hP S h = p → hN S p s (hS S h) = hF S h := by
  unfold fhB
  rw [alF_iff]
  constructor
  · intro q h hh
    exact of_decide_eq_true (q h (by omega) (by omega))
  · intro q h h1 h2
    exact decide_eq_true (q h (by omega))
theorem fit_eq {S : kSt} (hm : mOk S) (set : Nat) : (alF (preB S) (gN S 57 2) 0 && alF (gdB S set) (gN S 57 5) 0) = fB S set := by
  rw [Bool.eq_iff_iff, Bool.and_eq_true, fB_iff, alF_iff, alF_iff]
  have hU4 := hm.uns.2
  have hH8 := hm.hrs.2
  constructor
  · rintro ⟨h1, h2⟩ h hh
    have hp := (hm.hr (k := h) (by omega)).2.2.2 hh
    cases hs : sureB S (hP S h)
    · unfold sureB at hs
      have hne : ¬ ∀ k, 0 ≤ k → k < 0 + gN S 57 5 → decide (¬ uP S k = hP S h) = true := by
        rw [← alF_iff, hs]
        decide
      have : ∃ u, u < gN S 57 5 ∧ uP S u = hP S h := by
        apply Classical.byContradiction
        intro q
        exact hne (fun k _ hk => decide_eq_true (fun e => q ⟨k, by omega, e⟩))
      obtain ⟨u, hu, hue⟩ := this
      have := h2 u (by omega) (by omega)
      unfold gdB at this
      rw [fhB_iff] at this
      rw [← hue, stB_u hm hu]
      exact this h hh hue.symm
    · have := h1 (hP S h) (by omega) (by show _ < 0 + gN S 57 2; unfold hP; omega)
      unfold preB at this
      rw [hs, Bool.not_true, Bool.false_or, fhB_iff] at this
      rw [stB_sure hs]
      exact this h hh rfl
  · intro q
    refine ⟨fun p _ hp => ?_, fun u _ hu => ?_⟩
    · unfold preB
      cases hs : sureB S p
      · rfl
      · rw [Bool.not_true, Bool.false_or, fhB_iff]
        rintro h hh rfl
        have := q h hh
        rw [stB_sure hs] at this
        exact this
    · unfold gdB
      rw [fhB_iff]
      intro h hh e
      have := q h hh
      rw [e, stB_u hm (by omega)] at this
      exact this
def fsO (S T : kSt) (L : List Nat) : Prop := T.1 9 4 = nI L.length ∧ ∀ i, i < L.length → T.1 48 i = nI (L.getD i 0)
theorem c_findC {S : kSt} (hc : cOk S) (hm : mOk S) (hpre : alF (preB S) (gN S 57 2) 0 = true) (K : kSt → Option kSt) : ∀ (j i fu : Nat) (T : kSt), i + j = 2 ^ gN S 57 5 → j < fu → frc S T → uOk S T (gN S 57 5) → fsO S T (lsF S i) → ∃ T', f_m1_find_L122 K fu (nI i) T = K T' ∧ frc S T' ∧ fsO S T' (LF S) := by
  intro j
  have hU := hm.uns.1
  have hU4 := hm.uns.2
  have h16 := p2U hm
  have hc5 := hc.1 5 (by omega)
  induction j with
  | zero =>
    intro i fu T hi hfu hf ho hl
    obtain ⟨fu, rfl⟩ : ∃ m, fu = m + 1 := ⟨fu - 1, by omega⟩
    rw [f_m1_find_L122, hf 1 (by decide), hc5, hU, shlU _ hU4, if_pos (nI_le (by omega) (by omega))]
    unfold LF
    rw [show 2 ^ gN S 57 5 = i by omega]
    exact ⟨T, rfl, hf, hl⟩
  | succ j ih =>
    intro i fu T hi hfu hf ho hl
    obtain ⟨fu, rfl⟩ : ∃ m, fu = m + 1 := ⟨fu - 1, by omega⟩
    have hlen := lsF_len S i
    rw [f_m1_find_L122, hf 1 (by decide), hc5, hU, shlU _ hU4, if_neg (nI_ge (by omega) (by omega)), c_isFit hm ho (by omega)]
    simp only [Option.bind_some, knx_e]
    have he := fit_eq hm i
    rw [hpre, Bool.true_and] at he
    rw [he, nI_1, hl.1, kgi_nI (by omega) (by omega), nI_clamp (by omega)]
    cases hb : fB S i
    · rw [if_neg (by decide)]
      exact ih (i + 1) fu T (by omega) (by omega) hf ho (by rw [lsF, hb]; exact hl)
    · rw [if_pos rfl]
      refine ih (i + 1) fu _ (by omega) (by omega) ((hf.u rfl _ _).u rfl _ _) (fun u hu => ?_) ?_
      · have := ho u hu
        rw [kuI_ne _ _ _ (by decide), kuI_ne _ _ _ (by decide), kuI_ne _ _ _ (by decide), kuI_ne _ _ _ (by decide)]
        exact this
      · rw [lsF, hb, if_pos rfl]
        refine ⟨?_, fun k hk => ?_⟩
        · rw [uI_get, if_pos ⟨rfl, rfl⟩, uI_get, if_neg (by omega), hl.1, nI_1, List.length_append, List.length_singleton]
        · rw [List.length_append, List.length_singleton] at hk
          rw [kuI_ne _ _ _ (by decide), uI_get]
          by_cases h : k = (lsF S i).length
          · subst h
            rw [if_pos ⟨rfl, rfl⟩, List.getD_eq_getElem?_getD, List.getElem?_append_right (Nat.le_refl _), Nat.sub_self]
            rfl
          · rw [if_neg (fun q => h q.2), hl.2 k (by omega), List.getD_eq_getElem?_getD, List.getD_eq_getElem?_getD, List.getElem?_append_left (by omega)]
theorem lsF_nil {S : kSt} (h : ∀ set, fB S set = false) : ∀ n, lsF S n = []
  | 0 => rfl
  | n + 1 => by rw [lsF, h n, lsF_nil h n]; rfl
theorem c_find {S : kSt} (hc : cOk S) (hm : mOk S) : ∃ T', f_m1_find S = some T' ∧ frc S T' ∧ fsO S T' (LF S) := by
  have hU4 := hm.uns.2
  have h16 := p2U hm
  have hP5 := hm.2.2.1.2.2
  have hFU := kFU_big
  unfold f_m1_find
  simp only [knx_e]
  generalize kFU = FU at hFU ⊢
  obtain ⟨T1, e1, e2, e3⟩ := c_findA hc hm (fun S9 => some S9) (fun S10 => f_m1_find_L47 (fun S22 => f_m1_find_L122 (fun S31 => some S31) FU 0 S22) FU 0 S10) (gN S 57 2) 0 FU (kuI S 9 4 0) (by omega) (by omega) (frc.rf.u rfl _ _) (by rw [uI_get, if_pos ⟨rfl, rfl⟩])
  rw [nI_0] at e1
  rw [e1]
  cases hpre : alF (preB S) (gN S 57 2) 0
  · rw [if_neg (by decide)]
    refine ⟨T1, rfl, e2, ?_⟩
    have : LF S = [] := lsF_nil (fun set => by rw [← fit_eq hm set, hpre, Bool.false_and]) _
    rw [this]
    exact ⟨e3, fun i hi => absurd hi (Nat.not_lt_zero i)⟩
  · rw [if_pos rfl]
    obtain ⟨T2, g1, g2, g3, g4⟩ := c_findB hc hm (fun S22 => f_m1_find_L122 (fun S31 => some S31) FU 0 S22) (gN S 57 5) 0 FU T1 (by omega) (by omega) e2 e3 (fun u hu => absurd hu (by omega))
    rw [nI_0] at g1
    obtain ⟨T3, k1, k2, k3⟩ := c_findC hc hm hpre (fun S31 => some S31) (2 ^ gN S 57 5) 0 FU T2 (by omega) (by omega) g2 g4 ⟨g3, fun i hi => absurd hi (by simp [lsF])⟩
    rw [nI_0] at k1
    refine ⟨T3, ?_, k2, k3⟩
    rw [g1]
    exact k1
