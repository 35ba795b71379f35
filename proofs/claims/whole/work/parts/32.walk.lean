-- the class's rows are the reference's
def cOk (S : kSt) : Prop := (∀ i, i < 7 → S.1 1 i = S.1 57 i) ∧ (∀ p, p < gN S 57 2 → S.1 18 p = S.1 57 (8 + p)) ∧ (∀ p, p < 5 → S.1 21 p = S.1 57 (13 + p) ∧ S.1 19 p = S.1 59 p ∧ S.1 20 p = S.1 59 (5 + p) ∧ S.1 40 p = S.1 61 p ∧ S.1 41 p = S.1 61 (5 + p)) ∧ (∀ j, j < 25 → S.1 22 j = S.1 59 (10 + j) ∧ S.1 42 j = S.1 61 (10 + j)) ∧ (∀ k, k < gN S 57 5 → S.1 23 k = S.1 57 (18 + 2 * k) ∧ S.1 24 k = S.1 57 (19 + 2 * k)) ∧ (∀ k, k < gN S 57 6 → S.1 25 k = S.1 57 (26 + 3 * k) ∧ S.1 26 k = S.1 57 (27 + 3 * k) ∧ S.1 27 k = S.1 57 (28 + 3 * k)) ∧ S.1 4 0 = S.1 61 35
/-- a walk's picture -/
def wk (S : kSt) (w W g s e f n : Nat) : Prop := S.1 w 0 = nI W ∧ S.1 w 1 = nI g ∧ S.1 w 2 = nI s ∧ S.1 w 3 = nI e ∧ S.1 w 4 = nI f ∧ S.1 w 5 = nI n
/-- cell w alone has changed -/
def frm (w : Nat) (S S' : kSt) : Prop := (∀ a, a ≠ w → S'.1 a = S.1 a) ∧ S'.2 = S.2
theorem frm.rf {w : Nat} {S : kSt} : frm w S S := ⟨fun _ _ => rfl, rfl⟩
theorem frm.tr {w : Nat} {S S1 S2 : kSt} (h1 : frm w S S1) (h2 : frm w S1 S2) : frm w S S2 := ⟨fun a ha => (h2.1 a ha).trans (h1.1 a ha), h2.2.trans h1.2⟩
theorem frm.u {w : Nat} {S S1 : kSt} (h : frm w S S1) (j : Nat) (x : Int32) : frm w S (kuI S1 w j x) := ⟨fun a ha => by rw [kuI_ne S1 j x ha]; exact h.1 a ha, h.2⟩
theorem c_goDumb {S : kSt} {w W g s e f n : Nat} (h : wk S w W g s e f n) (he : e ≤ 9) (hf : f ≤ W) (hn : n < 100000) : ∃ S', f_m9_goDumb w S = some S' ∧ wk S' w W g s e (dumbN W e (n + 1) f) (n + 1) ∧ frm w S S' := by
  obtain ⟨h0, h1, h2, h3, h4, h5⟩ := h
  unfold f_m9_goDumb dumbN
  simp only [knx, uI_get, h3, h5, h0, h4, true_and, if_true, show ¬ (3 : Nat) = 5 by decide, show ¬ (0 : Nat) = 5 by decide, show ¬ (4 : Nat) = 5 by decide, if_false]
  rw [nI_1]
  by_cases h00 : e = 0
  · subst h00
    rw [if_pos (by decide)]
    refine ⟨_, rfl, ?_, frm.rf.u _ _⟩
    refine ⟨?_, ?_, ?_, ?_, ?_, ?_⟩ <;> simp [uI_get, h0, h1, h2, h3, h4]
  · rw [if_neg (nI_nle (by omega) (by omega)), kgz_nI (by omega) (by omega), krem_nI (by omega) (by omega) (by omega), show (0 : Int32) = nI 0 from rfl, kite (nI_eq (Nat.lt_of_le_of_lt (Nat.mod_le _ e) (by omega)) (by omega))]
    by_cases hm : (n + 1) % e = 0
    · rw [if_pos hm, if_pos ⟨by omega, hm⟩, pk_sub hf]
      refine ⟨_, rfl, ?_, (frm.rf.u _ _).u _ _⟩
      refine ⟨?_, ?_, ?_, ?_, ?_, ?_⟩ <;> simp [uI_get, h0, h1, h2, h3]
    · rw [if_neg hm, if_neg (fun q => hm q.2)]
      refine ⟨_, rfl, ?_, frm.rf.u _ _⟩
      refine ⟨?_, ?_, ?_, ?_, ?_, ?_⟩ <;> simp [uI_get, h0, h1, h2, h3, h4]
theorem c_byLaw {S : kSt} {w W g s e f n : Nat} (h : wk S w W g s e f n) (hW : W ≤ 99) (hg : g ≤ 3) (hs : s ≤ 20) (hf : f ≤ W) : ∃ x, f_m9_byLaw w S = some (x, S) ∧ kmax 0 (kmin (S.1 w 0) x) = nI (lawN W g s f) := by
  obtain ⟨h0, h1, h2, h3, h4, h5⟩ := h
  unfold f_m9_byLaw
  rw [h0, h1, h2, h4]
  rcases (show g = 0 ∨ g = 1 ∨ g = 2 ∨ g = 3 by omega) with rfl | rfl | rfl | rfl
  · refine ⟨_, rfl, ?_⟩
    rw [nI_add, kmin_nI (by omega) (by omega), show (0 : Int32) = nI 0 from rfl, kmax_nI (by omega) (by omega), Nat.max_eq_right (by omega)]
    rfl
  · refine ⟨_, rfl, ?_⟩
    rw [nI2m, nI_add, kmin_nI (by omega) (by omega), show (0 : Int32) = nI 0 from rfl, kmax_nI (by omega) (by omega), Nat.max_eq_right (by omega)]
    rfl
  · refine ⟨_, rfl, ?_⟩
    rw [kmax0_sub hf (by omega) (by omega)]
    rfl
  · refine ⟨_, rfl, ?_⟩
    rw [pk_sub hf, nI_add, kmin_nI (by omega) (by omega), show (0 : Int32) = nI 0 from rfl, kmax_nI (by omega) (by omega), Nat.max_eq_right (by omega)]
    rfl
theorem c_go {S : kSt} {w W g s e f n : Nat} (h : wk S w W g s e f n) (hW : W ≤ 99) (hg : g ≤ 3) (hs : s ≤ 20) (he : e ≤ 9) (hf : f ≤ W) (hn : n < 100000) : ∃ S', f_m9_go w S = some S' ∧ wk S' w W g s e (goN W g s e (n + 1) f) (n + 1) ∧ frm w S S' := by
  obtain ⟨x, hx, hx2⟩ := c_byLaw h hW hg hs hf
  unfold f_m9_go
  rw [hx]
  simp only [Option.bind_some, knx]
  rw [hx2]
  have h' : wk (kuI S w 4 (nI (lawN W g s f))) w W g s e (lawN W g s f) n := by
    obtain ⟨h0, h1, h2, h3, h4, h5⟩ := h
    refine ⟨?_, ?_, ?_, ?_, ?_, ?_⟩ <;> simp [uI_get, h0, h1, h2, h3, h5]
  obtain ⟨S', e1, e2, e3⟩ := c_goDumb h' he (lawN_le hf) hn
  rw [e1]
  exact ⟨S', rfl, e2, (frm.rf.u _ _).tr e3⟩
theorem c_goOnL {w W g s e : Nat} {N : Nat} (hW : W ≤ 99) (hg : g ≤ 3) (hs : s ≤ 20) (he : e ≤ 9) (hN : N ≤ 2000) (k : kSt → Option kSt) : ∀ (j i fu f n : Nat) (S : kSt), i + j = N → j < fu → wk S w W g s e f n → f ≤ W → n + j < 100000 → ∃ S', f_m9_goOn_L2 w k (nI N) fu (nI i) S = k S' ∧ wk S' w W g s e (sayN W g s e n f j) (n + j) ∧ frm w S S' := by
  intro j
  induction j with
  | zero =>
    intro i fu f n S hi hfu h hf hn
    obtain ⟨fu, rfl⟩ : ∃ m, fu = m + 1 := ⟨fu - 1, by omega⟩
    rw [f_m9_goOn_L2, if_pos (nI_le (by omega) (by omega))]
    exact ⟨S, rfl, h, frm.rf⟩
  | succ j ih =>
    intro i fu f n S hi hfu h hf hn
    obtain ⟨fu, rfl⟩ : ∃ m, fu = m + 1 := ⟨fu - 1, by omega⟩
    rw [f_m9_goOn_L2, if_neg (nI_ge (by omega) (by omega))]
    obtain ⟨S1, e1, e2, e3⟩ := c_go h hW hg hs he hf (by omega)
    rw [e1]
    simp only [Option.bind_some, knx]
    rw [nI_1]
    obtain ⟨S2, g1, g2, g3⟩ := ih (i + 1) fu _ (n + 1) S1 (by omega) (by omega) e2 (goN_le hf) (by omega)
    refine ⟨S2, g1, ?_, e3.tr g3⟩
    rw [sayN_1] at g2
    rw [show n + (j + 1) = n + 1 + j by omega]
    exact g2
theorem c_goOn {S : kSt} {w W g s e f n N : Nat} (h : wk S w W g s e f n) (hW : W ≤ 99) (hg : g ≤ 3) (hs : s ≤ 20) (he : e ≤ 9) (hf : f ≤ W) (hN : N ≤ 2000) (hn : n ≤ 2000) : ∃ S', f_m9_goOn w (nI N) S = some S' ∧ wk S' w W g s e (sayN W g s e n f N) (n + N) ∧ frm w S S' := by
  unfold f_m9_goOn
  obtain ⟨S', e1, e2, e3⟩ := c_goOnL hW hg hs he hN (fun S4 => some S4) N 0 kFU f n S (by omega) (by show N < 1000000; omega) h hf (by omega)
  exact ⟨S', e1, e2, e3⟩
theorem c_asTold {S : kSt} (hc : cOk S) {w p : Nat} (hw : w = 6 ∨ w = 7 ∨ w = 13) (hp : p < 5) (hp2 : p < gN S 57 2) (hm : mOk S) : ∃ S', f_m9_beginAsTold w (nI p) S = some S' ∧ wk S' w (gN S 57 0) (gN S 57 (8 + p)) (gN S 59 (5 + p)) (gN S 57 (13 + p)) (gN S 59 p) 0 ∧ frm w S S' := by
  obtain ⟨c1, c2, c3, -⟩ := hc
  have h1 := c1 0 (by omega)
  have h2 := c2 p hp2
  obtain ⟨h3, h4, h5, -⟩ := c3 p hp
  have hw0 := hm.1.2.1
  have hl := (hm.2.2.2.2.2.1 p hp).1.1
  have hv := (hm.2.2.2.2.2.1 p hp).2.1
  have hr := hm.2.2.2.2.2.2.2.2.1.1 p hp
  simp only [Nat.zero_add] at hr
  unfold f_m9_beginAsTold
  simp only [knx]
  rw [kgi_nI hp (by omega), kgi_nI hp (by omega), kgi_nI hp (by omega), kgi_nI hp (by omega), nI_clamp (by omega)]
  refine ⟨_, rfl, ?_, ((((((frm.rf.u _ _).u _ _).u _ _).u _ _).u _ _).u _ _)⟩
  have n1 : ¬ 18 = w := by omega
  have n2 : ¬ 20 = w := by omega
  have n3 : ¬ 21 = w := by omega
  have n4 : ¬ 19 = w := by omega
  refine ⟨?_, ?_, ?_, ?_, ?_, ?_⟩ <;> simp [uI_get, n1, n2, n3, n4, h1, h2, h3, h4, h5, hw0, hl, hv, hr.1.1, hr.2.1]
  rfl
theorem c_begin {S : kSt} (hc : cOk S) {w p : Nat} (hw : w = 6 ∨ w = 7 ∨ w = 13) (hp : p < 5) (hp2 : p < gN S 57 2) (hm : mOk S) : ∃ S', f_m9_begin w (nI p) S = some S' ∧ wk S' w (gN S 57 0) (gN S 57 (8 + p)) (gN S 61 (5 + p)) (gN S 57 (13 + p)) (gN S 61 p) (gN S 61 35) ∧ frm w S S' := by
  obtain ⟨S1, e1, e2, e3⟩ := c_asTold hc hw hp hp2 hm
  obtain ⟨-, -, c3, -, -, -, c7⟩ := hc
  obtain ⟨-, -, -, h4, h5⟩ := c3 p hp
  have hr := hm.2.2.2.2.2.2.2.2.2.1 p hp
  have hz := hm.2.2.2.2.2.2.2.2.2.2.2.2.1
  simp only [Nat.zero_add] at hr hz
  obtain ⟨k0, k1, k2, k3, k4, k5⟩ := e2
  unfold f_m9_begin
  rw [e1]
  simp only [Option.bind_some, knx]
  rw [kgi_nI hp (by omega), kgi_nI hp (by omega), nI_clamp (by omega)]
  refine ⟨_, rfl, ?_, (((e3.u _ _).u _ _).u _ _)⟩
  have n1 : ¬ 41 = w := by omega
  have n2 : ¬ 40 = w := by omega
  have n3 : ¬ 4 = w := by omega
  have m1 : S1.1 41 = S.1 41 := e3.1 41 n1
  have m2 : S1.1 40 = S.1 40 := e3.1 40 n2
  have m3 : S1.1 4 = S.1 4 := e3.1 4 n3
  refine ⟨?_, ?_, ?_, ?_, ?_, ?_⟩ <;> simp [uI_get, n1, n2, n3, m1, m2, m3, h4, h5, k0, k1, k3, c7, hr.1.1, hr.2.1, hz]
theorem c_saying {S : kSt} (hc : cOk S) (hm : mOk S) {p N : Nat} (hp2 : p < gN S 57 2) (hN : N ≤ 2000) : ∃ S', f_m10_sayingBehind (nI p) (nI N) S = some (nI (sayS S p N), S') ∧ frm 6 S S' := by
  have hp : p < 5 := Nat.lt_of_lt_of_le hp2 hm.2.2.1.2.2
  have hr := hm.2.2.2.2.2.2.2.2.2.1 p hp
  have hz := hm.2.2.2.2.2.2.2.2.2.2.2.2.2
  simp only [Nat.zero_add] at hr hz
  obtain ⟨S1, e1, e2, e3⟩ := c_begin hc (w := 6) (Or.inl rfl) hp hp2 hm
  obtain ⟨S2, g1, g2, g3⟩ := c_goOn e2 hm.1.2.2 (hm.2.2.2.2.2.1 p hp).1.2 hr.2.2 (hm.2.2.2.2.2.1 p hp).2.2 hr.1.2 hN (by omega)
  unfold f_m10_sayingBehind
  rw [e1]
  simp only [Option.bind_some]
  rw [g1]
  refine ⟨S2, ?_, e3.tr g3⟩
  simp only [Option.bind_some]
  rw [g2.2.2.2.2.1]
  rfl
