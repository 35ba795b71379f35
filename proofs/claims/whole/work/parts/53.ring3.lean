-- rings: the reference
def JR (L : Nat) (g : Nat → Nat) (T : kSt) (R : Nat) : Prop := T.1 14 36 = nI R ∧ (R = 100000000 ∨ (L ≤ R ∧ R ≤ 5)) ∧ (R = L → ∀ i, i < L → T.1 68 i = nI (g i))
def HPr (L : Nat) (d : Nat → Nat) (k : Nat) (w : Nat → Nat) : Prop := 5 < L ∨ (2 ≤ k ∧ L < k - 1 + d (w (k - 1)))
def GPr (L : Nat) (g : Nat → Nat) (k : Nat) (w : Nat → Nat) : Prop := L ≤ 5 ∧ k ≤ L ∧ ∀ i, i < k → w i = g i
def WPr (P L home : Nat) (d : Nat → Nat) (k : Nat) (w : Nat → Nat) (mt : Nat) : Prop := 1 ≤ k ∧ (∀ i, i < k → w i < P) ∧ w 0 = home ∧ (2 ≤ k → L ≤ k - 1 + d (w (k - 1)) ∧ ¬ w (k - 1) = home) ∧ (mt < 2 ^ P ∧ pcN mt = k) ∧ tb mt home = true ∧ ∀ q, q < 5 → tb mt q = true → ∃ i, i < k ∧ w i = q
theorem mt_up0 : ∀ P, P ≤ 5 → ∀ q, q < P → ∀ m, m < 2 ^ P → (tb m q || (decide (m + 2 ^ q < 2 ^ P) && (pcN (m + 2 ^ q) == pcN m + 1) && decide (nI m ||| (1 <<< (nI q &&& 31)) = nI (m + 2 ^ q)) && (List.range 5).all fun r => tb (m + 2 ^ q) r == (tb m r || r == q))) = true := by decide +kernel
theorem mt_up {P q m : Nat} (hP : P ≤ 5) (hq : q < P) (hm : m < 2 ^ P) (h : tb m q = false) : m + 2 ^ q < 2 ^ P ∧ pcN (m + 2 ^ q) = pcN m + 1 ∧ nI m ||| (1 <<< (nI q &&& 31)) = nI (m + 2 ^ q) ∧ ∀ r, r < 5 → tb (m + 2 ^ q) r = (tb m r || r == q) := by
  have := mt_up0 P hP q hq m hm
  rw [h, Bool.false_or] at this
  simp only [Bool.and_eq_true, decide_eq_true_eq, beq_iff_eq, List.all_eq_true, List.mem_range] at this
  exact ⟨this.1.1.1, this.1.1.2, this.1.2, this.2⟩
theorem pcN_5 : ∀ P, P ≤ 5 → ∀ m, m < 2 ^ P → pcN m ≤ P := by decide +kernel
def rpost (S : kSt) (L : Nat) (g d : Nat → Nat) (k : Nat) (w : Nat → Nat) (R : Nat) (T T' : kSt) (R' : Nat) : Prop := frM S T' ∧ JR L g T' R' ∧ (∀ i, i < k → T'.1 67 i = T.1 67 i) ∧ (R = L → R' = L) ∧ (GPr L g k w → R' = L) ∧ (HPr L d k w → ¬ R = L → ¬ R' = L)
theorem m_tryL {S : kSt} (hm : mOk S) {home : Nat} (hh : home < gN S 57 2) {L : Nat} {g d : Nat → Nat} (hd : d = dH (dB S) (gN S 57 2) home) (hL : L = lfR (dB S) (gN S 57 2) home + 1) (hg : g = gR (dB S) d (gN S 57 2) home (lfR (dB S) (gN S 57 2) home)) {k mt R0 : Nat} {w : Nat → Nat} (hk : k ≤ 5) (hw : WPr (gN S 57 2) L home d k w mt) (hpre : R0 = L ∨ GPr L g k w ∨ HPr L d k w) (hkL : GPr L g k w → k < L)
    (rf : Int32 → Int32 → kSt → Option kSt) (hrf : ∀ (w' : Nat → Nat) (mt' R : Nat) (T : kSt), frM S T → k + 1 ≤ 5 → WPr (gN S 57 2) L home d (k + 1) w' mt' → (∀ i, i < k + 1 → T.1 67 i = nI (w' i)) → JR L g T R → (R = L ∨ GPr L g (k + 1) w' ∨ HPr L d (k + 1) w') → ∃ T' R', rf (nI (k + 1)) (nI mt') T = some T' ∧ rpost S L g d (k + 1) w' R T T' R')
    (K : kSt → Option kSt) : ∀ (j q fu : Nat) (T : kSt) (R : Nat), q + j = gN S 57 2 → j < fu → frM S T → (∀ i, i < k → T.1 67 i = nI (w i)) → JR L g T R → (R0 = L → R = L) → (GPr L g k w → g k < q → R = L) → (HPr L d k w → ¬ R0 = L → ¬ R = L) → ∃ T' R', f_m11_tryRing_L57 rf K (nI k) (nI mt) fu (nI q) T = K T' ∧ frM S T' ∧ JR L g T' R' ∧ (∀ i, i < k → T'.1 67 i = nI (w i)) ∧ (R0 = L → R' = L) ∧ (GPr L g k w → R' = L) ∧ (HPr L d k w → ¬ R0 = L → ¬ R' = L) := by
  intro j
  have hP := hm.2.2.1.2.1
  have hP5 := hm.2.2.1.2.2
  obtain ⟨w1, w2, w3, w4, ⟨w5, w6⟩, w7, w8⟩ := hw
  obtain ⟨o1, o2, o3, o4, o5⟩ := dH_ok (D := dB S) hh
  have gok : GPr L g k w → g k < gN S 57 2 ∧ ¬ g k = home ∧ d (g k) + k = L ∧ dB S (g (k - 1)) (g k) = true ∧ (∀ r, r < g k → ¬ (dB S (g (k - 1)) r = true ∧ d r + k = L)) ∧ ∀ i, i < k → ¬ w i = g k := by
    intro hG
    have hlt := hkL hG
    obtain ⟨l5, lk, lw⟩ := hG
    obtain ⟨z1, z2, z3⟩ := gR_ok hh (fun a ha => hm.diag (show a < 5 by omega)) (by omega)
    have e1 := z3 k (by omega)
    have e2 := e1.2 w1
    rw [hg, hd]
    refine ⟨e1.1, e2.1, by omega, e2.2.2.1, fun r r1 r2 => e2.2.2.2 r r1 ⟨r2.1, by omega⟩, fun i hi => ?_⟩
    rw [lw i hi, hg, hd]
    by_cases h0 : i = 0
    · subst h0
      exact fun z => e2.1 z.symm
    · have e3 := (z3 i (by omega)).2 (by omega)
      intro z
      rw [z] at e3
      omega
  induction j with
  | zero =>
    intro q fu T R hi hfu hf ht hJ p1 p2 p3
    obtain ⟨fu, rfl⟩ : ∃ m, fu = m + 1 := ⟨fu - 1, by omega⟩
    rw [f_m11_tryRing_L57, hf.1 57 (by decide) (by decide), hP, if_pos (nI_le (by omega) (by omega))]
    exact ⟨T, R, rfl, hf, hJ, ht, p1, fun hG => p2 hG (by have := (gok hG).1; omega), p3⟩
  | succ j ih =>
    intro q fu T R hi hfu hf ht hJ p1 p2 p3
    obtain ⟨fu, rfl⟩ : ∃ m, fu = m + 1 := ⟨fu - 1, by omega⟩
    have h32 := p32 hP5 w5
    have hk1 := w2 (k - 1) (by omega)
    rw [f_m11_tryRing_L57, hf.1 57 (by decide) (by decide), hP, if_neg (nI_ge (by omega) (by omega)), m_hasBit h32 (by omega)]
    simp only [Option.bind_some, knx_e]
    rw [nI_1]
    cases hmq : tb mt q
    · rw [if_neg (by decide), show (1 : Int32) = nI 1 from rfl, pk_sub w1, kgi_nI (by omega) (by omega), nI_clamp (by omega), ht (k - 1) (by omega), m_debt (by omega) (by omega)]
      simp only [Option.bind_some]
      rw [hf.1 61 (by decide) (by decide), kite (dB_0 hm (show w (k - 1) < 5 by omega) (show q < 5 by omega))]
      cases hD : dB S (w (k - 1)) q
      · rw [if_pos (by decide)]
        refine ih (q + 1) fu T R (by omega) (by omega) hf ht hJ p1 (fun hG hlt => ?_) p3
        by_cases e : g k = q
        · exfalso
          have := (gok hG).2.2.2.1
          rw [← hG.2.2 (k - 1) (by omega), e, hD] at this
          cases this
        · exact p2 hG (by omega)
      · rw [if_neg (by decide)]
        obtain ⟨u1, u2, u3, u4⟩ := mt_up hP5 (show q < gN S 57 2 by omega) w5 hmq
        have hpc := pcN_5 _ hP5 _ u1
        have hqh : ¬ q = home := by
          intro e
          rw [e, w7] at hmq
          cases hmq
        rw [kgi_nI (by omega) (by omega), nI_clamp (by omega), show nI k + nI 1 = nI (k + 1) from nI_1 k, show ((nI 1 : Int32) <<< (nI q &&& 31)) = (1 <<< (nI q &&& 31)) from rfl, u3]
        have hLk : L ≤ k + d q := by
          by_cases hk2 : 2 ≤ k
          · obtain ⟨b1, b2⟩ := w4 hk2
            have := o4 (w (k - 1)) q hk1 (by omega) b2 hD
            rw [hd] at b1 ⊢
            omega
          · have hk1' : k = 1 := by omega
            subst hk1'
            have e0 : w (1 - 1) = home := w3
            rw [e0] at hD
            have := fwK_lb (d := dH (dB S) (gN S 57 2) home) hD (gN S 57 2) (by omega)
            rw [hL, hd]
            unfold lfR
            omega
        have hw' : WPr (gN S 57 2) L home d (k + 1) (fun i => if i = k then q else w i) (mt + 2 ^ q) := by
          refine ⟨by omega, fun i hi => ?_, ?_, fun _ => ?_, ⟨u1, by omega⟩, ?_, fun r hr hrt => ?_⟩
          · show (if i = k then q else w i) < _
            by_cases e : i = k
            · rw [if_pos e]; omega
            · rw [if_neg e]; exact w2 i (by omega)
          · show (if 0 = k then q else w 0) = home
            rw [if_neg (by omega)]; exact w3
          · show L ≤ k + 1 - 1 + d (if k + 1 - 1 = k then q else w (k + 1 - 1)) ∧ ¬ (if k + 1 - 1 = k then q else w (k + 1 - 1)) = home
            rw [if_pos (by omega)]
            exact ⟨by omega, hqh⟩
          · rw [u4 home (by omega), w7]; rfl
          · rw [u4 r hr] at hrt
            by_cases e : r = q
            · exact ⟨k, by omega, by show (if k = k then q else w k) = r; rw [if_pos rfl, e]⟩
            · rw [show (r == q) = false by simpa using e, Bool.or_false] at hrt
              obtain ⟨i, i1, i2⟩ := w8 r hr hrt
              exact ⟨i, by omega, by show (if i = k then q else w i) = r; rw [if_neg (by omega)]; exact i2⟩
        have hHc : HPr L d k w → HPr L d (k + 1) (fun i => if i = k then q else w i) := by
          rintro (z | ⟨z1, z2⟩)
          · exact Or.inl z
          · refine Or.inr ⟨by omega, ?_⟩
            show L < k + 1 - 1 + d (if k + 1 - 1 = k then q else w (k + 1 - 1))
            rw [if_pos (by omega)]
            have := o4 (w (k - 1)) q hk1 (by omega) (w4 z1).2 hD
            rw [hd] at z2 ⊢
            omega
        have hpre' : R = L ∨ GPr L g (k + 1) (fun i => if i = k then q else w i) ∨ HPr L d (k + 1) (fun i => if i = k then q else w i) := by
          rcases hpre with z | z | z
          · exact Or.inl (p1 z)
          · obtain ⟨g1, g2, g3, g4, g5, g6⟩ := gok z
            by_cases e : q = g k
            · refine Or.inr (Or.inl ⟨z.1, hkL z, fun i hi => ?_⟩)
              show (if i = k then q else w i) = g i
              by_cases e2 : i = k
              · rw [if_pos e2, e2, e]
              · rw [if_neg e2]; exact z.2.2 i (by omega)
            · by_cases e2 : g k < q
              · exact Or.inl (p2 z e2)
              · refine Or.inr (Or.inr (Or.inr ⟨by omega, ?_⟩))
                show L < k + 1 - 1 + d (if k + 1 - 1 = k then q else w (k + 1 - 1))
                rw [if_pos (by omega)]
                have := g5 q (by omega)
                rw [← z.2.2 (k - 1) (by omega), hD] at this
                have : ¬ d q + k = L := fun y => this ⟨rfl, y⟩
                omega
          · exact Or.inr (Or.inr (hHc z))
        have ht' : ∀ i, i < k + 1 → (kuI T 67 k (nI q)).1 67 i = nI ((fun i => if i = k then q else w i) i) := by
          intro i hi
          show _ = nI (if i = k then q else w i)
          rw [uI_get]
          by_cases e : i = k
          · rw [if_pos ⟨rfl, e⟩, if_pos e]
          · rw [if_neg (fun y => e y.2), if_neg e]
            exact ht i (by omega)
        obtain ⟨T1, R1, e1, f1, j1, c1, c2, c3, c4⟩ := hrf (fun i => if i = k then q else w i) (mt + 2 ^ q) R (kuI T 67 k (nI q)) (hf.u (by decide) _ _) (by omega) hw' ht' ⟨by rw [uI_get, if_neg (by omega)]; exact hJ.1, hJ.2.1, fun e i hi => by rw [uI_get, if_neg (by omega)]; exact hJ.2.2 e i hi⟩ hpre'
        rw [e1]
        simp only [Option.bind_some]
        refine ih (q + 1) fu T1 R1 (by omega) (by omega) f1 (fun i hi => ?_) j1 (fun z => c2 (p1 z)) (fun hG hlt => ?_) (fun hH hR => ?_)
        · rw [c1 i (by omega), ht' i (by omega)]
          show nI (if i = k then q else w i) = _
          rw [if_neg (by omega)]
        · by_cases e : q = g k
          · refine c3 ⟨hG.1, hkL hG, fun i hi => ?_⟩
            show (if i = k then q else w i) = g i
            by_cases e2 : i = k
            · rw [if_pos e2, e2, e]
            · rw [if_neg e2]; exact hG.2.2 i (by omega)
          · exact c2 (p2 hG (by omega))
        · exact c4 (hHc hH) (p3 hH hR)
    · rw [if_pos rfl]
      refine ih (q + 1) fu T R (by omega) (by omega) hf ht hJ p1 (fun hG hlt => ?_) p3
      by_cases e : g k = q
      · exfalso
        obtain ⟨i, i1, i2⟩ := w8 q (by omega) hmq
        exact (gok hG).2.2.2.2.2 i i1 (i2.trans e.symm)
      · exact p2 hG (by omega)
theorem m_try {S : kSt} (hm : mOk S) {home : Nat} (hh : home < gN S 57 2) {L : Nat} {g d : Nat → Nat} (hd : d = dH (dB S) (gN S 57 2) home) (hL : L = lfR (dB S) (gN S 57 2) home + 1) (hg : g = gR (dB S) d (gN S 57 2) home (lfR (dB S) (gN S 57 2) home)) : ∀ (rn k : Nat), rn + k = 10 → k ≤ 5 → ∀ (w : Nat → Nat) (mt R : Nat) (T : kSt), frM S T → WPr (gN S 57 2) L home d k w mt → (∀ i, i < k → T.1 67 i = nI (w i)) → JR L g T R → (R = L ∨ GPr L g k w ∨ HPr L d k w) → ∃ T' R', f_m11_tryRing rn (nI k) (nI mt) T = some T' ∧ rpost S L g d k w R T T' R' := by
  intro rn
  have hP5 := hm.2.2.1.2.2
  obtain ⟨o1, o2, o3, o4, o5⟩ := dH_ok (D := dB S) hh
  induction rn with
  | zero => intro k h1 h2; omega
  | succ rn ih =>
    intro k hrk hk5 w mt R T hf hw ht hJ hpre
    obtain ⟨w1, w2, w3, w4, ⟨w5, w6⟩, w7, w8⟩ := id hw
    have hFU := kFU_big
    have hRb : R < 2 ^ 30 := by rcases hJ.2.1 with z | z <;> omega
    rw [f_m11_tryRing]
    generalize kFU = FU at hFU ⊢
    simp only [knx_e]
    rw [hJ.1, kite (nI_ltI (by omega) (by omega))]
    by_cases hkR : k < R
    · rw [if_pos hkR]
      have loop : (GPr L g k w → k < L) → ∃ T' R', f_m11_tryRing_L57 (fun a1 a2 S => f_m11_tryRing rn a1 a2 S) (fun S13 => some S13) (nI k) (nI mt) FU 0 T = some T' ∧ rpost S L g d k w R T T' R' := by
        intro hkL
        obtain ⟨T', R', e1, e2, e3, e4, e5, e6, e7⟩ := m_tryL hm hh hd hL hg hk5 hw hpre hkL (fun a1 a2 S => f_m11_tryRing rn a1 a2 S) (fun w' mt' R1 T1 y1 y2 y3 y4 y5 y6 => ih (k + 1) (by omega) y2 w' mt' R1 T1 y1 y3 y4 y5 y6) (fun S13 => some S13) (gN S 57 2) 0 FU T R (by omega) (by omega) hf ht hJ (fun z => z) (fun hG hlt => absurd hlt (by omega)) (fun _ z => z)
        rw [nI_0] at e1
        exact ⟨T', R', e1, e2, e3, fun i hi => by rw [e4 i hi, ht i hi], e5, e6, e7⟩
      have hG2 : GPr L g k w → k = L → 2 ≤ k ∧ dB S (w (k - 1)) home = true := by
        intro hG e
        obtain ⟨l5, lk, lw⟩ := hG
        obtain ⟨z1, z2, z3⟩ := gR_ok hh (fun a ha => hm.diag (show a < 5 by omega)) (by omega)
        refine ⟨by omega, ?_⟩
        have z4 := z3 (k - 1) (by omega)
        obtain ⟨y1, y2, y3, y4⟩ := z4.2 (by omega)
        obtain ⟨r, r1, r2, r3⟩ := o5 _ z4.1 y1 (by omega)
        have hr : r = home := by
          apply Classical.byContradiction
          intro z
          have := o3 r r1 z
          omega
        rw [lw (k - 1) (by omega), hg, hd]
        rw [hr] at r2
        exact r2
      rw [show (1 : Int32) = nI 1 from rfl, kite (nI_leI (by omega) (by omega))]
      by_cases hk1 : k ≤ 1
      · rw [if_pos hk1]
        exact loop (fun hG => by
          have := hG.2.1
          by_cases e : k = L
          · have := (hG2 hG e).1
            omega
          · omega)
      · have hwk := w2 (k - 1) (by omega)
        rw [if_neg hk1, pk_sub w1, kgi_nI (by omega) (by omega), nI_clamp (by omega), ht (k - 1) (by omega), ht 0 (by omega), w3, m_debt (by omega) (by omega)]
        simp only [Option.bind_some]
        rw [hf.1 61 (by decide) (by decide), kite (dB_le hm (show w (k - 1) < 5 by omega) (show home < 5 by omega))]
        cases hD : dB S (w (k - 1)) home
        · rw [if_pos (by decide)]
          exact loop (fun hG => by
            have := hG.2.1
            by_cases e : k = L
            · have := (hG2 hG e).2
              rw [hD] at this
              cases this
            · omega)
        · rw [if_neg (by decide)]
          obtain ⟨T1, e1, e2, e3⟩ := m_copy (S := kuI T 14 36 (nI k)) (w0 := 67) (n0 := 5) (w2 := 68) (n2 := 5) (a := 0) (b := 0) (m := 5) (by decide) (by omega) (by omega) (by omega) (by omega) (by omega)
          rw [nI_0, show nI 5 = 5 from rfl] at e1
          rw [e1]
          have hdk : d (w (k - 1)) ≤ 1 := by
            have := o4 (w (k - 1)) home hwk hh (w4 (by omega)).2 hD
            rw [o1] at this
            rw [hd]
            omega
          have hLk : L ≤ k := by
            have := (w4 (by omega)).1
            omega
          have hRL : ¬ R = L := by omega
          have f1 : frM S T1 := by
            have f0 : frM S (kuI T 14 36 (nI k)) := hf.u14 (by decide) _
            refine f0.tr ⟨fun a _ hb => e2.1 a (fun z => hb (by omega)), fun j _ => by rw [e2.1 14 (by decide)]⟩
          refine ⟨T1, k, rfl, f1, ⟨?_, Or.inr ⟨hLk, hk5⟩, fun e i hi => ?_⟩, fun i hi => ?_, fun z => absurd z hRL, fun hG => ?_, fun hH _ => ?_⟩
          · rw [e2.1 14 (by decide), uI_get, if_pos ⟨rfl, rfl⟩]
          · rw [e3 i, if_pos (by omega), Nat.zero_add, Nat.sub_zero, uI_get, if_neg (by omega), ht i (by omega)]
            rcases hpre with z | z | z
            · exact absurd z hRL
            · rw [z.2.2 i (by omega)]
            · rcases z with z | z <;> omega
          · rw [e2.1 67 (by decide), kuI_ne _ _ _ (by decide)]
          · have := hG.2.1
            omega
          · rcases hH with z | z <;> omega
    · rw [if_neg hkR]
      refine ⟨T, R, rfl, hf, hJ, fun _ _ => rfl, fun z => z, fun hG => ?_, fun _ z => z⟩
      obtain ⟨l5, lk, lw⟩ := hG
      rcases hJ.2.1 with z | z <;> omega
theorem shl5b : ∀ p, p < 5 → tb (2 ^ p) p = true ∧ pcN (2 ^ p) = 1 ∧ (∀ q, q < 5 → tb (2 ^ p) q = decide (q = p)) := by decide +kernel
theorem m_seekR {S T : kSt} (hm : mOk S) (hk : keep S T) {h : Nat} (hh : h < gN S 57 2) : ∃ T', f_m11_seekRing (nI h) T = some (decide (lfR (dB S) (gN S 57 2) h < 6), T') ∧ frM T T' ∧ (lfR (dB S) (gN S 57 2) h < 6 → T'.1 14 36 = nI (lfR (dB S) (gN S 57 2) h + 1) ∧ ∀ i, i ≤ lfR (dB S) (gN S 57 2) h → T'.1 68 i = nI (gR (dB S) (dH (dB S) (gN S 57 2) h) (gN S 57 2) h (lfR (dB S) (gN S 57 2) h) i)) := by
  have hmT := hk.mk.mpr hm
  have hP5 := hm.2.2.1.2.2
  have eD : dB T = dB S := funext fun a => funext fun b => by unfold dB; rw [hk.gn (a := 61) rfl]
  have eP : gN T 57 2 = gN S 57 2 := hk.gn (a := 57) rfl _
  have hh5 : h < 5 := by omega
  obtain ⟨s1, s2, s3⟩ := shl5b h hh5
  have hpp : 2 ^ h < 2 ^ gN S 57 2 := Nat.pow_lt_pow_right (by omega) hh
  obtain ⟨T', R', e1, f1, j1, c1, c2, c3, c4⟩ := m_try (S := T) hmT (home := h) (by omega) rfl rfl rfl 9 1 (by omega) (by omega) (fun _ => h) (2 ^ h) 100000000 (kuI (kuI T 14 36 100000000) 67 0 (nI h)) ((frM.rf.u14 (by decide) _).u (by decide) _ _) ⟨by omega, fun _ _ => by show h < gN T 57 2; omega, rfl, fun z => absurd z (by omega), ⟨by rw [eP]; exact hpp, s2⟩, s1, fun q hq z => ⟨0, by omega, by
      rw [s3 q hq] at z
      exact (of_decide_eq_true z).symm⟩⟩ (fun i hi => by
      have : i = 0 := by omega
      subst this
      rw [uI_get, if_pos ⟨rfl, rfl⟩]) ⟨by rw [uI_get, if_neg (by omega), uI_get, if_pos ⟨rfl, rfl⟩]; rfl, Or.inl rfl, fun z => absurd z (by
        have := fwK_le (dB T) (dH (dB T) (gN T 57 2) h) h (gN T 57 2)
        unfold lfR
        omega)⟩ (by
      by_cases z : lfR (dB T) (gN T 57 2) h < 6
      · have := (gR_ok (D := dB T) (P := gN T 57 2) (home := h) (by omega) (fun a ha => hmT.diag (show a < 5 by omega)) z).2.1
        exact Or.inr (Or.inl ⟨by omega, by omega, fun i hi => by
          have : i = 0 := by omega
          subst this
          rfl⟩)
      · exact Or.inr (Or.inr (Or.inl (by omega))))
  rw [eD, eP] at j1 c3
  refine ⟨T', ?_, f1, fun z => ?_⟩
  · unfold f_m11_seekRing
    simp only [knx_e]
    rw [shl5 h (by omega)]
    rw [show (1 : Int32) = nI 1 from rfl, e1]
    simp only [Option.bind_some]
    by_cases z : lfR (dB S) (gN S 57 2) h < 6
    · have hlt := (gR_ok (D := dB S) (P := gN S 57 2) (home := h) (by omega) (fun a ha => hm.diag (show a < 5 by omega)) z).2.1
      have hR : R' = lfR (dB S) (gN S 57 2) h + 1 := c3 ⟨by omega, by omega, fun i hi => by
          have : i = 0 := by omega
          subst this
          rfl⟩
      rw [j1.1, hR, if_neg (show ¬ (100000000 : Int32) ≤ nI (lfR (dB S) (gN S 57 2) h + 1) from nI_ge (b := 100000000) (by omega) (by omega)), decide_eq_true z]
    · have hR : R' = 100000000 := by
        rcases j1.2.1 with y | y <;> omega
      rw [j1.1, hR, if_pos (by decide), decide_eq_false z]
  · have hlt := (gR_ok (D := dB S) (P := gN S 57 2) (home := h) (by omega) (fun a ha => hm.diag (show a < 5 by omega)) z).2.1
    have hR : R' = lfR (dB S) (gN S 57 2) h + 1 := c3 ⟨by omega, by omega, fun i hi => by
        have : i = 0 := by omega
        subst this
        rfl⟩
    exact ⟨by rw [j1.1, hR], fun i hi => j1.2.2 hR i (by omega)⟩
theorem b_ring {S : kSt} (hc : cOk S) (hm : mOk S) {p : Nat} (hp : p < gN S 57 2) : Body (cb_ring (nI p)) (mb_ring (nI p)) S := by
  refine body_cm (if lfR (dB S) (gN S 57 2) p < 6 then nI (lfR (dB S) (gN S 57 2) p + 1) else -2) ?_ (fun T hk => ?_)
  · obtain ⟨T', e1, e2, e3, e4⟩ := c_ring hc hm hp
    refine ⟨T', ?_, e2⟩
    unfold cb_ring
    rw [e1]
    simp only [Option.bind_some]
    by_cases z : lfR (dB S) (gN S 57 2) p < 6
    · rw [(e3 z).1, if_pos z, if_neg (nI_ne0 (by omega) (by omega))]
    · rw [e4 z, if_neg z]
      rfl
  · obtain ⟨T', e1, e2, e3⟩ := m_seekR hm hk hp
    refine ⟨T', ?_, e2⟩
    unfold mb_ring
    rw [e1]
    simp only [Option.bind_some]
    by_cases z : lfR (dB S) (gN S 57 2) p < 6
    · rw [decide_eq_true z, if_pos rfl, if_pos z, (e3 z).1]
    · rw [decide_eq_false z, if_neg (by decide), if_neg z]
theorem ag_ringAt {S : kSt} (hI : Inv S) (a b : Int32) : Agree (f_m10_ringAt a b) (f_m11_ringAt a b) S := by
  cases hp : pB S a
  · refine ag_no hI (-1) 1 (by decide) ?_ ?_
    · unfold f_m10_ringAt
      rw [c_isPair hI]
      simp only [Option.bind_some]
      rw [c_may1, hp]
      rfl
    · unfold f_m11_ringAt
      rw [m_good]
      simp only [Option.bind_some]
      rw [m_isPair hI (k018_keep.tr kG0_keep), hp]
      rfl
  · obtain ⟨hm, p, hpP, rfl⟩ := pB_ok hI hp
    have hP5 := hm.2.2.1.2.2
    have hk0 : keep S (kuI S 0 18 0) := k018_keep
    obtain ⟨T, e1, e2, e3, e4⟩ := c_ring (hk0.ck.mpr hI.c) (hk0.mk.mpr hm) (h := p) (by rw [hk0.gn (a := 57) rfl]; exact hpP)
    have eD : dB (kuI S 0 18 0) = dB S := funext fun a => funext fun b => by unfold dB; rw [hk0.gn (a := 61) rfl]
    rw [eD, hk0.gn (a := 57) rfl] at e3 e4
    obtain ⟨hkT, hT0⟩ := frc18 e2
    have hk1 : keep S (kuI T 0 18 1) := hkT.tr k018_keep
    have hcall : f_m10_ringAt (nI p) b S = if b < 0 then some (-1, kuI T 0 18 1) else if T.1 10 6 ≤ b then some (-1, kuI T 0 18 1) else kgi b 5 (some (T.1 53 b.toNatClampNeg, T)) := by
      unfold f_m10_ringAt
      rw [c_isPair hI]
      simp only [Option.bind_some]
      rw [c_may1, hp]
      simp only [Option.bind_some, if_true, knx_e]
      rw [e1]
      rfl
    have refuse : (b < 0 ∨ ¬ lfR (dB S) (gN S 57 2) p < 6 ∨ ∃ j, j < 2 ^ 31 ∧ b = nI j ∧ lfR (dB S) (gN S 57 2) p + 1 ≤ j) → Agree (f_m10_ringAt (nI p) b) (f_m11_ringAt (nI p) b) S := by
      intro hr
      obtain ⟨T', g1, g2, g3⟩ := m_seekR hm (hk1.tr kG0_keep) hpP
      refine ag_fin hI 1 (r := -1) (S1 := kuI T 0 18 1) (S2 := kuI T' 14 11 1) ?_ hk1 (by rw [uI_get, if_pos ⟨rfl, rfl⟩]) ?_ ((kG0_keep.tr g2.kp.1).tr k11_keep) (by rw [uI_get, if_pos ⟨rfl, rfl⟩]) (by rw [uI_get, if_neg (by decide), g2.kp.2.2, kG0_18]) (by decide)
      · rw [hcall]
        by_cases hb : b < 0
        · rw [if_pos hb]
        · rw [if_neg hb, if_pos]
          by_cases z : lfR (dB S) (gN S 57 2) p < 6
          · rcases hr with y | y | ⟨j, j1, j2, j3⟩
            · exact absurd y hb
            · exact absurd z y
            · rw [(e3 z).1, j2]
              exact nI_le j3 j1
          · rw [e4 z]
            exact ge0.mp hb
      · unfold f_m11_ringAt
        rw [m_good]
        simp only [Option.bind_some]
        rw [m_isPair hI (hk1.tr kG0_keep), hp]
        simp only [Option.bind_some, if_true, knx_e]
        rw [g1]
        simp only [Option.bind_some]
        by_cases z : lfR (dB S) (gN S 57 2) p < 6
        · rw [decide_eq_true z, if_pos rfl, m_in, (g3 z).1, show (1 : Int32) = nI 1 from rfl, pk_sub (by omega)]
          simp only [Option.bind_some]
          rw [if_neg]
          · rfl
          · intro q
            obtain ⟨q1, q2⟩ := of_decide_eq_true q
            rcases hr with y | y | ⟨j, j1, j2, j3⟩
            · exact Int32.lt_irrefl (Int32.lt_of_lt_of_le y q1)
            · exact y z
            · rw [j2, nI_leI j1 (by omega)] at q2
              omega
        · rw [decide_eq_false z, if_neg (by decide)]
          rfl
    by_cases hb : b < 0
    · exact refuse (Or.inl hb)
    · obtain ⟨j, hj, rfl⟩ := nI_of hb
      by_cases z : lfR (dB S) (gN S 57 2) p < 6
      · by_cases hj2 : lfR (dB S) (gN S 57 2) p + 1 ≤ j
        · exact refuse (Or.inr (Or.inr ⟨j, hj, rfl, hj2⟩))
        · have hlt := (gR_ok (D := dB S) (P := gN S 57 2) (home := p) (by omega) (fun a ha => hm.diag (show a < 5 by omega)) z).2.1
          obtain ⟨T', g1, g2, g3⟩ := m_seekR hm (hkT.tr kG0_keep) hpP
          refine ag_fin hI 0 (r := nI (gR (dB S) (dH (dB S) (gN S 57 2) p) (gN S 57 2) p (lfR (dB S) (gN S 57 2) p) j)) (S1 := T) (S2 := T') ?_ hkT hT0 ?_ (kG0_keep.tr g2.kp.1) (by rw [g2.kp.2.1, kG0_11]) (by rw [g2.kp.2.2, kG0_18]) (by decide)
          · rw [hcall, if_neg hb, (e3 z).1, if_neg (nI_ge (by omega) (by omega)), kgi_nI (by omega) (by omega), nI_clamp (by omega), (e3 z).2 j (by omega)]
          · unfold f_m11_ringAt
            rw [m_good]
            simp only [Option.bind_some]
            rw [m_isPair hI (hkT.tr kG0_keep), hp]
            simp only [Option.bind_some, if_true, knx_e]
            rw [g1]
            simp only [Option.bind_some]
            rw [decide_eq_true z, if_pos rfl, m_in, (g3 z).1, show (1 : Int32) = nI 1 from rfl, pk_sub (by omega)]
            simp only [Option.bind_some]
            rw [if_pos (decide_eq_true ⟨nI_pos' (by omega), nI_le (by omega) (by omega)⟩), kgi_nI (by omega) (by omega), nI_clamp (by omega), (g3 z).2 j (by omega)]
      · exact refuse (Or.inr (Or.inl z))
