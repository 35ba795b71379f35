-- rings: the class
def dB (S : kSt) (a b : Nat) : Bool := decide (0 < gN S 61 (10 + 5 * a + b))
theorem mOk.debt {S : kSt} (h : mOk S) {a b : Nat} (ha : a < 5) (hb : b < 5) : S.1 61 (10 + 5 * a + b) = nI (gN S 61 (10 + 5 * a + b)) ∧ gN S 61 (10 + 5 * a + b) ≤ 99 := by
  have := h.2.2.2.2.2.2.2.2.2.2.1 (5 * a + b) (by omega)
  simp only [Nat.zero_add] at this
  rw [Nat.add_assoc]
  exact this
theorem mOk.diag {S : kSt} (h : mOk S) {a : Nat} (ha : a < 5) : dB S a a = false := by
  have := h.2.2.2.2.2.2.2.2.2.2.2.1 a ha
  simp only [Nat.zero_add] at this
  unfold dB
  rw [show 10 + 5 * a + a = 10 + 6 * a by omega, gN_of (n := 0) this (by omega)]
  rfl
theorem dB_le {S : kSt} (h : mOk S) {a b : Nat} (ha : a < 5) (hb : b < 5) : S.1 61 (10 + 5 * a + b) ≤ 0 ↔ ¬ dB S a b = true := by
  rw [(h.debt ha hb).1, show (0 : Int32) = nI 0 from rfl, nI_leI (by have := (h.debt ha hb).2; omega) (by omega)]
  unfold dB
  simp
theorem dB_0 {S : kSt} (h : mOk S) {a b : Nat} (ha : a < 5) (hb : b < 5) : S.1 61 (10 + 5 * a + b) = 0 ↔ ¬ dB S a b = true := by
  rw [(h.debt ha hb).1, show (0 : Int32) = nI 0 from rfl, nI_eq (by have := (h.debt ha hb).2; omega) (by omega)]
  unfold dB
  simp
theorem cOk.debt {S : kSt} (h : cOk S) {a b : Nat} (ha : a < 5) (hb : b < 5) : S.1 42 (a * 5 + b) = S.1 61 (10 + 5 * a + b) := by
  rw [(h.2.2.2.1 (a * 5 + b) (by omega)).2, show 10 + (a * 5 + b) = 10 + 5 * a + b by omega]
def bkT (P : Nat) (d : Nat → Nat) (T : kSt) : Prop := T.1 10 0 = nI P ∧ ∀ q, q < P → T.1 52 q = nI (d q) ∧ d q ≤ 6
theorem c_fwL {S T : kSt} (hc : cOk S) (hm : mOk S) (hf : frc S T) {d : Nat → Nat} {a : Nat} (ha : a < 5) (hb : bkT (gN S 57 2) d T) (K : Int32 → kSt → Option (Int32 × kSt)) : ∀ (j i fu : Nat), i + j = gN S 57 2 → j < fu → f_m0_fewestDebtsBehind_L6 K (nI a) fu (nI (fwK (dB S) d a i)) (nI i) T = K (nI (fwK (dB S) d a (gN S 57 2))) T := by
  intro j
  have hP5 := hm.2.2.1.2.2
  induction j with
  | zero =>
    intro i fu hi hfu
    obtain ⟨fu, rfl⟩ : ∃ m, fu = m + 1 := ⟨fu - 1, by omega⟩
    rw [f_m0_fewestDebtsBehind_L6, hb.1, if_pos (nI_le (by omega) (by omega)), show gN S 57 2 = i by omega]
  | succ j ih =>
    intro i fu hi hfu
    obtain ⟨fu, rfl⟩ : ∃ m, fu = m + 1 := ⟨fu - 1, by omega⟩
    have hfl := fwK_le (dB S) d a i
    obtain ⟨b1, b2⟩ := hb.2 i (by omega)
    rw [f_m0_fewestDebtsBehind_L6, hb.1, if_neg (nI_ge (by omega) (by omega))]
    simp only [knx_e]
    rw [nI5m, kgi_nI (by omega) (by omega), kgi_nI (by omega) (by omega), nI_clamp (by omega), nI_clamp (by omega), hf 42 (by decide), hc.debt ha (by omega), kite (dB_le hm ha (by omega)), b1, kmin_nI (by omega) (by omega), nI_1, ← ih (i + 1) fu (by omega) (by omega), fwK]
    cases dB S a i
    · rw [if_pos (by decide), if_neg (by decide)]
    · rw [if_neg (by decide), if_pos rfl]
theorem c_fw {S T : kSt} (hc : cOk S) (hm : mOk S) (hf : frc S T) {d : Nat → Nat} {a : Nat} (ha : a < 5) (hb : bkT (gN S 57 2) d T) : f_m0_fewestDebtsBehind (nI a) T = some (nI (fwK (dB S) d a (gN S 57 2)), T) := by
  have hP5 := hm.2.2.1.2.2
  have hFU := kFU_big
  have := c_fwL hc hm hf ha hb (fun x S => some (x, S)) (gN S 57 2) 0 kFU (by omega) (by omega)
  rw [nI_0] at this
  exact this
theorem c_tuL {S : kSt} (hc : cOk S) (hm : mOk S) {d : Nat → Nat} {h : Nat} (hh : h < 5) (c3 : Int32) (K : kSt → Option kSt) : ∀ (j i fu : Nat) (T : kSt), i + j = gN S 57 2 → j < fu → frc S T → (∀ q, q < gN S 57 2 → d q ≤ 6) → bkT (gN S 57 2) (turnK (dB S) (gN S 57 2) h d i) T → ∃ T', f_m0_countDebtsHome_L29 K (nI h) c3 fu (nI i) T = K T' ∧ frc S T' ∧ bkT (gN S 57 2) (turnK (dB S) (gN S 57 2) h d (gN S 57 2)) T' ∧ T'.1 10 = T.1 10 := by
  intro j
  have hP5 := hm.2.2.1.2.2
  induction j with
  | zero =>
    intro i fu T hi hfu hf h6 hb
    obtain ⟨fu, rfl⟩ : ∃ m, fu = m + 1 := ⟨fu - 1, by omega⟩
    rw [f_m0_countDebtsHome_L29, hb.1, if_pos (nI_le (by omega) (by omega))]
    rw [show i = gN S 57 2 by omega] at hb
    exact ⟨T, rfl, hf, hb, rfl⟩
  | succ j ih =>
    intro i fu T hi hfu hf h6 hb
    obtain ⟨fu, rfl⟩ : ∃ m, fu = m + 1 := ⟨fu - 1, by omega⟩
    have hfl := fwK_le (dB S) (turnK (dB S) (gN S 57 2) h d i) i (gN S 57 2)
    obtain ⟨b1, b2⟩ := hb.2 i (by omega)
    rw [f_m0_countDebtsHome_L29, hb.1, if_neg (nI_ge (by omega) (by omega))]
    simp only [knx_e]
    rw [kite (nI_eq (by omega) (by omega)), kgi_nI (by omega) (by omega), c_fw hc hm hf (by omega) hb]
    simp only [Option.bind_some]
    rw [kgi_nI (by omega) (by omega), nI_clamp (by omega), b1, nI_1, nI_1, kmin_nI (by omega) (by omega)]
    by_cases e : i = h
    · rw [if_pos e]
      have := ih (i + 1) fu T (by omega) (by omega) hf h6 ⟨hb.1, fun q hq => by
        show T.1 52 q = nI (rlx _ _ _ _ _ _) ∧ rlx _ _ _ _ _ _ ≤ 6
        unfold rlx
        rw [if_neg (fun z => z.2 e)]
        exact hb.2 q hq⟩
      exact this
    · rw [if_neg e]
      obtain ⟨T', k1, k2, k3, k4⟩ := ih (i + 1) fu (kuI T 52 i (nI (min (turnK (dB S) (gN S 57 2) h d i i) (fwK (dB S) (turnK (dB S) (gN S 57 2) h d i) i (gN S 57 2) + 1)))) (by omega) (by omega) (hf.u rfl _ _) h6 ⟨by rw [uI_get, if_neg (by omega)]; exact hb.1, fun q hq => by
        show _ = nI (rlx _ _ _ _ _ _) ∧ rlx _ _ _ _ _ _ ≤ 6
        unfold rlx
        rw [uI_get]
        by_cases z : q = i
        · rw [if_pos ⟨rfl, z⟩, if_pos ⟨z, e⟩]
          exact ⟨rfl, by omega⟩
        · rw [if_neg (fun y => z y.2), if_neg (fun y => z y.1)]
          exact hb.2 q hq⟩
      exact ⟨T', k1, k2, k3, k4.trans (kuI_ne T _ _ (by decide))⟩
theorem turns6 (D : Nat → Nat → Bool) (P home k q : Nat) : turnsK D P home (d0 home) k q ≤ 6 := by
  induction k with
  | zero =>
    show d0 home q ≤ 6
    unfold d0
    split <;> omega
  | succ k ih => exact Nat.le_trans (turnK_le _ _ _) ih
theorem c_tuO {S : kSt} (hc : cOk S) (hm : mOk S) {h : Nat} (hh : h < 5) (K : kSt → Option kSt) : ∀ (j i fu : Nat) (T : kSt), i + j = gN S 57 2 → j < fu → frc S T → bkT (gN S 57 2) (turnsK (dB S) (gN S 57 2) h (d0 h) i) T → ∃ T', f_m0_countDebtsHome_L18 K (nI h) fu (nI i) T = K T' ∧ frc S T' ∧ bkT (gN S 57 2) (dH (dB S) (gN S 57 2) h) T' ∧ T'.1 10 = T.1 10 := by
  intro j
  have hP5 := hm.2.2.1.2.2
  induction j with
  | zero =>
    intro i fu T hi hfu hf hb
    obtain ⟨fu, rfl⟩ : ∃ m, fu = m + 1 := ⟨fu - 1, by omega⟩
    rw [f_m0_countDebtsHome_L18, hb.1, if_pos (nI_le (by omega) (by omega))]
    rw [show i = gN S 57 2 by omega] at hb
    exact ⟨T, rfl, hf, hb, rfl⟩
  | succ j ih =>
    intro i fu T hi hfu hf hb
    obtain ⟨fu, rfl⟩ : ∃ m, fu = m + 1 := ⟨fu - 1, by omega⟩
    have hFU := kFU_big
    rw [f_m0_countDebtsHome_L18]
    generalize kFU = FU at hFU ⊢
    rw [hb.1, if_neg (nI_ge (by omega) (by omega))]
    simp only [knx_e]
    obtain ⟨T1, e1, e2, e3, e4⟩ := c_tuL hc hm (d := turnsK (dB S) (gN S 57 2) h (d0 h) i) hh (nI i) (fun S10 => f_m0_countDebtsHome_L18 K (nI h) fu (nI i + 1) S10) (gN S 57 2) 0 FU T (by omega) (by omega) hf (fun q _ => turns6 _ _ _ _ _) hb
    rw [nI_0] at e1
    rw [e1, nI_1]
    obtain ⟨T2, g1, g2, g3, g4⟩ := ih (i + 1) fu T1 (by omega) (by omega) e2 e3
    exact ⟨T2, g1, g2, g3, g4.trans e4⟩
theorem c_home {S T : kSt} (hc : cOk S) (hm : mOk S) {h : Nat} (hh : h < gN S 57 2) (hf : frc S T) (h10 : T.1 10 0 = nI (gN S 57 2)) : ∃ T', f_m0_countDebtsHome (nI h) T = some T' ∧ frc S T' ∧ bkT (gN S 57 2) (dH (dB S) (gN S 57 2) h) T' ∧ T'.1 10 = T.1 10 := by
  have hP5 := hm.2.2.1.2.2
  have hFU := kFU_big
  unfold f_m0_countDebtsHome
  obtain ⟨T1, e1, e2, e3, e4⟩ := c_fill (S := T) (w := 52) (n := 5) 6 (by omega)
  rw [e1]
  simp only [Option.bind_some, knx_e]
  generalize kFU = FU at hFU ⊢
  rw [kgi_nI (by omega) (by omega), nI_clamp (by omega)]
  have f1 : frc S T1 := hf.tr (e2.c rfl)
  obtain ⟨T2, g1, g2, g3, g4⟩ := c_tuO hc hm (show h < 5 by omega) (fun S12 => some S12) (gN S 57 2) 0 FU (kuI T1 52 h 0) (by omega) (by omega) (f1.u rfl _ _) ⟨by rw [uI_get, if_neg (by omega), e2.1 10 (by decide)]; exact h10, fun q hq => by
    show _ = nI (d0 h q) ∧ d0 h q ≤ 6
    unfold d0
    rw [uI_get]
    by_cases z : q = h
    · rw [if_pos ⟨rfl, z⟩, if_pos z]
      exact ⟨rfl, by omega⟩
    · rw [if_neg (fun y => z y.2), if_neg z, e3 q (by omega)]
      exact ⟨rfl, by omega⟩⟩
  rw [nI_0] at g1
  exact ⟨T2, g1, g2, g3, g4.trans ((kuI_ne T1 _ _ (by decide)).trans (e2.1 10 (by decide)))⟩
def nxF (D : Nat → Nat → Bool) (d : Nat → Nat) (l a : Nat) : Nat → Nat → Nat
  | 0, _ => a
  | j + 1, i => if D a i = true ∧ d i = l then i else nxF D d l a j (i + 1)
theorem nxF_ok {D : Nat → Nat → Bool} {d : Nat → Nat} {l a : Nat} : ∀ j i, (∃ r, i ≤ r ∧ r < i + j ∧ D a r = true ∧ d r = l) → nxF D d l a j i < i + j ∧ D a (nxF D d l a j i) = true ∧ d (nxF D d l a j i) = l ∧ ∀ r, i ≤ r → r < nxF D d l a j i → ¬ (D a r = true ∧ d r = l)
  | 0, i, ⟨r, h1, h2, _⟩ => absurd h1 (by omega)
  | j + 1, i, ⟨r, h1, h2, h3, h4⟩ => by
    rw [nxF]
    by_cases h : D a i = true ∧ d i = l
    · rw [if_pos h]
      exact ⟨by omega, h.1, h.2, fun r r1 r2 => absurd r1 (by omega)⟩
    · rw [if_neg h]
      have hr : ¬ r = i := by
        intro e
        rw [e] at h3 h4
        exact h ⟨h3, h4⟩
      obtain ⟨k1, k2, k3, k4⟩ := nxF_ok j (i + 1) ⟨r, by omega, by omega, h3, h4⟩
      refine ⟨by omega, k2, k3, fun r r1 r2 => ?_⟩
      by_cases e : r = i
      · rw [e]; exact h
      · exact k4 r (by omega) r2
theorem c_nextL {S T : kSt} (hc : cOk S) (hm : mOk S) (hf : frc S T) {d : Nat → Nat} {a l : Nat} (ha : a < 5) (hl : l < 2 ^ 30) (hb : bkT (gN S 57 2) d T) : ∀ (j i fu : Nat), i + j = gN S 57 2 → j < fu → f_m0_firstNext_L3 (fun x S => some (x, S)) (fun S => some (nI a, S)) (nI a) (nI l) fu (nI i) T = some (nI (nxF (dB S) d l a j i), T) := by
  intro j
  have hP5 := hm.2.2.1.2.2
  induction j with
  | zero =>
    intro i fu hi hfu
    obtain ⟨fu, rfl⟩ : ∃ m, fu = m + 1 := ⟨fu - 1, by omega⟩
    rw [f_m0_firstNext_L3, hb.1, if_pos (nI_le (by omega) (by omega))]
    rfl
  | succ j ih =>
    intro i fu hi hfu
    obtain ⟨fu, rfl⟩ : ∃ m, fu = m + 1 := ⟨fu - 1, by omega⟩
    obtain ⟨b1, b2⟩ := hb.2 i (by omega)
    rw [f_m0_firstNext_L3, hb.1, if_neg (nI_ge (by omega) (by omega))]
    simp only [knx_e]
    rw [nI5m, kgi_nI (by omega) (by omega), kgi_nI (by omega) (by omega), nI_clamp (by omega), nI_clamp (by omega), hf 42 (by decide), hc.debt ha (by omega), kite (dB_le hm ha (by omega)), b1, kite (nI_eq (by omega) (by omega)), nI_1, ih (i + 1) fu (by omega) (by omega), nxF]
    cases dB S a i
    · rw [if_pos (by decide), if_neg (fun q => by cases q.1)]
    · rw [if_neg (by decide)]
      by_cases e : d i = l
      · rw [if_pos e, if_pos ⟨rfl, e⟩]
      · rw [if_neg e, if_neg (fun q => e q.2)]
theorem c_next {S T : kSt} (hc : cOk S) (hm : mOk S) (hf : frc S T) {d : Nat → Nat} {a l : Nat} (ha : a < 5) (hl : l < 2 ^ 30) (hb : bkT (gN S 57 2) d T) : f_m0_firstNext (nI a) (nI l) T = some (nI (nxF (dB S) d l a (gN S 57 2) 0), T) := by
  have hP5 := hm.2.2.1.2.2
  have hFU := kFU_big
  have := c_nextL hc hm hf ha hl hb (gN S 57 2) 0 kFU (by omega) (by omega)
  rw [nI_0] at this
  exact this
/-- the ring, pair by pair -/
def gR (D : Nat → Nat → Bool) (d : Nat → Nat) (P home left : Nat) : Nat → Nat
  | 0 => home
  | i + 1 => nxF D d (left - i) (gR D d P home left i) P 0
def lfR (D : Nat → Nat → Bool) (P home : Nat) : Nat := fwK D (dH D P home) home P
theorem gR_ok {D : Nat → Nat → Bool} {P home : Nat} (hh : home < P) (hd : ∀ a, a < P → D a a = false) (h6 : lfR D P home < 6) : 1 ≤ lfR D P home ∧ lfR D P home < P ∧ ∀ i, i ≤ lfR D P home → gR D (dH D P home) P home (lfR D P home) i < P ∧ (1 ≤ i → ¬ gR D (dH D P home) P home (lfR D P home) i = home ∧ dH D P home (gR D (dH D P home) P home (lfR D P home) i) + i = lfR D P home + 1 ∧ D (gR D (dH D P home) P home (lfR D P home) (i - 1)) (gR D (dH D P home) P home (lfR D P home) i) = true ∧ ∀ r, r < gR D (dH D P home) P home (lfR D P home) i → ¬ (D (gR D (dH D P home) P home (lfR D P home) (i - 1)) r = true ∧ dH D P home r + i = lfR D P home + 1)) := by
  obtain ⟨o1, o2, o3, o4, o5⟩ := dH_ok (D := D) hh
  obtain ⟨r0, a1, a2, a3⟩ := fwK_at (D := D) (d := dH D P home) (q := home) P h6
  have hr0 : ¬ r0 = home := by
    intro e
    rw [e, hd home hh] at a2
    cases a2
  have hl1 : 1 ≤ lfR D P home := by
    unfold lfR
    rw [a3]
    exact o3 r0 a1 hr0
  have hlP : lfR D P home < P := by
    unfold lfR at h6 ⊢
    rw [a3] at h6 ⊢
    exact (o2 r0 a1).2 h6
  refine ⟨hl1, hlP, ?_⟩
  have step : ∀ i, i < lfR D P home → gR D (dH D P home) P home (lfR D P home) i < P → (∃ r, r < P ∧ D (gR D (dH D P home) P home (lfR D P home) i) r = true ∧ dH D P home r = lfR D P home - i) → gR D (dH D P home) P home (lfR D P home) (i + 1) < P ∧ (1 ≤ i + 1 → ¬ gR D (dH D P home) P home (lfR D P home) (i + 1) = home ∧ dH D P home (gR D (dH D P home) P home (lfR D P home) (i + 1)) + (i + 1) = lfR D P home + 1 ∧ D (gR D (dH D P home) P home (lfR D P home) (i + 1 - 1)) (gR D (dH D P home) P home (lfR D P home) (i + 1)) = true ∧ ∀ r, r < gR D (dH D P home) P home (lfR D P home) (i + 1) → ¬ (D (gR D (dH D P home) P home (lfR D P home) (i + 1 - 1)) r = true ∧ dH D P home r + (i + 1) = lfR D P home + 1)) := by
    intro i hi hg ⟨r, r1, r2, r3⟩
    obtain ⟨k1, k2, k3, k4⟩ := nxF_ok (D := D) (d := dH D P home) (l := lfR D P home - i) (a := gR D (dH D P home) P home (lfR D P home) i) P 0 ⟨r, by omega, by omega, r2, r3⟩
    have e : gR D (dH D P home) P home (lfR D P home) (i + 1) = nxF D (dH D P home) (lfR D P home - i) (gR D (dH D P home) P home (lfR D P home) i) P 0 := rfl
    rw [e, Nat.add_sub_cancel]
    refine ⟨by omega, fun _ => ⟨?_, by omega, k2, fun r z1 z2 => k4 r (by omega) z1 ⟨z2.1, by omega⟩⟩⟩
    intro z
    rw [z, o1] at k3
    omega
  intro i
  induction i with
  | zero =>
    intro _
    exact ⟨hh, fun z => absurd z (by omega)⟩
  | succ i ih =>
    intro hi
    obtain ⟨g1, g2⟩ := ih (by omega)
    refine step i (by omega) g1 ?_
    by_cases h0 : i = 0
    · subst h0
      exact ⟨r0, a1, a2, by unfold lfR; rw [← a3]; omega⟩
    · obtain ⟨z1, z2, z3, z4⟩ := g2 (by omega)
      obtain ⟨r, r1, r2, r3⟩ := o5 _ g1 z1 (by omega)
      exact ⟨r, r1, r2, by omega⟩
theorem c_ringL {S : kSt} (hc : cOk S) (hm : mOk S) {h : Nat} (hh : h < gN S 57 2) (h6 : lfR (dB S) (gN S 57 2) h < 6) (K : kSt → Option kSt) : ∀ (j i fu : Nat) (T : kSt), i + j = lfR (dB S) (gN S 57 2) h → j < fu → frc S T → bkT (gN S 57 2) (dH (dB S) (gN S 57 2) h) T → T.1 10 6 = nI (i + 1) → (∀ k, k ≤ i → T.1 53 k = nI (gR (dB S) (dH (dB S) (gN S 57 2) h) (gN S 57 2) h (lfR (dB S) (gN S 57 2) h) k)) → ∃ T', f_m0_findRing_L53 K fu (nI j) (nI (gR (dB S) (dH (dB S) (gN S 57 2) h) (gN S 57 2) h (lfR (dB S) (gN S 57 2) h) i)) T = K T' ∧ frc S T' ∧ T'.1 10 6 = nI (lfR (dB S) (gN S 57 2) h + 1) ∧ (∀ k, k ≤ lfR (dB S) (gN S 57 2) h → T'.1 53 k = nI (gR (dB S) (dH (dB S) (gN S 57 2) h) (gN S 57 2) h (lfR (dB S) (gN S 57 2) h) k)) := by
  intro j
  have hP5 := hm.2.2.1.2.2
  obtain ⟨hl1, hlP, hg⟩ := gR_ok hh (fun a ha => hm.diag (show a < 5 by omega)) h6
  induction j with
  | zero =>
    intro i fu T hi hfu hf hb h10 h53
    obtain ⟨fu, rfl⟩ : ∃ m, fu = m + 1 := ⟨fu - 1, by omega⟩
    rw [f_m0_findRing_L53, if_pos (show nI 0 ≤ 0 by decide)]
    rw [show i = lfR (dB S) (gN S 57 2) h by omega] at h10 h53
    exact ⟨T, rfl, hf, h10, h53⟩
  | succ j ih =>
    intro i fu T hi hfu hf hb h10 h53
    obtain ⟨fu, rfl⟩ : ∃ m, fu = m + 1 := ⟨fu - 1, by omega⟩
    have hgi := (hg i (by omega)).1
    rw [f_m0_findRing_L53, if_neg (nI_nle (by omega) (by omega)), h10, if_neg (show ¬ (5 : Int32) ≤ nI (i + 1) from nI_ge (b := 5) (by omega) (by omega)), c_next hc hm hf (by omega) (by omega) hb]
    simp only [Option.bind_some, knx_e]
    rw [h10, kgi_nI (by omega) (by omega), nI_clamp (by omega), pk_m1]
    have e : nxF (dB S) (dH (dB S) (gN S 57 2) h) (j + 1) (gR (dB S) (dH (dB S) (gN S 57 2) h) (gN S 57 2) h (lfR (dB S) (gN S 57 2) h) i) (gN S 57 2) 0 = gR (dB S) (dH (dB S) (gN S 57 2) h) (gN S 57 2) h (lfR (dB S) (gN S 57 2) h) (i + 1) := by
      rw [gR, show lfR (dB S) (gN S 57 2) h - i = j + 1 by omega]
    rw [e]
    refine ih (i + 1) fu _ (by omega) (by omega) ((hf.u rfl _ _).u rfl _ _) ⟨by rw [uI_get, if_neg (by omega), uI_get, if_neg (by omega)]; exact hb.1, fun q hq => by rw [uI_get, if_neg (by omega), uI_get, if_neg (by omega)]; exact hb.2 q hq⟩ ?_ (fun k hk => ?_)
    · rw [uI_get, if_pos ⟨rfl, rfl⟩, uI_get, if_neg (by omega), h10, nI_1]
    · rw [uI_get, if_neg (by omega), uI_get]
      by_cases z : k = i + 1
      · rw [if_pos ⟨rfl, z⟩, z]
      · rw [if_neg (fun y => z y.2)]
        exact h53 k (by omega)
theorem c_ring {S : kSt} (hc : cOk S) (hm : mOk S) {h : Nat} (hh : h < gN S 57 2) : ∃ T', f_m0_findRing (S.1 1 2) (nI h) S = some T' ∧ frc S T' ∧ (lfR (dB S) (gN S 57 2) h < 6 → T'.1 10 6 = nI (lfR (dB S) (gN S 57 2) h + 1) ∧ (∀ k, k ≤ lfR (dB S) (gN S 57 2) h → T'.1 53 k = nI (gR (dB S) (dH (dB S) (gN S 57 2) h) (gN S 57 2) h (lfR (dB S) (gN S 57 2) h) k))) ∧ (¬ lfR (dB S) (gN S 57 2) h < 6 → T'.1 10 6 = 0) := by
  have hP5 := hm.2.2.1.2.2
  have hFU := kFU_big
  unfold f_m0_findRing
  simp only [knx_e]
  rw [hc.pairs, hm.2.2.1.2.1, show (5 : Int32) = nI 5 from rfl, kmin_nI (by omega) (by omega), Nat.min_eq_left (by omega)]
  generalize kFU = FU at hFU ⊢
  obtain ⟨T1, e1, e2, e3, e4⟩ := c_home (T := kuI (kuI S 10 0 (nI (gN S 57 2))) 10 6 0) hc hm hh ((frc.rf.u rfl _ _).u rfl _ _) (by simp [uI_get])
  rw [e1]
  simp only [Option.bind_some]
  rw [c_fw hc hm e2 (by omega) e3]
  simp only [Option.bind_some]
  show ∃ T', (if nI (lfR (dB S) (gN S 57 2) h) ≤ T1.1 10 0 then f_m0_findRing_L53 (fun S15 => some S15) FU (nI (lfR (dB S) (gN S 57 2) h)) (nI h) _ else some T1) = some T' ∧ _
  have hl6 : lfR (dB S) (gN S 57 2) h ≤ 6 := fwK_le _ _ _ _
  rw [e3.1, kite (nI_leI (by omega) (by omega))]
  by_cases h6 : lfR (dB S) (gN S 57 2) h < 6
  · obtain ⟨hl1, hlP, hg⟩ := gR_ok hh (fun a ha => hm.diag (show a < 5 by omega)) h6
    rw [if_pos (by omega)]
    obtain ⟨T2, g1, g2, g3, g4⟩ := c_ringL hc hm hh h6 (fun S15 => some S15) (lfR (dB S) (gN S 57 2) h) 0 FU (kuI (kuI T1 53 0 (nI h)) 10 6 1) (by omega) (by omega) ((e2.u rfl _ _).u rfl _ _) ⟨by rw [uI_get, if_neg (by omega), uI_get, if_neg (by omega)]; exact e3.1, fun q hq => by rw [uI_get, if_neg (by omega), uI_get, if_neg (by omega)]; exact e3.2 q hq⟩ (by rw [uI_get, if_pos ⟨rfl, rfl⟩]; rfl) (fun k hk => by
      have : k = 0 := by omega
      subst this
      rw [uI_get, if_neg (by omega), uI_get, if_pos ⟨rfl, rfl⟩]
      rfl)
    exact ⟨T2, g1, g2, fun _ => ⟨g3, g4⟩, fun z => absurd h6 z⟩
  · rw [if_neg (by omega)]
    refine ⟨T1, rfl, e2, fun z => absurd z h6, fun _ => ?_⟩
    rw [e4]
    simp [uI_get]
