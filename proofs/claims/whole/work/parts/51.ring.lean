-- filling and copying
theorem c_fillL {S : kSt} {w n : Nat} (x : Int32) (hn : n ≤ 1000) (K : kSt → Option kSt) : ∀ (j i fu : Nat) (T : kSt), i + j = n → j < fu → frm w S T → (∀ k, k < i → T.1 w k = x) → (∀ k, i ≤ k → T.1 w k = S.1 w k) → ∃ T', f_mJ_fill_J7_L5 w n K x (nI n) fu (nI i) T = K T' ∧ frm w S T' ∧ (∀ k, k < n → T'.1 w k = x) ∧ ∀ k, n ≤ k → T'.1 w k = S.1 w k := by
  intro j
  induction j with
  | zero =>
    intro i fu T hi hfu hf hx hy
    obtain ⟨fu, rfl⟩ : ∃ m, fu = m + 1 := ⟨fu - 1, by omega⟩
    rw [f_mJ_fill_J7_L5, if_pos (nI_le (by omega) (by omega))]
    exact ⟨T, rfl, hf, fun k hk => hx k (by omega), fun k hk => hy k (by omega)⟩
  | succ j ih =>
    intro i fu T hi hfu hf hx hy
    obtain ⟨fu, rfl⟩ : ∃ m, fu = m + 1 := ⟨fu - 1, by omega⟩
    rw [f_mJ_fill_J7_L5, if_neg (nI_ge (by omega) (by omega)), kgi_nI (by omega) (by omega), nI_clamp (by omega)]
    simp only [knx_e]
    rw [nI_1]
    refine ih (i + 1) fu _ (by omega) (by omega) (hf.u _ _) (fun k hk => ?_) (fun k hk => ?_)
    · rw [uI_get]
      by_cases h : k = i
      · rw [if_pos ⟨rfl, h⟩]
      · rw [if_neg (fun q => h q.2)]
        exact hx k (by omega)
    · rw [uI_get, if_neg (by omega)]
      exact hy k (by omega)
theorem c_fill {S : kSt} {w n : Nat} (x : Int32) (hn : n ≤ 999) : ∃ T', f_mJ_fill_J7 w n x S = some T' ∧ frm w S T' ∧ (∀ k, k < n → T'.1 w k = x) ∧ ∀ k, n ≤ k → T'.1 w k = S.1 w k := by
  have hFU := kFU_big
  unfold f_mJ_fill_J7
  simp only [knx_e]
  have := c_fillL (S := S) (w := w) (n := n) x (by omega) (fun S5 => some S5) n 0 kFU S (by omega) (by omega) frm.rf (fun k hk => absurd hk (by omega)) (fun k _ => rfl)
  rw [nI_0] at this
  exact this
theorem m_copyL {S : kSt} {w0 n0 w2 n2 a b m : Nat} (hw : w0 ≠ w2) (h0 : a + m ≤ n0) (h2 : b + m ≤ n2) (hn : n0 < 2 ^ 30) (hn2 : n2 < 2 ^ 30) (K : kSt → Option kSt) : ∀ (j i fu : Nat) (T : kSt), i + j = m → j < fu → frm w2 S T → (∀ k, T.1 w2 k = if b ≤ k ∧ k < b + i then S.1 w0 (a + (k - b)) else S.1 w2 k) → ∃ T', f_m11_copy_L3 w0 n0 w2 n2 K (nI a) (nI b) (nI m) fu (nI i) T = K T' ∧ frm w2 S T' ∧ ∀ k, T'.1 w2 k = if b ≤ k ∧ k < b + m then S.1 w0 (a + (k - b)) else S.1 w2 k := by
  intro j
  induction j with
  | zero =>
    intro i fu T hi hfu hf hx
    obtain ⟨fu, rfl⟩ : ∃ m, fu = m + 1 := ⟨fu - 1, by omega⟩
    rw [f_m11_copy_L3, if_pos (nI_le (by omega) (by omega))]
    rw [show i = m by omega] at hx
    exact ⟨T, rfl, hf, hx⟩
  | succ j ih =>
    intro i fu T hi hfu hf hx
    obtain ⟨fu, rfl⟩ : ∃ m, fu = m + 1 := ⟨fu - 1, by omega⟩
    rw [f_m11_copy_L3, if_neg (nI_ge (by omega) (by omega))]
    simp only [knx_e]
    rw [nI_add, nI_add, kgi_nI (by omega) (by omega), kgi_nI (by omega) (by omega), nI_clamp (by omega), nI_clamp (by omega), nI_1]
    refine ih (i + 1) fu _ (by omega) (by omega) (hf.u _ _) (fun k => ?_)
    rw [uI_get, hf.1 w0 hw]
    by_cases h : k = b + i
    · rw [if_pos ⟨rfl, h⟩, if_pos (by omega), h, show b + i - b = i by omega]
    · rw [if_neg (fun q => h q.2), hx k]
      by_cases h3 : b ≤ k ∧ k < b + i
      · rw [if_pos h3, if_pos (by omega)]
      · rw [if_neg h3, if_neg (by omega)]
theorem m_copy {S : kSt} {w0 n0 w2 n2 a b m : Nat} (hw : w0 ≠ w2) (h0 : a + m ≤ n0) (h2 : b + m ≤ n2) (hn : n0 < 2 ^ 30) (hn2 : n2 < 2 ^ 30) (hm : m ≤ 999) : ∃ T', f_m11_copy w0 n0 (nI a) w2 n2 (nI b) (nI m) S = some T' ∧ frm w2 S T' ∧ ∀ k, T'.1 w2 k = if b ≤ k ∧ k < b + m then S.1 w0 (a + (k - b)) else S.1 w2 k := by
  have hFU := kFU_big
  unfold f_m11_copy
  have := m_copyL (S := S) hw h0 h2 hn hn2 (fun S6 => some S6) m 0 kFU S (by omega) (by omega) frm.rf (fun k => by rw [if_neg (by omega)])
  rw [nI_0] at this
  exact this
-- debts one behind the other: pure
def fwK (D : Nat → Nat → Bool) (d : Nat → Nat) (q : Nat) : Nat → Nat
  | 0 => 6
  | k + 1 => if D q k then min (fwK D d q k) (d k) else fwK D d q k
theorem fwK_le (D : Nat → Nat → Bool) (d : Nat → Nat) (q : Nat) : ∀ k, fwK D d q k ≤ 6
  | 0 => Nat.le_refl _
  | k + 1 => by
    have := fwK_le D d q k
    rw [fwK]
    split <;> omega
theorem fwK_lb {D : Nat → Nat → Bool} {d : Nat → Nat} {q r : Nat} (h : D q r = true) : ∀ k, r < k → fwK D d q k ≤ d r
  | 0, hk => absurd hk (by omega)
  | k + 1, hk => by
    rw [fwK]
    by_cases e : r = k
    · subst e
      rw [if_pos h]
      omega
    · have := fwK_lb (d := d) h k (by omega)
      split <;> omega
theorem fwK_at {D : Nat → Nat → Bool} {d : Nat → Nat} {q : Nat} : ∀ k, fwK D d q k < 6 → ∃ r, r < k ∧ D q r = true ∧ fwK D d q k = d r
  | 0, h => absurd h (by rw [fwK]; omega)
  | k + 1, h => by
    rw [fwK] at h ⊢
    cases hd : D q k
    · rw [hd, if_neg (by decide)] at h
      obtain ⟨r, h1, h2, h3⟩ := fwK_at k h
      exact ⟨r, by omega, h2, by rw [if_neg (by decide)]; exact h3⟩
    · rw [hd, if_pos rfl] at h
      rw [if_pos rfl]
      by_cases e : fwK D d q k ≤ d k
      · obtain ⟨r, h1, h2, h3⟩ := fwK_at (D := D) (d := d) (q := q) k (by omega)
        exact ⟨r, by omega, h2, by rw [Nat.min_eq_left e]; exact h3⟩
      · exact ⟨k, by omega, hd, by rw [Nat.min_eq_right (by omega)]⟩
/-- sound, and complete up to t -/
def dSd (D : Nat → Nat → Bool) (P home : Nat) (d : Nat → Nat) : Prop := d home = 0 ∧ (∀ q, q < P → d q ≤ 6 ∧ (¬ q = home → 1 ≤ d q ∧ (d q < 6 → ∃ r, r < P ∧ D q r = true ∧ d r + 1 ≤ d q)))
def dCp (D : Nat → Nat → Bool) (P home t : Nat) (d : Nat → Nat) : Prop := ∀ q r, q < P → r < P → ¬ q = home → D q r = true → d r < t → d q ≤ d r + 1
def rlx (D : Nat → Nat → Bool) (P home : Nat) (d : Nat → Nat) (q : Nat) : Nat → Nat := fun a => if a = q ∧ ¬ q = home then min (d q) (fwK D d q P + 1) else d a
def turnK (D : Nat → Nat → Bool) (P home : Nat) (d : Nat → Nat) : Nat → Nat → Nat
  | 0 => d
  | k + 1 => rlx D P home (turnK D P home d k) k
theorem rlx_le {D : Nat → Nat → Bool} {P home : Nat} (d : Nat → Nat) (q a : Nat) : rlx D P home d q a ≤ d a := by
  unfold rlx
  split
  · rename_i h
    rw [h.1]
    omega
  · exact Nat.le_refl _
theorem rlx_sd {D : Nat → Nat → Bool} {P home q : Nat} {d : Nat → Nat} (hq : q < P) (h : dSd D P home d) : dSd D P home (rlx D P home d q) := by
  refine ⟨?_, fun a ha => ?_⟩
  · unfold rlx
    rw [if_neg (fun e => e.2 e.1.symm)]
    exact h.1
  · have hle := rlx_le (D := D) (P := P) (home := home) d q a
    obtain ⟨h1, h2⟩ := h.2 a ha
    refine ⟨by omega, fun hne => ?_⟩
    obtain ⟨h3, h4⟩ := h2 hne
    by_cases e : a = q
    · subst e
      have hv : rlx D P home d a a = min (d a) (fwK D d a P + 1) := by
        unfold rlx
        rw [if_pos ⟨rfl, hne⟩]
      refine ⟨by rw [hv]; omega, fun h6 => ?_⟩
      rw [hv] at h6 ⊢
      by_cases e2 : d a ≤ fwK D d a P + 1
      · rw [Nat.min_eq_left e2] at h6 ⊢
        obtain ⟨r, r1, r2, r3⟩ := h4 h6
        have := rlx_le (D := D) (P := P) (home := home) d a r
        exact ⟨r, r1, r2, by omega⟩
      · rw [Nat.min_eq_right (by omega)] at h6 ⊢
        obtain ⟨r, r1, r2, r3⟩ := fwK_at (D := D) (d := d) (q := a) P (by omega)
        have := rlx_le (D := D) (P := P) (home := home) d a r
        exact ⟨r, r1, r2, by omega⟩
    · have hv : rlx D P home d q a = d a := by
        unfold rlx
        rw [if_neg (fun z => e z.1)]
      rw [hv]
      refine ⟨h3, fun h6 => ?_⟩
      obtain ⟨r, r1, r2, r3⟩ := h4 h6
      have := rlx_le (D := D) (P := P) (home := home) d q r
      exact ⟨r, r1, r2, by omega⟩
theorem turnK_le {D : Nat → Nat → Bool} {P home : Nat} (d : Nat → Nat) (a : Nat) : ∀ k, turnK D P home d k a ≤ d a
  | 0 => Nat.le_refl _
  | k + 1 => Nat.le_trans (rlx_le _ _ _) (turnK_le d a k)
theorem turnK_sd {D : Nat → Nat → Bool} {P home : Nat} {d : Nat → Nat} (h : dSd D P home d) : ∀ k, k ≤ P → dSd D P home (turnK D P home d k)
  | 0, _ => h
  | k + 1, hk => rlx_sd (by omega) (turnK_sd h k (by omega))
theorem turnK_cp {D : Nat → Nat → Bool} {P home t : Nat} {d : Nat → Nat} (h60 : ∀ q, q < P → d q ≤ 6) (hc : dCp D P home t d) : ∀ k, k ≤ P → (∀ q, q < P → turnK D P home d k q ≤ t → turnK D P home d k q = d q) ∧ (∀ q r, q < k → r < P → ¬ q = home → D q r = true → d r ≤ t → turnK D P home d k q ≤ d r + 1)
  | 0, _ => ⟨fun _ _ _ => rfl, fun q r hq => absurd hq (by omega)⟩
  | k + 1, hk => by
    obtain ⟨h1, h2⟩ := turnK_cp h60 hc k (by omega)
    refine ⟨fun q hq hle => ?_, fun q r hq hr hne hD hrt => ?_⟩
    · show rlx D P home (turnK D P home d k) k q = d q
      have hle' : rlx D P home (turnK D P home d k) k q ≤ t := hle
      have hl0 := turnK_le (D := D) (P := P) (home := home) d q k
      unfold rlx at hle' ⊢
      by_cases e : q = k ∧ ¬ k = home
      · rw [if_pos e] at hle' ⊢
        obtain ⟨e1, e2⟩ := e
        subst e1
        by_cases e3 : turnK D P home d q q ≤ fwK D (turnK D P home d q) q P + 1
        · rw [Nat.min_eq_left e3] at hle' ⊢
          exact h1 q hq hle'
        · exfalso
          rw [Nat.min_eq_right (by omega)] at hle'
          have hfl := fwK_le D (turnK D P home d q) q P
          by_cases h6 : fwK D (turnK D P home d q) q P < 6
          · obtain ⟨r, r1, r2, r3⟩ := fwK_at (D := D) (d := turnK D P home d q) (q := q) P h6
            have hr := h1 r r1 (by omega)
            have := hc q r hq r1 e2 r2 (by omega)
            omega
          · have := h60 q hq
            omega
      · rw [if_neg e] at hle' ⊢
        exact h1 q hq hle'
    · show rlx D P home (turnK D P home d k) k q ≤ d r + 1
      by_cases e : q = k
      · subst e
        unfold rlx
        rw [if_pos ⟨rfl, hne⟩]
        have := fwK_lb (d := turnK D P home d q) hD P hr
        have := turnK_le (D := D) (P := P) (home := home) d r q
        omega
      · have := rlx_le (D := D) (P := P) (home := home) (turnK D P home d k) k q
        have := h2 q r (by omega) hr hne hD hrt
        omega
theorem turn_cp {D : Nat → Nat → Bool} {P home t : Nat} {d : Nat → Nat} (h60 : ∀ q, q < P → d q ≤ 6) (hc : dCp D P home t d) : dCp D P home (t + 1) (turnK D P home d P) := by
  obtain ⟨h1, h2⟩ := turnK_cp h60 hc P (Nat.le_refl _)
  intro q r hq hr hne hD hlt
  have e := h1 r hr (by omega)
  rw [e]
  exact h2 q r hq hr hne hD (by omega)
def turnsK (D : Nat → Nat → Bool) (P home : Nat) (d : Nat → Nat) : Nat → Nat → Nat
  | 0 => d
  | k + 1 => turnK D P home (turnsK D P home d k) P
def d0 (home : Nat) : Nat → Nat := fun a => if a = home then 0 else 6
theorem turns_ok (D : Nat → Nat → Bool) (P home : Nat) : ∀ k, dSd D P home (turnsK D P home (d0 home) k) ∧ dCp D P home k (turnsK D P home (d0 home) k)
  | 0 => by
    refine ⟨⟨if_pos rfl, fun q _ => ?_⟩, fun q r _ _ _ _ h => absurd h (by omega)⟩
    unfold turnsK d0
    refine ⟨by split <;> omega, fun hne => ?_⟩
    rw [if_neg hne]
    exact ⟨by omega, fun h => absurd h (by omega)⟩
  | k + 1 => by
    obtain ⟨h1, h2⟩ := turns_ok D P home k
    exact ⟨turnK_sd h1 P (Nat.le_refl _), turn_cp (fun q hq => (h1.2 q hq).1) h2⟩
def cqK (d : Nat → Nat) (t : Nat) : Nat → Nat
  | 0 => 0
  | k + 1 => if d k ≤ t then cqK d t k + 1 else cqK d t k
theorem cqK_le (d : Nat → Nat) (t : Nat) : ∀ k, cqK d t k ≤ k
  | 0 => Nat.le_refl _
  | k + 1 => by
    have := cqK_le d t k
    rw [cqK]
    split <;> omega
theorem cqK_mono (d : Nat → Nat) (t : Nat) : ∀ k, cqK d t k ≤ cqK d (t + 1) k
  | 0 => Nat.le_refl _
  | k + 1 => by
    have := cqK_mono d t k
    rw [cqK, cqK]
    split <;> split <;> omega
theorem cqK_up {d : Nat → Nat} {t q : Nat} (h : d q = t + 1) : ∀ k, q < k → cqK d t k + 1 ≤ cqK d (t + 1) k
  | 0, hk => absurd hk (by omega)
  | k + 1, hk => by
    rw [cqK, cqK]
    by_cases e : q = k
    · subst e
      have := cqK_mono d t q
      rw [if_neg (by omega), if_pos (by omega)]
      omega
    · have := cqK_up h k (by omega)
      split <;> split <;> omega
theorem cqK_1 {d : Nat → Nat} {q : Nat} (h : d q = 0) : ∀ k, q < k → 1 ≤ cqK d 0 k
  | 0, hk => absurd hk (by omega)
  | k + 1, hk => by
    rw [cqK]
    by_cases e : q = k
    · subst e
      rw [if_pos (by omega)]
      omega
    · have := cqK_1 h k (by omega)
      split <;> omega
theorem lev_cnt {D : Nat → Nat → Bool} {P home : Nat} {d : Nat → Nat} (hh : home < P) (h1 : dSd D P home d) (h2 : dCp D P home P d) : ∀ m, m ≤ P → m < 6 → ∀ q, q < P → d q = m → m + 1 ≤ cqK d m P
  | 0, _, _, q, hq, e => by
    have := cqK_1 e P hq
    omega
  | m + 1, hm, h6, q, hq, e => by
    have hne : ¬ q = home := by
      intro z
      rw [z, h1.1] at e
      omega
    obtain ⟨r, r1, r2, r3⟩ := ((h1.2 q hq).2 hne).2 (by omega)
    have := h2 q r hq r1 hne r2 (by omega)
    have := lev_cnt hh h1 h2 m (by omega) (by omega) r r1 (by omega)
    have := cqK_up e P hq
    omega
theorem lev_lt {D : Nat → Nat → Bool} {P home : Nat} {d : Nat → Nat} (hh : home < P) (h1 : dSd D P home d) (h2 : dCp D P home P d) : ∀ m, m < 6 → ∀ q, q < P → d q = m → m < P := by
  intro m
  induction m using Nat.strongRecOn with
  | _ m ih =>
    intro h6 q hq e
    by_cases hne : q = home
    · rw [hne, h1.1] at e
      omega
    · obtain ⟨r, r1, r2, r3⟩ := ((h1.2 q hq).2 hne).2 (by omega)
      have hr := ih (d r) (by omega) (by omega) r r1 rfl
      have := h2 q r hq r1 hne r2 hr
      apply Classical.byContradiction
      intro hn
      have := lev_cnt hh h1 h2 m (by omega) h6 q hq e
      have := cqK_le d m P
      omega
/-- how many debts home: the table that the class makes -/
def dH (D : Nat → Nat → Bool) (P home : Nat) : Nat → Nat := turnsK D P home (d0 home) P
theorem dH_ok {D : Nat → Nat → Bool} {P home : Nat} (hh : home < P) : dH D P home home = 0 ∧ (∀ q, q < P → dH D P home q ≤ 6 ∧ (dH D P home q < 6 → dH D P home q < P)) ∧ (∀ q, q < P → ¬ q = home → 1 ≤ dH D P home q) ∧ (∀ q r, q < P → r < P → ¬ q = home → D q r = true → dH D P home q ≤ dH D P home r + 1) ∧ (∀ q, q < P → ¬ q = home → dH D P home q < 6 → ∃ r, r < P ∧ D q r = true ∧ dH D P home r + 1 = dH D P home q) := by
  obtain ⟨h1, h2⟩ := turns_ok D P home P
  have hl := lev_lt hh h1 h2
  have h4 : ∀ q r, q < P → r < P → ¬ q = home → D q r = true → dH D P home q ≤ dH D P home r + 1 := by
    intro q r hq hr hne hD
    have hq6 := (h1.2 q hq).1
    by_cases h6 : dH D P home r < 6
    · exact h2 q r hq hr hne hD (hl _ h6 r hr rfl)
    · unfold dH at h6 ⊢
      omega
  refine ⟨h1.1, fun q hq => ⟨(h1.2 q hq).1, fun h6 => hl _ h6 q hq rfl⟩, fun q hq hne => ((h1.2 q hq).2 hne).1, h4, fun q hq hne h6 => ?_⟩
  obtain ⟨r, r1, r2, r3⟩ := ((h1.2 q hq).2 hne).2 h6
  have := h4 q r hq r1 hne r2
  exact ⟨r, r1, r2, by unfold dH at this ⊢; omega⟩
