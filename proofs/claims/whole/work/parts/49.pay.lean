-- groups whose nets are none together: pure
def smK (v : Nat → Int32) (s : Nat) : Nat → Int32
  | 0 => 0
  | k + 1 => smK v s k + (if tb s k then v k else 0)
def sbB (t s : Nat) : Bool := decide (t &&& s = t)
theorem tb_del : ∀ s, s < 32 → ∀ p, p < 5 → tb s p = true → 2 ^ p ≤ s ∧ (∀ k, k < 5 → tb (s - 2 ^ p) k = (tb s k && decide (¬ k = p))) := by decide +kernel
theorem tb_sub0 : ∀ s, s < 32 → ∀ t, t < 32 → sbB t s = true → t ≤ s ∧ sbB (s - t) s = true ∧ ∀ k, k < 5 → (tb (s - t) k = (tb s k && !tb t k) ∧ (!tb t k || tb s k) = true) := by decide +kernel
theorem tb_sub : ∀ s, s < 32 → ∀ t, t < 32 → sbB t s = true → t ≤ s ∧ sbB (s - t) s = true ∧ ∀ k, k < 5 → (tb (s - t) k = (tb s k && !tb t k)) ∧ (tb t k = true → tb s k = true) := by
  intro s hs t ht h
  obtain ⟨h1, h2, h3⟩ := tb_sub0 s hs t ht h
  refine ⟨h1, h2, fun k hk => ⟨(h3 k hk).1, fun q => ?_⟩⟩
  have := (h3 k hk).2
  rw [q] at this
  simpa using this
theorem tb_dif : ∀ s, s < 32 → ∀ t, t < 32 → sbB t s = true → ¬ t = s → ∃ p, p < 5 ∧ tb s p = true ∧ sbB t (s - 2 ^ p) = true := by decide +kernel
theorem tb_ne : ∀ s, s < 32 → ¬ s = 0 → ∃ p, p < 5 ∧ tb s p = true := by decide +kernel
theorem sb_tr0 : ∀ s, s < 32 → ∀ p, p < 5 → ∀ t, t < 32 → (tb s p = true ∧ sbB t (s - 2 ^ p) = true) → (sbB t s = true ∧ t < s) := by decide +kernel
theorem sb_tr : ∀ s, s < 32 → ∀ p, p < 5 → tb s p = true → ∀ t, t < 32 → sbB t (s - 2 ^ p) = true → sbB t s = true ∧ t < s := fun s hs p hp h t ht q => sb_tr0 s hs p hp t ht ⟨h, q⟩
theorem tb_lt (s : Nat) (P : Nat) : s < 2 ^ P → ∀ k, P ≤ k → tb s k = false := by
  intro h k hk
  unfold tb
  rw [Nat.div_eq_of_lt (Nat.lt_of_lt_of_le h (Nat.pow_le_pow_right (by omega) hk))]
  rfl
theorem smK_del {v : Nat → Int32} {s p : Nat} (hs : s < 32) (hp : p < 5) (h : tb s p = true) : ∀ k, k ≤ 5 → smK v s k = smK v (s - 2 ^ p) k + (if p < k then v p else 0)
  | 0, _ => by simp [smK]
  | k + 1, hk => by
    have ht := (tb_del s hs p hp h).2 k (by omega)
    rw [smK, smK, smK_del hs hp h k (by omega), ht]
    by_cases hkp : k = p
    · subst hkp
      simp [h]
    · have e : (p < k + 1) ↔ (p < k) := by omega
      rw [kite e, decide_eq_true hkp, Bool.and_true, Int32.add_assoc, Int32.add_assoc, Int32.add_comm (if p < k then v p else 0)]
theorem smK_sub {v : Nat → Int32} {s t : Nat} (hs : s < 32) (ht : t < 32) (h : sbB t s = true) : ∀ k, k ≤ 5 → smK v s k = smK v t k + smK v (s - t) k
  | 0, _ => by simp [smK]
  | k + 1, hk => by
    obtain ⟨h1, h2⟩ := (tb_sub s hs t ht h).2.2 k (by omega)
    rw [smK, smK, smK, smK_sub hs ht h k (by omega), h1]
    cases hs' : tb s k
    · have : tb t k = false := by
        cases h3 : tb t k
        · rfl
        · rw [h2 h3] at hs'
          exact hs'
      rw [this]
      simp
    · cases tb t k
      · simp [Int32.add_assoc]
      · simp only [if_true, Bool.not_true, Bool.and_false, Bool.false_eq_true, if_false, Int32.add_zero]
        rw [Int32.add_assoc, Int32.add_comm (smK v (s - t) k), Int32.add_assoc]
theorem smK_0 (v : Nat → Int32) : ∀ k, smK v 0 k = 0
  | 0 => rfl
  | k + 1 => by
    rw [smK, smK_0 v k, tb_lt 0 0 (by decide) k (by omega)]
    rfl
-- the class's table
def mxK (g : Nat → Nat) (s : Nat) : Nat → Nat
  | 0 => 0
  | k + 1 => if tb s k then max (mxK g s k) (g (s - 2 ^ k)) else mxK g s k
def vlG (v : Nat → Int32) (P : Nat) (g : Nat → Nat) (s : Nat) : Nat := if s = 0 then 0 else if smK v s P = 0 then mxK g s P + 1 else mxK g s P
def tbG (v : Nat → Int32) (P : Nat) : Nat → Nat → Nat
  | 0 => fun _ => 0
  | n + 1 => fun s => if s = n then vlG v P (tbG v P n) n else tbG v P n s
theorem mxK_c {g h : Nat → Nat} {s : Nat} (hs : s < 32) (e : ∀ t, t < s → g t = h t) : ∀ k, k ≤ 5 → mxK g s k = mxK h s k
  | 0, _ => rfl
  | k + 1, hk => by
    rw [mxK, mxK, mxK_c hs e k (by omega)]
    cases ht : tb s k
    · rfl
    · have h1 := (tb_del s hs k (by omega) ht).1
      have h2 : 0 < 2 ^ k := Nat.two_pow_pos k
      rw [e (s - 2 ^ k) (by omega)]
theorem tbG_st (v : Nat → Int32) (P s : Nat) : ∀ m, tbG v P (s + 1 + m) s = tbG v P (s + 1) s
  | 0 => rfl
  | m + 1 => by
    rw [← Nat.add_assoc, tbG]
    show (if s = s + 1 + m then _ else _) = _
    rw [if_neg (by omega), tbG_st v P s m]
theorem tbG_eq {v : Nat → Int32} {P n s : Nat} (hP : P ≤ 5) (hs : s < n) (h32 : s < 32) : tbG v P n s = vlG v P (tbG v P n) s := by
  have e1 : tbG v P n s = vlG v P (tbG v P s) s := by
    have := tbG_st v P s (n - (s + 1))
    rw [show s + 1 + (n - (s + 1)) = n by omega] at this
    rw [this, tbG]
    show (if s = s then _ else _) = _
    rw [if_pos rfl]
  have e2 : ∀ t, t < s → tbG v P s t = tbG v P n t := by
    intro t ht
    have h1 := tbG_st v P t (n - (t + 1))
    have h2 := tbG_st v P t (s - (t + 1))
    rw [show t + 1 + (n - (t + 1)) = n by omega] at h1
    rw [show t + 1 + (s - (t + 1)) = s by omega] at h2
    rw [h1, h2]
  rw [e1]
  unfold vlG
  rw [mxK_c h32 e2 P hP]
-- a table that is right
def okG (v : Nat → Int32) (P : Nat) (g : Nat → Nat) : Prop := ∀ s, s < 2 ^ P → g s = vlG v P g s
theorem mxK_ge {g : Nat → Nat} {s p : Nat} (ht : tb s p = true) : ∀ k, p < k → g (s - 2 ^ p) ≤ mxK g s k
  | 0, h => absurd h (by omega)
  | k + 1, h => by
    rw [mxK]
    by_cases e : p = k
    · subst e
      rw [if_pos ht]
      omega
    · have := mxK_ge (g := g) ht k (by omega)
      split <;> omega
theorem mxK_at {g : Nat → Nat} {s p : Nat} (ht : tb s p = true) : ∀ k, p < k → ∃ q, q < k ∧ tb s q = true ∧ mxK g s k = g (s - 2 ^ q)
  | 0, h => absurd h (by omega)
  | k + 1, h => by
    rw [mxK]
    by_cases e : p < k
    · obtain ⟨q, h1, h2, h3⟩ := mxK_at (g := g) ht k e
      cases hk : tb s k
      · exact ⟨q, by omega, h2, by rw [if_neg (by decide)]; exact h3⟩
      · by_cases hle : g (s - 2 ^ k) ≤ mxK g s k
        · exact ⟨q, by omega, h2, by rw [if_pos rfl, Nat.max_eq_left hle]; exact h3⟩
        · exact ⟨k, by omega, hk, by rw [if_pos rfl, Nat.max_eq_right (by omega)]⟩
    · have hpk : p = k := by omega
      subst hpk
      by_cases hle : g (s - 2 ^ p) ≤ mxK g s p
      · have hm : ∀ j, j ≤ p → mxK g s j = 0 ∨ ∃ q, q < j ∧ tb s q = true ∧ mxK g s j = g (s - 2 ^ q) := by
          intro j
          induction j with
          | zero => intro _; exact Or.inl rfl
          | succ j ih =>
            intro hj
            rw [mxK]
            cases hk : tb s j
            · rw [if_neg (by decide)]
              rcases ih (by omega) with h0 | ⟨q, h1, h2, h3⟩
              · exact Or.inl h0
              · exact Or.inr ⟨q, by omega, h2, h3⟩
            · rw [if_pos rfl]
              by_cases hle : g (s - 2 ^ j) ≤ mxK g s j
              · rw [Nat.max_eq_left hle]
                rcases ih (by omega) with h0 | ⟨q, h1, h2, h3⟩
                · exact Or.inl h0
                · exact Or.inr ⟨q, by omega, h2, h3⟩
              · rw [Nat.max_eq_right (by omega)]
                exact Or.inr ⟨j, by omega, hk, rfl⟩
        rcases hm p (Nat.le_refl _) with h0 | ⟨q, h1, h2, h3⟩
        · exact ⟨p, by omega, ht, by rw [if_pos ht, Nat.max_eq_left hle]; omega⟩
        · exact ⟨q, by omega, h2, by rw [if_pos ht, Nat.max_eq_left hle]; exact h3⟩
      · exact ⟨p, by omega, ht, by rw [if_pos ht, Nat.max_eq_right (by omega)]⟩
theorem p32 {P s : Nat} (hP : P ≤ 5) (h : s < 2 ^ P) : s < 32 := Nat.lt_of_lt_of_le h (by
  have : ∀ P, P ≤ 5 → 2 ^ P ≤ 32 := by decide
  exact this P hP)
theorem tb_P {P s p : Nat} (h : s < 2 ^ P) (ht : tb s p = true) : p < P := by
  apply Classical.byContradiction
  intro q
  rw [tb_lt s P h p (by omega)] at ht
  cases ht
theorem okG_mono {v : Nat → Int32} {P : Nat} {g : Nat → Nat} (hP : P ≤ 5) (ho : okG v P g) : ∀ s, s < 2 ^ P → ∀ t, t < 32 → sbB t s = true → g t ≤ g s := by
  intro s
  induction s using Nat.strongRecOn with
  | _ s ih =>
    intro hs t ht h
    by_cases e : t = s
    · rw [e]; exact Nat.le_refl _
    · have h32 := p32 hP hs
      obtain ⟨p, h1, h2, h3⟩ := tb_dif s h32 t ht h e
      have h4 := (tb_del s h32 p h1 h2).1
      have h5 : 0 < 2 ^ p := Nat.two_pow_pos p
      have h6 := ih (s - 2 ^ p) (by omega) (by omega) t ht h3
      have h7 := mxK_ge (g := g) h2 P (tb_P hs h2)
      rw [ho s hs]
      unfold vlG
      rw [if_neg (by omega)]
      split <;> omega
theorem okG_up {v : Nat → Int32} {P : Nat} {g : Nat → Nat} (hP : P ≤ 5) (ho : okG v P g) {s t : Nat} (hs : s < 2 ^ P) (ht : t < 32) (h : sbB t s = true) (e : ¬ t = s) (hz : smK v s P = 0) : g t + 1 ≤ g s := by
  have h32 := p32 hP hs
  obtain ⟨p, h1, h2, h3⟩ := tb_dif s h32 t ht h e
  have h4 := (tb_del s h32 p h1 h2).1
  have h5 : 0 < 2 ^ p := Nat.two_pow_pos p
  have h6 := okG_mono hP ho (s - 2 ^ p) (by omega) t ht h3
  have h7 := mxK_ge (g := g) h2 P (tb_P hs h2)
  rw [ho s hs]
  unfold vlG
  rw [if_neg (by omega), if_pos hz]
  omega
theorem okG_dn {v : Nat → Int32} {P : Nat} {g : Nat → Nat} (hP : P ≤ 5) (ho : okG v P g) : ∀ s, s < 2 ^ P → ¬ s = 0 → ∃ t, t < s ∧ sbB t s = true ∧ smK v t P = 0 ∧ g s = g t + if smK v s P = 0 then 1 else 0 := by
  intro s
  induction s using Nat.strongRecOn with
  | _ s ih =>
    intro hs h0
    have h32 := p32 hP hs
    obtain ⟨p0, h1, h2⟩ := tb_ne s h32 h0
    obtain ⟨p, hp, hpt, he⟩ := mxK_at (g := g) h2 P (tb_P hs h2)
    have h4 := (tb_del s h32 p (by omega) hpt).1
    have h5 : 0 < 2 ^ p := Nat.two_pow_pos p
    have hg : g s = g (s - 2 ^ p) + if smK v s P = 0 then 1 else 0 := by
      rw [ho s hs]
      unfold vlG
      rw [if_neg h0]
      split <;> omega
    by_cases hz : smK v (s - 2 ^ p) P = 0
    · refine ⟨s - 2 ^ p, by omega, ?_, hz, hg⟩
      have : ∀ x, x < 32 → sbB x x = true := by decide
      exact (sb_tr s h32 p (by omega) hpt (s - 2 ^ p) (by omega) (this _ (by omega))).1
    · have hx : ¬ s - 2 ^ p = 0 := by
        intro q
        rw [q, smK_0] at hz
        exact hz rfl
      obtain ⟨t, k1, k2, k3, k4⟩ := ih (s - 2 ^ p) (by omega) (by omega) hx
      rw [if_neg hz] at k4
      refine ⟨t, by omega, (sb_tr s h32 p (by omega) hpt t (by omega) k2).1, k3, ?_⟩
      rw [hg, k4]
      rfl
theorem tb_cm0 : ∀ s, s < 32 → ∀ z, z < 5 → ∀ q, q < 5 → (!(tb s z && tb s q && !(q == z)) || (tb (s - 2 ^ q) z && tb (s - 2 ^ z) q && (s - 2 ^ q - 2 ^ z == s - 2 ^ z - 2 ^ q))) = true := by decide +kernel
theorem tb_cm (s : Nat) (hs : s < 32) (z : Nat) (hz : z < 5) (q : Nat) (hq : q < 5) (h1 : tb s z = true) (h2 : tb s q = true) (h3 : ¬ q = z) : tb (s - 2 ^ q) z = true ∧ tb (s - 2 ^ z) q = true ∧ s - 2 ^ q - 2 ^ z = s - 2 ^ z - 2 ^ q := by
  have := tb_cm0 s hs z hz q hq
  rw [h1, h2, show (q == z) = false by simpa using h3] at this
  simp only [Bool.not_false, Bool.and_self, Bool.not_true, Bool.false_or, Bool.and_eq_true, beq_iff_eq] at this
  exact ⟨this.1.1, this.1.2, this.2⟩
/-- one whose net is none is a group of its own -/
theorem okG_z {v : Nat → Int32} {P z : Nat} {g : Nat → Nat} (hP : P ≤ 5) (hz : z < P) (hv : v z = 0) (ho : okG v P g) : ∀ s, s < 2 ^ P → tb s z = true → g s = g (s - 2 ^ z) + 1 := by
  intro s
  induction s using Nat.strongRecOn with
  | _ s ih =>
    intro hs ht
    have h32 := p32 hP hs
    have hz5 : z < 5 := by omega
    obtain ⟨d1, d2⟩ := tb_del s h32 z hz5 ht
    have hzp : 0 < 2 ^ z := Nat.two_pow_pos z
    have hsm : smK v s P = smK v (s - 2 ^ z) P := by
      rw [smK_del h32 hz5 ht P hP, if_pos hz, hv, Int32.add_zero]
    have hg : g s = mxK g s P + if smK v (s - 2 ^ z) P = 0 then 1 else 0 := by
      rw [ho s hs]
      unfold vlG
      rw [if_neg (by omega), hsm]
      split <;> omega
    by_cases hA : s - 2 ^ z = 0
    · have hsz : s = 2 ^ z := by omega
      rw [hA] at hg ⊢
      rw [smK_0, if_pos rfl] at hg
      have h00 : g 0 = 0 := by
        rw [ho 0 (Nat.two_pow_pos P)]
        rfl
      obtain ⟨q, q1, q2, q3⟩ := mxK_at (g := g) ht P hz
      have hq : q = z := by
        apply Classical.byContradiction
        intro e
        have := (tb_cm s h32 z hz5 q (by omega) ht q2 e).2.1
        rw [hA] at this
        rw [tb_lt 0 0 (by decide) q (by omega)] at this
        cases this
      rw [hq, hA] at q3
      omega
    · have hgA : g (s - 2 ^ z) = mxK g (s - 2 ^ z) P + if smK v (s - 2 ^ z) P = 0 then 1 else 0 := by
        rw [ho (s - 2 ^ z) (by omega)]
        unfold vlG
        rw [if_neg hA]
        split <;> omega
      obtain ⟨a, a1, a2⟩ := tb_ne (s - 2 ^ z) (by omega) hA
      obtain ⟨q, q1, q2, q3⟩ := mxK_at (g := g) ht P hz
      obtain ⟨r, r1, r2, r3⟩ := mxK_at (g := g) a2 P (tb_P (by omega) a2)
      have hge := mxK_ge (g := g) ht P hz
      have hr0 : tb s r = true ∧ ¬ r = z := by
        have := d2 r (by omega)
        rw [r2] at this
        have := this.symm
        simpa using this
      obtain ⟨m1, m2, m3⟩ := tb_cm s h32 z hz5 r (by omega) ht hr0.1 hr0.2
      have hrp : 0 < 2 ^ r := Nat.two_pow_pos r
      have hr4 := (tb_del s h32 r (by omega) hr0.1).1
      have hir := ih (s - 2 ^ r) (by omega) (by omega) m1
      rw [m3] at hir
      have hger := mxK_ge (g := g) hr0.1 P r1
      have hc1 : (if smK v (s - 2 ^ z) P = 0 then 1 else 0) ≤ 1 := by split <;> omega
      generalize (if smK v (s - 2 ^ z) P = 0 then 1 else 0) = c at hg hgA hc1
      by_cases hq : q = z
      · rw [hq] at q3
        omega
      · obtain ⟨n1, n2, n3⟩ := tb_cm s h32 z hz5 q (by omega) ht q2 hq
        have hqp : 0 < 2 ^ q := Nat.two_pow_pos q
        have hq4 := (tb_del s h32 q (by omega) q2).1
        have hiq := ih (s - 2 ^ q) (by omega) (by omega) n1
        rw [n3] at hiq
        have hgeq := mxK_ge (g := g) n2 P q1
        omega
-- the reference's way
def gL (v : Nat → Int32) (P : Nat) (gm : Nat → Nat) (s : Nat) : Nat → Nat
  | 0 => 1
  | k + 1 => if sbB (k + 1) s = true ∧ smK v (k + 1) P = 0 then max (gL v P gm s k) (1 + gm (s - (k + 1))) else gL v P gm s k
def gM (v : Nat → Int32) (P : Nat) : Nat → Nat → Nat
  | 0 => fun _ => 0
  | r + 1 => fun s => if s = 0 then 0 else gL v P (gM v P r) s (s - 1)
def pcN (s : Nat) : Nat := s % 2 + s / 2 % 2 + s / 4 % 2 + s / 8 % 2 + s / 16 % 2
theorem pcN_sub : ∀ s, s < 32 → ∀ t, t < 32 → sbB t s = true → ¬ t = 0 → pcN (s - t) < pcN s := by decide +kernel
theorem gL_le {v : Nat → Int32} {P s N : Nat} {gm : Nat → Nat} (h1 : 1 ≤ N) (h : ∀ t, 0 < t → t < s → sbB t s = true → smK v t P = 0 → 1 + gm (s - t) ≤ N) : ∀ k, k < s → gL v P gm s k ≤ N
  | 0, _ => h1
  | k + 1, hk => by
    have := gL_le h1 h k (by omega)
    rw [gL]
    split
    · rename_i q
      have := h (k + 1) (by omega) (by omega) q.1 q.2
      omega
    · exact this
theorem gL_ge {v : Nat → Int32} {P s t : Nat} {gm : Nat → Nat} (h1 : sbB t s = true) (h2 : smK v t P = 0) (h3 : 0 < t) : ∀ k, t ≤ k → 1 + gm (s - t) ≤ gL v P gm s k
  | 0, h => absurd h (by omega)
  | k + 1, h => by
    rw [gL]
    by_cases e : t = k + 1
    · subst e
      rw [if_pos ⟨h1, h2⟩]
      omega
    · have := gL_ge (gm := gm) h1 h2 h3 k (by omega)
      split <;> omega
theorem gL_1 {v : Nat → Int32} {P s : Nat} {gm : Nat → Nat} : ∀ k, 1 ≤ gL v P gm s k
  | 0 => Nat.le_refl _
  | k + 1 => by
    have := gL_1 (v := v) (P := P) (s := s) (gm := gm) k
    rw [gL]
    split <;> omega
theorem gM_eq {v : Nat → Int32} {P : Nat} {g : Nat → Nat} (hP : P ≤ 5) (ho : okG v P g) : ∀ r s, s < 2 ^ P → pcN s < r → smK v s P = 0 → gM v P r s = g s := by
  intro r
  induction r with
  | zero => intro s _ h _; omega
  | succ r ih =>
    intro s hs hr hz
    have h32 := p32 hP hs
    show (if s = 0 then 0 else _) = _
    by_cases h0 : s = 0
    · rw [if_pos h0, h0, ho 0 (Nat.two_pow_pos P)]
      rfl
    · rw [if_neg h0]
      have hsub : ∀ t, 0 < t → t < s → sbB t s = true → smK v t P = 0 → gM v P r (s - t) = g (s - t) ∧ smK v (s - t) P = 0 := by
        intro t t1 t2 t3 t4
        have hz2 : smK v (s - t) P = 0 := by
          have := smK_sub (v := v) h32 (by omega) t3 P hP
          rw [hz, t4, Int32.zero_add] at this
          exact this.symm
        have := pcN_sub s h32 t (by omega) t3 (by omega)
        exact ⟨ih (s - t) (by omega) (by omega) hz2, hz2⟩
      apply Nat.le_antisymm
      · refine gL_le ?_ (fun t t1 t2 t3 t4 => ?_) (s - 1) (by omega)
        · have := okG_up hP ho hs (t := 0) (by omega) (by
            have : ∀ s, s < 32 → sbB 0 s = true := by decide
            exact this s h32) (by omega) hz
          omega
        · rw [(hsub t t1 t2 t3 t4).1]
          have := okG_up hP ho hs (t := s - t) (by omega) (tb_sub s h32 t (by omega) t3).2.1 (by omega) hz
          omega
      · obtain ⟨t, k1, k2, k3, k4⟩ := okG_dn hP ho s hs h0
        rw [if_pos hz] at k4
        by_cases t0 : t = 0
        · rw [k4, t0, show g 0 = 0 by rw [ho 0 (Nat.two_pow_pos P)]; rfl]
          exact gL_1 _
        · have hst := (tb_sub s h32 t (by omega) k2).2.1
          have hz2 := (hsub t (by omega) k1 k2 k3).2
          have := gL_ge (gm := gM v P r) hst hz2 (by omega) (s - 1) (by omega)
          rw [show s - (s - t) = t by omega] at this
          have h2 := (hsub (s - t) (by omega) (by omega) hst hz2).1
          rw [show s - (s - t) = t by omega] at h2
          omega
