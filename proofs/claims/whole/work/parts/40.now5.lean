-- the class's scratch
def csc (a : Nat) : Bool := (6 ≤ a && a < 14) || a == 16 || (44 ≤ a && a < 55)
def frc (S T : kSt) : Prop := ∀ a, csc a = false → T.1 a = S.1 a
theorem frc.rf {S : kSt} : frc S S := fun _ _ => rfl
theorem frc.tr {S T U : kSt} (h1 : frc S T) (h2 : frc T U) : frc S U := fun a h => (h2 a h).trans (h1 a h)
theorem csc_kpc : ∀ a, kpc a = true → csc a = false := by
  intro a h
  cases hc : csc a
  · rfl
  · exfalso
    have hl : a < 55 := by
      simp only [csc, Bool.or_eq_true, Bool.and_eq_true, decide_eq_true_eq, beq_iff_eq] at hc
      omega
    have : ∀ a, a < 55 → csc a = true → kpc a = false := by decide +kernel
    rw [this a hl hc] at h
    cases h
theorem frc.kp {S T : kSt} (h : frc S T) : keep S T ∧ T.1 0 18 = S.1 0 18 := by
  have e0 := h 0 (by decide)
  have e3 := h 3 (by decide)
  have e14 := h 14 (by decide)
  refine ⟨⟨fun a ha => h a (csc_kpc a ha), ?_, ?_, ?_⟩, by rw [e0]⟩
  · rw [e0]; exact ⟨rfl, rfl, rfl⟩
  · rw [e3]; exact ⟨rfl, rfl⟩
  · rw [e14]; exact ⟨rfl, rfl, rfl, rfl, rfl, rfl⟩
theorem frm.c {w : Nat} {S T : kSt} (h : frm w S T) (hw : csc w = true) : frc S T := fun a ha => h.1 a (fun q => by rw [q, hw] at ha; cases ha)
theorem frc.u {S T : kSt} (h : frc S T) {k : Nat} (hk : csc k = true) (j : Nat) (x : Int32) : frc S (kuI T k j x) := fun a ha => by
  rw [kuI_ne T j x (fun q => by rw [q, hk] at ha; cases ha)]
  exact h a ha
theorem body_c {ρ : Type} {cb mb : kSt → Option (ρ × kSt)} {S : kSt} (r : ρ) (hc : ∃ S1, cb S = some (r, S1) ∧ frc S S1) (hm : ∀ T, keep S T → mb T = some (r, T)) : Body cb mb S := by
  obtain ⟨S1, h1, h2⟩ := hc
  exact ⟨r, ⟨S1, h1, h2.kp⟩, fun T hk => ⟨T, hm T hk, keep.rf, rfl, rfl⟩⟩
theorem cOk.pairs {S : kSt} (h : cOk S) : S.1 1 2 = S.1 57 2 := h.1 2 (by omega)
theorem cOk.words {S : kSt} (h : cOk S) : S.1 1 0 = S.1 57 0 := h.1 0 (by omega)
theorem c_allL {S : kSt} (hc : cOk S) (hm : mOk S) {n : Nat} (hn : n ≤ 60) (K : kSt → Option kSt) : ∀ (j i fu : Nat) (T : kSt), i + j = gN S 57 2 → j < fu → frc S T → (∀ p, p < i → T.1 16 p = nI (sayS S p n)) → ∃ T', f_m10_sayAllBehind_L2 K (nI n) fu (nI i) T = K T' ∧ frc S T' ∧ ∀ p, p < gN S 57 2 → T'.1 16 p = nI (sayS S p n) := by
  intro j
  have hP := hm.2.2.1.2.1
  have hP5 := hm.2.2.1.2.2
  induction j with
  | zero =>
    intro i fu T hi hfu hf hv
    obtain ⟨fu, rfl⟩ : ∃ m, fu = m + 1 := ⟨fu - 1, by omega⟩
    rw [f_m10_sayAllBehind_L2, hf 1 (by decide), hc.pairs, hP, if_pos (nI_le (by omega) (by omega))]
    exact ⟨T, rfl, hf, fun p hp => hv p (by omega)⟩
  | succ j ih =>
    intro i fu T hi hfu hf hv
    obtain ⟨fu, rfl⟩ : ∃ m, fu = m + 1 := ⟨fu - 1, by omega⟩
    have hk := hf.kp.1
    rw [f_m10_sayAllBehind_L2, hf 1 (by decide), hc.pairs, hP, if_neg (nI_ge (by omega) (by omega))]
    obtain ⟨T1, e1, e2⟩ := c_saying (hk.ck.mpr hc) (hk.mk.mpr hm) (p := i) (N := n) (by rw [hk.gn (a := 57) rfl]; omega) (by omega)
    rw [e1]
    simp only [Option.bind_some, knx]
    rw [kgi_nI (by omega) (by omega), nI_clamp (by omega), nI_1, sayS_k hk]
    refine ih (i + 1) fu _ (by omega) (by omega) ((hf.tr (e2.c rfl)).u rfl _ _) (fun p hp => ?_)
    rw [uI_get]
    by_cases hpi : p = i
    · subst hpi
      rw [if_pos ⟨rfl, rfl⟩]
    · rw [if_neg (fun q => hpi q.2), e2.1 16 (by decide)]
      exact hv p (by omega)
theorem c_all {S : kSt} (hc : cOk S) (hm : mOk S) {n : Nat} (hn : n ≤ 60) : ∃ T', f_m10_sayAllBehind (nI n) S = some T' ∧ frc S T' ∧ ∀ p, p < gN S 57 2 → T'.1 16 p = nI (sayS S p n) := by
  have hP5 := hm.2.2.1.2.2
  exact c_allL hc hm hn (fun S => some S) (gN S 57 2) 0 kFU S (by omega) (by show _ < 1000000; omega) frc.rf (fun p hp => absurd hp (by omega))
-- the first of the greatest
def bstB (le : Nat → Nat → Bool) : Nat → Nat
  | 0 => 0
  | k + 1 => if le (k + 1) (bstB le k) then bstB le k else k + 1
theorem bstB_le (le : Nat → Nat → Bool) : ∀ k, bstB le k ≤ k
  | 0 => Nat.le_refl _
  | k + 1 => by
    have := bstB_le le k
    rw [bstB]
    split <;> omega
theorem bstB_c {l1 l2 : Nat → Nat → Bool} {N : Nat} (h : ∀ a b, a ≤ N → b ≤ N → l1 a b = l2 a b) : ∀ k, k ≤ N → bstB l1 k = bstB l2 k
  | 0, _ => rfl
  | k + 1, hk => by
    rw [bstB, bstB, bstB_c h k (by omega), h (k + 1) _ hk (Nat.le_trans (bstB_le _ _) (by omega))]
theorem c_firstL {T : kSt} {w P : Nat} (hP : P ≤ 5) (K : Int32 → kSt → Option (Int32 × kSt)) : ∀ (j i fu : Nat), i + 1 + j = P → j < fu → f_m10_firstMost_L4 w K (nI P) fu (nI (bstB (fun a b => decide (T.1 w a ≤ T.1 w b)) i)) (nI (i + 1)) T = K (nI (bstB (fun a b => decide (T.1 w a ≤ T.1 w b)) (P - 1))) T := by
  intro j
  induction j with
  | zero =>
    intro i fu hi hfu
    obtain ⟨fu, rfl⟩ : ∃ m, fu = m + 1 := ⟨fu - 1, by omega⟩
    rw [f_m10_firstMost_L4, if_pos (nI_le (by omega) (by omega)), show P - 1 = i by omega]
  | succ j ih =>
    intro i fu hi hfu
    obtain ⟨fu, rfl⟩ : ∃ m, fu = m + 1 := ⟨fu - 1, by omega⟩
    have hb := bstB_le (fun a b => decide (T.1 w a ≤ T.1 w b)) i
    rw [f_m10_firstMost_L4, if_neg (nI_ge (by omega) (by omega)), if_neg (show ¬ Int32.ofNat 5 ≤ nI (i + 1) from nI_ge (by omega) (by omega)), kgi_nI (by omega) (by omega), kgi_nI (by omega) (by omega)]
    simp only [knx]
    rw [nI_clamp (by omega), nI_clamp (by omega), nI_1, ← ih (i + 1) fu (by omega) (by omega), bstB]
    by_cases h : T.1 w (i + 1) ≤ T.1 w (bstB (fun a b => decide (T.1 w a ≤ T.1 w b)) i)
    · rw [if_pos h, if_pos (decide_eq_true h)]
    · rw [if_neg h, if_neg (by simpa using h)]
theorem c_first {T : kSt} {w P : Nat} (hP : P ≤ 5) (h1 : 1 ≤ P) : f_m10_firstMost w (nI P) T = some (nI (bstB (fun a b => decide (T.1 w a ≤ T.1 w b)) (P - 1)), T) :=
  c_firstL hP (fun x S => some (x, S)) (P - 1) 0 kFU (by omega) (by show _ < 1000000; omega)
def ldB (S : kSt) (n a b : Nat) : Bool := decide (sayS S a n ≤ sayS S b n)
theorem m_loudL {S : kSt} (hm : mOk S) {n : Nat} (hn : n ≤ 60) (K : Int32 → kSt → Option (Int32 × kSt)) : ∀ (j i fu : Nat), i + 1 + j = gN S 57 2 → j < fu → f_m11_loudest_L29 K (nI n) fu (nI (bstB (ldB S n) i)) (nI (i + 1)) S = K (nI (bstB (ldB S n) (gN S 57 2 - 1))) S := by
  intro j
  have hP := hm.2.2.1.2.1
  have hP5 := hm.2.2.1.2.2
  induction j with
  | zero =>
    intro i fu hi hfu
    obtain ⟨fu, rfl⟩ : ∃ m, fu = m + 1 := ⟨fu - 1, by omega⟩
    rw [f_m11_loudest_L29, hP, if_pos (nI_le (by omega) (by omega)), show gN S 57 2 - 1 = i by omega]
  | succ j ih =>
    intro i fu hi hfu
    obtain ⟨fu, rfl⟩ : ∃ m, fu = m + 1 := ⟨fu - 1, by omega⟩
    have hb := bstB_le (ldB S n) i
    have b1 := sayS_le hm (show i + 1 < 5 by omega) n
    have b2 := sayS_le hm (show bstB (ldB S n) i < 5 by omega) n
    have b3 := hm.1.2.2
    rw [f_m11_loudest_L29, hP, if_neg (nI_ge (by omega) (by omega)), m_saysIn hm (by omega) (by omega)]
    simp only [Option.bind_some, knx]
    rw [m_saysIn hm (by omega) (by omega)]
    simp only [Option.bind_some]
    rw [kite (nI_leI (by omega) (by omega)), nI_1, ← ih (i + 1) fu (by omega) (by omega), bstB]
    show _ = f_m11_loudest_L29 K (nI n) fu (nI (if decide (sayS S (i + 1) n ≤ sayS S (bstB (ldB S n) i) n) = true then _ else _)) _ S
    by_cases h : sayS S (i + 1) n ≤ sayS S (bstB (ldB S n) i) n
    · rw [if_pos h, if_pos (decide_eq_true h)]
    · rw [if_neg h, if_neg (by simpa using h)]
theorem b_loudest {S : kSt} (hc : cOk S) (hm : mOk S) {n : Nat} (hn : n ≤ 60) : Body (cb_loudest (nI n)) (mb_loudest (nI n)) S := by
  have hP1 := hm.2.2.1.1
  have hP5 := hm.2.2.1.2.2
  refine body_c (nI (bstB (ldB S n) (gN S 57 2 - 1))) ?_ (fun T hk => ?_)
  · obtain ⟨T, e1, e2, e3⟩ := c_all hc hm hn
    refine ⟨T, ?_, e2⟩
    unfold cb_loudest
    rw [e1]
    simp only [Option.bind_some]
    rw [e2 1 (by decide), hc.pairs, hm.2.2.1.2.1, c_first hP5 hP1]
    simp only [Option.bind_some]
    rw [bstB_c (l2 := ldB S n) (N := gN S 57 2 - 1) (fun a b ha hb => ?_) _ (Nat.le_refl _)]
    unfold ldB
    have b1 := sayS_le hm (show a < 5 by omega) n
    have b2 := sayS_le hm (show b < 5 by omega) n
    have b3 := hm.1.2.2
    rw [e3 a (by omega), e3 b (by omega)]
    exact decide_eq_decide.mpr (nI_leI (by omega) (by omega))
  · unfold mb_loudest
    have := m_loudL (hk.mk.mpr hm) hn (fun x S => some (x, S)) (gN S 57 2 - 1) 0 kFU (by rw [hk.gn (a := 57) rfl]; omega) (by show _ < 1000000; omega)
    rw [show ldB T n = ldB S n from funext fun a => funext fun b => by unfold ldB; rw [sayS_k hk, sayS_k hk], hk.gn (a := 57) rfl] at this
    exact this
-- sums
def smA (S : kSt) (n : Nat) : Nat → Nat
  | 0 => 0
  | k + 1 => smA S n k + sayS S k n
theorem smA_k {S T : kSt} (hk : keep S T) (n : Nat) : ∀ k, smA T n k = smA S n k
  | 0 => rfl
  | k + 1 => by rw [smA, smA, smA_k hk n k, sayS_k hk]
theorem c_sumL {S T : kSt} (hc : cOk S) (hm : mOk S) {n : Nat} (hf : frc S T) (hv : ∀ p, p < gN S 57 2 → T.1 16 p = nI (sayS S p n)) (K : Int32 → kSt → Option (Int32 × kSt)) : ∀ (j i fu : Nat), i + j = gN S 57 2 → j < fu → f_m10_sumAll_L28 K fu (nI (smA S n i)) (nI i) T = K (nI (smA S n (gN S 57 2))) T := by
  intro j
  have hP := hm.2.2.1.2.1
  have hP5 := hm.2.2.1.2.2
  induction j with
  | zero =>
    intro i fu hi hfu
    obtain ⟨fu, rfl⟩ : ∃ m, fu = m + 1 := ⟨fu - 1, by omega⟩
    rw [f_m10_sumAll_L28, hf 1 (by decide), hc.pairs, hP, if_pos (nI_le (by omega) (by omega)), show gN S 57 2 = i by omega]
  | succ j ih =>
    intro i fu hi hfu
    obtain ⟨fu, rfl⟩ : ∃ m, fu = m + 1 := ⟨fu - 1, by omega⟩
    rw [f_m10_sumAll_L28, hf 1 (by decide), hc.pairs, hP, if_neg (nI_ge (by omega) (by omega)), kgi_nI (by omega) (by omega), nI_clamp (by omega)]
    simp only [knx]
    rw [hv i (by omega), nI_add, nI_1]
    exact ih (i + 1) fu (by omega) (by omega)
theorem m_sumL {S : kSt} (hm : mOk S) {n : Nat} (hn : n ≤ 60) (K : Int32 → kSt → Option (Int32 × kSt)) : ∀ (j i fu : Nat), i + j = gN S 57 2 → j < fu → f_m11_sumAll_L29 K (nI n) fu (nI (smA S n i)) (nI i) S = K (nI (smA S n (gN S 57 2))) S := by
  intro j
  have hP := hm.2.2.1.2.1
  have hP5 := hm.2.2.1.2.2
  induction j with
  | zero =>
    intro i fu hi hfu
    obtain ⟨fu, rfl⟩ : ∃ m, fu = m + 1 := ⟨fu - 1, by omega⟩
    rw [f_m11_sumAll_L29, hP, if_pos (nI_le (by omega) (by omega)), show gN S 57 2 = i by omega]
  | succ j ih =>
    intro i fu hi hfu
    obtain ⟨fu, rfl⟩ : ∃ m, fu = m + 1 := ⟨fu - 1, by omega⟩
    rw [f_m11_sumAll_L29, hP, if_neg (nI_ge (by omega) (by omega)), m_saysIn hm (by omega) (by omega)]
    simp only [Option.bind_some, knx]
    rw [nI_add, nI_1]
    exact ih (i + 1) fu (by omega) (by omega)
theorem b_sumAll {S : kSt} (hc : cOk S) (hm : mOk S) {n : Nat} (hn : n ≤ 60) : Body (cb_sumAll (nI n)) (mb_sumAll (nI n)) S := by
  have hP5 := hm.2.2.1.2.2
  refine body_c (nI (smA S n (gN S 57 2))) ?_ (fun T hk => ?_)
  · obtain ⟨T, e1, e2, e3⟩ := c_all hc hm hn
    refine ⟨T, ?_, e2⟩
    unfold cb_sumAll
    rw [e1]
    exact c_sumL hc hm e2 e3 (fun x S => some (x, S)) (gN S 57 2) 0 kFU (by omega) (by show _ < 1000000; omega)
  · have := m_sumL (hk.mk.mpr hm) hn (fun x S => some (x, S)) (gN S 57 2) 0 kFU (by rw [hk.gn (a := 57) rfl]; omega) (by show _ < 1000000; omega)
    rw [hk.gn (a := 57) rfl, smA_k hk n (gN S 57 2)] at this
    exact this
