theorem knx_e {α β : Type} (a : α) (f : α → Option β) : knx a f = f a := Eq.trans (Eq.refl _) (Eq.refl _)
theorem kFU_big : 1000 < kFU := by
  show 1000 < 1000000
  omega
-- nets
def netK (S : kSt) (p : Nat) : Nat → Int32
  | 0 => 0
  | k + 1 => netK S p k + (S.1 61 (10 + 5 * k + p) - S.1 61 (10 + 5 * p + k))
def netI (S : kSt) (p : Nat) : Int32 := netK S p (gN S 57 2)
theorem netK_k {S T : kSt} (hk : keep S T) (p : Nat) : ∀ k, netK T p k = netK S p k
  | 0 => rfl
  | k + 1 => by rw [netK, netK, netK_k hk p k, hk.at (a := 61) rfl, hk.at (a := 61) rfl]
theorem netI_k {S T : kSt} (hk : keep S T) (p : Nat) : netI T p = netI S p := by
  unfold netI
  rw [netK_k hk, hk.gn (a := 57) rfl]
theorem m_debt {S : kSt} {p q : Nat} (hp : p < 5) (hq : q < 5) : f_m11_debtOf (nI p) (nI q) S = some (S.1 61 (10 + 5 * p + q), S) := by
  unfold f_m11_debtOf
  simp only [knx]
  rw [show (10 : Int32) + 5 * nI p + nI q = nI (10 + 5 * p + q) by rw [show (10 : Int32) = nI 10 from rfl, show (5 : Int32) = nI 5 from rfl, pk_mul, nI_add, nI_add], kgi_nI (by omega) (by omega), nI_clamp (by omega)]
theorem m_netL {S : kSt} (hm : mOk S) {p : Nat} (hp : p < 5) (K : Int32 → kSt → Option (Int32 × kSt)) : ∀ (j i fu : Nat), i + j = gN S 57 2 → j < fu → f_m11_netOf_L4 K (nI p) fu (netK S p i) (nI i) S = K (netI S p) S := by
  intro j
  have hP := hm.2.2.1.2.1
  have hP5 := hm.2.2.1.2.2
  induction j with
  | zero =>
    intro i fu hi hfu
    obtain ⟨fu, rfl⟩ : ∃ m, fu = m + 1 := ⟨fu - 1, by omega⟩
    rw [f_m11_netOf_L4, hP, if_pos (nI_le (by omega) (by omega))]
    unfold netI
    rw [show gN S 57 2 = i by omega]
  | succ j ih =>
    intro i fu hi hfu
    obtain ⟨fu, rfl⟩ : ∃ m, fu = m + 1 := ⟨fu - 1, by omega⟩
    rw [f_m11_netOf_L4, hP, if_neg (nI_ge (by omega) (by omega)), m_debt (by omega) hp]
    simp only [Option.bind_some, knx]
    rw [m_debt hp (by omega)]
    simp only [Option.bind_some]
    rw [nI_1]
    exact ih (i + 1) fu (by omega) (by omega)
theorem m_net {S : kSt} (hm : mOk S) {p : Nat} (hp : p < 5) : f_m11_netOf (nI p) S = some (netI S p, S) := by
  have hP5 := hm.2.2.1.2.2
  exact m_netL hm hp (fun x S => some (x, S)) (gN S 57 2) 0 kFU (by omega) (by show _ < 1000000; omega)
theorem c_reckI {S : kSt} (hc : cOk S) (hm : mOk S) {p : Nat} (hp : p < 5) (K : kSt → Option kSt) : ∀ (j i fu : Nat) (T : kSt), i + j = gN S 57 2 → j < fu → frc S T → T.1 10 0 = nI (gN S 57 2) → T.1 49 p = netK S p i → ∃ T', f_m0_reckon_L29 K (nI p) fu (nI i) T = K T' ∧ frc S T' ∧ T'.1 10 0 = nI (gN S 57 2) ∧ T'.1 49 p = netI S p ∧ ∀ q, q ≠ p → T'.1 49 q = T.1 49 q := by
  intro j
  have hP5 := hm.2.2.1.2.2
  induction j with
  | zero =>
    intro i fu T hi hfu hf h10 hv
    obtain ⟨fu, rfl⟩ : ∃ m, fu = m + 1 := ⟨fu - 1, by omega⟩
    rw [f_m0_reckon_L29, h10, if_pos (nI_le (by omega) (by omega))]
    refine ⟨T, rfl, hf, h10, ?_, fun _ _ => rfl⟩
    rw [hv]
    unfold netI
    rw [show gN S 57 2 = i by omega]
  | succ j ih =>
    intro i fu T hi hfu hf h10 hv
    obtain ⟨fu, rfl⟩ : ∃ m, fu = m + 1 := ⟨fu - 1, by omega⟩
    rw [f_m0_reckon_L29, h10, if_neg (nI_ge (by omega) (by omega)), kgi_nI (by omega) (by omega)]
    simp only [knx]
    rw [nI5m, kgi_nI (by omega) (by omega), nI5m, kgi_nI (by omega) (by omega), nI_clamp (by omega), nI_clamp (by omega), nI_clamp (by omega), kgi_nI (by omega) (by omega), nI_1, hv, hf 42 (by decide), (hc.2.2.2.1 (i * 5 + p) (by omega)).2, (hc.2.2.2.1 (p * 5 + i) (by omega)).2, show 10 + (i * 5 + p) = 10 + 5 * i + p by omega, show 10 + (p * 5 + i) = 10 + 5 * p + i by omega]
    obtain ⟨T2, g1, g2, g3, g4, g5⟩ := ih (i + 1) fu (kuI T 49 p (netK S p (i + 1))) (by omega) (by omega) (hf.u rfl _ _) (by rw [uI_get, if_neg (by omega)]; exact h10) (by rw [uI_get, if_pos ⟨rfl, rfl⟩])
    refine ⟨T2, g1, g2, g3, g4, fun q hq => ?_⟩
    rw [g5 q hq, uI_get, if_neg (fun z => hq z.2)]
theorem c_reckO {S : kSt} (hc : cOk S) (hm : mOk S) (K : kSt → Option kSt) : ∀ (j i fu : Nat) (T : kSt), i + j = gN S 57 2 → j < fu → frc S T → T.1 10 0 = nI (gN S 57 2) → (∀ p, p < i → T.1 49 p = netI S p) → ∃ T', f_m0_reckon_L11 K fu (nI i) T = K T' ∧ frc S T' ∧ T'.1 10 0 = nI (gN S 57 2) ∧ ∀ p, p < gN S 57 2 → T'.1 49 p = netI S p := by
  intro j
  have hP5 := hm.2.2.1.2.2
  induction j with
  | zero =>
    intro i fu T hi hfu hf h10 hv
    obtain ⟨fu, rfl⟩ : ∃ m, fu = m + 1 := ⟨fu - 1, by omega⟩
    rw [f_m0_reckon_L11, h10, if_pos (nI_le (by omega) (by omega))]
    exact ⟨T, rfl, hf, h10, fun p hp => hv p (by omega)⟩
  | succ j ih =>
    intro i fu T hi hfu hf h10 hv
    obtain ⟨fu, rfl⟩ : ∃ m, fu = m + 1 := ⟨fu - 1, by omega⟩
    have hFU : 1000 < kFU := kFU_big
    rw [f_m0_reckon_L11]
    generalize kFU = FU at hFU ⊢
    rw [h10, if_neg (nI_ge (by omega) (by omega)), kgi_nI (by omega) (by omega)]
    simp only [knx_e]
    rw [nI_clamp (by omega)]
    obtain ⟨T1, g1, g2, g3, g4, g5⟩ := c_reckI hc hm (p := i) (by omega) (fun S9 => f_m0_reckon_L11 K fu (nI i + 1) S9) (gN S 57 2) 0 FU (kuI T 49 i 0) (by omega) (by omega) (hf.u rfl _ _) (by rw [uI_get, if_neg (by omega)]; exact h10) (by rw [uI_get, if_pos ⟨rfl, rfl⟩]; rfl)
    rw [nI_0] at g1
    rw [g1, nI_1]
    refine ih (i + 1) fu T1 (by omega) (by omega) g2 g3 (fun p hp => ?_)
    by_cases hpi : p = i
    · subst hpi
      exact g4
    · rw [g5 p hpi, uI_get, if_neg (fun z => hpi z.2)]
      exact hv p (by omega)
theorem c_reckon {S : kSt} (hc : cOk S) (hm : mOk S) : ∃ T', f_m0_reckon (S.1 1 2) S = some T' ∧ frc S T' ∧ T'.1 10 0 = nI (gN S 57 2) ∧ ∀ p, p < gN S 57 2 → T'.1 49 p = netI S p := by
  have hP5 := hm.2.2.1.2.2
  unfold f_m0_reckon
  simp only [knx]
  rw [hc.pairs, hm.2.2.1.2.1, show (5 : Int32) = nI 5 from rfl, kmin_nI (by omega) (by omega), Nat.min_eq_left (by omega)]
  exact c_reckO hc hm (fun S => some S) (gN S 57 2) 0 kFU _ (by omega) (by show _ < 1000000; omega) (frc.rf.u rfl _ _) (by rw [uI_get, if_pos ⟨rfl, rfl⟩]) (fun p hp => absurd hp (by omega))
theorem b_net {S : kSt} (hc : cOk S) (hm : mOk S) {p : Nat} (hp : p < gN S 57 2) : Body (cb_net (nI p)) (mb_net (nI p)) S := by
  have h5 := p5 hm hp
  refine body_c (netI S p) ?_ (fun T hk => ?_)
  · obtain ⟨T, e1, e2, e3, e4⟩ := c_reckon hc hm
    refine ⟨T, ?_, e2⟩
    unfold cb_net
    rw [e1]
    simp only [Option.bind_some]
    rw [kgi_nI (by omega) (by omega), nI_clamp (by omega), e4 p hp]
  · unfold mb_net
    rw [m_net (hk.mk.mpr hm) h5, netI_k hk]
    rfl
def dueK (S : kSt) : Nat → Int32
  | 0 => 0
  | k + 1 => dueK S k + (if netI S k ≤ 0 then 0 else netI S k)
theorem dueK_k {S T : kSt} (hk : keep S T) : ∀ k, dueK T k = dueK S k
  | 0 => rfl
  | k + 1 => by rw [dueK, dueK, dueK_k hk k, netI_k hk]
theorem kmax0 (x : Int32) : kmax 0 x = if x ≤ 0 then 0 else x := by
  unfold kmax
  by_cases h : x ≤ 0
  · rw [if_pos h, if_neg (Int32.not_lt.mpr h)]
  · rw [if_neg h, if_pos (Int32.not_le.mp h)]
theorem c_dueL {S T : kSt} (hm : mOk S) (h10 : T.1 10 0 = nI (gN S 57 2)) (hv : ∀ p, p < gN S 57 2 → T.1 49 p = netI S p) (K : Int32 → kSt → Option (Int32 × kSt)) : ∀ (j i fu : Nat), i + j = gN S 57 2 → j < fu → f_m0_owedInAll_L4 K fu (dueK S i) (nI i) T = K (dueK S (gN S 57 2)) T := by
  intro j
  have hP5 := hm.2.2.1.2.2
  induction j with
  | zero =>
    intro i fu hi hfu
    obtain ⟨fu, rfl⟩ : ∃ m, fu = m + 1 := ⟨fu - 1, by omega⟩
    rw [f_m0_owedInAll_L4, h10, if_pos (nI_le (by omega) (by omega)), show gN S 57 2 = i by omega]
  | succ j ih =>
    intro i fu hi hfu
    obtain ⟨fu, rfl⟩ : ∃ m, fu = m + 1 := ⟨fu - 1, by omega⟩
    rw [f_m0_owedInAll_L4, h10, if_neg (nI_ge (by omega) (by omega)), kgi_nI (by omega) (by omega), nI_clamp (by omega)]
    simp only [knx]
    rw [hv i (by omega), kmax0, nI_1]
    exact ih (i + 1) fu (by omega) (by omega)
theorem m_dueL {S : kSt} (hm : mOk S) (K : Int32 → kSt → Option (Int32 × kSt)) : ∀ (j i fu : Nat), i + j = gN S 57 2 → j < fu → f_m11_due_L21 K fu (dueK S i) (nI i) S = K (dueK S (gN S 57 2)) S := by
  intro j
  have hP := hm.2.2.1.2.1
  have hP5 := hm.2.2.1.2.2
  induction j with
  | zero =>
    intro i fu hi hfu
    obtain ⟨fu, rfl⟩ : ∃ m, fu = m + 1 := ⟨fu - 1, by omega⟩
    rw [f_m11_due_L21, hP, if_pos (nI_le (by omega) (by omega)), show gN S 57 2 = i by omega]
  | succ j ih =>
    intro i fu hi hfu
    obtain ⟨fu, rfl⟩ : ∃ m, fu = m + 1 := ⟨fu - 1, by omega⟩
    rw [f_m11_due_L21, hP, if_neg (nI_ge (by omega) (by omega)), m_net hm (by omega)]
    simp only [Option.bind_some, knx]
    rw [m_net hm (by omega)]
    simp only [Option.bind_some]
    rw [nI_1, ← ih (i + 1) fu (by omega) (by omega), dueK]
    by_cases h : netI S i ≤ 0
    · rw [if_pos h, if_pos h]
    · rw [if_neg h, if_neg h]
theorem b_due {S : kSt} (hc : cOk S) (hm : mOk S) : Body cb_due mb_due S := by
  have hP5 := hm.2.2.1.2.2
  refine body_c (dueK S (gN S 57 2)) ?_ (fun T hk => ?_)
  · obtain ⟨T, e1, e2, e3, e4⟩ := c_reckon hc hm
    refine ⟨T, ?_, e2⟩
    unfold cb_due f_m0_owedInAll
    rw [e1]
    simp only [Option.bind_some]
    rw [show f_m0_owedInAll_L4 (fun x4 S5 => some (x4, S5)) kFU 0 0 T = _ from c_dueL hm e3 e4 (fun x S => some (x, S)) (gN S 57 2) 0 kFU (by omega) (by show _ < 1000000; omega)]
    rfl
  · have := m_dueL (hk.mk.mpr hm) (fun x S => some (x, S)) (gN S 57 2) 0 kFU (by rw [hk.gn (a := 57) rfl]; omega) (by show _ < 1000000; omega)
    rw [hk.gn (a := 57) rfl, dueK_k hk (gN S 57 2)] at this
    exact this
def crB (S : kSt) (a b : Nat) : Bool := decide (netI S a ≤ netI S b)
theorem m_creL {S : kSt} (hm : mOk S) (K : Int32 → kSt → Option (Int32 × kSt)) : ∀ (j i fu : Nat), i + 1 + j = gN S 57 2 → j < fu → f_m11_creditor_L21 K fu (nI (bstB (crB S) i)) (nI (i + 1)) S = K (nI (bstB (crB S) (gN S 57 2 - 1))) S := by
  intro j
  have hP := hm.2.2.1.2.1
  have hP5 := hm.2.2.1.2.2
  induction j with
  | zero =>
    intro i fu hi hfu
    obtain ⟨fu, rfl⟩ : ∃ m, fu = m + 1 := ⟨fu - 1, by omega⟩
    rw [f_m11_creditor_L21, hP, if_pos (nI_le (by omega) (by omega)), show gN S 57 2 - 1 = i by omega]
  | succ j ih =>
    intro i fu hi hfu
    obtain ⟨fu, rfl⟩ : ∃ m, fu = m + 1 := ⟨fu - 1, by omega⟩
    have hb := bstB_le (crB S) i
    rw [f_m11_creditor_L21, hP, if_neg (nI_ge (by omega) (by omega)), m_net hm (by omega)]
    simp only [Option.bind_some, knx]
    rw [m_net hm (by omega)]
    simp only [Option.bind_some]
    rw [nI_1, ← ih (i + 1) fu (by omega) (by omega), bstB]
    show _ = f_m11_creditor_L21 K fu (nI (if decide (netI S (i + 1) ≤ netI S (bstB (crB S) i)) = true then _ else _)) _ S
    by_cases h : netI S (i + 1) ≤ netI S (bstB (crB S) i)
    · rw [if_pos h, if_pos (decide_eq_true h)]
    · rw [if_neg h, if_neg (by simpa using h)]
theorem b_creditor {S : kSt} (hc : cOk S) (hm : mOk S) : Body cb_creditor mb_creditor S := by
  have hP1 := hm.2.2.1.1
  have hP5 := hm.2.2.1.2.2
  refine body_c (nI (bstB (crB S) (gN S 57 2 - 1))) ?_ (fun T hk => ?_)
  · obtain ⟨T, e1, e2, e3, e4⟩ := c_reckon hc hm
    refine ⟨T, ?_, e2⟩
    unfold cb_creditor
    rw [e1]
    simp only [Option.bind_some]
    rw [e2 1 (by decide), hc.pairs, hm.2.2.1.2.1, c_first hP5 hP1]
    simp only [Option.bind_some]
    rw [bstB_c (l2 := crB S) (N := gN S 57 2 - 1) (fun a b ha hb => ?_) _ (Nat.le_refl _)]
    unfold crB
    rw [e4 a (by omega), e4 b (by omega)]
  · have := m_creL (hk.mk.mpr hm) (fun x S => some (x, S)) (gN S 57 2 - 1) 0 kFU (by rw [hk.gn (a := 57) rfl]; omega) (by show _ < 1000000; omega)
    rw [show crB T = crB S from funext fun a => funext fun b => by unfold crB; rw [netI_k hk, netI_k hk], hk.gn (a := 57) rfl] at this
    exact this
