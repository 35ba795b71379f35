-- payments
theorem shl5 : ∀ u, u ≤ 5 → (1 : Int32) <<< (nI u &&& 31) = nI (2 ^ u) := by decide +kernel
theorem xorD : ∀ s, s < 32 → ∀ p, p < 5 → tb s p = true → nI s ^^^ (1 <<< (nI p &&& 31)) = nI (s - 2 ^ p) := by decide +kernel
theorem vlG_le {v : Nat → Int32} {P : Nat} {g : Nat → Nat} {s : Nat} (hs : s < 32) (hP : P ≤ 5) (hg : ∀ t, t < s → g t ≤ t) : mxK g s P ≤ s - 1 ∧ vlG v P g s ≤ s := by
  have h : ∀ k, k ≤ 5 → mxK g s k ≤ s - 1 := by
    intro k
    induction k with
    | zero => intro _; exact Nat.zero_le _
    | succ k ih =>
      intro hk
      have h0 := ih (by omega)
      rw [mxK]
      cases ht : tb s k
      · rw [if_neg (by decide)]; exact h0
      · have h1 := (tb_del s hs k (by omega) ht).1
        have h2 : 0 < 2 ^ k := Nat.two_pow_pos k
        have h3 := hg (s - 2 ^ k) (by omega)
        rw [if_pos rfl]
        omega
  have h1 := h P hP
  refine ⟨h1, ?_⟩
  unfold vlG
  split
  · omega
  · split <;> omega
theorem mxK_le {g : Nat → Nat} {s : Nat} (hs : s < 32) (hg : ∀ t, t < s → g t ≤ t) : ∀ k, k ≤ 5 → mxK g s k ≤ 32 := by
  intro k hk
  have := (vlG_le (v := fun _ => 0) hs hk hg).1
  omega
theorem tbG_le {v : Nat → Int32} {P : Nat} (hP : P ≤ 5) : ∀ n, n ≤ 32 → ∀ s, tbG v P n s ≤ s
  | 0, _, s => Nat.zero_le _
  | n + 1, hn, s => by
    show (if s = n then _ else _) ≤ s
    by_cases h : s = n
    · rw [if_pos h, h]
      exact (vlG_le (by omega) hP (fun t _ => tbG_le hP n (by omega) t)).2
    · rw [if_neg h]
      exact tbG_le hP n (by omega) s
def pyT (v : Nat → Int32) (P n : Nat) (T : kSt) : Prop := T.1 10 0 = nI P ∧ (∀ p, p < P → T.1 49 p = v p) ∧ ∀ s, s < n → T.1 50 s = smK v s P ∧ T.1 51 s = nI (tbG v P n s)
theorem c_payI {S : kSt} {v : Nat → Int32} {P n : Nat} (hP : P ≤ 5) (hn : n < 32) (h0 : 0 < n) (K : Int32 → kSt → Option (Int32 × kSt)) (c1 : Int32) : ∀ (j i fu : Nat) (T : kSt), i + j = P → j < fu → frc S T → pyT v P n T → ((∃ p, p < i ∧ tb n p = true) → T.1 50 n = smK v n P) → ∃ T', f_m0_fewestPayments_L35 K c1 (nI n) fu (nI (mxK (tbG v P n) n i)) (nI i) T = K (nI (mxK (tbG v P n) n P)) T' ∧ frc S T' ∧ pyT v P n T' ∧ ((∃ p, p < P ∧ tb n p = true) → T'.1 50 n = smK v n P) := by
  intro j
  induction j with
  | zero =>
    intro i fu T hi hfu hf hy hz
    obtain ⟨fu, rfl⟩ : ∃ m, fu = m + 1 := ⟨fu - 1, by omega⟩
    rw [f_m0_fewestPayments_L35, hy.1, if_pos (nI_le (by omega) (by omega)), show i = P by omega]
    rw [show i = P by omega] at hz
    exact ⟨T, rfl, hf, hy, hz⟩
  | succ j ih =>
    intro i fu T hi hfu hf hy hz
    obtain ⟨fu, rfl⟩ : ∃ m, fu = m + 1 := ⟨fu - 1, by omega⟩
    rw [f_m0_fewestPayments_L35, hy.1, if_neg (nI_ge (by omega) (by omega)), tb_bit n (by omega) i (by omega)]
    simp only [knx_e]
    rw [nI_1, show (0 : Int32) = nI 0 from rfl, kite (nI_eq (show n / 2 ^ i % 2 < 2 ^ 31 by omega) (by omega))]
    cases ht : tb n i
    · have h1 : n / 2 ^ i % 2 = 0 := by
        unfold tb at ht
        have := of_decide_eq_false ht
        omega
      rw [if_pos h1]
      have := ih (i + 1) fu T (by omega) (by omega) hf hy (fun ⟨p, p1, p2⟩ => hz ⟨p, by
        by_cases e : p = i
        · rw [e, ht] at p2
          cases p2
        · omega, p2⟩)
      rw [mxK, ht] at this
      exact this
    · have h1 : ¬ n / 2 ^ i % 2 = 0 := by
        unfold tb at ht
        have := of_decide_eq_true ht
        omega
      have hd := (tb_del n hn i (by omega) ht).1
      have hip : 0 < 2 ^ i := Nat.two_pow_pos i
      rw [if_neg h1, xorD n hn i (by omega) ht, kgi_nI (by omega) (by omega), kgi_nI (by omega) (by omega), kgi_nI (by omega) (by omega), kgi_nI (by omega) (by omega), nI_clamp (by omega), nI_clamp (by omega), nI_clamp (by omega), (hy.2.2 (n - 2 ^ i) (by omega)).1, hy.2.1 i (by omega), kuI_ne _ _ _ (by decide), (hy.2.2 (n - 2 ^ i) (by omega)).2]
      have hl1 := mxK_le hn (fun t _ => tbG_le (v := v) hP n (by omega) t) i (by omega)
      have hl2 := tbG_le (v := v) hP n (by omega) (n - 2 ^ i)
      rw [kmax_nI (by omega) (by omega)]
      have hs : smK v (n - 2 ^ i) P + v i = smK v n P := by
        rw [smK_del hn (by omega) ht P hP, if_pos (by omega)]
      rw [hs]
      have := ih (i + 1) fu (kuI T 50 n (smK v n P)) (by omega) (by omega) (hf.u rfl _ _) ⟨by rw [uI_get, if_neg (by omega)]; exact hy.1, fun p hp => by rw [uI_get, if_neg (by omega)]; exact hy.2.1 p hp, fun s hs => by
        rw [uI_get, if_neg (by omega), kuI_ne _ _ _ (by decide)]
        exact hy.2.2 s hs⟩ (fun _ => by rw [uI_get, if_pos ⟨rfl, rfl⟩])
      rw [mxK, ht] at this
      exact this
theorem c_payO {S : kSt} {v : Nat → Int32} {P : Nat} (hP : P ≤ 5) (K : kSt → Option (Int32 × kSt)) : ∀ (j n fu : Nat) (T : kSt), n + j = 2 ^ P → j < fu → 0 < n → frc S T → pyT v P n T → ∃ T', f_m0_fewestPayments_L25 K (nI (2 ^ P - 1)) fu (nI n) T = K T' ∧ frc S T' ∧ pyT v P (2 ^ P) T' := by
  intro j
  have h32 : 2 ^ P ≤ 32 := by
    have : ∀ P, P ≤ 5 → 2 ^ P ≤ 32 := by decide
    exact this P hP
  induction j with
  | zero =>
    intro n fu T hi hfu h0 hf hy
    obtain ⟨fu, rfl⟩ : ∃ m, fu = m + 1 := ⟨fu - 1, by omega⟩
    rw [f_m0_fewestPayments_L25, if_pos (nI_lt (by omega) (by omega)), show 2 ^ P = n by omega]
    exact ⟨T, rfl, hf, hy⟩
  | succ j ih =>
    intro n fu T hi hfu h0 hf hy
    obtain ⟨fu, rfl⟩ : ∃ m, fu = m + 1 := ⟨fu - 1, by omega⟩
    have hFU := kFU_big
    rw [f_m0_fewestPayments_L25]
    generalize kFU = FU at hFU ⊢
    rw [if_neg (nI_nlt (by omega) (by omega))]
    simp only [knx_e]
    obtain ⟨T1, e1, e2, e3, e4⟩ := c_payI (S := S) hP (show n < 32 by omega) h0 (fun x13 S14 => kgi (nI n) 32 (kgi (nI n) 32 (f_m0_fewestPayments_L25 K (nI (2 ^ P - 1)) fu (nI n + 1) (kuI S14 51 (nI n).toNatClampNeg (if S14.1 50 (nI n).toNatClampNeg = 0 then x13 + 1 else x13))))) (nI (2 ^ P - 1)) P 0 FU T (by omega) (by omega) hf hy (fun ⟨p, p1, _⟩ => absurd p1 (by omega))
    have e0 : mxK (tbG v P n) n 0 = 0 := rfl
    rw [e0, nI_0] at e1
    rw [e1, kgi_nI (by omega) (by omega), kgi_nI (by omega) (by omega), nI_clamp (by omega), nI_1]
    obtain ⟨p, p1, p2⟩ := tb_ne n (by omega) (by omega)
    rw [e4 ⟨p, tb_P (by omega) p2, p2⟩]
    have hv : (if smK v n P = 0 then nI (mxK (tbG v P n) n P) + 1 else nI (mxK (tbG v P n) n P)) = nI (tbG v P (n + 1) n) := by
      rw [tbG]
      show _ = nI (if n = n then _ else _)
      rw [if_pos rfl]
      unfold vlG
      rw [if_neg (show ¬ n = 0 by omega)]
      by_cases hz : smK v n P = 0
      · rw [if_pos hz, if_pos hz, nI_1]
      · rw [if_neg hz, if_neg hz]
    rw [hv]
    refine ih (n + 1) fu _ (by omega) (by omega) (by omega) (e2.u rfl _ _) ⟨by rw [uI_get, if_neg (by omega)]; exact e3.1, fun p hp => by rw [uI_get, if_neg (by omega)]; exact e3.2.1 p hp, fun s hs => ?_⟩
    rw [kuI_ne _ _ _ (by decide), uI_get]
    by_cases h : s = n
    · subst h
      rw [if_pos ⟨rfl, rfl⟩]
      exact ⟨e4 ⟨p, tb_P (by omega) p2, p2⟩, rfl⟩
    · rw [if_neg (fun q => h q.2)]
      obtain ⟨a1, a2⟩ := e3.2.2 s (by omega)
      refine ⟨a1, ?_⟩
      rw [a2, tbG]
      show _ = nI (if s = n then _ else _)
      rw [if_neg h]
theorem c_pays {S T : kSt} {v : Nat → Int32} {P : Nat} (hP : P ≤ 5) (hf : frc S T) (h10 : T.1 10 0 = nI P) (h49 : ∀ p, p < P → T.1 49 p = v p) : ∃ T', f_m0_fewestPayments T = some (nI P - nI (tbG v P (2 ^ P) (2 ^ P - 1)), T') ∧ frc S T' := by
  have h32 : 2 ^ P ≤ 32 := by
    have : ∀ P, P ≤ 5 → 2 ^ P ≤ 32 := by decide
    exact this P hP
  have hp2 : 0 < 2 ^ P := Nat.two_pow_pos P
  have hFU := kFU_big
  unfold f_m0_fewestPayments
  simp only [knx_e]
  generalize kFU = FU at hFU ⊢
  rw [h10, shl5 P hP, show (1 : Int32) = nI 1 from rfl, pk_sub hp2]
  obtain ⟨T', e1, e2, e3⟩ := c_payO (S := S) (v := v) hP (fun S19 => kgi (nI (2 ^ P - 1)) 32 (some (S19.1 10 0 - S19.1 51 (nI (2 ^ P - 1)).toNatClampNeg, S19))) (2 ^ P - 1) 1 FU (kuI (kuI T 50 0 0) 51 0 0) (by omega) (by omega) (by omega) ((hf.u rfl _ _).u rfl _ _) ⟨by simp [uI_get, h10], fun p hp => by simp [uI_get, h49 p hp], fun s hs => by
    have : s = 0 := by omega
    subst this
    rw [kuI_ne _ _ _ (by decide), uI_get, if_pos ⟨rfl, rfl⟩, uI_get, if_pos ⟨rfl, rfl⟩, smK_0]
    exact ⟨rfl, rfl⟩⟩
  refine ⟨T', ?_, e2⟩
  rw [e1, kgi_nI (by omega) (by omega), nI_clamp (by omega), e3.1, (e3.2.2 (2 ^ P - 1) (by omega)).2]
-- the reference
theorem m_netsL {S : kSt} (hm : mOk S) {s : Nat} (hs : s < 32) (K : Int32 → kSt → Option (Int32 × kSt)) : ∀ (j i fu : Nat), i + j = gN S 57 2 → j < fu → f_m11_netsOf_L4 K (nI s) fu (smK (netI S) s i) (nI i) S = K (smK (netI S) s (gN S 57 2)) S := by
  intro j
  have hP := hm.2.2.1.2.1
  have hP5 := hm.2.2.1.2.2
  induction j with
  | zero =>
    intro i fu hi hfu
    obtain ⟨fu, rfl⟩ : ∃ m, fu = m + 1 := ⟨fu - 1, by omega⟩
    rw [f_m11_netsOf_L4, hP, if_pos (nI_le (by omega) (by omega)), show gN S 57 2 = i by omega]
  | succ j ih =>
    intro i fu hi hfu
    obtain ⟨fu, rfl⟩ : ∃ m, fu = m + 1 := ⟨fu - 1, by omega⟩
    rw [f_m11_netsOf_L4, hP, if_neg (nI_ge (by omega) (by omega)), m_hasBit hs (by omega)]
    simp only [Option.bind_some, knx_e]
    rw [m_net hm (by omega)]
    simp only [Option.bind_some]
    rw [nI_1, ← ih (i + 1) fu (by omega) (by omega), smK]
    cases tb s i
    · rw [if_neg (by decide), if_neg (by decide)]
    · rw [if_pos rfl, if_pos rfl]
theorem m_nets {S : kSt} (hm : mOk S) {s : Nat} (hs : s < 32) : f_m11_netsOf (nI s) S = some (smK (netI S) s (gN S 57 2), S) := by
  have hP5 := hm.2.2.1.2.2
  have hFU := kFU_big
  have := m_netsL hm hs (fun x S => some (x, S)) (gN S 57 2) 0 kFU (by omega) (by omega)
  rw [nI_0] at this
  exact this
theorem sbI : ∀ s, s < 32 → ∀ t, t < 32 → ((nI t &&& (nI s ^^^ (-1))) = 0 ↔ sbB t s = true) := by decide +kernel
theorem dfI : ∀ s, s < 32 → ∀ t, t < 32 → sbB t s = true → nI s &&& (nI t ^^^ (-1)) = nI (s - t) := by decide +kernel
theorem gM_le (v : Nat → Int32) (P : Nat) : ∀ r s, gM v P r s ≤ s
  | 0, s => Nat.zero_le _
  | r + 1, s => by
    show (if s = 0 then 0 else _) ≤ s
    by_cases h : s = 0
    · rw [if_pos h]; omega
    · rw [if_neg h]
      refine gL_le (by omega) (fun t t1 t2 _ _ => ?_) (s - 1) (by omega)
      have := gM_le v P r (s - t)
      omega
theorem m_groL {S : kSt} (hm : mOk S) {s r : Nat} (hs : s < 32) (rf : Int32 → kSt → Option (Int32 × kSt)) (hrf : ∀ t, t < s → pcN t < pcN s → rf (nI t) S = some (nI (gM (netI S) (gN S 57 2) r t), S)) (K : Int32 → kSt → Option (Int32 × kSt)) : ∀ (j i fu : Nat), i + 1 + j = s → j < fu → f_m11_groupsOf_L10 rf K (nI s) fu (nI (gL (netI S) (gN S 57 2) (gM (netI S) (gN S 57 2) r) s i)) (nI (i + 1)) S = K (nI (gL (netI S) (gN S 57 2) (gM (netI S) (gN S 57 2) r) s (s - 1))) S := by
  intro j
  induction j with
  | zero =>
    intro i fu hi hfu
    obtain ⟨fu, rfl⟩ : ∃ m, fu = m + 1 := ⟨fu - 1, by omega⟩
    rw [f_m11_groupsOf_L10, if_pos (nI_le (by omega) (by omega)), show s - 1 = i by omega]
  | succ j ih =>
    intro i fu hi hfu
    obtain ⟨fu, rfl⟩ : ∃ m, fu = m + 1 := ⟨fu - 1, by omega⟩
    have hl : gL (netI S) (gN S 57 2) (gM (netI S) (gN S 57 2) r) s i ≤ s := by
      refine gL_le (by omega) (fun t t1 t2 _ _ => ?_) i (by omega)
      have := gM_le (netI S) (gN S 57 2) r (s - t)
      omega
    rw [f_m11_groupsOf_L10, if_neg (nI_ge (by omega) (by omega))]
    simp only [knx_e]
    rw [kite (sbI s hs (i + 1) (by omega)), m_nets hm (by omega)]
    simp only [Option.bind_some]
    rw [nI_1, ← ih (i + 1) fu (by omega) (by omega), gL]
    by_cases h1 : sbB (i + 1) s = true
    · rw [if_pos h1, dfI s hs (i + 1) (by omega) h1, hrf (s - (i + 1)) (by omega) (pcN_sub s hs (i + 1) (by omega) h1 (by omega))]
      simp only [Option.bind_some]
      by_cases h2 : smK (netI S) (i + 1) (gN S 57 2) = 0
      · have hl2 := gM_le (netI S) (gN S 57 2) r (s - (i + 1))
        rw [if_pos h2, if_pos (show sbB (i + 1) s = true ∧ smK (netI S) (i + 1) (gN S 57 2) = 0 from ⟨h1, h2⟩), show (1 : Int32) = nI 1 from rfl, nI_add, kite (nI_leI (by omega) (by omega))]
        split
        · rw [Nat.max_eq_left (by omega)]
        · rw [Nat.max_eq_right (by omega)]
      · rw [if_neg h2, if_neg (fun q => h2 q.2)]
    · rw [if_neg h1, if_neg (fun q => h1 q.1)]
theorem m_gro {S : kSt} (hm : mOk S) : ∀ r s, s < 32 → pcN s < r → f_m11_groupsOf r (nI s) S = some (nI (gM (netI S) (gN S 57 2) r s), S) := by
  intro r
  induction r with
  | zero => intro s _ h; omega
  | succ r ih =>
    intro s hs hr
    have hFU := kFU_big
    rw [f_m11_groupsOf]
    generalize kFU = FU at hFU ⊢
    simp only [knx_e]
    rw [show (0 : Int32) = nI 0 from rfl, kite (nI_eq (by omega) (by omega))]
    show _ = some (nI (if s = 0 then 0 else _), S)
    by_cases h0 : s = 0
    · rw [if_pos h0, if_pos h0]
    · rw [if_neg h0, if_neg h0]
      exact m_groL hm hs (fun a1 S => f_m11_groupsOf r a1 S) (fun t h1 h2 => ih t (by omega) (by omega)) (fun x S => some (x, S)) (s - 1) 0 FU (by omega) (by omega)
def onK (s : Nat) : Nat → Nat
  | 0 => 0
  | k + 1 => onK s k + s / 2 ^ k % 2
theorem onK_8 : ∀ s, s < 32 → onK s 8 = pcN s := by decide +kernel
theorem m_onesL {S : kSt} {s : Nat} (hs : s < 32) (K : Int32 → kSt → Option (Int32 × kSt)) : ∀ (j i fu : Nat), i + j = 8 → j < fu → f_m11_ones_L4 K (nI s) fu (nI (onK s i)) (nI i) S = K (nI (pcN s)) S := by
  intro j
  induction j with
  | zero =>
    intro i fu hi hfu
    obtain ⟨fu, rfl⟩ : ∃ m, fu = m + 1 := ⟨fu - 1, by omega⟩
    rw [f_m11_ones_L4, if_pos (show (8 : Int32) ≤ nI i from nI_le (a := 8) (by omega) (by omega)), show i = 8 by omega, onK_8 s hs]
  | succ j ih =>
    intro i fu hi hfu
    obtain ⟨fu, rfl⟩ : ∃ m, fu = m + 1 := ⟨fu - 1, by omega⟩
    rw [f_m11_ones_L4, if_neg (show ¬ (8 : Int32) ≤ nI i from nI_ge (b := 8) (by omega) (by omega))]
    simp only [knx_e]
    rw [tb_bit s hs i (by omega), nI_add, nI_1]
    exact ih (i + 1) fu (by omega) (by omega)
theorem m_ones {S : kSt} {s : Nat} (hs : s < 32) : f_m11_ones (nI s) S = some (nI (pcN s), S) := by
  have hFU := kFU_big
  have := m_onesL (S := S) hs (fun x S => some (x, S)) 8 0 kFU (by omega) (by omega)
  rw [nI_0] at this
  exact this
def nzK (v : Nat → Int32) : Nat → Nat
  | 0 => 0
  | k + 1 => if v k = 0 then nzK v k else nzK v k + 2 ^ k
theorem nzK_lt (v : Nat → Int32) : ∀ k, nzK v k < 2 ^ k
  | 0 => by simp [nzK]
  | k + 1 => by
    have := nzK_lt v k
    rw [nzK, Nat.pow_succ]
    split <;> omega
theorem orA : ∀ k, k < 5 → ∀ a, a < 2 ^ k → nI a ||| (1 <<< (nI k &&& 31)) = nI (a + 2 ^ k) := by decide +kernel
theorem orZ : ∀ a, a < 32 → nI a ||| 0 = nI a := by decide +kernel
theorem m_payL {S : kSt} (hm : mOk S) (K : Int32 → kSt → Option (Int32 × kSt)) : ∀ (j i fu : Nat), i + j = gN S 57 2 → j < fu → f_m11_payments_L21 K fu (nI (nzK (netI S) i)) (nI i) S = K (nI (nzK (netI S) (gN S 57 2))) S := by
  intro j
  have hP := hm.2.2.1.2.1
  have hP5 := hm.2.2.1.2.2
  induction j with
  | zero =>
    intro i fu hi hfu
    obtain ⟨fu, rfl⟩ : ∃ m, fu = m + 1 := ⟨fu - 1, by omega⟩
    rw [f_m11_payments_L21, hP, if_pos (nI_le (by omega) (by omega)), show gN S 57 2 = i by omega]
  | succ j ih =>
    intro i fu hi hfu
    obtain ⟨fu, rfl⟩ : ∃ m, fu = m + 1 := ⟨fu - 1, by omega⟩
    have hl := nzK_lt (netI S) i
    have h32 := p32 (show i ≤ 5 by omega) hl
    rw [f_m11_payments_L21, hP, if_neg (nI_ge (by omega) (by omega)), m_net hm (by omega)]
    simp only [Option.bind_some, knx_e]
    rw [nI_1, orA i (by omega) _ hl, orZ _ h32, ← ih (i + 1) fu (by omega) (by omega), nzK]
    by_cases h : netI S i = 0
    · rw [if_pos h, if_pos h]
    · rw [if_neg h, if_neg h]
-- together
def zrK (v : Nat → Int32) : Nat → Nat
  | 0 => 0
  | k + 1 => if v k = 0 then zrK v k + 1 else zrK v k
theorem pcN_a : ∀ k, k < 5 → ∀ a, a < 2 ^ k → pcN (a + 2 ^ k) = pcN a + 1 := by decide +kernel
theorem pc_zr (v : Nat → Int32) : ∀ k, k ≤ 5 → pcN (nzK v k) + zrK v k = k
  | 0, _ => by simp [nzK, zrK, pcN]
  | k + 1, hk => by
    have := pc_zr v k (by omega)
    rw [nzK, zrK]
    by_cases h : v k = 0
    · rw [if_pos h, if_pos h]; omega
    · rw [if_neg h, if_neg h, pcN_a k (by omega) _ (nzK_lt v k)]; omega
theorem tb_hi : ∀ P, P ≤ 5 → ∀ k, k < P → ∀ a, a < 2 ^ k → tb (a + (2 ^ P - 2 ^ k)) k = true ∧ a + (2 ^ P - 2 ^ k) < 2 ^ P ∧ 2 ^ (k + 1) ≤ 2 ^ P := by decide +kernel
theorem nz_chain {v : Nat → Int32} {P : Nat} {g : Nat → Nat} (hP : P ≤ 5) (ho : okG v P g) : ∀ k, k ≤ P → g (2 ^ P - 1) = g (nzK v k + (2 ^ P - 2 ^ k)) + zrK v k ∧ smK v (2 ^ P - 1) P = smK v (nzK v k + (2 ^ P - 2 ^ k)) P
  | 0, _ => by
    rw [nzK, zrK, Nat.zero_add, Nat.add_zero, Nat.pow_zero]
    exact ⟨rfl, rfl⟩
  | k + 1, hk => by
    obtain ⟨h1, h2⟩ := nz_chain hP ho k (by omega)
    obtain ⟨t1, t2, t3⟩ := tb_hi P hP k (by omega) (nzK v k) (nzK_lt v k)
    rw [nzK, zrK]
    have hpp : 2 ^ (k + 1) = 2 * 2 ^ k := by rw [Nat.pow_succ]; omega
    have hkp : 0 < 2 ^ k := Nat.two_pow_pos k
    by_cases h : v k = 0
    · rw [if_pos h, if_pos h]
      have e : nzK v k + (2 ^ P - 2 ^ k) - 2 ^ k = nzK v k + (2 ^ P - 2 ^ (k + 1)) := by omega
      have hg := okG_z hP (show k < P by omega) h ho _ t2 t1
      have hsm := smK_del (v := v) (p32 hP t2) (show k < 5 by omega) t1 P hP
      rw [if_pos (show k < P by omega), h, Int32.add_zero] at hsm
      rw [e] at hg hsm
      exact ⟨by omega, h2.trans hsm⟩
    · rw [if_neg h, if_neg h]
      have e : nzK v k + 2 ^ k + (2 ^ P - 2 ^ (k + 1)) = nzK v k + (2 ^ P - 2 ^ k) := by omega
      rw [e]
      exact ⟨h1, h2⟩
def ttK (v : Nat → Int32) : Nat → Int32
  | 0 => 0
  | k + 1 => ttK v k + v k
theorem tb_full : ∀ P, P ≤ 5 → ∀ k, k < P → tb (2 ^ P - 1) k = true := by decide +kernel
theorem smK_full {v : Nat → Int32} {P : Nat} (hP : P ≤ 5) : ∀ k, k ≤ P → smK v (2 ^ P - 1) k = ttK v k
  | 0, _ => rfl
  | k + 1, hk => by
    rw [smK, ttK, smK_full hP k (by omega), tb_full P hP k (by omega)]
    rfl
theorem nets0 (S : kSt) : ∀ P, P ≤ 5 → ttK (fun p => netK S p P) P = 0 := by
  intro P hP
  rcases (show P = 0 ∨ P = 1 ∨ P = 2 ∨ P = 3 ∨ P = 4 ∨ P = 5 by omega) with rfl | rfl | rfl | rfl | rfl | rfl
  · rfl
  · simp only [ttK, netK]
    grind
  · simp only [ttK, netK]
    grind
  · simp only [ttK, netK]
    grind
  · simp only [ttK, netK]
    grind
  · simp only [ttK, netK]
    grind
theorem b_payments {S : kSt} (hc : cOk S) (hm : mOk S) : Body cb_payments mb_payments S := by
  have hP5 := hm.2.2.1.2.2
  have hFU := kFU_big
  have ho : okG (netI S) (gN S 57 2) (tbG (netI S) (gN S 57 2) (2 ^ gN S 57 2)) := fun s hs => tbG_eq hP5 hs (p32 hP5 hs)
  refine body_c (nI (gN S 57 2) - nI (tbG (netI S) (gN S 57 2) (2 ^ gN S 57 2) (2 ^ gN S 57 2 - 1))) ?_ (fun T hk => ?_)
  · obtain ⟨T, e1, e2, e3, e4⟩ := c_reckon hc hm
    obtain ⟨T', g1, g2⟩ := c_pays hP5 e2 e3 e4
    refine ⟨T', ?_, g2⟩
    unfold cb_payments
    rw [e1]
    simp only [Option.bind_some]
    rw [g1]
    rfl
  · have hmT := hk.mk.mpr hm
    have hnet : netI T = netI S := funext fun p => netI_k hk p
    have hlt := nzK_lt (netI S) (gN S 57 2)
    have h32 := p32 hP5 hlt
    obtain ⟨c1, c2⟩ := nz_chain hP5 ho (gN S 57 2) (Nat.le_refl _)
    rw [Nat.sub_self, Nat.add_zero] at c1 c2
    have hz : smK (netI S) (nzK (netI S) (gN S 57 2)) (gN S 57 2) = 0 := by
      rw [← c2, smK_full hP5 _ (Nat.le_refl _)]
      exact nets0 S _ hP5
    have hpc := pc_zr (netI S) (gN S 57 2) hP5
    have hpc5 : pcN (nzK (netI S) (gN S 57 2)) < 9 := by omega
    unfold mb_payments
    generalize kFU = FU at hFU ⊢
    have e := m_payL hmT (fun x11 S12 => (f_m11_ones x11 S12).bind fun q13 => (f_m11_groupsOf 9 x11 q13.2).bind fun q14 => some (q13.1 - q14.1, q14.2)) (gN S 57 2) 0 FU (by rw [hk.gn (a := 57) rfl]; omega) (by omega)
    rw [nI_0, hnet, hk.gn (a := 57) rfl] at e
    rw [show nzK (netI S) 0 = 0 from rfl, nI_0] at e
    rw [e, m_ones h32]
    simp only [Option.bind_some]
    rw [m_gro hmT 9 _ h32 hpc5]
    simp only [Option.bind_some]
    rw [hnet, hk.gn (a := 57) rfl, gM_eq hP5 ho 9 _ hlt hpc5 hz, c1]
    congr 2
    have hp' : nI (gN S 57 2) = nI (pcN (nzK (netI S) (gN S 57 2))) + nI (zrK (netI S) (gN S 57 2)) := by rw [nI_add, hpc]
    rw [hp', ← nI_add]
    grind
