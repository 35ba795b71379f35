-- names, parts of lines
section NAM
variable {t : Nat → Nat} {n : Nat}
def fndP (q : Nat → Bool) : Nat → Nat → Nat
  | 0, i => i
  | j + 1, i => if q i = true then i else fndP q j (i + 1)
theorem fndP_le (q : Nat → Bool) : ∀ j i, fndP q j i ≤ i + j
  | 0, i => Nat.le_refl _
  | j + 1, i => by
    rw [fndP]
    by_cases h : q i = true
    · rw [if_pos h]; omega
    · rw [if_neg h]
      have := fndP_le q j (i + 1)
      omega
def nmC (t : Nat → Nat) (n P : Nat) (aS aL : Nat → Nat) (C : kSt) : Prop := ∀ p, p < P → C.1 38 p = nI (aS p) ∧ C.1 39 p = nI (aL p) ∧ 1 ≤ aL p ∧ aL p ≤ 8 ∧ aS p + aL p ≤ n ∧ ∀ k, k < aL p → ltB (t (aS p + k)) = true
def nmM (t : Nat → Nat) (P : Nat) (aS aL : Nat → Nat) (M : kSt) : Prop := (∀ p, p < P → M.1 58 (50 + p) = nI (aL p) ∧ ∀ k, k < aL p → M.1 58 (55 + 8 * p + k) = nI (t (aS p + k))) ∧ ∀ p, P ≤ p → p < 5 → M.1 58 (50 + p) = 0
def smB (t : Nat → Nat) (n s : Nat) (aS aL : Nat → Nat) (p : Nat) : Bool := decide (aL p = lexE t n s - s ∧ ∀ k, k < aL p → t (aS p + k) = t (s + k))
theorem c_smL {C : kSt} {s a l : Nat} (hT : cT t n C) (h4 : C.1 3 4 = nI s) (ha : a + l ≤ n) (hs : s + l ≤ n) (hla : ∀ k, k < l → ltB (t (a + k)) = true) (hls : ∀ k, k < l → ltB (t (s + k)) = true) (K1 K2 : kSt → Option (Bool × kSt)) (hK1 : ∀ S, K1 S = some (false, S)) (hK2 : ∀ S, K2 S = some (true, S)) : ∀ (d k fu : Nat), k + d = l → d < fu → (∀ j, j < k → t (a + j) = t (s + j)) → f_m7_isSame_L2 K1 K2 (nI a) (nI l) fu (nI k) C = some (decide (∀ j, j < l → t (a + j) = t (s + j)), C) := by
  have hn := hT.2.1
  intro d
  induction d with
  | zero =>
    intro k fu hk hfu hj
    obtain ⟨fu, rfl⟩ : ∃ m, fu = m + 1 := ⟨fu - 1, by omega⟩
    rw [f_m7_isSame_L2, if_pos (nI_le (by omega) (by omega)), hK2, decide_eq_true (fun j q => hj j (by omega))]
  | succ d ih =>
    intro k fu hk hfu hj
    obtain ⟨fu, rfl⟩ : ∃ m, fu = m + 1 := ⟨fu - 1, by omega⟩
    have l1 : 97 ≤ t (a + k) ∧ t (a + k) ≤ 122 := of_decide_eq_true (hla k (by omega))
    have l2 : 97 ≤ t (s + k) ∧ t (s + k) ≤ 122 := of_decide_eq_true (hls k (by omega))
    rw [f_m7_isSame_L2, if_neg (nI_ge (by omega) (by omega))]
    simp only [knx_e]
    rw [nI_add, kgi_nI (by omega) (by omega), h4, nI_add, kgi_nI (by omega) (by omega), nI_clamp (by omega), nI_clamp (by omega), (hT.1 (a + k) (by omega)).2, (hT.1 (s + k) (by omega)).2, sg_id _ (by omega), sg_id _ (by omega), kite (nI_eq (by omega) (by omega))]
    by_cases q : t (a + k) = t (s + k)
    · rw [if_pos q, nI_1, ih (k + 1) fu (by omega) (by omega) (fun j hj2 => by
        by_cases e : j = k
        · rw [e]; exact q
        · exact hj j (by omega))]
    · rw [if_neg q, hK1, decide_eq_false (fun h => q (h k (by omega)))]
theorem c_pnL {C : kSt} {s P : Nat} {aS aL : Nat → Nat} (h : cR t n C s) (hK : lexK t n s = 1) (hN : nmC t n P aS aL C) (hP : P ≤ 5) (h22 : C.1 2 2 = nI P) : ∀ (d i fu : Nat), i + d = P → d < fu → f_m7_pairOfName_L2 (fun (x7 : Int32) (S8 : kSt) => some (x7, S8)) (fun (S9 : kSt) => some ((-1), S9)) fu (nI i) C = some (if fndP (smB t n s aS aL) d i < P then nI (fndP (smB t n s aS aL) d i) else -1, C) := by
  have hF := kFU_big
  have hn := h.1.2.1
  have hb := lexE_b (t := t) h.2.1
  obtain ⟨k0, k1, k2, k3⟩ := lexK_1 hK
  intro d
  induction d with
  | zero =>
    intro i fu hi hfu
    obtain ⟨fu, rfl⟩ : ∃ m, fu = m + 1 := ⟨fu - 1, by omega⟩
    rw [f_m7_pairOfName_L2, h22, if_pos (nI_le (by omega) (by omega)), fndP, if_neg (by omega)]
  | succ d ih =>
    intro i fu hi hfu
    obtain ⟨fu, rfl⟩ : ∃ m, fu = m + 1 := ⟨fu - 1, by omega⟩
    obtain ⟨n1, n2, n3, n4, n5, n6⟩ := hN i (by omega)
    rw [f_m7_pairOfName_L2, h22, if_neg (nI_ge (by omega) (by omega)), kgi_nI (by omega) (by omega)]
    simp only [knx_e]
    rw [kgi_nI (by omega) (by omega), kgi_nI (by omega) (by omega), nI_clamp (by omega), n1, n2, h.2.2.2.1, h.2.2.1, pk_sub hb.1, kite (nI_eq (by omega) (by omega)), nI_1, fndP]
    by_cases e : aL i = lexE t n s - s
    · rw [if_pos e]
      unfold f_m7_isSame
      rw [show (0 : Int32) = nI 0 from rfl, c_smL h.1 h.2.2.1 n5 (by omega) n6 (fun k hk => k3 k (by omega)) _ _ (fun _ => rfl) (fun _ => rfl) (aL i) 0 kFU (by omega) (by omega) (fun j hj => by omega)]
      simp only [Option.bind_some]
      by_cases q : ∀ j, j < aL i → t (aS i + j) = t (s + j)
      · have hs : smB t n s aS aL i = true := decide_eq_true ⟨e, q⟩
        rw [decide_eq_true q, if_pos rfl, if_pos hs, if_pos (by omega)]
      · have hs : ¬ smB t n s aS aL i = true := fun h => q (of_decide_eq_true h).2
        rw [decide_eq_false q, if_neg (by decide), if_neg hs]
        exact ih (i + 1) fu (by omega) (by omega)
    · have hs : ¬ smB t n s aS aL i = true := fun h => e (of_decide_eq_true h).1
      rw [if_neg e, if_neg hs]
      exact ih (i + 1) fu (by omega) (by omega)
theorem c_pairOfName {C : kSt} {s P : Nat} {aS aL : Nat → Nat} (h : cR t n C s) (hK : lexK t n s = 1) (hN : nmC t n P aS aL C) (hP : P ≤ 5) (h22 : C.1 2 2 = nI P) : f_m7_pairOfName C = some (if fndP (smB t n s aS aL) P 0 < P then nI (fndP (smB t n s aS aL) P 0) else -1, C) := by
  have hF := kFU_big
  exact c_pnL h hK hN hP h22 P 0 kFU (by omega) (by omega)
theorem m_fdL {M : kSt} {L s a p : Nat} (hL : L ≤ 8) (hp : p < 5) (h8 : M.1 14 8 = nI L) (h56 : ∀ k, k < L → M.1 56 k = nI (t (s + k))) (h58 : ∀ k, k < L → M.1 58 (55 + 8 * p + k) = nI (t (a + k))) (hta : ∀ k, k < L → t (a + k) ≤ 255) (hts : ∀ k, k < L → t (s + k) ≤ 255) (K : Int32 → kSt → Option (Int32 × kSt)) : ∀ (d k fu : Nat), k + d = L → d < fu → (∀ j, j < k → t (a + j) = t (s + j)) → f_m11_find_L43 K (nI p) fu 1 (nI k) M = K (kb (decide (∀ j, j < L → t (a + j) = t (s + j)))) M := by
  intro d
  induction d with
  | zero =>
    intro k fu hk hfu hj
    obtain ⟨fu, rfl⟩ : ∃ m, fu = m + 1 := ⟨fu - 1, by omega⟩
    rw [f_m11_find_L43, h8, if_pos (nI_le (by omega) (by omega)), decide_eq_true (fun j q => hj j (by omega))]
    rfl
  | succ d ih =>
    intro k fu hk hfu hj
    obtain ⟨fu, rfl⟩ : ∃ m, fu = m + 1 := ⟨fu - 1, by omega⟩
    have x1 := hta k (by omega)
    have x2 := hts k (by omega)
    rw [f_m11_find_L43, h8, if_neg (nI_ge (by omega) (by omega)), if_neg (by decide)]
    simp only [knx_e]
    rw [show 8 * nI p = nI (8 * p) from pk_mul 8 p, show 55 + nI (8 * p) = nI (55 + 8 * p) from nI_add 55 (8 * p), nI_add, kgi_nI (by omega) (by omega), kgi_nI (by omega) (by omega), nI_clamp (by omega), nI_clamp (by omega), h58 k (by omega), h56 k (by omega), kite (nI_eq (by omega) (by omega)), nI_1]
    by_cases q : t (a + k) = t (s + k)
    · rw [if_pos q]
      exact ih (k + 1) fu (by omega) (by omega) (fun j hj2 => by
        by_cases e : j = k
        · rw [e]; exact q
        · exact hj j (by omega))
    · obtain ⟨fu, rfl⟩ : ∃ m, fu = m + 1 := ⟨fu - 1, by omega⟩
      rw [if_neg q, decide_eq_false (fun h => q (h k (by omega))), f_m11_find_L43]
      by_cases q2 : M.1 14 8 ≤ nI (k + 1)
      · rw [if_pos q2]
      · rw [if_neg q2, if_pos (show kb false = 0 from rfl)]
theorem m_fd0 {M : kSt} {c1 v : Int32} {fu : Nat} (K : Int32 → kSt → Option (Int32 × kSt)) : f_m11_find_L43 K c1 (fu + 1) (kb false) v M = K (kb false) M := by
  rw [f_m11_find_L43]
  by_cases q2 : M.1 14 8 ≤ v
  · rw [if_pos q2]
  · rw [if_neg q2, if_pos (show kb false = 0 from rfl)]
theorem m_fnL0 {M : kSt} {P : Nat} {aS aL : Nat → Nat} (hN : nmM t P aS aL M) : ∀ (d i fu : Nat), i + d = 5 → P ≤ i → d < fu → f_m11_find_L2 (fun (x19 : Int32) (S20 : kSt) => some (x19, S20)) (fun (S21 : kSt) => some ((-1), S21)) fu (nI i) M = some (-1, M) := by
  intro d
  induction d with
  | zero =>
    intro i fu hi hP hfu
    obtain ⟨fu, rfl⟩ : ∃ m, fu = m + 1 := ⟨fu - 1, by omega⟩
    rw [f_m11_find_L2, if_pos (show (5 : Int32) ≤ nI i from nI_le (a := 5) (by omega) (by omega))]
  | succ d ih =>
    intro i fu hi hP hfu
    obtain ⟨fu, rfl⟩ : ∃ m, fu = m + 1 := ⟨fu - 1, by omega⟩
    rw [f_m11_find_L2, if_neg (show ¬ (5 : Int32) ≤ nI i from nI_ge (b := 5) (by omega) (by omega))]
    simp only [knx_e]
    rw [show 50 + nI i = nI (50 + i) from nI_add 50 i, kgi_nI (by omega) (by omega), nI_clamp (by omega), hN.2 i hP (by omega), if_pos (by decide), show kFU = 999999 + 1 from rfl, m_fd0, if_pos (show kb false = 0 from rfl), nI_1]
    exact ih (i + 1) fu (by omega) (by omega) (by omega)
theorem m_fnL {M : kSt} {s P : Nat} {aS aL : Nat → Nat} (h : mR t n M s) (hK : lexK t n s = 1) (hC : ∀ p, p < P → 1 ≤ aL p ∧ aL p ≤ 8 ∧ aS p + aL p ≤ n) (hN : nmM t P aS aL M) (hP : P ≤ 5) : ∀ (d i fu : Nat), i + d = P → 5 - i < fu → f_m11_find_L2 (fun (x19 : Int32) (S20 : kSt) => some (x19, S20)) (fun (S21 : kSt) => some ((-1), S21)) fu (nI i) M = some (if fndP (smB t n s aS aL) d i < P then nI (fndP (smB t n s aS aL) d i) else -1, M) := by
  have hF := kFU_big
  have hn := h.1.2.1
  have hb := lexE_b (t := t) h.2.1
  obtain ⟨k0, k1, k2, k3⟩ := lexK_1 hK
  obtain ⟨h8, h56⟩ := h.2.2.2.2.2.1 hK
  intro d
  induction d with
  | zero =>
    intro i fu hi hfu
    rw [m_fnL0 hN (5 - i) i fu (by omega) (by omega) hfu, fndP, if_neg (by omega)]
  | succ d ih =>
    intro i fu hi hfu
    obtain ⟨fu, rfl⟩ : ∃ m, fu = m + 1 := ⟨fu - 1, by omega⟩
    obtain ⟨n3, n4, n5⟩ := hC i (by omega)
    obtain ⟨n1, n2⟩ := hN.1 i (by omega)
    rw [f_m11_find_L2, if_neg (show ¬ (5 : Int32) ≤ nI i from nI_ge (b := 5) (by omega) (by omega))]
    simp only [knx_e]
    rw [show 50 + nI i = nI (50 + i) from nI_add 50 i, kgi_nI (by omega) (by omega), kgi_nI (by omega) (by omega), nI_clamp (by omega), n1, if_neg (nI_nle (by omega) (by omega)), h8, kite (nI_eq (by omega) (by omega)), fndP]
    by_cases e : aL i = lexE t n s - s
    · rw [if_pos e, show kb true = 1 from rfl, show (0 : Int32) = nI 0 from rfl, m_fdL (t := t) (s := s) (a := aS i) k1 (by omega) h8 h56 (fun k hk => n2 k (by omega)) (fun k hk => (h.1.1 _ (by omega)).1) (fun k hk => (h.1.1 _ (by omega)).1) _ (lexE t n s - s) 0 kFU (by omega) (by omega) (fun j hj => by omega)]
      by_cases q : ∀ j, j < lexE t n s - s → t (aS i + j) = t (s + j)
      · have hs : smB t n s aS aL i = true := decide_eq_true ⟨e, by rw [e]; exact q⟩
        rw [decide_eq_true q, if_neg (show ¬ kb true = nI 0 by decide), if_pos hs, if_pos (by omega)]
      · have hs : ¬ smB t n s aS aL i = true := fun h => q (by have := (of_decide_eq_true h).2; rw [e] at this; exact this)
        rw [decide_eq_false q, if_pos (show kb false = nI 0 from rfl), if_neg hs, nI_1]
        exact ih (i + 1) fu (by omega) (by omega)
    · have hs : ¬ smB t n s aS aL i = true := fun h => e (of_decide_eq_true h).1
      rw [if_neg e, show kFU = 999999 + 1 from rfl, m_fd0, if_pos (show kb false = 0 from rfl), if_neg hs, nI_1]
      exact ih (i + 1) fu (by omega) (by omega)
theorem m_find {M : kSt} {s P : Nat} {aS aL : Nat → Nat} (h : mR t n M s) (hK : lexK t n s = 1) (hC : ∀ p, p < P → 1 ≤ aL p ∧ aL p ≤ 8 ∧ aS p + aL p ≤ n) (hN : nmM t P aS aL M) (hP : P ≤ 5) : f_m11_find M = some (if fndP (smB t n s aS aL) P 0 < P then nI (fndP (smB t n s aS aL) P 0) else -1, M) := by
  have hF := kFU_big
  exact m_fnL h hK hC hN hP P 0 kFU (by omega) (by omega)
-- faults
def fdC (C : kSt) (k s : Nat) : kSt := kuI (kuI C 3 9 (nI k)) 3 10 (nI s)
def flM (M : kSt) (k s : Nat) : kSt := kuI (kuI (kuI M 14 13 1) 14 9 (nI k)) 14 10 (nI s)
theorem c_found {C : kSt} {s : Nat} (h : cR t n C s) (k : Nat) : f_m7_found (nI k) C = some (false, fdC C k s) := by
  unfold f_m7_found fdC
  simp only [knx_e]
  rw [uI_no _ _ (show ¬ ((3 : Nat) = 3 ∧ 4 = 9) by omega), h.2.2.1]
theorem m_wrg {M : kSt} (h : M.1 14 13 = 0) (k s : Nat) : f_m11_wrong (nI k) (nI s) M = some (flM M k s) := by
  unfold f_m11_wrong flM
  rw [h, show (0 : Int32) = kb false from rfl, kgb_kb]
  rfl
theorem flM_13 (M : kSt) (k s : Nat) : (flM M k s).1 14 13 = 1 := by
  unfold flM
  rw [uI_no _ _ (by omega), uI_no _ _ (by omega), uI_at]
theorem kg1 {α : Type} {x : Int32} (h : x = 1) (F : Bool → Option α) : kgb x F = F true := by
  rw [h]; exact kgb_kb true F
theorem kg0 {α : Type} {x : Int32} (h : x = 0) (F : Bool → Option α) : kgb x F = F false := by
  rw [h]; exact kgb_kb false F
theorem mf_wrong {M : kSt} (h : M.1 14 13 = 1) (a b : Int32) : f_m11_wrong a b M = some M := by
  unfold f_m11_wrong
  rw [kg1 h]
  rfl
theorem mf_pass {M : kSt} (h : M.1 14 13 = 1) : f_m11_pass M = some M := by
  unfold f_m11_pass
  rw [kg1 h]
  rfl
theorem mf_isWord {M : kSt} (h : M.1 14 13 = 1) (i : Nat) : f_m11_isWord i M = some (false, M) := by
  unfold f_m11_isWord
  rw [kg1 h]
  rfl
theorem mf_must {M : kSt} (h : M.1 14 13 = 1) (i : Nat) : f_m11_must i M = some M := by
  unfold f_m11_must
  rw [kg1 h]
  rfl
theorem mf_numH {M : kSt} (h : M.1 14 13 = 1) (a b : Int32) : f_m11_numberHere a b M = some (a, M) := by
  unfold f_m11_numberHere
  rw [kg1 h]
  rfl
theorem mf_num {M : kSt} (h : M.1 14 13 = 1) (a b : Int32) : f_m11_number a b M = some (a, M) := by
  unfold f_m11_number
  rw [mf_numH h]
  simp only [Option.bind_some]
  rw [mf_pass h]
  rfl
theorem mf_after {M : kSt} (h : M.1 14 13 = 1) (i : Nat) (a b : Int32) : f_m11_after i a b M = some (a, M) := by
  unfold f_m11_after
  rw [mf_must h]
  simp only [Option.bind_some]
  rw [mf_num h]
  rfl
theorem mf_pairHere {M : kSt} (h : M.1 14 13 = 1) : f_m11_pairHere M = some (0, M) := by
  unfold f_m11_pairHere
  rw [kg1 h]
  rfl
theorem mf_newName {M : kSt} (h : M.1 14 13 = 1) (a : Int32) : f_m11_newName a M = some M := by
  unfold f_m11_newName
  rw [kg1 h]
  rfl
-- a word that must stand there; a whole; a pair
theorem c_takeWord {C : kSt} {s i : Nat} (hi : i < 16) (h : cR t n C s) : (wq t n s i = true → ∃ C', f_m7_takeWord i C = some (true, C') ∧ cR t n C' (nxS t n s) ∧ eqC C C') ∧ (wq t n s i = false → f_m7_takeWord i C = some (false, fdC C 1 s)) := by
  unfold f_m7_takeWord
  rw [c_isWord hi h]
  simp only [Option.bind_some]
  constructor
  · intro q
    obtain ⟨C', e1, e2, e3⟩ := h.nx
    rw [q, if_pos rfl, e1]
    exact ⟨C', rfl, e2, e3⟩
  · intro q
    rw [q, if_neg (by decide), show (1 : Int32) = nI 1 from rfl, c_found h 1]
    rfl
theorem mR.ok {M : kSt} {s : Nat} (h : mR t n M s) : M.1 14 13 = 0 := h.2.2.2.2.2.2.2.2
theorem mR.at {M : kSt} {s : Nat} (h : mR t n M s) : M.1 14 4 = nI s := h.2.2.1
theorem m_must {M : kSt} {s i : Nat} (hi : i < 16) (h : mR t n M s) : (wq t n s i = true → ∃ M', f_m11_must i M = some M' ∧ mR t n M' (nxS t n s) ∧ eqM M M') ∧ (wq t n s i = false → f_m11_must i M = some (flM M 1 s)) := by
  unfold f_m11_must
  rw [kg0 h.ok]
  simp only [Bool.false_eq_true, if_false]
  unfold f_m11_takesWord
  rw [m_isWord hi h]
  simp only [Option.bind_some]
  constructor
  · intro q
    obtain ⟨M', e1, e2, e3⟩ := h.nx
    rw [q, if_pos rfl, e1]
    exact ⟨M', rfl, e2, e3⟩
  · intro q
    rw [q, if_neg (by decide)]
    simp only [Option.bind_some, Bool.false_eq_true, if_false]
    rw [h.at, show (1 : Int32) = nI 1 from rfl, m_wrg h.ok 1 s]
    rfl
theorem m_pass {M : kSt} {s : Nat} (h : mR t n M s) : ∃ M', f_m11_pass M = some M' ∧ mR t n M' (nxS t n s) ∧ eqM M M' := by
  unfold f_m11_pass
  rw [kg0 h.ok]
  obtain ⟨M', e1, e2, e3⟩ := h.nx
  simp only [Bool.false_eq_true, if_false]
  rw [e1]
  exact ⟨M', rfl, e2, e3⟩
def nq (t : Nat → Nat) (n s lo hi : Nat) : Nat := if lexK t n s = 2 then (if lo ≤ wvN t n s ∧ wvN t n s ≤ hi then 0 else 4) else 1
theorem nq_0 {s lo hi : Nat} (h : nq t n s lo hi = 0) : lexK t n s = 2 ∧ lo ≤ wvN t n s ∧ wvN t n s ≤ hi := by
  unfold nq at h
  by_cases h1 : lexK t n s = 2
  · rw [if_pos h1] at h
    by_cases h2 : lo ≤ wvN t n s ∧ wvN t n s ≤ hi
    · exact ⟨h1, h2⟩
    · rw [if_neg h2] at h; omega
  · rw [if_neg h1] at h; omega
theorem c_sees {C : kSt} {s lo hi : Nat} (hl : lo ≤ 1000) (hh : hi ≤ 1000) (h : cR t n C s) : (nq t n s lo hi = 0 → f_m7_seesWhole (nI lo) (nI hi) C = some (true, C)) ∧ (¬ nq t n s lo hi = 0 → f_m7_seesWhole (nI lo) (nI hi) C = some (false, fdC C (nq t n s lo hi) s)) := by
  have h4 := lexK_4 (t := t) (n := n) s
  unfold f_m7_seesWhole nq
  rw [h.2.2.2.2.1, kite (show nI (lexK t n s) = 2 ↔ lexK t n s = 2 from nI_eq (b := 2) (by omega) (by omega))]
  by_cases hK : lexK t n s = 2
  · have hw := lexK_2 hK
    rw [if_pos hK, if_pos hK, h.2.2.2.2.2.1 hK]
    simp only [knx_e]
    rw [kite (nI_ltI (a := wvN t n s) (b := lo) (by omega) (by omega)), kite (nI_leI (a := wvN t n s) (b := hi) (by omega) (by omega)), show (4 : Int32) = nI 4 from rfl, c_found h 4]
    simp only [Option.bind_some, Bool.false_eq_true, if_false]
    by_cases h1 : wvN t n s < lo
    · rw [if_pos h1, if_neg (show ¬ (lo ≤ wvN t n s ∧ wvN t n s ≤ hi) by omega)]
      exact ⟨fun q => absurd q (by decide), fun _ => rfl⟩
    · rw [if_neg h1]
      by_cases h2 : wvN t n s ≤ hi
      · rw [if_pos h2, if_pos (show lo ≤ wvN t n s ∧ wvN t n s ≤ hi by omega)]
        exact ⟨fun _ => rfl, fun q => absurd rfl q⟩
      · rw [if_neg h2, if_neg (show ¬ (lo ≤ wvN t n s ∧ wvN t n s ≤ hi) by omega)]
        exact ⟨fun q => absurd q (by decide), fun _ => rfl⟩
  · rw [if_neg hK, if_neg hK, show (1 : Int32) = nI 1 from rfl, c_found h 1]
    exact ⟨fun q => absurd q (by decide), fun _ => rfl⟩
theorem m_numH {M : kSt} {s lo hi : Nat} (hl : lo ≤ 1000) (hh : hi ≤ 1000) (h : mR t n M s) : (nq t n s lo hi = 0 → f_m11_numberHere (nI lo) (nI hi) M = some (nI (wvN t n s), M)) ∧ (¬ nq t n s lo hi = 0 → f_m11_numberHere (nI lo) (nI hi) M = some (nI lo, flM M (nq t n s lo hi) s)) := by
  have h4 := tkM_2 _ (lexK_4 (t := t) (n := n) s)
  unfold f_m11_numberHere nq
  rw [kg0 h.ok]
  simp only [Bool.false_eq_true, if_false, knx_e]
  rw [h.2.2.2.2.1, kite (show nI (tkM (lexK t n s)) = 3 ↔ lexK t n s = 2 from (nI_eq (b := 3) (by omega) (by omega)).trans h4.2.1)]
  by_cases hK : lexK t n s = 2
  · have hw := lexK_2 hK
    rw [if_pos hK, if_pos hK, h.2.2.2.2.2.2.1 hK, m_in]
    simp only [Option.bind_some]
    by_cases h1 : lo ≤ wvN t n s ∧ wvN t n s ≤ hi
    · rw [decide_eq_true ⟨nI_le h1.1 (by omega), nI_le h1.2 (by omega)⟩, if_pos rfl, if_pos h1, kg0 h.ok]
      simp only [Bool.false_eq_true, if_false]
      rw [h.2.2.2.2.2.2.1 hK]
      exact ⟨fun _ => rfl, fun q => absurd trivial q⟩
    · rw [decide_eq_false (fun q => h1 ⟨(nI_leI (by omega) (by omega)).mp q.1, (nI_leI (by omega) (by omega)).mp q.2⟩), if_neg h1, if_neg (show ¬ (false = true) by decide), h.at, show (4 : Int32) = nI 4 from rfl, m_wrg h.ok 4 s]
      simp only [Option.bind_some]
      rw [kg1 (flM_13 M 4 s)]
      exact ⟨fun q => absurd q (by decide), fun _ => rfl⟩
  · rw [if_neg hK, if_neg hK, h.at, show (1 : Int32) = nI 1 from rfl, m_wrg h.ok 1 s]
    simp only [Option.bind_some]
    rw [kg1 (flM_13 M 1 s)]
    exact ⟨fun q => absurd q (by decide), fun _ => rfl⟩
theorem m_num {M : kSt} {s lo hi : Nat} (hl : lo ≤ 1000) (hh : hi ≤ 1000) (h : mR t n M s) : (nq t n s lo hi = 0 → ∃ M', f_m11_number (nI lo) (nI hi) M = some (nI (wvN t n s), M') ∧ mR t n M' (nxS t n s) ∧ eqM M M') ∧ (¬ nq t n s lo hi = 0 → f_m11_number (nI lo) (nI hi) M = some (nI lo, flM M (nq t n s lo hi) s)) := by
  obtain ⟨a, b⟩ := m_numH hl hh h
  unfold f_m11_number
  constructor
  · intro q
    obtain ⟨M', e1, e2, e3⟩ := m_pass h
    rw [a q]
    simp only [Option.bind_some]
    rw [e1]
    exact ⟨M', rfl, e2, e3⟩
  · intro q
    rw [b q]
    simp only [Option.bind_some]
    rw [mf_pass (flM_13 M _ s)]
    rfl
/-- a word and a whole behind it, on both sides -/
theorem ts_j {C M : kSt} {s i lo hi : Nat} (hi' : i < 16) (hl : lo ≤ 1000) (hh : hi ≤ 1000) (hc : cR t n C s) (hm : mR t n M s) :
    (f_m7_takeWord i C = some (false, fdC C 1 s) ∧ f_m11_after i (nI lo) (nI hi) M = some (nI lo, flM M 1 s)) ∨
    (∃ C1 M1 k s1, f_m7_takeWord i C = some (true, C1) ∧ f_m7_seesWhole (nI lo) (nI hi) C1 = some (false, fdC C1 k s1) ∧ f_m11_after i (nI lo) (nI hi) M = some (nI lo, flM M1 k s1) ∧ eqC C C1 ∧ eqM M M1) ∨
    (∃ C1 M' v, f_m7_takeWord i C = some (true, C1) ∧ f_m7_seesWhole (nI lo) (nI hi) C1 = some (true, C1) ∧ f_m11_after i (nI lo) (nI hi) M = some (nI v, M') ∧ cR t n C1 (nxS t n s) ∧ C1.1 3 5 = nI v ∧ lo ≤ v ∧ v ≤ hi ∧ mR t n M' (nxS t n (nxS t n s)) ∧ eqC C C1 ∧ eqM M M') := by
  obtain ⟨w1, w2⟩ := c_takeWord hi' hc
  obtain ⟨m1, m2⟩ := m_must hi' hm
  unfold f_m11_after
  cases hw : wq t n s i
  · refine Or.inl ⟨w2 hw, ?_⟩
    rw [m2 hw]
    simp only [Option.bind_some]
    rw [mf_num (flM_13 M 1 s)]
    rfl
  · obtain ⟨C1, e1, e2, e3⟩ := w1 hw
    obtain ⟨M1, g1, g2, g3⟩ := m1 hw
    obtain ⟨s1, s2⟩ := c_sees hl hh e2
    obtain ⟨n1, n2⟩ := m_num hl hh g2
    rw [g1]
    simp only [Option.bind_some]
    by_cases q : nq t n (nxS t n s) lo hi = 0
    · obtain ⟨M2, k1, k2, k3⟩ := n1 q
      obtain ⟨z1, z2, z3⟩ := nq_0 q
      refine Or.inr (Or.inr ⟨C1, M2, wvN t n (nxS t n s), e1, s1 q, ?_, e2, e2.2.2.2.2.2.1 z1, z2, z3, k2, e3, g3.tr k3⟩)
      rw [k1]
      rfl
    · refine Or.inr (Or.inl ⟨C1, M1, nq t n (nxS t n s) lo hi, nxS t n s, e1, s2 q, ?_, e3, g3⟩)
      rw [n2 q]
      rfl
def hdB (t : Nat → Nat) (n s : Nat) : Bool := wq t n s 0 || wq t n s 1 || wq t n s 2 || wq t n s 3 || wq t n s 4 || wq t n s 5
theorem c_head {C : kSt} {s : Nat} (h : cR t n C s) : f_m7_isHeadOfLine C = some (hdB t n s, C) := by
  unfold f_m7_isHeadOfLine hdB
  rw [c_isWord (by omega) h]
  simp only [Option.bind_some, knx_e]
  rw [c_isWord (by omega) h]
  simp only [Option.bind_some]
  rw [c_isWord (by omega) h]
  simp only [Option.bind_some]
  rw [c_isWord (by omega) h]
  simp only [Option.bind_some]
  rw [c_isWord (by omega) h]
  simp only [Option.bind_some]
  rw [c_isWord (by omega) h]
  simp only [Option.bind_some]
  cases wq t n s 0 <;> cases wq t n s 1 <;> cases wq t n s 2 <;> cases wq t n s 3 <;> cases wq t n s 4 <;> cases wq t n s 5 <;> rfl
theorem m_mustName {M : kSt} {s : Nat} (h : mR t n M s) : (lexK t n s = 1 ∧ hdB t n s = false → f_m11_mustName M = some M) ∧ (¬ (lexK t n s = 1 ∧ hdB t n s = false) → f_m11_mustName M = some (flM M 1 s)) := by
  have h4 := tkM_2 _ (lexK_4 (t := t) (n := n) s)
  have w0 := m_isWord (i := 0) (by omega) h
  have w1 := m_isWord (i := 1) (by omega) h
  have w2 := m_isWord (i := 2) (by omega) h
  have w3 := m_isWord (i := 3) (by omega) h
  have w4 := m_isWord (i := 4) (by omega) h
  have w5 := m_isWord (i := 5) (by omega) h
  have wr : f_m11_wrong 1 (M.1 14 4) M = some (flM M 1 s) := by
    rw [h.at]
    exact m_wrg h.ok 1 s
  have key : f_m11_mustName M = if lexK t n s = 1 ∧ hdB t n s = false then some M else some (flM M 1 s) := by
    unfold f_m11_mustName
    simp only [knx_e]
    rw [h.2.2.2.2.1, kite (show nI (tkM (lexK t n s)) = 2 ↔ lexK t n s = 1 from (nI_eq (b := 2) (by omega) (by omega)).trans h4.1)]
    by_cases hK : lexK t n s = 1
    · rw [if_pos hK]
      simp only [w0, w1, w2, w3, w4, w5, wr, Option.bind_some, hK, true_and]
      unfold hdB
      cases wq t n s 0 <;> cases wq t n s 1 <;> cases wq t n s 2 <;> cases wq t n s 3 <;> cases wq t n s 4 <;> cases wq t n s 5 <;> rfl
    · rw [if_neg hK, if_neg (fun q => hK q.1)]
      simp only [wr, Option.bind_some]
  rw [key]
  exact ⟨fun q => if_pos q, fun q => if_neg q⟩
end NAM
