-- the text, token by token
theorem kuI_id {S : kSt} {k j : Nat} {x : Int32} (h : S.1 k j = x) : kuI S k j x = S := by
  refine Prod.ext (funext fun a => funext fun b => ?_) rfl
  rw [uI_get]
  by_cases q : a = k ∧ b = j
  · rw [if_pos q, q.1, q.2, h]
  · rw [if_neg q]
theorem kuI_2w (S : kSt) (k j : Nat) (x y : Int32) : kuI (kuI S k j x) k j y = kuI S k j y := by
  refine Prod.ext (funext fun a => funext fun b => ?_) rfl
  rw [uI_get, uI_get, uI_get]
  by_cases q : a = k ∧ b = j
  · rw [if_pos q, if_pos q]
  · rw [if_neg q, if_neg q, if_neg q]
def rn (P : Nat → Bool) (t : Nat → Nat) (n : Nat) : Nat → Nat → Nat
  | 0, i => i
  | f + 1, i => if i < n ∧ P (t i) = true then rn P t n f (i + 1) else i
def rnE (P : Nat → Bool) (t : Nat → Nat) (n i : Nat) : Nat := rn P t n (n - i) i
theorem rnE_t {P : Nat → Bool} {t : Nat → Nat} {n i : Nat} (h : i < n) (hp : P (t i) = true) : rnE P t n i = rnE P t n (i + 1) := by
  unfold rnE
  rw [show n - i = (n - (i + 1)) + 1 by omega, rn, if_pos ⟨h, hp⟩]
theorem rnE_f {P : Nat → Bool} {t : Nat → Nat} {n i : Nat} (h : ¬ (i < n ∧ P (t i) = true)) : rnE P t n i = i := by
  unfold rnE
  cases hd : n - i with
  | zero => rfl
  | succ k => rw [rn, if_neg h]
theorem rn_b {P : Nat → Bool} {t : Nat → Nat} {n : Nat} : ∀ (f i : Nat), i ≤ rn P t n f i ∧ (i ≤ n → rn P t n f i ≤ n) ∧ ∀ j, i ≤ j → j < rn P t n f i → P (t j) = true
  | 0, i => ⟨Nat.le_refl i, fun h => h, fun j h1 h2 => by rw [rn] at h2; omega⟩
  | f + 1, i => by
    rw [rn]
    by_cases q : i < n ∧ P (t i) = true
    · rw [if_pos q]
      obtain ⟨h1, h2, h3⟩ := rn_b f (i + 1)
      refine ⟨by omega, fun _ => h2 (by omega), fun j j1 j2 => ?_⟩
      by_cases e : j = i
      · rw [e]; exact q.2
      · exact h3 j (by omega) j2
    · rw [if_neg q]
      exact ⟨Nat.le_refl i, fun h => h, fun j h1 h2 => by omega⟩
theorem rnE_b (P : Nat → Bool) (t : Nat → Nat) (n i : Nat) : i ≤ rnE P t n i ∧ (i ≤ n → rnE P t n i ≤ n) ∧ ∀ j, i ≤ j → j < rnE P t n i → P (t j) = true := rn_b _ _
def spB (b : Nat) : Bool := decide (b = 32)
def ltB (b : Nat) : Bool := decide (97 ≤ b ∧ b ≤ 122)
def dgB (b : Nat) : Bool := decide (48 ≤ b ∧ b ≤ 57)
def sg (b : Nat) : Int32 := (nI b).toInt8.toInt32
theorem sg_id : ∀ b, b < 128 → sg b = nI b := by decide +kernel
theorem sg_ng : ∀ b, b < 256 → 128 ≤ b → sg b < 0 := by decide +kernel
theorem sg_eq {b k : Nat} (hb : b ≤ 255) (hk : k < 128) : sg b = nI k ↔ b = k := by
  by_cases h : b < 128
  · rw [sg_id b h, nI_eq (by omega) (by omega)]
  · have h1 := sg_ng b (by omega) (by omega)
    constructor
    · intro q
      rw [q] at h1
      exact absurd h1 (nI_pos (by omega))
    · intro q
      omega
theorem sg_lt {b k : Nat} (hb : b ≤ 255) (hk : k < 128) : sg b < nI k ↔ b < k ∨ 128 ≤ b := by
  by_cases h : b < 128
  · rw [sg_id b h, nI_ltI (by omega) (by omega)]
    omega
  · have h1 := sg_ng b (by omega) (by omega)
    constructor
    · intro _
      omega
    · intro _
      exact Int32.lt_of_lt_of_le h1 (nI_pos' (by omega))
theorem sg_gt {b k : Nat} (hb : b ≤ 255) (hk : k < 128) : nI k < sg b ↔ k < b ∧ b < 128 := by
  by_cases h : b < 128
  · rw [sg_id b h, nI_ltI (by omega) (by omega)]
    omega
  · have h1 := sg_ng b (by omega) (by omega)
    constructor
    · intro q
      exact absurd (Int32.lt_trans q h1) (nI_pos (by omega))
    · intro q
      omega
theorem c_isLetter {b : Nat} (hb : b ≤ 255) (S : kSt) : f_m7_isLetter (sg b) S = some (ltB b, S) := by
  unfold f_m7_isLetter ltB
  rw [kite (show sg b < 97 ↔ b < 97 ∨ 128 ≤ b from sg_lt (k := 97) hb (by omega)), kite (show 122 < sg b ↔ 122 < b ∧ b < 128 from sg_gt (k := 122) hb (by omega))]
  by_cases h1 : b < 97 ∨ 128 ≤ b
  · rw [if_pos h1, decide_eq_false (by omega)]
  · rw [if_neg h1]
    by_cases h2 : 122 < b ∧ b < 128
    · rw [if_pos h2, decide_eq_false (by omega)]
    · rw [if_neg h2, decide_eq_true (by omega)]
theorem c_isDigit {b : Nat} (hb : b ≤ 255) (S : kSt) : f_m7_isDigit (sg b) S = some (dgB b, S) := by
  unfold f_m7_isDigit dgB
  rw [kite (show sg b < 48 ↔ b < 48 ∨ 128 ≤ b from sg_lt (k := 48) hb (by omega)), kite (show 57 < sg b ↔ 57 < b ∧ b < 128 from sg_gt (k := 57) hb (by omega))]
  by_cases h1 : b < 48 ∨ 128 ≤ b
  · rw [if_pos h1, decide_eq_false (by omega)]
  · rw [if_neg h1]
    by_cases h2 : 57 < b ∧ b < 128
    · rw [if_pos h2, decide_eq_false (by omega)]
    · rw [if_neg h2, decide_eq_true (by omega)]
theorem m_isSmall {b : Nat} (hb : b ≤ 255) (S : kSt) : f_m11_isSmall (nI b) S = some (ltB b, S) := by
  unfold f_m11_isSmall ltB
  rw [kite (show nI b < 97 ↔ b < 97 from nI_ltI (b := 97) (by omega) (by omega)), kite (show 122 < nI b ↔ 122 < b from nI_ltI (a := 122) (by omega) (by omega))]
  by_cases h1 : b < 97
  · rw [if_pos h1, decide_eq_false (by omega)]
  · rw [if_neg h1]
    by_cases h2 : 122 < b
    · rw [if_pos h2, decide_eq_false (by omega)]
    · rw [if_neg h2, decide_eq_true (by omega)]
theorem m_isDigit {b : Nat} (hb : b ≤ 255) (S : kSt) : f_m11_isDigit (nI b) S = some (dgB b, S) := by
  unfold f_m11_isDigit dgB
  rw [kite (show nI b < 48 ↔ b < 48 from nI_ltI (b := 48) (by omega) (by omega)), kite (show 57 < nI b ↔ 57 < b from nI_ltI (a := 57) (by omega) (by omega))]
  by_cases h1 : b < 48
  · rw [if_pos h1, decide_eq_false (by omega)]
  · rw [if_neg h1]
    by_cases h2 : 57 < b
    · rw [if_pos h2, decide_eq_false (by omega)]
    · rw [if_neg h2, decide_eq_true (by omega)]
/-- the class's text; the reference's -/
def cT (t : Nat → Nat) (n : Nat) (C : kSt) : Prop := (∀ j, j < 900 → t j ≤ 255 ∧ C.1 15 j = sg (t j)) ∧ n ≤ 900 ∧ C.1 3 1 = nI n
def mT (t : Nat → Nat) (n : Nat) (M : kSt) : Prop := (∀ j, j < 900 → t j ≤ 255 ∧ M.1 55 j = nI (t j)) ∧ n ≤ 900 ∧ M.1 14 3 = nI n
theorem cT.c {t : Nat → Nat} {n : Nat} {C C' : kSt} (h : cT t n C) (h15 : C'.1 15 = C.1 15) (h3 : C'.1 3 1 = C.1 3 1) : cT t n C' := by
  obtain ⟨a, b, c⟩ := h
  exact ⟨fun j hj => by rw [h15]; exact a j hj, b, by rw [h3]; exact c⟩
theorem mT.c {t : Nat → Nat} {n : Nat} {M M' : kSt} (h : mT t n M) (h55 : M'.1 55 = M.1 55) (h14 : M'.1 14 3 = M.1 14 3) : mT t n M' := by
  obtain ⟨a, b, c⟩ := h
  exact ⟨fun j hj => by rw [h55]; exact a j hj, b, by rw [h14]; exact c⟩
theorem cT.u3 {t : Nat → Nat} {n : Nat} {C : kSt} (h : cT t n C) {j : Nat} (hj : j ≠ 1) (x : Int32) : cT t n (kuI C 3 j x) := h.c (kuI_ne _ _ _ (by decide)) (uI_no _ _ (by omega))
section LEX
variable {t : Nat → Nat} {n : Nat}
theorem c_spL {K : kSt → Option kSt} : ∀ (d i fu : Nat) (C : kSt), cT t n C → i + d = n → d < fu → C.1 3 2 = nI i → f_m7_next_L0 K fu C = K (kuI C 3 2 (nI (rnE spB t n i))) := by
  intro d
  induction d with
  | zero =>
    intro i fu C hT hi hfu h2
    obtain ⟨fu, rfl⟩ : ∃ m, fu = m + 1 := ⟨fu - 1, by omega⟩
    rw [f_m7_next_L0, hT.2.2, h2, if_pos (nI_le (by omega) (by have := hT.2.1; omega)), rnE_f (by omega), kuI_id h2]
  | succ d ih =>
    intro i fu C hT hi hfu h2
    obtain ⟨fu, rfl⟩ : ∃ m, fu = m + 1 := ⟨fu - 1, by omega⟩
    have hn := hT.2.1
    obtain ⟨b1, b2⟩ := hT.1 i (by omega)
    rw [f_m7_next_L0, hT.2.2, h2, if_neg (nI_ge (by omega) (by omega)), knx_e, kgi_nI (by omega) (by omega), nI_clamp (by omega), b2, kite (show sg (t i) = 32 ↔ t i = 32 from sg_eq (k := 32) b1 (by omega))]
    by_cases q : t i = 32
    · rw [if_pos q, knx_e, nI_1, ih (i + 1) fu _ (hT.u3 (by decide) _) (by omega) (by omega) (uI_at _ _ _ _), kuI_2w, rnE_t (P := spB) (t := t) (n := n) (i := i) (by omega) (decide_eq_true q)]
    · rw [if_neg q, rnE_f (fun h => q (of_decide_eq_true h.2)), kuI_id h2]
theorem c_ltL {K : kSt → Option kSt} : ∀ (d i fu : Nat) (C : kSt), cT t n C → i + d = n → d < fu → C.1 3 2 = nI i → f_m7_takeLetters_L0 K fu C = K (kuI C 3 2 (nI (rnE ltB t n i))) := by
  intro d
  induction d with
  | zero =>
    intro i fu C hT hi hfu h2
    obtain ⟨fu, rfl⟩ : ∃ m, fu = m + 1 := ⟨fu - 1, by omega⟩
    rw [f_m7_takeLetters_L0, hT.2.2, h2, if_pos (nI_le (by omega) (by have := hT.2.1; omega)), rnE_f (by omega), kuI_id h2]
  | succ d ih =>
    intro i fu C hT hi hfu h2
    obtain ⟨fu, rfl⟩ : ∃ m, fu = m + 1 := ⟨fu - 1, by omega⟩
    have hn := hT.2.1
    obtain ⟨b1, b2⟩ := hT.1 i (by omega)
    rw [f_m7_takeLetters_L0, hT.2.2, h2, if_neg (nI_ge (by omega) (by omega)), knx_e, kgi_nI (by omega) (by omega), nI_clamp (by omega), b2, c_isLetter b1]
    simp only [Option.bind_some]
    cases q : ltB (t i)
    · rw [if_neg (by decide), rnE_f (fun h => by rw [q] at h; exact absurd h.2 (by decide)), kuI_id h2]
    · rw [if_pos rfl, knx_e, h2, nI_1, ih (i + 1) fu _ (hT.u3 (by decide) _) (by omega) (by omega) (uI_at _ _ _ _), kuI_2w, rnE_t (by omega) q]
def dn (t : Nat → Nat) : Nat → Nat → Nat → Nat
  | 0, _, a => a
  | k + 1, i, a => dn t k (i + 1) (a * 10 + t i - 48)
theorem kuI_sw (S : kSt) {k j j' : Nat} (x y : Int32) (h : j ≠ j') : kuI (kuI S k j x) k j' y = kuI (kuI S k j' y) k j x := by
  refine Prod.ext (funext fun a => funext fun b => ?_) rfl
  rw [uI_get, uI_get, uI_get, uI_get]
  by_cases q : a = k ∧ b = j
  · have q2 : ¬ (a = k ∧ b = j') := by omega
    simp only [if_neg q2]
  · simp only [if_neg q]
theorem c_dgL {K : kSt → Option kSt} : ∀ (d i fu a : Nat) (C : kSt), cT t n C → i + d = n → d < fu → C.1 3 2 = nI i → C.1 3 5 = nI a → f_m7_takeDigits_L5 K fu C = K (kuI (kuI C 3 5 (nI (dn t (rnE dgB t n i - i) i a))) 3 2 (nI (rnE dgB t n i))) := by
  intro d
  induction d with
  | zero =>
    intro i fu a C hT hi hfu h2 h5
    obtain ⟨fu, rfl⟩ : ∃ m, fu = m + 1 := ⟨fu - 1, by omega⟩
    rw [f_m7_takeDigits_L5, hT.2.2, h2, if_pos (nI_le (by omega) (by have := hT.2.1; omega)), rnE_f (by omega), Nat.sub_self, dn, kuI_id h5, kuI_id h2]
  | succ d ih =>
    intro i fu a C hT hi hfu h2 h5
    obtain ⟨fu, rfl⟩ : ∃ m, fu = m + 1 := ⟨fu - 1, by omega⟩
    have hn := hT.2.1
    obtain ⟨b1, b2⟩ := hT.1 i (by omega)
    rw [f_m7_takeDigits_L5, hT.2.2, h2, if_neg (nI_ge (by omega) (by omega)), knx_e, kgi_nI (by omega) (by omega), nI_clamp (by omega), b2, c_isDigit b1]
    simp only [Option.bind_some]
    cases q : dgB (t i)
    · rw [if_neg (by decide), rnE_f (fun h => by rw [q] at h; exact absurd h.2 (by decide)), Nat.sub_self, dn, kuI_id h5, kuI_id h2]
    · have q2 : 48 ≤ t i ∧ t i ≤ 57 := of_decide_eq_true q
      rw [if_pos rfl, h2, knx_e, kgi_nI (by omega) (by omega), nI_clamp (by omega), h5, b2, sg_id _ (by omega), show nI a * 10 = nI (a * 10) from pk_mul a 10, nI_add, show nI (a * 10 + t i) - 48 = nI (a * 10 + t i - 48) from pk_sub (b := 48) (by omega), knx_e, knx_e, uI_no _ _ (by omega), h2, nI_1]
      have hT2 : cT t n (kuI (kuI C 3 5 (nI (a * 10 + t i - 48))) 3 2 (nI (i + 1))) := (hT.u3 (by decide) _).u3 (by decide) _
      rw [ih (i + 1) fu (a * 10 + t i - 48) _ hT2 (by omega) (by omega) (uI_at _ _ _ _) (by rw [uI_no _ _ (by omega), uI_at])]
      have hb := (rnE_b dgB t n (i + 1)).1
      rw [rnE_t (by omega) q, show rnE dgB t n (i + 1) - i = (rnE dgB t n (i + 1) - (i + 1)) + 1 by omega, dn, kuI_sw _ _ _ (show (2 : Nat) ≠ 5 by decide), kuI_2w, kuI_2w]
theorem dn_lt : ∀ (k i a : Nat), (∀ j, i ≤ j → j < i + k → dgB (t j) = true) → dn t k i a < (a + 1) * 10 ^ k
  | 0, i, a, _ => by rw [dn]; omega
  | k + 1, i, a, h => by
    have q : 48 ≤ t i ∧ t i ≤ 57 := of_decide_eq_true (h i (by omega) (by omega))
    have h1 := dn_lt k (i + 1) (a * 10 + t i - 48) (fun j j1 j2 => h j (by omega) (by omega))
    rw [dn]
    refine Nat.lt_of_lt_of_le h1 ?_
    rw [Nat.pow_succ, Nat.mul_comm (10 ^ k) 10, ← Nat.mul_assoc]
    exact Nat.mul_le_mul_right _ (by omega)
/-- the reference's lexer -/
def seeV (t : Nat → Nat) (n i : Nat) : Int32 := if i < n then nI (t i) else -1
theorem m_see {M : kSt} (hT : mT t n M) {i : Nat} (hi : i ≤ 900) : f_m11_see (nI i) M = some (seeV t n i, M) := by
  have hn := hT.2.1
  unfold f_m11_see seeV
  rw [hT.2.2, kite (nI_leI (a := n) (b := i) (by omega) (by omega))]
  by_cases q : i < n
  · rw [if_neg (by omega), if_pos q, kgi_nI (by omega) (by omega), nI_clamp (by omega), (hT.1 i (by omega)).2]
  · rw [if_pos (by omega), if_neg q]
theorem m_spL {K : Int32 → kSt → Option kSt} {M : kSt} (hT : mT t n M) : ∀ (d i fu : Nat), i + d = n → d < fu → f_m11_next_L5 K fu (nI i) M = K (nI (rnE spB t n i)) M := by
  have hn := hT.2.1
  intro d
  induction d with
  | zero =>
    intro i fu hi hfu
    obtain ⟨fu, rfl⟩ : ∃ m, fu = m + 1 := ⟨fu - 1, by omega⟩
    rw [f_m11_next_L5, m_see hT (by omega)]
    simp only [Option.bind_some]
    have hv : seeV t n i = -1 := if_neg (by omega)
    rw [hv, if_neg (by decide), rnE_f (by omega)]
  | succ d ih =>
    intro i fu hi hfu
    obtain ⟨fu, rfl⟩ : ∃ m, fu = m + 1 := ⟨fu - 1, by omega⟩
    have b1 := (hT.1 i (by omega)).1
    rw [f_m11_next_L5, m_see hT (by omega)]
    simp only [Option.bind_some]
    have hv : seeV t n i = nI (t i) := if_pos (by omega)
    rw [hv, kite (show nI (t i) = 32 ↔ t i = 32 from nI_eq (b := 32) (by omega) (by omega))]
    by_cases q : t i = 32
    · rw [if_pos q, knx_e, nI_1, ih (i + 1) fu (by omega) (by omega), rnE_t (P := spB) (t := t) (n := n) (i := i) (by omega) (decide_eq_true q)]
    · rw [if_neg q, rnE_f (fun h => q (of_decide_eq_true h.2))]
theorem m_seeS {M S : kSt} (hn : n ≤ 900) (hT : mT t n M) {i : Nat} : f_m11_isSmall (seeV t n i) S = some (decide (i < n) && ltB (t i), S) := by
  unfold seeV
  by_cases q : i < n
  · rw [if_pos q, m_isSmall (hT.1 i (by omega)).1, decide_eq_true q, Bool.true_and]
  · rw [if_neg q, decide_eq_false q]
    rfl
theorem m_seeD {M S : kSt} (hn : n ≤ 900) (hT : mT t n M) {i : Nat} : f_m11_isDigit (seeV t n i) S = some (decide (i < n) && dgB (t i), S) := by
  unfold seeV
  by_cases q : i < n
  · rw [if_pos q, m_isDigit (hT.1 i (by omega)).1, decide_eq_true q, Bool.true_and]
  · rw [if_neg q, decide_eq_false q]
    rfl
theorem m_ltL {K : Int32 → kSt → Option kSt} : ∀ (d i fu c : Nat) (M : kSt), mT t n M → i + d = n → d < fu → c ≤ i → M.1 14 8 = nI c → ∃ M', f_m11_next_L67 K fu (nI i) M = K (nI (rnE ltB t n i)) M' ∧ M'.1 14 8 = nI (c + (rnE ltB t n i - i)) ∧ (∀ k, c ≤ k → k < c + (rnE ltB t n i - i) → k < 8 → M'.1 56 k = nI (t (i + (k - c)))) ∧ (∀ k, k < c → M'.1 56 k = M.1 56 k) ∧ (∀ a, a ≠ 14 → a ≠ 56 → M'.1 a = M.1 a) ∧ (∀ j, j ≠ 8 → M'.1 14 j = M.1 14 j) := by
  intro d
  induction d with
  | zero =>
    intro i fu c M hT hi hfu hc h8
    have hn := hT.2.1
    obtain ⟨fu, rfl⟩ : ∃ m, fu = m + 1 := ⟨fu - 1, by omega⟩
    refine ⟨M, ?_, ?_, fun k k1 k2 => ?_, fun _ _ => rfl, fun _ _ _ => rfl, fun _ _ => rfl⟩
    · rw [f_m11_next_L67, m_see hT (by omega)]
      simp only [Option.bind_some]
      rw [m_seeS hn hT, decide_eq_false (by omega), Bool.false_and]
      simp only [Option.bind_some, Bool.false_eq_true, if_false]
      rw [rnE_f (by omega)]
    · rw [rnE_f (by omega), Nat.sub_self]
      exact h8
    · rw [rnE_f (by omega)] at k2
      omega
  | succ d ih =>
    intro i fu c M hT hi hfu hc h8
    have hn := hT.2.1
    obtain ⟨fu, rfl⟩ : ∃ m, fu = m + 1 := ⟨fu - 1, by omega⟩
    rw [f_m11_next_L67, m_see hT (by omega)]
    simp only [Option.bind_some]
    rw [m_seeS hn hT, decide_eq_true (show i < n by omega), Bool.true_and]
    simp only [Option.bind_some, knx_e]
    cases q : ltB (t i)
    · rw [if_neg (by decide), rnE_f (fun h => by rw [q] at h; exact absurd h.2 (by decide))]
      exact ⟨M, rfl, by rw [Nat.sub_self]; exact h8, fun k k1 k2 => by omega, fun _ _ => rfl, fun _ _ _ => rfl, fun _ _ => rfl⟩
    · rw [if_pos rfl, h8, kite (show (8 : Int32) ≤ nI c ↔ 8 ≤ c from nI_leI (a := 8) (by omega) (by omega)), rnE_t (by omega) q]
      have hb := (rnE_b ltB t n (i + 1)).1
      have hb2 := (rnE_b ltB t n (i + 1)).2.1 (by omega)
      by_cases q8 : 8 ≤ c
      · rw [if_pos q8, nI_1, nI_1]
        obtain ⟨M', g1, g2, g3, g4, g5, g6⟩ := ih (i + 1) fu (c + 1) (kuI M 14 8 (nI (c + 1))) (hT.c (kuI_ne _ _ _ (by decide)) (uI_no _ _ (by omega))) (by omega) (by omega) (by omega) (uI_at _ _ _ _)
        refine ⟨M', g1, by rw [g2]; congr 1; omega, fun k k1 k2 k3 => by omega, fun k hk => ?_, fun a a1 a2 => ?_, fun j hj => ?_⟩
        · rw [g4 k (by omega), kuI_ne _ _ _ (by decide)]
        · rw [g5 a a1 a2, kuI_ne _ _ _ a1]
        · rw [g6 j hj, uI_no _ _ (by omega)]
      · rw [if_neg q8, m_see hT (by omega)]
        simp only [Option.bind_some]
        rw [kgi_nI (by omega) (by omega), nI_clamp (by omega), uI_no _ _ (by omega), h8, nI_1, nI_1]
        obtain ⟨M', g1, g2, g3, g4, g5, g6⟩ := ih (i + 1) fu (c + 1) (kuI (kuI M 56 c (seeV t n i)) 14 8 (nI (c + 1))) (hT.c (by rw [kuI_ne _ _ _ (by decide), kuI_ne _ _ _ (by decide)]) (by rw [uI_no _ _ (by omega), uI_no _ _ (by omega)])) (by omega) (by omega) (by omega) (uI_at _ _ _ _)
        refine ⟨M', g1, by rw [g2]; congr 1; omega, fun k k1 k2 k3 => ?_, fun k hk => ?_, fun a a1 a2 => ?_, fun j hj => ?_⟩
        · by_cases e : k = c
          · subst e
            rw [g4 k (by omega), uI_no _ _ (by omega), uI_at, Nat.sub_self]
            unfold seeV
            rw [if_pos (by omega)]
            rfl
          · rw [g3 k (by omega) (by omega) k3]
            congr 2
            omega
        · rw [g4 k (by omega), uI_no _ _ (by omega), uI_no _ _ (by omega)]
        · rw [g5 a a1 a2, kuI_ne _ _ _ a1, kuI_ne _ _ _ a2]
        · rw [g6 j hj, uI_no _ _ (by omega), uI_no _ _ (by omega)]
theorem m_dgL {K : Int32 → Int32 → kSt → Option kSt} : ∀ (d i fu c a : Nat) (M : kSt), mT t n M → i + d = n → d < fu → c ≤ i → (c ≤ 3 → M.1 14 7 = nI a) → ∃ M', f_m11_next_L152 K fu (nI i) (nI c) M = K (nI (rnE dgB t n i)) (nI (c + (rnE dgB t n i - i))) M' ∧ (c + (rnE dgB t n i - i) ≤ 3 → M'.1 14 7 = nI (dn t (rnE dgB t n i - i) i a)) ∧ (∀ k, k ≠ 14 → M'.1 k = M.1 k) ∧ (∀ j, j ≠ 7 → M'.1 14 j = M.1 14 j) := by
  intro d
  induction d with
  | zero =>
    intro i fu c a M hT hi hfu hc h7
    have hn := hT.2.1
    obtain ⟨fu, rfl⟩ : ∃ m, fu = m + 1 := ⟨fu - 1, by omega⟩
    rw [rnE_f (show ¬ (i < n ∧ dgB (t i) = true) by omega), Nat.sub_self, dn]
    refine ⟨M, ?_, h7, fun _ _ => rfl, fun _ _ => rfl⟩
    rw [f_m11_next_L152, m_see hT (by omega)]
    simp only [Option.bind_some]
    rw [m_seeD hn hT, decide_eq_false (by omega), Bool.false_and]
    simp only [Option.bind_some, Bool.false_eq_true, if_false]
    rfl
  | succ d ih =>
    intro i fu c a M hT hi hfu hc h7
    have hn := hT.2.1
    obtain ⟨fu, rfl⟩ : ∃ m, fu = m + 1 := ⟨fu - 1, by omega⟩
    rw [f_m11_next_L152, m_see hT (by omega)]
    simp only [Option.bind_some]
    rw [m_seeD hn hT, decide_eq_true (show i < n by omega), Bool.true_and]
    simp only [Option.bind_some, knx_e]
    cases q : dgB (t i)
    · rw [if_neg (by decide), rnE_f (fun h => by rw [q] at h; exact absurd h.2 (by decide)), Nat.sub_self, dn]
      exact ⟨M, rfl, h7, fun _ _ => rfl, fun _ _ => rfl⟩
    · have q2 : 48 ≤ t i ∧ t i ≤ 57 := of_decide_eq_true q
      rw [if_pos rfl, kite (show (3 : Int32) ≤ nI c ↔ 3 ≤ c from nI_leI (a := 3) (by omega) (by omega)), rnE_t (by omega) q]
      have hb := (rnE_b dgB t n (i + 1)).1
      by_cases q3 : 3 ≤ c
      · rw [if_pos q3, nI_1, nI_1]
        obtain ⟨M', g1, g2, g3, g4⟩ := ih (i + 1) fu (c + 1) a M hT (by omega) (by omega) (by omega) (fun h => by omega)
        refine ⟨M', ?_, fun h => by omega, g3, g4⟩
        rw [g1]
        congr 2
        omega
      · rw [if_neg q3, m_see hT (by omega)]
        simp only [Option.bind_some]
        have e7 : ((10 * (M.1 14 7)) + seeV t n i) - 48 = nI (a * 10 + t i - 48) := by
          unfold seeV
          rw [if_pos (by omega), h7 (by omega), show 10 * nI a = nI (10 * a) from pk_mul 10 a, nI_add, Nat.mul_comm 10 a]
          exact pk_sub (b := 48) (by omega)
        rw [e7, nI_1, nI_1]
        obtain ⟨M', g1, g2, g3, g4⟩ := ih (i + 1) fu (c + 1) (a * 10 + t i - 48) (kuI M 14 7 (nI (a * 10 + t i - 48))) (hT.c (kuI_ne _ _ _ (by decide)) (uI_no _ _ (by omega))) (by omega) (by omega) (by omega) (fun _ => uI_at _ _ _ _)
        refine ⟨M', ?_, fun h => ?_, fun k hk => ?_, fun j hj => ?_⟩
        · rw [g1]
          congr 2
          omega
        · rw [g2 (by omega), show rnE dgB t n (i + 1) - i = (rnE dgB t n (i + 1) - (i + 1)) + 1 by omega, dn]
        · rw [g3 k hk, kuI_ne _ _ _ hk]
        · rw [g4 j hj, uI_no _ _ (by omega)]
/-- where the token at s ends, its kind (0 the end, 1 a word, 2 a whole, 3 a sign, 4 none), where the next one begins -/
def lexE (t : Nat → Nat) (n s : Nat) : Nat := if s < n then (if ltB (t s) = true then rnE ltB t n s else if dgB (t s) = true then rnE dgB t n s else s + 1) else s
def lexK (t : Nat → Nat) (n s : Nat) : Nat := if s < n then (if ltB (t s) = true then (if 8 < rnE ltB t n s - s then 4 else 1) else if dgB (t s) = true then (if 3 < rnE dgB t n s - s then 4 else 2) else if t s = 59 then 3 else 4) else 0
def tkM (k : Nat) : Nat := if k = 0 then 0 else if k = 1 then 2 else if k = 2 then 3 else if k = 3 then 59 else 1
def nxS (t : Nat → Nat) (n s : Nat) : Nat := rnE spB t n (lexE t n s)
def wvN (t : Nat → Nat) (n s : Nat) : Nat := dn t (lexE t n s - s) s 0
theorem lexE_b {s : Nat} (hs : s ≤ n) : s ≤ lexE t n s ∧ lexE t n s ≤ n := by
  unfold lexE
  by_cases h : s < n
  · rw [if_pos h]
    by_cases h1 : ltB (t s) = true
    · rw [if_pos h1]
      exact ⟨(rnE_b _ _ _ _).1, (rnE_b _ _ _ _).2.1 hs⟩
    · rw [if_neg h1]
      by_cases h2 : dgB (t s) = true
      · rw [if_pos h2]
        exact ⟨(rnE_b _ _ _ _).1, (rnE_b _ _ _ _).2.1 hs⟩
      · rw [if_neg h2]
        omega
  · rw [if_neg h]
    omega
theorem nxS_b {s : Nat} (hs : s ≤ n) : lexE t n s ≤ nxS t n s ∧ nxS t n s ≤ n := ⟨(rnE_b _ _ _ _).1, (rnE_b _ _ _ _).2.1 (lexE_b hs).2⟩
/-- a word's letters -/
theorem lexK_1 {s : Nat} (h : lexK t n s = 1) : s < n ∧ lexE t n s - s ≤ 8 ∧ s < lexE t n s ∧ ∀ k, k < lexE t n s - s → ltB (t (s + k)) = true := by
  unfold lexK at h
  unfold lexE
  by_cases h0 : s < n
  · rw [if_pos h0] at h ⊢
    by_cases h1 : ltB (t s) = true
    · rw [if_pos h1] at h ⊢
      by_cases h2 : 8 < rnE ltB t n s - s
      · rw [if_pos h2] at h
        omega
      · refine ⟨h0, by omega, ?_, fun k hk => (rnE_b ltB t n s).2.2 (s + k) (by omega) (by omega)⟩
        have := (rnE_b ltB t n (s + 1)).1
        rw [rnE_t h0 h1]
        omega
    · rw [if_neg h1] at h
      by_cases h2 : dgB (t s) = true
      · rw [if_pos h2] at h
        by_cases h3 : 3 < rnE dgB t n s - s
        · rw [if_pos h3] at h; omega
        · rw [if_neg h3] at h; omega
      · rw [if_neg h2] at h
        by_cases h3 : t s = 59
        · rw [if_pos h3] at h; omega
        · rw [if_neg h3] at h; omega
  · rw [if_neg h0] at h
    omega
theorem lexK_2 {s : Nat} (h : lexK t n s = 2) : wvN t n s ≤ 999 := by
  unfold lexK at h
  unfold wvN lexE
  by_cases h0 : s < n
  · rw [if_pos h0] at h ⊢
    by_cases h1 : ltB (t s) = true
    · rw [if_pos h1] at h
      by_cases h2 : 8 < rnE ltB t n s - s
      · rw [if_pos h2] at h; omega
      · rw [if_neg h2] at h; omega
    · rw [if_neg h1] at h ⊢
      by_cases h2 : dgB (t s) = true
      · rw [if_pos h2] at h ⊢
        by_cases h3 : 3 < rnE dgB t n s - s
        · rw [if_pos h3] at h; omega
        · have hb := rnE_b dgB t n s
          have hl := dn_lt (t := t) (rnE dgB t n s - s) s 0 (fun j j1 j2 => hb.2.2 j j1 (by omega))
          have h4 : (10 : Nat) ^ (rnE dgB t n s - s) ≤ 10 ^ 3 := Nat.pow_le_pow_right (by omega) (by omega)
          have h5 : (10 : Nat) ^ 3 = 1000 := rfl
          omega
      · rw [if_neg h2] at h
        by_cases h3 : t s = 59
        · rw [if_pos h3] at h; omega
        · rw [if_neg h3] at h; omega
  · rw [if_neg h0] at h
    omega
theorem lexK_3 {s : Nat} (h : lexK t n s = 3) : s < n ∧ s < lexE t n s := by
  unfold lexK at h
  unfold lexE
  by_cases h0 : s < n
  · rw [if_pos h0] at h ⊢
    refine ⟨h0, ?_⟩
    by_cases h1 : ltB (t s) = true
    · rw [if_pos h1] at h
      by_cases h2 : 8 < rnE ltB t n s - s
      · rw [if_pos h2] at h; omega
      · rw [if_neg h2] at h; omega
    · rw [if_neg h1] at h ⊢
      by_cases h2 : dgB (t s) = true
      · rw [if_pos h2] at h
        by_cases h3 : 3 < rnE dgB t n s - s
        · rw [if_pos h3] at h; omega
        · rw [if_neg h3] at h; omega
      · rw [if_neg h2]
        omega
  · rw [if_neg h0] at h
    omega
theorem lexK_4 (s : Nat) : lexK t n s ≤ 4 := by
  unfold lexK
  repeat (first | omega | split)
/-- the class looks at the token at s; the reference does -/
def cR (t : Nat → Nat) (n : Nat) (C : kSt) (s : Nat) : Prop := cT t n C ∧ s ≤ n ∧ C.1 3 4 = nI s ∧ C.1 3 2 = nI (lexE t n s) ∧ C.1 3 3 = nI (lexK t n s) ∧ (lexK t n s = 2 → C.1 3 5 = nI (wvN t n s)) ∧ C.1 3 9 = 0
def mR (t : Nat → Nat) (n : Nat) (M : kSt) (s : Nat) : Prop := mT t n M ∧ s ≤ n ∧ M.1 14 4 = nI s ∧ M.1 14 5 = nI (lexE t n s) ∧ M.1 14 6 = nI (tkM (lexK t n s)) ∧ (lexK t n s = 1 → M.1 14 8 = nI (lexE t n s - s) ∧ ∀ k, k < lexE t n s - s → M.1 56 k = nI (t (s + k))) ∧ (lexK t n s = 2 → M.1 14 7 = nI (wvN t n s)) ∧ M.1 14 9 = 0 ∧ M.1 14 13 = 0
def eqC (C C' : kSt) : Prop := ∀ a, a ≠ 3 → C'.1 a = C.1 a
def eqM (M M' : kSt) : Prop := (∀ a, a ≠ 14 → a ≠ 56 → M'.1 a = M.1 a) ∧ ∀ j, ¬ (4 ≤ j ∧ j ≤ 10) → j ≠ 13 → M'.1 14 j = M.1 14 j
theorem c_nxt {C : kSt} {e : Nat} (hT : cT t n C) (he : e ≤ n) (h2 : C.1 3 2 = nI e) (h9 : C.1 3 9 = 0) : ∃ C', f_m7_next C = some C' ∧ cR t n C' (rnE spB t n e) ∧ eqC C C' := by
  have hn := hT.2.1
  have hF := kFU_big
  have hb := rnE_b spB t n e
  have hsn := hb.2.1 he
  unfold f_m7_next
  rw [c_spL (t := t) (n := n) (n - e) e kFU C hT (by omega) (by omega) h2]
  generalize rnE spB t n e = s at *
  simp only [knx_e]
  have hT2 : cT t n (kuI (kuI C 3 2 (nI s)) 3 4 (nI s)) := (hT.u3 (by decide) _).u3 (by decide) _
  rw [uI_at, uI_no _ _ (show ¬ ((3 : Nat) = 3 ∧ 2 = 4) by omega), uI_at, hT2.2.2, kite (nI_ltI (a := s) (b := n) (by omega) (by omega))]
  have e4 : (kuI (kuI C 3 2 (nI s)) 3 4 (nI s)).1 3 4 = nI s := uI_at _ _ _ _
  have e2 : (kuI (kuI C 3 2 (nI s)) 3 4 (nI s)).1 3 2 = nI s := by rw [uI_no _ _ (by omega), uI_at]
  have e9 : (kuI (kuI C 3 2 (nI s)) 3 4 (nI s)).1 3 9 = 0 := by rw [uI_no _ _ (by omega), uI_no _ _ (by omega)]; exact h9
  have ee : eqC C (kuI (kuI C 3 2 (nI s)) 3 4 (nI s)) := fun a ha => by rw [kuI_ne _ _ _ ha, kuI_ne _ _ _ ha]
  generalize kuI (kuI C 3 2 (nI s)) 3 4 (nI s) = D at *
  unfold cR
  by_cases h0 : s < n
  · obtain ⟨b1, b2⟩ := hT2.1 s (by omega)
    rw [if_pos h0, kgi_nI (by omega) (by omega), nI_clamp (by omega), b2, c_isLetter b1]
    simp only [Option.bind_some]
    by_cases h1 : ltB (t s) = true
    · have hE : lexE t n s = rnE ltB t n s := by unfold lexE; rw [if_pos h0, if_pos h1]
      have hK : lexK t n s = if 8 < rnE ltB t n s - s then 4 else 1 := by unfold lexK; rw [if_pos h0, if_pos h1]
      have hbl := rnE_b ltB t n s
      have hbn := hbl.2.1 hsn
      rw [if_pos h1]
      unfold f_m7_takeLetters
      rw [c_ltL (t := t) (n := n) (n - s) s kFU D hT2 (by omega) (by omega) e2]
      simp only [knx_e, Option.bind_some]
      rw [uI_at, uI_no _ _ (show ¬ ((3 : Nat) = 3 ∧ 4 = 2) by omega), e4, pk_sub hbl.1, kite (show (8 : Int32) < nI (rnE ltB t n s - s) ↔ 8 < rnE ltB t n s - s from nI_ltI (a := 8) (by omega) (by omega))]
      refine ⟨_, rfl, ⟨(hT2.u3 (by decide) _).u3 (by decide) _, hsn, ?_, ?_, ?_, fun q => ?_, ?_⟩, fun a ha => ?_⟩
      · rw [uI_no _ _ (by omega), uI_no _ _ (by omega), e4]
      · rw [uI_no _ _ (by omega), uI_at, hE]
      · rw [uI_at, hK]
        by_cases h8 : 8 < rnE ltB t n s - s
        · rw [if_pos h8, if_pos h8]; rfl
        · rw [if_neg h8, if_neg h8]; rfl
      · rw [hK] at q
        by_cases h8 : 8 < rnE ltB t n s - s
        · rw [if_pos h8] at q; omega
        · rw [if_neg h8] at q; omega
      · rw [uI_no _ _ (by omega), uI_no _ _ (by omega), e9]
      · rw [kuI_ne _ _ _ ha, kuI_ne _ _ _ ha, ee a ha]
    · rw [if_neg h1, e2, kgi_nI (by omega) (by omega), nI_clamp (by omega), b2, c_isDigit b1]
      simp only [Option.bind_some]
      by_cases hd : dgB (t s) = true
      · have hE : lexE t n s = rnE dgB t n s := by unfold lexE; rw [if_pos h0, if_neg h1, if_pos hd]
        have hK : lexK t n s = if 3 < rnE dgB t n s - s then 4 else 2 := by unfold lexK; rw [if_pos h0, if_neg h1, if_pos hd]
        have hbl := rnE_b dgB t n s
        have hbn := hbl.2.1 hsn
        rw [if_pos hd]
        unfold f_m7_takeDigits
        rw [knx_e, c_dgL (t := t) (n := n) (n - s) s kFU 0 (kuI D 3 5 0) (hT2.u3 (by decide) _) (by omega) (by omega) (by rw [uI_no _ _ (by omega)]; exact e2) (uI_at _ _ _ _)]
        simp only [knx_e, Option.bind_some]
        rw [uI_at, uI_no _ _ (show ¬ ((3 : Nat) = 3 ∧ 4 = 2) by omega), uI_no _ _ (show ¬ ((3 : Nat) = 3 ∧ 4 = 5) by omega), uI_no _ _ (show ¬ ((3 : Nat) = 3 ∧ 4 = 5) by omega), e4, pk_sub hbl.1, kite (show (3 : Int32) < nI (rnE dgB t n s - s) ↔ 3 < rnE dgB t n s - s from nI_ltI (a := 3) (by omega) (by omega))]
        refine ⟨_, rfl, ⟨(((hT2.u3 (by decide) _).u3 (by decide) _).u3 (by decide) _).u3 (by decide) _, hsn, ?_, ?_, ?_, fun q => ?_, ?_⟩, fun a ha => ?_⟩
        · rw [uI_no _ _ (by omega), uI_no _ _ (by omega), uI_no _ _ (by omega), uI_no _ _ (by omega), e4]
        · rw [uI_no _ _ (by omega), uI_at, hE]
        · rw [uI_at, hK]
          by_cases h8 : 3 < rnE dgB t n s - s
          · rw [if_pos h8, if_pos h8]; rfl
          · rw [if_neg h8, if_neg h8]; rfl
        · rw [uI_no _ _ (by omega), uI_no _ _ (by omega), uI_at]
          unfold wvN
          rw [hE]
        · rw [uI_no _ _ (by omega), uI_no _ _ (by omega), uI_no _ _ (by omega), uI_no _ _ (by omega), e9]
        · rw [kuI_ne _ _ _ ha, kuI_ne _ _ _ ha, kuI_ne _ _ _ ha, kuI_ne _ _ _ ha, ee a ha]
      · have hE : lexE t n s = s + 1 := by unfold lexE; rw [if_pos h0, if_neg h1, if_neg hd]
        have hK : lexK t n s = if t s = 59 then 3 else 4 := by unfold lexK; rw [if_pos h0, if_neg h1, if_neg hd]
        rw [if_neg hd, e2, kgi_nI (by omega) (by omega), nI_clamp (by omega), b2, kite (show sg (t s) = 59 ↔ t s = 59 from sg_eq (k := 59) b1 (by omega)), uI_no _ _ (show ¬ ((3 : Nat) = 3 ∧ 2 = 3) by omega), e2, nI_1]
        refine ⟨_, rfl, ⟨(hT2.u3 (by decide) _).u3 (by decide) _, hsn, ?_, ?_, ?_, fun q => ?_, ?_⟩, fun a ha => ?_⟩
        · rw [uI_no _ _ (by omega), uI_no _ _ (by omega), e4]
        · rw [uI_at, hE]
        · rw [uI_no _ _ (by omega), uI_at, hK]
          by_cases h8 : t s = 59
          · rw [if_pos h8, if_pos h8]; rfl
          · rw [if_neg h8, if_neg h8]; rfl
        · rw [hK] at q
          by_cases h8 : t s = 59
          · rw [if_pos h8] at q; omega
          · rw [if_neg h8] at q; omega
        · rw [uI_no _ _ (by omega), uI_no _ _ (by omega), e9]
        · rw [kuI_ne _ _ _ ha, kuI_ne _ _ _ ha, ee a ha]
  · have hE : lexE t n s = s := by unfold lexE; rw [if_neg h0]
    have hK : lexK t n s = 0 := by unfold lexK; rw [if_neg h0]
    rw [if_neg h0]
    refine ⟨_, rfl, ⟨hT2.u3 (by decide) _, hsn, ?_, ?_, ?_, fun q => by omega, ?_⟩, fun a ha => ?_⟩
    · rw [uI_no _ _ (by omega), e4]
    · rw [uI_no _ _ (by omega), e2, hE]
    · rw [uI_at, hK]; rfl
    · rw [uI_no _ _ (by omega), e9]
    · rw [kuI_ne _ _ _ ha, ee a ha]
end LEX
