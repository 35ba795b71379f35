-- lowest terms
theorem lN_0 {a : Nat} (h : a < 2 ^ 63) : lg_cmp (lN a) 0 = 0 ↔ a = 0 := by
  rw [lg_cmp_eq, show (0 : Int64) = lN 0 from rfl, pk_lEQ h (by omega)]
theorem kgzL_lN {α : Type} {n : Nat} {o : Option α} (h0 : 0 < n) (h : n < 2 ^ 63) : kgzL (lN n) o = o := by
  refine if_neg (fun q => ?_)
  rw [show (0 : Int64) = lN 0 from rfl, pk_lEQ h (by omega)] at q
  omega
theorem kremL_lN {a b : Nat} (ha : a < 2 ^ 63) (h0 : 0 < b) (hb : b < 2 ^ 63) : kremL (lN a) (lN b) = lN (a % b) := pk_lRem ha h0 hb
theorem md_half {a b : Nat} (h0 : 0 < b) (h : b ≤ a) : 2 * (a % b) < a := by
  have h1 := Nat.mod_lt a h0
  have h2 := Nat.div_add_mod a b
  have h3 : 1 ≤ a / b := Nat.div_pos h h0
  have h4 : b * 1 ≤ b * (a / b) := Nat.mul_le_mul_left b h3
  omega
theorem c_redL {c1 c3 : Int64} (K : Int64 → kSt → Option kSt) : ∀ (n j fu a b : Nat) (S : kSt), a < 2 ^ n → a < 2 ^ 63 → b < 2 ^ 63 → 2 * n + j ≤ 100 → 2 * n < fu → f_m6_reduce_L9 K c1 c3 fu (lN b) (lN a) (nI j) S = K (lN (Nat.gcd a b)) S := by
  intro n
  induction n with
  | zero =>
    intro j fu a b S ha ha6 hb hj hfu
    obtain ⟨fu, rfl⟩ : ∃ m, fu = m + 1 := ⟨fu - 1, by omega⟩
    have h0 : a = 0 := by simpa using ha
    subst h0
    rw [f_m6_reduce_L9, Nat.gcd_zero_left, if_pos ((lN_0 (by omega)).mpr rfl)]
    split <;> rfl
  | succ n ih =>
    intro j fu a b S ha ha6 hb hj hfu
    obtain ⟨fu, rfl⟩ : ∃ m, fu = m + 2 := ⟨fu - 2, by omega⟩
    rw [f_m6_reduce_L9]
    by_cases h0 : a = 0
    · subst h0
      rw [Nat.gcd_zero_left, if_pos ((lN_0 (by omega)).mpr rfl)]
      split <;> rfl
    · rw [if_neg (show ¬ (100 : Int32) ≤ nI j from nI_ge (b := 100) (by omega) (by omega)), if_neg (fun q => h0 ((lN_0 ha6).mp q)), kgzL_lN (by omega) ha6, kremL_lN hb (by omega) ha6]
      simp only [knx]
      have h1 := Nat.mod_lt b (show a > 0 by omega)
      rw [nI_1, f_m6_reduce_L9, Nat.gcd_rec]
      by_cases h2 : b % a = 0
      · rw [h2, Nat.gcd_zero_left, if_pos ((lN_0 (by omega)).mpr rfl)]
        split <;> rfl
      · rw [if_neg (show ¬ (100 : Int32) ≤ nI (j + 1) from nI_ge (b := 100) (by omega) (by omega)), if_neg (fun q => h2 ((lN_0 (by omega)).mp q)), kgzL_lN (by omega) (by omega), kremL_lN ha6 (by omega) (by omega)]
        simp only [knx]
        have h3 := md_half (a := a) (b := b % a) (by omega) (by omega)
        rw [nI_1, Nat.gcd_rec]
        exact ih (j + 1 + 1) fu _ _ S (by rw [Nat.pow_succ] at ha; omega) (by omega) (by omega) (by omega) (by omega)
theorem m_lowL {c0 c2 : Int64} {c4 : Bool} (K : Int64 → kSt → Option (Int64 × kSt)) : ∀ (n fu a b : Nat) (S : kSt), a < 2 ^ n → a < 2 ^ 63 → b < 2 ^ 63 → 2 * n < fu → f_m11_lowest_L6 K c0 c2 c4 fu (lN b) (lN a) S = K (lN (Nat.gcd a b)) S := by
  intro n
  induction n with
  | zero =>
    intro fu a b S ha ha6 hb hfu
    obtain ⟨fu, rfl⟩ : ∃ m, fu = m + 1 := ⟨fu - 1, by omega⟩
    have h0 : a = 0 := by simpa using ha
    subst h0
    rw [f_m11_lowest_L6, Nat.gcd_zero_left, if_pos ((lN_0 (by omega)).mpr rfl)]
  | succ n ih =>
    intro fu a b S ha ha6 hb hfu
    obtain ⟨fu, rfl⟩ : ∃ m, fu = m + 2 := ⟨fu - 2, by omega⟩
    rw [f_m11_lowest_L6]
    by_cases h0 : a = 0
    · subst h0
      rw [Nat.gcd_zero_left, if_pos ((lN_0 (by omega)).mpr rfl)]
    · rw [if_neg (fun q => h0 ((lN_0 ha6).mp q)), kgzL_lN (by omega) ha6, kremL_lN hb (by omega) ha6]
      simp only [knx]
      have h1 := Nat.mod_lt b (show a > 0 by omega)
      rw [f_m11_lowest_L6, Nat.gcd_rec]
      by_cases h2 : b % a = 0
      · rw [h2, Nat.gcd_zero_left, if_pos ((lN_0 (by omega)).mpr rfl)]
      · rw [if_neg (fun q => h2 ((lN_0 (by omega)).mp q)), kgzL_lN (by omega) (by omega), kremL_lN ha6 (by omega) (by omega)]
        simp only [knx]
        have h3 := md_half (a := a) (b := b % a) (by omega) (by omega)
        rw [Nat.gcd_rec]
        exact ih fu _ _ S (by rw [Nat.pow_succ] at ha; omega) (by omega) (by omega) (by omega)
def loT (a b : Nat) (lo : Bool) : Nat := (if lo then b else a) / Nat.gcd a b
theorem m_lowest {a b : Nat} (lo : Bool) (S : kSt) (ha : a < 2 ^ 45) (hb : b < 2 ^ 45) (h0 : 0 < b) : f_m11_lowest (lN a) (lN b) lo S = some (lN (loT a b lo), S) := by
  unfold f_m11_lowest
  have hg : 0 < Nat.gcd a b := Nat.gcd_pos_of_pos_right a h0
  have hg2 : Nat.gcd a b ≤ b := Nat.gcd_le_right a h0
  rw [m_lowL _ 45 kFU a b S ha (by omega) (by omega) (by decide)]
  simp only [knx]
  rw [kgzL_lN hg (by omega)]
  unfold loT
  cases lo
  · simp only [Bool.false_eq_true, if_false]
    rw [pk_lDiv (by omega) hg (by omega)]
  · simp only [if_true]
    rw [pk_lDiv (by omega) hg (by omega)]
theorem c_ratio {a b : Nat} (lo : Bool) (S : kSt) (ha : a < 2 ^ 45) (hb : b < 2 ^ 45) (h0 : 0 < b) : ∃ S', ((f_m6_reduce (lN a) (lN b) S).bind fun q6 => (f_m6_part lo q6).bind fun q7 => some (q7.1, q7.2)) = some (lN (loT a b lo), S') ∧ S'.1 = S.1 := by
  unfold f_m6_reduce
  have hg : 0 < Nat.gcd a b := Nat.gcd_pos_of_pos_right a h0
  have hg2 : Nat.gcd a b ≤ b := Nat.gcd_le_right a h0
  rw [show (0 : Int32) = nI 0 from rfl, c_redL _ 45 0 kFU a b S ha (by omega) (by omega) (by decide) (by decide)]
  simp only [knx]
  rw [if_neg (fun q => by have := (lN_0 (show Nat.gcd a b < 2 ^ 63 by omega)).mp q; omega), kgzL_lN hg (by omega), if_neg (fun q => by have := (lN_0 (show Nat.gcd a b < 2 ^ 63 by omega)).mp q; omega), kgzL_lN hg (by omega), pk_lDiv (by omega) hg (by omega), pk_lDiv (by omega) hg (by omega)]
  simp only [Option.bind_some]
  unfold f_m6_part loT
  cases lo
  · refine ⟨kuL (kuL S 12 0 (lN (a / a.gcd b))) 12 1 (lN (b / a.gcd b)), ?_, ?_⟩
    · simp only [Bool.false_eq_true, if_false, Option.bind_some, uL_get, true_and, if_true]
      rfl
    · rfl
  · refine ⟨kuL (kuL S 12 0 (lN (a / a.gcd b))) 12 1 (lN (b / a.gcd b)), ?_, ?_⟩
    · simp only [if_true, Option.bind_some, uL_get, true_and]
    · rfl
