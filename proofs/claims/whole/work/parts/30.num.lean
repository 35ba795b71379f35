-- THE PLAIN PART: numbers
def gN (S : kSt) (k j : Nat) : Nat := (S.1 k j).toNatClampNeg
/-- the place holds a number from 0 to b -/
def kB (S : kSt) (k j b : Nat) : Prop := S.1 k j = nI (gN S k j) ∧ gN S k j ≤ b
theorem kB_of {S : kSt} {k j b n : Nat} (h : S.1 k j = nI n) (hn : n ≤ b) (hb : b < 2 ^ 31) : kB S k j b := by
  have h1 : gN S k j = n := by
    unfold gN
    rw [h, nI_clamp (by omega)]
  exact ⟨by rw [h1]; exact h, by rw [h1]; exact hn⟩
theorem gN_of {S : kSt} {k j n : Nat} (h : S.1 k j = nI n) (hn : n < 2 ^ 31) : gN S k j = n := by
  unfold gN
  rw [h, nI_clamp hn]
theorem uI_get (S : kSt) (k j : Nat) (x : Int32) (a b : Nat) : (kuI S k j x).1 a b = if a = k ∧ b = j then x else S.1 a b := by
  unfold kuI
  by_cases h : a = k
  · subst h
    by_cases h2 : b = j
    · subst h2
      simp [upd]
    · simp [upd, h2]
  · simp [h]
theorem uA_get (S : kSt) (k : Nat) (f : Nat → Int32) (a b : Nat) : (kuA S k f).1 a b = if a = k then f b else S.1 a b := by
  unfold kuA
  by_cases h : a = k
  · simp [h]
  · simp [h]
theorem uL_get1 (S : kSt) (k j : Nat) (x : Int64) (a b : Nat) : (kuL S k j x).1 a b = S.1 a b := rfl
theorem uL_get (S : kSt) (k j : Nat) (x : Int64) (a b : Nat) : (kuL S k j x).2 a b = if a = k ∧ b = j then x else S.2 a b := by
  unfold kuL
  by_cases h : a = k
  · subst h
    by_cases h2 : b = j
    · subst h2
      simp [vp_updL]
    · simp [vp_updL, h2]
  · simp [h]
theorem kgi_nI {α : Type} {n N : Nat} {o : Option α} (h : n < N) (hN : N < 2 ^ 31) : kgi (nI n) N o = o := if_neg (nI_in h hN)
theorem kgz_nI {α : Type} {n : Nat} {o : Option α} (h : 0 < n) (hn : n < 2 ^ 31) : kgz (nI n) o = o := if_neg (nI_ne0 h hn)
theorem krem_nI {a b : Nat} (ha : a < 2 ^ 31) (h0 : 0 < b) (hb : b < 2 ^ 31) : krem (nI a) (nI b) = nI (a % b) := pk_rem ha h0 hb
theorem nI_lit (n : Nat) : (OfNat.ofNat n : Int32) = nI n := rfl
theorem kite {α : Sort _} {c d : Prop} [Decidable c] [Decidable d] {a b : α} (h : c ↔ d) : (if c then a else b) = if d then a else b := by
  by_cases hc : c
  · rw [if_pos hc, if_pos (h.mp hc)]
  · rw [if_neg hc, if_neg (fun q => hc (h.mpr q))]
theorem kmin_nI {a b : Nat} (ha : a < 2 ^ 31) (hb : b < 2 ^ 31) : kmin (nI a) (nI b) = nI (min a b) := by
  unfold kmin
  rw [kite (nI_ltI hb ha)]
  split
  · rw [Nat.min_eq_right (by omega)]
  · rw [Nat.min_eq_left (by omega)]
theorem kmax_nI {a b : Nat} (ha : a < 2 ^ 31) (hb : b < 2 ^ 31) : kmax (nI a) (nI b) = nI (max a b) := by
  unfold kmax
  rw [kite (nI_ltI ha hb)]
  split
  · rw [Nat.max_eq_right (by omega)]
  · rw [Nat.max_eq_left (by omega)]
theorem kmax0_sub {a b w : Nat} (ha : a ≤ w) (hw : w < 2 ^ 30) (hb : b < 2 ^ 30) : kmax 0 (kmin (nI w) (nI a - nI b)) = nI (a - b) := by
  by_cases h : b ≤ a
  · rw [pk_sub h, kmin_nI (by omega) (by omega), show (0 : Int32) = nI 0 from rfl, kmax_nI (by omega) (by omega)]
    congr 1
    omega
  · have hneg : nI a - nI b < 0 := pk_sneg hb (by omega)
    have h1 : kmin (nI w) (nI a - nI b) = nI a - nI b := by
      unfold kmin
      rw [if_pos (Int32.lt_of_lt_of_le hneg (nI_pos' (by omega)))]
    rw [h1]
    unfold kmax
    rw [if_neg (fun h => Int32.lt_irrefl (Int32.lt_trans h hneg))]
    rw [show a - b = 0 by omega]
    rfl
def lawN (w g s f : Nat) : Nat := match g with
  | 0 => min w (f + s)
  | 1 => min w (2 * f + s)
  | 2 => f - s
  | _ => min w (w - f + s)
def goN (w g s e n f : Nat) : Nat := if 0 < e ∧ n % e = 0 then w - lawN w g s f else lawN w g s f
def dumbN (w e n f : Nat) : Nat := if 0 < e ∧ n % e = 0 then w - f else f
def sayN (w g s e n f : Nat) : Nat → Nat
  | 0 => f
  | k + 1 => goN w g s e (n + k + 1) (sayN w g s e n f k)
theorem lawN_le {w g s f : Nat} (h : f ≤ w) : lawN w g s f ≤ w := by
  unfold lawN
  split <;> omega
theorem goN_le {w g s e n f : Nat} (h : f ≤ w) : goN w g s e n f ≤ w := by
  have h1 := lawN_le (g := g) (s := s) h
  unfold goN
  split <;> omega
theorem sayN_le {w g s e n f : Nat} (h : f ≤ w) : ∀ k, sayN w g s e n f k ≤ w
  | 0 => h
  | k + 1 => goN_le (sayN_le h k)
/-- one season on, and then so many -/
theorem sayN_1 (w g s e n f : Nat) : ∀ k, sayN w g s e (n + 1) (goN w g s e (n + 1) f) k = sayN w g s e n f (k + 1)
  | 0 => by simp [sayN]
  | k + 1 => by
    rw [sayN, sayN_1 w g s e n f k, sayN]
    congr 1
    omega
theorem kgb_kb {α : Type} (b : Bool) (F : Bool → Option α) : kgb (kb b) F = F b := by
  cases b <;> rfl
