-- the reference's rows in their bounds
def rowOk (S : kSt) (c o : Nat) : Prop := (∀ p, p < 5 → kB S c (o + p) (gN S 57 0) ∧ kB S c (o + 5 + p) 20) ∧ (∀ j, j < 25 → kB S c (o + 10 + j) 99) ∧ (∀ p, p < 5 → S.1 c (o + 10 + 6 * p) = 0) ∧ kB S c (o + 35) 999
def mOk (S : kSt) : Prop := (2 ≤ gN S 57 0 ∧ kB S 57 0 99) ∧ kB S 57 1 100 ∧ (1 ≤ gN S 57 2 ∧ kB S 57 2 5) ∧ kB S 57 5 4 ∧ kB S 57 6 8 ∧ (∀ p, p < 5 → kB S 57 (8 + p) 3 ∧ kB S 57 (13 + p) 9) ∧ (∀ k, k < 4 → kB S 57 (18 + 2 * k) 4 ∧ kB S 57 (19 + 2 * k) 20 ∧ (k < gN S 57 5 → gN S 57 (18 + 2 * k) < gN S 57 2 ∧ ∀ i, i < k → ¬ gN S 57 (18 + 2 * i) = gN S 57 (18 + 2 * k))) ∧ (∀ k, k < 8 → kB S 57 (26 + 3 * k) 4 ∧ kB S 57 (27 + 3 * k) 30 ∧ kB S 57 (28 + 3 * k) 99 ∧ (k < gN S 57 6 → gN S 57 (26 + 3 * k) < gN S 57 2)) ∧ rowOk S 59 0 ∧ rowOk S 61 0
theorem nI8 (p : Nat) : (8 : Int32) + nI p = nI (8 + p) := nI_add 8 p
theorem nI5 (p : Nat) : (5 : Int32) + nI p = nI (5 + p) := nI_add 5 p
theorem nI13 (p : Nat) : (13 : Int32) + nI p = nI (13 + p) := nI_add 13 p
theorem nI2m (p : Nat) : (2 : Int32) * nI p = nI (2 * p) := pk_mul 2 p
theorem m_within {S : kSt} {w a : Nat} (hw : S.1 57 0 = nI w) (hw2 : w < 2 ^ 31) (ha : a < 2 ^ 31) : f_m11_within (nI a) S = some (nI (min w a), S) := by
  unfold f_m11_within
  rw [if_pos (nI_pos' ha), hw, kite (nI_leI ha hw2)]
  split
  · rw [Nat.min_eq_right (by omega)]
  · rw [Nat.min_eq_left (by omega)]
theorem m_withinS {S : kSt} {w f s : Nat} (hw : S.1 57 0 = nI w) (hw2 : w < 2 ^ 30) (hf : f ≤ w) (hs : s < 2 ^ 30) : f_m11_within (nI f - nI s) S = some (nI (f - s), S) := by
  by_cases h : s ≤ f
  · rw [pk_sub h, m_within hw (by omega) (by omega), Nat.min_eq_right (by omega)]
  · unfold f_m11_within
    have hneg : nI f - nI s < 0 := pk_sneg hs (by omega)
    rw [if_neg (fun q => Int32.lt_irrefl (Int32.lt_of_lt_of_le hneg q)), show f - s = 0 by omega]
    rfl
theorem m_byLaw {S : kSt} (h : mOk S) {p f s : Nat} (hp : p < 5) (hf : f ≤ gN S 57 0) (hs : s ≤ 20) : f_m11_byLaw (nI p) (nI f) (nI s) S = some (nI (lawN (gN S 57 0) (gN S 57 (8 + p)) s f), S) := by
  obtain ⟨⟨hw2, hw, hw99⟩, -, -, -, -, hl, -⟩ := h
  obtain ⟨⟨hg, hg3⟩, -⟩ := hl p hp
  unfold f_m11_byLaw
  simp only [knx]
  rw [nI8, kgi_nI (by omega) (by omega), nI_clamp (by omega), hg]
  generalize gN S 57 (8 + p) = g at hg3 ⊢
  generalize gN S 57 0 = w at *
  rcases (show g = 0 ∨ g = 1 ∨ g = 2 ∨ g = 3 by omega) with rfl | rfl | rfl | rfl
  · rw [if_pos (by decide), nI_add, m_within hw (by omega) (by omega)]
    rfl
  · rw [if_neg (by decide), if_pos (by decide), nI2m, nI_add, m_within hw (by omega) (by omega)]
    rfl
  · rw [if_neg (by decide), if_neg (by decide), if_pos (by decide), m_withinS hw (by omega) hf (by omega)]
    rfl
  · rw [if_neg (by decide), if_neg (by decide), if_neg (by decide), hw, pk_sub hf, nI_add, m_within hw (by omega) (by omega)]
    rfl
theorem m_behind {S : kSt} (h : mOk S) {p f s e n : Nat} (hp : p < 5) (hf : f ≤ gN S 57 0) (hs : s ≤ 20) (he : e ≤ 9) (hn : n < 100000) (b : Bool) : f_m11_behind (nI p) (nI f) (nI s) (nI e) (nI n) b S = some (nI (if b then dumbN (gN S 57 0) e n f else goN (gN S 57 0) (gN S 57 (8 + p)) s e n f), S) := by
  have hw := h.1.2.1
  have hw99 := h.1.2.2
  have key : ∀ v, v ≤ gN S 57 0 → (if nI e ≤ 0 then some (nI v, S) else kgz (nI e) (if krem (nI n) (nI e) = 0 then some (S.1 57 0 - nI v, S) else some (nI v, S))) = some (nI (dumbN (gN S 57 0) e n v), S) := by
    intro v hv
    unfold dumbN
    by_cases h0 : e = 0
    · subst h0
      rw [if_pos (by decide)]
      rfl
    · rw [if_neg (nI_nle (by omega) (by omega)), kgz_nI (by omega) (by omega), krem_nI (by omega) (by omega) (by omega), show (0 : Int32) = nI 0 from rfl, kite (nI_eq (Nat.lt_of_le_of_lt (Nat.mod_le n e) (by omega)) (by omega))]
      by_cases hm : n % e = 0
      · rw [if_pos hm, if_pos ⟨by omega, hm⟩, hw, pk_sub hv]
      · rw [if_neg hm, if_neg (fun q => hm q.2)]
  unfold f_m11_behind
  simp only [knx]
  cases b
  · simp only [Bool.false_eq_true, if_false]
    rw [m_byLaw h hp hf hs]
    show (if nI e ≤ 0 then _ else _) = _
    rw [key _ (lawN_le hf)]
    rfl
  · simp only [if_true]
    rw [key _ hf]
theorem m_saysL {S : kSt} (h : mOk S) {p s e N : Nat} (hp : p < 5) (hs : s ≤ 20) (he : e ≤ 9) (hN : N ≤ 2000) (k : Int32 → kSt → Option (Int32 × kSt)) : ∀ (j i fu v : Nat), i + j = N → j < fu → v = sayN (gN S 57 0) (gN S 57 (8 + p)) s e (gN S 61 35) (gN S 61 p) i → f_m11_saysBy_L11 k (nI p) (nI N) (nI s) (nI e) fu (nI v) (nI (i + 1)) S = k (nI (sayN (gN S 57 0) (gN S 57 (8 + p)) s e (gN S 61 35) (gN S 61 p) N)) S := by
  intro j
  have hf0 : gN S 61 p ≤ gN S 57 0 := by
    have := (h.2.2.2.2.2.2.2.2.2.1 p hp).1.2
    simpa using this
  have hse := h.2.2.2.2.2.2.2.2.2.2.2.2
  induction j with
  | zero =>
    intro i fu v hi hfu hv
    obtain ⟨fu, rfl⟩ : ∃ m, fu = m + 1 := ⟨fu - 1, by omega⟩
    rw [f_m11_saysBy_L11, if_pos (nI_lt (by omega) (by omega)), hv, show i = N by omega]
  | succ j ih =>
    intro i fu v hi hfu hv
    obtain ⟨fu, rfl⟩ : ∃ m, fu = m + 1 := ⟨fu - 1, by omega⟩
    have hs35 : gN S 61 35 ≤ 999 := by simpa using hse.2
    have hs35e : S.1 61 35 = nI (gN S 61 35) := by simpa using hse.1
    rw [f_m11_saysBy_L11, if_neg (nI_nlt (by omega) (by omega)), hs35e, nI_add]
    have hv2 : v ≤ gN S 57 0 := by rw [hv]; exact sayN_le hf0 i
    rw [m_behind h hp hv2 hs he (by omega) false]
    show f_m11_saysBy_L11 k (nI p) (nI N) (nI s) (nI e) fu _ (nI (i + 1) + 1) S = _
    rw [nI_1]
    refine ih (i + 1) fu _ (by omega) (by omega) ?_
    rw [sayN, hv]
    rfl
theorem m_saysBy {S : kSt} (h : mOk S) {p s e N : Nat} (hp : p < 5) (hs : s ≤ 20) (he : e ≤ 9) (hN : N ≤ 2000) : f_m11_saysBy (nI p) (nI N) (nI s) (nI e) S = some (nI (sayN (gN S 57 0) (gN S 57 (8 + p)) s e (gN S 61 35) (gN S 61 p) N), S) := by
  have hf0 := (h.2.2.2.2.2.2.2.2.2.1 p hp).1.1
  simp only [Nat.zero_add] at hf0
  unfold f_m11_saysBy
  simp only [knx]
  rw [kgi_nI (by omega) (by omega), nI_clamp (by omega), hf0]
  exact m_saysL h hp hs he hN _ N 0 kFU _ (by omega) (by show N < 1000000; omega) rfl
/-- what the figure of p says k seasons on -/
def sayS (S : kSt) (p k : Nat) : Nat := sayN (gN S 57 0) (gN S 57 (8 + p)) (gN S 61 (5 + p)) (gN S 57 (13 + p)) (gN S 61 35) (gN S 61 p) k
theorem m_saysIn {S : kSt} (h : mOk S) {p N : Nat} (hp : p < 5) (hN : N ≤ 2000) : f_m11_saysIn (nI p) (nI N) S = some (nI (sayS S p N), S) := by
  have hst := (h.2.2.2.2.2.2.2.2.2.1 p hp).2
  have hev := (h.2.2.2.2.2.1 p hp).2
  simp only [Nat.zero_add] at hst
  unfold f_m11_saysIn
  simp only [knx]
  rw [nI5, kgi_nI (by omega) (by omega), nI13, kgi_nI (by omega) (by omega), nI_clamp (by omega), nI_clamp (by omega), hst.1, hev.1, m_saysBy h hp hst.2 hev.2 hN]
  rfl
