-- where sayings go round
theorem php : ∀ (N : Nat) (f : Nat → Nat), (∀ i, i ≤ N → f i < N) → ∃ i j, i < j ∧ j ≤ N ∧ f i = f j
  | 0, f, h => absurd (h 0 (Nat.le_refl 0)) (Nat.not_lt_zero _)
  | N + 1, f, h => by
    by_cases q : ∃ i, i ≤ N ∧ f i = f (N + 1)
    · obtain ⟨i, h1, h2⟩ := q
      exact ⟨i, N + 1, by omega, Nat.le_refl _, h2⟩
    · have hv := h (N + 1) (Nat.le_refl _)
      have hne : ∀ i, i ≤ N → ¬ f i = f (N + 1) := fun i hi e => q ⟨i, hi, e⟩
      obtain ⟨i, j, h1, h2, h3⟩ := php N (fun i => if f i = N then f (N + 1) else f i) (fun i hi => by
        have hi1 := h i (by omega)
        have hi2 := hne i hi
        show (if f i = N then f (N + 1) else f i) < N
        by_cases e : f i = N
        · rw [if_pos e]
          omega
        · rw [if_neg e]
          omega)
      refine ⟨i, j, h1, by omega, ?_⟩
      have e3 : (if f i = N then f (N + 1) else f i) = (if f j = N then f (N + 1) else f j) := h3
      by_cases e1 : f i = N
      · by_cases e2 : f j = N
        · omega
        · rw [if_pos e1, if_neg e2] at e3
          exact absurd e3.symm (hne j h2)
      · by_cases e2 : f j = N
        · rw [if_neg e1, if_pos e2] at e3
          exact absurd e3 (hne i (by omega))
        · rw [if_neg e1, if_neg e2] at e3
          exact e3
def stT (S : kSt) (p : Nat) : Nat := max 1 (gN S 57 (13 + p))
def sq (S : kSt) (p k : Nat) : Nat := sayS S p k * 9 + (gN S 61 35 + k) % stT S p
def cq (S : kSt) (p k : Nat) : Nat := sayS S p k * stT S p + (gN S 61 35 + k) % stT S p
section RN
variable {S : kSt} {p : Nat}
theorem stT_b (hm : mOk S) (hp : p < 5) : 1 ≤ stT S p ∧ stT S p ≤ 9 := by
  have := (hm.2.2.2.2.2.1 p hp).2.2
  unfold stT
  omega
theorem st_r (hm : mOk S) (hp : p < 5) (k : Nat) : (gN S 61 35 + k) % stT S p < stT S p := Nat.mod_lt _ (stT_b hm hp).1
theorem say99 (hm : mOk S) (hp : p < 5) (k : Nat) : sayS S p k ≤ 99 := Nat.le_trans (sayS_le hm hp k) hm.1.2.2
theorem sq_lt (hm : mOk S) (hp : p < 5) (k : Nat) : sq S p k < 900 ∧ cq S p k < 900 := by
  have h1 := stT_b hm hp
  have h2 := st_r hm hp k
  have h3 := say99 hm hp k
  have h4 : sayS S p k * stT S p ≤ 99 * 9 := Nat.mul_le_mul h3 h1.2
  unfold sq cq
  omega
theorem sq_i (hm : mOk S) (hp : p < 5) {a b : Nat} : sq S p a = sq S p b ↔ sayS S p a = sayS S p b ∧ (gN S 61 35 + a) % stT S p = (gN S 61 35 + b) % stT S p := by
  have h1 := stT_b hm hp
  have h2 := st_r hm hp a
  have h3 := st_r hm hp b
  unfold sq
  constructor
  · intro h
    omega
  · intro h
    omega
theorem dm_u {f g r s T : Nat} (hr : r < T) (hs : s < T) (h : f * T + r = g * T + s) : f = g ∧ r = s := by
  have h1 : (f * T + r) / T = f := by
    rw [Nat.mul_comm, Nat.mul_add_div (by omega), Nat.div_eq_of_lt hr, Nat.add_zero]
  have h2 : (g * T + s) / T = g := by
    rw [Nat.mul_comm, Nat.mul_add_div (by omega), Nat.div_eq_of_lt hs, Nat.add_zero]
  have h3 : f = g := by rw [← h1, ← h2, h]
  subst h3
  exact ⟨rfl, by omega⟩
theorem cq_i (hm : mOk S) (hp : p < 5) {a b : Nat} : cq S p a = cq S p b ↔ sq S p a = sq S p b := by
  rw [sq_i hm hp]
  unfold cq
  constructor
  · intro h
    exact dm_u (st_r hm hp a) (st_r hm hp b) h
  · intro h
    rw [h.1, h.2]
theorem sayS_s (k : Nat) : sayS S p (k + 1) = goN (gN S 57 0) (gN S 57 (8 + p)) (gN S 61 (5 + p)) (gN S 57 (13 + p)) (gN S 61 35 + k + 1) (sayS S p k) := rfl
theorem goN_m {w g s e a b f : Nat} (h : a % max 1 e = b % max 1 e) : goN w g s e a f = goN w g s e b f := by
  unfold goN
  by_cases h0 : e = 0
  · subst h0
    rw [if_neg (by omega), if_neg (by omega)]
  · rw [Nat.max_eq_right (by omega)] at h
    rw [h]
theorem sq_ev (hm : mOk S) (hp : p < 5) {a b : Nat} (h : sq S p a = sq S p b) : sq S p (a + 1) = sq S p (b + 1) := by
  obtain ⟨h1, h2⟩ := (sq_i hm hp).mp h
  have h3 : (gN S 61 35 + a + 1) % stT S p = (gN S 61 35 + b + 1) % stT S p := by
    rw [Nat.add_mod, h2, ← Nat.add_mod]
  refine (sq_i hm hp).mpr ⟨?_, h3⟩
  rw [sayS_s, sayS_s, h1]
  exact goN_m h3
/-- the states come again from F on, m - F being their round; the sayings from A on, L being theirs -/
def RP (S : kSt) (p m F L A : Nat) : Prop := (F < m ∧ m ≤ 900 ∧ sq S p F = sq S p m ∧ ∀ i j, i < j → j < m → ¬ sq S p i = sq S p j) ∧ (1 ≤ L ∧ L ≤ m - F ∧ (m - F) % L = 0 ∧ ∀ i, F ≤ i → sayS S p i = sayS S p (i + L)) ∧ (∀ d, 1 ≤ d → d < L → ¬ ((m - F) % d = 0 ∧ ∀ k, k < m - F → sayS S p (F + k) = sayS S p (F + k + d))) ∧ A ≤ F ∧ (∀ i, A ≤ i → sayS S p i = sayS S p (i + L)) ∧ (A = 0 ∨ ¬ sayS S p (A - 1) = sayS S p (A - 1 + L))
theorem say_R (hm : mOk S) (hp : p < 5) {F m : Nat} (hF : F ≤ m) (h : sq S p F = sq S p m) : ∀ k, sq S p (F + k) = sq S p (m + k)
  | 0 => h
  | k + 1 => sq_ev hm hp (say_R hm hp hF h k)
theorem say_P (hm : mOk S) (hp : p < 5) {F m : Nat} (hF : F ≤ m) (h : sq S p F = sq S p m) {i : Nat} (hi : F ≤ i) : sayS S p i = sayS S p (i + (m - F)) := by
  have h1 := ((sq_i hm hp).mp (say_R hm hp hF h (i - F))).1
  rw [show F + (i - F) = i by omega, show m + (i - F) = i + (m - F) by omega] at h1
  exact h1
theorem per_q {f : Nat → Nat} {F R : Nat} (h : ∀ i, F ≤ i → f i = f (i + R)) {i : Nat} (hi : F ≤ i) : ∀ q, f i = f (i + R * q)
  | 0 => by rw [Nat.mul_zero, Nat.add_zero]
  | q + 1 => by
    rw [per_q h hi q, Nat.mul_succ, ← Nat.add_assoc]
    exact h _ (by omega)
theorem RP_ex (hm : mOk S) (hp : p < 5) : ∃ m F L A, RP S p m F L A := by
  obtain ⟨i0, j0, h1, h2, h3⟩ := php 900 (sq S p) (fun i _ => (sq_lt hm hp i).1)
  obtain ⟨m, ⟨F, hF, hFm⟩, hl⟩ := pk_least (fun m => ∃ i, i < m ∧ sq S p i = sq S p m) ⟨j0, i0, h1, h3⟩
  have hm9 : m ≤ 900 := by
    by_cases q : m ≤ 900
    · exact q
    · exact absurd ⟨i0, h1, h3⟩ (hl j0 (by omega))
  have hper : ∀ i, F ≤ i → sayS S p i = sayS S p (i + (m - F)) := fun i hi => say_P hm hp (by omega) hFm hi
  obtain ⟨L, ⟨hL1, hL2, hL3⟩, hLl⟩ := pk_least (fun d => 1 ≤ d ∧ (m - F) % d = 0 ∧ ∀ k, k < m - F → sayS S p (F + k) = sayS S p (F + k + d)) ⟨m - F, by omega, Nat.mod_self _, fun k hk => hper (F + k) (by omega)⟩
  have hLR : L ≤ m - F := Nat.le_of_dvd (by omega) (Nat.dvd_of_mod_eq_zero hL2)
  have hLf : ∀ i, F ≤ i → sayS S p i = sayS S p (i + L) := by
    intro i hi
    have hk : i - F = (m - F) * ((i - F) / (m - F)) + (i - F) % (m - F) := (Nat.div_add_mod _ _).symm
    have hr : (i - F) % (m - F) < m - F := Nat.mod_lt _ (by omega)
    have e1 := per_q hper (show F ≤ F + (i - F) % (m - F) by omega) ((i - F) / (m - F))
    have e2 := per_q hper (show F ≤ F + (i - F) % (m - F) + L by omega) ((i - F) / (m - F))
    have e3 := hL3 _ hr
    have x1 : F + (i - F) % (m - F) + (m - F) * ((i - F) / (m - F)) = i := by omega
    have x2 : F + (i - F) % (m - F) + L + (m - F) * ((i - F) / (m - F)) = i + L := by omega
    rw [x1] at e1
    rw [x2] at e2
    rw [← e1, ← e2]
    exact e3
  have hA : ∀ x, x ≤ F → ∃ A, A ≤ x ∧ (∀ i, A ≤ i → i < x → sayS S p i = sayS S p (i + L)) ∧ (A = 0 ∨ ¬ sayS S p (A - 1) = sayS S p (A - 1 + L)) := by
    intro x
    induction x with
    | zero => exact fun _ => ⟨0, Nat.le_refl 0, fun i h1 h2 => by omega, Or.inl rfl⟩
    | succ x ih =>
      intro hx
      by_cases q : sayS S p x = sayS S p (x + L)
      · obtain ⟨A, a1, a2, a3⟩ := ih (by omega)
        refine ⟨A, by omega, fun i i1 i2 => ?_, a3⟩
        by_cases e : i = x
        · rw [e]; exact q
        · exact a2 i i1 (by omega)
      · exact ⟨x + 1, Nat.le_refl _, fun i h1 h2 => by omega, Or.inr (by rw [Nat.add_sub_cancel]; exact q)⟩
  obtain ⟨A, a1, a2, a3⟩ := hA F (Nat.le_refl F)
  refine ⟨m, F, L, A, ⟨hF, hm9, hFm, fun i j hij hj e => hl j hj ⟨i, hij, e⟩⟩, ⟨hL1, hLR, hL2, hLf⟩, fun d d1 d2 q => hLl d d2 ⟨d1, q.1, q.2⟩, a1, fun i hi => ?_, a3⟩
  by_cases q : i < F
  · exact a2 i hi q
  · exact hLf i (by omega)
/-- what the class looks at: no wrap -/
theorem RP_c {m F L A d : Nat} (hm : mOk S) (hp : p < 5) (h : RP S p m F L A) (hd1 : 1 ≤ d) (hdv : (m - F) % d = 0) (hc : ∀ i, F ≤ i → i + d < m → sayS S p i = sayS S p (i + d)) : ∀ k, k < m - F → sayS S p (F + k) = sayS S p (F + k + d) := by
  have hF := h.1.1
  have hper : ∀ i, F ≤ i → sayS S p i = sayS S p (i + (m - F)) := fun i hi => say_P hm hp (by omega) h.1.2.2.1 hi
  intro k hk
  by_cases q : F + k + d < m
  · exact hc _ (by omega) q
  · obtain ⟨z, hz⟩ := Nat.dvd_of_mod_eq_zero hdv
    have ch : ∀ t, k + d - (m - F) + d * t < m - F → sayS S p (F + (k + d - (m - F))) = sayS S p (F + (k + d - (m - F)) + d * t) := by
      intro t
      induction t with
      | zero => exact fun _ => by rw [Nat.mul_zero, Nat.add_zero]
      | succ t ih =>
        intro ht
        rw [Nat.mul_succ] at ht
        rw [ih (by omega), Nat.mul_succ, ← Nat.add_assoc]
        exact hc _ (by omega) (by omega)
    have hz1 : 1 ≤ z := by
      cases z with
      | zero => omega
      | succ z => omega
    have hkd : d ≤ m - F := Nat.le_of_dvd (by omega) (Nat.dvd_of_mod_eq_zero hdv)
    have e1 : d * (z - 1) = m - F - d := by
      rw [Nat.mul_sub, Nat.mul_one, ← hz]
    have c1 := ch (z - 1) (by omega)
    rw [e1, show F + (k + d - (m - F)) + (m - F - d) = F + k by omega] at c1
    have c2 := hper (F + (k + d - (m - F))) (by omega)
    rw [show F + (k + d - (m - F)) + (m - F) = F + k + d by omega] at c2
    rw [← c1, c2]
end RN
