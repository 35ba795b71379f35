-- settles, round, saysLate, roundMost, roundLeast
section RB
variable {S : kSt} {p : Nat}
theorem sq_k {T : kSt} (hk : keep S T) (k : Nat) : sq T p k = sq S p k := by
  unfold sq stT
  rw [sayS_k hk, hk.gn (a := 57) rfl, hk.gn (a := 61) rfl]
theorem RP_k {T : kSt} (hk : keep S T) {m F L A : Nat} (h : RP S p m F L A) : RP T p m F L A := by
  unfold RP at *
  simp only [sq_k hk, sayS_k hk]
  exact h
theorem b_rnd {cb mb : kSt → Option (Int32 × kSt)} (hc : cOk S) (hm : mOk S) (hp2 : p < gN S 57 2) (r : Nat → Nat → Nat → Nat → Int32)
    (h1 : ∀ m F L A T, RP S p m F L A → f_m10_goRound (nI p) S = some T → T.1 8 2 = nI A → T.1 8 3 = nI L → (∀ i, i < m → T.1 45 i = nI (sayS S p i)) → cb S = some (r m F L A, T))
    (h2 : ∀ m F L A T U, RP S p m F L A → keep S T → f_m11_goRound (nI p) T = some U → U.1 14 26 = nI F → U.1 14 27 = nI (m - F) → U.1 14 28 = nI A → U.1 14 29 = nI L → (∀ i, i < F + 2 * (m - F) → U.1 64 i = nI (sayS S p i)) → mb T = some (r m F L A, U)) : Body cb mb S := by
  have hp := p5 hm hp2
  obtain ⟨m, F, L, A, hR⟩ := RP_ex hm hp
  obtain ⟨T, a1, a2, a3, a4, a5⟩ := c_goRound hc hm hp2 hR
  refine ⟨r m F L A, ⟨T, h1 m F L A T hR a1 a3 a4 a5, a2.kp.1, a2.kp.2⟩, fun T hk => ?_⟩
  obtain ⟨U, b1, b2, b3, b4, b5, b6, b7⟩ := m_goRound (hk.mk.mpr hm) hp (RP_k hk hR)
  exact ⟨U, h2 m F L A T U hR hk b1 b3 b4 b5 b6 (fun i hi => by rw [b7 i hi, sayS_k hk]), b2.kp.1, b2.kp.2.1, b2.kp.2.2⟩
theorem b_settles (hc : cOk S) (hm : mOk S) (hp : p < gN S 57 2) : Body (cb_settles (nI p)) (mb_settles (nI p)) S := by
  refine b_rnd hc hm hp (fun m F L A => nI A) (fun m F L A T hR e1 e2 e3 e4 => ?_) (fun m F L A T U hR hk e1 e2 e3 e4 e5 e6 => ?_)
  · unfold cb_settles
    rw [e1]
    simp only [Option.bind_some]
    rw [e2]
  · unfold mb_settles
    rw [e1]
    simp only [Option.bind_some]
    rw [e4]
theorem b_round (hc : cOk S) (hm : mOk S) (hp : p < gN S 57 2) : Body (cb_round (nI p)) (mb_round (nI p)) S := by
  refine b_rnd hc hm hp (fun m F L A => nI L) (fun m F L A T hR e1 e2 e3 e4 => ?_) (fun m F L A T U hR hk e1 e2 e3 e4 e5 e6 => ?_)
  · unfold cb_round
    rw [e1]
    simp only [Option.bind_some]
    rw [e3]
  · unfold mb_round
    rw [e1]
    simp only [Option.bind_some]
    rw [e5]
theorem per_m {f : Nat → Nat} {A L N : Nat} (hL : 1 ≤ L) (hN : A ≤ N) (h : ∀ i, A ≤ i → f i = f (i + L)) : f (A + (N - A) % L) = f N := by
  have e := per_q h (show A ≤ A + (N - A) % L by omega) ((N - A) / L)
  have hk : N - A = L * ((N - A) / L) + (N - A) % L := (Nat.div_add_mod _ _).symm
  rw [e]
  congr 1
  omega
theorem b_saysLate (hc : cOk S) (hm : mOk S) (hp : p < gN S 57 2) {N : Nat} (hN : N ≤ 2000000000) : Body (cb_saysLate (nI p) (nI N)) (mb_saysLate (nI p) (nI N)) S := by
  have hp5 := p5 hm hp
  refine b_rnd hc hm hp (fun m F L A => nI (sayS S p N)) (fun m F L A T hR e1 e2 e3 e4 => ?_) (fun m F L A T U hR hk e1 e2 e3 e4 e5 e6 => ?_)
  · obtain ⟨⟨hF, hm9, hFm, hdis⟩, ⟨hL1, hLR, hLd, hLf⟩, hmin, hAF, hA, hA0⟩ := hR
    unfold cb_saysLate
    rw [e1]
    simp only [Option.bind_some]
    unfold f_m8_saying
    rw [e2, e3, kite (nI_leI (by omega) (by omega))]
    simp only [knx_e]
    by_cases q : A ≤ N
    · have hr : (N - A) % L < L := Nat.mod_lt _ (by omega)
      rw [if_pos q, kgz_nI (by omega) (by omega), pk_sub q, krem_nI (by omega) (by omega) (by omega), nI_add, kgi_nI (by omega) (by omega), nI_clamp (by omega), e4 _ (by omega), per_m hL1 q hA]
      rfl
    · rw [if_neg q, kgi_nI (by omega) (by omega), nI_clamp (by omega), e4 _ (by omega)]
      rfl
  · obtain ⟨⟨hF, hm9, hFm, hdis⟩, -⟩ := hR
    have hper : ∀ i, F ≤ i → sayS S p i = sayS S p (i + (m - F)) := fun i hi => say_P hm hp5 (by omega) hFm hi
    unfold mb_saysLate
    rw [e1]
    simp only [Option.bind_some]
    rw [e2, e3, kite (nI_leI (by omega) (by omega))]
    simp only [knx_e]
    by_cases q : F ≤ N
    · have hr : (N - F) % (m - F) < m - F := Nat.mod_lt _ (by omega)
      rw [if_pos q, kgz_nI (by omega) (by omega), pk_sub q, krem_nI (by omega) (by omega) (by omega), nI_add, kgi_nI (by omega) (by omega), nI_clamp (by omega), e6 _ (by omega), per_m (by omega) q hper]
    · rw [if_neg q, kgi_nI (by omega) (by omega), nI_clamp (by omega), e6 _ (by omega)]
def mxN (f : Nat → Nat) (A : Nat) : Nat → Nat
  | 0 => f A
  | k + 1 => max (mxN f A k) (f (A + k))
def mnN (f : Nat → Nat) (A : Nat) : Nat → Nat
  | 0 => f A
  | k + 1 => min (mnN f A k) (f (A + k))
theorem mx_le {f : Nat → Nat} {A B : Nat} (h : ∀ i, f i ≤ B) : ∀ k, mxN f A k ≤ B ∧ mnN f A k ≤ B
  | 0 => ⟨h A, h A⟩
  | k + 1 => by
    obtain ⟨h1, h2⟩ := mx_le (A := A) h k
    have h3 := h (A + k)
    rw [mxN, mnN]
    omega
theorem c_moL {f : Nat → Nat} {T : kSt} {A L m : Nat} (hf : ∀ i, f i ≤ 99) (hL : A + L ≤ m) (hm9 : m ≤ 900) (e2 : T.1 8 2 = nI A) (e3 : T.1 8 3 = nI L) (e4 : ∀ i, i < m → T.1 45 i = nI (f i)) (K : Int32 → kSt → Option (Int32 × kSt)) : ∀ (j k fu : Nat), k + j = L → j < fu → f_m8_most_L15 K fu (nI (mxN f A k)) (nI (A + k)) T = K (nI (mxN f A L)) T ∧ f_m8_least_L15 K fu (nI (mnN f A k)) (nI (A + k)) T = K (nI (mnN f A L)) T := by
  intro j
  induction j with
  | zero =>
    intro k fu hk hfu
    obtain ⟨fu, rfl⟩ : ∃ q, fu = q + 1 := ⟨fu - 1, by omega⟩
    have e : k = L := by omega
    subst e
    rw [f_m8_most_L15, f_m8_least_L15, e2, e3, nI_add, if_pos (nI_le (by omega) (by omega)), if_pos (nI_le (by omega) (by omega))]
    exact ⟨rfl, rfl⟩
  | succ j ih =>
    intro k fu hk hfu
    obtain ⟨fu, rfl⟩ : ∃ q, fu = q + 1 := ⟨fu - 1, by omega⟩
    obtain ⟨h1, h2⟩ := mx_le (A := A) hf k
    have h3 := hf (A + k)
    obtain ⟨i1, i2⟩ := ih (k + 1) fu (by omega) (by omega)
    rw [f_m8_most_L15, f_m8_least_L15, e2, e3, nI_add, if_neg (nI_ge (by omega) (by omega)), if_neg (nI_ge (by omega) (by omega)), kgi_nI (by omega) (by omega), kgi_nI (by omega) (by omega)]
    simp only [knx_e]
    rw [nI_clamp (by omega), e4 _ (by omega), kmax_nI (by omega) (by omega), kmin_nI (by omega) (by omega), nI_1]
    exact ⟨i1, i2⟩
theorem neg_le : ∀ a, a < 100 → ∀ b, b < 100 → ((-1 : Int32) * nI a ≤ (-1) * nI b ↔ b ≤ a) := by decide +kernel
theorem m_exmL {f : Nat → Nat} {U : kSt} {A L B : Nat} (hf : ∀ i, f i ≤ 99) (hL : A + L ≤ B) (hB : B ≤ 2000) (e4 : U.1 14 28 = nI A) (e5 : U.1 14 29 = nI L) (e6 : ∀ i, i < B → U.1 64 i = nI (f i)) (K : Int32 → kSt → Option (Int32 × kSt)) : ∀ (j k fu : Nat), k + j = L → j < fu → f_m11_extremeOf_L18 K 1 fu (nI (mxN f A k)) (nI k) U = K (nI (mxN f A L)) U ∧ f_m11_extremeOf_L18 K (-1) fu (nI (mnN f A k)) (nI k) U = K (nI (mnN f A L)) U := by
  intro j
  induction j with
  | zero =>
    intro k fu hk hfu
    obtain ⟨fu, rfl⟩ : ∃ q, fu = q + 1 := ⟨fu - 1, by omega⟩
    have e : k = L := by omega
    subst e
    rw [f_m11_extremeOf_L18, f_m11_extremeOf_L18, e5, if_pos (nI_le (by omega) (by omega)), if_pos (nI_le (by omega) (by omega))]
    exact ⟨rfl, rfl⟩
  | succ j ih =>
    intro k fu hk hfu
    obtain ⟨fu, rfl⟩ : ∃ q, fu = q + 1 := ⟨fu - 1, by omega⟩
    obtain ⟨h1, h2⟩ := mx_le (A := A) hf k
    have h3 := hf (A + k)
    obtain ⟨i1, i2⟩ := ih (k + 1) fu (by omega) (by omega)
    have kg : ∀ o : Option (Int32 × kSt), kgi (nI (A + k)) 2600 o = o := fun o => kgi_nI (by omega) (by omega)
    have cl : (nI (A + k)).toNatClampNeg = A + k := nI_clamp (by omega)
    rw [f_m11_extremeOf_L18, f_m11_extremeOf_L18, e5, if_neg (nI_ge (by omega) (by omega)), if_neg (nI_ge (by omega) (by omega)), e4]
    simp only [knx_e, nI_add, kg, cl, nI_1]
    rw [e6 _ (by omega)]
    constructor
    · rw [show (1 : Int32) * nI (f (A + k)) = nI (1 * f (A + k)) from pk_mul 1 _, show (1 : Int32) * nI (mxN f A k) = nI (1 * mxN f A k) from pk_mul 1 _, Nat.one_mul, Nat.one_mul, kite (nI_leI (by omega) (by omega))]
      rw [mxN] at i1
      by_cases q : f (A + k) ≤ mxN f A k
      · rw [if_pos q]
        rw [Nat.max_eq_left q] at i1
        exact i1
      · rw [if_neg q]
        rw [Nat.max_eq_right (by omega)] at i1
        exact i1
    · rw [kite (neg_le (f (A + k)) (by omega) (mnN f A k) (by omega))]
      rw [mnN] at i2
      by_cases q : mnN f A k ≤ f (A + k)
      · rw [if_pos q]
        rw [Nat.min_eq_left q] at i2
        exact i2
      · rw [if_neg q]
        rw [Nat.min_eq_right (by omega)] at i2
        exact i2
theorem b_roundMost (hc : cOk S) (hm : mOk S) (hp : p < gN S 57 2) : Body (cb_roundMost (nI p)) (mb_roundMost (nI p)) S := by
  have hFF := kFU_big
  have hp5 := p5 hm hp
  refine b_rnd hc hm hp (fun m F L A => nI (mxN (sayS S p) A L)) (fun m F L A T hR e1 e2 e3 e4 => ?_) (fun m F L A T U hR hk e1 e2 e3 e4 e5 e6 => ?_)
  · obtain ⟨⟨hF, hm9, hFm, hdis⟩, ⟨hL1, hLR, hLd, hLf⟩, hmin, hAF, hA, hA0⟩ := hR
    unfold cb_roundMost
    rw [e1]
    simp only [Option.bind_some]
    unfold f_m8_most
    simp only [knx_e]
    rw [e2, kgi_nI (by omega) (by omega), nI_clamp (by omega), e4 A (by omega)]
    rw [show f_m8_most_L15 _ kFU (nI (sayS S p A)) (nI A) T = _ from (c_moL (m := m) (say99 hm hp5) (by omega) hm9 e2 e3 e4 (fun (x7 : Int32) (S8 : kSt) => some (x7, S8)) L 0 kFU (by omega) (by omega)).1]
    rfl
  · obtain ⟨⟨hF, hm9, hFm, hdis⟩, ⟨hL1, hLR, hLd, hLf⟩, hmin, hAF, hA, hA0⟩ := hR
    unfold mb_roundMost f_m11_extremeOf
    rw [e1]
    simp only [Option.bind_some, knx_e]
    rw [e4, kgi_nI (by omega) (by omega), nI_clamp (by omega), e6 A (by omega)]
    rw [show f_m11_extremeOf_L18 _ 1 kFU (nI (sayS S p A)) 0 U = _ from (m_exmL (B := F + 2 * (m - F)) (say99 hm hp5) (by omega) (by omega) e4 e5 e6 (fun (x11 : Int32) (S12 : kSt) => some (x11, S12)) L 0 kFU (by omega) (by omega)).1]
    rfl
theorem b_roundLeast (hc : cOk S) (hm : mOk S) (hp : p < gN S 57 2) : Body (cb_roundLeast (nI p)) (mb_roundLeast (nI p)) S := by
  have hFF := kFU_big
  have hp5 := p5 hm hp
  refine b_rnd hc hm hp (fun m F L A => nI (mnN (sayS S p) A L)) (fun m F L A T hR e1 e2 e3 e4 => ?_) (fun m F L A T U hR hk e1 e2 e3 e4 e5 e6 => ?_)
  · obtain ⟨⟨hF, hm9, hFm, hdis⟩, ⟨hL1, hLR, hLd, hLf⟩, hmin, hAF, hA, hA0⟩ := hR
    unfold cb_roundLeast
    rw [e1]
    simp only [Option.bind_some]
    unfold f_m8_least
    simp only [knx_e]
    rw [e2, kgi_nI (by omega) (by omega), nI_clamp (by omega), e4 A (by omega)]
    rw [show f_m8_least_L15 _ kFU (nI (sayS S p A)) (nI A) T = _ from (c_moL (m := m) (say99 hm hp5) (by omega) hm9 e2 e3 e4 (fun (x7 : Int32) (S8 : kSt) => some (x7, S8)) L 0 kFU (by omega) (by omega)).2]
    rfl
  · obtain ⟨⟨hF, hm9, hFm, hdis⟩, ⟨hL1, hLR, hLd, hLf⟩, hmin, hAF, hA, hA0⟩ := hR
    unfold mb_roundLeast f_m11_extremeOf
    rw [e1]
    simp only [Option.bind_some, knx_e]
    rw [e4, kgi_nI (by omega) (by omega), nI_clamp (by omega), e6 A (by omega)]
    rw [show f_m11_extremeOf_L18 _ (-1) kFU (nI (sayS S p A)) 0 U = _ from (m_exmL (B := F + 2 * (m - F)) (say99 hm hp5) (by omega) (by omega) e4 e5 e6 (fun (x11 : Int32) (S12 : kSt) => some (x11, S12)) L 0 kFU (by omega) (by omega)).2]
    rfl
end RB
