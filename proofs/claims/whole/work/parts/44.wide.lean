-- widest
def apD (S : kSt) (n p q : Nat) : Int32 := kabs (nI (sayS S p n) - nI (sayS S q n))
def wdS (S : kSt) (n p q : Nat) (b : Int32 × Int32) : Int32 × Int32 := if apD S n p q ≤ b.2 then b else (10 * nI p + nI q, apD S n p q)
def wdI (S : kSt) (n p : Nat) : Nat → Nat → Int32 × Int32 → Int32 × Int32
  | 0, _, b => b
  | k + 1, q, b => wdI S n p k (q + 1) (wdS S n p q b)
def wdO (S : kSt) (n P : Nat) : Nat → Nat → Int32 × Int32 → Int32 × Int32
  | 0, _, b => b
  | k + 1, p, b => wdO S n P k (p + 1) (wdI S n p (P - (p + 1)) (p + 1) b)
theorem c_widI {S T : kSt} (hc : cOk S) (hm : mOk S) {n p : Nat} (hp : p < 5) (hp2 : p < gN S 57 2) (hf : frc S T) (hv : ∀ p, p < gN S 57 2 → T.1 16 p = nI (sayS S p n)) (K : Int32 → Int32 → kSt → Option (Int32 × kSt)) : ∀ (j q fu : Nat) (b : Int32 × Int32), q + j = gN S 57 2 → j < fu → f_m10_widest_L50 K (nI p) fu b.1 b.2 (nI q) T = K (wdI S n p j q b).1 (wdI S n p j q b).2 T := by
  intro j
  have hP := hm.2.2.1.2.1
  have hP5 := hm.2.2.1.2.2
  induction j with
  | zero =>
    intro q fu b hi hfu
    obtain ⟨fu, rfl⟩ : ∃ m, fu = m + 1 := ⟨fu - 1, by omega⟩
    rw [f_m10_widest_L50, hf 1 (by decide), hc.pairs, hP, if_pos (nI_le (by omega) (by omega))]
    rfl
  | succ j ih =>
    intro q fu b hi hfu
    obtain ⟨fu, rfl⟩ : ∃ m, fu = m + 1 := ⟨fu - 1, by omega⟩
    rw [f_m10_widest_L50, hf 1 (by decide), hc.pairs, hP, if_neg (nI_ge (by omega) (by omega)), kgi_nI hp (by omega), kgi_nI (by omega) (by omega), nI_clamp (by omega), nI_clamp (by omega), hv p hp2, hv q (by omega)]
    simp only [knx_e]
    rw [nI_1, wdI, ← ih (q + 1) fu (wdS S n p q b) (by omega) (by omega)]
    show (if apD S n p q ≤ b.2 then _ else f_m10_widest_L50 K (nI p) fu _ (apD S n p q) (nI (q + 1)) T) = _
    unfold wdS
    by_cases h : apD S n p q ≤ b.2
    · rw [if_pos h, if_pos h]
    · rw [if_neg h, if_neg h]
theorem c_widO {S T : kSt} (hc : cOk S) (hm : mOk S) {n : Nat} (hf : frc S T) (hv : ∀ p, p < gN S 57 2 → T.1 16 p = nI (sayS S p n)) (K : Int32 → kSt → Option (Int32 × kSt)) : ∀ (j p fu : Nat) (b : Int32 × Int32), p + j = gN S 57 2 → j < fu → f_m10_widest_L32 K fu b.1 b.2 (nI p) T = K (wdO S n (gN S 57 2) j p b).1 T := by
  intro j
  have hP := hm.2.2.1.2.1
  have hP5 := hm.2.2.1.2.2
  induction j with
  | zero =>
    intro q fu b hi hfu
    obtain ⟨fu, rfl⟩ : ∃ m, fu = m + 1 := ⟨fu - 1, by omega⟩
    rw [f_m10_widest_L32, hf 1 (by decide), hc.pairs, hP, if_pos (nI_le (by omega) (by omega))]
    rfl
  | succ j ih =>
    intro p fu b hi hfu
    obtain ⟨fu, rfl⟩ : ∃ m, fu = m + 1 := ⟨fu - 1, by omega⟩
    have hFU := kFU_big
    rw [f_m10_widest_L32]
    generalize kFU = FU at hFU ⊢
    rw [hf 1 (by decide), hc.pairs, hP, if_neg (nI_ge (by omega) (by omega))]
    simp only [knx_e]
    rw [nI_1, c_widI hc hm (by omega) (by omega) hf hv _ (gN S 57 2 - (p + 1)) (p + 1) FU b (by omega) (by omega), ih (p + 1) fu _ (by omega) (by omega), wdO]
theorem kabs_m (x : Int32) : (if 0 ≤ x then x else -x) = kabs x := by
  unfold kabs
  rw [Int32.zero_sub]
theorem m_widI {S : kSt} (hm : mOk S) {n p : Nat} (hn : n ≤ 60) (hp : p < 5) (K : Int32 → Int32 → kSt → Option (Int32 × kSt)) : ∀ (j q fu : Nat) (b : Int32 × Int32), q + j = gN S 57 2 → j < fu → f_m11_widest_L50 K (nI n) (nI p) fu b.1 b.2 (nI q) S = K (wdI S n p j q b).1 (wdI S n p j q b).2 S := by
  intro j
  have hP := hm.2.2.1.2.1
  have hP5 := hm.2.2.1.2.2
  induction j with
  | zero =>
    intro q fu b hi hfu
    obtain ⟨fu, rfl⟩ : ∃ m, fu = m + 1 := ⟨fu - 1, by omega⟩
    rw [f_m11_widest_L50, hP, if_pos (nI_le (by omega) (by omega))]
    rfl
  | succ j ih =>
    intro q fu b hi hfu
    obtain ⟨fu, rfl⟩ : ∃ m, fu = m + 1 := ⟨fu - 1, by omega⟩
    rw [f_m11_widest_L50, hP, if_neg (nI_ge (by omega) (by omega)), m_saysIn hm hp (by omega)]
    simp only [Option.bind_some, knx_e]
    rw [m_saysIn hm (by omega) (by omega)]
    simp only [Option.bind_some]
    have e : ∀ x : Int32, (if 0 ≤ x then (if b.2 < x then f_m11_widest_L50 K (nI n) (nI p) fu (10 * nI p + nI q) x (nI q + 1) S else f_m11_widest_L50 K (nI n) (nI p) fu b.1 b.2 (nI q + 1) S) else (if b.2 < -x then f_m11_widest_L50 K (nI n) (nI p) fu (10 * nI p + nI q) (-x) (nI q + 1) S else f_m11_widest_L50 K (nI n) (nI p) fu b.1 b.2 (nI q + 1) S)) = if b.2 < kabs x then f_m11_widest_L50 K (nI n) (nI p) fu (10 * nI p + nI q) (kabs x) (nI q + 1) S else f_m11_widest_L50 K (nI n) (nI p) fu b.1 b.2 (nI q + 1) S := by
      intro x
      rw [← kabs_m]
      by_cases h : 0 ≤ x
      · rw [if_pos h, if_pos h]
      · rw [if_neg h, if_neg h]
    rw [e, nI_1, wdI, ← ih (q + 1) fu (wdS S n p q b) (by omega) (by omega)]
    show (if b.2 < apD S n p q then f_m11_widest_L50 K (nI n) (nI p) fu _ (apD S n p q) (nI (q + 1)) S else _) = _
    unfold wdS
    by_cases h : apD S n p q ≤ b.2
    · rw [if_neg (Int32.not_lt.mpr h), if_pos h]
    · rw [if_pos (Int32.not_le.mp h), if_neg h]
theorem m_widO {S : kSt} (hm : mOk S) {n : Nat} (hn : n ≤ 60) (K : Int32 → kSt → Option (Int32 × kSt)) : ∀ (j p fu : Nat) (b : Int32 × Int32), p + j = gN S 57 2 → j < fu → f_m11_widest_L33 K (nI n) fu b.1 b.2 (nI p) S = K (wdO S n (gN S 57 2) j p b).1 S := by
  intro j
  have hP := hm.2.2.1.2.1
  have hP5 := hm.2.2.1.2.2
  induction j with
  | zero =>
    intro q fu b hi hfu
    obtain ⟨fu, rfl⟩ : ∃ m, fu = m + 1 := ⟨fu - 1, by omega⟩
    rw [f_m11_widest_L33, hP, if_pos (nI_le (by omega) (by omega))]
    rfl
  | succ j ih =>
    intro p fu b hi hfu
    obtain ⟨fu, rfl⟩ : ∃ m, fu = m + 1 := ⟨fu - 1, by omega⟩
    have hFU := kFU_big
    rw [f_m11_widest_L33]
    generalize kFU = FU at hFU ⊢
    rw [hP, if_neg (nI_ge (by omega) (by omega))]
    simp only [knx_e]
    rw [nI_1, m_widI hm hn (by omega) _ (gN S 57 2 - (p + 1)) (p + 1) FU b (by omega) (by omega), ih (p + 1) fu _ (by omega) (by omega), wdO]
theorem wdI_k {S T : kSt} (hk : keep S T) (n p : Nat) : ∀ (j q : Nat) (b : Int32 × Int32), wdI T n p j q b = wdI S n p j q b
  | 0, _, _ => rfl
  | j + 1, q, b => by
    rw [wdI, wdI, wdI_k hk n p j]
    unfold wdS apD
    rw [sayS_k hk, sayS_k hk]
theorem wdO_k {S T : kSt} (hk : keep S T) (n P : Nat) : ∀ (j p : Nat) (b : Int32 × Int32), wdO T n P j p b = wdO S n P j p b
  | 0, _, _ => rfl
  | j + 1, p, b => by rw [wdO, wdO, wdO_k hk n P j, wdI_k hk]
theorem b_widest {S : kSt} (hc : cOk S) (hm : mOk S) {n : Nat} (hn : n ≤ 60) : Body (cb_widest (nI n)) (mb_widest (nI n)) S := by
  have hP5 := hm.2.2.1.2.2
  have hFU := kFU_big
  refine body_c (wdO S n (gN S 57 2) (gN S 57 2) 0 (-2, -1)).1 ?_ (fun T hk => ?_)
  · obtain ⟨T, e1, e2, e3⟩ := c_all hc hm hn
    refine ⟨T, ?_, e2⟩
    unfold cb_widest
    rw [e1]
    simp only [Option.bind_some]
    have := c_widO hc hm e2 e3 (fun x S => some (x, S)) (gN S 57 2) 0 kFU (-2, -1) (by omega) (by omega)
    rw [nI_0] at this
    exact this
  · unfold mb_widest
    have := m_widO (hk.mk.mpr hm) hn (fun x S => some (x, S)) (gN S 57 2) 0 kFU (-2, -1) (by rw [hk.gn (a := 57) rfl]; omega) (by omega)
    rw [nI_0, hk.gn (a := 57) rfl, wdO_k hk n (gN S 57 2)] at this
    exact this
