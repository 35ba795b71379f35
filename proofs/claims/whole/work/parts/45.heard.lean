-- what was heard
def hP (S : kSt) (h : Nat) : Nat := gN S 57 (26 + 3 * h)
def hS (S : kSt) (h : Nat) : Nat := gN S 57 (27 + 3 * h)
def hF (S : kSt) (h : Nat) : Nat := gN S 57 (28 + 3 * h)
def hN (S : kSt) (p s n : Nat) : Nat := sayN (gN S 57 0) (gN S 57 (8 + p)) s (gN S 57 (13 + p)) 0 (gN S 59 p) n
def tb (s k : Nat) : Bool := decide (s / 2 ^ k % 2 = 1)
def stK (S : kSt) (p set : Nat) : Nat → Nat
  | 0 => gN S 59 (5 + p)
  | k + 1 => if gN S 57 (18 + 2 * k) = p ∧ tb set k = true then gN S 57 (19 + 2 * k) else stK S p set k
def stB (S : kSt) (p set : Nat) : Nat := stK S p set (gN S 57 5)
theorem hN_k {S T : kSt} (hk : keep S T) (p s n : Nat) : hN T p s n = hN S p s n := by
  unfold hN
  rw [hk.gn (a := 57) rfl, hk.gn (a := 57) rfl, hk.gn (a := 57) rfl, hk.gn (a := 59) rfl]
theorem stK_k {S T : kSt} (hk : keep S T) (p set : Nat) : ∀ k, stK T p set k = stK S p set k
  | 0 => hk.gn (a := 59) rfl _
  | k + 1 => by rw [stK, stK, stK_k hk p set k, hk.gn (a := 57) rfl, hk.gn (a := 57) rfl]
theorem stB_k {S T : kSt} (hk : keep S T) (p set : Nat) : stB T p set = stB S p set := by
  unfold stB
  rw [stK_k hk, hk.gn (a := 57) rfl]
theorem tb_bit : ∀ s, s < 32 → ∀ k, k < 8 → ((nI s >>> (nI k &&& 31)) &&& 1) = nI (s / 2 ^ k % 2) := by decide +kernel
theorem m_hasBit {s k : Nat} (hs : s < 32) (hk : k < 8) (S : kSt) : f_m11_hasBit (nI s) (nI k) S = some (tb s k, S) := by
  unfold f_m11_hasBit tb
  rw [tb_bit s hs k hk, show (1 : Int32) = nI 1 from rfl, kite (nI_eq (show s / 2 ^ k % 2 < 2 ^ 31 by omega) (by omega))]
  by_cases h : s / 2 ^ k % 2 = 1
  · rw [if_pos h, decide_eq_true h]
  · rw [if_neg h, decide_eq_false h]
theorem mOk.told {S : kSt} (h : mOk S) {p : Nat} (hp : p < 5) : gN S 59 p ≤ gN S 57 0 ∧ S.1 59 p = nI (gN S 59 p) ∧ gN S 59 (5 + p) ≤ 20 ∧ S.1 59 (5 + p) = nI (gN S 59 (5 + p)) := by
  have hr := h.2.2.2.2.2.2.2.2.1.1 p hp
  simp only [Nat.zero_add] at hr
  exact ⟨hr.1.2, hr.1.1, hr.2.2, hr.2.1⟩
theorem mOk.uns {S : kSt} (h : mOk S) : S.1 57 5 = nI (gN S 57 5) ∧ gN S 57 5 ≤ 4 := h.2.2.2.1
theorem mOk.hrs {S : kSt} (h : mOk S) : S.1 57 6 = nI (gN S 57 6) ∧ gN S 57 6 ≤ 8 := h.2.2.2.2.1
theorem mOk.un {S : kSt} (h : mOk S) {k : Nat} (hk : k < 4) : kB S 57 (18 + 2 * k) 4 ∧ kB S 57 (19 + 2 * k) 20 ∧ (k < gN S 57 5 → gN S 57 (18 + 2 * k) < gN S 57 2 ∧ ∀ i, i < k → ¬ gN S 57 (18 + 2 * i) = gN S 57 (18 + 2 * k)) := h.2.2.2.2.2.2.1 k hk
theorem mOk.hr {S : kSt} (h : mOk S) {k : Nat} (hk : k < 8) : kB S 57 (26 + 3 * k) 4 ∧ kB S 57 (27 + 3 * k) 30 ∧ kB S 57 (28 + 3 * k) 99 ∧ (k < gN S 57 6 → gN S 57 (26 + 3 * k) < gN S 57 2) := h.2.2.2.2.2.2.2.1 k hk
theorem stK_le {S : kSt} (h : mOk S) {p : Nat} (hp : p < 5) (set : Nat) : ∀ k, k ≤ 4 → stK S p set k ≤ 20
  | 0, _ => (h.told hp).2.2.1
  | k + 1, hk => by
    rw [stK]
    split
    · exact (h.un (k := k) (by omega)).2.1.2
    · exact stK_le h hp set k (by omega)
theorem hN_le {S : kSt} (h : mOk S) {p : Nat} (hp : p < 5) (s n : Nat) : hN S p s n ≤ gN S 57 0 := sayN_le (h.told hp).1 n
theorem nIl (a b c : Nat) : nI a + nI b * nI c = nI (a + b * c) := by rw [pk_mul, nI_add]
theorem m_stepL {S : kSt} (hm : mOk S) {p set : Nat} (hp : p < 5) (hs : set < 32) (K : Int32 → kSt → Option (Int32 × kSt)) : ∀ (j i fu : Nat), i + j = gN S 57 5 → j < fu → f_m11_stepBy_L12 K (nI p) (nI set) fu (nI (stK S p set i)) (nI i) S = K (nI (stB S p set)) S := by
  intro j
  have hU := hm.uns.1
  have hU4 := hm.uns.2
  induction j with
  | zero =>
    intro i fu hi hfu
    obtain ⟨fu, rfl⟩ : ∃ m, fu = m + 1 := ⟨fu - 1, by omega⟩
    rw [f_m11_stepBy_L12, hU, if_pos (nI_le (by omega) (by omega))]
    unfold stB
    rw [show gN S 57 5 = i by omega]
  | succ j ih =>
    intro i fu hi hfu
    obtain ⟨fu, rfl⟩ : ∃ m, fu = m + 1 := ⟨fu - 1, by omega⟩
    obtain ⟨u1, u2, u3⟩ := hm.un (k := i) (by omega)
    rw [f_m11_stepBy_L12, hU, if_neg (nI_ge (by omega) (by omega))]
    simp only [knx_e]
    rw [show (18 : Int32) + 2 * nI i = nI (18 + 2 * i) from nIl 18 2 i, kgi_nI (by omega) (by omega), nI_1, nI_clamp (by omega), u1.1, kite (nI_eq (by have := u1.2; omega) (by omega)), m_hasBit hs (by omega)]
    simp only [Option.bind_some]
    rw [kgi_nI (by omega) (by omega), nI_clamp (by omega), nI_1, show 18 + 2 * i + 1 = 19 + 2 * i by omega, u2.1, ← ih (i + 1) fu (by omega) (by omega), stK]
    by_cases h1 : gN S 57 (18 + 2 * i) = p
    · rw [if_pos h1]
      cases h2 : tb set i
      · rw [if_neg (by decide), if_neg (fun q => by cases q.2)]
      · rw [if_pos rfl, if_pos ⟨h1, rfl⟩]
    · rw [if_neg h1, if_neg (fun q => h1 q.1)]
theorem m_step {S : kSt} (hm : mOk S) {p set : Nat} (hp : p < 5) (hs : set < 32) : f_m11_stepBy (nI p) (nI set) S = some (nI (stB S p set), S) := by
  have hU4 := hm.uns.2
  have hFU := kFU_big
  unfold f_m11_stepBy
  simp only [knx_e]
  rw [nI5, kgi_nI (by omega) (by omega), nI_clamp (by omega), (hm.told hp).2.2.2]
  have := m_stepL hm hp hs (fun x S => some (x, S)) (gN S 57 5) 0 kFU (by omega) (by omega)
  rw [nI_0] at this
  exact this
theorem m_thenL {S : kSt} (h : mOk S) {p set N : Nat} (hp : p < 5) (hs : set < 32) (hN' : N ≤ 30) (K : Int32 → kSt → Option (Int32 × kSt)) : ∀ (j i fu : Nat), i + j = N → j < fu → f_m11_saidThen_L11 K (nI p) (nI N) (nI set) fu (nI (hN S p (stB S p set) i)) (nI (i + 1)) S = K (nI (hN S p (stB S p set) N)) S := by
  intro j
  induction j with
  | zero =>
    intro i fu hi hfu
    obtain ⟨fu, rfl⟩ : ∃ m, fu = m + 1 := ⟨fu - 1, by omega⟩
    rw [f_m11_saidThen_L11, if_pos (nI_lt (by omega) (by omega)), show i = N by omega]
  | succ j ih =>
    intro i fu hi hfu
    obtain ⟨fu, rfl⟩ : ∃ m, fu = m + 1 := ⟨fu - 1, by omega⟩
    have hst : stB S p set ≤ 20 := stK_le h hp set _ h.uns.2
    have hev := (h.2.2.2.2.2.1 p hp).2
    rw [f_m11_saidThen_L11, if_neg (nI_nlt (by omega) (by omega)), m_step h hp hs]
    simp only [Option.bind_some, knx_e]
    rw [nI13, kgi_nI (by omega) (by omega), nI_clamp (by omega), hev.1, m_behind h hp (hN_le h hp _ _) hst hev.2 (by omega) false]
    simp only [Option.bind_some, Bool.false_eq_true, if_false]
    rw [nI_1, ← ih (i + 1) fu (by omega) (by omega)]
    unfold hN
    rw [sayN, Nat.zero_add]
theorem m_then {S : kSt} (h : mOk S) {p set N : Nat} (hp : p < 5) (hs : set < 32) (hN' : N ≤ 30) : f_m11_saidThen (nI p) (nI N) (nI set) S = some (nI (hN S p (stB S p set) N), S) := by
  have hFU := kFU_big
  unfold f_m11_saidThen
  simp only [knx_e]
  rw [kgi_nI (by omega) (by omega), nI_clamp (by omega), (h.told hp).2.1]
  exact m_thenL h hp hs hN' (fun x S => some (x, S)) N 0 kFU (by omega) (by omega)
theorem stK_0 {S : kSt} (p : Nat) : ∀ k, stK S p 0 k = gN S 59 (5 + p)
  | 0 => rfl
  | k + 1 => by
    rw [stK, stK_0 p k, if_neg]
    rintro ⟨-, h⟩
    unfold tb at h
    rw [Nat.zero_div] at h
    cases h
/-- a heard one is not so -/
def hW (S : kSt) (set h : Nat) : Bool := decide (¬ hN S (hP S h) (stB S (hP S h) set) (hS S h) = hF S h)
theorem hW_k {S T : kSt} (hk : keep S T) (set h : Nat) : hW T set h = hW S set h := by
  unfold hW
  rw [hN_k hk, stB_k hk]
  unfold hP hS hF
  rw [hk.gn (a := 57) rfl, hk.gn (a := 57) rfl, hk.gn (a := 57) rfl]
theorem m_wrongL {S : kSt} (hm : mOk S) {set : Nat} (hs : set < 32) : ∀ (j i fu : Nat), i + j = gN S 57 6 → j < fu → f_m11_wrongBy_L2 (fun x S => some (x, S)) (fun S => some (-2, S)) (nI set) fu (nI i) S = some (fnd (hW S set) j i, S) := by
  intro j
  have hH := hm.hrs.1
  have hH8 := hm.hrs.2
  induction j with
  | zero =>
    intro i fu hi hfu
    obtain ⟨fu, rfl⟩ : ∃ m, fu = m + 1 := ⟨fu - 1, by omega⟩
    rw [f_m11_wrongBy_L2, hH, if_pos (nI_le (by omega) (by omega))]
    rfl
  | succ j ih =>
    intro i fu hi hfu
    obtain ⟨fu, rfl⟩ : ∃ m, fu = m + 1 := ⟨fu - 1, by omega⟩
    obtain ⟨u1, u2, u3, u4⟩ := hm.hr (k := i) (by omega)
    have hp5 := u1.2
    rw [f_m11_wrongBy_L2, hH, if_neg (nI_ge (by omega) (by omega))]
    simp only [knx_e]
    rw [show (26 : Int32) + 3 * nI i = nI (26 + 3 * i) from nIl 26 3 i, nI_1, show nI (26 + 3 * i) + 2 = nI (26 + 3 * i + 2) from nI_add _ 2, kgi_nI (by omega) (by omega), kgi_nI (by omega) (by omega), nI_clamp (by omega), nI_clamp (by omega), nI_clamp (by omega), show 26 + 3 * i + 1 = 27 + 3 * i by omega, show 26 + 3 * i + 2 = 28 + 3 * i by omega, u1.1, u2.1, m_then hm (by omega) hs (by have := u2.2; omega)]
    simp only [Option.bind_some]
    have hb := hN_le hm (show gN S 57 (26 + 3 * i) < 5 by omega) (stB S (gN S 57 (26 + 3 * i)) set) (gN S 57 (27 + 3 * i))
    have hw := hm.1.2.2
    rw [kgi_nI (by omega) (by omega), u3.1, kite (nI_eq (by omega) (by have := u3.2; omega)), nI_1, ih (i + 1) fu (by omega) (by omega), fnd]
    unfold hW hP hS hF
    by_cases h : hN S (gN S 57 (26 + 3 * i)) (stB S (gN S 57 (26 + 3 * i)) set) (gN S 57 (27 + 3 * i)) = gN S 57 (28 + 3 * i)
    · rw [if_pos h, if_neg (by simpa using h)]
    · rw [if_neg h, if_pos (by simpa using h)]
theorem m_wrong {S : kSt} (hm : mOk S) {set : Nat} (hs : set < 32) : f_m11_wrongBy (nI set) S = some (fnd (hW S set) (gN S 57 6) 0, S) := by
  have hH8 := hm.hrs.2
  have hFU := kFU_big
  unfold f_m11_wrongBy
  have := m_wrongL hm hs (gN S 57 6) 0 kFU (by omega) (by omega)
  rw [nI_0] at this
  exact this
theorem kabs_0 (x : Int32) : kabs x = 0 ↔ x = 0 := by
  unfold kabs
  by_cases h : 0 ≤ x
  · rw [if_pos h]
  · rw [if_neg h]
    constructor
    · intro q
      rw [Int32.sub_eq_iff_eq_add, Int32.zero_add] at q
      exact q.symm
    · rintro rfl
      rfl
theorem nI_sub0 {a b : Nat} (ha : a < 2 ^ 31) (hb : b < 2 ^ 31) : nI a - nI b = 0 ↔ a = b := by
  rw [Int32.sub_eq_iff_eq_add, Int32.zero_add]
  exact nI_eq ha hb
def apH (S : kSt) (h : Nat) : Int32 := kabs (nI (hN S (hP S h) (gN S 59 (5 + hP S h)) (hS S h)) - nI (hF S h))
theorem c_apart {S T : kSt} (hc : cOk S) (hm : mOk S) (hf : frc S T) {h : Nat} (hh : h < gN S 57 6) : ∃ T', f_m10_apartByTold (nI h) T = some (apH S h, T') ∧ frm 6 T T' := by
  have hH8 := hm.hrs.2
  have hk := hf.kp.1
  obtain ⟨u1, u2, u3, u4⟩ := hm.hr (k := h) (by omega)
  have hp5 : gN S 57 (26 + 3 * h) < 5 := by have := u1.2; omega
  obtain ⟨c1, c2, c3⟩ := hc.2.2.2.2.2.1 h hh
  obtain ⟨T1, e1, e2, e3⟩ := c_asTold (hk.ck.mpr hc) (w := 6) (p := gN S 57 (26 + 3 * h)) (Or.inl rfl) hp5 (by rw [hk.gn (a := 57) rfl]; exact u4 hh) (hk.mk.mpr hm)
  have ht := hm.told hp5
  have hl := hm.2.2.2.2.2.1 _ hp5
  rw [hk.gn (a := 57) rfl, hk.gn (a := 57) rfl, hk.gn (a := 57) rfl, hk.gn (a := 59) rfl, hk.gn (a := 59) rfl] at e2
  obtain ⟨T2, g1, g2, g3⟩ := c_goOn e2 hm.1.2.2 hl.1.2 ht.2.2.1 hl.2.2 ht.1 (N := gN S 57 (27 + 3 * h)) (by have := u2.2; omega) (by omega)
  unfold f_m10_apartByTold
  rw [kgi_nI (by omega) (by omega), nI_clamp (by omega), hf 25 (by decide), c1, u1.1, e1]
  simp only [Option.bind_some]
  rw [kgi_nI (by omega) (by omega), e3.1 26 (by decide), hf 26 (by decide), c2, u2.1, g1]
  simp only [Option.bind_some]
  rw [kgi_nI (by omega) (by omega), g3.1 27 (by decide), e3.1 27 (by decide), hf 27 (by decide), c3, u3.1, g2.2.2.2.2.1]
  exact ⟨T2, rfl, e3.tr g3⟩
theorem c_judgeL {S : kSt} (hc : cOk S) (hm : mOk S) : ∀ (j i fu : Nat) (T : kSt), i + j = gN S 57 6 → j < fu → frc S T → ∃ T', f_m10_judge_L15 (fun x S => some (x, S)) (fun S => some (-2, S)) fu (nI i) T = some (fnd (hW S 0) j i, T') ∧ frc S T' := by
  intro j
  have hH := hm.hrs.1
  have hH8 := hm.hrs.2
  have hc6 := hc.1 6 (by omega)
  induction j with
  | zero =>
    intro i fu T hi hfu hf
    obtain ⟨fu, rfl⟩ : ∃ m, fu = m + 1 := ⟨fu - 1, by omega⟩
    rw [f_m10_judge_L15, hf 1 (by decide), hc6, hH, if_pos (nI_le (by omega) (by omega))]
    exact ⟨T, rfl, hf⟩
  | succ j ih =>
    intro i fu T hi hfu hf
    obtain ⟨fu, rfl⟩ : ∃ m, fu = m + 1 := ⟨fu - 1, by omega⟩
    obtain ⟨u1, u2, u3, u4⟩ := hm.hr (k := i) (by omega)
    have hp5 : gN S 57 (26 + 3 * i) < 5 := by have := u1.2; omega
    rw [f_m10_judge_L15, hf 1 (by decide), hc6, hH, if_neg (nI_ge (by omega) (by omega))]
    obtain ⟨T1, e1, e2⟩ := c_apart hc hm hf (h := i) (by omega)
    have hf1 := hf.tr (e2.c rfl)
    rw [e1]
    simp only [Option.bind_some, knx_e]
    have hb := hN_le hm hp5 (gN S 59 (5 + gN S 57 (26 + 3 * i))) (gN S 57 (27 + 3 * i))
    have hw := hm.1.2.2
    have e : apH S i = 0 ↔ ¬ hW S 0 i = true := by
      unfold apH hW
      rw [kabs_0, nI_sub0 (by unfold hP hS; omega) (by have := u3.2; unfold hF; omega), stB, stK_0]
      simp
    rw [kite e, nI_1, fnd]
    cases hq : hW S 0 i
    · rw [if_pos (by decide), if_neg (by decide)]
      exact ih (i + 1) fu T1 (by omega) (by omega) hf1
    · rw [if_neg (by decide), if_pos rfl]
      exact ⟨T1, rfl, hf1⟩
theorem fnd_c {P Q : Nat → Bool} (h : ∀ i, P i = Q i) : ∀ j i, fnd P j i = fnd Q j i
  | 0, _ => rfl
  | j + 1, i => by rw [fnd, fnd, h i, fnd_c h j]
theorem b_judge {S : kSt} (hc : cOk S) (hm : mOk S) : Body cb_judge mb_judge S := by
  have hH8 := hm.hrs.2
  have hFU := kFU_big
  refine body_c (fnd (hW S 0) (gN S 57 6) 0) ?_ (fun T hk => ?_)
  · obtain ⟨T', e1, e2⟩ := c_judgeL hc hm (gN S 57 6) 0 kFU S (by omega) (by omega) frc.rf
    rw [nI_0] at e1
    exact ⟨T', e1, e2⟩
  · unfold mb_judge
    have := m_wrong (hk.mk.mpr hm) (set := 0) (by omega)
    rw [nI_0, hk.gn (a := 57) rfl, fnd_c (hW_k hk 0)] at this
    rw [this]
    rfl
def thK (S : kSt) (p : Nat) : Nat → Int32
  | 0 => 0
  | k + 1 => if hP S k = p then thK S p k + apH S k else thK S p k
theorem apH_k {S T : kSt} (hk : keep S T) (h : Nat) : apH T h = apH S h := by
  unfold apH
  rw [hN_k hk]
  unfold hP hS hF
  rw [hk.gn (a := 57) rfl, hk.gn (a := 57) rfl, hk.gn (a := 57) rfl, hk.gn (a := 59) rfl]
theorem thK_k {S T : kSt} (hk : keep S T) (p : Nat) : ∀ k, thK T p k = thK S p k
  | 0 => rfl
  | k + 1 => by
    rw [thK, thK, thK_k hk p k, apH_k hk]
    unfold hP
    rw [hk.gn (a := 57) rfl]
theorem c_thirdL {S : kSt} (hc : cOk S) (hm : mOk S) {p : Nat} (hp : p < 5) : ∀ (j i fu : Nat) (T : kSt), i + j = gN S 57 6 → j < fu → frc S T → ∃ T', f_m10_third_L18 (fun x S => some (x, S)) (nI p) fu (thK S p i) (nI i) T = some (thK S p (gN S 57 6), T') ∧ frc S T' := by
  intro j
  have hH := hm.hrs.1
  have hH8 := hm.hrs.2
  have hc6 := hc.1 6 (by omega)
  induction j with
  | zero =>
    intro i fu T hi hfu hf
    obtain ⟨fu, rfl⟩ : ∃ m, fu = m + 1 := ⟨fu - 1, by omega⟩
    rw [f_m10_third_L18, hf 1 (by decide), hc6, hH, if_pos (nI_le (by omega) (by omega)), show gN S 57 6 = i by omega]
    exact ⟨T, rfl, hf⟩
  | succ j ih =>
    intro i fu T hi hfu hf
    obtain ⟨fu, rfl⟩ : ∃ m, fu = m + 1 := ⟨fu - 1, by omega⟩
    obtain ⟨u1, u2, u3, u4⟩ := hm.hr (k := i) (by omega)
    have hp5 : gN S 57 (26 + 3 * i) < 5 := by have := u1.2; omega
    obtain ⟨T1, e1, e2⟩ := c_apart hc hm hf (h := i) (by omega)
    have hf1 := hf.tr (e2.c rfl)
    rw [f_m10_third_L18, hf 1 (by decide), hc6, hH, if_neg (nI_ge (by omega) (by omega)), kgi_nI (by omega) (by omega), nI_clamp (by omega), hf 25 (by decide), (hc.2.2.2.2.2.1 i (by omega)).1, u1.1]
    simp only [knx_e]
    rw [kite (nI_eq (by omega) (by omega)), e1]
    simp only [Option.bind_some]
    rw [nI_1]
    by_cases h : gN S 57 (26 + 3 * i) = p
    · rw [if_pos h]
      have := ih (i + 1) fu T1 (by omega) (by omega) hf1
      rw [thK, if_pos (show hP S i = p from h)] at this
      exact this
    · rw [if_neg h]
      have := ih (i + 1) fu T (by omega) (by omega) hf
      rw [thK, if_neg (show ¬ hP S i = p from h)] at this
      exact this
theorem kabs_neg (a b : Nat) (ha : a < 2 ^ 30) (hb : b < 2 ^ 30) : kabs (nI a - nI b) = kabs (nI b - nI a) := by
  unfold kabs
  by_cases h : a ≤ b
  · rw [show nI b - nI a = nI (b - a) from pk_sub h, if_pos (nI_pos' (by omega))]
    by_cases h2 : a = b
    · subst h2
      rw [Int32.sub_self, Nat.sub_self]
      rfl
    · rw [if_neg (Int32.not_le.mpr (pk_sneg hb (by omega))), Int32.zero_sub, Int32.neg_sub, pk_sub h]
  · rw [show nI a - nI b = nI (a - b) from pk_sub (by omega), if_pos (nI_pos' (by omega)), if_neg (Int32.not_le.mpr (pk_sneg ha (by omega))), Int32.zero_sub, Int32.neg_sub, pk_sub (by omega)]
theorem m_thirdL {S : kSt} (hm : mOk S) {p : Nat} (hp : p < 5) : ∀ (j i fu : Nat), i + j = gN S 57 6 → j < fu → f_m11_third_L22 (fun x S => some (x, S)) (nI p) fu (thK S p i) (nI i) S = some (thK S p (gN S 57 6), S) := by
  intro j
  have hH := hm.hrs.1
  have hH8 := hm.hrs.2
  induction j with
  | zero =>
    intro i fu hi hfu
    obtain ⟨fu, rfl⟩ : ∃ m, fu = m + 1 := ⟨fu - 1, by omega⟩
    rw [f_m11_third_L22, hH, if_pos (nI_le (by omega) (by omega)), show gN S 57 6 = i by omega]
  | succ j ih =>
    intro i fu hi hfu
    obtain ⟨fu, rfl⟩ : ∃ m, fu = m + 1 := ⟨fu - 1, by omega⟩
    obtain ⟨u1, u2, u3, u4⟩ := hm.hr (k := i) (by omega)
    rw [f_m11_third_L22, hH, if_neg (nI_ge (by omega) (by omega))]
    simp only [knx_e]
    rw [show (26 : Int32) + 3 * nI i = nI (26 + 3 * i) from nIl 26 3 i, nI_1, show nI (26 + 3 * i) + 2 = nI (26 + 3 * i + 2) from nI_add _ 2, kgi_nI (by omega) (by omega), kgi_nI (by omega) (by omega), kgi_nI (by omega) (by omega), nI_clamp (by omega), nI_clamp (by omega), nI_clamp (by omega), show 26 + 3 * i + 1 = 27 + 3 * i by omega, show 26 + 3 * i + 2 = 28 + 3 * i by omega, u1.1, u2.1, u3.1, kite (nI_eq (by have := u1.2; omega) (by omega)), show (0 : Int32) = nI 0 from rfl, m_then hm hp (by omega) (by have := u2.2; omega)]
    simp only [Option.bind_some]
    rw [nI_0, kabs_m, nI_1, ← ih (i + 1) fu (by omega) (by omega), thK]
    by_cases h : gN S 57 (26 + 3 * i) = p
    · rw [if_pos h, if_pos (show hP S i = p from h)]
      have hb := hN_le hm hp (stB S p 0) (gN S 57 (27 + 3 * i))
      have hw := hm.1.2.2
      rw [kabs_neg _ _ (by have := u3.2; omega) (by omega)]
      have e : apH S i = kabs (nI (hN S p (stB S p 0) (gN S 57 (27 + 3 * i))) - nI (gN S 57 (28 + 3 * i))) := by
        unfold apH hS hF
        rw [show hP S i = p from h, stB, stK_0]
      rw [e]
    · rw [if_neg h, if_neg (show ¬ hP S i = p from h)]
theorem b_third {S : kSt} (hc : cOk S) (hm : mOk S) {p : Nat} (hp : p < gN S 57 2) : Body (cb_third (nI p)) (mb_third (nI p)) S := by
  have h5 := p5 hm hp
  have hH8 := hm.hrs.2
  have hFU := kFU_big
  refine body_c (thK S p (gN S 57 6)) ?_ (fun T hk => ?_)
  · obtain ⟨T', e1, e2⟩ := c_thirdL hc hm h5 (gN S 57 6) 0 kFU S (by omega) (by omega) frc.rf
    rw [nI_0] at e1
    exact ⟨T', e1, e2⟩
  · have := m_thirdL (hk.mk.mpr hm) h5 (gN S 57 6) 0 kFU (by rw [hk.gn (a := 57) rfl]; omega) (by omega)
    rw [nI_0, hk.gn (a := 57) rfl, thK_k hk p (gN S 57 6)] at this
    exact this
