-- dumb seasons
def sayD (w g s e n f : Nat) (b : Nat → Bool) : Nat → Nat
  | 0 => f
  | k + 1 => if b k then dumbN w e (n + k + 1) (sayD w g s e n f b k) else goN w g s e (n + k + 1) (sayD w g s e n f b k)
theorem dumbN_le {w e n f : Nat} (h : f ≤ w) : dumbN w e n f ≤ w := by
  unfold dumbN
  split <;> omega
theorem sayD_le {w g s e n f : Nat} {b : Nat → Bool} (h : f ≤ w) : ∀ k, sayD w g s e n f b k ≤ w
  | 0 => h
  | k + 1 => by
    rw [sayD]
    split
    · exact dumbN_le (sayD_le h k)
    · exact goN_le (sayD_le h k)
def sayB (S : kSt) (p : Nat) (b : Nat → Bool) (k : Nat) : Nat := sayD (gN S 57 0) (gN S 57 (8 + p)) (gN S 61 (5 + p)) (gN S 57 (13 + p)) (gN S 61 35) (gN S 61 p) b k
theorem sayB_le {S : kSt} (h : mOk S) {p : Nat} (hp : p < 5) (b : Nat → Bool) (k : Nat) : sayB S p b k ≤ gN S 57 0 := sayD_le (h.fig hp) k
theorem sayB_k {S T : kSt} (hk : keep S T) (p : Nat) (b : Nat → Bool) (k : Nat) : sayB T p b k = sayB S p b k := by
  unfold sayB
  rw [hk.gn (a := 57) rfl, hk.gn (a := 57) rfl, hk.gn (a := 57) rfl, hk.gn (a := 61) rfl, hk.gn (a := 61) rfl, hk.gn (a := 61) rfl]
def WkB (S T : kSt) (p : Nat) (b : Nat → Bool) (k : Nat) : Prop := wk T 6 (gN S 57 0) (gN S 57 (8 + p)) (gN S 61 (5 + p)) (gN S 57 (13 + p)) (sayB S p b k) (gN S 61 35 + k)
theorem mOk.law {S : kSt} (h : mOk S) {p : Nat} (hp : p < 5) : gN S 57 (8 + p) ≤ 3 := (h.2.2.2.2.2.1 p hp).1.2
theorem mOk.evy {S : kSt} (h : mOk S) {p : Nat} (hp : p < 5) : gN S 57 (13 + p) ≤ 9 := (h.2.2.2.2.2.1 p hp).2.2
theorem c_stepT {S T : kSt} (hm : mOk S) {p k : Nat} {b : Nat → Bool} (hp : p < 5) (hk : k < 2000) (h : WkB S T p b k) (hb : b k = true) : ∃ T', f_m9_goDumb 6 T = some T' ∧ WkB S T' p b (k + 1) ∧ frm 6 T T' := by
  have hs := hm.sea
  obtain ⟨T', e1, e2, e3⟩ := c_goDumb h (hm.evy hp) (sayB_le hm hp b k) (by omega)
  refine ⟨T', e1, ?_, e3⟩
  unfold WkB sayB
  rw [sayD, if_pos hb]
  exact e2
theorem c_stepF {S T : kSt} (hm : mOk S) {p k : Nat} {b : Nat → Bool} (hp : p < 5) (hk : k < 2000) (h : WkB S T p b k) (hb : b k = false) : ∃ T', f_m9_go 6 T = some T' ∧ WkB S T' p b (k + 1) ∧ frm 6 T T' := by
  have hs := hm.sea
  obtain ⟨T', e1, e2, e3⟩ := c_go h hm.1.2.2 (hm.law hp) (hm.stp hp) (hm.evy hp) (sayB_le hm hp b k) (by omega)
  refine ⟨T', e1, ?_, e3⟩
  unfold WkB sayB
  rw [sayD, if_neg (by rw [hb]; decide)]
  exact e2
def wtD (d : Nat) (b : Nat → Bool) : Nat → Nat
  | 0 => 1
  | k + 1 => wtD d b k * (if b k then d else 100 - d)
theorem wtD_le {d : Nat} (hd : d ≤ 100) (b : Nat → Bool) : ∀ k, wtD d b k ≤ 100 ^ k
  | 0 => Nat.le_refl _
  | k + 1 => by
    rw [wtD, Nat.pow_succ]
    refine Nat.mul_le_mul (wtD_le hd b k) ?_
    split <;> omega
theorem p100 {n : Nat} (h : n ≤ 5) : 100 ^ n ≤ 10000000000 ∧ 0 < 100 ^ n := by
  have : ∀ n, n < 6 → 100 ^ n ≤ 10000000000 ∧ 0 < 100 ^ n := by decide +kernel
  exact this n (by omega)
theorem p2n {n : Nat} (h : n ≤ 5) : 2 ^ n ≤ 32 := by
  have : ∀ n, n < 6 → 2 ^ n ≤ 32 := by decide +kernel
  exact this n (by omega)
theorem shl6 {u : Nat} (h : u ≤ 5) : (1 : Int32) <<< (nI u &&& 31) = nI (2 ^ u) := by
  have : ∀ u, u < 6 → (1 : Int32) <<< (nI u &&& 31) = nI (2 ^ u) := by decide +kernel
  exact this u (by omega)
theorem bit0 {s k : Nat} (hs : s < 32) (hk : k < 8) : ((nI s >>> (nI k &&& 31)) &&& 1) = 0 ↔ tb s k = false := by
  rw [tb_bit s hs k hk, show (0 : Int32) = nI 0 from rfl, nI_eq (show s / 2 ^ k % 2 < 2 ^ 31 by omega) (by omega)]
  unfold tb
  rw [decide_eq_false_iff_not]
  omega
theorem mOk.dmb {S : kSt} (h : mOk S) : S.1 57 1 = nI (gN S 57 1) ∧ gN S 57 1 ≤ 100 := h.2.1
theorem dI {d : Nat} (h : d ≤ 100) : ((100 : Int32) - nI d).toInt64 = lN (100 - d) := by
  rw [show (100 : Int32) = nI 100 from rfl, pk_sub h, nI_l (by omega)]
theorem c_gwdL {S : kSt} (hc : cOk S) (hm : mOk S) {p n set : Nat} (hp : p < 5) (hn : n ≤ 5) (hs : set < 32) (K : Int64 → kSt → Option (Int64 × kSt)) : ∀ (j i fu : Nat) (T : kSt), i + j = n → j < fu → frm 6 S T → WkB S T p (tb set) i → ∃ T', f_m10_goWithDumb_L22 K (nI n) (nI set) fu (lN (wtD (gN S 57 1) (tb set) i)) (nI i) T = K (lN (wtD (gN S 57 1) (tb set) n)) T' ∧ WkB S T' p (tb set) n ∧ frm 6 S T' := by
  have hd := hm.dmb
  have h11 : S.1 1 1 = S.1 57 1 := hc.1 1 (by omega)
  intro j
  induction j with
  | zero =>
    intro i fu T hi hfu hf hw
    obtain ⟨fu, rfl⟩ : ∃ m, fu = m + 1 := ⟨fu - 1, by omega⟩
    rw [f_m10_goWithDumb_L22, if_pos (nI_le (by omega) (by omega))]
    have hin : n = i := by omega
    subst hin
    exact ⟨T, rfl, hw, hf⟩
  | succ j ih =>
    intro i fu T hi hfu hf hw
    obtain ⟨fu, rfl⟩ : ∃ m, fu = m + 1 := ⟨fu - 1, by omega⟩
    rw [f_m10_goWithDumb_L22, if_neg (nI_ge (by omega) (by omega))]
    simp only [knx]
    rw [kite (bit0 hs (show i < 8 by omega)), hf.1 1 (by decide), h11, hd.1, dI hd.2, nI_l (by omega), lN_mul, lN_mul, nI_1]
    cases hb : tb set i
    · rw [if_pos rfl]
      obtain ⟨T1, e1, e2, e3⟩ := c_stepF hm hp (by omega) hw hb
      rw [e1]
      simp only [Option.bind_some]
      have := ih (i + 1) fu T1 (by omega) (by omega) (hf.tr e3) e2
      rw [wtD, hb] at this
      exact this
    · rw [if_neg (by decide)]
      obtain ⟨T1, e1, e2, e3⟩ := c_stepT hm hp (by omega) hw hb
      rw [e1]
      simp only [Option.bind_some]
      have := ih (i + 1) fu T1 (by omega) (by omega) (hf.tr e3) e2
      rw [wtD, hb] at this
      exact this
theorem c_gwd {S T : kSt} (hc : cOk S) (hm : mOk S) {p n set : Nat} (hp : p < gN S 57 2) (hn : n ≤ 5) (hs : set < 32) (hf : frm 6 S T) : ∃ T', f_m10_goWithDumb (nI p) (nI n) (nI set) T = some (lN (wtD (gN S 57 1) (tb set) n), T') ∧ T'.1 6 4 = nI (sayB S p (tb set) n) ∧ frm 6 S T' := by
  have hk := (frm6 hf).1
  unfold f_m10_goWithDumb
  obtain ⟨T1, e1, e2, e3⟩ := c_start (hk.ck.mpr hc) (hk.mk.mpr hm) (w := 6) (p := p) (Or.inl rfl) (by rw [hk.gn (a := 57) rfl]; exact hp)
  rw [e1]
  simp only [Option.bind_some]
  have e4 : WkB S T1 p (tb set) 0 := Wk_k hk e2
  obtain ⟨T2, g1, g2, g3⟩ := c_gwdL hc hm (p5 hm hp) hn hs (fun (x11 : Int64) (S12 : kSt) => some (x11, S12)) n 0 kFU T1 (by omega) (by show _ < 1000000; omega) (hf.tr e3) e4
  exact ⟨T2, g1, g2.2.2.2.2.1, g3⟩
def sdA (d n : Nat) : Nat → Nat
  | 0 => 0
  | k + 1 => sdA d n k + wtD d (tb k) n
def sdO (S : kSt) (p n much : Nat) : Nat → Nat
  | 0 => 0
  | k + 1 => sdO S p n much k + (if sayB S p (tb k) n < much then 0 else wtD (gN S 57 1) (tb k) n)
def sdM (S : kSt) (p n : Nat) : Nat → Nat
  | 0 => 0
  | k + 1 => sdM S p n k + wtD (gN S 57 1) (tb k) n * sayB S p (tb k) n
theorem sdA_100 : ∀ n, n < 6 → ∀ d, d < 101 → sdA d n (2 ^ n) = 100 ^ n := by decide +kernel
theorem sdO_le {S : kSt} (hm : mOk S) (p n much : Nat) {B : Nat} (hB : 100 ^ n ≤ B) : ∀ k, sdO S p n much k ≤ k * B
  | 0 => by rw [sdO]; omega
  | k + 1 => by
    have h1 := sdO_le hm p n much hB k
    have h2 := Nat.le_trans (wtD_le hm.dmb.2 (tb k) n) hB
    rw [sdO, Nat.succ_mul]
    split <;> omega
theorem sdM_le {S : kSt} (hm : mOk S) {p : Nat} (hp : p < 5) (n : Nat) {B : Nat} (hB : 100 ^ n ≤ B) : ∀ k, sdM S p n k ≤ k * (B * 99)
  | 0 => by rw [sdM]; omega
  | k + 1 => by
    have h1 := sdM_le hm hp n hB k
    have h2 := Nat.le_trans (wtD_le hm.dmb.2 (tb k) n) hB
    have h4 := sayB_le hm hp (tb k) n
    have h5 := hm.1.2.2
    have h6 : wtD (gN S 57 1) (tb k) n * sayB S p (tb k) n ≤ B * 99 := Nat.mul_le_mul h2 (by omega)
    rw [sdM, Nat.succ_mul]
    omega
theorem sdO_k {S T : kSt} (hk : keep S T) (p n much : Nat) : ∀ k, sdO T p n much k = sdO S p n much k
  | 0 => rfl
  | k + 1 => by rw [sdO, sdO, sdO_k hk p n much k, sayB_k hk, hk.gn (a := 57) rfl]
theorem sdM_k {S T : kSt} (hk : keep S T) (p n : Nat) : ∀ k, sdM T p n k = sdM S p n k
  | 0 => rfl
  | k + 1 => by rw [sdM, sdM, sdM_k hk p n k, sayB_k hk, hk.gn (a := 57) rfl]
theorem c_oddsL {S : kSt} (hc : cOk S) (hm : mOk S) {p n much : Nat} {lo : Bool} (hp : p < gN S 57 2) (hn : n ≤ 5) (hu : much ≤ 99) (K : Int64 → kSt → Option (Int64 × kSt)) : ∀ (j i fu : Nat) (T : kSt), i + j = 2 ^ n → j < fu → frm 6 S T → ∃ T', f_m10_odds_L44 K (nI p) (nI n) (nI much) lo fu (lN (sdO S p n much i)) (nI i) T = K (lN (sdO S p n much (2 ^ n))) T' ∧ frm 6 S T' := by
  have h32 := p2n hn
  intro j
  induction j with
  | zero =>
    intro i fu T hi hfu hf
    obtain ⟨fu, rfl⟩ : ∃ m, fu = m + 1 := ⟨fu - 1, by omega⟩
    rw [f_m10_odds_L44, shl6 hn, if_pos (nI_le (by omega) (by omega)), show 2 ^ n = i by omega]
    exact ⟨T, rfl, hf⟩
  | succ j ih =>
    intro i fu T hi hfu hf
    obtain ⟨fu, rfl⟩ : ∃ m, fu = m + 1 := ⟨fu - 1, by omega⟩
    rw [f_m10_odds_L44, shl6 hn, if_neg (nI_ge (by omega) (by omega))]
    obtain ⟨T1, e1, e2, e3⟩ := c_gwd hc hm hp hn (show i < 32 by omega) hf
    have hy := sayB_le hm (p5 hm hp) (tb i) n
    have hw := hm.1.2.2
    rw [e1]
    simp only [Option.bind_some, knx]
    rw [e2, kite (nI_ltI (show sayB S p (tb i) n < 2 ^ 31 by omega) (show much < 2 ^ 31 by omega)), nI_1, lN_add]
    have := ih (i + 1) fu T1 (by omega) (by omega) e3
    rw [sdO] at this
    by_cases hq : sayB S p (tb i) n < much
    · rw [if_pos hq] at this ⊢
      exact this
    · rw [if_neg hq] at this ⊢
      exact this
theorem c_meanL {S : kSt} (hc : cOk S) (hm : mOk S) {p n : Nat} {lo : Bool} (hp : p < gN S 57 2) (hn : n ≤ 5) (K : Int64 → kSt → Option (Int64 × kSt)) : ∀ (j i fu : Nat) (T : kSt), i + j = 2 ^ n → j < fu → frm 6 S T → ∃ T', f_m10_mean_L27 K (nI p) (nI n) lo fu (lN (sdM S p n i)) (nI i) T = K (lN (sdM S p n (2 ^ n))) T' ∧ frm 6 S T' := by
  have h32 := p2n hn
  intro j
  induction j with
  | zero =>
    intro i fu T hi hfu hf
    obtain ⟨fu, rfl⟩ : ∃ m, fu = m + 1 := ⟨fu - 1, by omega⟩
    rw [f_m10_mean_L27, shl6 hn, if_pos (nI_le (by omega) (by omega)), show 2 ^ n = i by omega]
    exact ⟨T, rfl, hf⟩
  | succ j ih =>
    intro i fu T hi hfu hf
    obtain ⟨fu, rfl⟩ : ∃ m, fu = m + 1 := ⟨fu - 1, by omega⟩
    rw [f_m10_mean_L27, shl6 hn, if_neg (nI_ge (by omega) (by omega))]
    obtain ⟨T1, e1, e2, e3⟩ := c_gwd hc hm hp hn (show i < 32 by omega) hf
    have hy := sayB_le hm (p5 hm hp) (tb i) n
    have hw := hm.1.2.2
    rw [e1]
    simp only [Option.bind_some, knx]
    rw [e2, nI_l (by omega), nI_1, lN_mul, lN_add]
    exact ih (i + 1) fu T1 (by omega) (by omega) e3
theorem c_allL100 {n : Nat} (hn : n ≤ 5) (K : Int64 → kSt → Option (Int64 × kSt)) (S : kSt) : ∀ (j i fu : Nat), i + j = n → j < fu → f_m10_allChances_L4 K (nI n) fu (lN (100 ^ i)) (nI i) S = K (lN (100 ^ n)) S := by
  intro j
  induction j with
  | zero =>
    intro i fu hi hfu
    obtain ⟨fu, rfl⟩ : ∃ m, fu = m + 1 := ⟨fu - 1, by omega⟩
    rw [f_m10_allChances_L4, if_pos (nI_le (by omega) (by omega)), show n = i by omega]
  | succ j ih =>
    intro i fu hi hfu
    obtain ⟨fu, rfl⟩ : ∃ m, fu = m + 1 := ⟨fu - 1, by omega⟩
    rw [f_m10_allChances_L4, if_neg (nI_ge (by omega) (by omega))]
    simp only [knx]
    rw [show (100 : Int64) = lN 100 from rfl, lN_mul, nI_1, ← Nat.pow_succ]
    exact ih (i + 1) fu (by omega) (by omega)
theorem c_all100 {n : Nat} (hn : n ≤ 5) (S : kSt) : f_m10_allChances (nI n) S = some (lN (100 ^ n), S) :=
  c_allL100 hn (fun x S => some (x, S)) S n 0 kFU (by omega) (by show _ < 1000000; omega)
-- the reference's side
theorem frM_eq {S T : kSt} (h : T.1 = S.1) : frM S T := ⟨fun a _ _ => by rw [h], fun j _ => by rw [h]⟩
theorem sayB_1 {S T : kSt} (h : T.1 = S.1) (p : Nat) (b : Nat → Bool) (k : Nat) : sayB T p b k = sayB S p b k := sayB_k (keep_L h) p b k
theorem m_tdI {S : kSt} (hm : mOk S) {p n set : Nat} {c3 : Int32} (hp : p < 5) (hn : n ≤ 5) (hs : set < 32) (K : Int64 → Int32 → kSt → Option kSt) : ∀ (j i fu : Nat), i + j = n → j < fu → f_m11_tryDumb_L40 K (nI p) (nI n) c3 (nI set) fu (lN (wtD (gN S 57 1) (tb set) i)) (nI (sayB S p (tb set) i)) (nI i) S = K (lN (wtD (gN S 57 1) (tb set) n)) (nI (sayB S p (tb set) n)) S := by
  have hd := hm.dmb
  have hst := (hm.2.2.2.2.2.2.2.2.2.1 p hp).2
  have hev := (hm.2.2.2.2.2.1 p hp).2
  have hse := hm.2.2.2.2.2.2.2.2.2.2.2.2
  simp only [Nat.zero_add] at hst hse
  intro j
  induction j with
  | zero =>
    intro i fu hi hfu
    obtain ⟨fu, rfl⟩ : ∃ m, fu = m + 1 := ⟨fu - 1, by omega⟩
    rw [f_m11_tryDumb_L40, if_pos (nI_le (by omega) (by omega)), show n = i by omega]
  | succ j ih =>
    intro i fu hi hfu
    obtain ⟨fu, rfl⟩ : ∃ m, fu = m + 1 := ⟨fu - 1, by omega⟩
    have h35 := hse.2
    have hy := sayB_le hm hp (tb set) i
    rw [f_m11_tryDumb_L40, if_neg (nI_ge (by omega) (by omega)), m_hasBit hs (by omega)]
    simp only [Option.bind_some, knx]
    rw [m_hasBit hs (by omega)]
    simp only [Option.bind_some]
    rw [nI5, kgi_nI (by omega) (by omega), nI13, kgi_nI (by omega) (by omega), nI_clamp (by omega), nI_clamp (by omega), hst.1, hev.1, hse.1, nI_add, nI_1, m_behind hm hp hy hst.2 hev.2 (by omega) (tb set i)]
    simp only [Option.bind_some]
    rw [hd.1, dI hd.2, nI_l (by omega), nI_1]
    have := ih (i + 1) fu (by omega) (by omega)
    unfold sayB at this ⊢
    rw [wtD, sayD] at this
    cases hb : tb set i
    · rw [hb] at this
      simp only [Bool.false_eq_true, if_false] at this ⊢
      rw [lN_mul]
      exact this
    · rw [hb] at this
      simp only [if_true] at this ⊢
      rw [lN_mul]
      exact this
theorem m_tdL {S : kSt} (hm : mOk S) {p n much : Nat} (hp : p < 5) (hn : n ≤ 5) (hu : much ≤ 99) (K : kSt → Option kSt) : ∀ (j i fu : Nat) (T : kSt), i + j = 2 ^ n → j < fu → T.1 = S.1 → T.2 14 39 = lN (sdA (gN S 57 1) n i) → T.2 14 40 = lN (sdO S p n much i) → T.2 14 41 = lN (sdM S p n i) → ∃ T', f_m11_tryDumb_L18 K (nI p) (nI n) (nI much) fu (nI i) T = K T' ∧ T'.1 = S.1 ∧ T'.2 14 39 = lN (sdA (gN S 57 1) n (2 ^ n)) ∧ T'.2 14 40 = lN (sdO S p n much (2 ^ n)) ∧ T'.2 14 41 = lN (sdM S p n (2 ^ n)) := by
  have h32 := p2n hn
  have hf0 := (hm.2.2.2.2.2.2.2.2.2.1 p hp).1.1
  simp only [Nat.zero_add] at hf0
  intro j
  induction j with
  | zero =>
    intro i fu T hi hfu h1 h2 h3 h4
    obtain ⟨fu, rfl⟩ : ∃ m, fu = m + 1 := ⟨fu - 1, by omega⟩
    rw [f_m11_tryDumb_L18, shl6 hn, if_pos (nI_le (by omega) (by omega)), show 2 ^ n = i by omega]
    exact ⟨T, rfl, h1, h2, h3, h4⟩
  | succ j ih =>
    intro i fu T hi hfu h1 h2 h3 h4
    obtain ⟨fu, rfl⟩ : ∃ m, fu = m + 1 := ⟨fu - 1, by omega⟩
    have hk : keep S T := keep_L h1
    have hy := sayB_le hm hp (tb i) n
    have hw := hm.1.2.2
    rw [f_m11_tryDumb_L18, shl6 hn, if_neg (nI_ge (by omega) (by omega)), kgi_nI (by omega) (by omega), nI_clamp (by omega)]
    simp only [knx_e]
    rw [h1, hf0]
    have key := m_tdI (hk.mk.mpr hm) (c3 := nI much) hp hn (show i < 32 by omega) (fun (x16 : Int64) (x17 : Int32) (S18 : kSt) => f_m11_tryDumb_L18 K (nI p) (nI n) (nI much) fu (nI i + 1) (kuL (kuL (kuL S18 14 39 (S18.2 14 39 + x16)) 14 40 ((kuL S18 14 39 (S18.2 14 39 + x16)).2 14 40 + (if x17 < nI much then 0 else x16))) 14 41 ((kuL (kuL S18 14 39 (S18.2 14 39 + x16)) 14 40 ((kuL S18 14 39 (S18.2 14 39 + x16)).2 14 40 + (if x17 < nI much then 0 else x16))).2 14 41 + x16 * x17.toInt64))) n 0 kFU (by omega) (by show _ < 1000000; omega)
    rw [sayB_k hk, sayB_k hk, hk.gn (a := 57) rfl] at key
    rw [show f_m11_tryDumb_L40 _ (nI p) (nI n) (nI much) (nI i) kFU 1 (nI (gN S 61 p)) 0 T = _ from key]
    rw [nI_1]
    refine ih (i + 1) fu _ (by omega) (by omega) h1 ?_ ?_ ?_
    · simp only [uL_get, h2, lN_add, true_and, if_true, show ¬ (39 : Nat) = 41 by decide, show ¬ (39 : Nat) = 40 by decide, if_false]
      rfl
    · simp only [uL_get, h3, true_and, if_true, show ¬ (40 : Nat) = 41 by decide, show ¬ (40 : Nat) = 39 by decide, if_false]
      rw [sdO, kite (nI_ltI (show sayB S p (tb i) n < 2 ^ 31 by omega) (show much < 2 ^ 31 by omega))]
      by_cases hq : sayB S p (tb i) n < much
      · rw [if_pos hq, if_pos hq, show (0 : Int64) = lN 0 from rfl, lN_add]
      · rw [if_neg hq, if_neg hq, lN_add]
    · simp only [uL_get, h4, true_and, if_true, show ¬ (41 : Nat) = 39 by decide, show ¬ (41 : Nat) = 40 by decide, if_false]
      rw [nI_l (by omega), lN_mul, lN_add]
      rfl
theorem m_td {S : kSt} (hm : mOk S) {p n much : Nat} (hp : p < 5) (hn : n ≤ 5) (hu : much ≤ 99) : ∃ T', f_m11_tryDumb (nI p) (nI n) (nI much) S = some T' ∧ T'.1 = S.1 ∧ T'.2 14 39 = lN (100 ^ n) ∧ T'.2 14 40 = lN (sdO S p n much (2 ^ n)) ∧ T'.2 14 41 = lN (sdM S p n (2 ^ n)) := by
  have h32 := p2n hn
  unfold f_m11_tryDumb
  simp only [knx_e]
  rw [← sdA_100 n (by omega) (gN S 57 1) (by have := hm.dmb.2; omega)]
  exact m_tdL hm hp hn hu (fun S => some S) (2 ^ n) 0 kFU _ (by omega) (by show _ < 1000000; omega) rfl (by simp [uL_get]; rfl) (by simp [uL_get]; rfl) (by simp [uL_get]; rfl)
