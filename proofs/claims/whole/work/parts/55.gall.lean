-- the gallery
def cnK (g : Nat → Nat) : Nat → Nat → Nat
  | 0, _ => 0
  | k + 1, j => if j = g k then cnK g k j + 1 else cnK g k j
theorem cnK_le (g : Nat → Nat) : ∀ k j, cnK g k j ≤ k
  | 0, _ => Nat.le_refl _
  | k + 1, j => by
    have := cnK_le g k j
    rw [cnK]
    split <;> omega
def dg (P out i : Nat) : Nat := out / P ^ i % P
theorem dg_up (P out i : Nat) : out / P ^ i / P = out / P ^ (i + 1) := by
  rw [Nat.div_div_eq_div_mul, Nat.pow_succ]
theorem dv_lt {out : Nat} (h : out < 2 ^ 31) (P i : Nat) : out / P ^ i < 2 ^ 31 := Nat.lt_of_le_of_lt (Nat.div_le_self _ _) h
theorem c_lbL {S : kSt} {P n out : Nat} (hP : P ≤ 5) (h1 : 1 ≤ P) (hn : n ≤ 200) (ho : out < 2 ^ 31) (K : kSt → Option kSt) : ∀ (j i fu : Nat) (T : kSt), i + j = n → j < fu → frc S T → (∀ k, k < 5 → T.1 54 k = nI (cnK (dg P out) i k)) → T.1 11 = S.1 11 → ∃ T', f_m2_lookBy_L14 K (nI P) (nI n) fu (nI (out / P ^ i)) (nI i) T = K T' ∧ frc S T' ∧ (∀ k, k < 5 → T'.1 54 k = nI (cnK (dg P out) n k)) ∧ T'.1 11 = S.1 11 := by
  intro j
  induction j with
  | zero =>
    intro i fu T hi hfu hf hv h11
    obtain ⟨fu, rfl⟩ : ∃ m, fu = m + 1 := ⟨fu - 1, by omega⟩
    rw [f_m2_lookBy_L14, if_pos (nI_le (by omega) (by omega))]
    have hin : n = i := by omega
    subst hin
    exact ⟨T, rfl, hf, hv, h11⟩
  | succ j ih =>
    intro i fu T hi hfu hf hv h11
    obtain ⟨fu, rfl⟩ : ∃ m, fu = m + 1 := ⟨fu - 1, by omega⟩
    have hd := dv_lt ho P i
    have hm := Nat.mod_lt (out / P ^ i) (show P > 0 by omega)
    rw [f_m2_lookBy_L14, if_neg (nI_ge (by omega) (by omega)), if_neg (nI_nle (by omega) (by omega)), kgz_nI (by omega) (by omega), krem_nI hd (by omega) (by omega)]
    simp only [knx]
    rw [kgi_nI (by omega) (by omega), kgi_nI (by omega) (by omega), kgz_nI (by omega) (by omega), nI_clamp (by omega), pk_div hd (by omega) (by omega), nI_1, dg_up]
    refine ih (i + 1) fu _ (by omega) (by omega) (hf.u rfl _ _) (fun k hk => ?_) (by rw [kuI_ne _ _ _ (by decide)]; exact h11)
    rw [uI_get, cnK]
    show (if 54 = 54 ∧ k = out / P ^ i % P then _ else _) = nI (if k = out / P ^ i % P then _ else _)
    by_cases hk2 : k = out / P ^ i % P
    · rw [if_pos ⟨rfl, hk2⟩, if_pos hk2, ← hk2, hv k hk, nI_1]
    · rw [if_neg (fun q => hk2 q.2), if_neg hk2, hv k hk]
theorem c_lookBy {S T : kSt} {P n out : Nat} (hP : P ≤ 5) (h1 : 1 ≤ P) (hn : n ≤ 200) (ho : out < 2 ^ 31) (hf : frc S T) (h11 : T.1 11 = S.1 11) : ∃ T', f_m2_lookBy (nI out) (nI P) (nI n) T = some T' ∧ frc S T' ∧ (∀ k, k < 5 → T'.1 54 k = nI (cnK (dg P out) n k)) ∧ T'.1 11 = S.1 11 := by
  unfold f_m2_lookBy
  obtain ⟨T1, e1, e2, e3, -⟩ := c_fill (S := T) (w := 54) (n := 5) 0 (by omega)
  rw [e1]
  simp only [Option.bind_some]
  have := c_lbL (S := S) hP h1 hn ho (fun S8 => some S8) n 0 kFU T1 (by omega) (by show _ < 1000000; omega) (hf.tr (e2.c rfl)) (fun k hk => e3 k hk) (by rw [e2.1 11 (by decide)]; exact h11)
  rw [Nat.pow_zero, Nat.div_one] at this
  exact this
def drK (s : Nat) : Nat → Nat
  | 0 => s
  | k + 1 => (75 * drK s k + 74) % 65537
theorem drK_le {s : Nat} (h : s ≤ 65536) : ∀ k, drK s k ≤ 65536
  | 0 => h
  | k + 1 => by
    rw [drK]
    have := Nat.mod_lt (75 * drK s k + 74) (show 65537 > 0 by decide)
    omega
theorem draw_I {a : Nat} (h : a ≤ 65536) : krem ((75 * nI a) + 74) 65537 = nI ((75 * a + 74) % 65537) := by
  rw [show (75 : Int32) = nI 75 from rfl, show (74 : Int32) = nI 74 from rfl, show (65537 : Int32) = nI 65537 from rfl, pk_mul, nI_add, krem_nI (by omega) (by omega) (by omega)]
def dwN (P s i : Nat) : Nat := drK s (i + 1) % P
theorem c_lkL {S : kSt} {P n s : Nat} (hP : P ≤ 5) (h1 : 1 ≤ P) (hn : n ≤ 200) (hs : s ≤ 65536) (K : kSt → Option kSt) : ∀ (j i fu : Nat) (T : kSt), i + j = n → j < fu → frc S T → (∀ k, k < 5 → T.1 54 k = nI (cnK (dwN P s) i k)) → ∃ T', f_m2_look_L14 K (nI P) (nI n) fu (nI (drK s i)) (nI i) T = K T' ∧ frc S T' ∧ (∀ k, k < 5 → T'.1 54 k = nI (cnK (dwN P s) n k)) := by
  intro j
  induction j with
  | zero =>
    intro i fu T hi hfu hf hv
    obtain ⟨fu, rfl⟩ : ∃ m, fu = m + 1 := ⟨fu - 1, by omega⟩
    rw [f_m2_look_L14, if_pos (nI_le (by omega) (by omega))]
    have hin : n = i := by omega
    subst hin
    exact ⟨T, rfl, hf, hv⟩
  | succ j ih =>
    intro i fu T hi hfu hf hv
    obtain ⟨fu, rfl⟩ : ∃ m, fu = m + 1 := ⟨fu - 1, by omega⟩
    have hd := drK_le hs i
    have hd1 := drK_le hs (i + 1)
    have hm := Nat.mod_lt (drK s (i + 1)) (show P > 0 by omega)
    rw [f_m2_look_L14, if_neg (nI_ge (by omega) (by omega)), if_neg (nI_nle (by omega) (by omega))]
    unfold f_m10_drawFrom
    simp only [Option.bind_some, knx]
    rw [draw_I hd, kgz_nI (by omega) (by omega)]
    rw [show (75 * drK s i + 74) % 65537 = drK s (i + 1) from rfl, krem_nI (by omega) (by omega) (by omega), kgi_nI (by omega) (by omega), kgi_nI (by omega) (by omega), nI_clamp (by omega), nI_1]
    refine ih (i + 1) fu _ (by omega) (by omega) (hf.u rfl _ _) (fun k hk => ?_)
    rw [uI_get, cnK]
    show (if 54 = 54 ∧ k = drK s (i + 1) % P then _ else _) = nI (if k = drK s (i + 1) % P then _ else _)
    by_cases hk2 : k = drK s (i + 1) % P
    · rw [if_pos ⟨rfl, hk2⟩, if_pos hk2, ← hk2, hv k hk, nI_1]
    · rw [if_neg (fun q => hk2 q.2), if_neg hk2, hv k hk]
theorem c_look {S : kSt} {P n s : Nat} (hP : P ≤ 5) (h1 : 1 ≤ P) (hn : n ≤ 200) (hs : s ≤ 65536) : ∃ T', f_m2_look (nI P) (nI s) (nI n) S = some T' ∧ frc S T' ∧ (∀ k, k < 5 → T'.1 54 k = nI (cnK (dwN P s) n k)) := by
  unfold f_m2_look
  obtain ⟨T1, e1, e2, e3, -⟩ := c_fill (S := S) (w := 54) (n := 5) 0 (by omega)
  rw [e1]
  simp only [Option.bind_some]
  exact c_lkL (S := S) hP h1 hn hs (fun S8 => some S8) n 0 kFU T1 (by omega) (by show _ < 1000000; omega) (e2.c rfl) (fun k hk => e3 k hk)
/-- the verdict -/
def vdK (c : Nat → Nat) (P : Nat) : Nat := bstB (fun a b => decide (c a ≤ c b)) (P - 1)
theorem vd_I {T : kSt} {w P n : Nat} {g : Nat → Nat} (hP : P ≤ 5) (h1 : 1 ≤ P) (hn : n ≤ 200) (hv : ∀ k, k < 5 → T.1 w k = nI (cnK g n k)) : bstB (fun a b => decide (T.1 w a ≤ T.1 w b)) (P - 1) = vdK (cnK g n) P := by
  unfold vdK
  refine bstB_c (N := P - 1) (fun a b ha hb => ?_) _ (Nat.le_refl _)
  have b1 := cnK_le g n a
  have b2 := cnK_le g n b
  rw [hv a (by omega), hv b (by omega)]
  exact decide_eq_decide.mpr (nI_leI (by omega) (by omega))
theorem vdK_lt (c : Nat → Nat) {P : Nat} (h1 : 1 ≤ P) : vdK c P < P := by
  have := bstB_le (fun a b => decide (c a ≤ c b)) (P - 1)
  unfold vdK
  omega
def htK (P p n : Nat) : Nat → Nat
  | 0 => 0
  | k + 1 => if vdK (cnK (dg P k) n) P = p then htK P p n k + 1 else htK P p n k
theorem htK_le (P p n : Nat) : ∀ k, htK P p n k ≤ k
  | 0 => Nat.le_refl _
  | k + 1 => by
    have := htK_le P p n k
    rw [htK]
    split <;> omega
theorem pw_le {P : Nat} (hP : P ≤ 5) {n : Nat} (hn : n ≤ 4) : P ^ n ≤ 625 :=
  Nat.le_trans (Nat.pow_le_pow_left hP n) (Nat.le_trans (Nat.pow_le_pow_right (by decide) hn) (by decide))
theorem c_rkA {S : kSt} {P n : Nat} (hP : P ≤ 5) (hn : n ≤ 4) {c2 : Int32} (K : kSt → Option kSt) : ∀ (j i fu : Nat) (T : kSt), i + j = n → j < fu → frc S T → T.1 11 2 = nI (P ^ i) → ∃ T', f_m2_reckon_L8 K (nI P) c2 (nI n) fu (nI i) T = K T' ∧ frc S T' ∧ T'.1 11 2 = nI (P ^ n) := by
  intro j
  induction j with
  | zero =>
    intro i fu T hi hfu hf hv
    obtain ⟨fu, rfl⟩ : ∃ m, fu = m + 1 := ⟨fu - 1, by omega⟩
    rw [f_m2_reckon_L8, if_pos (nI_le (by omega) (by omega))]
    have hin : n = i := by omega
    subst hin
    exact ⟨T, rfl, hf, hv⟩
  | succ j ih =>
    intro i fu T hi hfu hf hv
    obtain ⟨fu, rfl⟩ : ∃ m, fu = m + 1 := ⟨fu - 1, by omega⟩
    rw [f_m2_reckon_L8, if_neg (nI_ge (by omega) (by omega))]
    simp only [knx]
    rw [nI_1, hv, pk_mul, ← Nat.pow_succ]
    exact ih (i + 1) fu _ (by omega) (by omega) (hf.u rfl _ _) (by rw [uI_get, if_pos ⟨rfl, rfl⟩])
theorem c_rkB {S : kSt} {P p n : Nat} (hP : P ≤ 5) (h1 : 1 ≤ P) (hp : p < 5) (hn : n ≤ 4) (K : kSt → Option kSt) : ∀ (j i fu : Nat) (T : kSt), i + j = P ^ n → j < fu → frc S T → T.1 11 2 = nI (P ^ n) → T.1 11 1 = nI (htK P p n i) → ∃ T', f_m2_reckon_L38 K (nI P) (nI p) (nI n) fu (nI i) T = K T' ∧ frc S T' ∧ T'.1 11 2 = nI (P ^ n) ∧ T'.1 11 1 = nI (htK P p n (P ^ n)) := by
  have hpw := pw_le hP hn
  intro j
  induction j with
  | zero =>
    intro i fu T hi hfu hf h2 hv
    obtain ⟨fu, rfl⟩ : ∃ m, fu = m + 1 := ⟨fu - 1, by omega⟩
    rw [f_m2_reckon_L38, h2, if_pos (nI_le (by omega) (by omega))]
    have hin : P ^ n = i := by omega
    rw [hin]
    exact ⟨T, rfl, hf, by rw [h2, hin], hv⟩
  | succ j ih =>
    intro i fu T hi hfu hf h2 hv
    obtain ⟨fu, rfl⟩ : ∃ m, fu = m + 1 := ⟨fu - 1, by omega⟩
    rw [f_m2_reckon_L38, h2, if_neg (nI_ge (by omega) (by omega))]
    obtain ⟨T1, e1, e2, e3, e4⟩ := c_lookBy (S := T) (T := T) hP h1 (show n ≤ 200 by omega) (show i < 2 ^ 31 by omega) frc.rf rfl
    rw [e1]
    simp only [Option.bind_some]
    rw [c_first hP h1, vd_I hP h1 (by omega) e3]
    simp only [Option.bind_some, knx]
    have hb := vdK_lt (cnK (dg P i) n) h1
    rw [kite (nI_eq (show vdK (cnK (dg P i) n) P < 2 ^ 31 by omega) (show p < 2 ^ 31 by omega)), nI_1]
    by_cases hq : vdK (cnK (dg P i) n) P = p
    · rw [if_pos hq]
      refine ih (i + 1) fu _ (by omega) (by omega) ((hf.tr e2).u rfl _ _) ?_ ?_
      · rw [uI_get, if_neg (by omega), e4, h2]
      · rw [uI_get, if_pos ⟨rfl, rfl⟩, e4, hv, nI_1, htK, if_pos hq]
    · rw [if_neg hq]
      refine ih (i + 1) fu _ (by omega) (by omega) (hf.tr e2) ?_ ?_
      · rw [e4, h2]
      · rw [e4, hv, htK, if_neg hq]
theorem c_reckonF {S : kSt} {P p n : Nat} (hP : P ≤ 5) (h1 : 1 ≤ P) (hp : p < 5) (hn : n ≤ 4) (fu : Nat) (hfu : 1000 < fu) : ∃ T', f_m2_reckon_L8 (fun (S5 : kSt) => f_m2_reckon_L38 (fun (S14 : kSt) => some S14) (nI P) (nI p) (nI n) fu 0 (kuI S5 11 1 0)) (nI P) (nI p) (nI n) fu 0 (kuI S 11 2 1) = some T' ∧ frc S T' ∧ T'.1 11 2 = nI (P ^ n) ∧ T'.1 11 1 = nI (htK P p n (P ^ n)) := by
  have hpw := pw_le hP hn
  obtain ⟨T1, e1, e2, e3⟩ := c_rkA (S := S) (c2 := nI p) hP hn (fun (S5 : kSt) => f_m2_reckon_L38 (fun (S14 : kSt) => some S14) (nI P) (nI p) (nI n) fu 0 (kuI S5 11 1 0)) n 0 fu (kuI S 11 2 1) (by omega) (by omega) (frc.rf.u rfl _ _) (by rw [uI_get, if_pos ⟨rfl, rfl⟩, Nat.pow_zero]; rfl)
  obtain ⟨T2, g1, g2⟩ := c_rkB (S := S) hP h1 hp hn (fun S14 => some S14) (P ^ n) 0 fu (kuI T1 11 1 0) (by omega) (by omega) (e2.u rfl _ _) (by rw [uI_get, if_neg (by omega)]; exact e3) (by rw [uI_get, if_pos ⟨rfl, rfl⟩]; rfl)
  exact ⟨T2, Eq.trans e1 g1, g2⟩
theorem c_reckonG {S : kSt} {P p n : Nat} (hP : P ≤ 5) (h1 : 1 ≤ P) (hp : p < 5) (hn : n ≤ 4) : ∃ T', f_m2_reckon (nI P) (nI p) (nI n) S = some T' ∧ frc S T' ∧ T'.1 11 2 = nI (P ^ n) ∧ T'.1 11 1 = nI (htK P p n (P ^ n)) := by
  unfold f_m2_reckon
  simp only [knx_e]
  exact c_reckonF hP h1 hp hn kFU (by show 1000 < 1000000; omega)
