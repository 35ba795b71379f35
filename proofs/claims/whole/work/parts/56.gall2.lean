-- the gallery, the reference's side
theorem m_clrO {S : kSt} {c1 c2 c5 c6 c7 : Int32} {c3 : Bool} (K : kSt → Option (Int64 × kSt)) : ∀ (j i fu : Nat) (T : kSt), i + j = 5 → j < fu → frM S T → (∀ k, k < i → T.1 69 k = 0) → ∃ T', f_m11_verdictOdds_L79 K c1 c2 c3 c5 c6 c7 fu (nI i) T = K T' ∧ frM S T' ∧ (∀ k, k < 5 → T'.1 69 k = 0) := by
  intro j
  induction j with
  | zero =>
    intro i fu T hi hfu hf hv
    obtain ⟨fu, rfl⟩ : ∃ m, fu = m + 1 := ⟨fu - 1, by omega⟩
    rw [f_m11_verdictOdds_L79, if_pos (show (5 : Int32) ≤ nI i from nI_le (a := 5) (by omega) (by omega))]
    exact ⟨T, rfl, hf, fun k hk => hv k (by omega)⟩
  | succ j ih =>
    intro i fu T hi hfu hf hv
    obtain ⟨fu, rfl⟩ : ∃ m, fu = m + 1 := ⟨fu - 1, by omega⟩
    rw [f_m11_verdictOdds_L79, if_neg (show ¬ (5 : Int32) ≤ nI i from nI_ge (b := 5) (by omega) (by omega)), kgi_nI (by omega) (by omega), nI_clamp (by omega)]
    simp only [knx]
    rw [nI_1]
    refine ih (i + 1) fu _ (by omega) (by omega) (hf.u (by omega) _ _) (fun k hk => ?_)
    rw [uI_get]
    by_cases hk2 : k = i
    · rw [if_pos ⟨rfl, hk2⟩]
    · rw [if_neg (fun q => hk2 q.2), hv k (by omega)]
theorem m_clrL {S : kSt} {c2 c3 : Int32} (K : kSt → Option (Int32 × kSt)) : ∀ (j i fu : Nat) (T : kSt), i + j = 5 → j < fu → frM S T → (∀ k, k < i → T.1 69 k = 0) → ∃ T', f_m11_lookWhy_L33 K c2 c3 fu (nI i) T = K T' ∧ frM S T' ∧ (∀ k, k < 5 → T'.1 69 k = 0) := by
  intro j
  induction j with
  | zero =>
    intro i fu T hi hfu hf hv
    obtain ⟨fu, rfl⟩ : ∃ m, fu = m + 1 := ⟨fu - 1, by omega⟩
    rw [f_m11_lookWhy_L33, if_pos (show (5 : Int32) ≤ nI i from nI_le (a := 5) (by omega) (by omega))]
    exact ⟨T, rfl, hf, fun k hk => hv k (by omega)⟩
  | succ j ih =>
    intro i fu T hi hfu hf hv
    obtain ⟨fu, rfl⟩ : ∃ m, fu = m + 1 := ⟨fu - 1, by omega⟩
    rw [f_m11_lookWhy_L33, if_neg (show ¬ (5 : Int32) ≤ nI i from nI_ge (b := 5) (by omega) (by omega)), kgi_nI (by omega) (by omega), nI_clamp (by omega)]
    simp only [knx]
    rw [nI_1]
    refine ih (i + 1) fu _ (by omega) (by omega) (hf.u (by omega) _ _) (fun k hk => ?_)
    rw [uI_get]
    by_cases hk2 : k = i
    · rw [if_pos ⟨rfl, hk2⟩]
    · rw [if_neg (fun q => hk2 q.2), hv k (by omega)]
theorem frM.e57 {S T : kSt} (h : frM S T) : T.1 57 = S.1 57 := h.1 57 (by decide) (by decide)
theorem m_cntO {S : kSt} {P n out : Nat} {c1 c5 c6 c7 : Int32} {c3 : Bool} (hS : S.1 57 2 = nI P) (hP : P ≤ 5) (h1 : 1 ≤ P) (hn : n ≤ 200) (ho : out < 2 ^ 31) (K : kSt → Option (Int64 × kSt)) : ∀ (j i fu : Nat) (T : kSt), i + j = n → j < fu → frM S T → (∀ k, k < 5 → T.1 69 k = nI (cnK (dg P out) i k)) → ∃ T', f_m11_verdictOdds_L106 K c1 (nI n) c3 c5 c6 c7 fu (nI (out / P ^ i)) (nI i) T = K T' ∧ frM S T' ∧ (∀ k, k < 5 → T'.1 69 k = nI (cnK (dg P out) n k)) := by
  intro j
  induction j with
  | zero =>
    intro i fu T hi hfu hf hv
    obtain ⟨fu, rfl⟩ : ∃ m, fu = m + 1 := ⟨fu - 1, by omega⟩
    rw [f_m11_verdictOdds_L106, if_pos (nI_le (by omega) (by omega))]
    have hin : n = i := by omega
    subst hin
    exact ⟨T, rfl, hf, hv⟩
  | succ j ih =>
    intro i fu T hi hfu hf hv
    obtain ⟨fu, rfl⟩ : ∃ m, fu = m + 1 := ⟨fu - 1, by omega⟩
    have hd := dv_lt ho P i
    have hm := Nat.mod_lt (out / P ^ i) (show P > 0 by omega)
    rw [f_m11_verdictOdds_L106, if_neg (nI_ge (by omega) (by omega))]
    simp only [knx]
    rw [hf.e57, hS, kgz_nI (by omega) (by omega), krem_nI hd (by omega) (by omega), kgi_nI (by omega) (by omega), kgi_nI (by omega) (by omega), nI_clamp (by omega), kuI_ne _ _ _ (show (57 : Nat) ≠ 69 by decide), hf.e57, hS, kgz_nI (by omega) (by omega), pk_div hd (by omega) (by omega), nI_1, dg_up]
    refine ih (i + 1) fu _ (by omega) (by omega) (hf.u (by omega) _ _) (fun k hk => ?_)
    rw [uI_get, cnK]
    show (if 69 = 69 ∧ k = out / P ^ i % P then _ else _) = nI (if k = out / P ^ i % P then _ else _)
    by_cases hk2 : k = out / P ^ i % P
    · rw [if_pos ⟨rfl, hk2⟩, if_pos hk2, ← hk2, hv k hk, nI_1]
    · rw [if_neg (fun q => hk2 q.2), if_neg hk2, hv k hk]
theorem m_cntL {S : kSt} {P n s : Nat} (hS : S.1 57 2 = nI P) (hP : P ≤ 5) (h1 : 1 ≤ P) (hn : n ≤ 200) (hs : s ≤ 65536) (K : kSt → Option (Int32 × kSt)) : ∀ (j i fu : Nat) (T : kSt), i + j = n → j < fu → frM S T → (∀ k, k < 5 → T.1 69 k = nI (cnK (dwN P s) i k)) → ∃ T', f_m11_lookWhy_L59 K (nI n) fu (nI (drK s i)) (nI i) T = K T' ∧ frM S T' ∧ (∀ k, k < 5 → T'.1 69 k = nI (cnK (dwN P s) n k)) := by
  intro j
  induction j with
  | zero =>
    intro i fu T hi hfu hf hv
    obtain ⟨fu, rfl⟩ : ∃ m, fu = m + 1 := ⟨fu - 1, by omega⟩
    rw [f_m11_lookWhy_L59, if_pos (nI_le (by omega) (by omega))]
    have hin : n = i := by omega
    subst hin
    exact ⟨T, rfl, hf, hv⟩
  | succ j ih =>
    intro i fu T hi hfu hf hv
    obtain ⟨fu, rfl⟩ : ∃ m, fu = m + 1 := ⟨fu - 1, by omega⟩
    have hd := drK_le hs i
    have hd1 := drK_le hs (i + 1)
    have hm := Nat.mod_lt (drK s (i + 1)) (show P > 0 by omega)
    rw [f_m11_lookWhy_L59, if_neg (nI_ge (by omega) (by omega))]
    simp only [knx]
    rw [hf.e57, hS, kgz_nI (by omega) (by omega), draw_I hd, show (75 * drK s i + 74) % 65537 = drK s (i + 1) from rfl, krem_nI (by omega) (by omega) (by omega), kgi_nI (by omega) (by omega), kgi_nI (by omega) (by omega), nI_clamp (by omega), nI_1]
    refine ih (i + 1) fu _ (by omega) (by omega) (hf.u (by omega) _ _) (fun k hk => ?_)
    rw [uI_get, cnK]
    show (if 69 = 69 ∧ k = drK s (i + 1) % P then _ else _) = nI (if k = drK s (i + 1) % P then _ else _)
    by_cases hk2 : k = drK s (i + 1) % P
    · rw [if_pos ⟨rfl, hk2⟩, if_pos hk2, ← hk2, hv k hk, nI_1]
    · rw [if_neg (fun q => hk2 q.2), if_neg hk2, hv k hk]
theorem m_vdL {T : kSt} {P : Nat} (hS : T.1 57 2 = nI P) (hP : P ≤ 5) (K : Int32 → kSt → Option (Int32 × kSt)) : ∀ (j i fu : Nat), i + 1 + j = P → j < fu → f_m11_verdictOf_L4 K fu (nI (bstB (fun a b => decide (T.1 69 a ≤ T.1 69 b)) i)) (nI (i + 1)) T = K (nI (bstB (fun a b => decide (T.1 69 a ≤ T.1 69 b)) (P - 1))) T := by
  intro j
  induction j with
  | zero =>
    intro i fu hi hfu
    obtain ⟨fu, rfl⟩ : ∃ m, fu = m + 1 := ⟨fu - 1, by omega⟩
    rw [f_m11_verdictOf_L4, hS, if_pos (nI_le (by omega) (by omega)), show P - 1 = i by omega]
  | succ j ih =>
    intro i fu hi hfu
    obtain ⟨fu, rfl⟩ : ∃ m, fu = m + 1 := ⟨fu - 1, by omega⟩
    have hb := bstB_le (fun a b => decide (T.1 69 a ≤ T.1 69 b)) i
    rw [f_m11_verdictOf_L4, hS, if_neg (nI_ge (by omega) (by omega)), kgi_nI (by omega) (by omega), kgi_nI (by omega) (by omega)]
    simp only [knx]
    rw [nI_clamp (by omega), nI_clamp (by omega), nI_1, ← ih (i + 1) fu (by omega) (by omega), bstB]
    by_cases h : T.1 69 (i + 1) ≤ T.1 69 (bstB (fun a b => decide (T.1 69 a ≤ T.1 69 b)) i)
    · rw [if_pos h, if_pos (decide_eq_true h)]
    · rw [if_neg h, if_neg (by simpa using h)]
theorem m_vd {T : kSt} {P : Nat} (hS : T.1 57 2 = nI P) (hP : P ≤ 5) (h1 : 1 ≤ P) : f_m11_verdictOf T = some (nI (bstB (fun a b => decide (T.1 69 a ≤ T.1 69 b)) (P - 1)), T) :=
  m_vdL hS hP (fun x S => some (x, S)) (P - 1) 0 kFU (by omega) (by show _ < 1000000; omega)
theorem m_vo {S : kSt} {P p n : Nat} {c3 : Bool} (hS : S.1 57 2 = nI P) (hP : P ≤ 5) (h1 : 1 ≤ P) (hp : p < 5) (hn : n ≤ 4) (K : Int32 → kSt → Option (Int64 × kSt)) : ∀ (j i fu : Nat) (T : kSt), i + j = P ^ n → j < fu → frM S T → ∃ T', f_m11_verdictOdds_L69 K (nI p) (nI n) c3 (nI (P ^ n)) fu (nI (htK P p n i)) (nI i) T = K (nI (htK P p n (P ^ n))) T' ∧ frM S T' := by
  have hpw := pw_le hP hn
  intro j
  induction j with
  | zero =>
    intro i fu T hi hfu hf
    obtain ⟨fu, rfl⟩ : ∃ m, fu = m + 1 := ⟨fu - 1, by omega⟩
    rw [f_m11_verdictOdds_L69, if_pos (nI_le (by omega) (by omega))]
    have hin : P ^ n = i := by omega
    rw [hin]
    exact ⟨T, rfl, hf⟩
  | succ j ih =>
    intro i fu T hi hfu hf
    obtain ⟨fu, rfl⟩ : ∃ m, fu = m + 1 := ⟨fu - 1, by omega⟩
    rw [f_m11_verdictOdds_L69, if_neg (nI_ge (by omega) (by omega)), show (0 : Int32) = nI 0 from rfl]
    obtain ⟨T1, e1, e2, e3⟩ := m_clrO (S := T) (c1 := nI p) (c2 := nI n) (c5 := nI (P ^ n)) (c6 := nI (htK P p n i)) (c7 := nI i) (c3 := c3) _ 5 0 kFU T (by omega) (by decide) frM.rf (fun k hk => absurd hk (by omega))
    rw [e1]
    obtain ⟨T2, g1, g2, g3⟩ := m_cntO (S := T1) (c1 := nI p) (c5 := nI (P ^ n)) (c6 := nI (htK P p n i)) (c7 := nI i) (c3 := c3) (n := n) (by rw [e2.e57, hf.e57]; exact hS) hP h1 (by omega) (show i < 2 ^ 31 by omega) _ n 0 kFU T1 (by omega) (by show _ < 1000000; omega) frM.rf (fun k hk => e3 k hk)
    rw [Nat.pow_zero, Nat.div_one] at g1
    rw [g1]
    have hf2 : frM S T2 := hf.tr (e2.tr g2)
    rw [m_vd (by rw [hf2.e57]; exact hS) hP h1, vd_I hP h1 (by omega) g3]
    simp only [Option.bind_some, knx]
    have hb := vdK_lt (cnK (dg P i) n) h1
    rw [kite (nI_eq (show vdK (cnK (dg P i) n) P < 2 ^ 31 by omega) (show p < 2 ^ 31 by omega)), nI_1]
    have hh : nI (htK P p n i) + kb (if vdK (cnK (dg P i) n) P = p then true else false) = nI (htK P p n (i + 1)) := by
      rw [htK]
      by_cases hq : vdK (cnK (dg P i) n) P = p
      · rw [if_pos hq, if_pos hq]
        exact nI_1 _
      · rw [if_neg hq, if_neg hq]
        show nI _ + nI 0 = _
        rw [nI_add]
        rfl
    rw [hh]
    exact ih (i + 1) fu _ (by omega) (by omega) hf2
theorem m_voA {S : kSt} {P n : Nat} {c1 : Int32} {c3 : Bool} (hS : S.1 57 2 = nI P) (hn : n ≤ 4) (K : Int32 → kSt → Option (Int64 × kSt)) : ∀ (j i fu : Nat), i + j = n → j < fu → f_m11_verdictOdds_L40 K c1 (nI n) c3 fu (nI (P ^ i)) (nI i) S = K (nI (P ^ n)) S := by
  intro j
  induction j with
  | zero =>
    intro i fu hi hfu
    obtain ⟨fu, rfl⟩ : ∃ m, fu = m + 1 := ⟨fu - 1, by omega⟩
    rw [f_m11_verdictOdds_L40, if_pos (nI_le (by omega) (by omega)), show n = i by omega]
  | succ j ih =>
    intro i fu hi hfu
    obtain ⟨fu, rfl⟩ : ∃ m, fu = m + 1 := ⟨fu - 1, by omega⟩
    rw [f_m11_verdictOdds_L40, if_neg (nI_ge (by omega) (by omega))]
    simp only [knx]
    rw [nI_1, hS, pk_mul, ← Nat.pow_succ]
    exact ih (i + 1) fu (by omega) (by omega)
theorem b_verdictOdds {S : kSt} (hc : cOk S) (hm : mOk S) {p n : Nat} (lo : Bool) (hp : p < gN S 57 2) (hn : n ≤ 4) : Body (cb_verdictOdds (nI p) (nI n) lo) (mb_verdictOdds (nI p) (nI n) lo) S := by
  have h1 := hm.2.2.1.1
  have hP := hm.2.2.1.2.1
  have hP5 := hm.2.2.1.2.2
  have hpw := pw_le hP5 hn
  have hpp : 0 < gN S 57 2 ^ n := Nat.pow_pos (by omega)
  have hle := htK_le (gN S 57 2) p n (gN S 57 2 ^ n)
  refine body_cm (lN (loT (htK (gN S 57 2) p n (gN S 57 2 ^ n)) (gN S 57 2 ^ n) lo)) ?_ (fun T hk => ?_)
  · unfold cb_verdictOdds
    rw [hc.pairs, hP]
    obtain ⟨T1, e1, e2, e3, e4⟩ := c_reckonG (S := S) hP5 h1 (show p < 5 by omega) hn
    rw [e1]
    simp only [Option.bind_some]
    rw [e3, e4, nI_l (by omega), nI_l (by omega)]
    obtain ⟨T2, g1, g2⟩ := c_ratio lo T1 (a := htK (gN S 57 2) p n (gN S 57 2 ^ n)) (b := gN S 57 2 ^ n) (by omega) (by omega) hpp
    refine ⟨T2, g1, fun a ha => ?_⟩
    rw [g2]
    exact e2 a ha
  · unfold mb_verdictOdds
    have hP' : T.1 57 2 = nI (gN S 57 2) := by rw [hk.at (a := 57) rfl]; exact hP
    have := m_voA (S := T) (c1 := nI p) (c3 := lo) hP' hn (fun (x9 : Int32) (S10 : kSt) => f_m11_verdictOdds_L69 (fun (x29 : Int32) (S30 : kSt) => (f_m11_lowest (x29.toInt64) (x9.toInt64) lo S30).bind fun q31 => some (q31.1, q31.2)) (nI p) (nI n) lo x9 kFU 0 0 S10) n 0 kFU (by omega) (by show _ < 1000000; omega)
    rw [Nat.pow_zero] at this
    rw [show f_m11_verdictOdds_L40 _ (nI p) (nI n) lo kFU 1 0 T = _ from this]
    obtain ⟨T2, g1, g2⟩ := m_vo (S := T) (c3 := lo) (p := p) hP' hP5 h1 (by omega) hn (fun (x29 : Int32) (S30 : kSt) => (f_m11_lowest (x29.toInt64) ((nI (gN S 57 2 ^ n)).toInt64) lo S30).bind fun q31 => some (q31.1, q31.2)) (gN S 57 2 ^ n) 0 kFU T (by omega) (by show _ < 1000000; omega) frM.rf
    refine ⟨T2, ?_, g2⟩
    refine Eq.trans g1 ?_
    rw [nI_l (by omega), nI_l (by omega), m_lowest lo T2 (by omega) (by omega) hpp]
    rfl
-- looks and verdict
theorem m_lwT {S : kSt} (hm : mOk S) {s n : Nat} (hs : s ≤ 65536) (hn : n ≤ 200) : ∃ T', f_m11_lookWhy true (nI s) (nI n) S = some (0, T') ∧ frM S T' ∧ (∀ k, k < 5 → T'.1 69 k = nI (cnK (dwN (gN S 57 2) s) n k)) := by
  have h1 := hm.2.2.1.1
  have hP := hm.2.2.1.2.1
  have hP5 := hm.2.2.1.2.2
  unfold f_m11_lookWhy
  simp only [if_true]
  rw [m_in, decide_eq_true ⟨nI_pos' (by omega), show nI s ≤ nI 65536 from nI_le hs (by omega)⟩]
  simp only [Option.bind_some, if_true]
  rw [m_in, decide_eq_true ⟨nI_pos' (by omega), show nI n ≤ nI 200 from nI_le hn (by omega)⟩]
  simp only [Option.bind_some, if_true]
  obtain ⟨T1, e1, e2, e3⟩ := m_clrL (S := S) (c2 := nI s) (c3 := nI n) (fun (S9 : kSt) => f_m11_lookWhy_L59 (fun (S16 : kSt) => some (0, S16)) (nI n) kFU (nI s) 0 S9) 5 0 kFU S (by omega) (by decide) frM.rf (fun k hk => absurd hk (by omega))
  rw [show f_m11_lookWhy_L33 _ (nI s) (nI n) kFU 0 S = _ from e1]
  exact m_cntL (S := S) hP hP5 h1 hn hs (fun S16 => some (0, S16)) n 0 kFU T1 (by omega) (by show _ < 1000000; omega) e2 (fun k hk => e3 k hk)
theorem m_lwF (a2 a3 : Int32) (S : kSt) (h : (uB a2 65536 && uB a3 200) = false) : f_m11_lookWhy true a2 a3 S = some (2, S) := by
  unfold f_m11_lookWhy
  simp only [if_true]
  rw [m_in, show (decide (0 ≤ a2 ∧ a2 ≤ 65536)) = uB a2 65536 from rfl]
  simp only [Option.bind_some]
  cases h2 : uB a2 65536
  · rfl
  · simp only [if_true]
    rw [m_in, show (decide (0 ≤ a3 ∧ a3 ≤ 200)) = uB a3 200 from rfl]
    rw [h2, Bool.true_and] at h
    rw [h]
    rfl
def cb_looks (a1 a2 a3 : Int32) (S : kSt) : Option (Int32 × kSt) := (f_m2_look (S.1 1 2) a2 a3 S).bind fun q7 => kgi a1 5 (some (q7.1 54 a1.toNatClampNeg, q7))
def mb_looks (a1 a2 a3 : Int32) (S : kSt) : Option (Int32 × kSt) := (f_m11_lookWhy true a2 a3 S).bind fun q3 => if q3.1 = 0 then kgi a1 5 (some (q3.2.1 69 a1.toNatClampNeg, q3.2)) else (f_m11_no q3.1 q3.2).bind fun q5 => some (q5.1, q5.2)
theorem ag_looks {S : kSt} (hI : Inv S) (a1 a2 a3 : Int32) (h : pB S a1 = true → (uB a2 65536 && uB a3 200) = true → Body (cb_looks a1 a2 a3) (mb_looks a1 a2 a3) (kuI S 0 18 0)) : Agree (f_m10_looks a1 a2 a3) (f_m11_looks a1 a2 a3) S := by
  refine ag_core hI (A := pB S a1) (B := uB a2 65536 && uB a3 200) (rf := (-1)) ?_ (fun T hk => ?_) h
  · unfold f_m10_looks
    rw [c_isPair hI]
    simp only [Option.bind_some, knx]
    rw [c_upTo]
    simp only [Option.bind_some]
    rw [c_upTo]
    cases pB S a1 <;> cases uB a2 65536 <;> cases uB a3 200 <;> simp only [Bool.false_and, Bool.and_false, Bool.true_and, Bool.and_self, Bool.false_eq_true, if_false, if_true, Option.bind_some, c_may, cb_looks]
  · unfold f_m11_looks
    rw [m_good]
    simp only [Option.bind_some]
    rw [m_isPair hI (hk.tr kG0_keep)]
    simp only [Option.bind_some]
    cases pB S a1
    · rfl
    · cases hB : (uB a2 65536 && uB a3 200)
      · rw [m_lwF a2 a3 _ hB]
        rfl
      · rfl
theorem b_looks {S : kSt} (hc : cOk S) (hm : mOk S) {p s n : Nat} (hp : p < gN S 57 2) (hs : s ≤ 65536) (hn : n ≤ 200) : Body (cb_looks (nI p) (nI s) (nI n)) (mb_looks (nI p) (nI s) (nI n)) S := by
  have h1 := hm.2.2.1.1
  have hP := hm.2.2.1.2.1
  have hP5 := hm.2.2.1.2.2
  refine body_cm (nI (cnK (dwN (gN S 57 2) s) n p)) ?_ (fun T hk => ?_)
  · unfold cb_looks
    rw [hc.pairs, hP]
    obtain ⟨T1, e1, e2, e3⟩ := c_look (S := S) hP5 h1 hn hs
    rw [e1]
    simp only [Option.bind_some]
    rw [kgi_nI (by omega) (by omega), nI_clamp (by omega), e3 p (by omega)]
    exact ⟨T1, rfl, e2⟩
  · unfold mb_looks
    obtain ⟨T1, e1, e2, e3⟩ := m_lwT (hk.mk.mpr hm) hs hn
    rw [e1]
    simp only [Option.bind_some, if_true]
    rw [kgi_nI (by omega) (by omega), nI_clamp (by omega), e3 p (by omega), hk.gn (a := 57) rfl]
    exact ⟨T1, rfl, e2⟩
def cb_verdict (a1 a2 : Int32) (S : kSt) : Option (Int32 × kSt) := (f_m2_look (S.1 1 2) a1 a2 S).bind fun q7 => (f_m10_firstMost 54 (q7.1 1 2) q7).bind fun q8 => some (q8.1, q8.2)
def mb_verdict (a1 a2 : Int32) (S : kSt) : Option (Int32 × kSt) := (f_m11_lookWhy true a1 a2 S).bind fun q3 => if q3.1 = 0 then (f_m11_verdictOf  q3.2).bind fun q5 => some (q5.1, q5.2) else (f_m11_no q3.1 q3.2).bind fun q6 => some (q6.1, q6.2)
theorem ag_verdict {S : kSt} (hI : Inv S) (a1 a2 : Int32) (h : hB S = true → (uB a1 65536 && uB a2 200) = true → Body (cb_verdict a1 a2) (mb_verdict a1 a2) (kuI S 0 18 0)) : Agree (f_m10_verdict a1 a2) (f_m11_verdict a1 a2) S := by
  refine ag_core hI (A := hB S) (B := uB a1 65536 && uB a2 200) (rf := (-1)) ?_ (fun T hk => ?_) h
  · unfold f_m10_verdict
    rw [hB_c hI]
    simp only [knx]
    rw [c_upTo]
    simp only [Option.bind_some]
    rw [c_upTo]
    cases hB S <;> cases uB a1 65536 <;> cases uB a2 200 <;> simp only [Bool.false_and, Bool.and_false, Bool.true_and, Bool.and_self, Bool.false_eq_true, if_false, if_true, Option.bind_some, c_may, cb_verdict]
  · unfold f_m11_verdict
    rw [m_good]
    simp only [Option.bind_some]
    rw [hB_m hI (hk.tr kG0_keep)]
    cases hB S
    · rfl
    · cases hB2 : (uB a1 65536 && uB a2 200)
      · rw [m_lwF a1 a2 _ hB2]
        rfl
      · rfl
theorem b_verdict {S : kSt} (hc : cOk S) (hm : mOk S) {s n : Nat} (hs : s ≤ 65536) (hn : n ≤ 200) : Body (cb_verdict (nI s) (nI n)) (mb_verdict (nI s) (nI n)) S := by
  have h1 := hm.2.2.1.1
  have hP := hm.2.2.1.2.1
  have hP5 := hm.2.2.1.2.2
  refine body_cm (nI (vdK (cnK (dwN (gN S 57 2) s) n) (gN S 57 2))) ?_ (fun T hk => ?_)
  · unfold cb_verdict
    rw [hc.pairs, hP]
    obtain ⟨T1, e1, e2, e3⟩ := c_look (S := S) hP5 h1 hn hs
    rw [e1]
    simp only [Option.bind_some]
    rw [e2 1 (by decide), hc.pairs, hP, c_first hP5 h1, vd_I hP5 h1 hn e3]
    exact ⟨T1, rfl, e2⟩
  · unfold mb_verdict
    obtain ⟨T1, e1, e2, e3⟩ := m_lwT (hk.mk.mpr hm) hs hn
    rw [hk.gn (a := 57) rfl] at e3
    rw [e1]
    simp only [Option.bind_some, if_true]
    rw [m_vd (P := gN S 57 2) (by rw [e2.e57, hk.at (a := 57) rfl]; exact hP) hP5 h1, vd_I hP5 h1 hn e3]
    exact ⟨T1, rfl, e2⟩
