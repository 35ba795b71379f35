-- the calls about fits
theorem ag_fin {ρ : Type} {f g : kSt → Option (ρ × kSt)} {S : kSt} (hI : Inv S) {r : ρ} {S1 S2 : kSt} (t : Int32) (h1 : f S = some (r, S1)) (h2 : keep S S1) (h3 : S1.1 0 18 = t) (h4 : g S1 = some (r, S2)) (h5 : keep S1 S2) (h6 : S2.1 14 11 = t) (h7 : S2.1 0 18 = S1.1 0 18) (ht : t ≠ 4) : Agree f g S :=
  ag_gen hI ⟨r, S1, S2, h1, h2, h4, h5, by rw [h7, h3, h6], fun q => absurd (h6.symm.trans q) ht⟩
theorem ag_no {ρ : Type} {f g : kSt → Option (ρ × kSt)} {S : kSt} (hI : Inv S) (rf : ρ) (t : Int32) (ht : t ≠ 4) (hf : f S = some (rf, kuI S 0 18 t)) (hg : g (kuI S 0 18 t) = some (rf, kuI (kG0 (kuI S 0 18 t)) 14 11 t)) : Agree f g S :=
  ag_fin hI t hf k018_keep (by rw [uI_get, if_pos ⟨rfl, rfl⟩]) hg (kG0_keep.tr k11_keep) (by rw [uI_get, if_pos ⟨rfl, rfl⟩]) (by rw [uI_get, if_neg (by decide), kG0_18]) ht
theorem c_may_t {S : kSt} (hI : Inv S) (h : hB S = true) : ∃ T, f_m10_mayFit S = some (true, T) ∧ frc (kuI S 0 18 0) T ∧ fsO S T (LF S) := by
  have hm := hB_ok hI h
  have hk : keep S (kuI S 0 18 0) := k018_keep
  obtain ⟨T, e1, e2, e3⟩ := c_find (hk.ck.mpr hI.c) (hk.mk.mpr hm)
  rw [LF_k hk] at e3
  refine ⟨T, ?_, e2, e3⟩
  unfold f_m10_mayFit
  rw [hB_c hI, h, c_may1]
  simp only [Option.bind_some, if_true]
  rw [e1]
  rfl
theorem c_may_f {S : kSt} (hI : Inv S) (h : hB S = false) : f_m10_mayFit S = some (false, kuI S 0 18 1) := by
  unfold f_m10_mayFit
  rw [hB_c hI, h, c_may1]
  rfl
theorem frc18 {S T : kSt} (h : frc (kuI S 0 18 0) T) : keep S T ∧ T.1 0 18 = 0 := by
  refine ⟨k018_keep.tr h.kp.1, ?_⟩
  rw [h.kp.2, uI_get, if_pos ⟨rfl, rfl⟩]
theorem LF_len {S : kSt} (hm : mOk S) : (LF S).length ≤ 16 := Nat.le_trans (lsF_len S _) (p2U hm)
theorem LF_lt {S : kSt} (hm : mOk S) {x : Nat} (h : x ∈ LF S) : x < 2 ^ gN S 57 5 := lsF_lt S _ x h
/-- what the reference's seeking gives, behind the class's call -/
theorem m_seek2 {S S1 : kSt} (hI : Inv S) (h : hB S = true) (hk : keep S S1) (w : Int32) : ∃ T', f_m11_seekSets w (kG0 S1) = some (fdF (LF S) w, T') ∧ (frM (kG0 S1) T' ∧ keep S1 T' ∧ T'.1 14 11 = 0 ∧ T'.1 0 18 = S1.1 0 18) ∧ T'.1 14 31 = nI (LF S).length ∧ T'.1 14 32 = orF (LF S) ∧ T'.1 14 33 = suF (LF S) (gN S 57 5) ∧ ∀ k, k < gN S 57 5 → T'.1 66 k = nI (ofF (LF S) k) := by
  obtain ⟨T', e1, e2, e3⟩ := m_seek (hB_ok hI h) (hk.tr kG0_keep) w
  exact ⟨T', e1, ⟨e2, kG0_keep.tr e2.kp.1, by rw [e2.kp.2.1, kG0_11], by rw [e2.kp.2.2, kG0_18]⟩, e3⟩
theorem ag_fits {S : kSt} (hI : Inv S) : Agree f_m10_fits f_m11_fits S := by
  cases h : hB S
  · refine ag_no hI (-1) 1 (by decide) ?_ ?_
    · unfold f_m10_fits
      rw [c_may_f hI h]
      rfl
    · unfold f_m11_fits
      rw [m_good]
      simp only [Option.bind_some]
      rw [hB_m hI (k018_keep.tr kG0_keep), h]
      rfl
  · obtain ⟨T, e1, e2, e3⟩ := c_may_t hI h
    obtain ⟨T', g1, ⟨g0, g2, g3, g4⟩, g5, -⟩ := m_seek2 hI h (frc18 e2).1 (-1)
    refine ag_fin hI 0 (r := nI (LF S).length) (S1 := T) (S2 := T') ?_ (frc18 e2).1 (frc18 e2).2 ?_ g2 g3 g4 (by decide)
    · unfold f_m10_fits
      rw [e1]
      simp only [Option.bind_some, if_true]
      rw [e3.1]
    · unfold f_m11_fits
      rw [m_good]
      simp only [Option.bind_some]
      rw [hB_m hI ((frc18 e2).1.tr kG0_keep), h]
      simp only [if_true]
      rw [g1]
      simp only [Option.bind_some]
      rw [g5]
theorem drop_getD {L : List Nat} {i : Nat} (h : i < L.length) : L.drop i = L.getD i 0 :: L.drop (i + 1) := by
  rw [List.drop_eq_getElem_cons h, List.getD_eq_getElem?_getD, List.getElem?_eq_getElem h]
  rfl
theorem getD_mem {L : List Nat} {i : Nat} (h : i < L.length) : L.getD i 0 ∈ L := by
  rw [List.getD_eq_getElem?_getD, List.getElem?_eq_getElem h]
  exact List.getElem_mem h
theorem c_inSomeL {S T : kSt} {L : List Nat} (hL : L.length ≤ 16) (ho : fsO S T L) (K : Int32 → kSt → Option (Int32 × kSt)) : ∀ (j i fu : Nat) (v : Int32), i + j = L.length → j < fu → f_m1_inSome_L4 K fu v (nI i) T = K ((L.drop i).foldl (fun a s => a ||| nI s) v) T := by
  intro j
  induction j with
  | zero =>
    intro i fu v hi hfu
    obtain ⟨fu, rfl⟩ : ∃ m, fu = m + 1 := ⟨fu - 1, by omega⟩
    rw [f_m1_inSome_L4, ho.1, if_pos (nI_le (by omega) (by omega)), List.drop_eq_nil_of_le (by omega)]
    rfl
  | succ j ih =>
    intro i fu v hi hfu
    obtain ⟨fu, rfl⟩ : ∃ m, fu = m + 1 := ⟨fu - 1, by omega⟩
    rw [f_m1_inSome_L4, ho.1, if_neg (nI_ge (by omega) (by omega)), kgi_nI (by omega) (by omega), nI_clamp (by omega)]
    simp only [knx_e]
    rw [ho.2 i (by omega), nI_1, ih (i + 1) fu _ (by omega) (by omega), drop_getD (show i < L.length by omega)]
    rfl
theorem ag_could {S : kSt} (hI : Inv S) : Agree f_m10_could f_m11_could S := by
  cases h : hB S
  · refine ag_no hI (-1) 1 (by decide) ?_ ?_
    · unfold f_m10_could
      rw [c_may_f hI h]
      rfl
    · unfold f_m11_could
      rw [m_good]
      simp only [Option.bind_some]
      rw [hB_m hI (k018_keep.tr kG0_keep), h]
      rfl
  · have hm := hB_ok hI h
    have hl := LF_len hm
    have hFU := kFU_big
    obtain ⟨T, e1, e2, e3⟩ := c_may_t hI h
    obtain ⟨T', g1, ⟨g0, g2, g3, g4⟩, g5, g6, -⟩ := m_seek2 hI h (frc18 e2).1 (-1)
    refine ag_fin hI 0 (r := orF (LF S)) (S1 := T) (S2 := T') ?_ (frc18 e2).1 (frc18 e2).2 ?_ g2 g3 g4 (by decide)
    · unfold f_m10_could f_m1_inSome
      rw [e1]
      simp only [Option.bind_some, if_true]
      have := c_inSomeL hl e3 (fun x S => some (x, S)) (LF S).length 0 kFU 0 (by omega) (by omega)
      rw [nI_0] at this
      rw [this]
      rfl
    · unfold f_m11_could
      rw [m_good]
      simp only [Option.bind_some]
      rw [hB_m hI ((frc18 e2).1.tr kG0_keep), h]
      simp only [if_true]
      rw [g1]
      simp only [Option.bind_some]
      rw [g6]
theorem c_inAllL {S T : kSt} {L : List Nat} (hL : L.length ≤ 16) (ho : fsO S T L) (K : Int32 → kSt → Option (Int32 × kSt)) : ∀ (j i fu : Nat) (v : Int32), i + j = L.length → j < fu → f_m1_inAll_L20 K fu v (nI i) T = K ((L.drop i).foldl (fun a s => a &&& nI s) v) T := by
  intro j
  induction j with
  | zero =>
    intro i fu v hi hfu
    obtain ⟨fu, rfl⟩ : ∃ m, fu = m + 1 := ⟨fu - 1, by omega⟩
    rw [f_m1_inAll_L20, ho.1, if_pos (nI_le (by omega) (by omega)), List.drop_eq_nil_of_le (by omega)]
    rfl
  | succ j ih =>
    intro i fu v hi hfu
    obtain ⟨fu, rfl⟩ : ∃ m, fu = m + 1 := ⟨fu - 1, by omega⟩
    rw [f_m1_inAll_L20, ho.1, if_neg (nI_ge (by omega) (by omega)), kgi_nI (by omega) (by omega), nI_clamp (by omega)]
    simp only [knx_e]
    rw [ho.2 i (by omega), nI_1, ih (i + 1) fu _ (by omega) (by omega), drop_getD (show i < L.length by omega)]
    rfl
theorem and_all : ∀ U, U ≤ 4 → ∀ a, a < 2 ^ U → (nI (2 ^ U) - 1) &&& nI a = nI a := by decide +kernel
theorem c_inAll {S T : kSt} (hm : mOk S) (ho : fsO S T (LF S)) : f_m1_inAll T = some (suF (LF S) (gN S 57 5), T) := by
  have hl := LF_len hm
  have hFU := kFU_big
  have hlt : ∀ x, x ∈ LF S → x < 2 ^ gN S 57 5 := fun x hx => LF_lt hm hx
  have hU4 := hm.uns.2
  unfold f_m1_inAll
  simp only [knx_e]
  generalize kFU = FU at hFU ⊢
  generalize LF S = L at *
  have hz : T.1 9 4 = 0 ↔ L.length = 0 := by
    rw [ho.1, show (0 : Int32) = nI 0 from rfl]
    exact nI_eq (by omega) (by omega)
  obtain ⟨FU, rfl⟩ : ∃ m, FU = m + 1 := ⟨FU - 1, by omega⟩
  unfold suF
  rw [kite hz]
  by_cases h0 : L.length = 0
  · rw [if_pos h0, if_pos h0, f_m1_inAll_L20, ho.1, h0, if_pos (by decide)]
  · rw [if_neg h0, if_neg h0, ho.2 0 (by omega)]
    have := c_inAllL hl ho (fun x S => some (x, S)) (L.length - 1) 1 (FU + 1) (nI (L.getD 0 0)) (by omega) (by omega)
    rw [show nI 1 = 1 from rfl] at this
    rw [this]
    cases L with
    | nil => exact absurd rfl h0
    | cons a r =>
      unfold anF
      rw [List.foldl_cons, and_all _ hU4 a (hlt a (List.mem_cons_self ..))]
      rfl
theorem ag_surely {S : kSt} (hI : Inv S) : Agree f_m10_surely f_m11_surely S := by
  cases h : hB S
  · refine ag_no hI (-1) 1 (by decide) ?_ ?_
    · unfold f_m10_surely
      rw [c_may_f hI h]
      rfl
    · unfold f_m11_surely
      rw [m_good]
      simp only [Option.bind_some]
      rw [hB_m hI (k018_keep.tr kG0_keep), h]
      rfl
  · have hm := hB_ok hI h
    obtain ⟨T, e1, e2, e3⟩ := c_may_t hI h
    obtain ⟨T', g1, ⟨g0, g2, g3, g4⟩, g5, g6, g7, -⟩ := m_seek2 hI h (frc18 e2).1 (-1)
    refine ag_fin hI 0 (r := suF (LF S) (gN S 57 5)) (S1 := T) (S2 := T') ?_ (frc18 e2).1 (frc18 e2).2 ?_ g2 g3 g4 (by decide)
    · unfold f_m10_surely
      rw [e1]
      simp only [Option.bind_some, if_true]
      rw [c_inAll hm e3]
      rfl
    · unfold f_m11_surely
      rw [m_good]
      simp only [Option.bind_some]
      rw [hB_m hI ((frc18 e2).1.tr kG0_keep), h]
      simp only [if_true]
      rw [g1]
      simp only [Option.bind_some]
      rw [g7]
theorem ag_fitAt {S : kSt} (hI : Inv S) (a : Int32) : Agree (f_m10_fitAt a) (f_m11_fitAt a) S := by
  cases h : hB S
  · refine ag_no hI (-1) 1 (by decide) ?_ ?_
    · unfold f_m10_fitAt
      rw [c_may_f hI h]
      rfl
    · unfold f_m11_fitAt
      rw [m_good]
      simp only [Option.bind_some]
      rw [hB_m hI (k018_keep.tr kG0_keep), h]
      rfl
  · have hm := hB_ok hI h
    have hl := LF_len hm
    obtain ⟨T, e1, e2, e3⟩ := c_may_t hI h
    obtain ⟨hkT, hT0⟩ := frc18 e2
    have hk1 : keep S (kuI T 0 18 1) := hkT.tr k018_keep
    by_cases ha : a < 0
    · refine ag_fin hI 1 (r := -1) (S1 := kuI T 0 18 1) (S2 := kuI (kG0 (kuI T 0 18 1)) 14 11 1) ?_ hk1 (by rw [uI_get, if_pos ⟨rfl, rfl⟩]) ?_ (kG0_keep.tr k11_keep) (by rw [uI_get, if_pos ⟨rfl, rfl⟩]) (by rw [uI_get, if_neg (by decide), kG0_18]) (by decide)
      · unfold f_m10_fitAt
        rw [e1]
        simp only [Option.bind_some, if_true, knx_e]
        rw [if_pos ha]
        rfl
      · unfold f_m11_fitAt
        rw [m_good]
        simp only [Option.bind_some]
        rw [hB_m hI (hk1.tr kG0_keep), h]
        simp only [if_true, knx_e]
        rw [if_neg (Int32.not_le.mpr ha)]
        rfl
    · obtain ⟨j, hj, rfl⟩ := nI_of ha
      by_cases hj2 : j < (LF S).length
      · obtain ⟨T', g1, ⟨g0, g2, g3, g4⟩, -⟩ := m_seek2 hI h hkT (nI j)
        have hx := LF_lt hm (getD_mem hj2)
        have h16 := p2U hm
        refine ag_fin hI 0 (r := nI ((LF S).getD j 0)) (S1 := T) (S2 := T') ?_ hkT hT0 ?_ g2 g3 g4 (by decide)
        · unfold f_m10_fitAt
          rw [e1]
          simp only [Option.bind_some, if_true, knx_e]
          rw [if_neg ha, e3.1, if_neg (nI_ge hj2 (by omega)), kgi_nI (by omega) (by omega), nI_clamp (by omega), e3.2 j hj2]
        · unfold f_m11_fitAt
          rw [m_good]
          simp only [Option.bind_some]
          rw [hB_m hI (hkT.tr kG0_keep), h]
          simp only [if_true, knx_e]
          rw [if_pos (nI_pos' hj), g1]
          have e : fdF (LF S) (nI j) = nI ((LF S).getD j 0) := by
            unfold fdF
            rw [if_neg ha, nI_clamp hj, List.getElem?_eq_getElem hj2, List.getD_eq_getElem?_getD, List.getElem?_eq_getElem hj2]
            rfl
          simp only [Option.bind_some]
          rw [e, if_pos (nI_pos' (by omega))]
      · obtain ⟨T', g1, ⟨g0, g2, g3, g4⟩, -⟩ := m_seek2 hI h hk1 (nI j)
        refine ag_fin hI 1 (r := -1) (S1 := kuI T 0 18 1) (S2 := kuI T' 14 11 1) ?_ hk1 (by rw [uI_get, if_pos ⟨rfl, rfl⟩]) ?_ (g2.tr k11_keep) (by rw [uI_get, if_pos ⟨rfl, rfl⟩]) (by rw [uI_get, if_neg (by decide), g4]) (by decide)
        · unfold f_m10_fitAt
          rw [e1]
          simp only [Option.bind_some, if_true, knx_e]
          rw [if_neg ha, e3.1, if_pos (nI_le (by omega) hj)]
          rfl
        · unfold f_m11_fitAt
          rw [m_good]
          simp only [Option.bind_some]
          rw [hB_m hI (hk1.tr kG0_keep), h]
          simp only [if_true, knx_e]
          rw [if_pos (nI_pos' hj), g1]
          have e : fdF (LF S) (nI j) = -1 := by
            unfold fdF
            rw [if_neg ha, nI_clamp hj, List.getElem?_eq_none (by omega)]
          simp only [Option.bind_some]
          rw [e, if_neg (by decide), m_no]
          rfl
-- of which pair to ask
def lvN (L : List Nat) (k : Nat) : Nat := max (ofF L k) (L.length - ofF L k)
theorem ofF_le (k : Nat) : ∀ (L : List Nat) (a : Nat), L.foldl (fun a s => a + s / 2 ^ k % 2) a ≤ a + L.length
  | [], a => Nat.le_refl _
  | x :: L, a => by
    have := ofF_le k L (a + x / 2 ^ k % 2)
    rw [List.foldl_cons, List.length_cons]
    omega
theorem ofF_le' (L : List Nat) (k : Nat) : ofF L k ≤ L.length := by
  have := ofF_le k L 0
  unfold ofF
  omega
theorem c_leftL {S T : kSt} {L : List Nat} (hL : L.length ≤ 16) (hlt : ∀ x, x ∈ L → x < 16) (ho : fsO S T L) {u : Nat} (hu : u < 4) (K : Int32 → kSt → Option (Int32 × kSt)) : ∀ (j i fu v : Nat), i + j = L.length → j < fu → f_m1_leftAtMost_L4 K (nI u) fu (nI v) (nI i) T = K (nI ((L.drop i).foldl (fun a s => a + s / 2 ^ u % 2) v)) T := by
  intro j
  induction j with
  | zero =>
    intro i fu v hi hfu
    obtain ⟨fu, rfl⟩ : ∃ m, fu = m + 1 := ⟨fu - 1, by omega⟩
    rw [f_m1_leftAtMost_L4, ho.1, if_pos (nI_le (by omega) (by omega)), List.drop_eq_nil_of_le (by omega)]
    rfl
  | succ j ih =>
    intro i fu v hi hfu
    obtain ⟨fu, rfl⟩ : ∃ m, fu = m + 1 := ⟨fu - 1, by omega⟩
    have hx := hlt _ (getD_mem (show i < L.length by omega))
    rw [f_m1_leftAtMost_L4, ho.1, if_neg (nI_ge (by omega) (by omega)), kgi_nI (by omega) (by omega), nI_clamp (by omega)]
    simp only [knx_e]
    rw [ho.2 i (by omega), tb_bit _ (by omega) u (by omega), nI_add, nI_1, ih (i + 1) fu _ (by omega) (by omega), drop_getD (show i < L.length by omega)]
    rfl
theorem c_left {S T : kSt} {L : List Nat} (hL : L.length ≤ 16) (hlt : ∀ x, x ∈ L → x < 16) (ho : fsO S T L) {u : Nat} (hu : u < 4) : f_m1_leftAtMost (nI u) T = some (nI (lvN L u), T) := by
  have hFU := kFU_big
  unfold f_m1_leftAtMost
  have := c_leftL hL hlt ho hu (fun x4 S5 => some (kmax x4 (S5.1 9 4 - x4), S5)) L.length 0 kFU 0 (by omega) (by omega)
  rw [nI_0] at this
  rw [this]
  have h1 := ofF_le' L u
  show some (kmax (nI (ofF L u)) (T.1 9 4 - nI (ofF L u)), T) = _
  rw [ho.1, pk_sub h1, kmax_nI (by omega) (by omega)]
  rfl
def qB (L : List Nat) (a b : Nat) : Bool := decide (lvN L b ≤ lvN L a)
def askN (L : List Nat) (U : Nat) : Int32 := if L.length = 0 ∨ U = 0 then -2 else nI (bstB (qB L) (U - 1))
theorem lvN_le (L : List Nat) (k : Nat) : lvN L k ≤ L.length := by
  have := ofF_le' L k
  unfold lvN
  omega
theorem c_qstL {S T : kSt} {L : List Nat} {U : Nat} (hU : U ≤ 4) (hL0 : 0 < L.length) (hL : L.length ≤ 16) (hlt : ∀ x, x ∈ L → x < 16) (ho : fsO S T L) (K : Int32 → kSt → Option (Int32 × kSt)) : ∀ (j i fu : Nat), i + 1 + j = U → j < fu → f_m1_bestQuestion_L11 K (nI U) fu (nI (bstB (qB L) i)) (nI (lvN L (bstB (qB L) i))) (nI (i + 1)) T = K (nI (bstB (qB L) (U - 1))) T := by
  intro j
  induction j with
  | zero =>
    intro i fu hi hfu
    obtain ⟨fu, rfl⟩ : ∃ m, fu = m + 1 := ⟨fu - 1, by omega⟩
    rw [f_m1_bestQuestion_L11, ho.1, if_neg (nI_nle hL0 (by omega)), if_pos (nI_le (by omega) (by omega)), show U - 1 = i by omega]
  | succ j ih =>
    intro i fu hi hfu
    obtain ⟨fu, rfl⟩ : ∃ m, fu = m + 1 := ⟨fu - 1, by omega⟩
    have hb := bstB_le (qB L) i
    have l1 := lvN_le L (i + 1)
    have l2 := lvN_le L (bstB (qB L) i)
    rw [f_m1_bestQuestion_L11, ho.1, if_neg (nI_nle hL0 (by omega)), if_neg (nI_ge (by omega) (by omega)), c_left hL hlt ho (by omega)]
    simp only [Option.bind_some, knx_e]
    rw [if_neg (nI_pos (by omega)), kite (nI_leI (by omega) (by omega)), nI_1, ← ih (i + 1) fu (by omega) (by omega), bstB]
    by_cases h : lvN L (bstB (qB L) i) ≤ lvN L (i + 1)
    · rw [if_pos h, if_pos (show qB L (i + 1) (bstB (qB L) i) = true from decide_eq_true h)]
    · rw [if_neg h, if_neg (by show ¬ decide _ = true; simpa using h)]
theorem c_qst {S T : kSt} {L : List Nat} {U : Nat} (hU : U ≤ 4) (hL : L.length ≤ 16) (hlt : ∀ x, x ∈ L → x < 16) (ho : fsO S T L) : f_m1_bestQuestion (nI U) T = some (askN L U, T) := by
  have hFU := kFU_big
  unfold f_m1_bestQuestion askN
  simp only [knx_e]
  generalize kFU = FU at hFU ⊢
  obtain ⟨FU, rfl⟩ : ∃ m, FU = m + 1 := ⟨FU - 1, by omega⟩
  rw [f_m1_bestQuestion_L11, ho.1]
  by_cases h0 : L.length = 0
  · rw [if_pos (Or.inl h0), h0, if_pos (by decide)]
  · rw [if_neg (nI_nle (by omega) (by omega))]
    by_cases h1 : U = 0
    · rw [if_pos (Or.inr h1), h1, if_pos (by decide)]
    · rw [if_neg (show ¬ nI U ≤ 0 from nI_nle (by omega) (by omega)), if_neg (show ¬ (L.length = 0 ∨ U = 0) by omega), show (0 : Int32) = nI 0 from rfl, c_left hL hlt ho (by omega)]
      simp only [Option.bind_some, knx_e]
      rw [if_pos (show (-2 : Int32) < nI 0 by decide), nI_1]
      exact c_qstL hU (by omega) hL hlt ho (fun x S => some (x, S)) (U - 1) 0 FU (by omega) (by omega)
theorem m_leaves {T : kSt} {L : List Nat} {U k : Nat} (hL : L.length ≤ 16) (h31 : T.1 14 31 = nI L.length) (h66 : ∀ k, k < U → T.1 66 k = nI (ofF L k)) (hk : k < U) (hU : U ≤ 4) : f_m11_leavesOf (nI k) T = some (nI (lvN L k), T) := by
  unfold f_m11_leavesOf
  have h1 := ofF_le' L k
  rw [kgi_nI (by omega) (by omega), kgi_nI (by omega) (by omega), kgi_nI (by omega) (by omega), nI_clamp (by omega), h66 k hk, h31, pk_sub h1, kite (nI_leI (by omega) (by omega)), kgi_nI (by omega) (by omega)]
  unfold lvN
  split
  · rw [Nat.max_eq_right (by omega)]
  · rw [Nat.max_eq_left (by omega)]
theorem m_askL {T : kSt} {L : List Nat} {U : Nat} (hU : U ≤ 4) (hL0 : 0 < L.length) (hL : L.length ≤ 16) (h5 : T.1 57 5 = nI U) (h31 : T.1 14 31 = nI L.length) (h66 : ∀ k, k < U → T.1 66 k = nI (ofF L k)) (K : Int32 → kSt → Option (Int32 × kSt)) : ∀ (j i fu : Nat), i + 1 + j = U → j < fu → f_m11_askOf_L11 K fu (nI (bstB (qB L) i)) (nI (i + 1)) T = K (nI (bstB (qB L) (U - 1))) T := by
  intro j
  induction j with
  | zero =>
    intro i fu hi hfu
    obtain ⟨fu, rfl⟩ : ∃ m, fu = m + 1 := ⟨fu - 1, by omega⟩
    rw [f_m11_askOf_L11, h5, if_pos (nI_le (by omega) (by omega)), show U - 1 = i by omega]
  | succ j ih =>
    intro i fu hi hfu
    obtain ⟨fu, rfl⟩ : ∃ m, fu = m + 1 := ⟨fu - 1, by omega⟩
    have hb := bstB_le (qB L) i
    have l1 := lvN_le L (i + 1)
    have l2 := lvN_le L (bstB (qB L) i)
    rw [f_m11_askOf_L11, h5, if_neg (nI_ge (by omega) (by omega)), h31, if_neg (nI_nle hL0 (by omega))]
    simp only [knx_e]
    rw [if_neg (nI_pos (by omega)), m_leaves hL h31 h66 (by omega) hU]
    simp only [Option.bind_some]
    rw [m_leaves hL h31 h66 (by omega) hU]
    simp only [Option.bind_some]
    rw [kite (nI_leI (by omega) (by omega)), nI_1, ← ih (i + 1) fu (by omega) (by omega), bstB]
    by_cases h : lvN L (bstB (qB L) i) ≤ lvN L (i + 1)
    · rw [if_pos h, if_pos (show qB L (i + 1) (bstB (qB L) i) = true from decide_eq_true h)]
    · rw [if_neg h, if_neg (by show ¬ decide _ = true; simpa using h)]
theorem m_ask {S S1 : kSt} (hI : Inv S) (h : hB S = true) (hk : keep S S1) : ∃ T', f_m11_askOf (kG0 S1) = some (askN (LF S) (gN S 57 5), T') ∧ (keep S1 T' ∧ T'.1 14 11 = 0 ∧ T'.1 0 18 = S1.1 0 18) ∧ T'.1 14 31 = nI (LF S).length ∧ ∀ k, k < gN S 57 5 → T'.1 66 k = nI (ofF (LF S) k) := by
  have hm := hB_ok hI h
  have hl := LF_len hm
  have hU4 := hm.uns.2
  have hFU := kFU_big
  obtain ⟨T', g1, ⟨g0, g2, g3, g4⟩, g5, -, -, g8⟩ := m_seek2 hI h hk (-1)
  refine ⟨T', ?_, ⟨g2, g3, g4⟩, g5, g8⟩
  have h5 : T'.1 57 5 = nI (gN S 57 5) := by rw [(hk.tr g2).at (a := 57) rfl]; exact hm.uns.1
  unfold f_m11_askOf askN
  rw [g1]
  simp only [Option.bind_some]
  generalize kFU = FU at hFU ⊢
  obtain ⟨FU, rfl⟩ : ∃ m, FU = m + 1 := ⟨FU - 1, by omega⟩
  rw [f_m11_askOf_L11, h5]
  by_cases h1 : gN S 57 5 = 0
  · rw [if_pos (Or.inr h1), h1, if_pos (by decide)]
  · rw [if_neg (show ¬ nI (gN S 57 5) ≤ 0 from nI_nle (by omega) (by omega)), g5]
    by_cases h0 : (LF S).length = 0
    · rw [if_pos (Or.inl h0), h0, if_pos (by decide)]
    · rw [if_neg (nI_nle (by omega) (by omega)), if_neg (by omega)]
      simp only [knx_e]
      rw [if_pos (show (-2 : Int32) < 0 by decide)]
      exact m_askL hU4 (by omega) hl h5 g5 g8 (fun x S => some (x, S)) (gN S 57 5 - 1) 0 FU (by omega) (by omega)
theorem fr_un {S T : kSt} (hI : Inv S) (h : hB S = true) (hk : keep S T) : T.1 1 5 = nI (gN S 57 5) := by
  rw [hk.at (a := 1) rfl, hI.c.1 5 (by omega)]
  exact (hB_ok hI h).uns.1
theorem ag_ask {S : kSt} (hI : Inv S) : Agree f_m10_ask f_m11_ask S := by
  cases h : hB S
  · refine ag_no hI (-1) 1 (by decide) ?_ ?_
    · unfold f_m10_ask
      rw [c_may_f hI h]
      rfl
    · unfold f_m11_ask
      rw [m_good]
      simp only [Option.bind_some]
      rw [hB_m hI (k018_keep.tr kG0_keep), h]
      rfl
  · have hm := hB_ok hI h
    have h16 := p2U hm
    obtain ⟨T, e1, e2, e3⟩ := c_may_t hI h
    obtain ⟨T', g1, ⟨g2, g3, g4⟩, -⟩ := m_ask hI h (frc18 e2).1
    refine ag_fin hI 0 (r := askN (LF S) (gN S 57 5)) (S1 := T) (S2 := T') ?_ (frc18 e2).1 (frc18 e2).2 ?_ g2 g3 g4 (by decide)
    · unfold f_m10_ask
      rw [e1]
      simp only [Option.bind_some, if_true]
      rw [fr_un hI h (frc18 e2).1, c_qst hm.uns.2 (LF_len hm) (fun x hx => Nat.lt_of_lt_of_le (LF_lt hm hx) h16) e3]
      rfl
    · unfold f_m11_ask
      rw [m_good]
      simp only [Option.bind_some]
      rw [hB_m hI ((frc18 e2).1.tr kG0_keep), h]
      simp only [if_true]
      rw [g1]
      rfl
def lvA (L : List Nat) (U : Nat) : Int32 := if L.length = 0 ∨ U = 0 then -2 else nI (lvN L (bstB (qB L) (U - 1)))
theorem ag_askLeaves {S : kSt} (hI : Inv S) : Agree f_m10_askLeaves f_m11_askLeaves S := by
  cases h : hB S
  · refine ag_no hI (-1) 1 (by decide) ?_ ?_
    · unfold f_m10_askLeaves
      rw [c_may_f hI h]
      rfl
    · unfold f_m11_askLeaves
      rw [m_good]
      simp only [Option.bind_some]
      rw [hB_m hI (k018_keep.tr kG0_keep), h]
      rfl
  · have hm := hB_ok hI h
    have h16 := p2U hm
    have hU4 := hm.uns.2
    have hl := LF_len hm
    have hlt : ∀ x, x ∈ LF S → x < 16 := fun x hx => Nat.lt_of_lt_of_le (LF_lt hm hx) h16
    have hbl := bstB_le (qB (LF S)) (gN S 57 5 - 1)
    obtain ⟨T, e1, e2, e3⟩ := c_may_t hI h
    obtain ⟨T', g1, ⟨g2, g3, g4⟩, g5, g6⟩ := m_ask hI h (frc18 e2).1
    refine ag_fin hI 0 (r := lvA (LF S) (gN S 57 5)) (S1 := T) (S2 := T') ?_ (frc18 e2).1 (frc18 e2).2 ?_ g2 g3 g4 (by decide)
    · unfold f_m10_askLeaves
      rw [e1]
      simp only [Option.bind_some, if_true]
      rw [fr_un hI h (frc18 e2).1, c_qst hU4 hl hlt e3]
      simp only [Option.bind_some]
      unfold askN lvA
      by_cases h0 : (LF S).length = 0 ∨ gN S 57 5 = 0
      · rw [if_pos h0, if_pos h0, if_neg (by decide)]
      · rw [if_neg h0, if_neg h0, if_pos (nI_pos' (by omega)), c_left hl hlt e3 (by omega)]
        rfl
    · unfold f_m11_askLeaves
      rw [m_good]
      simp only [Option.bind_some]
      rw [hB_m hI ((frc18 e2).1.tr kG0_keep), h]
      simp only [if_true]
      rw [g1]
      simp only [Option.bind_some]
      unfold askN lvA
      by_cases h0 : (LF S).length = 0 ∨ gN S 57 5 = 0
      · rw [if_pos h0, if_pos h0, if_neg (by decide)]
      · rw [if_neg h0, if_neg h0, if_pos (nI_pos' (by omega)), m_leaves hl g5 g6 (by omega) hU4]
        rfl
