-- season
def cel (a : Nat) : Bool := a == 1 || a == 4 || (18 ≤ a && a < 28) || (40 ≤ a && a < 43) || a == 57 || a == 59 || a == 61
theorem cOk_e {S T : kSt} (h : ∀ a, cel a = true → T.1 a = S.1 a) (hc : cOk S) : cOk T := by
  unfold cOk gN at *
  simp only [h 1 rfl, h 4 rfl, h 18 rfl, h 19 rfl, h 20 rfl, h 21 rfl, h 22 rfl, h 23 rfl, h 24 rfl, h 25 rfl, h 26 rfl, h 27 rfl, h 40 rfl, h 41 rfl, h 42 rfl, h 57 rfl, h 59 rfl, h 61 rfl]
  exact hc
theorem mOk_e {S T : kSt} (h57 : T.1 57 = S.1 57) (h59 : T.1 59 = S.1 59) (h61 : T.1 61 = S.1 61) (hm : mOk S) : mOk T := by
  refine mOk_61 hm h57 h59 (rowOk_c (fun k _ => by rw [h61]) (by rw [h57]) hm.row)
theorem sayS_e {S T : kSt} (h57 : T.1 57 = S.1 57) (h61 : T.1 61 = S.1 61) (p k : Nat) : sayS T p k = sayS S p k := by
  unfold sayS gN
  rw [h57, h61]
theorem Cact.fr {S T U : kSt} (hI : Inv S) (h : Cact S T) (hf : ∀ a, a ≠ 4 → ¬ (40 ≤ a ∧ a ≤ 42) → csc a = false → U.1 a = T.1 a) : Cact S U := by
  have f15 : gN S 5 1 ≤ 15 := hI.hi.2.2.1.2
  obtain ⟨c1, ⟨c2, c3⟩, c4, c5, c6, c7⟩ := h
  have h7 : U.1 (73 + gN S 5 1) = T.1 (73 + gN S 5 1) := by
    refine hf _ (by omega) (by omega) (csc_kpc _ ?_)
    have := kpc_row (3 + gN S 5 1) (by omega)
    rw [show 73 + gN S 5 1 = 70 + (3 + gN S 5 1) by omega]
    exact this
  have h0 : U.1 0 = T.1 0 := hf 0 (by decide) (by decide) rfl
  have h5 : U.1 5 = T.1 5 := hf 5 (by decide) (by decide) rfl
  refine ⟨fun a g0 g5 g7 g4 g40 hc => ?_, ?_, ?_, ?_, ?_, ?_⟩
  · rw [hf a g4 g40 hc]; exact c1 a g0 g5 g7 g4 g40 hc
  · rw [h0]; exact ⟨c2, c3⟩
  · rw [h5]; exact c4
  · rw [h5]; exact c5
  · rw [h7]; exact c6
  · rw [h7]; exact c7
theorem Mact.fr {S T T' U : kSt} (h : Mact S T T') (hf : ∀ a, a ≠ 61 → U.1 a = T'.1 a) : Mact S T U := by
  obtain ⟨m1, m2, m4, m5, m6⟩ := h
  refine ⟨fun a h1 h2 h3 => ?_, ?_, ?_, ?_, ?_⟩
  · rw [hf a h2]; exact m1 a h1 h2 h3
  · rw [hf 14 (by decide)]; exact m2
  · rw [hf 14 (by decide)]; exact m4
  · rw [hf 62 (by decide)]; exact m5
  · rw [hf 62 (by decide)]; exact m6
theorem bitM_c {S T : kSt} {P Q : Nat → Bool} {n : Nat} (h : ∀ k, k < n → P k = Q k) : ∀ k, k ≤ n → bitM S P k = bitM T Q k
  | 0, _ => rfl
  | k + 1, hk => by rw [bitM, bitM, bitM_c h k (by omega), h k (by omega)]
def seaV (S : kSt) (i k : Nat) : Int32 := if k < i then nI (sayS S k 1) else if k = 35 then nI (gN S 61 35 + 1) else S.1 61 k
def seaI (S U0 U : kSt) (i : Nat) : Prop := (∀ a, a ≠ 61 → U.1 a = U0.1 a) ∧ ∀ k, U.1 61 k = seaV S i k
theorem seaI_ok {S U0 U : kSt} (hm : mOk S) (h999 : gN S 61 35 < 999) (h57 : U0.1 57 = S.1 57) (h59 : U0.1 59 = S.1 59) {i : Nat} (hi : i ≤ gN S 57 2) (h : seaI S U0 U i) : mOk U := by
  have hP5 := hm.2.2.1.2.2
  have e57 : U.1 57 = S.1 57 := by rw [h.1 57 (by decide), h57]
  have g : gN U 57 0 = gN S 57 0 := gN_c (by rw [e57])
  refine mOk_61 hm e57 (by rw [h.1 59 (by decide), h59]) (rowOk_of (by rw [g]; exact hm.1.2.2) (fun k hk => ?_))
  have e : ∀ k x, okV S k x → okV U k x := fun k x q => by unfold okV at *; rw [g]; exact q
  refine e k _ ?_
  rw [h.2 k, seaV]
  have hw := hm.1.2.2
  by_cases a : k < i
  · rw [if_pos a]
    have := sayS_le hm (show k < 5 by omega) 1
    exact ⟨_, rfl, fun _ => this, fun q => by omega, fun q => by omega, fun q => by omega, by omega⟩
  · rw [if_neg a]
    by_cases b : k = 35
    · rw [if_pos b]
      exact ⟨_, rfl, fun q => by omega, fun _ q => by omega, fun _ q => by omega, fun _ q => by omega, by omega⟩
    · rw [if_neg b]
      exact rowOk_at hw hm.row k hk
theorem m_seaL {S U0 : kSt} (hm : mOk S) (h999 : gN S 61 35 < 999) (h57 : U0.1 57 = S.1 57) (h59 : U0.1 59 = S.1 59) (K : kSt → Option (Int32 × kSt)) : ∀ (j i fu : Nat) (U : kSt), i + j = gN S 57 2 → j < fu → seaI S U0 U i → ∃ U', f_m11_season_L53 K fu (nI i) U = K U' ∧ seaI S U0 U' (gN S 57 2) := by
  have hP5 := hm.2.2.1.2.2
  have hP := hm.2.2.1.2.1
  intro j
  induction j with
  | zero =>
    intro i fu U hi hfu h
    obtain ⟨fu, rfl⟩ : ∃ m, fu = m + 1 := ⟨fu - 1, by omega⟩
    have hin : i = gN S 57 2 := by omega
    subst hin
    rw [f_m11_season_L53, h.1 57 (by decide), h57, hP, if_pos (nI_le (by omega) (by omega))]
    exact ⟨U, rfl, h⟩
  | succ j ih =>
    intro i fu U hi hfu h
    obtain ⟨fu, rfl⟩ : ∃ m, fu = m + 1 := ⟨fu - 1, by omega⟩
    have hmU := seaI_ok hm h999 h57 h59 (by omega) h
    have e57 : U.1 57 = S.1 57 := by rw [h.1 57 (by decide), h57]
    have h5 : i < 5 := by omega
    have f1 := hm.f61 h5
    have hev := (hm.2.2.2.2.2.1 i h5).2.1
    rw [f_m11_season_L53, e57, hP, if_neg (nI_ge (by omega) (by omega)), kgi_nI (by omega) (by omega), knx_e, nI5, kgi_nI (by omega) (by omega), knx_e, nI13, kgi_nI (by omega) (by omega), nI_clamp (by omega), nI_clamp (by omega), nI_clamp (by omega), h.2 i, h.2 (5 + i), h.2 35, seaV, seaV, seaV, if_neg (by omega), if_neg (by omega), if_neg (by omega), if_neg (by omega), if_neg (by omega), if_pos rfl, f1.1, f1.2, hev]
    have g : ∀ j, gN U 57 j = gN S 57 j := fun j => gN_c (by rw [e57])
    rw [m_behind hmU h5 (by rw [g]; exact hm.fig h5) (hm.stp h5) (hm.evy h5) (by omega) false]
    simp only [Option.bind_some, Bool.false_eq_true, if_false]
    rw [kgi_nI (by omega) (by omega), knx_e, knx_e, nI_1, g, g]
    refine ih (i + 1) fu _ (by omega) (by omega) ⟨fun a ha => ?_, fun k => ?_⟩
    · rw [kuI_ne _ _ _ ha]
      exact h.1 a ha
    · rw [uI_get]
      by_cases q : k = i
      · subst q
        rw [if_pos ⟨rfl, rfl⟩, seaV, if_pos (by omega)]
        rfl
      · rw [if_neg (fun z => q z.2), h.2 k, seaV, seaV]
        by_cases q2 : k < i
        · rw [if_pos q2, if_pos (by omega)]
        · rw [if_neg q2, if_neg (show ¬ k < i + 1 by omega)]
theorem kgc_P {α : Type} {P : Nat} (h : P ≤ 5) {o : Option α} : kgc 0 0 (nI P) 5 5 o = o := by
  unfold kgc
  refine if_neg ?_
  rw [nI_clamp (by omega)]
  rintro (q | q | q | q | q)
  · exact absurd q (by decide)
  · exact absurd q (by decide)
  · exact nI_pos (by omega) q
  · have : (0 : Int32).toNatClampNeg = 0 := rfl
    omega
  · have : (0 : Int32).toNatClampNeg = 0 := rfl
    omega
theorem ag_sea {S : kSt} (hI : Inv S) : Agree f_m10_season f_m11_season S := by
  unfold Agree f_m10_season
  rw [hB_c hI, c_may1]
  simp only [Option.bind_some]
  cases hA : hB S
  · simp only [Bool.false_eq_true, if_false]
    refine ⟨_, _, kuI (kG0 (kuI S 0 18 1)) 14 11 1, rfl, ?_, ?_⟩
    · unfold f_m11_season
      rw [m_good]
      simp only [Option.bind_some]
      rw [hB_m hI (k018_keep.tr kG0_keep), hA]
      rfl
    · exact inv_no hI (k018_keep.tr (kG0_keep.tr k11_keep)) (x := 1) (by simp [uI_get, kG0]) (by simp [uI_get]) (by decide)
  · have hm := hB_ok hI hA
    have h999 := hm.sea
    have s35 : S.1 61 35 = nI (gN S 61 35) := by
      have := hm.row.2.2.2.1
      rw [Nat.zero_add] at this
      exact this
    simp only [if_true]
    rw [kuI_ne S 18 0 (show (4 : Nat) ≠ 0 by decide), hI.c.now.2.2, s35, kite (show nI (gN S 61 35) < 999 ↔ gN S 61 35 < 999 from nI_ltI (b := 999) (by omega) (by omega))]
    by_cases hlt : gN S 61 35 < 999
    · rw [if_pos hlt]
      obtain ⟨T, e1, e2, e3, e4, e5, e6⟩ := c_act0 hI
      have f15 : gN S 5 1 ≤ 15 := hI.hi.2.2.1.2
      rw [e1]
      simp only [Option.bind_some]
      have eT : ∀ a, cel a = true → T.1 a = S.1 a := by
        intro a ha
        by_cases h4 : a = 4
        · rw [h4]; exact e3
        by_cases h40 : a = 40
        · rw [h40]; exact e4
        by_cases h41 : a = 41
        · rw [h41]; exact e5
        by_cases h42 : a = 42
        · rw [h42]; exact e6
        have hd : a ≠ 0 ∧ a ≠ 5 ∧ a < 73 ∧ csc a = false := by
          unfold cel at ha
          unfold csc
          simp only [Bool.or_eq_true, Bool.and_eq_true, decide_eq_true_eq, beq_iff_eq] at ha
          simp only [Bool.or_eq_false_iff, Bool.and_eq_false_iff, decide_eq_false_iff_not, beq_eq_false_iff_ne]
          omega
        exact e2.1 a hd.1 hd.2.1 (by omega) h4 (by omega) hd.2.2.2
      have hcT : cOk T := cOk_e eT hI.c
      have hmT : mOk T := mOk_e (eT 57 rfl) (eT 59 rfl) (eT 61 rfl) hm
      have gP : gN T 57 2 = gN S 57 2 := gN_c (by rw [eT 57 rfl])
      have hP := hm.2.2.1.2.1
      have hP5 := hm.2.2.1.2.2
      obtain ⟨T1, g1, g2, g3⟩ := c_all hcT hmT (n := 1) (by omega)
      rw [show f_m10_sayAllBehind 1 T = _ from g1]
      simp only [Option.bind_some]
      have p12 : T1.1 1 2 = nI (gN S 57 2) := by rw [g2 1 (by decide), eT 1 rfl, hI.c.pairs, hP]
      rw [p12, knx_e, kgc_P hP5, knx_e, knx_e, show (0 : Int32).toNatClampNeg = 0 from rfl, nI_clamp (by omega)]
      generalize hU1 : kuI (kcp T1 16 40 0 0 (gN S 57 2)) 4 0 ((kcp T1 16 40 0 0 (gN S 57 2)).1 4 0 + 1) = U1
      have u4 : ∀ a, a ≠ 4 → a ≠ 40 → U1.1 a = T1.1 a := fun a h4 h40 => by
        rw [← hU1, kuI_ne _ _ _ h4]
        funext j
        rw [cp_get, if_neg h40]
      have u40 : ∀ j, U1.1 40 j = if j < gN S 57 2 then nI (sayS S j 1) else S.1 40 j := fun j => by
        rw [← hU1, kuI_ne _ _ _ (by decide), cp_get, if_pos rfl]
        by_cases q : j < gN S 57 2
        · rw [if_pos (by omega), if_pos q, show 0 + (j - 0) = j by omega, g3 j (by omega), sayS_e (eT 57 rfl) (eT 61 rfl)]
        · rw [if_neg (by omega), if_neg q, g2 40 (by decide), e4]
      have u40' : U1.1 4 0 = nI (gN S 61 35 + 1) := by
        rw [← hU1, uI_get, if_pos ⟨rfl, rfl⟩, cp_get, if_neg (by decide), g2 4 (by decide), e3, hI.c.now.2.2, s35, nI_1]
      have hC : Cact S U1 := e2.fr hI (fun a h4 h40 hc => by rw [u4 a h4 (by omega)]; exact g2 a hc)
      rw [c_bits hcT hmT (w := 40) (v := fun p => sayS S p 1) (by rw [u4 1 (by decide) (by decide)]; exact g2 1 (by decide)) (fun p hp => ⟨by rw [u40 p, if_pos (by omega)], by rw [gN_c (show T.1 57 0 = S.1 57 0 by rw [eT 57 rfl])]; exact sayS_le hm (by omega) 1⟩)]
      simp only [Option.bind_some]
      obtain ⟨T', q1, q2, q3⟩ := m_act0 hI hC
      obtain ⟨z1, z2, z3, z4⟩ := hC.g hI
      have w57 : (kuI T' 61 35 (nI (gN S 61 35 + 1))).1 57 = S.1 57 := by rw [kuI_ne _ _ _ (by decide), q2.1 57 (by decide) (by decide) (by decide), hC.e57 hI]
      have w59 : (kuI T' 61 35 (nI (gN S 61 35 + 1))).1 59 = S.1 59 := by rw [kuI_ne _ _ _ (by decide), q2.1 59 (by decide) (by decide) (by decide), u4 59 (by decide) (by decide), g2 59 (by decide), eT 59 rfl]
      have w0 : seaI S (kuI T' 61 35 (nI (gN S 61 35 + 1))) (kuI T' 61 35 (nI (gN S 61 35 + 1))) 0 := by
        refine ⟨fun _ _ => rfl, fun k => ?_⟩
        rw [uI_get, seaV, if_neg (show ¬ k < 0 by omega)]
        by_cases q : k = 35
        · rw [if_pos ⟨rfl, q⟩, if_pos q]
        · rw [if_neg (fun z => q z.2), if_neg q, q3]
      obtain ⟨U', v1, v2⟩ := m_seaL hm hlt w57 w59 (fun (S13 : kSt) => (f_m11_mastersIn 0 S13).bind fun q14 => some (q14.1, q14.2)) (gN S 57 2) 0 kFU _ (by omega) (by have := kFU_big; omega) w0
      have hmU := seaI_ok hm hlt w57 w59 (Nat.le_refl _) v2
      have v57 : U'.1 57 = S.1 57 := by rw [v2.1 57 (by decide), w57]
      refine ⟨_, _, U', rfl, ?_, ?_⟩
      · unfold f_m11_season
        rw [m_good]
        simp only [Option.bind_some]
        rw [hB_mR hI z1, hA]
        simp only [if_true]
        rw [z3, s35, if_neg (show ¬ nI (gN S 61 35) = 999 from fun q => by have := (nI_eq (b := 999) (by omega) (by omega)).mp q; omega), q1]
        simp only [Option.bind_some]
        rw [knx_e, q3, s35, nI_1]
        refine Eq.trans v1 ?_
        rw [show f_m11_mastersIn 0 U' = _ from m_mast hmU (n := 0) (by omega)]
        simp only [Option.bind_some]
        rw [gN_c (show U'.1 57 2 = S.1 57 2 by rw [v57]), gP]
        congr 2
        refine bitM_c (n := gN S 57 2) (fun k hk => ?_) _ (Nat.le_refl _)
        unfold moreS
        have e1 : gN U' 57 0 = gN S 57 0 := gN_c (by rw [v57])
        have e2 : gN T 57 0 = gN S 57 0 := gN_c (by rw [eT 57 rfl])
        have e3 : sayS U' k 0 = sayS S k 1 := by
          show gN U' 61 k = _
          refine gN_of (n := sayS S k 1) ?_ ?_
          · rw [v2.2 k, seaV, if_pos hk]
          · have := sayS_le hm (show k < 5 by omega) 1
            have := hm.1.2.2
            omega
        rw [e1, e2, e3]
      · refine act_push hI hA hC (q2.fr (fun a ha => ?_)) ?_ hmU.row
        · rw [v2.1 a ha, kuI_ne _ _ _ ha]
        · have t : ∀ a, a ≠ 14 → a ≠ 61 → a ≠ 62 → U'.1 a = U1.1 a := fun a h1 h2 h3 => by rw [v2.1 a h2, kuI_ne _ _ _ h2, q2.1 a h1 h2 h3]
          have hn := hI.c.now
          refine ⟨fun p hp => ⟨?_, ?_⟩, fun j hj => ?_, ?_⟩
          · rw [t 40 (by decide) (by decide) (by decide), u40, v2.2, seaV]
            by_cases q : p < gN S 57 2
            · rw [if_pos q, if_pos q]
            · rw [if_neg q, if_neg q, if_neg (by omega)]; exact (hn.1 p hp).1
          · rw [t 41 (by decide) (by decide) (by decide), u4 41 (by decide) (by decide), g2 41 (by decide), e5, v2.2, seaV, if_neg (by omega), if_neg (by omega)]; exact (hn.1 p hp).2
          · rw [t 42 (by decide) (by decide) (by decide), u4 42 (by decide) (by decide), g2 42 (by decide), e6, v2.2, seaV, if_neg (by omega), if_neg (by omega)]; exact hn.2.1 j hj
          · rw [t 4 (by decide) (by decide) (by decide), u40', v2.2, seaV, if_neg (by omega), if_pos rfl]
    · rw [if_neg hlt]
      refine ⟨_, _, kuI (kG0 (kuI (kuI S 0 18 0) 0 18 3)) 14 11 3, rfl, ?_, ?_⟩
      · unfold f_m11_season
        rw [m_good]
        simp only [Option.bind_some]
        have hk : keep S (kG0 (kuI (kuI S 0 18 0) 0 18 3)) := k018_keep.tr (k018_keep.tr kG0_keep)
        rw [hB_m hI hk, hA]
        simp only [if_true]
        rw [hk.at (a := 61) rfl, s35, if_pos (show nI (gN S 61 35) = 999 by rw [show gN S 61 35 = 999 by omega]; rfl)]
        rfl
      · exact inv_no hI (keep_no 3 3) (x := 3) (by simp [uI_get, kG0]) (by simp [uI_get]) (by decide)
