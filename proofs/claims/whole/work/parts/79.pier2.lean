-- pier, class beside reference
theorem kcp_ne {S : kSt} {k0 k1 sp dp n a : Nat} (h : a ≠ k1) : (kcp S k0 k1 sp dp n).1 a = S.1 a := kuA_ne _ _ h
def pT (C : kSt) : kSt := kuI (kuI (kuI (kcp (kcp (kcp (kuI (kuI (ksig C) 0 5 (kb true)) 4 0 0) 19 40 0 0 5) 20 41 0 0 5) 22 42 0 0 25) 5 2 0) 0 9 0) 0 18 0
theorem pT_ne (C : kSt) {a : Nat} (h0 : a ≠ 0) (h4 : a ≠ 4) (h5 : a ≠ 5) (h40 : a ≠ 40) (h41 : a ≠ 41) (h42 : a ≠ 42) : (pT C).1 a = C.1 (kσ a) := by
  unfold pT
  rw [kuI_ne _ _ _ h0, kuI_ne _ _ _ h0, kuI_ne _ _ _ h5, kcp_ne h42, kcp_ne h41, kcp_ne h40, kuI_ne _ _ _ h4, kuI_ne _ _ _ h0]
  rfl
theorem pT_0 (C : kSt) (j : Nat) : (pT C).1 0 j = if j = 18 then 0 else if j = 9 then 0 else if j = 5 then 1 else C.1 0 j := by
  unfold pT
  rw [uI_get]
  by_cases h1 : j = 18
  · rw [if_pos ⟨rfl, h1⟩, if_pos h1]
  · rw [if_neg (fun h => h1 h.2), if_neg h1, uI_get]
    by_cases h2 : j = 9
    · rw [if_pos ⟨rfl, h2⟩, if_pos h2]
    · rw [if_neg (fun h => h2 h.2), if_neg h2, kuI_ne _ _ _ (by decide), kcp_ne (by decide), kcp_ne (by decide), kcp_ne (by decide), kuI_ne _ _ _ (by decide), uI_get]
      by_cases h3 : j = 5
      · rw [if_pos ⟨rfl, h3⟩, if_pos h3]; rfl
      · rw [if_neg (fun h => h3 h.2), if_neg h3]
        rfl
theorem pT_4 (C : kSt) : (pT C).1 4 0 = 0 := by
  unfold pT
  rw [kuI_ne _ _ _ (by decide), kuI_ne _ _ _ (by decide), kuI_ne _ _ _ (by decide), kcp_ne (by decide), kcp_ne (by decide), kcp_ne (by decide), uI_at]
theorem pT_5 (C : kSt) (j : Nat) : (pT C).1 5 j = if j = 2 then 0 else C.1 5 j := by
  unfold pT
  rw [kuI_ne _ _ _ (by decide), kuI_ne _ _ _ (by decide), uI_get]
  by_cases h1 : j = 2
  · rw [if_pos ⟨rfl, h1⟩, if_pos h1]
  · rw [if_neg (fun h => h1 h.2), if_neg h1, kcp_ne (by decide), kcp_ne (by decide), kcp_ne (by decide), kuI_ne _ _ _ (by decide), kuI_ne _ _ _ (by decide)]
    rfl
theorem pT_40 (C : kSt) {j : Nat} (hj : j < 5) : (pT C).1 40 j = C.1 29 j := by
  unfold pT
  rw [kuI_ne _ _ _ (by decide), kuI_ne _ _ _ (by decide), kuI_ne _ _ _ (by decide), kcp_ne (by decide), kcp_ne (by decide), cp_get, if_pos rfl, if_pos (by omega), kuI_ne _ _ _ (by decide), kuI_ne _ _ _ (by decide), Nat.zero_add, Nat.sub_zero]
  rfl
theorem pT_41 (C : kSt) {j : Nat} (hj : j < 5) : (pT C).1 41 j = C.1 30 j := by
  unfold pT
  rw [kuI_ne _ _ _ (by decide), kuI_ne _ _ _ (by decide), kuI_ne _ _ _ (by decide), kcp_ne (by decide), cp_get, if_pos rfl, if_pos (by omega), kcp_ne (by decide), kuI_ne _ _ _ (by decide), kuI_ne _ _ _ (by decide), Nat.zero_add, Nat.sub_zero]
  rfl
theorem pT_42 (C : kSt) {j : Nat} (hj : j < 25) : (pT C).1 42 j = C.1 32 j := by
  unfold pT
  rw [kuI_ne _ _ _ (by decide), kuI_ne _ _ _ (by decide), kuI_ne _ _ _ (by decide), cp_get, if_pos rfl, if_pos (by omega), kcp_ne (by decide), kcp_ne (by decide), kuI_ne _ _ _ (by decide), kuI_ne _ _ _ (by decide), Nat.zero_add, Nat.sub_zero]
  rfl
theorem c_pier {S : kSt} {a : Int32} {b : Bool} {C' : kSt} (hu : uB a (S.1 0 1) = true) (hr : f_m7_read a (kuI S 0 1 0) = some (b, C')) : f_m10_pier a S = if b = true then some ((pT C').1 1 2, pT C') else some (-1, kuI C' 0 18 4) := by
  unfold f_m10_pier
  rw [c_upTo, hu]
  simp only [Option.bind_some, if_true, knx_e]
  rw [hr]
  simp only [Option.bind_some]
  cases b
  · rfl
  · rfl
theorem kσ_f {a : Nat} (h1 : a ≠ 1) (h2 : a ≠ 2) (h3 : ¬ (18 ≤ a ∧ a < 38)) : kσ a = a := by
  unfold kσ
  rw [if_neg h1, if_neg h2, if_neg (by omega), if_neg (by omega)]
/-- the reference's end, all being well -/
theorem rT_ok {M : kSt} (h13 : M.1 14 13 = 0) (h6 : M.1 14 6 = 0) (h7 : M.1 58 7 = 1) {P : Nat} (hP1 : 1 ≤ P) (hP5 : P ≤ 5) (h2 : M.1 58 2 = nI P) : ∃ S2, rT M = some (nI P, S2) ∧ (∀ j, j < 95 → S2.1 57 j = M.1 58 j) ∧ (∀ j, j < 36 → S2.1 59 j = M.1 60 j ∧ S2.1 61 j = M.1 60 j) ∧ (∀ a, a ≠ 14 → a ≠ 57 → a ≠ 59 → a ≠ 61 → S2.1 a = M.1 a) ∧ S2.1 14 14 = 1 ∧ S2.1 14 22 = 0 ∧ S2.1 14 23 = 0 ∧ ∀ j, j ≠ 14 → j ≠ 22 → j ≠ 23 → S2.1 14 j = M.1 14 j := by
  obtain ⟨T1, a1, a2, a3⟩ := m_copy (S := M) (w0 := 58) (n0 := 95) (w2 := 57) (n2 := 95) (a := 0) (b := 0) (m := 95) (by decide) (by omega) (by omega) (by omega) (by omega) (by omega)
  obtain ⟨T2, b1, b2, b3⟩ := m_copy (S := T1) (w0 := 60) (n0 := 36) (w2 := 59) (n2 := 36) (a := 0) (b := 0) (m := 36) (by decide) (by omega) (by omega) (by omega) (by omega) (by omega)
  obtain ⟨T3, c1, c2, c3⟩ := m_copy (S := T2) (w0 := 60) (n0 := 36) (w2 := 61) (n2 := 36) (a := 0) (b := 0) (m := 36) (by decide) (by omega) (by omega) (by omega) (by omega) (by omega)
  have t57 : ∀ j, j < 95 → T3.1 57 j = M.1 58 j := fun j hj => by rw [c2.1 57 (by decide), b2.1 57 (by decide), a3 j, if_pos (by omega), Nat.zero_add, Nat.sub_zero]
  have t59 : ∀ j, j < 36 → T3.1 59 j = M.1 60 j := fun j hj => by rw [c2.1 59 (by decide), b3 j, if_pos (by omega), Nat.zero_add, Nat.sub_zero, a2.1 60 (by decide)]
  have t61 : ∀ j, j < 36 → T3.1 61 j = M.1 60 j := fun j hj => by rw [c3 j, if_pos (by omega), Nat.zero_add, Nat.sub_zero, b2.1 60 (by decide), a2.1 60 (by decide)]
  have tx : ∀ a, a ≠ 57 → a ≠ 59 → a ≠ 61 → T3.1 a = M.1 a := fun a x1 x2 x3 => by rw [c2.1 a x3, b2.1 a x2, a2.1 a x1]
  have u57 : (kuI (kuI (kuI T3 14 14 (kb true)) 14 22 0) 14 23 0).1 57 = T3.1 57 := by rw [kuI_ne _ _ _ (by decide), kuI_ne _ _ _ (by decide), kuI_ne _ _ _ (by decide)]
  refine ⟨kuI (kuI (kuI T3 14 14 (kb true)) 14 22 0) 14 23 0, ?_, fun j hj => by rw [u57]; exact t57 j hj, fun j hj => ?_, fun a x0 x1 x2 x3 => ?_, ?_, ?_, uI_at _ _ _ _, fun j j1 j2 j3 => ?_⟩
  · unfold rT
    rw [kg0 h13, h6]
    simp only [Bool.false_eq_true, if_false, if_true]
    unfold rT2
    rw [kg0 h13, h7, h2]
    simp only [Bool.false_eq_true, if_false]
    rw [if_neg (by decide), if_neg (nI_ne0 (by omega) (by omega))]
    unfold rT3
    rw [kg0 h13]
    simp only [Bool.false_eq_true, if_false]
    rw [show f_m11_copy 58 95 0 57 95 0 95 M = _ from a1]
    simp only [Option.bind_some]
    rw [show f_m11_copy 60 36 0 59 36 0 36 T1 = _ from b1]
    simp only [Option.bind_some]
    rw [show f_m11_copy 60 36 0 61 36 0 36 T2 = _ from c1]
    simp only [Option.bind_some]
    rw [u57, t57 2 (by omega), h2]
  · rw [kuI_ne _ _ _ (by decide), kuI_ne _ _ _ (by decide), kuI_ne _ _ _ (by decide), kuI_ne _ _ _ (by decide), kuI_ne _ _ _ (by decide), kuI_ne _ _ _ (by decide)]
    exact ⟨t59 j hj, t61 j hj⟩
  · rw [kuI_ne _ _ _ x0, kuI_ne _ _ _ x0, kuI_ne _ _ _ x0, tx a x1 x2 x3]
  · rw [uI_no _ _ (by omega), uI_no _ _ (by omega), uI_at]
    rfl
  · rw [uI_no _ _ (by omega), uI_at]
  · rw [uI_no _ _ (by omega), uI_no _ _ (by omega), uI_no _ _ (by omega), tx 14 (by decide) (by decide) (by decide)]
theorem ag_pier {S : kSt} (hI : Inv S) (a : Int32) : Agree (f_m10_pier a) (f_m11_pier a) S := by
  obtain ⟨⟨⟨t1, t9⟩, t2⟩, t3⟩ := hI.1
  cases hu : uB a (S.1 0 1)
  · refine ⟨-1, kuI S 0 18 2, kuI (kG0 (kuI S 0 18 2)) 14 11 2, ?_, ?_, ?_⟩
    · unfold f_m10_pier
      rw [c_upTo, hu]
      rfl
    · rw [pier_e, if_neg]
      intro h
      have h1 := of_decide_eq_true h
      unfold kG0 at h1
      rw [uI_no _ _ (by omega), uI_no _ _ (by omega), kuI_ne _ _ _ (by decide), ← t2] at h1
      unfold uB at hu
      exact of_decide_eq_false hu h1
    · exact inv_no hI (k018_keep.tr (kG0_keep.tr k11_keep)) (x := 2) (by simp [uI_get, kG0]) (by simp [uI_get]) (by decide)
  · have hu' : uB a (nI (gN S 14 2)) = true := by rw [← t1, ← t2]; exact hu
    obtain ⟨n, hn, rfl⟩ := uB_ok (by omega) hu'
    have hn9 : n ≤ 900 := by omega
    have hTC : ∀ j, j < 900 → gN S 55 j ≤ 255 ∧ (kuI S 0 1 0).1 15 j = sg (gN S 55 j) := fun j hj => by
      obtain ⟨⟨x1, x2⟩, x3⟩ := t3 j hj
      refine ⟨x2, ?_⟩
      rw [kuI_ne _ _ _ (by decide), x3]
      unfold sg
      rw [← x1]
    have hTM : ∀ j, j < 900 → gN S 55 j ≤ 255 ∧ S.1 55 j = nI (gN S 55 j) := fun j hj => ⟨(t3 j hj).1.2, (t3 j hj).1.1⟩
    have hd1 : ∀ a j, ((fun a j => if a = 58 then (0 : Int32) else if a = 60 then 0 else if a = 14 then (if j = 3 then nI n else 0) else S.1 a j, S.2) : kSt).1 a j = if a = 58 then (0 : Int32) else if a = 60 then 0 else if a = 14 then (if j = 3 then nI n else 0) else S.1 a j := fun a j => rfl
    obtain ⟨b, C', -, hr, hf, -, -⟩ := sim_read (t := fun j => gN S 55 j) (n := n) (C := kuI S 0 1 0) (M0 := (fun a j => if a = 58 then (0 : Int32) else if a = 60 then 0 else if a = 14 then (if j = 3 then nI n else 0) else S.1 a j, S.2)) hTC hn9 ⟨fun j hj => hTM j hj, hn9, rfl⟩ rfl rfl rfl (fun j hj => rfl) (fun j hj => rfl)
    have hcp := c_pier hu hr
    cases b
    · rw [if_neg (by decide)] at hcp
      have s55 : ∀ a, a ≠ 0 → a ≠ 2 → a ≠ 3 → ¬ (28 ≤ a ∧ a ≤ 39) → (kuI C' 0 18 4).1 a = S.1 a := fun a x0 x2 x3 x4 => by rw [kuI_ne _ _ _ x0, hf a x2 x3 x4, kuI_ne _ _ _ x0]
      obtain ⟨M0, e1, e2, e3, e4, e5, e6, e7, e8, e9, e10, e11⟩ := m_start (t := fun j => gN S 55 j) (n := n) (S1 := kuI C' 0 18 4) (fun j hj => by rw [s55 55 (by decide) (by decide) (by decide) (by decide)]; exact hTM j hj) hn9 (by rw [s55 14 (by decide) (by decide) (by decide) (by decide), t1]; exact nI_le hn (by omega))
      obtain ⟨b2, C2, M2, hr2, hf2, hfm, hcase⟩ := sim_read (t := fun j => gN S 55 j) (n := n) (C := kuI S 0 1 0) (M0 := M0) hTC hn9 e2 e3 e4 e5 e6 e7
      rw [hr] at hr2
      cases hr2
      rcases hcase with ⟨q, -⟩ | ⟨-, q2, k, s, f1, f2, f3, f4, f5⟩
      · exact absurd q (by decide)
      · refine ⟨-1, kuI C' 0 18 4, kuI M2 14 11 4, hcp, by rw [e1]; exact q2, ?_⟩
        have m14 : ∀ j, ¬ (4 ≤ j ∧ j ≤ 10) → j ≠ 13 → j ≠ 11 → (kuI M2 14 11 4).1 14 j = M0.1 14 j := fun j x1 x2 x3 => by rw [uI_no _ _ (by omega), hfm.2 j x1 x2]
        have mx : ∀ a, a ≠ 14 → a ≠ 56 → a ≠ 58 → a ≠ 60 → (kuI M2 14 11 4).1 a = (kuI C' 0 18 4).1 a := fun a x1 x2 x3 x4 => by rw [kuI_ne _ _ _ x1, hfm.1 a x1 x2 x3 x4, e8 a x1 x3 x4]
        have z0 : ∀ j, (kuI M2 14 11 4).1 0 j = if j = 18 then 4 else if j = 1 then 0 else S.1 0 j := fun j => by
          rw [mx 0 (by decide) (by decide) (by decide) (by decide), uI_get]
          by_cases h1 : j = 18
          · rw [if_pos ⟨rfl, h1⟩, if_pos h1]
          · rw [if_neg (fun h => h1 h.2), if_neg h1, hf 0 (by decide) (by decide) (by decide), uI_get]
            by_cases h2 : j = 1
            · rw [if_pos ⟨rfl, h2⟩, if_pos h2]
            · rw [if_neg (fun h => h2 h.2), if_neg h2]
        have z3 : (kuI M2 14 11 4).1 3 = C'.1 3 := by rw [mx 3 (by decide) (by decide) (by decide) (by decide), kuI_ne _ _ _ (by decide)]
        refine inv_bad hI (fun a x0 x2 x3 x14 xr x56 x58 x60 => by rw [mx a x14 x56 x58 x60, s55 a x0 x2 x3 xr]) (fun j j1 j2 => by rw [z0, if_neg j2, if_neg j1]) ?_ ?_ ?_ ?_ ?_ ?_ ?_ ?_
        · rw [m14 14 (by omega) (by decide) (by decide), e11 14 (by decide) (by decide) (by decide) (by decide) (by decide) (by decide) (by decide), s55 14 (by decide) (by decide) (by decide) (by decide)]
        · rw [m14 22 (by omega) (by decide) (by decide), e11 22 (by decide) (by decide) (by decide) (by decide) (by decide) (by decide) (by decide), s55 14 (by decide) (by decide) (by decide) (by decide)]
        · rw [m14 23 (by omega) (by decide) (by decide), e11 23 (by decide) (by decide) (by decide) (by decide) (by decide) (by decide) (by decide), s55 14 (by decide) (by decide) (by decide) (by decide)]
        · rw [z0, if_neg (by decide), if_pos rfl]
        · rw [m14 2 (by omega) (by decide) (by decide), e9]
        · rw [z0, if_pos rfl, uI_at]
        · rw [z3, f1, uI_no _ _ (by omega), f4]
        · rw [z3, f2, uI_no _ _ (by omega), f5]
    · rw [if_pos rfl] at hcp
      have s55 : ∀ a, a ≠ 0 → a ≠ 1 → a ≠ 2 → a ≠ 3 → a ≠ 4 → a ≠ 5 → ¬ (18 ≤ a ∧ a ≤ 39) → a ≠ 40 → a ≠ 41 → a ≠ 42 → (pT C').1 a = S.1 a := fun a x0 x1 x2 x3 x4 x5 x6 x7 x8 x9 => by rw [pT_ne C' x0 x4 x5 x7 x8 x9, kσ_f x1 x2 (by omega), hf a x2 x3 (by omega), kuI_ne _ _ _ x0]
      have s14 : (pT C').1 14 = S.1 14 := s55 14 (by decide) (by decide) (by decide) (by decide) (by decide) (by decide) (by decide) (by decide) (by decide) (by decide)
      obtain ⟨M0, e1, e2, e3, e4, e5, e6, e7, e8, e9, e10, e11⟩ := m_start (t := fun j => gN S 55 j) (n := n) (S1 := pT C') (fun j hj => by rw [s55 55 (by decide) (by decide) (by decide) (by decide) (by decide) (by decide) (by decide) (by decide) (by decide) (by decide)]; exact hTM j hj) hn9 (by rw [s14, t1]; exact nI_le hn (by omega))
      obtain ⟨b2, C2, M2, hr2, hf2, hfm, hcase⟩ := sim_read (t := fun j => gN S 55 j) (n := n) (C := kuI S 0 1 0) (M0 := M0) hTC hn9 e2 e3 e4 e5 e6 e7
      rw [hr] at hr2
      cases hr2
      rcases hcase with ⟨-, q2, c39, m13, m9, m6, P, U, H, aS, aL, hP1, hD⟩ | ⟨q, -⟩
      · have hP5 := hD.1.1.1
        have h582 := hD.1.1.2
        obtain ⟨S2, r1, r2, r3, r4, r5, r6, r7, r8⟩ := rT_ok m13 m6 hD.1.2.2.2.2.2.2 hP1 hP5 h582
        have p12 : (pT C').1 1 2 = nI P := by
          rw [pT_ne C' (by decide) (by decide) (by decide) (by decide) (by decide) (by decide), show kσ 1 = 2 from rfl, hD.1.2.2.2.1 2 (by omega)]
          exact h582
        refine ⟨nI P, pT C', S2, by rw [hcp, p12], by rw [e1, q2, r1], ?_⟩
        have mx : ∀ a, a ≠ 14 → a ≠ 56 → a ≠ 57 → a ≠ 58 → a ≠ 59 → a ≠ 60 → a ≠ 61 → S2.1 a = (pT C').1 a := fun a x14 x56 x57 x58 x59 x60 x61 => by rw [r4 a x14 x57 x59 x61, hfm.1 a x14 x56 x58 x60, e8 a x14 x58 x60]
        have m14 : ∀ j, ¬ (4 ≤ j ∧ j ≤ 10) → j ≠ 13 → j ≠ 14 → j ≠ 22 → j ≠ 23 → S2.1 14 j = M0.1 14 j := fun j x1 x2 x3 x4 x5 => by rw [r8 j x3 x4 x5, hfm.2 j x1 x2]
        have z0 : ∀ j, S2.1 0 j = if j = 18 then 0 else if j = 9 then 0 else if j = 5 then 1 else C'.1 0 j := fun j => by rw [mx 0 (by decide) (by decide) (by decide) (by decide) (by decide) (by decide) (by decide), pT_0]
        have hmc := mc_of hD hP1 r2 r3 (S := S2) (by rw [mx 1 (by decide) (by decide) (by decide) (by decide) (by decide) (by decide) (by decide), pT_ne C' (by decide) (by decide) (by decide) (by decide) (by decide) (by decide)]; rfl) (fun a x1 x2 => by
            rw [mx a (by omega) (by omega) (by omega) (by omega) (by omega) (by omega) (by omega), pT_ne C' (by omega) (by omega) (by omega) (by omega) (by omega) (by omega)]
            unfold kσ
            rw [if_neg (by omega), if_neg (by omega), if_pos ⟨x1, x2⟩]) (fun j hj => by rw [mx 40 (by decide) (by decide) (by decide) (by decide) (by decide) (by decide) (by decide), mx 41 (by decide) (by decide) (by decide) (by decide) (by decide) (by decide) (by decide), pT_40 C' hj, pT_41 C' hj]; exact ⟨rfl, rfl⟩) (fun j hj => by rw [mx 42 (by decide) (by decide) (by decide) (by decide) (by decide) (by decide) (by decide), pT_42 C' hj]) (by rw [mx 4 (by decide) (by decide) (by decide) (by decide) (by decide) (by decide) (by decide), pT_4])
        refine inv_new hI ?_ ?_ ?_ ?_ r5 ?_ ?_ ?_ ?_ ?_ r6 ?_ ?_ r7 ?_ hmc.1 hmc.2
        · rw [mx 15 (by decide) (by decide) (by decide) (by decide) (by decide) (by decide) (by decide), s55 15 (by decide) (by decide) (by decide) (by decide) (by decide) (by decide) (by decide) (by decide) (by decide) (by decide)]
        · rw [mx 55 (by decide) (by decide) (by decide) (by decide) (by decide) (by decide) (by decide), s55 55 (by decide) (by decide) (by decide) (by decide) (by decide) (by decide) (by decide) (by decide) (by decide) (by decide)]
        · rw [z0, if_neg (by decide), if_neg (by decide), if_neg (by decide), hf 0 (by decide) (by decide) (by decide), uI_at]
        · rw [m14 2 (by omega) (by decide) (by decide) (by decide) (by decide), e9]
        · rw [z0, if_neg (by decide), if_neg (by decide), if_pos rfl]
        · rw [z0, if_pos rfl]
        · rw [m14 11 (by omega) (by decide) (by decide) (by decide) (by decide), e10]
        · rw [mx 3 (by decide) (by decide) (by decide) (by decide) (by decide) (by decide) (by decide), pT_ne C' (by decide) (by decide) (by decide) (by decide) (by decide) (by decide)]
          exact c39
        · rw [r8 9 (by decide) (by decide) (by decide)]
          exact m9
        · rw [mx 5 (by decide) (by decide) (by decide) (by decide) (by decide) (by decide) (by decide), pT_5, if_pos rfl]
        · rw [mx 5 (by decide) (by decide) (by decide) (by decide) (by decide) (by decide) (by decide), pT_5, if_neg (by decide), hf 5 (by decide) (by decide) (by decide), kuI_ne _ _ _ (by decide)]
        · rw [z0, if_neg (by decide), if_pos rfl]
      · exact absurd q (by decide)
