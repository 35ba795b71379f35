-- contract, debt
section LI2
variable {t : Nat → Nat} {n : Nat}
theorem ub5 (p to : Nat) : (nI p * 5) + nI to = nI (5 * p + to) := by
  rw [show nI p * 5 = nI (p * 5) from pk_mul p 5, nI_add, Nat.mul_comm]
theorem ub10 (p to : Nat) : (10 + (5 * nI p)) + nI to = nI (10 + (5 * p + to)) := by
  rw [show 5 * nI p = nI (5 * p) from pk_mul 5 p, show 10 + nI (5 * p) = nI (10 + 5 * p) from nI_add 10 (5 * p), nI_add, Nat.add_assoc]
theorem sim_contract {C M : kSt} {s P U H : Nat} {aS aL : Nat → Nat} (hc : cR t n C s) (hm : mR t n M (nxS t n s)) (hd : DR t n P U H aS aL C M) : Sim t n s C M (f_m7_readContract C) (f_m11_contractLine M) := by
  have hs := hc.2.1
  obtain ⟨C1, e1, r1, q1⟩ := hc.nx
  have hd1 : DR t n P U H aS aL C1 M := hd.c (fun a ha => q1 a (by omega)) rfl rfl
  have hP := hd.1.1.1
  have g1 := nxS_ge (t := t) hs
  have g2 := nxS_ge (t := t) r1.2.1
  unfold f_m7_readContract f_m11_contractLine
  rw [e1]
  simp only [Option.bind_some]
  obtain ⟨a1, a2⟩ := c_seen r1 hd1
  obtain ⟨b1, b2⟩ := m_pairH hm hd1
  by_cases hk : pq t n (nxS t n s) aS aL P = 0
  · have hp := pq_0 hk
    rw [a1 hk, b1 hk]
    clear a1 a2 b1 b2 hk
    generalize pnI t n (nxS t n s) aS aL P = p at hp ⊢
    simp only [Option.bind_some, knx_e]
    obtain ⟨⟨hg, hg9⟩, hce⟩ := hd1.2.2.1 p (by omega)
    rw [if_pos (nI_pos' (by omega)), kgi_nI (by omega) (by omega), nI_clamp (by omega), hce, hg, kg0 hm.ok]
    simp only [Bool.false_eq_true, if_false]
    rw [nI13, kgi_nI (by omega) (by omega), nI_clamp (by omega), hg]
    by_cases g0 : gN M 58 (13 + p) = 0
    · rw [g0, if_pos (show nI 0 = 0 from rfl), if_pos (show nI 0 ≤ 0 by decide)]
      obtain ⟨C2, e2, r2, q2⟩ := r1.nx
      obtain ⟨M2, m2, n2, k2⟩ := m_pass hm
      rw [e2, m2]
      simp only [Option.bind_some]
      rcases ts_j (i := 14) (lo := 1) (hi := 9) (by omega) (by omega) (by omega) r2 n2 with ⟨x1, x2⟩ | ⟨C3, M3, k, s3, x1, x2, x3, x4, x5⟩ | ⟨C3, M3, v, x1, x2, x3, x4, x5, x6, x7, x8, x9, x10⟩
      · rw [x1, show f_m11_after 14 1 9 M2 = _ from x2]
        simp only [Option.bind_some, Bool.false_eq_true, if_false]
        rw [kg1 (flM_13 _ _ _)]
        simp only [if_true]
        exact sim_fail (q1.tr q2).fr k2.fr 1 _
      · rw [x1, show f_m11_after 14 1 9 M2 = _ from x3]
        simp only [Option.bind_some, if_true]
        rw [show f_m7_seesWhole 1 9 C3 = _ from x2, kg1 (flM_13 _ _ _)]
        simp only [Option.bind_some, Bool.false_eq_true, if_false, if_true]
        exact sim_fail ((q1.tr q2).tr x4).fr (k2.tr x5).fr k s3
      · rw [x1, show f_m11_after 14 1 9 M2 = _ from x3]
        simp only [Option.bind_some, if_true]
        rw [show f_m7_seesWhole 1 9 C3 = _ from x2, kg0 x8.ok]
        simp only [Option.bind_some, Bool.false_eq_true, if_false, if_true]
        rw [kgi_nI (show p < 5 by omega) (by omega), kgi_nI (show 13 + p < 95 by omega) (by omega), x5]
        have rr : cR t n (kuI (kuI C3 31 p (nI v)) 2 3 ((kuI C3 31 p (nI v)).1 2 3 + 1)) (nxS t n (nxS t n (nxS t n s))) := (x4.u (by decide) (by decide) _ _).u (by decide) (by decide) _ _
        obtain ⟨C4, e4, r4, q4⟩ := rr.nx
        rw [e4]
        simp only [Option.bind_some]
        have qq : eqC C C3 := (q1.tr q2).tr x9
        have kk : eqM M M3 := k2.tr x10
        have h1 := nxS_ge (t := t) r2.2.1
        have h2 := nxS_ge (t := t) x4.2.1
        refine ⟨C4, _, rfl, ((qq.fr.u (by omega) _ _).u (by omega) _ _).tr q4.fr, (kk.fr.u (by omega) _ _).u (by omega) _ _, Or.inl ⟨rfl, _, ?_, r4, (x8.u (by decide) (by decide) (by decide) _ _).u (by decide) (by decide) (by decide) _ _, P, U, H, aS, aL, ?_⟩⟩
        · exact Nat.le_trans g1 (Nat.le_trans g2 (Nat.le_trans h1 h2))
        · have c58 : ∀ j, j ≠ 13 + p → j ≠ 3 → (kuI (kuI M3 58 (13 + p) (nI v)) 58 3 ((kuI M3 58 (13 + p) (nI v)).1 58 3 + 1)).1 58 j = M.1 58 j := fun j j1 j2 => by rw [uI_no _ _ (by omega), uI_no _ _ (by omega), kk.1 58 (by decide) (by decide)]
          have c60 : (kuI (kuI M3 58 (13 + p) (nI v)) 58 3 ((kuI M3 58 (13 + p) (nI v)).1 58 3 + 1)).1 60 = M.1 60 := by rw [kuI_ne _ _ _ (by decide), kuI_ne _ _ _ (by decide), kk.1 60 (by decide) (by decide)]
          have c58p : (kuI (kuI M3 58 (13 + p) (nI v)) 58 3 ((kuI M3 58 (13 + p) (nI v)).1 58 3 + 1)).1 58 (13 + p) = nI v := by rw [uI_no _ _ (by omega), uI_at]
          have c583 : (kuI (kuI M3 58 (13 + p) (nI v)) 58 3 ((kuI M3 58 (13 + p) (nI v)).1 58 3 + 1)).1 58 3 = M.1 58 3 + 1 := by rw [uI_at, uI_no _ _ (by omega), kk.1 58 (by decide) (by decide)]
          have d2 : ∀ j, j ≠ 3 → C4.1 2 j = C.1 2 j := fun j hj => by rw [q4 2 (by decide), uI_no _ _ (by omega), uI_no _ _ (by omega), qq 2 (by decide)]
          have d23 : C4.1 2 3 = C.1 2 3 + 1 := by rw [q4 2 (by decide), uI_at, uI_no _ _ (by omega), qq 2 (by decide)]
          have d31 : ∀ j, j ≠ p → C4.1 31 j = C.1 31 j := fun j hj => by rw [q4 31 (by decide), uI_no _ _ (by omega), uI_no _ _ (by omega), qq 31 (by decide)]
          have d31p : C4.1 31 p = nI v := by rw [q4 31 (by decide), uI_no _ _ (by omega), uI_at]
          have dd : ∀ a, a ≠ 2 → a ≠ 3 → a ≠ 31 → C4.1 a = C.1 a := fun a h1 h2 h3 => by rw [q4 a h2, kuI_ne _ _ _ h1, kuI_ne _ _ _ h3, qq a h2]
          generalize kuI (kuI M3 58 (13 + p) (nI v)) 58 3 ((kuI M3 58 (13 + p) (nI v)).1 58 3 + 1) = E at *
          obtain ⟨z1, z2, z3, z4, z5, z6, z7, z8, z9⟩ := hd
          have e60 : ∀ j, E.1 60 j = M.1 60 j := fun j => by rw [c60]
          refine ⟨dA_u (i0 := 3) z1 (by omega) (by omega) (fun j _ hj => c58 j (by omega) hj) d2 c583 d23 ⟨z1.1.1, by rw [c58 2 (by omega) (by omega)]; exact z1.1.2⟩ ⟨z1.2.1.1, by rw [c58 5 (by omega) (by omega)]; exact z1.2.1.2⟩ ⟨z1.2.2.1.1, by rw [c58 6 (by omega) (by omega)]; exact z1.2.2.1.2⟩, dL_c z2 (fun j _ _ => c58 j (by omega) (by omega)) (dd 28 (by decide) (by decide) (by decide)), fun i hi => ?_, dF_c z4 (gN_c (c58 0 (by omega) (by omega))) (fun j _ => e60 j) (dd 29 (by decide) (by decide) (by decide)) (dd 30 (by decide) (by decide) (by decide)), dO_c z5 (fun j _ _ => e60 j) (dd 32 (by decide) (by decide) (by decide)), dU_c z6 (Nat.le_refl _) (fun j _ _ => c58 j (by omega) (by omega)) (dd 33 (by decide) (by decide) (by decide)) (dd 34 (by decide) (by decide) (by decide)), dHd_c z7 (Nat.le_refl _) (fun j _ _ => c58 j (by omega) (by omega)) (dd 35 (by decide) (by decide) (by decide)) (dd 36 (by decide) (by decide) (by decide)) (dd 37 (by decide) (by decide) (by decide)), nmC_c z8 (dd 38 (by decide) (by decide) (by decide)) (dd 39 (by decide) (by decide) (by decide)), nmM_c hP (fun p hp => (z8 p hp).2.2.2.1) z9 (fun j _ _ => c58 j (by omega) (by omega))⟩
          by_cases hip : i = p
          · subst hip
            exact ⟨kB_of c58p x7 (by omega), by rw [d31p, c58p]⟩
          · exact ⟨(kB_c (c58 _ (by omega) (by omega))).mpr (z3 i hi).1, by rw [d31 i hip, c58 _ (by omega) (by omega)]; exact (z3 i hi).2⟩
    · rw [if_neg (nI_ne0 (by omega) (by omega)), if_neg (nI_nle (by omega) (by omega)), show f_m7_found 3 C1 = _ from c_found r1 3, hm.at, show f_m11_wrong 3 (nI (nxS t n s)) M = _ from m_wrg hm.ok 3 _]
      simp only [Option.bind_some]
      rw [mf_pass (flM_13 _ _ _)]
      simp only [Option.bind_some]
      rw [mf_after (flM_13 _ _ _)]
      simp only [Option.bind_some]
      rw [kg1 (flM_13 _ _ _)]
      simp only [if_true]
      exact sim_fail q1.fr frR.rf 3 _
  · rw [a2 hk, b2 hk]
    simp only [Option.bind_some, knx_e]
    rw [if_neg (show ¬ (0 : Int32) ≤ -1 by decide), kg1 (flM_13 _ _ _)]
    simp only [if_true]
    rw [mf_pass (flM_13 _ _ _)]
    simp only [Option.bind_some]
    rw [mf_after (flM_13 _ _ _)]
    simp only [Option.bind_some]
    rw [kg1 (flM_13 _ _ _)]
    simp only [if_true]
    exact sim_fail q1.fr frR.rf _ _
theorem sim_debt {C M : kSt} {s P U H : Nat} {aS aL : Nat → Nat} (hc : cR t n C s) (hm : mR t n M (nxS t n s)) (hd : DR t n P U H aS aL C M) (h10 : C.1 2 4 < 10) : Sim t n s C M (f_m7_readDebt C) (f_m11_debtLine M) := by
  have hs := hc.2.1
  obtain ⟨C1, e1, r1, q1⟩ := hc.nx
  have hd1 : DR t n P U H aS aL C1 M := hd.c (fun a ha => q1 a (by omega)) rfl rfl
  have hP := hd.1.1.1
  have g1 := nxS_ge (t := t) hs
  have g2 := nxS_ge (t := t) r1.2.1
  unfold f_m7_readDebt f_m11_debtLine
  rw [if_pos h10, e1]
  simp only [Option.bind_some]
  obtain ⟨a1, a2⟩ := c_seen r1 hd1
  obtain ⟨b1, b2⟩ := m_pairH hm hd1
  by_cases hk : pq t n (nxS t n s) aS aL P = 0
  · have hp := pq_0 hk
    rw [a1 hk, b1 hk]
    clear a1 a2 b1 b2 hk
    generalize pnI t n (nxS t n s) aS aL P = p at hp ⊢
    obtain ⟨C2, e2, r2, q2⟩ := r1.nx
    obtain ⟨M2, m2, n2, k2⟩ := m_pass hm
    simp only [Option.bind_some, knx_e]
    rw [if_pos (nI_pos' (by omega)), e2, m2]
    simp only [Option.bind_some]
    have hd2 : DR t n P U H aS aL C2 M2 := hd1.c (fun a ha => q2 a (by omega)) (k2.1 58 (by decide) (by decide)) (k2.1 60 (by decide) (by decide))
    obtain ⟨a1, a2⟩ := c_seen r2 hd2
    obtain ⟨b1, b2⟩ := m_pairH n2 hd2
    by_cases hk : pq t n (nxS t n (nxS t n s)) aS aL P = 0
    · have ho := pq_0 hk
      rw [a1 hk, b1 hk]
      clear a1 a2 b1 b2 hk
      generalize pnI t n (nxS t n (nxS t n s)) aS aL P = o at ho ⊢
      simp only [Option.bind_some]
      rw [if_pos (nI_pos' (by omega)), kg0 n2.ok, kite (show nI o = nI p ↔ o = p from nI_eq (by omega) (by omega)), kite (show nI p = nI o ↔ p = o from nI_eq (by omega) (by omega))]
      simp only [Bool.false_eq_true, if_false]
      have hfail : Sim t n s C M ((f_m7_found 3 C2).bind fun q9 => some (q9.1, q9.2)) ((f_m11_wrong 3 (M2.1 14 4) M2).bind fun q15 => (f_m11_pass q15).bind fun q6 => (f_m11_number 1 99 q6).bind fun q7 => kgb (q7.2.1 14 13) fun b8 => if b8 = true then some q7.2 else kgi ((10 + (5 * nI p)) + nI o) 36 (some (kuI (kuI q7.2 60 ((10 + (5 * nI p)) + nI o).toNatClampNeg q7.1) 58 4 ((kuI q7.2 60 ((10 + (5 * nI p)) + nI o).toNatClampNeg q7.1).1 58 4 + 1)))) := by
        rw [show f_m7_found 3 C2 = _ from c_found r2 3, n2.at, show f_m11_wrong 3 (nI _) M2 = _ from m_wrg n2.ok 3 _]
        simp only [Option.bind_some]
        rw [mf_pass (flM_13 _ _ _)]
        simp only [Option.bind_some]
        rw [mf_num (flM_13 _ _ _)]
        simp only [Option.bind_some]
        rw [kg1 (flM_13 _ _ _)]
        simp only [if_true]
        exact sim_fail (q1.tr q2).fr k2.fr 3 _
      by_cases hop : o = p
      · rw [if_pos hop, if_pos hop.symm]
        exact hfail
      · rw [if_neg hop, if_neg (Ne.symm hop)]
        have hl : 5 * p + o < 25 := by omega
        obtain ⟨hO1, ⟨hg, hg99⟩⟩ := hd2.2.2.2.2.1.1 (5 * p + o) hl
        rw [ub5, ub10] at *
        rw [kgi_nI hl (by omega), kgi_nI (show 10 + (5 * p + o) < 36 by omega) (by omega), nI_clamp (by omega), nI_clamp (by omega), hO1, hg] at *
        by_cases g0 : gN M2 60 (10 + (5 * p + o)) = 0
        · rw [g0, if_pos (show nI 0 = 0 from rfl), if_pos (show nI 0 ≤ 0 by decide)]
          obtain ⟨C3, e3, r3, q3⟩ := r2.nx
          obtain ⟨M3, m3, n3, k3⟩ := m_pass n2
          rw [e3, m3]
          simp only [Option.bind_some]
          obtain ⟨s1, s2⟩ := c_sees (lo := 1) (hi := 99) (by omega) (by omega) r3
          obtain ⟨y1, y2⟩ := m_num (lo := 1) (hi := 99) (by omega) (by omega) n3
          by_cases hq : nq t n (nxS t n (nxS t n (nxS t n s))) 1 99 = 0
          · obtain ⟨M4, m4, n4, k4⟩ := y1 hq
            obtain ⟨z1, z2, z3⟩ := nq_0 hq
            have w5 := r3.2.2.2.2.2.1 z1
            rw [show f_m7_seesWhole 1 99 C3 = _ from s1 hq, show f_m11_number 1 99 M3 = _ from m4]
            simp only [Option.bind_some, if_true]
            rw [kg0 n4.ok]
            simp only [Bool.false_eq_true, if_false]
            have kg25 : ∀ x : Option (Bool × kSt), kgi (nI (5 * p + o)) 25 x = x := fun x => kgi_nI hl (by omega)
            have kg36 : ∀ x : Option kSt, kgi (nI (10 + (5 * p + o))) 36 x = x := fun x => kgi_nI (by omega) (by omega)
            have cl1 : (nI (10 + (5 * p + o))).toNatClampNeg = 10 + (5 * p + o) := nI_clamp (by omega)
            have cl2 : (nI (5 * p + o)).toNatClampNeg = 5 * p + o := nI_clamp (by omega)
            simp only [kg25, kg36, cl1, cl2]
            rw [w5]
            generalize wvN t n (nxS t n (nxS t n (nxS t n s))) = v at *
            have rr : cR t n (kuI (kuI C3 32 (5 * p + o) (nI v)) 2 4 ((kuI C3 32 (5 * p + o) (nI v)).1 2 4 + 1)) (nxS t n (nxS t n (nxS t n s))) := (r3.u (by decide) (by decide) _ _).u (by decide) (by decide) _ _
            obtain ⟨C4, e4, r4, q4⟩ := rr.nx
            rw [e4]
            simp only [Option.bind_some]
            have qq : eqC C C3 := (q1.tr q2).tr q3
            have kk : eqM M M4 := (k2.tr k3).tr k4
            have h1 := nxS_ge (t := t) r2.2.1
            have h2 := nxS_ge (t := t) r3.2.1
            refine ⟨C4, _, rfl, ((qq.fr.u (by omega) _ _).u (by omega) _ _).tr q4.fr, (kk.fr.u (by omega) _ _).u (by omega) _ _, Or.inl ⟨rfl, _, Nat.le_trans g1 (Nat.le_trans g2 (Nat.le_trans h1 h2)), r4, (n4.u (by decide) (by decide) (by decide) _ _).u (by decide) (by decide) (by decide) _ _, P, U, H, aS, aL, ?_⟩⟩
            have c58 : ∀ j, j ≠ 4 → (kuI (kuI M4 60 (10 + (5 * p + o)) (nI v)) 58 4 ((kuI M4 60 (10 + (5 * p + o)) (nI v)).1 58 4 + 1)).1 58 j = M.1 58 j := fun j j1 => by rw [uI_no _ _ (by omega), uI_no _ _ (by omega), kk.1 58 (by decide) (by decide)]
            have c584 : (kuI (kuI M4 60 (10 + (5 * p + o)) (nI v)) 58 4 ((kuI M4 60 (10 + (5 * p + o)) (nI v)).1 58 4 + 1)).1 58 4 = M.1 58 4 + 1 := by rw [uI_at, uI_no _ _ (by omega), kk.1 58 (by decide) (by decide)]
            have c60 : ∀ j, j ≠ 10 + (5 * p + o) → (kuI (kuI M4 60 (10 + (5 * p + o)) (nI v)) 58 4 ((kuI M4 60 (10 + (5 * p + o)) (nI v)).1 58 4 + 1)).1 60 j = M.1 60 j := fun j hj => by rw [uI_no _ _ (by omega), uI_no _ _ (by omega), kk.1 60 (by decide) (by decide)]
            have c60p : (kuI (kuI M4 60 (10 + (5 * p + o)) (nI v)) 58 4 ((kuI M4 60 (10 + (5 * p + o)) (nI v)).1 58 4 + 1)).1 60 (10 + (5 * p + o)) = nI v := by rw [uI_no _ _ (by omega), uI_at]
            have d2 : ∀ j, j ≠ 4 → C4.1 2 j = C.1 2 j := fun j hj => by rw [q4 2 (by decide), uI_no _ _ (by omega), uI_no _ _ (by omega), qq 2 (by decide)]
            have d24 : C4.1 2 4 = C.1 2 4 + 1 := by rw [q4 2 (by decide), uI_at, uI_no _ _ (by omega), qq 2 (by decide)]
            have d32 : ∀ j, j ≠ 5 * p + o → C4.1 32 j = C.1 32 j := fun j hj => by rw [q4 32 (by decide), uI_no _ _ (by omega), uI_no _ _ (by omega), qq 32 (by decide)]
            have d32p : C4.1 32 (5 * p + o) = nI v := by rw [q4 32 (by decide), uI_no _ _ (by omega), uI_at]
            have dd : ∀ a, a ≠ 2 → a ≠ 3 → a ≠ 32 → C4.1 a = C.1 a := fun a h1 h2 h3 => by rw [q4 a h2, kuI_ne _ _ _ h1, kuI_ne _ _ _ h3, qq a h2]
            generalize kuI (kuI M4 60 (10 + (5 * p + o)) (nI v)) 58 4 ((kuI M4 60 (10 + (5 * p + o)) (nI v)).1 58 4 + 1) = E at *
            obtain ⟨z1, z2, z3', z4, z5, z6, z7, z8, z9⟩ := hd
            refine ⟨dA_u (i0 := 4) z1 (by omega) (by omega) (fun j _ hj => c58 j hj) d2 c584 d24 ⟨z1.1.1, by rw [c58 2 (by omega)]; exact z1.1.2⟩ ⟨z1.2.1.1, by rw [c58 5 (by omega)]; exact z1.2.1.2⟩ ⟨z1.2.2.1.1, by rw [c58 6 (by omega)]; exact z1.2.2.1.2⟩, dL_c z2 (fun j _ _ => c58 j (by omega)) (dd 28 (by decide) (by decide) (by decide)), dE_c z3' (fun j _ _ => c58 j (by omega)) (dd 31 (by decide) (by decide) (by decide)), dF_c z4 (gN_c (c58 0 (by omega))) (fun j _ => c60 j (by omega)) (dd 29 (by decide) (by decide) (by decide)) (dd 30 (by decide) (by decide) (by decide)), ⟨fun j hj => ?_, fun i hi => ?_, by rw [c60 35 (by omega)]; exact z5.2.2⟩, dU_c z6 (Nat.le_refl _) (fun j _ _ => c58 j (by omega)) (dd 33 (by decide) (by decide) (by decide)) (dd 34 (by decide) (by decide) (by decide)), dHd_c z7 (Nat.le_refl _) (fun j _ _ => c58 j (by omega)) (dd 35 (by decide) (by decide) (by decide)) (dd 36 (by decide) (by decide) (by decide)) (dd 37 (by decide) (by decide) (by decide)), nmC_c z8 (dd 38 (by decide) (by decide) (by decide)) (dd 39 (by decide) (by decide) (by decide)), nmM_c hP (fun p hp => (z8 p hp).2.2.2.1) z9 (fun j _ _ => c58 j (by omega))⟩
            · by_cases hj2 : j = 5 * p + o
              · subst hj2
                exact ⟨by rw [d32p, c60p], kB_of c60p z3 (by omega)⟩
              · exact ⟨by rw [d32 j hj2, c60 _ (by omega)]; exact (z5.1 j hj).1, (kB_c (c60 _ (by omega))).mpr (z5.1 j hj).2⟩
            · rw [c60 _ (by omega)]
              exact z5.2.1 i hi
          · rw [show f_m7_seesWhole 1 99 C3 = _ from s2 hq, show f_m11_number 1 99 M3 = _ from y2 hq]
            simp only [Option.bind_some, Bool.false_eq_true, if_false]
            rw [kg1 (flM_13 _ _ _)]
            simp only [if_true]
            exact sim_fail ((q1.tr q2).tr q3).fr (k2.tr k3).fr _ _
        · rw [if_neg (nI_ne0 (by omega) (by omega)), if_neg (nI_nle (by omega) (by omega))]
          exact hfail
    · rw [a2 hk, b2 hk]
      simp only [Option.bind_some]
      rw [if_neg (show ¬ (0 : Int32) ≤ -1 by decide), kg1 (flM_13 _ _ _)]
      simp only [if_true]
      rw [mf_pass (flM_13 _ _ _)]
      simp only [Option.bind_some]
      rw [mf_num (flM_13 _ _ _)]
      simp only [Option.bind_some]
      rw [kg1 (flM_13 _ _ _)]
      simp only [if_true]
      exact sim_fail (q1.tr q2).fr k2.fr _ _
  · rw [a2 hk, b2 hk]
    simp only [Option.bind_some, knx_e]
    rw [if_neg (show ¬ (0 : Int32) ≤ -1 by decide), mf_pass (flM_13 _ _ _)]
    simp only [Option.bind_some]
    rw [mf_pairHere (flM_13 _ _ _)]
    simp only [Option.bind_some]
    rw [kg1 (flM_13 _ _ _)]
    simp only [if_true]
    rw [mf_pass (flM_13 _ _ _)]
    simp only [Option.bind_some]
    rw [mf_num (flM_13 _ _ _)]
    simp only [Option.bind_some]
    rw [kg1 (flM_13 _ _ _)]
    simp only [if_true]
    exact sim_fail q1.fr frR.rf _ _
end LI2
