-- pair, the line
section LI6
variable {t : Nat → Nat} {n : Nat}
theorem sim_pair2 {C M C3 M3 : kSt} {s s3 P U H g s1 L : Nat} {aS aL : Nat → Nat} (hd : DR t n P U H aS aL C M) (hP5 : P < 5) (hg : g ≤ 3) (hL1 : 1 ≤ L) (hL8 : L ≤ 8) (hLn : s1 + L ≤ n) (hlt : ∀ k, k < L → ltB (t (s1 + k)) = true) (hs3 : s ≤ s3) (r3 : cR t n C3 s3) (n3 : mR t n M3 s3) (qf : frC C C3) (kf : frR M M3)
    (dC : ∀ a j, a ≠ 3 → C3.1 a j = if a = 28 ∧ j = P then nI g else if a = 39 ∧ j = P then nI L else if a = 38 ∧ j = P then nI s1 else C.1 a j)
    (e58 : ∀ j, M3.1 58 j = if j = 50 + P then nI L else if 55 + 8 * P ≤ j ∧ j < 55 + 8 * P + L then nI (t (s1 + (j - (55 + 8 * P)))) else M.1 58 j) (e60 : M3.1 60 = M.1 60) :
    Sim t n s C M ((f_m7_takeWord 12 C3).bind fun q18 => if q18.1 = true then (f_m7_seesWhole 0 (q18.2.1 2 0) q18.2).bind fun q20 => if q20.1 = true then (f_m7_next (kuI q20.2 29 P (q20.2.1 3 5))).bind fun q23 => (f_m7_takeWord 13 q23).bind fun q24 => if q24.1 = true then (f_m7_seesWhole 0 20 q24.2).bind fun q26 => if q26.1 = true then (f_m7_next (kuI (kuI q26.2 30 P (q26.2.1 3 5)) 2 2 ((kuI q26.2 30 P (q26.2.1 3 5)).1 2 2 + 1))).bind fun q30 => some (true, q30) else some (false, q26.2) else some (false, q24.2) else some (false, q20.2) else some (false, q18.2))
      ((f_m11_after 12 0 (M3.1 58 0) M3).bind fun q10 => (f_m11_after 13 0 20 q10.2).bind fun q11 => kgb (q11.2.1 14 13) fun b12 => if b12 = true then some q11.2 else kgi (8 + nI P) 95 (kgi (nI P) 36 (kgi (5 + nI P) 36 (some (kuI (kuI (kuI (kuI q11.2 58 (8 + nI P).toNatClampNeg (nI g)) 60 (nI P).toNatClampNeg q10.1) 60 (5 + nI P).toNatClampNeg q11.1) 58 2 ((kuI (kuI (kuI q11.2 58 (8 + nI P).toNatClampNeg (nI g)) 60 (nI P).toNatClampNeg q10.1) 60 (5 + nI P).toNatClampNeg q11.1).1 58 2 + 1)))))) := by
  have hW : M.1 58 0 = nI (gN M 58 0) := hd.1.2.2.2.2.1.2.1
  have hW9 : gN M 58 0 ≤ 99 := hd.1.2.2.2.2.1.2.2
  have h20 : C.1 2 0 = nI (gN M 58 0) := by rw [hd.1.2.2.2.1 0 (by omega)]; exact hW
  have h203 : C3.1 2 0 = nI (gN M 58 0) := by rw [dC 2 0 (by decide), if_neg (by omega), if_neg (by omega), if_neg (by omega)]; exact h20
  have hW3 : M3.1 58 0 = nI (gN M 58 0) := by rw [e58, if_neg (by omega), if_neg (by omega)]; exact hW
  rw [hW3]
  have g3 := nxS_ge (t := t) r3.2.1
  rcases ts_j (i := 12) (lo := 0) (hi := gN M 58 0) (by omega) (by omega) (by omega) r3 n3 with ⟨x1, x2⟩ | ⟨C4, M4, k, s4, x1, x2, x3, x4, x5⟩ | ⟨C4, M4, f, x1, x2, x3, x4, x5, x6, x7, x8, x9, x10⟩
  · rw [x1, show f_m11_after 12 0 (nI (gN M 58 0)) M3 = _ from x2]
    simp only [Option.bind_some, Bool.false_eq_true, if_false]
    rw [mf_after (flM_13 _ _ _)]
    simp only [Option.bind_some]
    rw [kg1 (flM_13 _ _ _)]
    simp only [if_true]
    exact sim_fail qf kf _ _
  · have h204 : C4.1 2 0 = nI (gN M 58 0) := by rw [x4 2 (by decide)]; exact h203
    rw [x1, show f_m11_after 12 0 (nI (gN M 58 0)) M3 = _ from x3]
    simp only [Option.bind_some, if_true]
    rw [h204, show f_m7_seesWhole 0 (nI (gN M 58 0)) C4 = _ from x2, mf_after (flM_13 _ _ _)]
    simp only [Option.bind_some, Bool.false_eq_true, if_false]
    rw [kg1 (flM_13 _ _ _)]
    simp only [if_true]
    exact sim_fail (qf.tr x4.fr) (kf.tr x5.fr) _ _
  · have h204 : C4.1 2 0 = nI (gN M 58 0) := by rw [x9 2 (by decide)]; exact h203
    rw [x1, show f_m11_after 12 0 (nI (gN M 58 0)) M3 = _ from x3]
    simp only [Option.bind_some, if_true]
    rw [h204, show f_m7_seesWhole 0 (nI (gN M 58 0)) C4 = _ from x2]
    simp only [Option.bind_some, if_true]
    rw [x5]
    have rr : cR t n (kuI C4 29 P (nI f)) (nxS t n s3) := x4.u (by decide) (by decide) _ _
    obtain ⟨C5, e5, r5, q5⟩ := rr.nx
    rw [e5]
    simp only [Option.bind_some]
    have g4 := nxS_ge (t := t) x4.2.1
    have g5 := nxS_ge (t := t) r5.2.1
    have qf5 : frC C C5 := ((qf.tr x9.fr).u (by omega) _ _).tr q5.fr
    have kf4 : frR M M4 := kf.tr x10.fr
    rcases ts_j (i := 13) (lo := 0) (hi := 20) (by omega) (by omega) (by omega) r5 x8 with ⟨y1, y2⟩ | ⟨C6, M6, k, s6, y1, y2, y3, y4, y5⟩ | ⟨C6, M6, st, y1, y2, y3, y4, y5, y6, y7, y8, y9, y10⟩
    · rw [y1, show f_m11_after 13 0 20 M4 = _ from y2]
      simp only [Option.bind_some, Bool.false_eq_true, if_false]
      rw [kg1 (flM_13 _ _ _)]
      simp only [if_true]
      exact sim_fail qf5 kf4 _ _
    · rw [y1, show f_m11_after 13 0 20 M4 = _ from y3]
      simp only [Option.bind_some, if_true]
      rw [show f_m7_seesWhole 0 20 C6 = _ from y2, kg1 (flM_13 _ _ _)]
      simp only [Option.bind_some, Bool.false_eq_true, if_false, if_true]
      exact sim_fail (qf5.tr y4.fr) (kf4.tr y5.fr) _ _
    · rw [y1, show f_m11_after 13 0 20 M4 = _ from y3]
      simp only [Option.bind_some, if_true]
      rw [show f_m7_seesWhole 0 20 C6 = _ from y2, kg0 y8.ok]
      simp only [Option.bind_some, Bool.false_eq_true, if_false, if_true]
      have k8 : ∀ x : Option kSt, kgi (nI (8 + P)) 95 x = x := fun x => kgi_nI (by omega) (by omega)
      have kP : ∀ x : Option kSt, kgi (nI P) 36 x = x := fun x => kgi_nI (by omega) (by omega)
      have k5 : ∀ x : Option kSt, kgi (nI (5 + P)) 36 x = x := fun x => kgi_nI (by omega) (by omega)
      have c8 : (nI (8 + P)).toNatClampNeg = 8 + P := nI_clamp (by omega)
      have cP : (nI P).toNatClampNeg = P := nI_clamp (by omega)
      have c5 : (nI (5 + P)).toNatClampNeg = 5 + P := nI_clamp (by omega)
      simp only [nI8, nI5, k8, kP, k5, c8, cP, c5, y5]
      have rr6 : cR t n (kuI (kuI C6 30 P (nI st)) 2 2 ((kuI C6 30 P (nI st)).1 2 2 + 1)) (nxS t n (nxS t n (nxS t n s3))) := (y4.u (by decide) (by decide) _ _).u (by decide) (by decide) _ _
      obtain ⟨C7, e7, r7, q7⟩ := rr6.nx
      rw [e7]
      simp only [Option.bind_some]
      have g6 := nxS_ge (t := t) y4.2.1
      refine ⟨C7, _, rfl, (((qf5.tr y9.fr).u (by omega) _ _).u (by omega) _ _).tr q7.fr, ((((kf4.tr y10.fr).u (by omega) _ _).u (by omega) _ _).u (by omega) _ _).u (by omega) _ _, Or.inl ⟨rfl, _, Nat.le_trans hs3 (Nat.le_trans g3 (Nat.le_trans g4 (Nat.le_trans g5 g6))), r7, (((y8.u (by decide) (by decide) (by decide) _ _).u (by decide) (by decide) (by decide) _ _).u (by decide) (by decide) (by decide) _ _).u (by decide) (by decide) (by decide) _ _, _, _, _, _, _, DR_pair hd hP5 hg x7 y7 hL1 hL8 hLn hlt (fun j => ?_) (fun j => ?_) (fun a j ha => ?_)⟩⟩
      · have m58 : M6.1 58 = M3.1 58 := by rw [y10.1 58 (by decide) (by decide), x10.1 58 (by decide) (by decide)]
        rw [uI_get, uI_no _ _ (show ¬ ((58 : Nat) = 60 ∧ 2 = 5 + P) by omega), uI_no _ _ (show ¬ ((58 : Nat) = 60 ∧ 2 = P) by omega), uI_no _ _ (show ¬ ((58 : Nat) = 58 ∧ 2 = 8 + P) by omega), uI_no _ _ (show ¬ ((58 : Nat) = 60 ∧ j = 5 + P) by omega), uI_no _ _ (show ¬ ((58 : Nat) = 60 ∧ j = P) by omega), uI_get, m58, e58, e58]
        by_cases q2 : j = 2
        · rw [if_pos ⟨rfl, q2⟩, if_pos q2, if_neg (by omega), if_neg (by omega)]
        · rw [if_neg (fun h => q2 h.2), if_neg q2]
          by_cases q8 : j = 8 + P
          · rw [if_pos ⟨rfl, q8⟩, if_pos q8]
          · rw [if_neg (fun h => q8 h.2), if_neg q8]
      · have m60 : M6.1 60 = M.1 60 := by rw [y10.1 60 (by decide) (by decide), x10.1 60 (by decide) (by decide), e60]
        rw [uI_no _ _ (show ¬ ((60 : Nat) = 58 ∧ j = 2) by omega), uI_get, uI_get, uI_no _ _ (show ¬ ((60 : Nat) = 58 ∧ j = 8 + P) by omega), m60]
        by_cases q5' : j = 5 + P
        · rw [if_pos ⟨rfl, q5'⟩, if_neg (by omega), if_pos q5']
        · rw [if_neg (fun h => q5' h.2)]
          by_cases qP : j = P
          · rw [if_pos ⟨rfl, qP⟩, if_pos qP]
          · rw [if_neg (fun h => qP h.2), if_neg qP, if_neg q5']
      · rw [q7 a ha, uI_get, uI_no _ _ (show ¬ ((2 : Nat) = 30 ∧ 2 = P) by omega), uI_get, y9 2 (by decide), y9 a ha, q5 2 (by decide), q5 a ha, uI_no _ _ (show ¬ ((2 : Nat) = 29 ∧ 2 = P) by omega), uI_get, x9 2 (by decide), x9 a ha, dC 2 2 (by decide), dC a j ha, if_neg (show ¬ ((2 : Nat) = 28 ∧ 2 = P) by omega), if_neg (show ¬ ((2 : Nat) = 39 ∧ 2 = P) by omega), if_neg (show ¬ ((2 : Nat) = 38 ∧ 2 = P) by omega)]
def pjK (x3 x6 : Int32) (S8 : kSt) : Option kSt := (f_m11_pass S8).bind fun q9 => (f_m11_after 12 0 (q9.1 58 0) q9).bind fun q10 => (f_m11_after 13 0 20 q10.2).bind fun q11 => kgb (q11.2.1 14 13) fun b12 => if b12 = true then some q11.2 else kgi (8 + x3) 95 (kgi x3 36 (kgi (5 + x3) 36 (some (kuI (kuI (kuI (kuI q11.2 58 (8 + x3).toNatClampNeg x6) 60 x3.toNatClampNeg q10.1) 60 (5 + x3).toNatClampNeg q11.1) 58 2 ((kuI (kuI (kuI q11.2 58 (8 + x3).toNatClampNeg x6) 60 x3.toNatClampNeg q10.1) 60 (5 + x3).toNatClampNeg q11.1).1 58 2 + 1)))))
def pJ (x3 x6 : Int32) (S7 : kSt) : Option kSt := if 0 ≤ x6 then pjK x3 x6 S7 else (f_m11_wrong 1 (S7.1 14 4) S7).bind fun q21 => pjK x3 x6 q21
theorem pairLine_e {M : kSt} (h : M.1 14 13 = 0) : f_m11_pairLine M = (f_m11_newName (M.1 58 2) M).bind fun q4 => (f_m11_isWord 8 q4).bind fun q5 => if q5.1 = true then pJ (M.1 58 2) 0 q5.2 else (f_m11_isWord 9 q5.2).bind fun q23 => if q23.1 = true then pJ (M.1 58 2) 1 q23.2 else (f_m11_isWord 10 q23.2).bind fun q25 => if q25.1 = true then pJ (M.1 58 2) 2 q25.2 else (f_m11_isWord 11 q25.2).bind fun q27 => if q27.1 = true then pJ (M.1 58 2) 3 q27.2 else pJ (M.1 58 2) (-1) q27.2 := by
  unfold f_m11_pairLine
  rw [kg0 h]
  simp only [knx_e, pJ, pjK, Bool.false_eq_true, if_false]
theorem pjK_F {F : kSt} (h : F.1 14 13 = 1) (x3 x6 : Int32) : pjK x3 x6 F = some F := by
  unfold pjK
  rw [mf_pass h]
  simp only [Option.bind_some]
  rw [mf_after h]
  simp only [Option.bind_some]
  rw [mf_after h]
  simp only [Option.bind_some]
  rw [kg1 h]
  simp only [if_true]
theorem pairLine_F {M F : kSt} (h : M.1 14 13 = 0) (hn : f_m11_newName (M.1 58 2) M = some F) (hF : F.1 14 13 = 1) : f_m11_pairLine M = some F := by
  rw [pairLine_e h, hn]
  simp only [Option.bind_some, mf_isWord hF, Bool.false_eq_true, if_false]
  unfold pJ
  rw [if_neg (by decide), mf_wrong hF]
  simp only [Option.bind_some]
  exact pjK_F hF _ _
theorem pairLine_L {M M2 : kSt} {s : Nat} (h : M.1 14 13 = 0) (hn : f_m11_newName (M.1 58 2) M = some M2) (h2 : mR t n M2 s) : f_m11_pairLine M = pJ (M.1 58 2) (lwN t n s) M2 := by
  have w8 := m_isWord (i := 8) (by omega) h2
  have w9 := m_isWord (i := 9) (by omega) h2
  have w10 := m_isWord (i := 10) (by omega) h2
  have w11 := m_isWord (i := 11) (by omega) h2
  rw [pairLine_e h, hn]
  unfold lwN
  simp only [w8, w9, w10, w11, Option.bind_some]
  cases wq t n s 8 <;> cases wq t n s 9 <;> cases wq t n s 10 <;> cases wq t n s 11 <;> rfl
theorem sim_pair {C M : kSt} {s P U H : Nat} {aS aL : Nat → Nat} (hc : cR t n C s) (hm : mR t n M (nxS t n s)) (hd : DR t n P U H aS aL C M) (hP5 : P < 5) : Sim t n s C M (f_m7_readPair C) (f_m11_pairLine M) := by
  have hs := hc.2.1
  obtain ⟨C1, e1, r1, q1⟩ := hc.nx
  have hd1 : DR t n P U H aS aL C1 M := hd.c (fun a ha => q1 a (by omega)) rfl rfl
  have h582 := hd.1.1.2
  have h22 : C.1 2 2 = nI P := by rw [hd.1.2.2.2.1 2 (by omega)]; exact h582
  have h22' : C1.1 2 2 = nI P := by rw [q1 2 (by decide)]; exact h22
  have g1 := nxS_ge (t := t) hs
  have g2 := nxS_ge (t := t) r1.2.1
  have hN1 := hd1.2.2.2.2.2.2.2.1
  have h4 := lexK_4 (t := t) (n := n) (nxS t n s)
  obtain ⟨n1, n2, n3⟩ := m_newName (P := P) (aS := aS) (aL := aL) hm (fun p hp => ⟨(hN1 p hp).2.2.1, (hN1 p hp).2.2.2.1, (hN1 p hp).2.2.2.2.1⟩) hd.2.2.2.2.2.2.2.2 hP5
  rw [← h582] at n1 n2 n3
  unfold f_m7_readPair
  simp only [knx_e]
  rw [h22, if_pos (show nI P < (5 : Int32) from nI_lt (b := 5) hP5 (by omega)), e1]
  simp only [Option.bind_some]
  rw [r1.2.2.2.2.1, kite (show nI (lexK t n (nxS t n s)) = 1 ↔ lexK t n (nxS t n s) = 1 from nI_eq (b := 1) (by omega) (by omega))]
  by_cases hK : lexK t n (nxS t n s) = 1 ∧ hdB t n (nxS t n s) = false
  · rw [if_pos hK.1, c_head r1, hK.2]
    simp only [Option.bind_some, Bool.false_eq_true, if_false]
    rw [c_pairOfName r1 hK.1 hN1 (by omega) h22']
    simp only [Option.bind_some]
    rw [show fndP (smB t n (nxS t n s) aS aL) P 0 = pnI t n (nxS t n s) aS aL P from rfl]
    by_cases hp : pnI t n (nxS t n s) aS aL P < P
    · rw [if_pos hp, if_neg (nI_pos (by omega)), show f_m7_found 3 C1 = _ from c_found r1 3, pairLine_F hm.ok (n2 hK hp) (flM_13 _ _ _)]
      simp only [Option.bind_some]
      exact sim_fail q1.fr frR.rf 3 _
    · obtain ⟨M2, m1, m2, m3, m4, m5⟩ := n3 hK hp
      obtain ⟨l1, l2, l3, l4⟩ := lexK_1 hK.1
      have hb := lexE_b (t := t) r1.2.1
      have kP : ∀ x : Option (Bool × kSt), kgi (nI P) 5 x = x := fun x => kgi_nI hP5 (by omega)
      have cP : (nI P).toNatClampNeg = P := nI_clamp (by omega)
      rw [if_neg hp, if_pos (show (-1 : Int32) < 0 by decide), pairLine_L hm.ok m1 m2]
      simp only [kP, cP]
      rw [r1.2.2.1, kuI_ne C1 _ _ (show (3 : Nat) ≠ 38 by decide), r1.2.2.2.1, r1.2.2.1, pk_sub hb.1]
      have rr : cR t n (kuI (kuI C1 38 P (nI (nxS t n s))) 39 P (nI (lexE t n (nxS t n s) - nxS t n s))) (nxS t n s) := (r1.u (by decide) (by decide) _ _).u (by decide) (by decide) _ _
      obtain ⟨C2, e2, r2, q2⟩ := rr.nx
      rw [e2]
      simp only [Option.bind_some]
      rw [c_law r2]
      simp only [Option.bind_some]
      rw [uI_at]
      have qf2 : frC C C2 := ((q1.fr.u (by omega) _ _).u (by omega) _ _).tr q2.fr
      have kf2 : frR M M2 := ⟨fun a x y z _ => m3 a x y z, m4⟩
      rcases lwN_v (t := t) (n := n) (nxS t n (nxS t n s)) with hl | ⟨g, hg, hl⟩
      · rw [hl, if_neg (by decide)]
        have rr3 : cR t n (kuI C2 28 P (-1)) (nxS t n (nxS t n s)) := r2.u (by decide) (by decide) _ _
        unfold pJ
        rw [if_neg (by decide), show f_m7_found 1 (kuI C2 28 P (-1)) = _ from c_found rr3 1, m2.at, show f_m11_wrong 1 (nI _) M2 = _ from m_wrg m2.ok 1 _]
        simp only [Option.bind_some]
        rw [pjK_F (flM_13 _ _ _)]
        exact sim_fail (qf2.u (by omega) _ _) kf2 1 _
      · rw [hl, if_pos (nI_pos' (by omega))]
        have rr3 : cR t n (kuI C2 28 P (nI g)) (nxS t n (nxS t n s)) := r2.u (by decide) (by decide) _ _
        obtain ⟨C3, e3, r3, q3⟩ := rr3.nx
        obtain ⟨M3, p1, p2, p3⟩ := m_pass m2
        unfold pJ
        rw [if_pos (nI_pos' (by omega)), e3]
        unfold pjK
        rw [p1, h582]
        simp only [Option.bind_some]
        refine sim_pair2 (s1 := nxS t n s) (L := lexE t n (nxS t n s) - nxS t n s) hd hP5 hg (by omega) l2 (by omega) l4 (Nat.le_trans g1 (Nat.le_trans g2 (nxS_ge r2.2.1))) r3 p2 ((qf2.u (by omega) _ _).tr q3.fr) (kf2.tr p3.fr) (fun a j ha => ?_) (fun j => ?_) ?_
        · rw [q3 a ha, uI_get, q2 a ha, uI_get, uI_get, q1 a ha]
        · rw [p3.1 58 (by decide) (by decide)]
          exact m5 j
        · rw [p3.1 60 (by decide) (by decide), m3 60 (by decide) (by decide) (by decide)]
  · rw [pairLine_F hm.ok (n1 hK) (flM_13 _ _ _)]
    by_cases hK1 : lexK t n (nxS t n s) = 1
    · have hh : hdB t n (nxS t n s) = true := by
        cases hq : hdB t n (nxS t n s)
        · exact absurd ⟨hK1, hq⟩ hK
        · rfl
      rw [if_pos hK1, c_head r1, hh]
      simp only [Option.bind_some, if_true]
      rw [show f_m7_found 1 C1 = _ from c_found r1 1]
      simp only [Option.bind_some]
      exact sim_fail q1.fr frR.rf 1 _
    · rw [if_neg hK1, show f_m7_found 1 C1 = _ from c_found r1 1]
      simp only [Option.bind_some]
      exact sim_fail q1.fr frR.rf 1 _
end LI6
