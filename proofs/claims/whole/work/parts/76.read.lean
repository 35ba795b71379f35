-- the head, all lines
section RD
variable {t : Nat → Nat} {n : Nat}
def Zr (C M : kSt) : Prop := (∀ j, j < 7 → C.1 2 j = 0) ∧ (∀ j, j < 5 → C.1 29 j = 0 ∧ C.1 30 j = 0 ∧ C.1 31 j = 0) ∧ (∀ j, j < 25 → C.1 32 j = 0) ∧ (∀ j, j < 95 → M.1 58 j = 0) ∧ (∀ j, j < 36 → M.1 60 j = 0)
theorem kB_0 {S : kSt} {k j b : Nat} (hb : b < 2 ^ 31) (h : S.1 k j = 0) : kB S k j b := kB_of (n := 0) h (by omega) hb
theorem DR_0 {D E : kSt} {w dm : Nat} (hw2 : 2 ≤ w) (hw9 : w ≤ 99) (hdm : dm ≤ 100) (e58 : ∀ j, j < 95 → E.1 58 j = if j = 0 then nI w else if j = 1 then nI dm else if j = 7 then 1 else 0) (e60 : ∀ j, j < 36 → E.1 60 j = 0) (d2 : ∀ j, j < 7 → D.1 2 j = if j = 0 then nI w else if j = 1 then nI dm else 0) (d29 : ∀ j, j < 5 → D.1 29 j = 0 ∧ D.1 30 j = 0 ∧ D.1 31 j = 0) (d32 : ∀ j, j < 25 → D.1 32 j = 0) : DR t n 0 0 0 (fun _ => 0) (fun _ => 0) D E := by
  have z : ∀ j, 2 ≤ j → j ≠ 7 → j < 95 → E.1 58 j = 0 := fun j j1 j2 j3 => by rw [e58 j j3, if_neg (by omega), if_neg (by omega), if_neg j2]
  have e0 : E.1 58 0 = nI w := by rw [e58 0 (by omega), if_pos rfl]
  have e1 : E.1 58 1 = nI dm := by rw [e58 1 (by omega), if_neg (by omega), if_pos rfl]
  refine ⟨⟨⟨by omega, z 2 (by omega) (by omega) (by omega)⟩, ⟨by omega, z 5 (by omega) (by omega) (by omega)⟩, ⟨by omega, z 6 (by omega) (by omega) (by omega)⟩, fun i hi => ?_, ⟨by rw [gN_of e0 (by omega)]; exact hw2, kB_of e0 hw9 (by omega)⟩, kB_of e1 hdm (by omega), by rw [e58 7 (by omega)]; rfl⟩, fun p hp => ⟨kB_0 (by omega) (z _ (by omega) (by omega) (by omega)), fun h => by omega⟩, fun p hp => ⟨kB_0 (by omega) (z _ (by omega) (by omega) (by omega)), by rw [(d29 p hp).2.2, z _ (by omega) (by omega) (by omega)]⟩, fun p hp => ⟨by rw [(d29 p hp).1, e60 _ (by omega)], by rw [(d29 p hp).2.1, e60 _ (by omega)], kB_0 (by rw [gN_of e0 (by omega)]; omega) (e60 _ (by omega)), kB_0 (by omega) (e60 _ (by omega))⟩, ⟨fun j hj => ⟨by rw [d32 j hj, e60 _ (by omega)], kB_0 (by omega) (e60 _ (by omega))⟩, fun p hp => e60 _ (by omega), e60 _ (by omega)⟩, fun k hk => ⟨kB_0 (by omega) (z _ (by omega) (by omega) (by omega)), kB_0 (by omega) (z _ (by omega) (by omega) (by omega)), fun h => by omega⟩, fun k hk => ⟨kB_0 (by omega) (z _ (by omega) (by omega) (by omega)), kB_0 (by omega) (z _ (by omega) (by omega) (by omega)), kB_0 (by omega) (z _ (by omega) (by omega) (by omega)), fun h => by omega⟩, fun p hp => by omega, fun p hp => by omega, fun p h1 h2 => z _ (by omega) (by omega) (by omega)⟩
  rw [d2 i hi, e58 i (by omega)]
  by_cases h0 : i = 0
  · rw [if_pos h0, if_pos h0]
  · rw [if_neg h0, if_neg h0]
    by_cases h1 : i = 1
    · rw [if_pos h1, if_pos h1]
    · rw [if_neg h1, if_neg h1, if_neg (by omega)]
theorem sim_fail2 {s0 : Nat} {C M C1 M1 M' : kSt} {k s : Nat} (hC : frC C C1) (hM : frR M M') (h14 : M'.1 14 = (flM M1 k s).1 14) : Sim t n s0 C M (some (false, fdC C1 k s)) (some M') := by
  refine ⟨_, _, rfl, hC.fd k s, hM, Or.inr ⟨rfl, ?_⟩⟩
  obtain ⟨k', s', a1, a2, a3, a4, a5⟩ := fail_of C1 M1 k s
  exact ⟨k', s', a1, a2, by rw [h14]; exact a3, by rw [h14]; exact a4, by rw [h14]; exact a5⟩
theorem pierTail {F : kSt} (h : F.1 14 13 = 1) (x : Int32) : ((f_m11_after 7 0 100 (kuI F 58 0 x)).bind fun q7 => kgb ((kuI q7.2 58 1 q7.1).1 14 13) fun b9 => if b9 = true then some (kuI q7.2 58 1 q7.1) else some (kuI (kuI q7.2 58 1 q7.1) 58 7 1)) = some (kuI (kuI F 58 0 x) 58 1 0) := by
  have h1 : (kuI F 58 0 x).1 14 13 = 1 := by rw [kuI_ne _ _ _ (by decide)]; exact h
  rw [mf_after h1]
  simp only [Option.bind_some]
  rw [kg1 (show (kuI (kuI F 58 0 x) 58 1 0).1 14 13 = 1 from by rw [kuI_ne _ _ _ (by decide)]; exact h1)]
  simp only [if_true]
theorem sim_head1 {C M : kSt} {s : Nat} (hc : cR t n C s) (hm : mR t n M s) (hz : Zr C M) (w0 : wq t n s 0 = true) : Sim t n (s + 1) C M (f_m7_readHead C) (f_m11_pierLine M) := by
  have h7 := hz.2.2.2.1 7 (by omega)
  have hlk := lexK_1 (of_decide_eq_true w0).1
  have hnx := (nxS_b (t := t) hc.2.1).1
  obtain ⟨C1, e1, r1, q1⟩ := hc.nx
  obtain ⟨M1, m1, n1, k1⟩ := hm.nx
  unfold f_m7_readHead f_m11_pierLine
  simp only [knx_e]
  rw [c_isWord (i := 0) (by omega) hc, w0, h7, if_pos (by decide), kg0 hm.ok]
  simp only [Option.bind_some, if_true, Bool.false_eq_true, if_false]
  rw [e1, m1]
  simp only [Option.bind_some]
  rcases ts_j (i := 6) (lo := 2) (hi := 99) (by omega) (by omega) (by omega) r1 n1 with ⟨x1, x2⟩ | ⟨C2, M2, k, s2, x1, x2, x3, x4, x5⟩ | ⟨C2, M2, w, x1, x2, x3, x4, x5, x6, x7, x8, x9, x10⟩
  · rw [x1, show f_m11_after 6 2 99 M1 = _ from x2]
    simp only [Option.bind_some, Bool.false_eq_true, if_false]
    rw [pierTail (flM_13 _ _ _)]
    exact sim_fail2 (M1 := M1) q1.fr (((k1.fr.fl _ _).u (by omega) _ _).u (by omega) _ _) (by rw [kuI_ne _ _ _ (by decide), kuI_ne _ _ _ (by decide)])
  · rw [x1, show f_m11_after 6 2 99 M1 = _ from x3]
    simp only [Option.bind_some, if_true]
    rw [show f_m7_seesWhole 2 99 C2 = _ from x2, pierTail (flM_13 _ _ _)]
    simp only [Option.bind_some, Bool.false_eq_true, if_false]
    exact sim_fail2 (M1 := M2) (q1.tr x4).fr ((((k1.tr x5).fr.fl _ _).u (by omega) _ _).u (by omega) _ _) (by rw [kuI_ne _ _ _ (by decide), kuI_ne _ _ _ (by decide)])
  · rw [x1, show f_m11_after 6 2 99 M1 = _ from x3]
    simp only [Option.bind_some, if_true]
    rw [show f_m7_seesWhole 2 99 C2 = _ from x2]
    simp only [Option.bind_some, if_true]
    rw [x5]
    have rr : cR t n (kuI C2 2 0 (nI w)) (nxS t n (nxS t n s)) := x4.u (by decide) (by decide) _ _
    obtain ⟨C3, e3, r3, q3⟩ := rr.nx
    rw [e3]
    simp only [Option.bind_some]
    have nn : mR t n (kuI M2 58 0 (nI w)) (nxS t n (nxS t n (nxS t n s))) := x8.u (by decide) (by decide) (by decide) _ _
    have qf3 : frC C C3 := ((q1.tr x9).fr.u (by omega) _ _).tr q3.fr
    have kf3 : frR M (kuI M2 58 0 (nI w)) := (k1.tr x10).fr.u (by omega) _ _
    rcases ts_j (i := 7) (lo := 0) (hi := 100) (by omega) (by omega) (by omega) r3 nn with ⟨y1, y2⟩ | ⟨C4, M4, k, s4, y1, y2, y3, y4, y5⟩ | ⟨C4, M4, dm, y1, y2, y3, y4, y5, y6, y7, y8, y9, y10⟩
    · rw [y1, show f_m11_after 7 0 100 (kuI M2 58 0 (nI w)) = _ from y2]
      simp only [Option.bind_some, Bool.false_eq_true, if_false]
      rw [kg1 (show (kuI (flM (kuI M2 58 0 (nI w)) 1 _) 58 1 (nI 0)).1 14 13 = 1 from by rw [kuI_ne _ _ _ (by decide)]; exact flM_13 _ _ _)]
      simp only [if_true]
      exact sim_fail2 (M1 := kuI M2 58 0 (nI w)) qf3 ((kf3.fl _ _).u (by omega) _ _) (by rw [kuI_ne _ _ _ (by decide)])
    · rw [y1, show f_m11_after 7 0 100 (kuI M2 58 0 (nI w)) = _ from y3]
      simp only [Option.bind_some, if_true]
      rw [show f_m7_seesWhole 0 100 C4 = _ from y2, kg1 (show (kuI (flM M4 k s4) 58 1 (nI 0)).1 14 13 = 1 from by rw [kuI_ne _ _ _ (by decide)]; exact flM_13 _ _ _)]
      simp only [Option.bind_some, Bool.false_eq_true, if_false, if_true]
      exact sim_fail2 (M1 := M4) (qf3.tr y4.fr) (((kf3.tr y5.fr).fl _ _).u (by omega) _ _) (by rw [kuI_ne _ _ _ (by decide)])
    · rw [y1, show f_m11_after 7 0 100 (kuI M2 58 0 (nI w)) = _ from y3]
      simp only [Option.bind_some, if_true]
      rw [show f_m7_seesWhole 0 100 C4 = _ from y2, kg0 (show (kuI M4 58 1 (nI dm)).1 14 13 = 0 from by rw [kuI_ne _ _ _ (by decide)]; exact y8.ok)]
      simp only [Option.bind_some, Bool.false_eq_true, if_false, if_true]
      rw [y5]
      have rr5 : cR t n (kuI C4 2 1 (nI dm)) (nxS t n (nxS t n (nxS t n (nxS t n s)))) := y4.u (by decide) (by decide) _ _
      obtain ⟨C5, e5, r5, q5⟩ := rr5.nx
      rw [e5]
      simp only [Option.bind_some]
      have g1 := nxS_ge (t := t) r1.2.1
      have g2 := nxS_ge (t := t) x4.2.1
      have g3 := nxS_ge (t := t) r3.2.1
      have g4 := nxS_ge (t := t) y4.2.1
      refine ⟨C5, _, rfl, ((qf3.tr y9.fr).u (by omega) _ _).tr q5.fr, ((kf3.tr y10.fr).u (by omega) _ _).u (by omega) _ _, Or.inl ⟨rfl, _, ?_, r5, (y8.u (by decide) (by decide) (by decide) _ _).u (by decide) (by decide) (by decide) _ _, _, _, _, _, _, DR_0 (w := w) (dm := dm) x6 x7 y7 (fun j hj => ?_) (fun j hj => ?_) (fun j hj => ?_) (fun j hj => ?_) (fun j hj => ?_)⟩⟩
      · omega
      · rw [uI_get, uI_get, y10.1 58 (by decide) (by decide), uI_get, x10.1 58 (by decide) (by decide), k1.1 58 (by decide) (by decide), hz.2.2.2.1 j hj]
        by_cases j7 : j = 7
        · rw [if_pos ⟨rfl, j7⟩, if_neg (by omega), if_neg (by omega), if_pos j7]
        · rw [if_neg (fun h => j7 h.2)]
          by_cases j1 : j = 1
          · rw [if_pos ⟨rfl, j1⟩, if_neg (by omega), if_pos j1]
          · rw [if_neg (fun h => j1 h.2)]
            by_cases j0 : j = 0
            · rw [if_pos ⟨rfl, j0⟩, if_pos j0]
            · rw [if_neg (fun h => j0 h.2), if_neg j0, if_neg j1, if_neg j7]
      · rw [kuI_ne _ _ _ (by decide), kuI_ne _ _ _ (by decide), y10.1 60 (by decide) (by decide), kuI_ne _ _ _ (by decide), x10.1 60 (by decide) (by decide), k1.1 60 (by decide) (by decide), hz.2.2.2.2 j hj]
      · rw [q5 2 (by decide), uI_get, y9 2 (by decide), q3 2 (by decide), uI_get, x9 2 (by decide), q1 2 (by decide), hz.1 j hj]
        by_cases j1 : j = 1
        · rw [if_pos ⟨rfl, j1⟩, if_neg (by omega), if_pos j1]
        · rw [if_neg (fun h => j1 h.2)]
          by_cases j0 : j = 0
          · rw [if_pos ⟨rfl, j0⟩, if_pos j0]
          · rw [if_neg (fun h => j0 h.2), if_neg j0, if_neg j1]
      · have hh : ∀ a, a ≠ 2 → a ≠ 3 → C5.1 a = C.1 a := fun a a1 a2 => by rw [q5 a a2, kuI_ne _ _ _ a1, y9 a a2, q3 a a2, kuI_ne _ _ _ a1, x9 a a2, q1 a a2]
        rw [hh 29 (by decide) (by decide), hh 30 (by decide) (by decide), hh 31 (by decide) (by decide)]
        exact hz.2.1 j hj
      · rw [q5 32 (by decide), kuI_ne _ _ _ (by decide), y9 32 (by decide), q3 32 (by decide), kuI_ne _ _ _ (by decide), x9 32 (by decide), q1 32 (by decide)]
        exact hz.2.2.1 j hj
theorem sim_head {C M : kSt} {s : Nat} (hc : cR t n C s) (hm : mR t n M s) (hz : Zr C M) : Sim t n (s + 1) C M (f_m7_readHead C) (f_m11_readLine M) := by
  have h7 := hz.2.2.2.1 7 (by omega)
  have z2 := hz.2.2.2.1 2 (by omega)
  have z4 := hz.2.2.2.1 4 (by omega)
  have z5 := hz.2.2.2.1 5 (by omega)
  have z6 := hz.2.2.2.1 6 (by omega)
  unfold f_m11_readLine
  rw [m_isWord (i := 0) (by omega) hm]
  simp only [Option.bind_some, knx_e]
  cases w0 : wq t n s 0
  · simp only [Bool.false_eq_true, if_false]
    rw [z2, if_neg (show ¬ (5 : Int32) ≤ 0 by decide)]
    unfold f_m7_readHead
    rw [c_isWord (i := 0) (by omega) hc, w0]
    simp only [Option.bind_some, Bool.false_eq_true, if_false, knx_e]
    rw [c_head hc]
    simp only [Option.bind_some]
    unfold hdB
    rw [w0, Bool.false_or]
    have hf6 : ∀ (i : Nat), ((f_m7_found 6 C).bind fun q19 => some (q19.1, q19.2)) = some (false, fdC C 6 s) := fun _ => by rw [bE2]; exact c_found hc 6
    cases w1 : wq t n s 1
    · rw [m_beg0 (by omega) hm w1, Bool.false_or]
      simp only [Option.bind_some, Bool.false_eq_true, if_false]
      cases w2 : wq t n s 2
      · rw [m_beg0 (by omega) hm w2, Bool.false_or]
        simp only [Option.bind_some, Bool.false_eq_true, if_false]
        rw [z4, if_neg (show ¬ (10 : Int32) ≤ 0 by decide)]
        cases w3 : wq t n s 3
        · rw [m_beg0 (by omega) hm w3, Bool.false_or]
          simp only [Option.bind_some, Bool.false_eq_true, if_false]
          rw [z5, if_neg (show ¬ (4 : Int32) ≤ 0 by decide)]
          cases w4 : wq t n s 4
          · rw [m_beg0 (by omega) hm w4, Bool.false_or]
            simp only [Option.bind_some, Bool.false_eq_true, if_false]
            rw [z6, if_neg (show ¬ (8 : Int32) ≤ 0 by decide)]
            cases w5 : wq t n s 5
            · rw [m_beg0 (by omega) hm w5]
              simp only [Option.bind_some, Bool.false_eq_true, if_false]
              rw [show f_m7_found 1 C = _ from c_found hc 1, hm.at, show f_m11_wrong 1 (nI s) M = _ from m_wrg hm.ok 1 s]
              simp only [Option.bind_some]
              exact sim_fail frC.rf frR.rf 1 s
            · rw [m_beg6 (by omega) hm w5 h7]
              simp only [Option.bind_some, if_true]
              rw [hf6 0, bE1, lf_heard (flM_13 _ _ _)]
              exact sim_fail frC.rf frR.rf 6 s
          · rw [m_beg6 (by omega) hm w4 h7, Bool.true_or]
            simp only [Option.bind_some, if_true]
            rw [hf6 0, bE1, lf_unsure (flM_13 _ _ _)]
            exact sim_fail frC.rf frR.rf 6 s
        · rw [m_beg6 (by omega) hm w3 h7, Bool.true_or, Bool.true_or]
          simp only [Option.bind_some, if_true]
          rw [hf6 0, bE1, lf_debt (flM_13 _ _ _)]
          exact sim_fail frC.rf frR.rf 6 s
      · rw [m_beg6 (by omega) hm w2 h7, Bool.true_or, Bool.true_or, Bool.true_or]
        simp only [Option.bind_some, if_true]
        rw [hf6 0, bE1, lf_contract (flM_13 _ _ _)]
        exact sim_fail frC.rf frR.rf 6 s
    · rw [m_beg6 (by omega) hm w1 h7, Bool.true_or, Bool.true_or, Bool.true_or, Bool.true_or]
      simp only [Option.bind_some, if_true]
      rw [hf6 0, bE1, lf_pair (flM_13 _ _ _)]
      exact sim_fail frC.rf frR.rf 6 s
  · simp only [if_true]
    rw [bE1]
    exact sim_head1 hc hm hz w0
theorem sim_loop (K1 K2 : kSt → Option (Bool × kSt)) (K : kSt → Option (Int32 × kSt)) : ∀ (d s line fuC fuM : Nat) (C M : kSt), n - s ≤ d → d < fuC → d < fuM → line ≤ s → cR t n C s → mR t n M s → (∃ P U H aS aL, DR t n P U H aS aL C M) → ∃ C' M', frC C C' ∧ frR M M' ∧ ((f_m7_read_L55 K1 K2 fuC (nI line) C = K2 C' ∧ f_m11_pier_L97 K fuM M = K M' ∧ ∃ s', cR t n C' s' ∧ mR t n M' s' ∧ ¬ lexK t n s' = 3 ∧ ∃ P U H aS aL, DR t n P U H aS aL C' M') ∨ (f_m7_read_L55 K1 K2 fuC (nI line) C = K1 C' ∧ f_m11_pier_L97 K fuM M = K M' ∧ Fail C' M')) := by
  intro d
  induction d with
  | zero =>
    intro s line fuC fuM C M hd hfC hfM hl hc hm hD
    obtain ⟨fuC, rfl⟩ : ∃ m, fuC = m + 1 := ⟨fuC - 1, by omega⟩
    obtain ⟨fuM, rfl⟩ : ∃ m, fuM = m + 1 := ⟨fuM - 1, by omega⟩
    have h4 := lexK_4 (t := t) (n := n) s
    have ht := tkM_2 _ h4
    have h3 : ¬ lexK t n s = 3 := fun q => by have := (lexK_3 q).1; omega
    refine ⟨C, M, frC.rf, frR.rf, Or.inl ⟨?_, ?_, s, hc, hm, h3, hD⟩⟩
    · rw [f_m7_read_L55, hc.2.2.2.2.1]
      by_cases q : (900 : Int32) ≤ nI line
      · rw [if_pos q]
      · rw [if_neg q, if_neg (show ¬ nI (lexK t n s) = 3 from fun h => h3 ((nI_eq (b := 3) (by omega) (by omega)).mp h))]
    · rw [f_m11_pier_L97, kg0 hm.ok, hm.2.2.2.2.1]
      simp only [Bool.false_eq_true, if_false]
      rw [if_neg (show ¬ nI (tkM (lexK t n s)) = 59 from fun h => h3 (ht.2.2.1.mp ((nI_eq (b := 59) (by omega) (by omega)).mp h)))]
  | succ d ih =>
    intro s line fuC fuM C M hd hfC hfM hl hc hm hD
    obtain ⟨fuC, rfl⟩ : ∃ m, fuC = m + 1 := ⟨fuC - 1, by omega⟩
    obtain ⟨fuM, rfl⟩ : ∃ m, fuM = m + 1 := ⟨fuM - 1, by omega⟩
    have h4 := lexK_4 (t := t) (n := n) s
    have ht := tkM_2 _ h4
    by_cases h3 : lexK t n s = 3
    · have hl3 := lexK_3 h3
      have hn := hc.1.2.1
      have hnx := (nxS_b (t := t) hc.2.1).1
      obtain ⟨C1, e1, r1, q1⟩ := hc.nx
      obtain ⟨M1, m1, n1, k1⟩ := hm.nx
      obtain ⟨P, U, H, aS, aL, hD⟩ := hD
      have hD1 : DR t n P U H aS aL C1 M1 := hD.c (fun a ha => q1 a (by omega)) (k1.1 58 (by decide) (by decide)) (k1.1 60 (by decide) (by decide))
      obtain ⟨C2, M2, x1, x2, x3, x4⟩ := sim_line r1 n1 hD1
      have eC : f_m7_read_L55 K1 K2 (fuC + 1) (nI line) C = (f_m7_readLine C1).bind fun q12 => if q12.1 = true then f_m7_read_L55 K1 K2 fuC (nI (line + 1)) q12.2 else K1 q12.2 := by
        rw [f_m7_read_L55, if_neg (show ¬ (900 : Int32) ≤ nI line from nI_ge (b := 900) (by omega) (by omega)), hc.2.2.2.2.1, if_pos (show nI (lexK t n s) = 3 from by rw [h3]; rfl), e1]
        simp only [Option.bind_some, knx_e, nI_1]
      have eM : f_m11_pier_L97 K (fuM + 1) M = f_m11_pier_L97 K fuM M2 := by
        rw [f_m11_pier_L97, kg0 hm.ok, hm.2.2.2.2.1]
        simp only [Bool.false_eq_true, if_false]
        rw [if_pos (show nI (tkM (lexK t n s)) = 59 from by rw [h3]; rfl), m1]
        simp only [Option.bind_some]
        rw [x1]
        rfl
      rw [eC, eM]
      rcases x4 with ⟨y1, s', y2, y3, y4, y5⟩ | ⟨y1, y2⟩
      · rw [y1]
        simp only [Option.bind_some, if_true]
        obtain ⟨C3, M3, z1, z2, z3⟩ := ih s' (line + 1) fuC fuM C2 M2 (by omega) (by omega) (by omega) (by omega) y3 y4 y5
        exact ⟨C3, M3, (q1.fr.tr x2).tr z1, (k1.fr.tr x3).tr z2, z3⟩
      · rw [y1]
        simp only [Option.bind_some, Bool.false_eq_true, if_false]
        obtain ⟨fuM, rfl⟩ : ∃ m, fuM = m + 1 := ⟨fuM - 1, by omega⟩
        refine ⟨C2, M2, q1.fr.tr x2, k1.fr.tr x3, Or.inr ⟨rfl, ?_, y2⟩⟩
        obtain ⟨-, -, -, -, a3, -⟩ := y2
        rw [f_m11_pier_L97, kg1 a3]
        simp only [if_true]
    · refine ⟨C, M, frC.rf, frR.rf, Or.inl ⟨?_, ?_, s, hc, hm, h3, hD⟩⟩
      · rw [f_m7_read_L55, hc.2.2.2.2.1]
        by_cases q : (900 : Int32) ≤ nI line
        · rw [if_pos q]
        · rw [if_neg q, if_neg (show ¬ nI (lexK t n s) = 3 from fun h => h3 ((nI_eq (b := 3) (by omega) (by omega)).mp h))]
      · rw [f_m11_pier_L97, kg0 hm.ok, hm.2.2.2.2.1]
        simp only [Bool.false_eq_true, if_false]
        rw [if_neg (show ¬ nI (tkM (lexK t n s)) = 59 from fun h => h3 (ht.2.2.1.mp ((nI_eq (b := 59) (by omega) (by omega)).mp h)))]
end RD
