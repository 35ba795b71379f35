-- a line, the head
section LI7
variable {t : Nat → Nat} {n : Nat}
theorem wd_ne : ∀ i, i < 6 → ∀ j, j < 6 → i ≠ j → kLen.getD i 0 ≠ kLen.getD j 0 ∨ ∃ k, k < kLen.getD i 0 ∧ wBy i k ≠ wBy j k := by decide +kernel
theorem wq_1 {s i j : Nat} (hi : i < 6) (hj : j < 6) (hij : i ≠ j) (h : wq t n s i = true) : wq t n s j = false := by
  cases hq : wq t n s j
  · rfl
  · exfalso
    obtain ⟨a1, a2, a3⟩ := of_decide_eq_true h
    obtain ⟨b1, b2, b3⟩ := of_decide_eq_true hq
    rcases wd_ne i hi j hj hij with q | ⟨k, k1, k2⟩
    · omega
    · exact k2 (by rw [← a3 k k1, ← b3 k (by omega)])
theorem bE2 {o : Option (Bool × kSt)} : (o.bind fun q => some (q.1, q.2)) = o := by cases o <;> rfl
theorem bE1 {o : Option kSt} : (o.bind fun q => some q) = o := by cases o <;> rfl
theorem lf_pair {F : kSt} (h : F.1 14 13 = 1) : f_m11_pairLine F = some F := by
  unfold f_m11_pairLine
  rw [kg1 h]
  rfl
theorem lf_unsure {F : kSt} (h : F.1 14 13 = 1) : f_m11_unsureLine F = some F := by
  unfold f_m11_unsureLine
  rw [kg1 h]
  rfl
theorem lf_heard {F : kSt} (h : F.1 14 13 = 1) : f_m11_heardLine F = some F := by
  unfold f_m11_heardLine
  rw [kg1 h]
  rfl
theorem lf_contract {F : kSt} (h : F.1 14 13 = 1) : f_m11_contractLine F = some F := by
  unfold f_m11_contractLine
  rw [mf_pairHere h]
  simp only [Option.bind_some, knx_e]
  rw [kg1 h]
  simp only [if_true]
  rw [mf_pass h]
  simp only [Option.bind_some]
  rw [mf_after h]
  simp only [Option.bind_some]
  rw [kg1 h]
  rfl
theorem lf_debt {F : kSt} (h : F.1 14 13 = 1) : f_m11_debtLine F = some F := by
  unfold f_m11_debtLine
  rw [mf_pairHere h]
  simp only [Option.bind_some, knx_e]
  rw [mf_pass h]
  simp only [Option.bind_some]
  rw [mf_pairHere h]
  simp only [Option.bind_some]
  rw [kg1 h]
  simp only [if_true]
  rw [mf_pass h]
  simp only [Option.bind_some]
  rw [mf_num h]
  simp only [Option.bind_some]
  rw [kg1 h]
  rfl
theorem m_beg0 {M : kSt} {s i : Nat} {b : Bool} (hi : i < 16) (h : mR t n M s) (hw : wq t n s i = false) : f_m11_begins i b M = some (false, M) := by
  unfold f_m11_begins
  rw [m_isWord hi h, hw]
  rfl
theorem m_beg1 {M : kSt} {s i : Nat} (hi : i < 16) (h : mR t n M s) (hw : wq t n s i = true) (h7 : M.1 58 7 = 1) : ∃ M', f_m11_begins i true M = some (true, M') ∧ mR t n M' (nxS t n s) ∧ eqM M M' := by
  obtain ⟨M', e1, e2, e3⟩ := m_pass h
  unfold f_m11_begins
  rw [m_isWord hi h, hw]
  simp only [Option.bind_some, knx_e, if_true]
  rw [h7, if_neg (by decide), e1]
  exact ⟨M', rfl, e2, e3⟩
theorem m_beg5 {M : kSt} {s i : Nat} (hi : i < 16) (h : mR t n M s) (hw : wq t n s i = true) (h7 : M.1 58 7 = 1) : f_m11_begins i false M = some (true, flM M 5 s) := by
  unfold f_m11_begins
  rw [m_isWord hi h, hw]
  simp only [Option.bind_some, knx_e, if_true, Bool.false_eq_true, if_false]
  rw [h.at, show f_m11_wrong 5 (nI s) M = _ from m_wrg h.ok 5 s]
  simp only [Option.bind_some]
  rw [flM_58, h7, if_neg (by decide), mf_pass (flM_13 _ _ _)]
  rfl
theorem m_beg6 {M : kSt} {s i : Nat} (hi : i < 16) (h : mR t n M s) (hw : wq t n s i = true) (h7 : M.1 58 7 = 0) : f_m11_begins i true M = some (true, flM M 6 s) := by
  unfold f_m11_begins
  rw [m_isWord hi h, hw]
  simp only [Option.bind_some, knx_e, if_true]
  rw [h7, if_pos rfl, h.at, show f_m11_wrong 6 (nI s) M = _ from m_wrg h.ok 6 s]
  simp only [Option.bind_some]
  rw [mf_pass (flM_13 _ _ _)]
  rfl
theorem Sim.m {s0 : Nat} {C M M1 : kSt} {oc : Option (Bool × kSt)} {om : Option kSt} (hM : eqM M M1) (h : Sim t n s0 C M1 oc om) : Sim t n s0 C M oc om := by
  obtain ⟨C', M', h1, h2, h3, h4⟩ := h
  exact ⟨C', M', h1, h2, hM.fr.tr h3, h4⟩
theorem many_c {k : Nat} (hk : k ≤ 8) {P : Nat} (hP : P ≤ 8) : (if nI k ≤ nI P then false else true) = decide (P < k) := by
  by_cases h : P < k
  · rw [if_neg (nI_ge h (by omega)), decide_eq_true h]
  · rw [if_pos (nI_le (by omega) (by omega)), decide_eq_false h]
theorem sim_line {C M : kSt} {s P U H : Nat} {aS aL : Nat → Nat} (hc : cR t n C s) (hm : mR t n M s) (hd : DR t n P U H aS aL C M) : Sim t n s C M (f_m7_readLine C) (f_m11_readLine M) := by
  obtain ⟨⟨hP5, h582⟩, ⟨hU4, h585⟩, ⟨hH8, h586⟩, h2, -, -, h7⟩ := hd.1
  have h22 : C.1 2 2 = nI P := by rw [h2 2 (by omega)]; exact h582
  have h24 : C.1 2 4 = M.1 58 4 := h2 4 (by omega)
  have h25 : C.1 2 5 = nI U := by rw [h2 5 (by omega)]; exact h585
  have h26 : C.1 2 6 = nI H := by rw [h2 6 (by omega)]; exact h586
  have c0 := c_isWord (i := 0) (by omega) hc
  have c1 := c_isWord (i := 1) (by omega) hc
  have c2 := c_isWord (i := 2) (by omega) hc
  have c3 := c_isWord (i := 3) (by omega) hc
  have c4 := c_isWord (i := 4) (by omega) hc
  have c5 := c_isWord (i := 5) (by omega) hc
  have dM : ∀ M1, eqM M M1 → DR t n P U H aS aL C M1 := fun M1 h => hd.c (fun _ _ => rfl) (h.1 58 (by decide) (by decide)) (h.1 60 (by decide) (by decide))
  unfold f_m7_readLine f_m11_readLine
  simp only [c0, c1, c2, c3, c4, c5, Option.bind_some, knx_e]
  rw [m_isWord (i := 0) (by omega) hm]
  simp only [Option.bind_some]
  cases w0 : wq t n s 0
  · simp only [Bool.false_eq_true, if_false]
    rw [h582]
    cases w1 : wq t n s 1
    · rw [m_beg0 (by omega) hm w1]
      simp only [Option.bind_some, Bool.false_eq_true, if_false]
      cases w2 : wq t n s 2
      · rw [m_beg0 (by omega) hm w2]
        simp only [Option.bind_some, Bool.false_eq_true, if_false]
        cases w3 : wq t n s 3
        · rw [m_beg0 (by omega) hm w3]
          simp only [Option.bind_some, Bool.false_eq_true, if_false]
          rw [h585]
          cases w4 : wq t n s 4
          · rw [m_beg0 (by omega) hm w4]
            simp only [Option.bind_some, Bool.false_eq_true, if_false]
            rw [h586]
            cases w5 : wq t n s 5
            · rw [m_beg0 (by omega) hm w5]
              simp only [Option.bind_some, Bool.false_eq_true, if_false]
              rw [show f_m7_found 1 C = _ from c_found hc 1, hm.at, show f_m11_wrong 1 (nI s) M = _ from m_wrg hm.ok 1 s]
              simp only [Option.bind_some]
              exact sim_fail frC.rf frR.rf 1 s
            · simp only [if_true]
              rw [bE2, show (8 : Int32) = nI 8 from rfl, many_c (by omega) (by omega)]
              by_cases q : H < 8
              · obtain ⟨M1, e1, e2, e3⟩ := m_beg1 (i := 5) (by omega) hm w5 h7
                rw [decide_eq_true q, e1]
                simp only [Option.bind_some, if_true]
                rw [bE1]
                exact (sim_heard hc e2 (dM M1 e3) q).m e3
              · rw [decide_eq_false q, m_beg5 (i := 5) (by omega) hm w5 h7]
                simp only [Option.bind_some, if_true]
                rw [bE1, lf_heard (flM_13 _ _ _)]
                unfold f_m7_readHeard
                simp only [knx_e]
                rw [h26, if_neg (show ¬ nI H < (8 : Int32) from nI_nlt (b := 8) (by omega) (by omega)), show f_m7_found 5 C = _ from c_found hc 5]
                simp only [Option.bind_some]
                exact sim_fail frC.rf frR.rf 5 s
          · simp only [if_true]
            rw [bE2, show (4 : Int32) = nI 4 from rfl, many_c (by omega) (by omega)]
            by_cases q : U < 4
            · obtain ⟨M1, e1, e2, e3⟩ := m_beg1 (i := 4) (by omega) hm w4 h7
              rw [decide_eq_true q, e1]
              simp only [Option.bind_some, if_true]
              rw [bE1]
              exact (sim_unsure hc e2 (dM M1 e3) q).m e3
            · rw [decide_eq_false q, m_beg5 (i := 4) (by omega) hm w4 h7]
              simp only [Option.bind_some, if_true]
              rw [bE1, lf_unsure (flM_13 _ _ _)]
              unfold f_m7_readUnsure
              simp only [knx_e]
              rw [h25, if_neg (show ¬ nI U < (4 : Int32) from nI_nlt (b := 4) (by omega) (by omega)), show f_m7_found 5 C = _ from c_found hc 5]
              simp only [Option.bind_some]
              exact sim_fail frC.rf frR.rf 5 s
        · simp only [if_true]
          rw [bE2]
          by_cases q : C.1 2 4 < 10
          · obtain ⟨M1, e1, e2, e3⟩ := m_beg1 (i := 3) (by omega) hm w3 h7
            rw [if_neg (show ¬ (10 : Int32) ≤ M.1 58 4 from by rw [← h24]; exact Int32.not_le.mpr q), e1]
            simp only [Option.bind_some, if_true]
            rw [bE1]
            exact (sim_debt hc e2 (dM M1 e3) q).m e3
          · rw [if_pos (show (10 : Int32) ≤ M.1 58 4 from by rw [← h24]; exact Int32.not_lt.mp q), m_beg5 (i := 3) (by omega) hm w3 h7]
            simp only [Option.bind_some, if_true]
            rw [bE1, lf_debt (flM_13 _ _ _)]
            unfold f_m7_readDebt
            rw [if_neg q, show f_m7_found 5 C = _ from c_found hc 5]
            simp only [Option.bind_some]
            exact sim_fail frC.rf frR.rf 5 s
      · simp only [if_true]
        obtain ⟨M1, e1, e2, e3⟩ := m_beg1 (i := 2) (by omega) hm w2 h7
        rw [bE2, e1]
        simp only [Option.bind_some, if_true]
        rw [bE1]
        exact (sim_contract hc e2 (dM M1 e3)).m e3
    · simp only [if_true]
      rw [bE2, show (5 : Int32) = nI 5 from rfl, many_c (by omega) (by omega)]
      by_cases q : P < 5
      · obtain ⟨M1, e1, e2, e3⟩ := m_beg1 (i := 1) (by omega) hm w1 h7
        rw [decide_eq_true q, e1]
        simp only [Option.bind_some, if_true]
        rw [bE1]
        exact (sim_pair hc e2 (dM M1 e3) q).m e3
      · rw [decide_eq_false q, m_beg5 (i := 1) (by omega) hm w1 h7]
        simp only [Option.bind_some, if_true]
        rw [bE1, lf_pair (flM_13 _ _ _)]
        unfold f_m7_readPair
        simp only [knx_e]
        rw [h22, if_neg (show ¬ nI P < (5 : Int32) from nI_nlt (b := 5) (by omega) (by omega)), show f_m7_found 5 C = _ from c_found hc 5]
        simp only [Option.bind_some]
        exact sim_fail frC.rf frR.rf 5 s
  · rw [wq_1 (j := 1) (by omega) (by omega) (by decide) w0, wq_1 (j := 2) (by omega) (by omega) (by decide) w0, wq_1 (j := 3) (by omega) (by omega) (by decide) w0, wq_1 (j := 4) (by omega) (by omega) (by decide) w0, wq_1 (j := 5) (by omega) (by omega) (by decide) w0]
    simp only [Bool.false_eq_true, if_false, if_true]
    rw [bE1, show f_m7_found 3 C = _ from c_found hc 3]
    unfold f_m11_pierLine
    simp only [knx_e, Option.bind_some]
    rw [h7, if_neg (by decide), hm.at, show f_m11_wrong 3 (nI s) M = _ from m_wrg hm.ok 3 s]
    simp only [Option.bind_some]
    rw [kg1 (flM_13 _ _ _)]
    simp only [if_true]
    exact sim_fail frC.rf frR.rf 3 s
end LI7
