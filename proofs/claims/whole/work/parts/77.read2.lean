-- read, and what the reference does behind it
section RD2
variable {t : Nat → Nat} {n : Nat}
def rT3 (S28 : kSt) : Option (Int32 × kSt) := kgb (S28.1 14 13) fun b29 => if b29 = true then some (-1, kuI S28 14 11 4) else (f_m11_copy 58 95 0 57 95 0 95 S28).bind fun q31 => (f_m11_copy 60 36 0 59 36 0 36 q31).bind fun q32 => (f_m11_copy 60 36 0 61 36 0 36 q32).bind fun q33 => some ((kuI (kuI (kuI q33 14 14 (kb true)) 14 22 0) 14 23 0).1 57 2, kuI (kuI (kuI q33 14 14 (kb true)) 14 22 0) 14 23 0)
def rT2 (S26 : kSt) : Option (Int32 × kSt) := kgb (S26.1 14 13) fun b27 => if b27 = true then rT3 S26 else if (S26.1 58 7) = 0 then (f_m11_wrong 6 (S26.1 14 4) S26).bind fun q40 => rT3 q40 else if (S26.1 58 2) = 0 then (f_m11_wrong 6 (S26.1 14 4) S26).bind fun q40 => rT3 q40 else rT3 S26
def rT (S24 : kSt) : Option (Int32 × kSt) := kgb (S24.1 14 13) fun b25 => if b25 = true then rT2 S24 else if (S24.1 14 6) = 0 then rT2 S24 else (f_m11_wrong 1 (S24.1 14 4) S24).bind fun q45 => rT2 q45
theorem pier_e (a1 : Int32) (S : kSt) : f_m11_pier a1 S = if decide (0 ≤ a1 ∧ a1 ≤ (kG0 S).1 14 2) = true then f_m11_pier_L39 (fun S10 => f_m11_pier_L60 (fun S14 => (f_m11_next (kuI (kuI S14 14 3 a1) 14 5 0)).bind fun q17 => (f_m11_readLine q17).bind fun q18 => f_m11_pier_L97 rT kFU q18) a1 kFU 0 S10) a1 kFU 0 (kuI (kuI (kuI (kG0 S) 14 2 0) 14 9 0) 14 13 (kb false)) else some (-1, kuI (kG0 S) 14 11 2) := by
  have hT : rT = fun (S24 : kSt) => kgb (S24.1 14 13) fun b25 => if b25 = true then rT2 S24 else if (S24.1 14 6) = 0 then rT2 S24 else (f_m11_wrong 1 (S24.1 14 4) S24).bind fun q45 => rT2 q45 := rfl
  rw [hT]
  unfold f_m11_pier
  rw [m_good]
  simp only [Option.bind_some, m_in, knx_e, rT2, rT3, m_no]
theorem rT_F {F : kSt} (h : F.1 14 13 = 1) : rT F = some (-1, kuI F 14 11 4) := by
  unfold rT
  rw [kg1 h]
  simp only [if_true]
  unfold rT2
  rw [kg1 h]
  simp only [if_true]
  unfold rT3
  rw [kg1 h]
  simp only [if_true]
theorem c_clear (S : kSt) : ∃ T, f_m5_clear_d S = some T ∧ (∀ j, j < 7 → T.1 2 j = 0) ∧ (∀ j, j < 5 → T.1 29 j = 0 ∧ T.1 30 j = 0 ∧ T.1 31 j = 0) ∧ (∀ j, j < 25 → T.1 32 j = 0) ∧ ∀ a, a ≠ 2 → ¬ (28 ≤ a ∧ a ≤ 39) → T.1 a = S.1 a := by
  unfold f_m5_clear_d
  simp only [knx_e]
  have h2 : ∀ j, j < 7 → (kuI (kuI (kuI (kuI (kuI (kuI (kuI S 2 0 0) 2 1 0) 2 2 0) 2 3 0) 2 4 0) 2 5 0) 2 6 0).1 2 j = 0 := by
    intro j hj
    rcases (show j = 0 ∨ j = 1 ∨ j = 2 ∨ j = 3 ∨ j = 4 ∨ j = 5 ∨ j = 6 by omega) with rfl | rfl | rfl | rfl | rfl | rfl | rfl <;> simp [uI_get]
  have hx : ∀ a, a ≠ 2 → (kuI (kuI (kuI (kuI (kuI (kuI (kuI S 2 0 0) 2 1 0) 2 2 0) 2 3 0) 2 4 0) 2 5 0) 2 6 0).1 a = S.1 a := fun a ha => by rw [kuI_ne _ _ _ ha, kuI_ne _ _ _ ha, kuI_ne _ _ _ ha, kuI_ne _ _ _ ha, kuI_ne _ _ _ ha, kuI_ne _ _ _ ha, kuI_ne _ _ _ ha]
  generalize kuI (kuI (kuI (kuI (kuI (kuI (kuI S 2 0 0) 2 1 0) 2 2 0) 2 3 0) 2 4 0) 2 5 0) 2 6 0 = D at *
  obtain ⟨T1, a1, a2, a3, -⟩ := c_fill (S := D) (w := 29) (n := 5) 0 (by omega)
  obtain ⟨T2, b1, b2, b3, -⟩ := c_fill (S := T1) (w := 30) (n := 5) 0 (by omega)
  obtain ⟨T3, c1, c2, c3, -⟩ := c_fill (S := T2) (w := 31) (n := 5) 0 (by omega)
  obtain ⟨T4, d1, d2, d3, -⟩ := c_fill (S := T3) (w := 32) (n := 25) 0 (by omega)
  rw [a1]
  simp only [Option.bind_some]
  rw [b1]
  simp only [Option.bind_some]
  rw [c1]
  simp only [Option.bind_some]
  rw [d1]
  refine ⟨T4, rfl, fun j hj => ?_, fun j hj => ⟨?_, ?_, ?_⟩, d3, fun a h1 h2 => ?_⟩
  · rw [d2.1 2 (by decide), c2.1 2 (by decide), b2.1 2 (by decide), a2.1 2 (by decide)]
    exact h2 j hj
  · rw [d2.1 29 (by decide), c2.1 29 (by decide), b2.1 29 (by decide)]
    exact a3 j hj
  · rw [d2.1 30 (by decide), c2.1 30 (by decide)]
    exact b3 j hj
  · rw [d2.1 31 (by decide)]
    exact c3 j hj
  · rw [d2.1 a (by omega), c2.1 a (by omega), b2.1 a (by omega), a2.1 a (by omega), hx a h1]
theorem sim_read {C M0 : kSt} (hT : ∀ j, j < 900 → t j ≤ 255 ∧ C.1 15 j = sg (t j)) (hn : n ≤ 900) (hM : mT t n M0) (h5 : M0.1 14 5 = nI 0) (h9 : M0.1 14 9 = 0) (h13 : M0.1 14 13 = 0) (z58 : ∀ j, j < 95 → M0.1 58 j = 0) (z60 : ∀ j, j < 36 → M0.1 60 j = 0) :
    ∃ b C' M', f_m7_read (nI n) C = some (b, C') ∧ frC C C' ∧ frR M0 M' ∧
      ((b = true ∧ ((f_m11_next M0).bind fun q17 => (f_m11_readLine q17).bind fun q18 => f_m11_pier_L97 rT kFU q18) = rT M' ∧ C'.1 3 9 = 0 ∧ M'.1 14 13 = 0 ∧ M'.1 14 9 = 0 ∧ M'.1 14 6 = 0 ∧ ∃ P U H aS aL, 1 ≤ P ∧ DR t n P U H aS aL C' M') ∨
       (b = false ∧ ((f_m11_next M0).bind fun q17 => (f_m11_readLine q17).bind fun q18 => f_m11_pier_L97 rT kFU q18) = some (-1, kuI M' 14 11 4) ∧ Fail C' M')) := by
  have hF := kFU_big
  obtain ⟨D, hD, hz2, hz29, hz32, hDx⟩ := c_clear C
  have hkm : kmin (nI n) (Int32.ofNat 900) = nI n := by
    rw [show Int32.ofNat 900 = nI 900 from rfl, kmin_nI (by omega) (by omega), Nat.min_eq_left hn]
  have e15 : (kuI (kuI (kuI (kuI D 3 1 (nI n)) 3 2 0) 3 9 0) 3 10 0).1 15 = C.1 15 := by rw [kuI_ne _ _ _ (by decide), kuI_ne _ _ _ (by decide), kuI_ne _ _ _ (by decide), kuI_ne _ _ _ (by decide), hDx 15 (by decide) (by omega)]
  have e31 : (kuI (kuI (kuI (kuI D 3 1 (nI n)) 3 2 0) 3 9 0) 3 10 0).1 3 1 = nI n := by rw [uI_no _ _ (by omega), uI_no _ _ (by omega), uI_no _ _ (by omega), uI_at]
  have e32 : (kuI (kuI (kuI (kuI D 3 1 (nI n)) 3 2 0) 3 9 0) 3 10 0).1 3 2 = nI 0 := by rw [uI_no _ _ (by omega), uI_no _ _ (by omega), uI_at]; rfl
  have e39 : (kuI (kuI (kuI (kuI D 3 1 (nI n)) 3 2 0) 3 9 0) 3 10 0).1 3 9 = 0 := by rw [uI_no _ _ (by omega), uI_at]
  have ex : ∀ a, a ≠ 3 → (kuI (kuI (kuI (kuI D 3 1 (nI n)) 3 2 0) 3 9 0) 3 10 0).1 a = D.1 a := fun a ha => by rw [kuI_ne _ _ _ ha, kuI_ne _ _ _ ha, kuI_ne _ _ _ ha, kuI_ne _ _ _ ha]
  have eR : f_m7_read (nI n) C = (f_m7_next (kuI (kuI (kuI (kuI D 3 1 (nI n)) 3 2 0) 3 9 0) 3 10 0)).bind fun q6 => (f_m7_readHead q6).bind fun q7 => if q7.1 = true then f_m7_read_L55 (fun (S15 : kSt) => some (false, S15)) (fun (S16 : kSt) => if (S16.1 3 3) = 0 then (if 0 < (S16.1 2 2) then some (true, S16) else (f_m7_found 6 S16).bind fun q20 => if q20.1 = true then some (true, q20.2) else some (false, q20.2)) else (f_m7_found 1 S16).bind fun q22 => some (q22.1, q22.2)) kFU 1 q7.2 else some (false, q7.2) := by
    unfold f_m7_read
    rw [hD]
    simp only [Option.bind_some, knx_e]
    rw [hkm]
  rw [eR]
  generalize kuI (kuI (kuI (kuI D 3 1 (nI n)) 3 2 0) 3 9 0) 3 10 0 = C0 at *
  have hcT : cT t n C0 := ⟨fun j hj => by rw [e15]; exact hT j hj, hn, e31⟩
  obtain ⟨C1, f1, r1, q1⟩ := c_nxt hcT (show 0 ≤ n by omega) e32 e39
  obtain ⟨M1, m1, n1, k1⟩ := m_next hM (show 0 ≤ n by omega) h5 h9 h13
  rw [f1, m1]
  simp only [Option.bind_some]
  have fC1 : frC C C1 := fun a a2 a3 a4 => by rw [q1 a a3, ex a a3, hDx a a2 a4]
  have hz : Zr C1 M1 := ⟨fun j hj => by rw [q1 2 (by decide), ex 2 (by decide)]; exact hz2 j hj, fun j hj => by rw [q1 29 (by decide), ex 29 (by decide), q1 30 (by decide), ex 30 (by decide), q1 31 (by decide), ex 31 (by decide)]; exact hz29 j hj, fun j hj => by rw [q1 32 (by decide), ex 32 (by decide)]; exact hz32 j hj, fun j hj => by rw [k1.1 58 (by decide) (by decide)]; exact z58 j hj, fun j hj => by rw [k1.1 60 (by decide) (by decide)]; exact z60 j hj⟩
  obtain ⟨C2, M2, x1, x2, x3, x4⟩ := sim_head r1 n1 hz
  rw [x1]
  simp only [Option.bind_some]
  rcases x4 with ⟨y1, s', y2, y3, y4, y5⟩ | ⟨y1, y2⟩
  · rw [y1]
    simp only [Option.bind_some, if_true]
    obtain ⟨C3, M3, z1, z2, z3⟩ := sim_loop (fun (S15 : kSt) => some (false, S15)) (fun (S16 : kSt) => if (S16.1 3 3) = 0 then (if 0 < (S16.1 2 2) then some (true, S16) else (f_m7_found 6 S16).bind fun q20 => if q20.1 = true then some (true, q20.2) else some (false, q20.2)) else (f_m7_found 1 S16).bind fun q22 => some (q22.1, q22.2)) rT n s' 1 kFU kFU C2 M2 (by omega) (by omega) (by omega) (by omega) y3 y4 y5
    have fC3 : frC C C3 := (fC1.tr x2).tr z1
    have fM3 : frR M0 M3 := (k1.fr.tr x3).tr z2
    rcases z3 with ⟨w1, w2, s3, w3, w4, w5, P, U, H, aS, aL, w6⟩ | ⟨w1, w2, w3⟩
    · rw [show f_m7_read_L55 _ _ kFU 1 C2 = _ from w1, w2]
      have h4 := lexK_4 (t := t) (n := n) s3
      have ht := tkM_2 _ h4
      have hP := w6.1.1.1
      have h582 := w6.1.1.2
      have h22 : C3.1 2 2 = nI P := by rw [w6.1.2.2.2.1 2 (by omega)]; exact h582
      rw [w3.2.2.2.2.1, kite (show nI (lexK t n s3) = 0 ↔ lexK t n s3 = 0 from nI_eq (b := 0) (by omega) (by omega)), h22]
      by_cases hK : lexK t n s3 = 0
      · rw [if_pos hK]
        by_cases hP0 : P = 0
        · subst hP0
          refine ⟨false, fdC C3 6 s3, flM M3 6 s3, ?_, fC3.fd _ _, fM3.fl _ _, Or.inr ⟨rfl, ?_, fail_of _ _ _ _⟩⟩
          · rw [if_neg (by decide), show f_m7_found 6 C3 = _ from c_found w3 6]
            rfl
          · unfold rT
            rw [kg0 w4.ok, w4.2.2.2.2.1, hK]
            simp only [Bool.false_eq_true, if_false]
            rw [if_pos (show nI (tkM 0) = 0 from rfl)]
            unfold rT2
            rw [kg0 w4.ok, w6.1.2.2.2.2.2.2, h582]
            simp only [Bool.false_eq_true, if_false]
            rw [if_neg (by decide), if_pos (show nI 0 = 0 from rfl), w4.at, show f_m11_wrong 6 (nI s3) M3 = _ from m_wrg w4.ok 6 s3]
            simp only [Option.bind_some]
            unfold rT3
            rw [kg1 (flM_13 _ _ _)]
            simp only [if_true]
        · refine ⟨true, C3, M3, ?_, fC3, fM3, Or.inl ⟨rfl, rfl, w3.2.2.2.2.2.2, w4.ok, w4.2.2.2.2.2.2.2.1, by rw [w4.2.2.2.2.1, hK]; rfl, P, U, H, aS, aL, by omega, w6⟩⟩
          rw [if_pos (show (0 : Int32) < nI P from nI_lt (a := 0) (by omega) (by omega))]
      · rw [if_neg hK]
        refine ⟨false, fdC C3 1 s3, flM M3 1 s3, ?_, fC3.fd _ _, fM3.fl _ _, Or.inr ⟨rfl, ?_, fail_of _ _ _ _⟩⟩
        · rw [show f_m7_found 1 C3 = _ from c_found w3 1]
          rfl
        · unfold rT
          rw [kg0 w4.ok, w4.2.2.2.2.1]
          simp only [Bool.false_eq_true, if_false]
          rw [if_neg (show ¬ nI (tkM (lexK t n s3)) = 0 from fun h => hK (ht.2.2.2.1.mp ((nI_eq (b := 0) (by omega) (by omega)).mp h))), w4.at, show f_m11_wrong 1 (nI s3) M3 = _ from m_wrg w4.ok 1 s3]
          simp only [Option.bind_some]
          unfold rT2
          rw [kg1 (flM_13 _ _ _)]
          simp only [if_true]
          unfold rT3
          rw [kg1 (flM_13 _ _ _)]
          simp only [if_true]
    · rw [show f_m7_read_L55 _ _ kFU 1 C2 = _ from w1, w2]
      have w3' := w3
      obtain ⟨-, -, -, -, a3, -⟩ := w3'
      exact ⟨false, C3, M3, rfl, fC3, fM3, Or.inr ⟨rfl, rT_F a3, w3⟩⟩
  · rw [y1]
    simp only [Option.bind_some, Bool.false_eq_true, if_false]
    have y2' := y2
    obtain ⟨-, -, -, -, a3, -⟩ := y2'
    refine ⟨false, C2, M2, rfl, fC1.tr x2, k1.fr.tr x3, Or.inr ⟨rfl, ?_, y2⟩⟩
    rw [show kFU = 999999 + 1 from rfl, f_m11_pier_L97, kg1 a3]
    simp only [if_true]
    exact rT_F a3
end RD2
