def f_m7_readLine  (S : kSt) : Option (Bool × kSt) :=
  (f_m7_isWord 1 S).bind fun q1 =>
  if q1.1 then
    (f_m7_readPair  q1.2).bind fun q19 =>
    some (q19.1, q19.2)
  else
    (f_m7_isWord 2 q1.2).bind fun q3 =>
    if q3.1 then
      (f_m7_readContract  q3.2).bind fun q18 =>
      some (q18.1, q18.2)
    else
      (f_m7_isWord 3 q3.2).bind fun q5 =>
      if q5.1 then
        (f_m7_readDebt  q5.2).bind fun q17 =>
        some (q17.1, q17.2)
      else
        (f_m7_isWord 4 q5.2).bind fun q7 =>
        if q7.1 then
          (f_m7_readUnsure  q7.2).bind fun q16 =>
          some (q16.1, q16.2)
        else
          (f_m7_isWord 5 q7.2).bind fun q9 =>
          if q9.1 then
            (f_m7_readHeard  q9.2).bind fun q15 =>
            some (q15.1, q15.2)
          else
            (f_m7_isWord 0 q9.2).bind fun q11 =>
            knx (if q11.1 then 3 else 1) fun x13 =>
            (f_m7_found x13 q11.2).bind fun q14 =>
            some (q14.1, q14.2)
theorem ok_m7_readLine {l : Launch} {G : kG} {ad : Nat → Nat}   (S : kSt) : kFn l G (ad, 2) (ad, 2) kjB m7_readLine 9 [.ref 3] S (f_m7_readLine  S) := by
  unfold f_m7_readLine
  refine kFn_of (by decide +kernel) (fun hG => Nat.le_of_ble_eq_true rfl) ?_
  show kOk _ _ _ _ _ _ _ _ [(0, .ref 3)] _ _
  refine ok_aload_n 0 (kd_m7_readLine.at 0 rfl) rfl rfl ?_
  refine ok_ldcS (kd_m7_readLine.at 1 rfl) kst_7_103 ?_
  refine ok_callVB (M' := m7_isWord) (as := [.ref (1000 + 1)]) (st := []) (kd_m7_readLine.at 2 rfl) kc7_99 sh_3 rfl rfl (by decide) (ok_m7_isWord 1 (by decide) S) (kfit_of (by decide)) rfl (Nat.le_of_ble_eq_true rfl) (fun q1 hq1 => ?_)
  refine ok_ifb_eq (tgt := 14) (kd_m7_readLine.at 3 rfl) (by decide) (fun h2 => ?_) (fun h2 => ?_)
  · refine ok_aload_n 0 (kd_m7_readLine.at 7 rfl) rfl rfl ?_
    refine ok_ldcS (kd_m7_readLine.at 8 rfl) kst_7_105 ?_
    refine ok_callVB (M' := m7_isWord) (as := [.ref (1000 + 2)]) (st := []) (kd_m7_readLine.at 9 rfl) kc7_99 sh_3 rfl rfl (by decide) (ok_m7_isWord 2 (by decide) q1.2) (kfit_of (by decide)) rfl (Nat.le_of_ble_eq_true rfl) (fun q3 hq3 => ?_)
    refine ok_ifb_eq (tgt := 28) (kd_m7_readLine.at 10 rfl) (by decide) (fun h4 => ?_) (fun h4 => ?_)
    · refine ok_aload_n 0 (kd_m7_readLine.at 14 rfl) rfl rfl ?_
      refine ok_ldcS (kd_m7_readLine.at 15 rfl) kst_7_107 ?_
      refine ok_callVB (M' := m7_isWord) (as := [.ref (1000 + 3)]) (st := []) (kd_m7_readLine.at 16 rfl) kc7_99 sh_3 rfl rfl (by decide) (ok_m7_isWord 3 (by decide) q3.2) (kfit_of (by decide)) rfl (Nat.le_of_ble_eq_true rfl) (fun q5 hq5 => ?_)
      refine ok_ifb_eq (tgt := 42) (kd_m7_readLine.at 17 rfl) (by decide) (fun h6 => ?_) (fun h6 => ?_)
      · refine ok_aload_n 0 (kd_m7_readLine.at 21 rfl) rfl rfl ?_
        refine ok_ldcS (kd_m7_readLine.at 22 rfl) kst_7_109 ?_
        refine ok_callVB (M' := m7_isWord) (as := [.ref (1000 + 4)]) (st := []) (kd_m7_readLine.at 23 rfl) kc7_99 sh_3 rfl rfl (by decide) (ok_m7_isWord 4 (by decide) q5.2) (kfit_of (by decide)) rfl (Nat.le_of_ble_eq_true rfl) (fun q7 hq7 => ?_)
        refine ok_ifb_eq (tgt := 56) (kd_m7_readLine.at 24 rfl) (by decide) (fun h8 => ?_) (fun h8 => ?_)
        · refine ok_aload_n 0 (kd_m7_readLine.at 28 rfl) rfl rfl ?_
          refine ok_ldcS (kd_m7_readLine.at 29 rfl) kst_7_111 ?_
          refine ok_callVB (M' := m7_isWord) (as := [.ref (1000 + 5)]) (st := []) (kd_m7_readLine.at 30 rfl) kc7_99 sh_3 rfl rfl (by decide) (ok_m7_isWord 5 (by decide) q7.2) (kfit_of (by decide)) rfl (Nat.le_of_ble_eq_true rfl) (fun q9 hq9 => ?_)
          refine ok_ifb_eq (tgt := 70) (kd_m7_readLine.at 31 rfl) (by decide) (fun h10 => ?_) (fun h10 => ?_)
          · refine ok_aload_n 0 (kd_m7_readLine.at 35 rfl) rfl rfl ?_
            refine ok_aload_n 0 (kd_m7_readLine.at 36 rfl) rfl rfl ?_
            refine ok_ldcS (kd_m7_readLine.at 37 rfl) kst_7_98 ?_
            refine ok_callVB (M' := m7_isWord) (as := [.ref (1000 + 0)]) (st := [.ref 3]) (kd_m7_readLine.at 38 rfl) kc7_99 sh_3 rfl rfl (by decide) (ok_m7_isWord 0 (by decide) q9.2) (kfit_of (by decide)) rfl (Nat.le_of_ble_eq_true rfl) (fun q11 hq11 => ?_)
            refine ok_fold (α := Int32) (pcJ := 85) (lvJ := [(0, .ref 3)]) (stJ := [.ref 3]) (mk := fun v => .int v) (fun K => ?_) (fun x13 => ?_)
            · refine ok_ap ?_
              refine ok_ifb_eq (tgt := 84) (kd_m7_readLine.at 39 rfl) (by decide) (fun h12 => ?_) (fun h12 => ?_)
              · refine ok_iconst (v := 1) (kd_m7_readLine.at 42 rfl) (by decide) ?_
                exact K 1
              · refine ok_iconst (v := 3) (kd_m7_readLine.at 40 rfl) (by decide) ?_
                refine ok_goto (tgt := 85) (kd_m7_readLine.at 41 rfl) (by decide) ?_
                exact K 3
            · refine ok_callVB (M' := m7_found) (as := [.int x13]) (st := []) (kd_m7_readLine.at 43 rfl) kc7_63 sh_3 rfl rfl (by decide) (ok_m7_found x13 q11.2) (kfit_of (by decide)) rfl (Nat.le_of_ble_eq_true rfl) (fun q14 hq14 => ?_)
              exact ok_zreturn (x := q14.1) (kd_m7_readLine.at 44 rfl) rfl
          · refine ok_aload_n 0 (kd_m7_readLine.at 32 rfl) rfl rfl ?_
            refine ok_callVB (M' := m7_readHeard) (as := []) (st := []) (kd_m7_readLine.at 33 rfl) kc7_159 sh_3 rfl rfl (by decide) (ok_m7_readHeard  q9.2) (kfit_of (by decide)) rfl (Nat.le_of_ble_eq_true rfl) (fun q15 hq15 => ?_)
            exact ok_zreturn (x := q15.1) (kd_m7_readLine.at 34 rfl) rfl
        · refine ok_aload_n 0 (kd_m7_readLine.at 25 rfl) rfl rfl ?_
          refine ok_callVB (M' := m7_readUnsure) (as := []) (st := []) (kd_m7_readLine.at 26 rfl) kc7_156 sh_3 rfl rfl (by decide) (ok_m7_readUnsure  q7.2) (kfit_of (by decide)) rfl (Nat.le_of_ble_eq_true rfl) (fun q16 hq16 => ?_)
          exact ok_zreturn (x := q16.1) (kd_m7_readLine.at 27 rfl) rfl
      · refine ok_aload_n 0 (kd_m7_readLine.at 18 rfl) rfl rfl ?_
        refine ok_callVB (M' := m7_readDebt) (as := []) (st := []) (kd_m7_readLine.at 19 rfl) kc7_153 sh_3 rfl rfl (by decide) (ok_m7_readDebt  q5.2) (kfit_of (by decide)) rfl (Nat.le_of_ble_eq_true rfl) (fun q17 hq17 => ?_)
        exact ok_zreturn (x := q17.1) (kd_m7_readLine.at 20 rfl) rfl
    · refine ok_aload_n 0 (kd_m7_readLine.at 11 rfl) rfl rfl ?_
      refine ok_callVB (M' := m7_readContract) (as := []) (st := []) (kd_m7_readLine.at 12 rfl) kc7_150 sh_3 rfl rfl (by decide) (ok_m7_readContract  q3.2) (kfit_of (by decide)) rfl (Nat.le_of_ble_eq_true rfl) (fun q18 hq18 => ?_)
      exact ok_zreturn (x := q18.1) (kd_m7_readLine.at 13 rfl) rfl
  · refine ok_aload_n 0 (kd_m7_readLine.at 4 rfl) rfl rfl ?_
    refine ok_callVB (M' := m7_readPair) (as := []) (st := []) (kd_m7_readLine.at 5 rfl) kc7_147 sh_3 rfl rfl (by decide) (ok_m7_readPair  q1.2) (kfit_of (by decide)) rfl (Nat.le_of_ble_eq_true rfl) (fun q19 hq19 => ?_)
    exact ok_zreturn (x := q19.1) (kd_m7_readLine.at 6 rfl) rfl
def f_m8_stateOf  (S : kSt) : Option (Int32 × kSt) :=
  knx (kmax 1 (S.1 6 3)) fun x1 =>
  kgz x1 (
    knx (((S.1 6 4) * x1) + (krem (S.1 6 5) x1)) fun x2 =>
    some (kmax 0 (kmin 899 x2), S)
  )
theorem ok_m8_stateOf {l : Launch} {G : kG} {E : kE}   (S : kSt) : kFn l G E E kjI m8_stateOf 1 [.ref 6] S (f_m8_stateOf  S) := by
  unfold f_m8_stateOf
  refine kFn_of (by decide +kernel) (fun hG => Nat.le_of_ble_eq_true rfl) ?_
  show kOk _ _ _ _ _ _ _ _ [(0, .ref 6)] _ _
  refine ok_iconst (v := 1) (kd_m8_stateOf.at 0 rfl) (by decide) ?_
  refine ok_aload_n 0 (kd_m8_stateOf.at 1 rfl) rfl rfl ?_
  refine ok_getI (kd_m8_stateOf.at 2 rfl) kf8_52 sh_6 rfl ?_
  refine ok_mmax (kd_m8_stateOf.at 3 rfl) kc8_37 (kfit_of (by decide)) (Nat.le_of_ble_eq_true rfl) ?_
  refine ok_topi (fun x1 hx1 => ?_)
  refine ok_istore_n (lv' := [(1, .int x1), (0, .ref 6)]) (kd_m8_stateOf.at 4 rfl) rfl (by decide) rfl ?_
  refine ok_aload_n 1 (kd_m8_stateOf.at 5 rfl) rfl rfl ?_
  refine ok_getI (kd_m8_stateOf.at 6 rfl) kf8_28 sh_6 rfl ?_
  refine ok_iload_n 0 (kd_m8_stateOf.at 7 rfl) rfl rfl ?_
  refine ok_imul (kd_m8_stateOf.at 8 rfl) ?_
  refine ok_aload_n 1 (kd_m8_stateOf.at 9 rfl) rfl rfl ?_
  refine ok_getI (kd_m8_stateOf.at 10 rfl) kf8_55 sh_6 rfl ?_
  refine ok_iload_n 0 (kd_m8_stateOf.at 11 rfl) rfl rfl ?_
  refine ok_iremG (kd_m8_stateOf.at 12 rfl) ?_
  refine ok_iadd (kd_m8_stateOf.at 13 rfl) ?_
  refine ok_topi (fun x2 hx2 => ?_)
  refine ok_istore_n (lv' := [(2, .int x2), (1, .int x1), (0, .ref 6)]) (kd_m8_stateOf.at 14 rfl) rfl (by decide) rfl ?_
  refine ok_iconst (v := 0) (kd_m8_stateOf.at 15 rfl) (by decide) ?_
  refine ok_sipush (v := 899) (kd_m8_stateOf.at 16 rfl) (by decide) ?_
  refine ok_iload_n 0 (kd_m8_stateOf.at 17 rfl) rfl rfl ?_
  refine ok_mmin (kd_m8_stateOf.at 18 rfl) kc8_58 (kfit_of (by decide)) (Nat.le_of_ble_eq_true rfl) ?_
  refine ok_mmax (kd_m8_stateOf.at 19 rfl) kc8_37 (kfit_of (by decide)) (Nat.le_of_ble_eq_true rfl) ?_
  exact ok_ireturn (kd_m8_stateOf.at 20 rfl) rfl
def f_m8_comesAgainBehind_L5   (k37 : kSt → Option (Bool × kSt)) (k45 : kSt → Option (Bool × kSt)) (c1 : Int32) : Nat → Int32 → kSt → Option (Bool × kSt)
  | 0, _, _ => none
  | n + 1, v2, S =>
    if ((S.1 8 2) + (S.1 8 3)) ≤ (v2 + c1) then
      k45  S
    else
      kgi v2 900 (
        knx (v2 + c1) fun x3 =>
        kgi x3 900 (
          if (S.1 45 v2.toNatClampNeg) = (S.1 45 x3.toNatClampNeg) then
            knx (v2 + 1) fun x5 =>
            f_m8_comesAgainBehind_L5 k37 k45 c1 n x5 S
          else
            k37  S
        )
      )
theorem ok_m8_comesAgainBehind_L5 {l : Launch} {G : kG} {E : kE}    (c1 : Int32) (k37 : kSt → Option (Bool × kSt)) (k45 : kSt → Option (Bool × kSt)) (hk37 : ∀  (S : kSt), kOk l G E (kZ G E kjB) m8_comesAgainBehind (kdp (1)) (k37  S) 37 [] [] S) (hk45 : ∀  (S : kSt), kOk l G E (kZ G E kjB) m8_comesAgainBehind (kdp (1)) (k45  S) 45 [] [] S) : ∀ (n : Nat) (v2 : Int32) (S : kSt), kOk l G E (kZ G E kjB) m8_comesAgainBehind (kdp (1)) (f_m8_comesAgainBehind_L5 k37 k45 c1 n v2 S) 5 [(0, .ref 8), (1, .int c1), (2, .int v2)] [] S := by
  intro n
  induction n with
  | zero => intro v2 S; exact ok_none
  | succ n ih =>
    intro v2 S
    rw [f_m8_comesAgainBehind_L5]
    refine ok_iload_n 2 (kd_m8_comesAgainBehind.at 3 rfl) rfl rfl ?_
    refine ok_iload_n 1 (kd_m8_comesAgainBehind.at 4 rfl) rfl rfl ?_
    refine ok_iadd (kd_m8_comesAgainBehind.at 5 rfl) ?_
    refine ok_aload_n 0 (kd_m8_comesAgainBehind.at 6 rfl) rfl rfl ?_
    refine ok_getI (kd_m8_comesAgainBehind.at 7 rfl) kf8_43 sh_8 rfl ?_
    refine ok_aload_n 0 (kd_m8_comesAgainBehind.at 8 rfl) rfl rfl ?_
    refine ok_getI (kd_m8_comesAgainBehind.at 9 rfl) kf8_46 sh_8 rfl ?_
    refine ok_iadd (kd_m8_comesAgainBehind.at 10 rfl) ?_
    refine ok_icmp_ge (tgt := 45) (kd_m8_comesAgainBehind.at 11 rfl) (by decide) (fun h2 => ?_) (fun h2 => ?_)
    · refine ok_sub (lv' := []) [] rfl ?_
      exact hk45  S
    · refine ok_aload_n 0 (kd_m8_comesAgainBehind.at 12 rfl) rfl rfl ?_
      refine ok_getR (kd_m8_comesAgainBehind.at 13 rfl) kf8_15 sh_8 rfl (kr_8_1 _) ?_
      refine ok_iload_n 2 (kd_m8_comesAgainBehind.at 14 rfl) rfl rfl ?_
      refine ok_iald (kd_m8_comesAgainBehind.at 15 rfl) sh_45 ?_
      refine ok_aload_n 0 (kd_m8_comesAgainBehind.at 16 rfl) rfl rfl ?_
      refine ok_getR (kd_m8_comesAgainBehind.at 17 rfl) kf8_15 sh_8 rfl (kr_8_1 _) ?_
      refine ok_iload_n 2 (kd_m8_comesAgainBehind.at 18 rfl) rfl rfl ?_
      refine ok_iload_n 1 (kd_m8_comesAgainBehind.at 19 rfl) rfl rfl ?_
      refine ok_iadd (kd_m8_comesAgainBehind.at 20 rfl) ?_
      refine ok_topi (fun x3 hx3 => ?_)
      refine ok_iald (kd_m8_comesAgainBehind.at 21 rfl) sh_45 ?_
      refine ok_icmp_eq (tgt := 39) (kd_m8_comesAgainBehind.at 22 rfl) (by decide) (fun h4 => ?_) (fun h4 => ?_)
      · refine ok_nx (fun x5 hx5 => ?_)
        refine ok_iinc (v := x5) (lv' := [(2, .int x5), (0, .ref 8), (1, .int c1)]) 2 (kd_m8_comesAgainBehind.at 25 rfl) rfl hx5.symm (by decide) rfl ?_
        refine ok_goto (tgt := 5) (kd_m8_comesAgainBehind.at 26 rfl) (by decide) ?_
        refine ok_sub (lv' := [(0, .ref 8), (1, .int c1), (2, .int x5)]) [1, 2, 0] rfl ?_
        exact ih x5 S
      · refine ok_sub (lv' := []) [] rfl ?_
        exact hk37  S
def f_m8_comesAgainBehind (a1 : Int32) (S : kSt) : Option (Bool × kSt) :=
  knx (S.1 8 2) fun x1 =>
  f_m8_comesAgainBehind_L5 
    (fun  (S6 : kSt) =>
      some (false, S6)
    )
    (fun  (S7 : kSt) =>
      some (true, S7)
    )
    a1 kFU x1 S
theorem ok_m8_comesAgainBehind {l : Launch} {G : kG} {E : kE} (a1 : Int32)  (S : kSt) : kFn l G E E kjB m8_comesAgainBehind 1 [.ref 8, .int a1] S (f_m8_comesAgainBehind a1 S) := by
  unfold f_m8_comesAgainBehind
  refine kFn_of (by decide +kernel) (fun hG => Nat.le_of_ble_eq_true rfl) ?_
  show kOk _ _ _ _ _ _ _ _ [(0, .ref 8), (1, .int a1)] _ _
  refine ok_aload_n 0 (kd_m8_comesAgainBehind.at 0 rfl) rfl rfl ?_
  refine ok_getI (kd_m8_comesAgainBehind.at 1 rfl) kf8_43 sh_8 rfl ?_
  refine ok_topi (fun x1 hx1 => ?_)
  refine ok_istore_n (lv' := [(2, .int x1), (0, .ref 8), (1, .int a1)]) (kd_m8_comesAgainBehind.at 2 rfl) rfl (by decide) rfl ?_
  refine ok_sub (lv' := [(0, .ref 8), (1, .int a1), (2, .int x1)]) [1, 2, 0] rfl ?_
  refine ok_m8_comesAgainBehind_L5 a1 _ _ (fun S6 => ?_) (fun S7 => ?_) kFU x1 S
  · refine ok_iconst (v := 0) (kd_m8_comesAgainBehind.at 23 rfl) (by decide) ?_
    exact ok_zreturn (x := false) (kd_m8_comesAgainBehind.at 24 rfl) rfl
  · refine ok_iconst (v := 1) (kd_m8_comesAgainBehind.at 27 rfl) (by decide) ?_
    exact ok_zreturn (x := true) (kd_m8_comesAgainBehind.at 28 rfl) rfl
def f_m8_shortenRound_L2   (k38 : kSt → Option kSt)  : Nat → Int32 → kSt → Option kSt
  | 0, _, _ => none
  | n + 1, v1, S =>
    if (S.1 8 3) ≤ v1 then
      k38  S
    else
      kgz v1 (
        knx (fun  (S2 : kSt) =>
          knx (v1 + 1) fun x3 =>
          f_m8_shortenRound_L2 k38 n x3 S2
          ) fun j32 =>
        if (krem (S.1 8 3) v1) = 0 then
          (f_m8_comesAgainBehind v1 S).bind fun q5 =>
          if q5.1 then
            knx (kuI q5.2 8 3 v1) fun S7 =>
            j32  S7
          else
            j32  q5.2
        else
          j32  S
      )
theorem ok_m8_shortenRound_L2 {l : Launch} {G : kG} {E : kE}     (k38 : kSt → Option kSt) (hk38 : ∀  (S : kSt), kOk l G E (kZ G E kjV) m8_shortenRound (kdp (2)) (k38  S) 38 [] [] S) : ∀ (n : Nat) (v1 : Int32) (S : kSt), kOk l G E (kZ G E kjV) m8_shortenRound (kdp (2)) (f_m8_shortenRound_L2 k38 n v1 S) 2 [(0, .ref 8), (1, .int v1)] [] S := by
  intro n
  induction n with
  | zero => intro v1 S; exact ok_none
  | succ n ih =>
    intro v1 S
    rw [f_m8_shortenRound_L2]
    refine ok_iload_n 1 (kd_m8_shortenRound.at 2 rfl) rfl rfl ?_
    refine ok_aload_n 0 (kd_m8_shortenRound.at 3 rfl) rfl rfl ?_
    refine ok_getI (kd_m8_shortenRound.at 4 rfl) kf8_46 sh_8 rfl ?_
    refine ok_icmp_ge (tgt := 38) (kd_m8_shortenRound.at 5 rfl) (by decide) (fun h1 => ?_) (fun h1 => ?_)
    · refine ok_sub (lv' := []) [] rfl ?_
      exact hk38  S
    · refine ok_aload_n 0 (kd_m8_shortenRound.at 6 rfl) rfl rfl ?_
      refine ok_getI (kd_m8_shortenRound.at 7 rfl) kf8_46 sh_8 rfl ?_
      refine ok_iload_n 1 (kd_m8_shortenRound.at 8 rfl) rfl rfl ?_
      refine ok_iremG (kd_m8_shortenRound.at 9 rfl) ?_
      refine ok_nx (fun j32 hj32 => ?_)
      have K32 : ∀  (S2 : kSt), kOk l G E (kZ G E kjV) m8_shortenRound (kdp (2)) (j32  S2) 32 [(0, .ref 8), (1, .int v1)] [] S2 := by
        subst hj32
        intro  S2
        refine ok_nx (fun x3 hx3 => ?_)
        refine ok_iinc (v := x3) (lv' := [(1, .int x3), (0, .ref 8)]) 1 (kd_m8_shortenRound.at 18 rfl) rfl hx3.symm (by decide) rfl ?_
        refine ok_goto (tgt := 2) (kd_m8_shortenRound.at 19 rfl) (by decide) ?_
        refine ok_sub (lv' := [(0, .ref 8), (1, .int x3)]) [1, 0] rfl ?_
        exact ih x3 S2
      clear hj32
      refine ok_if_ne (tgt := 32) (kd_m8_shortenRound.at 10 rfl) (by decide) (fun h4 => ?_) (fun h4 => ?_)
      · exact K32  S
      · refine ok_aload_n 0 (kd_m8_shortenRound.at 11 rfl) rfl rfl ?_
        refine ok_iload_n 1 (kd_m8_shortenRound.at 12 rfl) rfl rfl ?_
        refine ok_callVB (M' := m8_comesAgainBehind) (as := [.int v1]) (st := []) (kd_m8_shortenRound.at 13 rfl) kc8_61 sh_8 rfl rfl (by decide) (ok_m8_comesAgainBehind v1 S) (kfit_of (by decide)) rfl (Nat.le_of_ble_eq_true rfl) (fun q5 hq5 => ?_)
        refine ok_ifb_eq (tgt := 32) (kd_m8_shortenRound.at 14 rfl) (by decide) (fun h6 => ?_) (fun h6 => ?_)
        · exact K32  q5.2
        · refine ok_aload_n 0 (kd_m8_shortenRound.at 15 rfl) rfl rfl ?_
          refine ok_iload_n 1 (kd_m8_shortenRound.at 16 rfl) rfl rfl ?_
          refine ok_putI (kd_m8_shortenRound.at 17 rfl) kf8_46 sh_8 rfl rfl ?_
          refine ok_nS (fun S7 hS7 => ?_)
          exact K32  S7
def f_m8_shortenRound  (S : kSt) : Option kSt :=
  f_m8_shortenRound_L2 
    (fun  (S8 : kSt) =>
      some S8
    )
    kFU 1 S
theorem ok_m8_shortenRound {l : Launch} {G : kG} {E : kE}   (S : kSt) : kFn l G E E kjV m8_shortenRound 2 [.ref 8] S (f_m8_shortenRound  S) := by
  unfold f_m8_shortenRound
  refine kFn_of (by decide +kernel) (fun hG => Nat.le_of_ble_eq_true rfl) ?_
  show kOk _ _ _ _ _ _ _ _ [(0, .ref 8)] _ _
  refine ok_iconst (v := 1) (kd_m8_shortenRound.at 0 rfl) (by decide) ?_
  refine ok_istore_n (lv' := [(1, .int 1), (0, .ref 8)]) (kd_m8_shortenRound.at 1 rfl) rfl (by decide) rfl ?_
  refine ok_sub (lv' := [(0, .ref 8), (1, .int 1)]) [1, 0] rfl ?_
  refine ok_m8_shortenRound_L2 _ (fun S8 => ?_) kFU 1 S
  exact ok_return (kd_m8_shortenRound.at 20 rfl) rfl
def f_m8_follow_L15   (k63 : Int32 → Int32 → kSt → Option kSt)  : Nat → Int32 → Int32 → kSt → Option kSt
  | 0, _, _, _ => none
  | n + 1, v2, v3, S =>
    if 900 ≤ v2 then
      k63 v2 v3 S
    else
      kgi v3 900 (
        if 0 ≤ (S.1 44 v3.toNatClampNeg) then
          k63 v2 v3 S
        else
          kgi v3 900 (
            knx (kuI S 44 v3.toNatClampNeg v2) fun S5 =>
            kgi v2 900 (
              knx (kuI S5 45 v2.toNatClampNeg (S5.1 6 4)) fun S6 =>
              knx (v2 + 1) fun x7 =>
              (f_m9_go 6 S6).bind fun q8 =>
              (f_m8_stateOf  q8).bind fun q9 =>
              f_m8_follow_L15 k63 n x7 q9.1 q9.2
            )
          )
      )
theorem ok_m8_follow_L15 {l : Launch} {G : kG} {E : kE}     (k63 : Int32 → Int32 → kSt → Option kSt) (hk63 : ∀ (v2 : Int32) (v3 : Int32) (S : kSt), kOk l G E (kZ G E kjV) m8_follow (kdp (3)) (k63 v2 v3 S) 63 [(0, .ref 8), (2, .int v2), (3, .int v3)] [] S) : ∀ (n : Nat) (v2 : Int32) (v3 : Int32) (S : kSt), kOk l G E (kZ G E kjV) m8_follow (kdp (3)) (f_m8_follow_L15 k63 n v2 v3 S) 15 [(0, .ref 8), (1, .ref 6), (2, .int v2), (3, .int v3)] [] S := by
  intro n
  induction n with
  | zero => intro v2 v3 S; exact ok_none
  | succ n ih =>
    intro v2 v3 S
    rw [f_m8_follow_L15]
    refine ok_iload_n 2 (kd_m8_follow.at 9 rfl) rfl rfl ?_
    refine ok_sipush (v := 900) (kd_m8_follow.at 10 rfl) (by decide) ?_
    refine ok_icmp_ge (tgt := 63) (kd_m8_follow.at 11 rfl) (by decide) (fun h3 => ?_) (fun h3 => ?_)
    · refine ok_sub (lv' := [(0, .ref 8), (2, .int v2), (3, .int v3)]) [0, 2, 3] rfl ?_
      exact hk63 v2 v3 S
    · refine ok_aload_n 0 (kd_m8_follow.at 12 rfl) rfl rfl ?_
      refine ok_getR (kd_m8_follow.at 13 rfl) kf8_11 sh_8 rfl (kr_8_0 _) ?_
      refine ok_iload_n 3 (kd_m8_follow.at 14 rfl) rfl rfl ?_
      refine ok_iald (kd_m8_follow.at 15 rfl) sh_44 ?_
      refine ok_if_ge (tgt := 63) (kd_m8_follow.at 16 rfl) (by decide) (fun h4 => ?_) (fun h4 => ?_)
      · refine ok_sub (lv' := [(0, .ref 8), (2, .int v2), (3, .int v3)]) [0, 2, 3] rfl ?_
        exact hk63 v2 v3 S
      · refine ok_aload_n 0 (kd_m8_follow.at 17 rfl) rfl rfl ?_
        refine ok_getR (kd_m8_follow.at 18 rfl) kf8_11 sh_8 rfl (kr_8_0 _) ?_
        refine ok_iload_n 3 (kd_m8_follow.at 19 rfl) rfl rfl ?_
        refine ok_iload_n 2 (kd_m8_follow.at 20 rfl) rfl rfl ?_
        refine ok_iast (kd_m8_follow.at 21 rfl) sh_44 ?_
        refine ok_nS (fun S5 hS5 => ?_)
        refine ok_aload_n 0 (kd_m8_follow.at 22 rfl) rfl rfl ?_
        refine ok_getR (kd_m8_follow.at 23 rfl) kf8_15 sh_8 rfl (kr_8_1 _) ?_
        refine ok_iload_n 2 (kd_m8_follow.at 24 rfl) rfl rfl ?_
        refine ok_aload_n 1 (kd_m8_follow.at 25 rfl) rfl rfl ?_
        refine ok_getI (kd_m8_follow.at 26 rfl) kf8_28 sh_6 rfl ?_
        refine ok_iast (kd_m8_follow.at 27 rfl) sh_45 ?_
        refine ok_nS (fun S6 hS6 => ?_)
        refine ok_nx (fun x7 hx7 => ?_)
        refine ok_iinc (v := x7) (lv' := [(2, .int x7), (0, .ref 8), (1, .ref 6), (3, .int v3)]) 2 (kd_m8_follow.at 28 rfl) rfl hx7.symm (by decide) rfl ?_
        refine ok_aload_n 2 (kd_m8_follow.at 29 rfl) rfl rfl ?_
        refine ok_callVV (M' := m9_go) (as := []) (st := []) (kd_m8_follow.at 30 rfl) kc8_34 sh_6 rfl rfl (by decide) (ok_m9_go 6 sh_6 S6) (kfit_of (by decide)) rfl (Nat.le_of_ble_eq_true rfl) (fun q8 hq8 => ?_)
        refine ok_aload_n 2 (kd_m8_follow.at 31 rfl) rfl rfl ?_
        refine ok_callSI (M' := m8_stateOf) (as := [.ref 6]) (st := []) (kd_m8_follow.at 32 rfl) kc8_24  rfl (by decide) (ok_m8_stateOf  q8) (kfit_of (by decide)) rfl (Nat.le_of_ble_eq_true rfl) (fun q9 hq9 => ?_)
        refine ok_istore_n (lv' := [(3, .int q9.1), (2, .int x7), (0, .ref 8), (1, .ref 6)]) (kd_m8_follow.at 33 rfl) rfl (by decide) rfl ?_
        refine ok_goto (tgt := 15) (kd_m8_follow.at 34 rfl) (by decide) ?_
        refine ok_sub (lv' := [(0, .ref 8), (1, .ref 6), (2, .int x7), (3, .int q9.1)]) [2, 3, 1, 0] rfl ?_
        exact ih x7 q9.1 q9.2
def f_m8_follow  (S : kSt) : Option kSt :=
  (f_mJ_fill_J7 44 900 (-1) S).bind fun q1 =>
  (f_m8_stateOf  q1).bind fun q2 =>
  f_m8_follow_L15 
    (fun (x10 : Int32) (x11 : Int32) (S12 : kSt) =>
      kgi x11 900 (
        knx (kuI S12 8 2 (kmax 0 (S12.1 44 x11.toNatClampNeg))) fun S13 =>
        knx (kuI S13 8 3 (kmax 1 (x10 - (S13.1 8 2)))) fun S14 =>
        (f_m8_shortenRound  S14).bind fun q15 =>
        some q15
      )
    )
    kFU 0 q2.1 q2.2
theorem ok_m8_follow {l : Launch} {G : kG} {E : kE}   (S : kSt) : kFn l G E E kjV m8_follow 3 [.ref 8, .ref 6] S (f_m8_follow  S) := by
  unfold f_m8_follow
  refine kFn_of (by decide +kernel) (fun hG => Nat.le_of_ble_eq_true rfl) ?_
  show kOk _ _ _ _ _ _ _ _ [(0, .ref 8), (1, .ref 6)] _ _
  refine ok_aload_n 0 (kd_m8_follow.at 0 rfl) rfl rfl ?_
  refine ok_getR (kd_m8_follow.at 1 rfl) kf8_11 sh_8 rfl (kr_8_0 _) ?_
  refine ok_iconst (v := (-1)) (kd_m8_follow.at 2 rfl) (by decide) ?_
  refine ok_callSV (M' := mJ_fill_J7) (as := [.ref 44, .int (-1)]) (st := []) (kd_m8_follow.at 3 rfl) kc8_18  rfl (by decide) (ok_mJ_fill_J7 44 900 (-1) sh_44 S) (kfit_of (by decide)) rfl (Nat.le_of_ble_eq_true rfl) (fun q1 hq1 => ?_)
  refine ok_iconst (v := 0) (kd_m8_follow.at 4 rfl) (by decide) ?_
  refine ok_istore_n (lv' := [(2, .int 0), (0, .ref 8), (1, .ref 6)]) (kd_m8_follow.at 5 rfl) rfl (by decide) rfl ?_
  refine ok_aload_n 2 (kd_m8_follow.at 6 rfl) rfl rfl ?_
  refine ok_callSI (M' := m8_stateOf) (as := [.ref 6]) (st := []) (kd_m8_follow.at 7 rfl) kc8_24  rfl (by decide) (ok_m8_stateOf  q1) (kfit_of (by decide)) rfl (Nat.le_of_ble_eq_true rfl) (fun q2 hq2 => ?_)
  refine ok_istore_n (lv' := [(3, .int q2.1), (2, .int 0), (0, .ref 8), (1, .ref 6)]) (kd_m8_follow.at 8 rfl) rfl (by decide) rfl ?_
  refine ok_sub (lv' := [(0, .ref 8), (1, .ref 6), (2, .int 0), (3, .int q2.1)]) [2, 3, 1, 0] rfl ?_
  refine ok_m8_follow_L15 _ (fun x10 x11 S12 => ?_) kFU 0 q2.1 q2.2
  refine ok_aload_n 0 (kd_m8_follow.at 35 rfl) rfl rfl ?_
  refine ok_iconst (v := 0) (kd_m8_follow.at 36 rfl) (by decide) ?_
  refine ok_aload_n 0 (kd_m8_follow.at 37 rfl) rfl rfl ?_
  refine ok_getR (kd_m8_follow.at 38 rfl) kf8_11 sh_8 rfl (kr_8_0 _) ?_
  refine ok_iload_n 2 (kd_m8_follow.at 39 rfl) rfl rfl ?_
  refine ok_iald (kd_m8_follow.at 40 rfl) sh_44 ?_
  refine ok_mmax (kd_m8_follow.at 41 rfl) kc8_37 (kfit_of (by decide)) (Nat.le_of_ble_eq_true rfl) ?_
  refine ok_putI (kd_m8_follow.at 42 rfl) kf8_43 sh_8 rfl rfl ?_
  refine ok_nS (fun S13 hS13 => ?_)
  refine ok_aload_n 0 (kd_m8_follow.at 43 rfl) rfl rfl ?_
  refine ok_iconst (v := 1) (kd_m8_follow.at 44 rfl) (by decide) ?_
  refine ok_iload_n 1 (kd_m8_follow.at 45 rfl) rfl rfl ?_
  refine ok_aload_n 0 (kd_m8_follow.at 46 rfl) rfl rfl ?_
  refine ok_getI (kd_m8_follow.at 47 rfl) kf8_43 sh_8 rfl ?_
  refine ok_isub (kd_m8_follow.at 48 rfl) ?_
  refine ok_mmax (kd_m8_follow.at 49 rfl) kc8_37 (kfit_of (by decide)) (Nat.le_of_ble_eq_true rfl) ?_
  refine ok_putI (kd_m8_follow.at 50 rfl) kf8_46 sh_8 rfl rfl ?_
  refine ok_nS (fun S14 hS14 => ?_)
  refine ok_aload_n 0 (kd_m8_follow.at 51 rfl) rfl rfl ?_
  refine ok_callVV (M' := m8_shortenRound) (as := []) (st := []) (kd_m8_follow.at 52 rfl) kc8_49 sh_8 rfl rfl (by decide) (ok_m8_shortenRound  S14) (kfit_of (by decide)) rfl (Nat.le_of_ble_eq_true rfl) (fun q15 hq15 => ?_)
  exact ok_return (kd_m8_follow.at 53 rfl) rfl
def f_m8_saying (a1 : Int32) (S : kSt) : Option (Int32 × kSt) :=
  if (S.1 8 2) ≤ a1 then
    knx (S.1 8 3) fun x2 =>
    kgz x2 (
      knx ((S.1 8 2) + (krem (a1 - (S.1 8 2)) x2)) fun x3 =>
      kgi x3 900 (
        some (S.1 45 x3.toNatClampNeg, S)
      )
    )
  else
    kgi a1 900 (
      some (S.1 45 a1.toNatClampNeg, S)
    )
theorem ok_m8_saying {l : Launch} {G : kG} {E : kE} (a1 : Int32)  (S : kSt) : kFn l G E E kjI m8_saying 1 [.ref 8, .int a1] S (f_m8_saying a1 S) := by
  unfold f_m8_saying
  refine kFn_of (by decide +kernel) (fun hG => Nat.le_of_ble_eq_true rfl) ?_
  show kOk _ _ _ _ _ _ _ _ [(0, .ref 8), (1, .int a1)] _ _
  refine ok_iload_n 1 (kd_m8_saying.at 0 rfl) rfl rfl ?_
  refine ok_aload_n 0 (kd_m8_saying.at 1 rfl) rfl rfl ?_
  refine ok_getI (kd_m8_saying.at 2 rfl) kf8_43 sh_8 rfl ?_
  refine ok_icmp_ge (tgt := 15) (kd_m8_saying.at 3 rfl) (by decide) (fun h1 => ?_) (fun h1 => ?_)
  · refine ok_aload_n 0 (kd_m8_saying.at 9 rfl) rfl rfl ?_
    refine ok_getR (kd_m8_saying.at 10 rfl) kf8_15 sh_8 rfl (kr_8_1 _) ?_
    refine ok_aload_n 0 (kd_m8_saying.at 11 rfl) rfl rfl ?_
    refine ok_getI (kd_m8_saying.at 12 rfl) kf8_43 sh_8 rfl ?_
    refine ok_iload_n 1 (kd_m8_saying.at 13 rfl) rfl rfl ?_
    refine ok_aload_n 0 (kd_m8_saying.at 14 rfl) rfl rfl ?_
    refine ok_getI (kd_m8_saying.at 15 rfl) kf8_43 sh_8 rfl ?_
    refine ok_isub (kd_m8_saying.at 16 rfl) ?_
    refine ok_aload_n 0 (kd_m8_saying.at 17 rfl) rfl rfl ?_
    refine ok_getI (kd_m8_saying.at 18 rfl) kf8_46 sh_8 rfl ?_
    refine ok_topi (fun x2 hx2 => ?_)
    refine ok_iremG (kd_m8_saying.at 19 rfl) ?_
    refine ok_iadd (kd_m8_saying.at 20 rfl) ?_
    refine ok_topi (fun x3 hx3 => ?_)
    refine ok_iald (kd_m8_saying.at 21 rfl) sh_45 ?_
    exact ok_ireturn (kd_m8_saying.at 22 rfl) rfl
  · refine ok_aload_n 0 (kd_m8_saying.at 4 rfl) rfl rfl ?_
    refine ok_getR (kd_m8_saying.at 5 rfl) kf8_15 sh_8 rfl (kr_8_1 _) ?_
    refine ok_iload_n 1 (kd_m8_saying.at 6 rfl) rfl rfl ?_
    refine ok_iald (kd_m8_saying.at 7 rfl) sh_45 ?_
    exact ok_ireturn (kd_m8_saying.at 8 rfl) rfl
def f_m8_most_L15   (k45 : Int32 → kSt → Option (Int32 × kSt))  : Nat → Int32 → Int32 → kSt → Option (Int32 × kSt)
  | 0, _, _, _ => none
  | n + 1, v1, v2, S =>
    if ((S.1 8 2) + (S.1 8 3)) ≤ v2 then
      k45 v1 S
    else
      kgi v2 900 (
        knx (kmax v1 (S.1 45 v2.toNatClampNeg)) fun x5 =>
        knx (v2 + 1) fun x6 =>
        f_m8_most_L15 k45 n x5 x6 S
      )
theorem ok_m8_most_L15 {l : Launch} {G : kG} {E : kE}     (k45 : Int32 → kSt → Option (Int32 × kSt)) (hk45 : ∀ (v1 : Int32) (S : kSt), kOk l G E (kZ G E kjI) m8_most (kdp (1)) (k45 v1 S) 45 [(1, .int v1)] [] S) : ∀ (n : Nat) (v1 : Int32) (v2 : Int32) (S : kSt), kOk l G E (kZ G E kjI) m8_most (kdp (1)) (f_m8_most_L15 k45 n v1 v2 S) 15 [(0, .ref 8), (1, .int v1), (2, .int v2)] [] S := by
  intro n
  induction n with
  | zero => intro v1 v2 S; exact ok_none
  | succ n ih =>
    intro v1 v2 S
    rw [f_m8_most_L15]
    refine ok_iload_n 2 (kd_m8_most.at 9 rfl) rfl rfl ?_
    refine ok_aload_n 0 (kd_m8_most.at 10 rfl) rfl rfl ?_
    refine ok_getI (kd_m8_most.at 11 rfl) kf8_43 sh_8 rfl ?_
    refine ok_aload_n 0 (kd_m8_most.at 12 rfl) rfl rfl ?_
    refine ok_getI (kd_m8_most.at 13 rfl) kf8_46 sh_8 rfl ?_
    refine ok_iadd (kd_m8_most.at 14 rfl) ?_
    refine ok_icmp_ge (tgt := 45) (kd_m8_most.at 15 rfl) (by decide) (fun h4 => ?_) (fun h4 => ?_)
    · refine ok_sub (lv' := [(1, .int v1)]) [1] rfl ?_
      exact hk45 v1 S
    · refine ok_iload_n 1 (kd_m8_most.at 16 rfl) rfl rfl ?_
      refine ok_aload_n 0 (kd_m8_most.at 17 rfl) rfl rfl ?_
      refine ok_getR (kd_m8_most.at 18 rfl) kf8_15 sh_8 rfl (kr_8_1 _) ?_
      refine ok_iload_n 2 (kd_m8_most.at 19 rfl) rfl rfl ?_
      refine ok_iald (kd_m8_most.at 20 rfl) sh_45 ?_
      refine ok_mmax (kd_m8_most.at 21 rfl) kc8_37 (kfit_of (by decide)) (Nat.le_of_ble_eq_true rfl) ?_
      refine ok_topi (fun x5 hx5 => ?_)
      refine ok_istore_n (lv' := [(1, .int x5), (0, .ref 8), (2, .int v2)]) (kd_m8_most.at 22 rfl) rfl (by decide) rfl ?_
      refine ok_nx (fun x6 hx6 => ?_)
      refine ok_iinc (v := x6) (lv' := [(2, .int x6), (1, .int x5), (0, .ref 8)]) 2 (kd_m8_most.at 23 rfl) rfl hx6.symm (by decide) rfl ?_
      refine ok_goto (tgt := 15) (kd_m8_most.at 24 rfl) (by decide) ?_
      refine ok_sub (lv' := [(0, .ref 8), (1, .int x5), (2, .int x6)]) [2, 1, 0] rfl ?_
      exact ih x5 x6 S
def f_m8_most  (S : kSt) : Option (Int32 × kSt) :=
  knx (S.1 8 2) fun x1 =>
  kgi x1 900 (
    knx (S.1 45 x1.toNatClampNeg) fun x2 =>
    knx (S.1 8 2) fun x3 =>
    f_m8_most_L15 
      (fun (x7 : Int32) (S8 : kSt) =>
        some (x7, S8)
      )
      kFU x2 x3 S
  )
theorem ok_m8_most {l : Launch} {G : kG} {E : kE}   (S : kSt) : kFn l G E E kjI m8_most 1 [.ref 8] S (f_m8_most  S) := by
  unfold f_m8_most
  refine kFn_of (by decide +kernel) (fun hG => Nat.le_of_ble_eq_true rfl) ?_
  show kOk _ _ _ _ _ _ _ _ [(0, .ref 8)] _ _
  refine ok_aload_n 0 (kd_m8_most.at 0 rfl) rfl rfl ?_
  refine ok_getR (kd_m8_most.at 1 rfl) kf8_15 sh_8 rfl (kr_8_1 _) ?_
  refine ok_aload_n 0 (kd_m8_most.at 2 rfl) rfl rfl ?_
  refine ok_getI (kd_m8_most.at 3 rfl) kf8_43 sh_8 rfl ?_
  refine ok_topi (fun x1 hx1 => ?_)
  refine ok_iald (kd_m8_most.at 4 rfl) sh_45 ?_
  refine ok_topi (fun x2 hx2 => ?_)
  refine ok_istore_n (lv' := [(1, .int x2), (0, .ref 8)]) (kd_m8_most.at 5 rfl) rfl (by decide) rfl ?_
  refine ok_aload_n 1 (kd_m8_most.at 6 rfl) rfl rfl ?_
  refine ok_getI (kd_m8_most.at 7 rfl) kf8_43 sh_8 rfl ?_
  refine ok_topi (fun x3 hx3 => ?_)
  refine ok_istore_n (lv' := [(2, .int x3), (1, .int x2), (0, .ref 8)]) (kd_m8_most.at 8 rfl) rfl (by decide) rfl ?_
  refine ok_sub (lv' := [(0, .ref 8), (1, .int x2), (2, .int x3)]) [2, 1, 0] rfl ?_
  refine ok_m8_most_L15 _ (fun x7 S8 => ?_) kFU x2 x3 S
  refine ok_iload_n 0 (kd_m8_most.at 25 rfl) rfl rfl ?_
  exact ok_ireturn (kd_m8_most.at 26 rfl) rfl
def f_m8_least_L15   (k45 : Int32 → kSt → Option (Int32 × kSt))  : Nat → Int32 → Int32 → kSt → Option (Int32 × kSt)
  | 0, _, _, _ => none
  | n + 1, v1, v2, S =>
    if ((S.1 8 2) + (S.1 8 3)) ≤ v2 then
      k45 v1 S
    else
      kgi v2 900 (
        knx (kmin v1 (S.1 45 v2.toNatClampNeg)) fun x5 =>
        knx (v2 + 1) fun x6 =>
        f_m8_least_L15 k45 n x5 x6 S
      )
theorem ok_m8_least_L15 {l : Launch} {G : kG} {E : kE}     (k45 : Int32 → kSt → Option (Int32 × kSt)) (hk45 : ∀ (v1 : Int32) (S : kSt), kOk l G E (kZ G E kjI) m8_least (kdp (1)) (k45 v1 S) 45 [(1, .int v1)] [] S) : ∀ (n : Nat) (v1 : Int32) (v2 : Int32) (S : kSt), kOk l G E (kZ G E kjI) m8_least (kdp (1)) (f_m8_least_L15 k45 n v1 v2 S) 15 [(0, .ref 8), (1, .int v1), (2, .int v2)] [] S := by
  intro n
  induction n with
  | zero => intro v1 v2 S; exact ok_none
  | succ n ih =>
    intro v1 v2 S
    rw [f_m8_least_L15]
    refine ok_iload_n 2 (kd_m8_least.at 9 rfl) rfl rfl ?_
    refine ok_aload_n 0 (kd_m8_least.at 10 rfl) rfl rfl ?_
    refine ok_getI (kd_m8_least.at 11 rfl) kf8_43 sh_8 rfl ?_
    refine ok_aload_n 0 (kd_m8_least.at 12 rfl) rfl rfl ?_
    refine ok_getI (kd_m8_least.at 13 rfl) kf8_46 sh_8 rfl ?_
    refine ok_iadd (kd_m8_least.at 14 rfl) ?_
    refine ok_icmp_ge (tgt := 45) (kd_m8_least.at 15 rfl) (by decide) (fun h4 => ?_) (fun h4 => ?_)
    · refine ok_sub (lv' := [(1, .int v1)]) [1] rfl ?_
      exact hk45 v1 S
    · refine ok_iload_n 1 (kd_m8_least.at 16 rfl) rfl rfl ?_
      refine ok_aload_n 0 (kd_m8_least.at 17 rfl) rfl rfl ?_
      refine ok_getR (kd_m8_least.at 18 rfl) kf8_15 sh_8 rfl (kr_8_1 _) ?_
      refine ok_iload_n 2 (kd_m8_least.at 19 rfl) rfl rfl ?_
      refine ok_iald (kd_m8_least.at 20 rfl) sh_45 ?_
      refine ok_mmin (kd_m8_least.at 21 rfl) kc8_58 (kfit_of (by decide)) (Nat.le_of_ble_eq_true rfl) ?_
      refine ok_topi (fun x5 hx5 => ?_)
      refine ok_istore_n (lv' := [(1, .int x5), (0, .ref 8), (2, .int v2)]) (kd_m8_least.at 22 rfl) rfl (by decide) rfl ?_
      refine ok_nx (fun x6 hx6 => ?_)
      refine ok_iinc (v := x6) (lv' := [(2, .int x6), (1, .int x5), (0, .ref 8)]) 2 (kd_m8_least.at 23 rfl) rfl hx6.symm (by decide) rfl ?_
      refine ok_goto (tgt := 15) (kd_m8_least.at 24 rfl) (by decide) ?_
      refine ok_sub (lv' := [(0, .ref 8), (1, .int x5), (2, .int x6)]) [2, 1, 0] rfl ?_
      exact ih x5 x6 S
def f_m8_least  (S : kSt) : Option (Int32 × kSt) :=
  knx (S.1 8 2) fun x1 =>
  kgi x1 900 (
    knx (S.1 45 x1.toNatClampNeg) fun x2 =>
    knx (S.1 8 2) fun x3 =>
    f_m8_least_L15 
      (fun (x7 : Int32) (S8 : kSt) =>
        some (x7, S8)
      )
      kFU x2 x3 S
  )
theorem ok_m8_least {l : Launch} {G : kG} {E : kE}   (S : kSt) : kFn l G E E kjI m8_least 1 [.ref 8] S (f_m8_least  S) := by
  unfold f_m8_least
  refine kFn_of (by decide +kernel) (fun hG => Nat.le_of_ble_eq_true rfl) ?_
  show kOk _ _ _ _ _ _ _ _ [(0, .ref 8)] _ _
  refine ok_aload_n 0 (kd_m8_least.at 0 rfl) rfl rfl ?_
  refine ok_getR (kd_m8_least.at 1 rfl) kf8_15 sh_8 rfl (kr_8_1 _) ?_
  refine ok_aload_n 0 (kd_m8_least.at 2 rfl) rfl rfl ?_
  refine ok_getI (kd_m8_least.at 3 rfl) kf8_43 sh_8 rfl ?_
  refine ok_topi (fun x1 hx1 => ?_)
  refine ok_iald (kd_m8_least.at 4 rfl) sh_45 ?_
  refine ok_topi (fun x2 hx2 => ?_)
  refine ok_istore_n (lv' := [(1, .int x2), (0, .ref 8)]) (kd_m8_least.at 5 rfl) rfl (by decide) rfl ?_
  refine ok_aload_n 1 (kd_m8_least.at 6 rfl) rfl rfl ?_
  refine ok_getI (kd_m8_least.at 7 rfl) kf8_43 sh_8 rfl ?_
  refine ok_topi (fun x3 hx3 => ?_)
  refine ok_istore_n (lv' := [(2, .int x3), (1, .int x2), (0, .ref 8)]) (kd_m8_least.at 8 rfl) rfl (by decide) rfl ?_
  refine ok_sub (lv' := [(0, .ref 8), (1, .int x2), (2, .int x3)]) [2, 1, 0] rfl ?_
  refine ok_m8_least_L15 _ (fun x7 S8 => ?_) kFU x2 x3 S
  refine ok_iload_n 0 (kd_m8_least.at 25 rfl) rfl rfl ?_
  exact ok_ireturn (kd_m8_least.at 26 rfl) rfl
def f_m9_begin (w0 : Nat) (a3 : Int32) (S : kSt) : Option kSt :=
  (f_m9_beginAsTold w0 a3 S).bind fun q1 =>
  kgi a3 5 (
    knx (kuI q1 w0 2 (q1.1 41 a3.toNatClampNeg)) fun S2 =>
    kgi a3 5 (
      knx (kuI S2 w0 4 (S2.1 40 a3.toNatClampNeg)) fun S3 =>
      knx (kuI S3 w0 5 (S3.1 4 0)) fun S4 =>
      some S4
    )
  )
theorem ok_m9_begin {l : Launch} {G : kG} {E : kE} (w0 : Nat) (a3 : Int32) (hw0 : kSH[w0]? = some (0, 9, 6)) (S : kSt) : kFn l G E E kjV m9_begin 2 [.ref w0, .ref 1, .ref 4, .int a3] S (f_m9_begin w0 a3 S) := by
  unfold f_m9_begin
  refine kFn_of (by decide +kernel) (fun hG => Nat.le_of_ble_eq_true rfl) ?_
  show kOk _ _ _ _ _ _ _ _ [(0, .ref w0), (1, .ref 1), (2, .ref 4), (3, .int a3)] _ _
  refine ok_aload_n 0 (kd_m9_begin.at 0 rfl) rfl rfl ?_
  refine ok_aload_n 1 (kd_m9_begin.at 1 rfl) rfl rfl ?_
  refine ok_iload_n 3 (kd_m9_begin.at 2 rfl) rfl rfl ?_
  refine ok_callVV (M' := m9_beginAsTold) (as := [.ref 1, .int a3]) (st := []) (kd_m9_begin.at 3 rfl) kc9_7 hw0 rfl rfl (by decide) (ok_m9_beginAsTold w0 a3 hw0 S) (kfit_of (by decide)) rfl (Nat.le_of_ble_eq_true rfl) (fun q1 hq1 => ?_)
  refine ok_aload_n 0 (kd_m9_begin.at 4 rfl) rfl rfl ?_
  refine ok_aload_n 2 (kd_m9_begin.at 5 rfl) rfl rfl ?_
  refine ok_getR (kd_m9_begin.at 6 rfl) kf9_13 sh_4 rfl (kr_4_2 _) ?_
  refine ok_iload_n 3 (kd_m9_begin.at 7 rfl) rfl rfl ?_
  refine ok_iald (kd_m9_begin.at 8 rfl) sh_41 ?_
  refine ok_putI (kd_m9_begin.at 9 rfl) kf9_19 hw0 rfl rfl ?_
  refine ok_nS (fun S2 hS2 => ?_)
  refine ok_aload_n 0 (kd_m9_begin.at 10 rfl) rfl rfl ?_
  refine ok_aload_n 2 (kd_m9_begin.at 11 rfl) rfl rfl ?_
  refine ok_getR (kd_m9_begin.at 12 rfl) kf9_23 sh_4 rfl (kr_4_1 _) ?_
  refine ok_iload_n 3 (kd_m9_begin.at 13 rfl) rfl rfl ?_
  refine ok_iald (kd_m9_begin.at 14 rfl) sh_40 ?_
  refine ok_putI (kd_m9_begin.at 15 rfl) kf9_26 hw0 rfl rfl ?_
  refine ok_nS (fun S3 hS3 => ?_)
  refine ok_aload_n 0 (kd_m9_begin.at 16 rfl) rfl rfl ?_
  refine ok_aload_n 2 (kd_m9_begin.at 17 rfl) rfl rfl ?_
  refine ok_getI (kd_m9_begin.at 18 rfl) kf9_29 sh_4 rfl ?_
  refine ok_putI (kd_m9_begin.at 19 rfl) kf9_32 hw0 rfl rfl ?_
  refine ok_nS (fun S4 hS4 => ?_)
  exact ok_return (kd_m9_begin.at 20 rfl) rfl
def f_m9_isMore (w0 : Nat) (S : kSt) : Option (Bool × kSt) :=
  if (S.1 w0 4) ≤ ((S.1 w0 0) - (S.1 w0 4)) then
    some (false, S)
  else
    some (true, S)
theorem ok_m9_isMore {l : Launch} {G : kG} {E : kE} (w0 : Nat) (hw0 : kSH[w0]? = some (0, 9, 6)) (S : kSt) : kFn l G E E kjB m9_isMore 1 [.ref w0] S (f_m9_isMore w0 S) := by
  unfold f_m9_isMore
  refine kFn_of (by decide +kernel) (fun hG => Nat.le_of_ble_eq_true rfl) ?_
  show kOk _ _ _ _ _ _ _ _ [(0, .ref w0)] _ _
  refine ok_aload_n 0 (kd_m9_isMore.at 0 rfl) rfl rfl ?_
  refine ok_getI (kd_m9_isMore.at 1 rfl) kf9_26 hw0 rfl ?_
  refine ok_aload_n 0 (kd_m9_isMore.at 2 rfl) rfl rfl ?_
  refine ok_getI (kd_m9_isMore.at 3 rfl) kf9_38 hw0 rfl ?_
  refine ok_aload_n 0 (kd_m9_isMore.at 4 rfl) rfl rfl ?_
  refine ok_getI (kd_m9_isMore.at 5 rfl) kf9_26 hw0 rfl ?_
  refine ok_isub (kd_m9_isMore.at 6 rfl) ?_
  refine ok_icmp_le (tgt := 20) (kd_m9_isMore.at 7 rfl) (by decide) (fun h1 => ?_) (fun h1 => ?_)
  · refine ok_iconst (v := 0) (kd_m9_isMore.at 10 rfl) (by decide) ?_
    exact ok_zreturn (x := false) (kd_m9_isMore.at 11 rfl) rfl
  · refine ok_iconst (v := 1) (kd_m9_isMore.at 8 rfl) (by decide) ?_
    refine ok_goto (tgt := 21) (kd_m9_isMore.at 9 rfl) (by decide) ?_
    exact ok_zreturn (x := true) (kd_m9_isMore.at 11 rfl) rfl
def f_m9_countMore_L4 (w0 : Nat)  (k29 : Int32 → kSt → Option (Int32 × kSt)) (c1 : Int32) : Nat → Int32 → Int32 → kSt → Option (Int32 × kSt)
  | 0, _, _, _ => none
  | n + 1, v2, v3, S =>
    if c1 ≤ v3 then
      k29 v2 S
    else
      (f_m9_go w0 S).bind fun q2 =>
      (f_m9_isMore w0 q2).bind fun q3 =>
      knx (fun (x4 : Int32) (S5 : kSt) =>
        knx (v3 + 1) fun x6 =>
        f_m9_countMore_L4 w0 k29 c1 n x4 x6 S5
        ) fun j23 =>
      if q3.1 then
        knx (v2 + 1) fun x8 =>
        j23 x8 q3.2
      else
        j23 v2 q3.2
theorem ok_m9_countMore_L4 {l : Launch} {G : kG} {E : kE} (w0 : Nat) (hw0 : kSH[w0]? = some (0, 9, 6))  (c1 : Int32) (k29 : Int32 → kSt → Option (Int32 × kSt)) (hk29 : ∀ (v2 : Int32) (S : kSt), kOk l G E (kZ G E kjI) m9_countMore (kdp (3)) (k29 v2 S) 29 [(2, .int v2)] [] S) : ∀ (n : Nat) (v2 : Int32) (v3 : Int32) (S : kSt), kOk l G E (kZ G E kjI) m9_countMore (kdp (3)) (f_m9_countMore_L4 w0 k29 c1 n v2 v3 S) 4 [(0, .ref w0), (1, .int c1), (2, .int v2), (3, .int v3)] [] S := by
  intro n
  induction n with
  | zero => intro v2 v3 S; exact ok_none
  | succ n ih =>
    intro v2 v3 S
    rw [f_m9_countMore_L4]
    refine ok_iload_n 3 (kd_m9_countMore.at 4 rfl) rfl rfl ?_
    refine ok_iload_n 1 (kd_m9_countMore.at 5 rfl) rfl rfl ?_
    refine ok_icmp_ge (tgt := 29) (kd_m9_countMore.at 6 rfl) (by decide) (fun h1 => ?_) (fun h1 => ?_)
    · refine ok_sub (lv' := [(2, .int v2)]) [2] rfl ?_
      exact hk29 v2 S
    · refine ok_aload_n 0 (kd_m9_countMore.at 7 rfl) rfl rfl ?_
      refine ok_callVV (M' := m9_go) (as := []) (st := []) (kd_m9_countMore.at 8 rfl) kc9_69 hw0 rfl rfl (by decide) (ok_m9_go w0 hw0 S) (kfit_of (by decide)) rfl (Nat.le_of_ble_eq_true rfl) (fun q2 hq2 => ?_)
      refine ok_aload_n 0 (kd_m9_countMore.at 9 rfl) rfl rfl ?_
      refine ok_callVB (M' := m9_isMore) (as := []) (st := []) (kd_m9_countMore.at 10 rfl) kc9_72 hw0 rfl rfl (by decide) (ok_m9_isMore w0 hw0 q2) (kfit_of (by decide)) rfl (Nat.le_of_ble_eq_true rfl) (fun q3 hq3 => ?_)
      refine ok_nx (fun j23 hj23 => ?_)
      have K23 : ∀ (x4 : Int32) (S5 : kSt), kOk l G E (kZ G E kjI) m9_countMore (kdp (3)) (j23 x4 S5) 23 [(0, .ref w0), (1, .int c1), (2, .int x4), (3, .int v3)] [] S5 := by
        subst hj23
        intro x4 S5
        refine ok_nx (fun x6 hx6 => ?_)
        refine ok_iinc (v := x6) (lv' := [(3, .int x6), (0, .ref w0), (1, .int c1), (2, .int x4)]) 3 (kd_m9_countMore.at 13 rfl) rfl hx6.symm (by decide) rfl ?_
        refine ok_goto (tgt := 4) (kd_m9_countMore.at 14 rfl) (by decide) ?_
        refine ok_sub (lv' := [(0, .ref w0), (1, .int c1), (2, .int x4), (3, .int x6)]) [1, 2, 3, 0] rfl ?_
        exact ih x4 x6 S5
      clear hj23
      refine ok_ifb_eq (tgt := 23) (kd_m9_countMore.at 11 rfl) (by decide) (fun h7 => ?_) (fun h7 => ?_)
      · exact K23 v2 q3.2
      · refine ok_nx (fun x8 hx8 => ?_)
        refine ok_iinc (v := x8) (lv' := [(2, .int x8), (0, .ref w0), (1, .int c1), (3, .int v3)]) 2 (kd_m9_countMore.at 12 rfl) rfl hx8.symm (by decide) rfl ?_
        refine ok_sub (lv' := [(0, .ref w0), (1, .int c1), (2, .int x8), (3, .int v3)]) [1, 2, 0, 3] rfl ?_
        exact K23 x8 q3.2
def f_m9_countMore (w0 : Nat) (a1 : Int32) (S : kSt) : Option (Int32 × kSt) :=
  f_m9_countMore_L4 w0
    (fun (x9 : Int32) (S10 : kSt) =>
      some (x9, S10)
    )
    a1 kFU 0 0 S
theorem ok_m9_countMore {l : Launch} {G : kG} {E : kE} (w0 : Nat) (a1 : Int32) (hw0 : kSH[w0]? = some (0, 9, 6)) (S : kSt) : kFn l G E E kjI m9_countMore 3 [.ref w0, .int a1] S (f_m9_countMore w0 a1 S) := by
  unfold f_m9_countMore
  refine kFn_of (by decide +kernel) (fun hG => Nat.le_of_ble_eq_true rfl) ?_
  show kOk _ _ _ _ _ _ _ _ [(0, .ref w0), (1, .int a1)] _ _
  refine ok_iconst (v := 0) (kd_m9_countMore.at 0 rfl) (by decide) ?_
  refine ok_istore_n (lv' := [(2, .int 0), (0, .ref w0), (1, .int a1)]) (kd_m9_countMore.at 1 rfl) rfl (by decide) rfl ?_
  refine ok_iconst (v := 0) (kd_m9_countMore.at 2 rfl) (by decide) ?_
  refine ok_istore_n (lv' := [(3, .int 0), (2, .int 0), (0, .ref w0), (1, .int a1)]) (kd_m9_countMore.at 3 rfl) rfl (by decide) rfl ?_
  refine ok_sub (lv' := [(0, .ref w0), (1, .int a1), (2, .int 0), (3, .int 0)]) [2, 3, 1, 0] rfl ?_
  refine ok_m9_countMore_L4 w0 hw0 a1 _ (fun x9 S10 => ?_) kFU 0 0 S
  refine ok_iload_n 0 (kd_m9_countMore.at 15 rfl) rfl rfl ?_
  exact ok_ireturn (kd_m9_countMore.at 16 rfl) rfl
def f_m10_may (a1 : Bool) (a2 : Bool) (S : kSt) : Option (Bool × kSt) :=
  knx (if a1 then (if a2 then 0 else 2) else 1) fun x3 =>
  knx (kuI S 0 18 x3) fun S4 =>
  if (S4.1 0 18) = 0 then
    some (true, S4)
  else
    some (false, S4)
theorem ok_m10_may {l : Launch} {G : kG} {E : kE} (a1 : Bool) (a2 : Bool)  (S : kSt) : kFn l G E E kjB m10_may 1 [.ref 0, .int (kb a1), .int (kb a2)] S (f_m10_may a1 a2 S) := by
  unfold f_m10_may
  refine kFn_of (by decide +kernel) (fun hG => Nat.le_of_ble_eq_true rfl) ?_
  show kOk _ _ _ _ _ _ _ _ [(0, .ref 0), (1, .int (kb a1)), (2, .int (kb a2))] _ _
  refine ok_aload_n 0 (kd_m10_may.at 0 rfl) rfl rfl ?_
  refine ok_iload_n 1 (kd_m10_may.at 1 rfl) rfl rfl ?_
  refine ok_fold (α := Int32) (pcJ := 18) (lvJ := [(0, .ref 0), (1, .int (kb a1)), (2, .int (kb a2))]) (stJ := [.ref 0]) (mk := fun v => .int v) (fun K => ?_) (fun x3 => ?_)
  · refine ok_ap ?_
    refine ok_ifb_ne (tgt := 9) (kd_m10_may.at 2 rfl) (by decide) (fun h2 => ?_) (fun h2 => ?_)
    · refine ok_iload_n 2 (kd_m10_may.at 5 rfl) rfl rfl ?_
      refine ok_ap ?_
      refine ok_ifb_ne (tgt := 17) (kd_m10_may.at 6 rfl) (by decide) (fun h1 => ?_) (fun h1 => ?_)
      · refine ok_iconst (v := 0) (kd_m10_may.at 9 rfl) (by decide) ?_
        exact K 0
      · refine ok_iconst (v := 2) (kd_m10_may.at 7 rfl) (by decide) ?_
        refine ok_goto (tgt := 18) (kd_m10_may.at 8 rfl) (by decide) ?_
        exact K 2
    · refine ok_iconst (v := 1) (kd_m10_may.at 3 rfl) (by decide) ?_
      refine ok_goto (tgt := 18) (kd_m10_may.at 4 rfl) (by decide) ?_
      exact K 1
  · refine ok_putI (kd_m10_may.at 10 rfl) kf10_100 sh_0 rfl rfl ?_
    refine ok_nS (fun S4 hS4 => ?_)
    refine ok_aload_n 0 (kd_m10_may.at 11 rfl) rfl rfl ?_
    refine ok_getI (kd_m10_may.at 12 rfl) kf10_100 sh_0 rfl ?_
    refine ok_if_ne (tgt := 32) (kd_m10_may.at 13 rfl) (by decide) (fun h5 => ?_) (fun h5 => ?_)
    · refine ok_iconst (v := 0) (kd_m10_may.at 16 rfl) (by decide) ?_
      exact ok_zreturn (x := false) (kd_m10_may.at 17 rfl) rfl
    · refine ok_iconst (v := 1) (kd_m10_may.at 14 rfl) (by decide) ?_
      refine ok_goto (tgt := 33) (kd_m10_may.at 15 rfl) (by decide) ?_
      exact ok_zreturn (x := true) (kd_m10_may.at 17 rfl) rfl
def f_m10_may_ (a1 : Bool) (S : kSt) : Option (Bool × kSt) :=
  (f_m10_may a1 true S).bind fun q1 =>
  some (q1.1, q1.2)
theorem ok_m10_may_ {l : Launch} {G : kG} {E : kE} (a1 : Bool)  (S : kSt) : kFn l G E E kjB m10_may_ 2 [.ref 0, .int (kb a1)] S (f_m10_may_ a1 S) := by
  unfold f_m10_may_
  refine kFn_of (by decide +kernel) (fun hG => Nat.le_of_ble_eq_true rfl) ?_
  show kOk _ _ _ _ _ _ _ _ [(0, .ref 0), (1, .int (kb a1))] _ _
  refine ok_aload_n 0 (kd_m10_may_.at 0 rfl) rfl rfl ?_
  refine ok_iload_n 1 (kd_m10_may_.at 1 rfl) rfl rfl ?_
  refine ok_iconst (v := 1) (kd_m10_may_.at 2 rfl) (by decide) ?_
  refine ok_callVB (M' := m10_may) (as := [.int (kb a1), .int (kb true)]) (st := []) (kd_m10_may_.at 3 rfl) kc10_104 sh_0 rfl rfl (by decide) (ok_m10_may a1 true S) (kfit_of (by decide)) rfl (Nat.le_of_ble_eq_true rfl) (fun q1 hq1 => ?_)
  exact ok_zreturn (x := q1.1) (kd_m10_may_.at 4 rfl) rfl
def f_m10_refuse (a1 : Int32) (S : kSt) : Option (Int32 × kSt) :=
  knx (kuI S 0 18 a1) fun S1 =>
  some ((-1), S1)
theorem ok_m10_refuse {l : Launch} {G : kG} {E : kE} (a1 : Int32)  (S : kSt) : kFn l G E E kjI m10_refuse 1 [.ref 0, .int a1] S (f_m10_refuse a1 S) := by
  unfold f_m10_refuse
  refine kFn_of (by decide +kernel) (fun hG => Nat.le_of_ble_eq_true rfl) ?_
  show kOk _ _ _ _ _ _ _ _ [(0, .ref 0), (1, .int a1)] _ _
  refine ok_aload_n 0 (kd_m10_refuse.at 0 rfl) rfl rfl ?_
  refine ok_iload_n 1 (kd_m10_refuse.at 1 rfl) rfl rfl ?_
  refine ok_putI (kd_m10_refuse.at 2 rfl) kf10_100 sh_0 rfl rfl ?_
  refine ok_nS (fun S1 hS1 => ?_)
  refine ok_iconst (v := (-1)) (kd_m10_refuse.at 3 rfl) (by decide) ?_
  exact ok_ireturn (kd_m10_refuse.at 4 rfl) rfl
def f_m10_deny (a1 : Int32) (S : kSt) : Option (Bool × kSt) :=
  knx (kuI S 0 18 a1) fun S1 =>
  some (false, S1)
theorem ok_m10_deny {l : Launch} {G : kG} {E : kE} (a1 : Int32)  (S : kSt) : kFn l G E E kjB m10_deny 1 [.ref 0, .int a1] S (f_m10_deny a1 S) := by
  unfold f_m10_deny
  refine kFn_of (by decide +kernel) (fun hG => Nat.le_of_ble_eq_true rfl) ?_
  show kOk _ _ _ _ _ _ _ _ [(0, .ref 0), (1, .int a1)] _ _
  refine ok_aload_n 0 (kd_m10_deny.at 0 rfl) rfl rfl ?_
  refine ok_iload_n 1 (kd_m10_deny.at 1 rfl) rfl rfl ?_
  refine ok_putI (kd_m10_deny.at 2 rfl) kf10_100 sh_0 rfl rfl ?_
  refine ok_nS (fun S1 hS1 => ?_)
  refine ok_iconst (v := 0) (kd_m10_deny.at 3 rfl) (by decide) ?_
  exact ok_zreturn (x := false) (kd_m10_deny.at 4 rfl) rfl
def f_m10_isPair (a1 : Int32) (S : kSt) : Option (Bool × kSt) :=
  kgb (S.1 0 5) fun b1 =>
  if b1 then
    if a1 < 0 then
      some (false, S)
    else
      if (S.1 1 2) ≤ a1 then
        some (false, S)
      else
        some (true, S)
  else
    some (false, S)
theorem ok_m10_isPair {l : Launch} {G : kG} {E : kE} (a1 : Int32)  (S : kSt) : kFn l G E E kjB m10_isPair 1 [.ref 0, .int a1] S (f_m10_isPair a1 S) := by
  unfold f_m10_isPair
  refine kFn_of (by decide +kernel) (fun hG => Nat.le_of_ble_eq_true rfl) ?_
  show kOk _ _ _ _ _ _ _ _ [(0, .ref 0), (1, .int a1)] _ _
  refine ok_aload_n 0 (kd_m10_isPair.at 0 rfl) rfl rfl ?_
  refine ok_getZ (kd_m10_isPair.at 1 rfl) kf10_108 sh_0 rfl (fun b1 => ?_)
  refine ok_ifb_eq (tgt := 26) (kd_m10_isPair.at 2 rfl) (by decide) (fun h2 => ?_) (fun h2 => ?_)
  · refine ok_iconst (v := 0) (kd_m10_isPair.at 12 rfl) (by decide) ?_
    exact ok_zreturn (x := false) (kd_m10_isPair.at 13 rfl) rfl
  · refine ok_iload_n 1 (kd_m10_isPair.at 3 rfl) rfl rfl ?_
    refine ok_if_lt (tgt := 26) (kd_m10_isPair.at 4 rfl) (by decide) (fun h3 => ?_) (fun h3 => ?_)
    · refine ok_iconst (v := 0) (kd_m10_isPair.at 12 rfl) (by decide) ?_
      exact ok_zreturn (x := false) (kd_m10_isPair.at 13 rfl) rfl
    · refine ok_iload_n 1 (kd_m10_isPair.at 5 rfl) rfl rfl ?_
      refine ok_aload_n 0 (kd_m10_isPair.at 6 rfl) rfl rfl ?_
      refine ok_getR (kd_m10_isPair.at 7 rfl) kf10_16 sh_0 rfl (kr_0_2 _) ?_
      refine ok_getI (kd_m10_isPair.at 8 rfl) kf10_112 sh_1 rfl ?_
      refine ok_icmp_ge (tgt := 26) (kd_m10_isPair.at 9 rfl) (by decide) (fun h4 => ?_) (fun h4 => ?_)
      · refine ok_iconst (v := 0) (kd_m10_isPair.at 12 rfl) (by decide) ?_
        exact ok_zreturn (x := false) (kd_m10_isPair.at 13 rfl) rfl
      · refine ok_iconst (v := 1) (kd_m10_isPair.at 10 rfl) (by decide) ?_
        refine ok_goto (tgt := 27) (kd_m10_isPair.at 11 rfl) (by decide) ?_
        exact ok_zreturn (x := true) (kd_m10_isPair.at 13 rfl) rfl
def f_m10_areUnlike (a1 : Int32) (a2 : Int32) (S : kSt) : Option (Bool × kSt) :=
  (f_m10_isPair a1 S).bind fun q1 =>
  if q1.1 then
    (f_m10_isPair a2 q1.2).bind fun q3 =>
    if q3.1 then
      if a1 = a2 then
        some (false, q3.2)
      else
        some (true, q3.2)
    else
      some (false, q3.2)
  else
    some (false, q1.2)
theorem ok_m10_areUnlike {l : Launch} {G : kG} {E : kE} (a1 : Int32) (a2 : Int32)  (S : kSt) : kFn l G E E kjB m10_areUnlike 2 [.ref 0, .int a1, .int a2] S (f_m10_areUnlike a1 a2 S) := by
  unfold f_m10_areUnlike
  refine kFn_of (by decide +kernel) (fun hG => Nat.le_of_ble_eq_true rfl) ?_
  show kOk _ _ _ _ _ _ _ _ [(0, .ref 0), (1, .int a1), (2, .int a2)] _ _
  refine ok_aload_n 0 (kd_m10_areUnlike.at 0 rfl) rfl rfl ?_
  refine ok_iload_n 1 (kd_m10_areUnlike.at 1 rfl) rfl rfl ?_
  refine ok_callVB (M' := m10_isPair) (as := [.int a1]) (st := []) (kd_m10_areUnlike.at 2 rfl) kc10_115 sh_0 rfl rfl (by decide) (ok_m10_isPair a1 S) (kfit_of (by decide)) rfl (Nat.le_of_ble_eq_true rfl) (fun q1 hq1 => ?_)
  refine ok_ifb_eq (tgt := 25) (kd_m10_areUnlike.at 3 rfl) (by decide) (fun h2 => ?_) (fun h2 => ?_)
  · refine ok_iconst (v := 0) (kd_m10_areUnlike.at 13 rfl) (by decide) ?_
    exact ok_zreturn (x := false) (kd_m10_areUnlike.at 14 rfl) rfl
  · refine ok_aload_n 0 (kd_m10_areUnlike.at 4 rfl) rfl rfl ?_
    refine ok_iload_n 2 (kd_m10_areUnlike.at 5 rfl) rfl rfl ?_
    refine ok_callVB (M' := m10_isPair) (as := [.int a2]) (st := []) (kd_m10_areUnlike.at 6 rfl) kc10_115 sh_0 rfl rfl (by decide) (ok_m10_isPair a2 q1.2) (kfit_of (by decide)) rfl (Nat.le_of_ble_eq_true rfl) (fun q3 hq3 => ?_)
    refine ok_ifb_eq (tgt := 25) (kd_m10_areUnlike.at 7 rfl) (by decide) (fun h4 => ?_) (fun h4 => ?_)
    · refine ok_iconst (v := 0) (kd_m10_areUnlike.at 13 rfl) (by decide) ?_
      exact ok_zreturn (x := false) (kd_m10_areUnlike.at 14 rfl) rfl
    · refine ok_iload_n 1 (kd_m10_areUnlike.at 8 rfl) rfl rfl ?_
      refine ok_iload_n 2 (kd_m10_areUnlike.at 9 rfl) rfl rfl ?_
      refine ok_icmp_eq (tgt := 25) (kd_m10_areUnlike.at 10 rfl) (by decide) (fun h5 => ?_) (fun h5 => ?_)
      · refine ok_iconst (v := 0) (kd_m10_areUnlike.at 13 rfl) (by decide) ?_
        exact ok_zreturn (x := false) (kd_m10_areUnlike.at 14 rfl) rfl
      · refine ok_iconst (v := 1) (kd_m10_areUnlike.at 11 rfl) (by decide) ?_
        refine ok_goto (tgt := 26) (kd_m10_areUnlike.at 12 rfl) (by decide) ?_
        exact ok_zreturn (x := true) (kd_m10_areUnlike.at 14 rfl) rfl
def f_m10_upTo (a0 : Int32) (a1 : Int32) (S : kSt) : Option (Bool × kSt) :=
  if a0 < 0 then
    some (false, S)
  else
    if a1 < a0 then
      some (false, S)
    else
      some (true, S)
theorem ok_m10_upTo {l : Launch} {G : kG} {E : kE} (a0 : Int32) (a1 : Int32)  (S : kSt) : kFn l G E E kjB m10_upTo 1 [.int a0, .int a1] S (f_m10_upTo a0 a1 S) := by
  unfold f_m10_upTo
  refine kFn_of (by decide +kernel) (fun hG => Nat.le_of_ble_eq_true rfl) ?_
  show kOk _ _ _ _ _ _ _ _ [(0, .int a0), (1, .int a1)] _ _
  refine ok_iload_n 0 (kd_m10_upTo.at 0 rfl) rfl rfl ?_
  refine ok_if_lt (tgt := 13) (kd_m10_upTo.at 1 rfl) (by decide) (fun h1 => ?_) (fun h1 => ?_)
  · refine ok_iconst (v := 0) (kd_m10_upTo.at 7 rfl) (by decide) ?_
    exact ok_zreturn (x := false) (kd_m10_upTo.at 8 rfl) rfl
  · refine ok_iload_n 0 (kd_m10_upTo.at 2 rfl) rfl rfl ?_
    refine ok_iload_n 1 (kd_m10_upTo.at 3 rfl) rfl rfl ?_
    refine ok_icmp_gt (tgt := 13) (kd_m10_upTo.at 4 rfl) (by decide) (fun h2 => ?_) (fun h2 => ?_)
    · refine ok_iconst (v := 0) (kd_m10_upTo.at 7 rfl) (by decide) ?_
      exact ok_zreturn (x := false) (kd_m10_upTo.at 8 rfl) rfl
    · refine ok_iconst (v := 1) (kd_m10_upTo.at 5 rfl) (by decide) ?_
      refine ok_goto (tgt := 14) (kd_m10_upTo.at 6 rfl) (by decide) ?_
      exact ok_zreturn (x := true) (kd_m10_upTo.at 8 rfl) rfl
def f_m10_putBytes_L3   (k46 : kSt → Option kSt) (c1 : Int32) : Nat → Int32 → kSt → Option kSt
  | 0, _, _ => none
  | n + 1, v2, S =>
    if v2 < 0 then
      k46  S
    else
      if 900 ≤ (S.1 0 1) then
        k46  S
      else
        knx (S.1 0 1) fun x4 =>
        kgi x4 900 (
          knx (kuI S 15 x4.toNatClampNeg (((c1.toUInt32 >>> ((v2 : Int32).toUInt32 &&& Int32.toUInt32 31)).toInt32).toInt8.toInt32).toInt8.toInt32) fun S3 =>
          knx (kuI S3 0 1 ((S3.1 0 1) + 1)) fun S5 =>
          knx (v2 + (-8)) fun x6 =>
          f_m10_putBytes_L3 k46 c1 n x6 S5
        )
theorem ok_m10_putBytes_L3 {l : Launch} {G : kG} {E : kE}    (c1 : Int32) (k46 : kSt → Option kSt) (hk46 : ∀  (S : kSt), kOk l G E (kZ G E kjV) m10_putBytes (kdp (1)) (k46  S) 46 [] [] S) : ∀ (n : Nat) (v2 : Int32) (S : kSt), kOk l G E (kZ G E kjV) m10_putBytes (kdp (1)) (f_m10_putBytes_L3 k46 c1 n v2 S) 3 [(0, .ref 0), (1, .int c1), (2, .int v2)] [] S := by
  intro n
  induction n with
  | zero => intro v2 S; exact ok_none
  | succ n ih =>
    intro v2 S
    rw [f_m10_putBytes_L3]
    refine ok_iload_n 2 (kd_m10_putBytes.at 2 rfl) rfl rfl ?_
    refine ok_if_lt (tgt := 46) (kd_m10_putBytes.at 3 rfl) (by decide) (fun h1 => ?_) (fun h1 => ?_)
    · refine ok_sub (lv' := []) [] rfl ?_
      exact hk46  S
    · refine ok_aload_n 0 (kd_m10_putBytes.at 4 rfl) rfl rfl ?_
      refine ok_getI (kd_m10_putBytes.at 5 rfl) kf10_119 sh_0 rfl ?_
      refine ok_sipush (v := 900) (kd_m10_putBytes.at 6 rfl) (by decide) ?_
      refine ok_icmp_ge (tgt := 46) (kd_m10_putBytes.at 7 rfl) (by decide) (fun h2 => ?_) (fun h2 => ?_)
      · refine ok_sub (lv' := []) [] rfl ?_
        exact hk46  S
      · refine ok_aload_n 0 (kd_m10_putBytes.at 8 rfl) rfl rfl ?_
        refine ok_getR (kd_m10_putBytes.at 9 rfl) kf10_9 sh_0 rfl (kr_0_0 _) ?_
        refine ok_aload_n 0 (kd_m10_putBytes.at 10 rfl) rfl rfl ?_
        refine ok_getI (kd_m10_putBytes.at 11 rfl) kf10_119 sh_0 rfl ?_
        refine ok_iload_n 1 (kd_m10_putBytes.at 12 rfl) rfl rfl ?_
        refine ok_iload_n 2 (kd_m10_putBytes.at 13 rfl) rfl rfl ?_
        refine ok_iushr (kd_m10_putBytes.at 14 rfl) ?_
        refine ok_i2b (kd_m10_putBytes.at 15 rfl) ?_
        refine ok_sndi (fun x4 hx4 => ?_)
        refine ok_bast (kd_m10_putBytes.at 16 rfl) sh_15 ?_
        refine ok_nS (fun S3 hS3 => ?_)
        refine ok_aload_n 0 (kd_m10_putBytes.at 17 rfl) rfl rfl ?_
        refine ok_dup (kd_m10_putBytes.at 18 rfl) rfl ?_
        refine ok_getI (kd_m10_putBytes.at 19 rfl) kf10_119 sh_0 rfl ?_
        refine ok_iconst (v := 1) (kd_m10_putBytes.at 20 rfl) (by decide) ?_
        refine ok_iadd (kd_m10_putBytes.at 21 rfl) ?_
        refine ok_putI (kd_m10_putBytes.at 22 rfl) kf10_119 sh_0 rfl rfl ?_
        refine ok_nS (fun S5 hS5 => ?_)
        refine ok_nx (fun x6 hx6 => ?_)
        refine ok_iinc (v := x6) (lv' := [(2, .int x6), (0, .ref 0), (1, .int c1)]) 2 (kd_m10_putBytes.at 23 rfl) rfl hx6.symm (by decide) rfl ?_
        refine ok_goto (tgt := 3) (kd_m10_putBytes.at 24 rfl) (by decide) ?_
        refine ok_sub (lv' := [(0, .ref 0), (1, .int c1), (2, .int x6)]) [1, 2, 0] rfl ?_
        exact ih x6 S5
def f_m10_putBytes (a1 : Int32) (S : kSt) : Option kSt :=
  f_m10_putBytes_L3 
    (fun  (S7 : kSt) =>
      some S7
    )
    a1 kFU 24 S
theorem ok_m10_putBytes {l : Launch} {G : kG} {E : kE} (a1 : Int32)  (S : kSt) : kFn l G E E kjV m10_putBytes 1 [.ref 0, .int a1] S (f_m10_putBytes a1 S) := by
  unfold f_m10_putBytes
  refine kFn_of (by decide +kernel) (fun hG => Nat.le_of_ble_eq_true rfl) ?_
  show kOk _ _ _ _ _ _ _ _ [(0, .ref 0), (1, .int a1)] _ _
  refine ok_bipush (v := 24) (kd_m10_putBytes.at 0 rfl) (by decide) ?_
  refine ok_istore_n (lv' := [(2, .int 24), (0, .ref 0), (1, .int a1)]) (kd_m10_putBytes.at 1 rfl) rfl (by decide) rfl ?_
  refine ok_sub (lv' := [(0, .ref 0), (1, .int a1), (2, .int 24)]) [1, 2, 0] rfl ?_
  refine ok_m10_putBytes_L3 a1 _ (fun S7 => ?_) kFU 24 S
  exact ok_return (kd_m10_putBytes.at 25 rfl) rfl
def f_m10_feed (a1 : Int32) (a2 : Int32) (a3 : Int32) (a4 : Int32) (a5 : Int32) (S : kSt) : Option (Int32 × kSt) :=
  if (S.1 0 1) ≤ 880 then
    (f_m10_putBytes a1 S).bind fun q2 =>
    (f_m10_putBytes a2 q2).bind fun q3 =>
    (f_m10_putBytes a3 q3).bind fun q4 =>
    (f_m10_putBytes a4 q4).bind fun q5 =>
    (f_m10_putBytes a5 q5).bind fun q6 =>
    some (q6.1 0 1, q6)
  else
    some ((-1), S)
theorem ok_m10_feed {l : Launch} {G : kG} {E : kE} (a1 : Int32) (a2 : Int32) (a3 : Int32) (a4 : Int32) (a5 : Int32)  (S : kSt) : kFn l G E E kjI m10_feed 2 [.ref 0, .int a1, .int a2, .int a3, .int a4, .int a5] S (f_m10_feed a1 a2 a3 a4 a5 S) := by
  unfold f_m10_feed
  refine kFn_of (by decide +kernel) (fun hG => Nat.le_of_ble_eq_true rfl) ?_
  show kOk _ _ _ _ _ _ _ _ [(0, .ref 0), (1, .int a1), (2, .int a2), (3, .int a3), (4, .int a4), (5, .int a5)] _ _
  refine ok_aload_n 0 (kd_m10_feed.at 0 rfl) rfl rfl ?_
  refine ok_getI (kd_m10_feed.at 1 rfl) kf10_119 sh_0 rfl ?_
  refine ok_sipush (v := 880) (kd_m10_feed.at 2 rfl) (by decide) ?_
  refine ok_icmp_le (tgt := 12) (kd_m10_feed.at 3 rfl) (by decide) (fun h1 => ?_) (fun h1 => ?_)
  · refine ok_aload_n 0 (kd_m10_feed.at 6 rfl) rfl rfl ?_
    refine ok_iload_n 1 (kd_m10_feed.at 7 rfl) rfl rfl ?_
    refine ok_callVV (M' := m10_putBytes) (as := [.int a1]) (st := []) (kd_m10_feed.at 8 rfl) kc10_122 sh_0 rfl rfl (by decide) (ok_m10_putBytes a1 S) (kfit_of (by decide)) rfl (Nat.le_of_ble_eq_true rfl) (fun q2 hq2 => ?_)
    refine ok_aload_n 0 (kd_m10_feed.at 9 rfl) rfl rfl ?_
    refine ok_iload_n 2 (kd_m10_feed.at 10 rfl) rfl rfl ?_
    refine ok_callVV (M' := m10_putBytes) (as := [.int a2]) (st := []) (kd_m10_feed.at 11 rfl) kc10_122 sh_0 rfl rfl (by decide) (ok_m10_putBytes a2 q2) (kfit_of (by decide)) rfl (Nat.le_of_ble_eq_true rfl) (fun q3 hq3 => ?_)
    refine ok_aload_n 0 (kd_m10_feed.at 12 rfl) rfl rfl ?_
    refine ok_iload_n 3 (kd_m10_feed.at 13 rfl) rfl rfl ?_
    refine ok_callVV (M' := m10_putBytes) (as := [.int a3]) (st := []) (kd_m10_feed.at 14 rfl) kc10_122 sh_0 rfl rfl (by decide) (ok_m10_putBytes a3 q3) (kfit_of (by decide)) rfl (Nat.le_of_ble_eq_true rfl) (fun q4 hq4 => ?_)
    refine ok_aload_n 0 (kd_m10_feed.at 15 rfl) rfl rfl ?_
    refine ok_iload 4 (kd_m10_feed.at 16 rfl) rfl ?_
    refine ok_callVV (M' := m10_putBytes) (as := [.int a4]) (st := []) (kd_m10_feed.at 17 rfl) kc10_122 sh_0 rfl rfl (by decide) (ok_m10_putBytes a4 q4) (kfit_of (by decide)) rfl (Nat.le_of_ble_eq_true rfl) (fun q5 hq5 => ?_)
    refine ok_aload_n 0 (kd_m10_feed.at 18 rfl) rfl rfl ?_
    refine ok_iload 5 (kd_m10_feed.at 19 rfl) rfl ?_
    refine ok_callVV (M' := m10_putBytes) (as := [.int a5]) (st := []) (kd_m10_feed.at 20 rfl) kc10_122 sh_0 rfl rfl (by decide) (ok_m10_putBytes a5 q5) (kfit_of (by decide)) rfl (Nat.le_of_ble_eq_true rfl) (fun q6 hq6 => ?_)
    refine ok_aload_n 0 (kd_m10_feed.at 21 rfl) rfl rfl ?_
    refine ok_getI (kd_m10_feed.at 22 rfl) kf10_119 sh_0 rfl ?_
    exact ok_ireturn (kd_m10_feed.at 23 rfl) rfl
  · refine ok_iconst (v := (-1)) (kd_m10_feed.at 4 rfl) (by decide) ?_
    exact ok_ireturn (kd_m10_feed.at 5 rfl) rfl
def f_m10_fault  (S : kSt) : Option (Int32 × kSt) :=
  some (S.1 3 9, S)
theorem ok_m10_fault {l : Launch} {G : kG} {E : kE}   (S : kSt) : kFn l G E E kjI m10_fault 1 [.ref 0] S (f_m10_fault  S) := by
  unfold f_m10_fault
  refine kFn_of (by decide +kernel) (fun hG => Nat.le_of_ble_eq_true rfl) ?_
  show kOk _ _ _ _ _ _ _ _ [(0, .ref 0)] _ _
  refine ok_aload_n 0 (kd_m10_fault.at 0 rfl) rfl rfl ?_
  refine ok_getR (kd_m10_fault.at 1 rfl) kf10_28 sh_0 rfl (kr_0_4 _) ?_
  refine ok_getI (kd_m10_fault.at 2 rfl) kf10_148 sh_3 rfl ?_
  exact ok_ireturn (kd_m10_fault.at 3 rfl) rfl
def f_m10_where  (S : kSt) : Option (Int32 × kSt) :=
  if (S.1 0 18) = 4 then
    some (S.1 3 10, S)
  else
    some ((-1), S)
theorem ok_m10_where {l : Launch} {G : kG} {E : kE}   (S : kSt) : kFn l G E E kjI m10_where 1 [.ref 0] S (f_m10_where  S) := by
  unfold f_m10_where
  refine kFn_of (by decide +kernel) (fun hG => Nat.le_of_ble_eq_true rfl) ?_
  show kOk _ _ _ _ _ _ _ _ [(0, .ref 0)] _ _
  refine ok_aload_n 0 (kd_m10_where.at 0 rfl) rfl rfl ?_
  refine ok_getI (kd_m10_where.at 1 rfl) kf10_100 sh_0 rfl ?_
  refine ok_iconst (v := 4) (kd_m10_where.at 2 rfl) (by decide) ?_
  refine ok_icmp_ne (tgt := 18) (kd_m10_where.at 3 rfl) (by decide) (fun h1 => ?_) (fun h1 => ?_)
  · refine ok_iconst (v := (-1)) (kd_m10_where.at 8 rfl) (by decide) ?_
    exact ok_ireturn (kd_m10_where.at 9 rfl) rfl
  · refine ok_aload_n 0 (kd_m10_where.at 4 rfl) rfl rfl ?_
    refine ok_getR (kd_m10_where.at 5 rfl) kf10_28 sh_0 rfl (kr_0_4 _) ?_
    refine ok_getI (kd_m10_where.at 6 rfl) kf10_151 sh_3 rfl ?_
    refine ok_goto (tgt := 19) (kd_m10_where.at 7 rfl) (by decide) ?_
    exact ok_ireturn (kd_m10_where.at 9 rfl) rfl
def f_m10_isMore (a1 : Int32) (S : kSt) : Option (Bool × kSt) :=
  if a1 ≤ ((S.1 1 0) - a1) then
    some (false, S)
  else
    some (true, S)
theorem ok_m10_isMore {l : Launch} {G : kG} {E : kE} (a1 : Int32)  (S : kSt) : kFn l G E E kjB m10_isMore 1 [.ref 0, .int a1] S (f_m10_isMore a1 S) := by
  unfold f_m10_isMore
  refine kFn_of (by decide +kernel) (fun hG => Nat.le_of_ble_eq_true rfl) ?_
  show kOk _ _ _ _ _ _ _ _ [(0, .ref 0), (1, .int a1)] _ _
  refine ok_iload_n 1 (kd_m10_isMore.at 0 rfl) rfl rfl ?_
  refine ok_aload_n 0 (kd_m10_isMore.at 1 rfl) rfl rfl ?_
  refine ok_getR (kd_m10_isMore.at 2 rfl) kf10_16 sh_0 rfl (kr_0_2 _) ?_
  refine ok_getI (kd_m10_isMore.at 3 rfl) kf10_163 sh_1 rfl ?_
  refine ok_iload_n 1 (kd_m10_isMore.at 4 rfl) rfl rfl ?_
  refine ok_isub (kd_m10_isMore.at 5 rfl) ?_
  refine ok_icmp_le (tgt := 17) (kd_m10_isMore.at 6 rfl) (by decide) (fun h1 => ?_) (fun h1 => ?_)
  · refine ok_iconst (v := 0) (kd_m10_isMore.at 9 rfl) (by decide) ?_
    exact ok_zreturn (x := false) (kd_m10_isMore.at 10 rfl) rfl
  · refine ok_iconst (v := 1) (kd_m10_isMore.at 7 rfl) (by decide) ?_
    refine ok_goto (tgt := 18) (kd_m10_isMore.at 8 rfl) (by decide) ?_
    exact ok_zreturn (x := true) (kd_m10_isMore.at 10 rfl) rfl
def f_m10_pair (a1 : Int32) (a2 : Int32) (S : kSt) : Option (Int32 × kSt) :=
  (f_m10_isPair a1 S).bind fun q1 =>
  knx (fun (x2 : Bool) (S3 : kSt) =>
    (f_m10_may_ x2 S3).bind fun q4 =>
    if q4.1 then
      kgi a1 5 (
        knx (q4.2.1 40 a1.toNatClampNeg) fun x6 =>
        kcase5 (ksw 0 4 a2)
          (
            kgi a1 5 (
              some (q4.2.1 18 a1.toNatClampNeg, q4.2)
            )
          )
          (
            some (x6, q4.2)
          )
          (
            some ((q4.2.1 1 0) - x6, q4.2)
          )
          (
            kgi a1 5 (
              some (q4.2.1 41 a1.toNatClampNeg, q4.2)
            )
          )
          (
            kgi a1 5 (
              some (q4.2.1 21 a1.toNatClampNeg, q4.2)
            )
          )
          (
            (f_m10_isMore x6 q4.2).bind fun q7 =>
            if q7.1 then
              some (1, q7.2)
            else
              some (0, q7.2)
          )
      )
    else
      some ((-1), q4.2)
    ) fun j22 =>
  knx (fun  (S9 : kSt) =>
    j22 false S9
    ) fun j21 =>
  if q1.1 then
    (f_m10_upTo a2 5 q1.2).bind fun q11 =>
    if q11.1 then
      j22 true q11.2
    else
      j21  q11.2
  else
    j21  q1.2
theorem ok_m10_pair {l : Launch} {G : kG} {E : kE} (a1 : Int32) (a2 : Int32)  (S : kSt) : kFn l G E E kjI m10_pair 3 [.ref 0, .int a1, .int a2] S (f_m10_pair a1 a2 S) := by
  unfold f_m10_pair
  refine kFn_of (by decide +kernel) (fun hG => Nat.le_of_ble_eq_true rfl) ?_
  show kOk _ _ _ _ _ _ _ _ [(0, .ref 0), (1, .int a1), (2, .int a2)] _ _
  refine ok_aload_n 0 (kd_m10_pair.at 0 rfl) rfl rfl ?_
  refine ok_aload_n 0 (kd_m10_pair.at 1 rfl) rfl rfl ?_
  refine ok_iload_n 1 (kd_m10_pair.at 2 rfl) rfl rfl ?_
  refine ok_callVB (M' := m10_isPair) (as := [.int a1]) (st := [.ref 0]) (kd_m10_pair.at 3 rfl) kc10_115 sh_0 rfl rfl (by decide) (ok_m10_isPair a1 S) (kfit_of (by decide)) rfl (Nat.le_of_ble_eq_true rfl) (fun q1 hq1 => ?_)
  refine ok_nx (fun j22 hj22 => ?_)
  have K22 : ∀ (x2 : Bool) (S3 : kSt), kOk l G E (kZ G E kjI) m10_pair (kdp (3)) (j22 x2 S3) 22 [(0, .ref 0), (1, .int a1), (2, .int a2)] [.int (kb x2), .ref 0] S3 := by
    subst hj22
    intro x2 S3
    refine ok_callVB (M' := m10_may_) (as := [.int (kb x2)]) (st := []) (kd_m10_pair.at 12 rfl) kc10_154 sh_0 rfl rfl (by decide) (ok_m10_may_ x2 S3) (kfit_of (by decide)) rfl (Nat.le_of_ble_eq_true rfl) (fun q4 hq4 => ?_)
    refine ok_ifb_ne (tgt := 30) (kd_m10_pair.at 13 rfl) (by decide) (fun h5 => ?_) (fun h5 => ?_)
    · refine ok_aload_n 0 (kd_m10_pair.at 16 rfl) rfl rfl ?_
      refine ok_getR (kd_m10_pair.at 17 rfl) kf10_35 sh_0 rfl (kr_0_6 _) ?_
      refine ok_getR (kd_m10_pair.at 18 rfl) kf10_157 sh_4 rfl (kr_4_1 _) ?_
      refine ok_iload_n 1 (kd_m10_pair.at 19 rfl) rfl rfl ?_
      refine ok_iald (kd_m10_pair.at 20 rfl) sh_40 ?_
      refine ok_topi (fun x6 hx6 => ?_)
      refine ok_istore_n (lv' := [(3, .int x6), (0, .ref 0), (1, .int a1), (2, .int a2)]) (kd_m10_pair.at 21 rfl) rfl (by decide) rfl ?_
      refine ok_iload_n 3 (kd_m10_pair.at 22 rfl) rfl rfl ?_
      refine ok_table5 118 76 86 88 98 108 (kd_m10_pair.at 23 rfl) (by decide) (by decide) (by decide) (by decide) (by decide) (by decide) (by decide) ?_ ?_ ?_ ?_ ?_ ?_
      · refine ok_aload_n 1 (kd_m10_pair.at 50 rfl) rfl rfl ?_
        refine ok_iload_n 0 (kd_m10_pair.at 51 rfl) rfl rfl ?_
        refine ok_callVB (M' := m10_isMore) (as := [.int x6]) (st := []) (kd_m10_pair.at 52 rfl) kc10_172 sh_0 rfl rfl (by decide) (ok_m10_isMore x6 q4.2) (kfit_of (by decide)) rfl (Nat.le_of_ble_eq_true rfl) (fun q7 hq7 => ?_)
        refine ok_ifb_eq (tgt := 130) (kd_m10_pair.at 53 rfl) (by decide) (fun h8 => ?_) (fun h8 => ?_)
        · refine ok_iconst (v := 0) (kd_m10_pair.at 56 rfl) (by decide) ?_
          exact ok_ireturn (kd_m10_pair.at 57 rfl) rfl
        · refine ok_iconst (v := 1) (kd_m10_pair.at 54 rfl) (by decide) ?_
          refine ok_goto (tgt := 131) (kd_m10_pair.at 55 rfl) (by decide) ?_
          exact ok_ireturn (kd_m10_pair.at 57 rfl) rfl
      · refine ok_aload_n 1 (kd_m10_pair.at 24 rfl) rfl rfl ?_
        refine ok_getR (kd_m10_pair.at 25 rfl) kf10_16 sh_0 rfl (kr_0_2 _) ?_
        refine ok_getR (kd_m10_pair.at 26 rfl) kf10_160 sh_1 rfl (kr_1_7 _) ?_
        refine ok_iload_n 2 (kd_m10_pair.at 27 rfl) rfl rfl ?_
        refine ok_iald (kd_m10_pair.at 28 rfl) sh_18 ?_
        exact ok_ireturn (kd_m10_pair.at 29 rfl) rfl
      · refine ok_iload_n 0 (kd_m10_pair.at 30 rfl) rfl rfl ?_
        exact ok_ireturn (kd_m10_pair.at 31 rfl) rfl
      · refine ok_aload_n 1 (kd_m10_pair.at 32 rfl) rfl rfl ?_
        refine ok_getR (kd_m10_pair.at 33 rfl) kf10_16 sh_0 rfl (kr_0_2 _) ?_
        refine ok_getI (kd_m10_pair.at 34 rfl) kf10_163 sh_1 rfl ?_
        refine ok_iload_n 0 (kd_m10_pair.at 35 rfl) rfl rfl ?_
        refine ok_isub (kd_m10_pair.at 36 rfl) ?_
        exact ok_ireturn (kd_m10_pair.at 37 rfl) rfl
      · refine ok_aload_n 1 (kd_m10_pair.at 38 rfl) rfl rfl ?_
        refine ok_getR (kd_m10_pair.at 39 rfl) kf10_35 sh_0 rfl (kr_0_6 _) ?_
        refine ok_getR (kd_m10_pair.at 40 rfl) kf10_166 sh_4 rfl (kr_4_2 _) ?_
        refine ok_iload_n 2 (kd_m10_pair.at 41 rfl) rfl rfl ?_
        refine ok_iald (kd_m10_pair.at 42 rfl) sh_41 ?_
        exact ok_ireturn (kd_m10_pair.at 43 rfl) rfl
      · refine ok_aload_n 1 (kd_m10_pair.at 44 rfl) rfl rfl ?_
        refine ok_getR (kd_m10_pair.at 45 rfl) kf10_16 sh_0 rfl (kr_0_2 _) ?_
        refine ok_getR (kd_m10_pair.at 46 rfl) kf10_169 sh_1 rfl (kr_1_10 _) ?_
        refine ok_iload_n 2 (kd_m10_pair.at 47 rfl) rfl rfl ?_
        refine ok_iald (kd_m10_pair.at 48 rfl) sh_21 ?_
        exact ok_ireturn (kd_m10_pair.at 49 rfl) rfl
    · refine ok_iconst (v := (-1)) (kd_m10_pair.at 14 rfl) (by decide) ?_
      exact ok_ireturn (kd_m10_pair.at 15 rfl) rfl
  clear hj22
  refine ok_nx (fun j21 hj21 => ?_)
  have K21 : ∀  (S9 : kSt), kOk l G E (kZ G E kjI) m10_pair (kdp (3)) (j21  S9) 21 [(0, .ref 0), (1, .int a1), (2, .int a2)] [.ref 0] S9 := by
    subst hj21
    intro  S9
    refine ok_iconst (v := 0) (kd_m10_pair.at 11 rfl) (by decide) ?_
    exact K22 false S9
  clear hj21
  refine ok_ifb_eq (tgt := 21) (kd_m10_pair.at 4 rfl) (by decide) (fun h10 => ?_) (fun h10 => ?_)
  · exact K21  q1.2
  · refine ok_iload_n 2 (kd_m10_pair.at 5 rfl) rfl rfl ?_
    refine ok_iconst (v := 5) (kd_m10_pair.at 6 rfl) (by decide) ?_
    refine ok_callSB (M' := m10_upTo) (as := [.int a2, .int 5]) (st := [.ref 0]) (kd_m10_pair.at 7 rfl) kc10_126  rfl (by decide) (ok_m10_upTo a2 5 q1.2) (kfit_of (by decide)) rfl (Nat.le_of_ble_eq_true rfl) (fun q11 hq11 => ?_)
    refine ok_ifb_eq (tgt := 21) (kd_m10_pair.at 8 rfl) (by decide) (fun h12 => ?_) (fun h12 => ?_)
    · exact K21  q11.2
    · refine ok_iconst (v := 1) (kd_m10_pair.at 9 rfl) (by decide) ?_
      refine ok_goto (tgt := 22) (kd_m10_pair.at 10 rfl) (by decide) ?_
      exact K22 true q11.2
def f_m10_sayingBehind (a1 : Int32) (a2 : Int32) (S : kSt) : Option (Int32 × kSt) :=
  (f_m9_begin 6 a1 S).bind fun q1 =>
  (f_m9_goOn 6 a2 q1).bind fun q2 =>
  some (q2.1 6 4, q2)
theorem ok_m10_sayingBehind {l : Launch} {G : kG} {E : kE} (a1 : Int32) (a2 : Int32)  (S : kSt) : kFn l G E E kjI m10_sayingBehind 4 [.ref 0, .int a1, .int a2] S (f_m10_sayingBehind a1 a2 S) := by
  unfold f_m10_sayingBehind
  refine kFn_of (by decide +kernel) (fun hG => Nat.le_of_ble_eq_true rfl) ?_
  show kOk _ _ _ _ _ _ _ _ [(0, .ref 0), (1, .int a1), (2, .int a2)] _ _
  refine ok_aload_n 0 (kd_m10_sayingBehind.at 0 rfl) rfl rfl ?_
  refine ok_getR (kd_m10_sayingBehind.at 1 rfl) kf10_54 sh_0 rfl (kr_0_10 _) ?_
  refine ok_aload_n 0 (kd_m10_sayingBehind.at 2 rfl) rfl rfl ?_
  refine ok_getR (kd_m10_sayingBehind.at 3 rfl) kf10_16 sh_0 rfl (kr_0_2 _) ?_
  refine ok_aload_n 0 (kd_m10_sayingBehind.at 4 rfl) rfl rfl ?_
  refine ok_getR (kd_m10_sayingBehind.at 5 rfl) kf10_35 sh_0 rfl (kr_0_6 _) ?_
  refine ok_iload_n 1 (kd_m10_sayingBehind.at 6 rfl) rfl rfl ?_
  refine ok_callVV (M' := m9_begin) (as := [.ref 1, .ref 4, .int a1]) (st := []) (kd_m10_sayingBehind.at 7 rfl) kc10_175 sh_6 rfl rfl (by decide) (ok_m9_begin 6 a1 sh_6 S) (kfit_of (by decide)) rfl (Nat.le_of_ble_eq_true rfl) (fun q1 hq1 => ?_)
  refine ok_aload_n 0 (kd_m10_sayingBehind.at 8 rfl) rfl rfl ?_
  refine ok_getR (kd_m10_sayingBehind.at 9 rfl) kf10_54 sh_0 rfl (kr_0_10 _) ?_
  refine ok_iload_n 2 (kd_m10_sayingBehind.at 10 rfl) rfl rfl ?_
  refine ok_callVV (M' := m9_goOn) (as := [.int a2]) (st := []) (kd_m10_sayingBehind.at 11 rfl) kc10_178 sh_6 rfl rfl (by decide) (ok_m9_goOn 6 a2 sh_6 q1) (kfit_of (by decide)) rfl (Nat.le_of_ble_eq_true rfl) (fun q2 hq2 => ?_)
  refine ok_aload_n 0 (kd_m10_sayingBehind.at 12 rfl) rfl rfl ?_
  refine ok_getR (kd_m10_sayingBehind.at 13 rfl) kf10_54 sh_0 rfl (kr_0_10 _) ?_
  refine ok_getI (kd_m10_sayingBehind.at 14 rfl) kf10_181 sh_6 rfl ?_
  exact ok_ireturn (kd_m10_sayingBehind.at 15 rfl) rfl
def f_m10_sayAllBehind_L2   (k31 : kSt → Option kSt) (c1 : Int32) : Nat → Int32 → kSt → Option kSt
  | 0, _, _ => none
  | n + 1, v2, S =>
    if (S.1 1 2) ≤ v2 then
      k31  S
    else
      (f_m10_sayingBehind v2 c1 S).bind fun q2 =>
      kgi v2 5 (
        knx (kuI q2.2 16 v2.toNatClampNeg q2.1) fun S3 =>
        knx (v2 + 1) fun x4 =>
        f_m10_sayAllBehind_L2 k31 c1 n x4 S3
      )
theorem ok_m10_sayAllBehind_L2 {l : Launch} {G : kG} {E : kE}    (c1 : Int32) (k31 : kSt → Option kSt) (hk31 : ∀  (S : kSt), kOk l G E (kZ G E kjV) m10_sayAllBehind (kdp (5)) (k31  S) 31 [] [] S) : ∀ (n : Nat) (v2 : Int32) (S : kSt), kOk l G E (kZ G E kjV) m10_sayAllBehind (kdp (5)) (f_m10_sayAllBehind_L2 k31 c1 n v2 S) 2 [(0, .ref 0), (1, .int c1), (2, .int v2)] [] S := by
  intro n
  induction n with
  | zero => intro v2 S; exact ok_none
  | succ n ih =>
    intro v2 S
    rw [f_m10_sayAllBehind_L2]
    refine ok_iload_n 2 (kd_m10_sayAllBehind.at 2 rfl) rfl rfl ?_
    refine ok_aload_n 0 (kd_m10_sayAllBehind.at 3 rfl) rfl rfl ?_
    refine ok_getR (kd_m10_sayAllBehind.at 4 rfl) kf10_16 sh_0 rfl (kr_0_2 _) ?_
    refine ok_getI (kd_m10_sayAllBehind.at 5 rfl) kf10_112 sh_1 rfl ?_
    refine ok_icmp_ge (tgt := 31) (kd_m10_sayAllBehind.at 6 rfl) (by decide) (fun h1 => ?_) (fun h1 => ?_)
    · refine ok_sub (lv' := []) [] rfl ?_
      exact hk31  S
    · refine ok_aload_n 0 (kd_m10_sayAllBehind.at 7 rfl) rfl rfl ?_
      refine ok_getR (kd_m10_sayAllBehind.at 8 rfl) kf10_61 sh_0 rfl (kr_0_12 _) ?_
      refine ok_iload_n 2 (kd_m10_sayAllBehind.at 9 rfl) rfl rfl ?_
      refine ok_aload_n 0 (kd_m10_sayAllBehind.at 10 rfl) rfl rfl ?_
      refine ok_iload_n 2 (kd_m10_sayAllBehind.at 11 rfl) rfl rfl ?_
      refine ok_iload_n 1 (kd_m10_sayAllBehind.at 12 rfl) rfl rfl ?_
      refine ok_callVI (M' := m10_sayingBehind) (as := [.int v2, .int c1]) (st := [.int v2, .ref 16]) (kd_m10_sayAllBehind.at 13 rfl) kc10_184 sh_0 rfl rfl (by decide) (ok_m10_sayingBehind v2 c1 S) (kfit_of (by decide)) rfl (Nat.le_of_ble_eq_true rfl) (fun q2 hq2 => ?_)
      refine ok_iast (kd_m10_sayAllBehind.at 14 rfl) sh_16 ?_
      refine ok_nS (fun S3 hS3 => ?_)
      refine ok_nx (fun x4 hx4 => ?_)
      refine ok_iinc (v := x4) (lv' := [(2, .int x4), (0, .ref 0), (1, .int c1)]) 2 (kd_m10_sayAllBehind.at 15 rfl) rfl hx4.symm (by decide) rfl ?_
      refine ok_goto (tgt := 2) (kd_m10_sayAllBehind.at 16 rfl) (by decide) ?_
      refine ok_sub (lv' := [(0, .ref 0), (1, .int c1), (2, .int x4)]) [1, 2, 0] rfl ?_
      exact ih x4 S3
def f_m10_sayAllBehind (a1 : Int32) (S : kSt) : Option kSt :=
  f_m10_sayAllBehind_L2 
    (fun  (S5 : kSt) =>
      some S5
    )
    a1 kFU 0 S
theorem ok_m10_sayAllBehind {l : Launch} {G : kG} {E : kE} (a1 : Int32)  (S : kSt) : kFn l G E E kjV m10_sayAllBehind 5 [.ref 0, .int a1] S (f_m10_sayAllBehind a1 S) := by
  unfold f_m10_sayAllBehind
  refine kFn_of (by decide +kernel) (fun hG => Nat.le_of_ble_eq_true rfl) ?_
  show kOk _ _ _ _ _ _ _ _ [(0, .ref 0), (1, .int a1)] _ _
  refine ok_iconst (v := 0) (kd_m10_sayAllBehind.at 0 rfl) (by decide) ?_
  refine ok_istore_n (lv' := [(2, .int 0), (0, .ref 0), (1, .int a1)]) (kd_m10_sayAllBehind.at 1 rfl) rfl (by decide) rfl ?_
  refine ok_sub (lv' := [(0, .ref 0), (1, .int a1), (2, .int 0)]) [1, 2, 0] rfl ?_
  refine ok_m10_sayAllBehind_L2 a1 _ (fun S5 => ?_) kFU 0 S
  exact ok_return (kd_m10_sayAllBehind.at 17 rfl) rfl
def f_m10_says (a1 : Int32) (a2 : Int32) (S : kSt) : Option (Int32 × kSt) :=
  (f_m10_isPair a1 S).bind fun q1 =>
  (f_m10_upTo a2 60 q1.2).bind fun q2 =>
  (f_m10_may q1.1 q2.1 q2.2).bind fun q3 =>
  if q3.1 then
    (f_m10_sayingBehind a1 a2 q3.2).bind fun q5 =>
    some (q5.1, q5.2)
  else
    some ((-1), q3.2)
theorem ok_m10_says {l : Launch} {G : kG} {E : kE} (a1 : Int32) (a2 : Int32)  (S : kSt) : kFn l G E E kjI m10_says 5 [.ref 0, .int a1, .int a2] S (f_m10_says a1 a2 S) := by
  unfold f_m10_says
  refine kFn_of (by decide +kernel) (fun hG => Nat.le_of_ble_eq_true rfl) ?_
  show kOk _ _ _ _ _ _ _ _ [(0, .ref 0), (1, .int a1), (2, .int a2)] _ _
  refine ok_aload_n 0 (kd_m10_says.at 0 rfl) rfl rfl ?_
  refine ok_aload_n 0 (kd_m10_says.at 1 rfl) rfl rfl ?_
  refine ok_iload_n 1 (kd_m10_says.at 2 rfl) rfl rfl ?_
  refine ok_callVB (M' := m10_isPair) (as := [.int a1]) (st := [.ref 0]) (kd_m10_says.at 3 rfl) kc10_115 sh_0 rfl rfl (by decide) (ok_m10_isPair a1 S) (kfit_of (by decide)) rfl (Nat.le_of_ble_eq_true rfl) (fun q1 hq1 => ?_)
  refine ok_iload_n 2 (kd_m10_says.at 4 rfl) rfl rfl ?_
  refine ok_bipush (v := 60) (kd_m10_says.at 5 rfl) (by decide) ?_
  refine ok_callSB (M' := m10_upTo) (as := [.int a2, .int 60]) (st := [.int (kb q1.1), .ref 0]) (kd_m10_says.at 6 rfl) kc10_126  rfl (by decide) (ok_m10_upTo a2 60 q1.2) (kfit_of (by decide)) rfl (Nat.le_of_ble_eq_true rfl) (fun q2 hq2 => ?_)
  refine ok_callVB (M' := m10_may) (as := [.int (kb q1.1), .int (kb q2.1)]) (st := []) (kd_m10_says.at 7 rfl) kc10_104 sh_0 rfl rfl (by decide) (ok_m10_may q1.1 q2.1 q2.2) (kfit_of (by decide)) rfl (Nat.le_of_ble_eq_true rfl) (fun q3 hq3 => ?_)
  refine ok_ifb_eq (tgt := 27) (kd_m10_says.at 8 rfl) (by decide) (fun h4 => ?_) (fun h4 => ?_)
  · refine ok_iconst (v := (-1)) (kd_m10_says.at 14 rfl) (by decide) ?_
    exact ok_ireturn (kd_m10_says.at 15 rfl) rfl
  · refine ok_aload_n 0 (kd_m10_says.at 9 rfl) rfl rfl ?_
    refine ok_iload_n 1 (kd_m10_says.at 10 rfl) rfl rfl ?_
    refine ok_iload_n 2 (kd_m10_says.at 11 rfl) rfl rfl ?_
    refine ok_callVI (M' := m10_sayingBehind) (as := [.int a1, .int a2]) (st := []) (kd_m10_says.at 12 rfl) kc10_184 sh_0 rfl rfl (by decide) (ok_m10_sayingBehind a1 a2 q3.2) (kfit_of (by decide)) rfl (Nat.le_of_ble_eq_true rfl) (fun q5 hq5 => ?_)
    refine ok_goto (tgt := 28) (kd_m10_says.at 13 rfl) (by decide) ?_
    exact ok_ireturn (kd_m10_says.at 15 rfl) rfl
def f_m10_saysAll_L41   (k70 : Int32 → kSt → Option (Int32 × kSt)) (c2 : Int32) : Nat → Int32 → Int32 → kSt → Option (Int32 × kSt)
  | 0, _, _, _ => none
  | n + 1, v3, v4, S =>
    if c2 < v4 then
      k70 v3 S
    else
      (f_m9_go 6 S).bind fun q7 =>
      knx (v3 + (q7.1 6 4)) fun x8 =>
      knx (v4 + 1) fun x9 =>
      f_m10_saysAll_L41 k70 c2 n x8 x9 q7
theorem ok_m10_saysAll_L41 {l : Launch} {G : kG} {E : kE}    (c2 : Int32) (k70 : Int32 → kSt → Option (Int32 × kSt)) (hk70 : ∀ (v3 : Int32) (S : kSt), kOk l G E (kZ G E kjI) m10_saysAll (kdp (3)) (k70 v3 S) 70 [(3, .int v3)] [] S) : ∀ (n : Nat) (v3 : Int32) (v4 : Int32) (S : kSt), kOk l G E (kZ G E kjI) m10_saysAll (kdp (3)) (f_m10_saysAll_L41 k70 c2 n v3 v4 S) 41 [(0, .ref 0), (2, .int c2), (3, .int v3), (4, .int v4)] [] S := by
  intro n
  induction n with
  | zero => intro v3 v4 S; exact ok_none
  | succ n ih =>
    intro v3 v4 S
    rw [f_m10_saysAll_L41]
    refine ok_iload 3 (kd_m10_saysAll.at 23 rfl) rfl ?_
    refine ok_iload_n 1 (kd_m10_saysAll.at 24 rfl) rfl rfl ?_
    refine ok_icmp_gt (tgt := 70) (kd_m10_saysAll.at 25 rfl) (by decide) (fun h6 => ?_) (fun h6 => ?_)
    · refine ok_sub (lv' := [(3, .int v3)]) [2] rfl ?_
      exact hk70 v3 S
    · refine ok_aload_n 0 (kd_m10_saysAll.at 26 rfl) rfl rfl ?_
      refine ok_getR (kd_m10_saysAll.at 27 rfl) kf10_54 sh_0 rfl (kr_0_10 _) ?_
      refine ok_callVV (M' := m9_go) (as := []) (st := []) (kd_m10_saysAll.at 28 rfl) kc10_188 sh_6 rfl rfl (by decide) (ok_m9_go 6 sh_6 S) (kfit_of (by decide)) rfl (Nat.le_of_ble_eq_true rfl) (fun q7 hq7 => ?_)
      refine ok_iload_n 2 (kd_m10_saysAll.at 29 rfl) rfl rfl ?_
      refine ok_aload_n 0 (kd_m10_saysAll.at 30 rfl) rfl rfl ?_
      refine ok_getR (kd_m10_saysAll.at 31 rfl) kf10_54 sh_0 rfl (kr_0_10 _) ?_
      refine ok_getI (kd_m10_saysAll.at 32 rfl) kf10_181 sh_6 rfl ?_
      refine ok_iadd (kd_m10_saysAll.at 33 rfl) ?_
      refine ok_topi (fun x8 hx8 => ?_)
      refine ok_istore_n (lv' := [(3, .int x8), (0, .ref 0), (2, .int c2), (4, .int v4)]) (kd_m10_saysAll.at 34 rfl) rfl (by decide) rfl ?_
      refine ok_nx (fun x9 hx9 => ?_)
      refine ok_iinc (v := x9) (lv' := [(4, .int x9), (3, .int x8), (0, .ref 0), (2, .int c2)]) 3 (kd_m10_saysAll.at 35 rfl) rfl hx9.symm (by decide) rfl ?_
      refine ok_goto (tgt := 41) (kd_m10_saysAll.at 36 rfl) (by decide) ?_
      refine ok_sub (lv' := [(0, .ref 0), (2, .int c2), (3, .int x8), (4, .int x9)]) [2, 3, 1, 0] rfl ?_
      exact ih x8 x9 q7
def f_m10_saysAll (a1 : Int32) (a2 : Int32) (S : kSt) : Option (Int32 × kSt) :=
  (f_m10_isPair a1 S).bind fun q1 =>
  (f_m10_upTo a2 60 q1.2).bind fun q2 =>
  (f_m10_may q1.1 q2.1 q2.2).bind fun q3 =>
  if q3.1 then
    (f_m9_begin 6 a1 q3.2).bind fun q5 =>
    f_m10_saysAll_L41 
      (fun (x10 : Int32) (S11 : kSt) =>
        some (x10, S11)
      )
      a2 kFU 0 1 q5
  else
    some ((-1), q3.2)
theorem ok_m10_saysAll {l : Launch} {G : kG} {E : kE} (a1 : Int32) (a2 : Int32)  (S : kSt) : kFn l G E E kjI m10_saysAll 3 [.ref 0, .int a1, .int a2] S (f_m10_saysAll a1 a2 S) := by
  unfold f_m10_saysAll
  refine kFn_of (by decide +kernel) (fun hG => Nat.le_of_ble_eq_true rfl) ?_
  show kOk _ _ _ _ _ _ _ _ [(0, .ref 0), (1, .int a1), (2, .int a2)] _ _
  refine ok_aload_n 0 (kd_m10_saysAll.at 0 rfl) rfl rfl ?_
  refine ok_aload_n 0 (kd_m10_saysAll.at 1 rfl) rfl rfl ?_
  refine ok_iload_n 1 (kd_m10_saysAll.at 2 rfl) rfl rfl ?_
  refine ok_callVB (M' := m10_isPair) (as := [.int a1]) (st := [.ref 0]) (kd_m10_saysAll.at 3 rfl) kc10_115 sh_0 rfl rfl (by decide) (ok_m10_isPair a1 S) (kfit_of (by decide)) rfl (Nat.le_of_ble_eq_true rfl) (fun q1 hq1 => ?_)
  refine ok_iload_n 2 (kd_m10_saysAll.at 4 rfl) rfl rfl ?_
  refine ok_bipush (v := 60) (kd_m10_saysAll.at 5 rfl) (by decide) ?_
  refine ok_callSB (M' := m10_upTo) (as := [.int a2, .int 60]) (st := [.int (kb q1.1), .ref 0]) (kd_m10_saysAll.at 6 rfl) kc10_126  rfl (by decide) (ok_m10_upTo a2 60 q1.2) (kfit_of (by decide)) rfl (Nat.le_of_ble_eq_true rfl) (fun q2 hq2 => ?_)
  refine ok_callVB (M' := m10_may) (as := [.int (kb q1.1), .int (kb q2.1)]) (st := []) (kd_m10_saysAll.at 7 rfl) kc10_104 sh_0 rfl rfl (by decide) (ok_m10_may q1.1 q2.1 q2.2) (kfit_of (by decide)) rfl (Nat.le_of_ble_eq_true rfl) (fun q3 hq3 => ?_)
  refine ok_ifb_ne (tgt := 20) (kd_m10_saysAll.at 8 rfl) (by decide) (fun h4 => ?_) (fun h4 => ?_)
  · refine ok_iconst (v := 0) (kd_m10_saysAll.at 11 rfl) (by decide) ?_
    refine ok_istore_n (lv' := [(3, .int 0), (0, .ref 0), (1, .int a1), (2, .int a2)]) (kd_m10_saysAll.at 12 rfl) rfl (by decide) rfl ?_
    refine ok_aload_n 1 (kd_m10_saysAll.at 13 rfl) rfl rfl ?_
    refine ok_getR (kd_m10_saysAll.at 14 rfl) kf10_54 sh_0 rfl (kr_0_10 _) ?_
    refine ok_aload_n 1 (kd_m10_saysAll.at 15 rfl) rfl rfl ?_
    refine ok_getR (kd_m10_saysAll.at 16 rfl) kf10_16 sh_0 rfl (kr_0_2 _) ?_
    refine ok_aload_n 1 (kd_m10_saysAll.at 17 rfl) rfl rfl ?_
    refine ok_getR (kd_m10_saysAll.at 18 rfl) kf10_35 sh_0 rfl (kr_0_6 _) ?_
    refine ok_iload_n 2 (kd_m10_saysAll.at 19 rfl) rfl rfl ?_
    refine ok_callVV (M' := m9_begin) (as := [.ref 1, .ref 4, .int a1]) (st := []) (kd_m10_saysAll.at 20 rfl) kc10_175 sh_6 rfl rfl (by decide) (ok_m9_begin 6 a1 sh_6 q3.2) (kfit_of (by decide)) rfl (Nat.le_of_ble_eq_true rfl) (fun q5 hq5 => ?_)
    refine ok_iconst (v := 1) (kd_m10_saysAll.at 21 rfl) (by decide) ?_
    refine ok_istore (lv' := [(4, .int 1), (3, .int 0), (0, .ref 0), (1, .int a1), (2, .int a2)]) (kd_m10_saysAll.at 22 rfl) (by decide) rfl ?_
    refine ok_sub (lv' := [(0, .ref 0), (2, .int a2), (3, .int 0), (4, .int 1)]) [2, 4, 1, 0] rfl ?_
    refine ok_m10_saysAll_L41 a2 _ (fun x10 S11 => ?_) kFU 0 1 q5
    refine ok_iload_n 0 (kd_m10_saysAll.at 37 rfl) rfl rfl ?_
    exact ok_ireturn (kd_m10_saysAll.at 38 rfl) rfl
  · refine ok_iconst (v := (-1)) (kd_m10_saysAll.at 9 rfl) (by decide) ?_
    exact ok_ireturn (kd_m10_saysAll.at 10 rfl) rfl
def f_m10_moreIn_L32   (k48 : Int32 → kSt → Option (Int32 × kSt)) (k63 : kSt → Option (Int32 × kSt))  : Nat → Int32 → kSt → Option (Int32 × kSt)
  | 0, _, _ => none
  | n + 1, v2, S =>
    if 60 < v2 then
      k63  S
    else
      (f_m9_isMore 6 S).bind fun q6 =>
      if q6.1 then
        k48 v2 q6.2
      else
        (f_m9_go 6 q6.2).bind fun q8 =>
        knx (v2 + 1) fun x9 =>
        f_m10_moreIn_L32 k48 k63 n x9 q8
theorem ok_m10_moreIn_L32 {l : Launch} {G : kG} {E : kE}     (k48 : Int32 → kSt → Option (Int32 × kSt)) (k63 : kSt → Option (Int32 × kSt)) (hk48 : ∀ (v2 : Int32) (S : kSt), kOk l G E (kZ G E kjI) m10_moreIn (kdp (3)) (k48 v2 S) 48 [(2, .int v2)] [] S) (hk63 : ∀  (S : kSt), kOk l G E (kZ G E kjI) m10_moreIn (kdp (3)) (k63  S) 63 [] [] S) : ∀ (n : Nat) (v2 : Int32) (S : kSt), kOk l G E (kZ G E kjI) m10_moreIn (kdp (3)) (f_m10_moreIn_L32 k48 k63 n v2 S) 32 [(0, .ref 0), (2, .int v2)] [] S := by
  intro n
  induction n with
  | zero => intro v2 S; exact ok_none
  | succ n ih =>
    intro v2 S
    rw [f_m10_moreIn_L32]
    refine ok_iload_n 1 (kd_m10_moreIn.at 18 rfl) rfl rfl ?_
    refine ok_bipush (v := 60) (kd_m10_moreIn.at 19 rfl) (by decide) ?_
    refine ok_icmp_gt (tgt := 63) (kd_m10_moreIn.at 20 rfl) (by decide) (fun h5 => ?_) (fun h5 => ?_)
    · refine ok_sub (lv' := []) [] rfl ?_
      exact hk63  S
    · refine ok_aload_n 0 (kd_m10_moreIn.at 21 rfl) rfl rfl ?_
      refine ok_getR (kd_m10_moreIn.at 22 rfl) kf10_54 sh_0 rfl (kr_0_10 _) ?_
      refine ok_callVB (M' := m9_isMore) (as := []) (st := []) (kd_m10_moreIn.at 23 rfl) kc10_191 sh_6 rfl rfl (by decide) (ok_m9_isMore 6 sh_6 S) (kfit_of (by decide)) rfl (Nat.le_of_ble_eq_true rfl) (fun q6 hq6 => ?_)
      refine ok_ifb_eq (tgt := 50) (kd_m10_moreIn.at 24 rfl) (by decide) (fun h7 => ?_) (fun h7 => ?_)
      · refine ok_aload_n 0 (kd_m10_moreIn.at 27 rfl) rfl rfl ?_
        refine ok_getR (kd_m10_moreIn.at 28 rfl) kf10_54 sh_0 rfl (kr_0_10 _) ?_
        refine ok_callVV (M' := m9_go) (as := []) (st := []) (kd_m10_moreIn.at 29 rfl) kc10_188 sh_6 rfl rfl (by decide) (ok_m9_go 6 sh_6 q6.2) (kfit_of (by decide)) rfl (Nat.le_of_ble_eq_true rfl) (fun q8 hq8 => ?_)
        refine ok_nx (fun x9 hx9 => ?_)
        refine ok_iinc (v := x9) (lv' := [(2, .int x9), (0, .ref 0)]) 1 (kd_m10_moreIn.at 30 rfl) rfl hx9.symm (by decide) rfl ?_
        refine ok_goto (tgt := 32) (kd_m10_moreIn.at 31 rfl) (by decide) ?_
        refine ok_sub (lv' := [(0, .ref 0), (2, .int x9)]) [1, 0] rfl ?_
        exact ih x9 q8
      · refine ok_sub (lv' := [(2, .int v2)]) [1] rfl ?_
        exact hk48 v2 q6.2
def f_m10_moreIn (a1 : Int32) (S : kSt) : Option (Int32 × kSt) :=
  (f_m10_isPair a1 S).bind fun q1 =>
  (f_m10_may_ q1.1 q1.2).bind fun q2 =>
  if q2.1 then
    (f_m9_begin 6 a1 q2.2).bind fun q4 =>
    f_m10_moreIn_L32 
      (fun (x10 : Int32) (S11 : kSt) =>
        some (x10, S11)
      )
      (fun  (S12 : kSt) =>
        some ((-2), S12)
      )
      kFU 0 q4
  else
    some ((-1), q2.2)
theorem ok_m10_moreIn {l : Launch} {G : kG} {E : kE} (a1 : Int32)  (S : kSt) : kFn l G E E kjI m10_moreIn 3 [.ref 0, .int a1] S (f_m10_moreIn a1 S) := by
  unfold f_m10_moreIn
  refine kFn_of (by decide +kernel) (fun hG => Nat.le_of_ble_eq_true rfl) ?_
  show kOk _ _ _ _ _ _ _ _ [(0, .ref 0), (1, .int a1)] _ _
  refine ok_aload_n 0 (kd_m10_moreIn.at 0 rfl) rfl rfl ?_
  refine ok_aload_n 0 (kd_m10_moreIn.at 1 rfl) rfl rfl ?_
  refine ok_iload_n 1 (kd_m10_moreIn.at 2 rfl) rfl rfl ?_
  refine ok_callVB (M' := m10_isPair) (as := [.int a1]) (st := [.ref 0]) (kd_m10_moreIn.at 3 rfl) kc10_115 sh_0 rfl rfl (by decide) (ok_m10_isPair a1 S) (kfit_of (by decide)) rfl (Nat.le_of_ble_eq_true rfl) (fun q1 hq1 => ?_)
  refine ok_callVB (M' := m10_may_) (as := [.int (kb q1.1)]) (st := []) (kd_m10_moreIn.at 4 rfl) kc10_154 sh_0 rfl rfl (by decide) (ok_m10_may_ q1.1 q1.2) (kfit_of (by decide)) rfl (Nat.le_of_ble_eq_true rfl) (fun q2 hq2 => ?_)
  refine ok_ifb_ne (tgt := 14) (kd_m10_moreIn.at 5 rfl) (by decide) (fun h3 => ?_) (fun h3 => ?_)
  · refine ok_aload_n 0 (kd_m10_moreIn.at 8 rfl) rfl rfl ?_
    refine ok_getR (kd_m10_moreIn.at 9 rfl) kf10_54 sh_0 rfl (kr_0_10 _) ?_
    refine ok_aload_n 0 (kd_m10_moreIn.at 10 rfl) rfl rfl ?_
    refine ok_getR (kd_m10_moreIn.at 11 rfl) kf10_16 sh_0 rfl (kr_0_2 _) ?_
    refine ok_aload_n 0 (kd_m10_moreIn.at 12 rfl) rfl rfl ?_
    refine ok_getR (kd_m10_moreIn.at 13 rfl) kf10_35 sh_0 rfl (kr_0_6 _) ?_
    refine ok_iload_n 1 (kd_m10_moreIn.at 14 rfl) rfl rfl ?_
    refine ok_callVV (M' := m9_begin) (as := [.ref 1, .ref 4, .int a1]) (st := []) (kd_m10_moreIn.at 15 rfl) kc10_175 sh_6 rfl rfl (by decide) (ok_m9_begin 6 a1 sh_6 q2.2) (kfit_of (by decide)) rfl (Nat.le_of_ble_eq_true rfl) (fun q4 hq4 => ?_)
    refine ok_iconst (v := 0) (kd_m10_moreIn.at 16 rfl) (by decide) ?_
    refine ok_istore_n (lv' := [(2, .int 0), (0, .ref 0), (1, .int a1)]) (kd_m10_moreIn.at 17 rfl) rfl (by decide) rfl ?_
    refine ok_sub (lv' := [(0, .ref 0), (2, .int 0)]) [1, 0] rfl ?_
    refine ok_m10_moreIn_L32 _ _ (fun x10 S11 => ?_) (fun S12 => ?_) kFU 0 q4
    · refine ok_iload_n 0 (kd_m10_moreIn.at 25 rfl) rfl rfl ?_
      exact ok_ireturn (kd_m10_moreIn.at 26 rfl) rfl
    · refine ok_bipush (v := (-2)) (kd_m10_moreIn.at 32 rfl) (by decide) ?_
      exact ok_ireturn (kd_m10_moreIn.at 33 rfl) rfl
  · refine ok_iconst (v := (-1)) (kd_m10_moreIn.at 6 rfl) (by decide) ?_
    exact ok_ireturn (kd_m10_moreIn.at 7 rfl) rfl
def f_m10_moreTimes (a1 : Int32) (a2 : Int32) (S : kSt) : Option (Int32 × kSt) :=
  (f_m10_isPair a1 S).bind fun q1 =>
  (f_m10_upTo a2 60 q1.2).bind fun q2 =>
  (f_m10_may q1.1 q2.1 q2.2).bind fun q3 =>
  if q3.1 then
    (f_m9_begin 6 a1 q3.2).bind fun q5 =>
    (f_m9_countMore 6 a2 q5).bind fun q6 =>
    some (q6.1, q6.2)
  else
    some ((-1), q3.2)
theorem ok_m10_moreTimes {l : Launch} {G : kG} {E : kE} (a1 : Int32) (a2 : Int32)  (S : kSt) : kFn l G E E kjI m10_moreTimes 4 [.ref 0, .int a1, .int a2] S (f_m10_moreTimes a1 a2 S) := by
  unfold f_m10_moreTimes
  refine kFn_of (by decide +kernel) (fun hG => Nat.le_of_ble_eq_true rfl) ?_
  show kOk _ _ _ _ _ _ _ _ [(0, .ref 0), (1, .int a1), (2, .int a2)] _ _
  refine ok_aload_n 0 (kd_m10_moreTimes.at 0 rfl) rfl rfl ?_
  refine ok_aload_n 0 (kd_m10_moreTimes.at 1 rfl) rfl rfl ?_
  refine ok_iload_n 1 (kd_m10_moreTimes.at 2 rfl) rfl rfl ?_
  refine ok_callVB (M' := m10_isPair) (as := [.int a1]) (st := [.ref 0]) (kd_m10_moreTimes.at 3 rfl) kc10_115 sh_0 rfl rfl (by decide) (ok_m10_isPair a1 S) (kfit_of (by decide)) rfl (Nat.le_of_ble_eq_true rfl) (fun q1 hq1 => ?_)
  refine ok_iload_n 2 (kd_m10_moreTimes.at 4 rfl) rfl rfl ?_
  refine ok_bipush (v := 60) (kd_m10_moreTimes.at 5 rfl) (by decide) ?_
  refine ok_callSB (M' := m10_upTo) (as := [.int a2, .int 60]) (st := [.int (kb q1.1), .ref 0]) (kd_m10_moreTimes.at 6 rfl) kc10_126  rfl (by decide) (ok_m10_upTo a2 60 q1.2) (kfit_of (by decide)) rfl (Nat.le_of_ble_eq_true rfl) (fun q2 hq2 => ?_)
  refine ok_callVB (M' := m10_may) (as := [.int (kb q1.1), .int (kb q2.1)]) (st := []) (kd_m10_moreTimes.at 7 rfl) kc10_104 sh_0 rfl rfl (by decide) (ok_m10_may q1.1 q2.1 q2.2) (kfit_of (by decide)) rfl (Nat.le_of_ble_eq_true rfl) (fun q3 hq3 => ?_)
  refine ok_ifb_ne (tgt := 20) (kd_m10_moreTimes.at 8 rfl) (by decide) (fun h4 => ?_) (fun h4 => ?_)
  · refine ok_aload_n 0 (kd_m10_moreTimes.at 11 rfl) rfl rfl ?_
    refine ok_getR (kd_m10_moreTimes.at 12 rfl) kf10_54 sh_0 rfl (kr_0_10 _) ?_
    refine ok_aload_n 0 (kd_m10_moreTimes.at 13 rfl) rfl rfl ?_
    refine ok_getR (kd_m10_moreTimes.at 14 rfl) kf10_16 sh_0 rfl (kr_0_2 _) ?_
    refine ok_aload_n 0 (kd_m10_moreTimes.at 15 rfl) rfl rfl ?_
    refine ok_getR (kd_m10_moreTimes.at 16 rfl) kf10_35 sh_0 rfl (kr_0_6 _) ?_
    refine ok_iload_n 1 (kd_m10_moreTimes.at 17 rfl) rfl rfl ?_
    refine ok_callVV (M' := m9_begin) (as := [.ref 1, .ref 4, .int a1]) (st := []) (kd_m10_moreTimes.at 18 rfl) kc10_175 sh_6 rfl rfl (by decide) (ok_m9_begin 6 a1 sh_6 q3.2) (kfit_of (by decide)) rfl (Nat.le_of_ble_eq_true rfl) (fun q5 hq5 => ?_)
    refine ok_aload_n 0 (kd_m10_moreTimes.at 19 rfl) rfl rfl ?_
    refine ok_getR (kd_m10_moreTimes.at 20 rfl) kf10_54 sh_0 rfl (kr_0_10 _) ?_
    refine ok_iload_n 2 (kd_m10_moreTimes.at 21 rfl) rfl rfl ?_
    refine ok_callVI (M' := m9_countMore) (as := [.int a2]) (st := []) (kd_m10_moreTimes.at 22 rfl) kc10_194 sh_6 rfl rfl (by decide) (ok_m9_countMore 6 a2 sh_6 q5) (kfit_of (by decide)) rfl (Nat.le_of_ble_eq_true rfl) (fun q6 hq6 => ?_)
    exact ok_ireturn (kd_m10_moreTimes.at 23 rfl) rfl
  · refine ok_iconst (v := (-1)) (kd_m10_moreTimes.at 9 rfl) (by decide) ?_
    exact ok_ireturn (kd_m10_moreTimes.at 10 rfl) rfl
def f_m10_goRound (a1 : Int32) (S : kSt) : Option kSt :=
  (f_m9_begin 6 a1 S).bind fun q1 =>
  (f_m8_follow  q1).bind fun q2 =>
  some q2
theorem ok_m10_goRound {l : Launch} {G : kG} {E : kE} (a1 : Int32)  (S : kSt) : kFn l G E E kjV m10_goRound 4 [.ref 0, .int a1] S (f_m10_goRound a1 S) := by
  unfold f_m10_goRound
  refine kFn_of (by decide +kernel) (fun hG => Nat.le_of_ble_eq_true rfl) ?_
  show kOk _ _ _ _ _ _ _ _ [(0, .ref 0), (1, .int a1)] _ _
  refine ok_aload_n 0 (kd_m10_goRound.at 0 rfl) rfl rfl ?_
  refine ok_getR (kd_m10_goRound.at 1 rfl) kf10_54 sh_0 rfl (kr_0_10 _) ?_
  refine ok_aload_n 0 (kd_m10_goRound.at 2 rfl) rfl rfl ?_
  refine ok_getR (kd_m10_goRound.at 3 rfl) kf10_16 sh_0 rfl (kr_0_2 _) ?_
  refine ok_aload_n 0 (kd_m10_goRound.at 4 rfl) rfl rfl ?_
  refine ok_getR (kd_m10_goRound.at 5 rfl) kf10_35 sh_0 rfl (kr_0_6 _) ?_
  refine ok_iload_n 1 (kd_m10_goRound.at 6 rfl) rfl rfl ?_
  refine ok_callVV (M' := m9_begin) (as := [.ref 1, .ref 4, .int a1]) (st := []) (kd_m10_goRound.at 7 rfl) kc10_175 sh_6 rfl rfl (by decide) (ok_m9_begin 6 a1 sh_6 S) (kfit_of (by decide)) rfl (Nat.le_of_ble_eq_true rfl) (fun q1 hq1 => ?_)
  refine ok_aload_n 0 (kd_m10_goRound.at 8 rfl) rfl rfl ?_
  refine ok_getR (kd_m10_goRound.at 9 rfl) kf10_68 sh_0 rfl (kr_0_13 _) ?_
  refine ok_aload_n 0 (kd_m10_goRound.at 10 rfl) rfl rfl ?_
  refine ok_getR (kd_m10_goRound.at 11 rfl) kf10_54 sh_0 rfl (kr_0_10 _) ?_
  refine ok_callVV (M' := m8_follow) (as := [.ref 6]) (st := []) (kd_m10_goRound.at 12 rfl) kc10_197 sh_8 rfl rfl (by decide) (ok_m8_follow  q1) (kfit_of (by decide)) rfl (Nat.le_of_ble_eq_true rfl) (fun q2 hq2 => ?_)
  exact ok_return (kd_m10_goRound.at 13 rfl) rfl
def f_m10_settles (a1 : Int32) (S : kSt) : Option (Int32 × kSt) :=
  (f_m10_isPair a1 S).bind fun q1 =>
  (f_m10_may_ q1.1 q1.2).bind fun q2 =>
  if q2.1 then
    (f_m10_goRound a1 q2.2).bind fun q4 =>
    some (q4.1 8 2, q4)
  else
    some ((-1), q2.2)
theorem ok_m10_settles {l : Launch} {G : kG} {E : kE} (a1 : Int32)  (S : kSt) : kFn l G E E kjI m10_settles 5 [.ref 0, .int a1] S (f_m10_settles a1 S) := by
  unfold f_m10_settles
  refine kFn_of (by decide +kernel) (fun hG => Nat.le_of_ble_eq_true rfl) ?_
  show kOk _ _ _ _ _ _ _ _ [(0, .ref 0), (1, .int a1)] _ _
  refine ok_aload_n 0 (kd_m10_settles.at 0 rfl) rfl rfl ?_
  refine ok_aload_n 0 (kd_m10_settles.at 1 rfl) rfl rfl ?_
  refine ok_iload_n 1 (kd_m10_settles.at 2 rfl) rfl rfl ?_
  refine ok_callVB (M' := m10_isPair) (as := [.int a1]) (st := [.ref 0]) (kd_m10_settles.at 3 rfl) kc10_115 sh_0 rfl rfl (by decide) (ok_m10_isPair a1 S) (kfit_of (by decide)) rfl (Nat.le_of_ble_eq_true rfl) (fun q1 hq1 => ?_)
  refine ok_callVB (M' := m10_may_) (as := [.int (kb q1.1)]) (st := []) (kd_m10_settles.at 4 rfl) kc10_154 sh_0 rfl rfl (by decide) (ok_m10_may_ q1.1 q1.2) (kfit_of (by decide)) rfl (Nat.le_of_ble_eq_true rfl) (fun q2 hq2 => ?_)
  refine ok_ifb_ne (tgt := 14) (kd_m10_settles.at 5 rfl) (by decide) (fun h3 => ?_) (fun h3 => ?_)
  · refine ok_aload_n 0 (kd_m10_settles.at 8 rfl) rfl rfl ?_
    refine ok_iload_n 1 (kd_m10_settles.at 9 rfl) rfl rfl ?_
    refine ok_callVV (M' := m10_goRound) (as := [.int a1]) (st := []) (kd_m10_settles.at 10 rfl) kc10_201 sh_0 rfl rfl (by decide) (ok_m10_goRound a1 q2.2) (kfit_of (by decide)) rfl (Nat.le_of_ble_eq_true rfl) (fun q4 hq4 => ?_)
    refine ok_aload_n 0 (kd_m10_settles.at 11 rfl) rfl rfl ?_
    refine ok_getR (kd_m10_settles.at 12 rfl) kf10_68 sh_0 rfl (kr_0_13 _) ?_
    refine ok_getI (kd_m10_settles.at 13 rfl) kf10_204 sh_8 rfl ?_
    exact ok_ireturn (kd_m10_settles.at 14 rfl) rfl
  · refine ok_iconst (v := (-1)) (kd_m10_settles.at 6 rfl) (by decide) ?_
    exact ok_ireturn (kd_m10_settles.at 7 rfl) rfl
def f_m10_round (a1 : Int32) (S : kSt) : Option (Int32 × kSt) :=
  (f_m10_isPair a1 S).bind fun q1 =>
  (f_m10_may_ q1.1 q1.2).bind fun q2 =>
  if q2.1 then
    (f_m10_goRound a1 q2.2).bind fun q4 =>
    some (q4.1 8 3, q4)
  else
    some ((-1), q2.2)
theorem ok_m10_round {l : Launch} {G : kG} {E : kE} (a1 : Int32)  (S : kSt) : kFn l G E E kjI m10_round 5 [.ref 0, .int a1] S (f_m10_round a1 S) := by
  unfold f_m10_round
  refine kFn_of (by decide +kernel) (fun hG => Nat.le_of_ble_eq_true rfl) ?_
  show kOk _ _ _ _ _ _ _ _ [(0, .ref 0), (1, .int a1)] _ _
  refine ok_aload_n 0 (kd_m10_round.at 0 rfl) rfl rfl ?_
  refine ok_aload_n 0 (kd_m10_round.at 1 rfl) rfl rfl ?_
  refine ok_iload_n 1 (kd_m10_round.at 2 rfl) rfl rfl ?_
  refine ok_callVB (M' := m10_isPair) (as := [.int a1]) (st := [.ref 0]) (kd_m10_round.at 3 rfl) kc10_115 sh_0 rfl rfl (by decide) (ok_m10_isPair a1 S) (kfit_of (by decide)) rfl (Nat.le_of_ble_eq_true rfl) (fun q1 hq1 => ?_)
  refine ok_callVB (M' := m10_may_) (as := [.int (kb q1.1)]) (st := []) (kd_m10_round.at 4 rfl) kc10_154 sh_0 rfl rfl (by decide) (ok_m10_may_ q1.1 q1.2) (kfit_of (by decide)) rfl (Nat.le_of_ble_eq_true rfl) (fun q2 hq2 => ?_)
  refine ok_ifb_ne (tgt := 14) (kd_m10_round.at 5 rfl) (by decide) (fun h3 => ?_) (fun h3 => ?_)
  · refine ok_aload_n 0 (kd_m10_round.at 8 rfl) rfl rfl ?_
    refine ok_iload_n 1 (kd_m10_round.at 9 rfl) rfl rfl ?_
    refine ok_callVV (M' := m10_goRound) (as := [.int a1]) (st := []) (kd_m10_round.at 10 rfl) kc10_201 sh_0 rfl rfl (by decide) (ok_m10_goRound a1 q2.2) (kfit_of (by decide)) rfl (Nat.le_of_ble_eq_true rfl) (fun q4 hq4 => ?_)
    refine ok_aload_n 0 (kd_m10_round.at 11 rfl) rfl rfl ?_
    refine ok_getR (kd_m10_round.at 12 rfl) kf10_68 sh_0 rfl (kr_0_13 _) ?_
    refine ok_getI (kd_m10_round.at 13 rfl) kf10_207 sh_8 rfl ?_
    exact ok_ireturn (kd_m10_round.at 14 rfl) rfl
  · refine ok_iconst (v := (-1)) (kd_m10_round.at 6 rfl) (by decide) ?_
    exact ok_ireturn (kd_m10_round.at 7 rfl) rfl
def f_m10_saysLate (a1 : Int32) (a2 : Int32) (S : kSt) : Option (Int32 × kSt) :=
  (f_m10_isPair a1 S).bind fun q1 =>
  (f_m10_upTo a2 2000000000 q1.2).bind fun q2 =>
  (f_m10_may q1.1 q2.1 q2.2).bind fun q3 =>
  if q3.1 then
    (f_m10_goRound a1 q3.2).bind fun q5 =>
    (f_m8_saying a2 q5).bind fun q6 =>
    some (q6.1, q6.2)
  else
    some ((-1), q3.2)
theorem ok_m10_saysLate {l : Launch} {G : kG} {E : kE} (a1 : Int32) (a2 : Int32)  (S : kSt) : kFn l G E E kjI m10_saysLate 5 [.ref 0, .int a1, .int a2] S (f_m10_saysLate a1 a2 S) := by
  unfold f_m10_saysLate
  refine kFn_of (by decide +kernel) (fun hG => Nat.le_of_ble_eq_true rfl) ?_
  show kOk _ _ _ _ _ _ _ _ [(0, .ref 0), (1, .int a1), (2, .int a2)] _ _
  refine ok_aload_n 0 (kd_m10_saysLate.at 0 rfl) rfl rfl ?_
  refine ok_aload_n 0 (kd_m10_saysLate.at 1 rfl) rfl rfl ?_
  refine ok_iload_n 1 (kd_m10_saysLate.at 2 rfl) rfl rfl ?_
  refine ok_callVB (M' := m10_isPair) (as := [.int a1]) (st := [.ref 0]) (kd_m10_saysLate.at 3 rfl) kc10_115 sh_0 rfl rfl (by decide) (ok_m10_isPair a1 S) (kfit_of (by decide)) rfl (Nat.le_of_ble_eq_true rfl) (fun q1 hq1 => ?_)
  refine ok_iload_n 2 (kd_m10_saysLate.at 4 rfl) rfl rfl ?_
  refine ok_ldc (kd_m10_saysLate.at 5 rfl) kco_10_210 ?_
  refine ok_callSB (M' := m10_upTo) (as := [.int a2, .int 2000000000]) (st := [.int (kb q1.1), .ref 0]) (kd_m10_saysLate.at 6 rfl) kc10_126  rfl (by decide) (ok_m10_upTo a2 2000000000 q1.2) (kfit_of (by decide)) rfl (Nat.le_of_ble_eq_true rfl) (fun q2 hq2 => ?_)
  refine ok_callVB (M' := m10_may) (as := [.int (kb q1.1), .int (kb q2.1)]) (st := []) (kd_m10_saysLate.at 7 rfl) kc10_104 sh_0 rfl rfl (by decide) (ok_m10_may q1.1 q2.1 q2.2) (kfit_of (by decide)) rfl (Nat.le_of_ble_eq_true rfl) (fun q3 hq3 => ?_)
  refine ok_ifb_ne (tgt := 20) (kd_m10_saysLate.at 8 rfl) (by decide) (fun h4 => ?_) (fun h4 => ?_)
  · refine ok_aload_n 0 (kd_m10_saysLate.at 11 rfl) rfl rfl ?_
    refine ok_iload_n 1 (kd_m10_saysLate.at 12 rfl) rfl rfl ?_
    refine ok_callVV (M' := m10_goRound) (as := [.int a1]) (st := []) (kd_m10_saysLate.at 13 rfl) kc10_201 sh_0 rfl rfl (by decide) (ok_m10_goRound a1 q3.2) (kfit_of (by decide)) rfl (Nat.le_of_ble_eq_true rfl) (fun q5 hq5 => ?_)
    refine ok_aload_n 0 (kd_m10_saysLate.at 14 rfl) rfl rfl ?_
    refine ok_getR (kd_m10_saysLate.at 15 rfl) kf10_68 sh_0 rfl (kr_0_13 _) ?_
    refine ok_iload_n 2 (kd_m10_saysLate.at 16 rfl) rfl rfl ?_
    refine ok_callVI (M' := m8_saying) (as := [.int a2]) (st := []) (kd_m10_saysLate.at 17 rfl) kc10_211 sh_8 rfl rfl (by decide) (ok_m8_saying a2 q5) (kfit_of (by decide)) rfl (Nat.le_of_ble_eq_true rfl) (fun q6 hq6 => ?_)
    exact ok_ireturn (kd_m10_saysLate.at 18 rfl) rfl
  · refine ok_iconst (v := (-1)) (kd_m10_saysLate.at 9 rfl) (by decide) ?_
    exact ok_ireturn (kd_m10_saysLate.at 10 rfl) rfl
def f_m10_roundMost (a1 : Int32) (S : kSt) : Option (Int32 × kSt) :=
  (f_m10_isPair a1 S).bind fun q1 =>
  (f_m10_may_ q1.1 q1.2).bind fun q2 =>
  if q2.1 then
    (f_m10_goRound a1 q2.2).bind fun q4 =>
    (f_m8_most  q4).bind fun q5 =>
    some (q5.1, q5.2)
  else
    some ((-1), q2.2)
theorem ok_m10_roundMost {l : Launch} {G : kG} {E : kE} (a1 : Int32)  (S : kSt) : kFn l G E E kjI m10_roundMost 5 [.ref 0, .int a1] S (f_m10_roundMost a1 S) := by
  unfold f_m10_roundMost
  refine kFn_of (by decide +kernel) (fun hG => Nat.le_of_ble_eq_true rfl) ?_
  show kOk _ _ _ _ _ _ _ _ [(0, .ref 0), (1, .int a1)] _ _
  refine ok_aload_n 0 (kd_m10_roundMost.at 0 rfl) rfl rfl ?_
  refine ok_aload_n 0 (kd_m10_roundMost.at 1 rfl) rfl rfl ?_
  refine ok_iload_n 1 (kd_m10_roundMost.at 2 rfl) rfl rfl ?_
  refine ok_callVB (M' := m10_isPair) (as := [.int a1]) (st := [.ref 0]) (kd_m10_roundMost.at 3 rfl) kc10_115 sh_0 rfl rfl (by decide) (ok_m10_isPair a1 S) (kfit_of (by decide)) rfl (Nat.le_of_ble_eq_true rfl) (fun q1 hq1 => ?_)
  refine ok_callVB (M' := m10_may_) (as := [.int (kb q1.1)]) (st := []) (kd_m10_roundMost.at 4 rfl) kc10_154 sh_0 rfl rfl (by decide) (ok_m10_may_ q1.1 q1.2) (kfit_of (by decide)) rfl (Nat.le_of_ble_eq_true rfl) (fun q2 hq2 => ?_)
  refine ok_ifb_ne (tgt := 14) (kd_m10_roundMost.at 5 rfl) (by decide) (fun h3 => ?_) (fun h3 => ?_)
  · refine ok_aload_n 0 (kd_m10_roundMost.at 8 rfl) rfl rfl ?_
    refine ok_iload_n 1 (kd_m10_roundMost.at 9 rfl) rfl rfl ?_
    refine ok_callVV (M' := m10_goRound) (as := [.int a1]) (st := []) (kd_m10_roundMost.at 10 rfl) kc10_201 sh_0 rfl rfl (by decide) (ok_m10_goRound a1 q2.2) (kfit_of (by decide)) rfl (Nat.le_of_ble_eq_true rfl) (fun q4 hq4 => ?_)
    refine ok_aload_n 0 (kd_m10_roundMost.at 11 rfl) rfl rfl ?_
    refine ok_getR (kd_m10_roundMost.at 12 rfl) kf10_68 sh_0 rfl (kr_0_13 _) ?_
    refine ok_callVI (M' := m8_most) (as := []) (st := []) (kd_m10_roundMost.at 13 rfl) kc10_214 sh_8 rfl rfl (by decide) (ok_m8_most  q4) (kfit_of (by decide)) rfl (Nat.le_of_ble_eq_true rfl) (fun q5 hq5 => ?_)
    exact ok_ireturn (kd_m10_roundMost.at 14 rfl) rfl
  · refine ok_iconst (v := (-1)) (kd_m10_roundMost.at 6 rfl) (by decide) ?_
    exact ok_ireturn (kd_m10_roundMost.at 7 rfl) rfl
def f_m10_roundLeast (a1 : Int32) (S : kSt) : Option (Int32 × kSt) :=
  (f_m10_isPair a1 S).bind fun q1 =>
  (f_m10_may_ q1.1 q1.2).bind fun q2 =>
  if q2.1 then
    (f_m10_goRound a1 q2.2).bind fun q4 =>
    (f_m8_least  q4).bind fun q5 =>
    some (q5.1, q5.2)
  else
    some ((-1), q2.2)
theorem ok_m10_roundLeast {l : Launch} {G : kG} {E : kE} (a1 : Int32)  (S : kSt) : kFn l G E E kjI m10_roundLeast 5 [.ref 0, .int a1] S (f_m10_roundLeast a1 S) := by
  unfold f_m10_roundLeast
  refine kFn_of (by decide +kernel) (fun hG => Nat.le_of_ble_eq_true rfl) ?_
  show kOk _ _ _ _ _ _ _ _ [(0, .ref 0), (1, .int a1)] _ _
  refine ok_aload_n 0 (kd_m10_roundLeast.at 0 rfl) rfl rfl ?_
  refine ok_aload_n 0 (kd_m10_roundLeast.at 1 rfl) rfl rfl ?_
  refine ok_iload_n 1 (kd_m10_roundLeast.at 2 rfl) rfl rfl ?_
  refine ok_callVB (M' := m10_isPair) (as := [.int a1]) (st := [.ref 0]) (kd_m10_roundLeast.at 3 rfl) kc10_115 sh_0 rfl rfl (by decide) (ok_m10_isPair a1 S) (kfit_of (by decide)) rfl (Nat.le_of_ble_eq_true rfl) (fun q1 hq1 => ?_)
  refine ok_callVB (M' := m10_may_) (as := [.int (kb q1.1)]) (st := []) (kd_m10_roundLeast.at 4 rfl) kc10_154 sh_0 rfl rfl (by decide) (ok_m10_may_ q1.1 q1.2) (kfit_of (by decide)) rfl (Nat.le_of_ble_eq_true rfl) (fun q2 hq2 => ?_)
  refine ok_ifb_ne (tgt := 14) (kd_m10_roundLeast.at 5 rfl) (by decide) (fun h3 => ?_) (fun h3 => ?_)
  · refine ok_aload_n 0 (kd_m10_roundLeast.at 8 rfl) rfl rfl ?_
    refine ok_iload_n 1 (kd_m10_roundLeast.at 9 rfl) rfl rfl ?_
    refine ok_callVV (M' := m10_goRound) (as := [.int a1]) (st := []) (kd_m10_roundLeast.at 10 rfl) kc10_201 sh_0 rfl rfl (by decide) (ok_m10_goRound a1 q2.2) (kfit_of (by decide)) rfl (Nat.le_of_ble_eq_true rfl) (fun q4 hq4 => ?_)
    refine ok_aload_n 0 (kd_m10_roundLeast.at 11 rfl) rfl rfl ?_
    refine ok_getR (kd_m10_roundLeast.at 12 rfl) kf10_68 sh_0 rfl (kr_0_13 _) ?_
    refine ok_callVI (M' := m8_least) (as := []) (st := []) (kd_m10_roundLeast.at 13 rfl) kc10_218 sh_8 rfl rfl (by decide) (ok_m8_least  q4) (kfit_of (by decide)) rfl (Nat.le_of_ble_eq_true rfl) (fun q5 hq5 => ?_)
    exact ok_ireturn (kd_m10_roundLeast.at 14 rfl) rfl
  · refine ok_iconst (v := (-1)) (kd_m10_roundLeast.at 6 rfl) (by decide) ?_
    exact ok_ireturn (kd_m10_roundLeast.at 7 rfl) rfl
def f_m10_turnsAbout_L43   (k84 : Int32 → kSt → Option (Int32 × kSt))  : Nat → Int32 → Bool → Int32 → kSt → Option (Int32 × kSt)
  | 0, _, _, _, _ => none
  | n + 1, v2, v3, v4, S =>
    if 60 < v4 then
      k84 v2 S
    else
      (f_m9_go 6 S).bind fun q7 =>
      (f_m9_isMore 6 q7).bind fun q8 =>
      knx (fun (x9 : Int32) (S10 : kSt) =>
        knx (v4 + 1) fun x11 =>
        f_m10_turnsAbout_L43 k84 n x9 q8.1 x11 S10
        ) fun j75 =>
      if (kb q8.1) = (kb v3) then
        j75 v2 q8.2
      else
        knx (v2 + 1) fun x13 =>
        j75 x13 q8.2
theorem ok_m10_turnsAbout_L43 {l : Launch} {G : kG} {E : kE}     (k84 : Int32 → kSt → Option (Int32 × kSt)) (hk84 : ∀ (v2 : Int32) (S : kSt), kOk l G E (kZ G E kjI) m10_turnsAbout (kdp (3)) (k84 v2 S) 84 [(2, .int v2)] [] S) : ∀ (n : Nat) (v2 : Int32) (v3 : Bool) (v4 : Int32) (S : kSt), kOk l G E (kZ G E kjI) m10_turnsAbout (kdp (3)) (f_m10_turnsAbout_L43 k84 n v2 v3 v4 S) 43 [(0, .ref 0), (2, .int v2), (3, .int (kb v3)), (4, .int v4)] [] S := by
  intro n
  induction n with
  | zero => intro v2 v3 v4 S; exact ok_none
  | succ n ih =>
    intro v2 v3 v4 S
    rw [f_m10_turnsAbout_L43]
    refine ok_iload 3 (kd_m10_turnsAbout.at 24 rfl) rfl ?_
    refine ok_bipush (v := 60) (kd_m10_turnsAbout.at 25 rfl) (by decide) ?_
    refine ok_icmp_gt (tgt := 84) (kd_m10_turnsAbout.at 26 rfl) (by decide) (fun h6 => ?_) (fun h6 => ?_)
    · refine ok_sub (lv' := [(2, .int v2)]) [1] rfl ?_
      exact hk84 v2 S
    · refine ok_aload_n 0 (kd_m10_turnsAbout.at 27 rfl) rfl rfl ?_
      refine ok_getR (kd_m10_turnsAbout.at 28 rfl) kf10_54 sh_0 rfl (kr_0_10 _) ?_
      refine ok_callVV (M' := m9_go) (as := []) (st := []) (kd_m10_turnsAbout.at 29 rfl) kc10_188 sh_6 rfl rfl (by decide) (ok_m9_go 6 sh_6 S) (kfit_of (by decide)) rfl (Nat.le_of_ble_eq_true rfl) (fun q7 hq7 => ?_)
      refine ok_aload_n 0 (kd_m10_turnsAbout.at 30 rfl) rfl rfl ?_
      refine ok_getR (kd_m10_turnsAbout.at 31 rfl) kf10_54 sh_0 rfl (kr_0_10 _) ?_
      refine ok_callVB (M' := m9_isMore) (as := []) (st := []) (kd_m10_turnsAbout.at 32 rfl) kc10_191 sh_6 rfl rfl (by decide) (ok_m9_isMore 6 sh_6 q7) (kfit_of (by decide)) rfl (Nat.le_of_ble_eq_true rfl) (fun q8 hq8 => ?_)
      refine ok_istore (lv' := [(5, .int (kb q8.1)), (0, .ref 0), (2, .int v2), (3, .int (kb v3)), (4, .int v4)]) (kd_m10_turnsAbout.at 33 rfl) (by decide) rfl ?_
      refine ok_iload 0 (kd_m10_turnsAbout.at 34 rfl) rfl ?_
      refine ok_iload_n 3 (kd_m10_turnsAbout.at 35 rfl) rfl rfl ?_
      refine ok_nx (fun j75 hj75 => ?_)
      have K75 : ∀ (x9 : Int32) (S10 : kSt), kOk l G E (kZ G E kjI) m10_turnsAbout (kdp (3)) (j75 x9 S10) 75 [(0, .ref 0), (2, .int x9), (4, .int v4), (5, .int (kb q8.1))] [] S10 := by
        subst hj75
        intro x9 S10
        refine ok_iload 3 (kd_m10_turnsAbout.at 38 rfl) rfl ?_
        refine ok_istore_n (lv' := [(3, .int (kb q8.1)), (0, .ref 0), (2, .int x9), (4, .int v4), (5, .int (kb q8.1))]) (kd_m10_turnsAbout.at 39 rfl) rfl (by decide) rfl ?_
        refine ok_nx (fun x11 hx11 => ?_)
        refine ok_iinc (v := x11) (lv' := [(4, .int x11), (3, .int (kb q8.1)), (0, .ref 0), (2, .int x9), (5, .int (kb q8.1))]) 3 (kd_m10_turnsAbout.at 40 rfl) rfl hx11.symm (by decide) rfl ?_
        refine ok_goto (tgt := 43) (kd_m10_turnsAbout.at 41 rfl) (by decide) ?_
        refine ok_sub (lv' := [(0, .ref 0), (2, .int x9), (3, .int (kb q8.1)), (4, .int x11)]) [2, 3, 1, 0] rfl ?_
        exact ih x9 q8.1 x11 S10
      clear hj75
      refine ok_icmp_eq (tgt := 75) (kd_m10_turnsAbout.at 36 rfl) (by decide) (fun h12 => ?_) (fun h12 => ?_)
      · refine ok_sub (lv' := [(0, .ref 0), (2, .int v2), (4, .int v4), (5, .int (kb q8.1))]) [1, 2, 4, 0] rfl ?_
        exact K75 v2 q8.2
      · refine ok_nx (fun x13 hx13 => ?_)
        refine ok_iinc (v := x13) (lv' := [(2, .int x13), (5, .int (kb q8.1)), (0, .ref 0), (3, .int (kb v3)), (4, .int v4)]) 2 (kd_m10_turnsAbout.at 37 rfl) rfl hx13.symm (by decide) rfl ?_
        refine ok_sub (lv' := [(0, .ref 0), (2, .int x13), (4, .int v4), (5, .int (kb q8.1))]) [2, 0, 4, 1] rfl ?_
        exact K75 x13 q8.2
def f_m10_turnsAbout (a1 : Int32) (S : kSt) : Option (Int32 × kSt) :=
  (f_m10_isPair a1 S).bind fun q1 =>
  (f_m10_may_ q1.1 q1.2).bind fun q2 =>
  if q2.1 then
    (f_m9_begin 6 a1 q2.2).bind fun q4 =>
    (f_m9_isMore 6 q4).bind fun q5 =>
    f_m10_turnsAbout_L43 
      (fun (x14 : Int32) (S15 : kSt) =>
        some (x14, S15)
      )
      kFU 0 q5.1 1 q5.2
  else
    some ((-1), q2.2)
theorem ok_m10_turnsAbout {l : Launch} {G : kG} {E : kE} (a1 : Int32)  (S : kSt) : kFn l G E E kjI m10_turnsAbout 3 [.ref 0, .int a1] S (f_m10_turnsAbout a1 S) := by
  unfold f_m10_turnsAbout
  refine kFn_of (by decide +kernel) (fun hG => Nat.le_of_ble_eq_true rfl) ?_
  show kOk _ _ _ _ _ _ _ _ [(0, .ref 0), (1, .int a1)] _ _
  refine ok_aload_n 0 (kd_m10_turnsAbout.at 0 rfl) rfl rfl ?_
  refine ok_aload_n 0 (kd_m10_turnsAbout.at 1 rfl) rfl rfl ?_
  refine ok_iload_n 1 (kd_m10_turnsAbout.at 2 rfl) rfl rfl ?_
  refine ok_callVB (M' := m10_isPair) (as := [.int a1]) (st := [.ref 0]) (kd_m10_turnsAbout.at 3 rfl) kc10_115 sh_0 rfl rfl (by decide) (ok_m10_isPair a1 S) (kfit_of (by decide)) rfl (Nat.le_of_ble_eq_true rfl) (fun q1 hq1 => ?_)
  refine ok_callVB (M' := m10_may_) (as := [.int (kb q1.1)]) (st := []) (kd_m10_turnsAbout.at 4 rfl) kc10_154 sh_0 rfl rfl (by decide) (ok_m10_may_ q1.1 q1.2) (kfit_of (by decide)) rfl (Nat.le_of_ble_eq_true rfl) (fun q2 hq2 => ?_)
  refine ok_ifb_ne (tgt := 14) (kd_m10_turnsAbout.at 5 rfl) (by decide) (fun h3 => ?_) (fun h3 => ?_)
  · refine ok_iconst (v := 0) (kd_m10_turnsAbout.at 8 rfl) (by decide) ?_
    refine ok_istore_n (lv' := [(2, .int 0), (0, .ref 0), (1, .int a1)]) (kd_m10_turnsAbout.at 9 rfl) rfl (by decide) rfl ?_
    refine ok_aload_n 1 (kd_m10_turnsAbout.at 10 rfl) rfl rfl ?_
    refine ok_getR (kd_m10_turnsAbout.at 11 rfl) kf10_54 sh_0 rfl (kr_0_10 _) ?_
    refine ok_aload_n 1 (kd_m10_turnsAbout.at 12 rfl) rfl rfl ?_
    refine ok_getR (kd_m10_turnsAbout.at 13 rfl) kf10_16 sh_0 rfl (kr_0_2 _) ?_
    refine ok_aload_n 1 (kd_m10_turnsAbout.at 14 rfl) rfl rfl ?_
    refine ok_getR (kd_m10_turnsAbout.at 15 rfl) kf10_35 sh_0 rfl (kr_0_6 _) ?_
    refine ok_iload_n 2 (kd_m10_turnsAbout.at 16 rfl) rfl rfl ?_
    refine ok_callVV (M' := m9_begin) (as := [.ref 1, .ref 4, .int a1]) (st := []) (kd_m10_turnsAbout.at 17 rfl) kc10_175 sh_6 rfl rfl (by decide) (ok_m9_begin 6 a1 sh_6 q2.2) (kfit_of (by decide)) rfl (Nat.le_of_ble_eq_true rfl) (fun q4 hq4 => ?_)
    refine ok_aload_n 1 (kd_m10_turnsAbout.at 18 rfl) rfl rfl ?_
    refine ok_getR (kd_m10_turnsAbout.at 19 rfl) kf10_54 sh_0 rfl (kr_0_10 _) ?_
    refine ok_callVB (M' := m9_isMore) (as := []) (st := []) (kd_m10_turnsAbout.at 20 rfl) kc10_191 sh_6 rfl rfl (by decide) (ok_m9_isMore 6 sh_6 q4) (kfit_of (by decide)) rfl (Nat.le_of_ble_eq_true rfl) (fun q5 hq5 => ?_)
    refine ok_istore_n (lv' := [(3, .int (kb q5.1)), (2, .int 0), (0, .ref 0), (1, .int a1)]) (kd_m10_turnsAbout.at 21 rfl) rfl (by decide) rfl ?_
    refine ok_iconst (v := 1) (kd_m10_turnsAbout.at 22 rfl) (by decide) ?_
    refine ok_istore (lv' := [(4, .int 1), (3, .int (kb q5.1)), (2, .int 0), (0, .ref 0), (1, .int a1)]) (kd_m10_turnsAbout.at 23 rfl) (by decide) rfl ?_
    refine ok_sub (lv' := [(0, .ref 0), (2, .int 0), (3, .int (kb q5.1)), (4, .int 1)]) [3, 2, 1, 0] rfl ?_
    refine ok_m10_turnsAbout_L43 _ (fun x14 S15 => ?_) kFU 0 q5.1 1 q5.2
    refine ok_iload_n 0 (kd_m10_turnsAbout.at 42 rfl) rfl rfl ?_
    exact ok_ireturn (kd_m10_turnsAbout.at 43 rfl) rfl
  · refine ok_iconst (v := (-1)) (kd_m10_turnsAbout.at 6 rfl) (by decide) ?_
    exact ok_ireturn (kd_m10_turnsAbout.at 7 rfl) rfl
def f_m10_alikeIn_L49   (k72 : Int32 → kSt → Option (Int32 × kSt)) (k94 : kSt → Option (Int32 × kSt))  : Nat → Int32 → kSt → Option (Int32 × kSt)
  | 0, _, _ => none
  | n + 1, v3, S =>
    if 60 < v3 then
      k94  S
    else
      if (S.1 6 4) = (S.1 7 4) then
        k72 v3 S
      else
        (f_m9_go 6 S).bind fun q8 =>
        (f_m9_go 7 q8).bind fun q9 =>
        knx (v3 + 1) fun x10 =>
        f_m10_alikeIn_L49 k72 k94 n x10 q9
theorem ok_m10_alikeIn_L49 {l : Launch} {G : kG} {E : kE}     (k72 : Int32 → kSt → Option (Int32 × kSt)) (k94 : kSt → Option (Int32 × kSt)) (hk72 : ∀ (v3 : Int32) (S : kSt), kOk l G E (kZ G E kjI) m10_alikeIn (kdp (3)) (k72 v3 S) 72 [(3, .int v3)] [] S) (hk94 : ∀  (S : kSt), kOk l G E (kZ G E kjI) m10_alikeIn (kdp (3)) (k94  S) 94 [] [] S) : ∀ (n : Nat) (v3 : Int32) (S : kSt), kOk l G E (kZ G E kjI) m10_alikeIn (kdp (3)) (f_m10_alikeIn_L49 k72 k94 n v3 S) 49 [(0, .ref 0), (3, .int v3)] [] S := by
  intro n
  induction n with
  | zero => intro v3 S; exact ok_none
  | succ n ih =>
    intro v3 S
    rw [f_m10_alikeIn_L49]
    refine ok_iload_n 1 (kd_m10_alikeIn.at 27 rfl) rfl rfl ?_
    refine ok_bipush (v := 60) (kd_m10_alikeIn.at 28 rfl) (by decide) ?_
    refine ok_icmp_gt (tgt := 94) (kd_m10_alikeIn.at 29 rfl) (by decide) (fun h6 => ?_) (fun h6 => ?_)
    · refine ok_sub (lv' := []) [] rfl ?_
      exact hk94  S
    · refine ok_aload_n 0 (kd_m10_alikeIn.at 30 rfl) rfl rfl ?_
      refine ok_getR (kd_m10_alikeIn.at 31 rfl) kf10_54 sh_0 rfl (kr_0_10 _) ?_
      refine ok_getI (kd_m10_alikeIn.at 32 rfl) kf10_181 sh_6 rfl ?_
      refine ok_aload_n 0 (kd_m10_alikeIn.at 33 rfl) rfl rfl ?_
      refine ok_getR (kd_m10_alikeIn.at 34 rfl) kf10_58 sh_0 rfl (kr_0_11 _) ?_
      refine ok_getI (kd_m10_alikeIn.at 35 rfl) kf10_181 sh_7 rfl ?_
      refine ok_icmp_ne (tgt := 74) (kd_m10_alikeIn.at 36 rfl) (by decide) (fun h7 => ?_) (fun h7 => ?_)
      · refine ok_aload_n 0 (kd_m10_alikeIn.at 39 rfl) rfl rfl ?_
        refine ok_getR (kd_m10_alikeIn.at 40 rfl) kf10_54 sh_0 rfl (kr_0_10 _) ?_
        refine ok_callVV (M' := m9_go) (as := []) (st := []) (kd_m10_alikeIn.at 41 rfl) kc10_188 sh_6 rfl rfl (by decide) (ok_m9_go 6 sh_6 S) (kfit_of (by decide)) rfl (Nat.le_of_ble_eq_true rfl) (fun q8 hq8 => ?_)
        refine ok_aload_n 0 (kd_m10_alikeIn.at 42 rfl) rfl rfl ?_
        refine ok_getR (kd_m10_alikeIn.at 43 rfl) kf10_58 sh_0 rfl (kr_0_11 _) ?_
        refine ok_callVV (M' := m9_go) (as := []) (st := []) (kd_m10_alikeIn.at 44 rfl) kc10_188 sh_7 rfl rfl (by decide) (ok_m9_go 7 sh_7 q8) (kfit_of (by decide)) rfl (Nat.le_of_ble_eq_true rfl) (fun q9 hq9 => ?_)
        refine ok_nx (fun x10 hx10 => ?_)
        refine ok_iinc (v := x10) (lv' := [(3, .int x10), (0, .ref 0)]) 1 (kd_m10_alikeIn.at 45 rfl) rfl hx10.symm (by decide) rfl ?_
        refine ok_goto (tgt := 49) (kd_m10_alikeIn.at 46 rfl) (by decide) ?_
        refine ok_sub (lv' := [(0, .ref 0), (3, .int x10)]) [1, 0] rfl ?_
        exact ih x10 q9
      · refine ok_sub (lv' := [(3, .int v3)]) [1] rfl ?_
        exact hk72 v3 S
def f_m10_alikeIn (a1 : Int32) (a2 : Int32) (S : kSt) : Option (Int32 × kSt) :=
  (f_m10_areUnlike a1 a2 S).bind fun q1 =>
  (f_m10_may_ q1.1 q1.2).bind fun q2 =>
  if q2.1 then
    (f_m9_begin 6 a1 q2.2).bind fun q4 =>
    (f_m9_begin 7 a2 q4).bind fun q5 =>
    f_m10_alikeIn_L49 
      (fun (x11 : Int32) (S12 : kSt) =>
        some (x11, S12)
      )
      (fun  (S13 : kSt) =>
        some ((-2), S13)
      )
      kFU 0 q5
  else
    some ((-1), q2.2)
theorem ok_m10_alikeIn {l : Launch} {G : kG} {E : kE} (a1 : Int32) (a2 : Int32)  (S : kSt) : kFn l G E E kjI m10_alikeIn 3 [.ref 0, .int a1, .int a2] S (f_m10_alikeIn a1 a2 S) := by
  unfold f_m10_alikeIn
  refine kFn_of (by decide +kernel) (fun hG => Nat.le_of_ble_eq_true rfl) ?_
  show kOk _ _ _ _ _ _ _ _ [(0, .ref 0), (1, .int a1), (2, .int a2)] _ _
  refine ok_aload_n 0 (kd_m10_alikeIn.at 0 rfl) rfl rfl ?_
  refine ok_aload_n 0 (kd_m10_alikeIn.at 1 rfl) rfl rfl ?_
  refine ok_iload_n 1 (kd_m10_alikeIn.at 2 rfl) rfl rfl ?_
  refine ok_iload_n 2 (kd_m10_alikeIn.at 3 rfl) rfl rfl ?_
  refine ok_callVB (M' := m10_areUnlike) (as := [.int a1, .int a2]) (st := [.ref 0]) (kd_m10_alikeIn.at 4 rfl) kc10_221 sh_0 rfl rfl (by decide) (ok_m10_areUnlike a1 a2 S) (kfit_of (by decide)) rfl (Nat.le_of_ble_eq_true rfl) (fun q1 hq1 => ?_)
  refine ok_callVB (M' := m10_may_) (as := [.int (kb q1.1)]) (st := []) (kd_m10_alikeIn.at 5 rfl) kc10_154 sh_0 rfl rfl (by decide) (ok_m10_may_ q1.1 q1.2) (kfit_of (by decide)) rfl (Nat.le_of_ble_eq_true rfl) (fun q2 hq2 => ?_)
  refine ok_ifb_ne (tgt := 15) (kd_m10_alikeIn.at 6 rfl) (by decide) (fun h3 => ?_) (fun h3 => ?_)
  · refine ok_aload_n 0 (kd_m10_alikeIn.at 9 rfl) rfl rfl ?_
    refine ok_getR (kd_m10_alikeIn.at 10 rfl) kf10_54 sh_0 rfl (kr_0_10 _) ?_
    refine ok_aload_n 0 (kd_m10_alikeIn.at 11 rfl) rfl rfl ?_
    refine ok_getR (kd_m10_alikeIn.at 12 rfl) kf10_16 sh_0 rfl (kr_0_2 _) ?_
    refine ok_aload_n 0 (kd_m10_alikeIn.at 13 rfl) rfl rfl ?_
    refine ok_getR (kd_m10_alikeIn.at 14 rfl) kf10_35 sh_0 rfl (kr_0_6 _) ?_
    refine ok_iload_n 1 (kd_m10_alikeIn.at 15 rfl) rfl rfl ?_
    refine ok_callVV (M' := m9_begin) (as := [.ref 1, .ref 4, .int a1]) (st := []) (kd_m10_alikeIn.at 16 rfl) kc10_175 sh_6 rfl rfl (by decide) (ok_m9_begin 6 a1 sh_6 q2.2) (kfit_of (by decide)) rfl (Nat.le_of_ble_eq_true rfl) (fun q4 hq4 => ?_)
    refine ok_aload_n 0 (kd_m10_alikeIn.at 17 rfl) rfl rfl ?_
    refine ok_getR (kd_m10_alikeIn.at 18 rfl) kf10_58 sh_0 rfl (kr_0_11 _) ?_
    refine ok_aload_n 0 (kd_m10_alikeIn.at 19 rfl) rfl rfl ?_
    refine ok_getR (kd_m10_alikeIn.at 20 rfl) kf10_16 sh_0 rfl (kr_0_2 _) ?_
    refine ok_aload_n 0 (kd_m10_alikeIn.at 21 rfl) rfl rfl ?_
    refine ok_getR (kd_m10_alikeIn.at 22 rfl) kf10_35 sh_0 rfl (kr_0_6 _) ?_
    refine ok_iload_n 2 (kd_m10_alikeIn.at 23 rfl) rfl rfl ?_
    refine ok_callVV (M' := m9_begin) (as := [.ref 1, .ref 4, .int a2]) (st := []) (kd_m10_alikeIn.at 24 rfl) kc10_175 sh_7 rfl rfl (by decide) (ok_m9_begin 7 a2 sh_7 q4) (kfit_of (by decide)) rfl (Nat.le_of_ble_eq_true rfl) (fun q5 hq5 => ?_)
    refine ok_iconst (v := 0) (kd_m10_alikeIn.at 25 rfl) (by decide) ?_
    refine ok_istore_n (lv' := [(3, .int 0), (0, .ref 0), (1, .int a1), (2, .int a2)]) (kd_m10_alikeIn.at 26 rfl) rfl (by decide) rfl ?_
    refine ok_sub (lv' := [(0, .ref 0), (3, .int 0)]) [1, 0] rfl ?_
    refine ok_m10_alikeIn_L49 _ _ (fun x11 S12 => ?_) (fun S13 => ?_) kFU 0 q5
    · refine ok_iload_n 0 (kd_m10_alikeIn.at 37 rfl) rfl rfl ?_
      exact ok_ireturn (kd_m10_alikeIn.at 38 rfl) rfl
    · refine ok_bipush (v := (-2)) (kd_m10_alikeIn.at 47 rfl) (by decide) ?_
      exact ok_ireturn (kd_m10_alikeIn.at 48 rfl) rfl
  · refine ok_iconst (v := (-1)) (kd_m10_alikeIn.at 7 rfl) (by decide) ?_
    exact ok_ireturn (kd_m10_alikeIn.at 8 rfl) rfl
def f_m10_loudest (a1 : Int32) (S : kSt) : Option (Int32 × kSt) :=
  kgb (S.1 0 5) fun b1 =>
  (f_m10_upTo a1 60 S).bind fun q2 =>
  (f_m10_may b1 q2.1 q2.2).bind fun q3 =>
  if q3.1 then
    (f_m10_sayAllBehind a1 q3.2).bind fun q5 =>
    (f_m10_firstMost 16 (q5.1 1 2) q5).bind fun q6 =>
    some (q6.1, q6.2)
  else
    some ((-1), q3.2)
theorem ok_m10_loudest {l : Launch} {G : kG} {E : kE} (a1 : Int32)  (S : kSt) : kFn l G E E kjI m10_loudest 6 [.ref 0, .int a1] S (f_m10_loudest a1 S) := by
  unfold f_m10_loudest
  refine kFn_of (by decide +kernel) (fun hG => Nat.le_of_ble_eq_true rfl) ?_
  show kOk _ _ _ _ _ _ _ _ [(0, .ref 0), (1, .int a1)] _ _
  refine ok_aload_n 0 (kd_m10_loudest.at 0 rfl) rfl rfl ?_
  refine ok_aload_n 0 (kd_m10_loudest.at 1 rfl) rfl rfl ?_
  refine ok_getZ (kd_m10_loudest.at 2 rfl) kf10_108 sh_0 rfl (fun b1 => ?_)
  refine ok_iload_n 1 (kd_m10_loudest.at 3 rfl) rfl rfl ?_
  refine ok_bipush (v := 60) (kd_m10_loudest.at 4 rfl) (by decide) ?_
  refine ok_callSB (M' := m10_upTo) (as := [.int a1, .int 60]) (st := [.int (kb b1), .ref 0]) (kd_m10_loudest.at 5 rfl) kc10_126  rfl (by decide) (ok_m10_upTo a1 60 S) (kfit_of (by decide)) rfl (Nat.le_of_ble_eq_true rfl) (fun q2 hq2 => ?_)
  refine ok_callVB (M' := m10_may) (as := [.int (kb b1), .int (kb q2.1)]) (st := []) (kd_m10_loudest.at 6 rfl) kc10_104 sh_0 rfl rfl (by decide) (ok_m10_may b1 q2.1 q2.2) (kfit_of (by decide)) rfl (Nat.le_of_ble_eq_true rfl) (fun q3 hq3 => ?_)
  refine ok_ifb_ne (tgt := 19) (kd_m10_loudest.at 7 rfl) (by decide) (fun h4 => ?_) (fun h4 => ?_)
  · refine ok_aload_n 0 (kd_m10_loudest.at 10 rfl) rfl rfl ?_
    refine ok_iload_n 1 (kd_m10_loudest.at 11 rfl) rfl rfl ?_
    refine ok_callVV (M' := m10_sayAllBehind) (as := [.int a1]) (st := []) (kd_m10_loudest.at 12 rfl) kc10_224 sh_0 rfl rfl (by decide) (ok_m10_sayAllBehind a1 q3.2) (kfit_of (by decide)) rfl (Nat.le_of_ble_eq_true rfl) (fun q5 hq5 => ?_)
    refine ok_aload_n 0 (kd_m10_loudest.at 13 rfl) rfl rfl ?_
    refine ok_getR (kd_m10_loudest.at 14 rfl) kf10_61 sh_0 rfl (kr_0_12 _) ?_
    refine ok_aload_n 0 (kd_m10_loudest.at 15 rfl) rfl rfl ?_
    refine ok_getR (kd_m10_loudest.at 16 rfl) kf10_16 sh_0 rfl (kr_0_2 _) ?_
    refine ok_getI (kd_m10_loudest.at 17 rfl) kf10_112 sh_1 rfl ?_
    refine ok_callSI (M' := m10_firstMost) (as := [.ref 16, .int (q5.1 1 2)]) (st := []) (kd_m10_loudest.at 18 rfl) kc10_227  rfl (by decide) (ok_m10_firstMost 16 (q5.1 1 2) sh_16 q5) (kfit_of (by decide)) rfl (Nat.le_of_ble_eq_true rfl) (fun q6 hq6 => ?_)
    exact ok_ireturn (kd_m10_loudest.at 19 rfl) rfl
  · refine ok_iconst (v := (-1)) (kd_m10_loudest.at 8 rfl) (by decide) ?_
    exact ok_ireturn (kd_m10_loudest.at 9 rfl) rfl
def f_m10_overtakes_L49   (k72 : Int32 → kSt → Option (Int32 × kSt)) (k94 : kSt → Option (Int32 × kSt))  : Nat → Int32 → kSt → Option (Int32 × kSt)
  | 0, _, _ => none
  | n + 1, v3, S =>
    if 60 < v3 then
      k94  S
    else
      if (S.1 6 4) ≤ (S.1 7 4) then
        (f_m9_go 6 S).bind fun q8 =>
        (f_m9_go 7 q8).bind fun q9 =>
        knx (v3 + 1) fun x10 =>
        f_m10_overtakes_L49 k72 k94 n x10 q9
      else
        k72 v3 S
theorem ok_m10_overtakes_L49 {l : Launch} {G : kG} {E : kE}     (k72 : Int32 → kSt → Option (Int32 × kSt)) (k94 : kSt → Option (Int32 × kSt)) (hk72 : ∀ (v3 : Int32) (S : kSt), kOk l G E (kZ G E kjI) m10_overtakes (kdp (3)) (k72 v3 S) 72 [(3, .int v3)] [] S) (hk94 : ∀  (S : kSt), kOk l G E (kZ G E kjI) m10_overtakes (kdp (3)) (k94  S) 94 [] [] S) : ∀ (n : Nat) (v3 : Int32) (S : kSt), kOk l G E (kZ G E kjI) m10_overtakes (kdp (3)) (f_m10_overtakes_L49 k72 k94 n v3 S) 49 [(0, .ref 0), (3, .int v3)] [] S := by
  intro n
  induction n with
  | zero => intro v3 S; exact ok_none
  | succ n ih =>
    intro v3 S
    rw [f_m10_overtakes_L49]
    refine ok_iload_n 1 (kd_m10_overtakes.at 27 rfl) rfl rfl ?_
    refine ok_bipush (v := 60) (kd_m10_overtakes.at 28 rfl) (by decide) ?_
    refine ok_icmp_gt (tgt := 94) (kd_m10_overtakes.at 29 rfl) (by decide) (fun h6 => ?_) (fun h6 => ?_)
    · refine ok_sub (lv' := []) [] rfl ?_
      exact hk94  S
    · refine ok_aload_n 0 (kd_m10_overtakes.at 30 rfl) rfl rfl ?_
      refine ok_getR (kd_m10_overtakes.at 31 rfl) kf10_54 sh_0 rfl (kr_0_10 _) ?_
      refine ok_getI (kd_m10_overtakes.at 32 rfl) kf10_181 sh_6 rfl ?_
      refine ok_aload_n 0 (kd_m10_overtakes.at 33 rfl) rfl rfl ?_
      refine ok_getR (kd_m10_overtakes.at 34 rfl) kf10_58 sh_0 rfl (kr_0_11 _) ?_
      refine ok_getI (kd_m10_overtakes.at 35 rfl) kf10_181 sh_7 rfl ?_
      refine ok_icmp_le (tgt := 74) (kd_m10_overtakes.at 36 rfl) (by decide) (fun h7 => ?_) (fun h7 => ?_)
      · refine ok_aload_n 0 (kd_m10_overtakes.at 39 rfl) rfl rfl ?_
        refine ok_getR (kd_m10_overtakes.at 40 rfl) kf10_54 sh_0 rfl (kr_0_10 _) ?_
        refine ok_callVV (M' := m9_go) (as := []) (st := []) (kd_m10_overtakes.at 41 rfl) kc10_188 sh_6 rfl rfl (by decide) (ok_m9_go 6 sh_6 S) (kfit_of (by decide)) rfl (Nat.le_of_ble_eq_true rfl) (fun q8 hq8 => ?_)
        refine ok_aload_n 0 (kd_m10_overtakes.at 42 rfl) rfl rfl ?_
        refine ok_getR (kd_m10_overtakes.at 43 rfl) kf10_58 sh_0 rfl (kr_0_11 _) ?_
        refine ok_callVV (M' := m9_go) (as := []) (st := []) (kd_m10_overtakes.at 44 rfl) kc10_188 sh_7 rfl rfl (by decide) (ok_m9_go 7 sh_7 q8) (kfit_of (by decide)) rfl (Nat.le_of_ble_eq_true rfl) (fun q9 hq9 => ?_)
        refine ok_nx (fun x10 hx10 => ?_)
        refine ok_iinc (v := x10) (lv' := [(3, .int x10), (0, .ref 0)]) 1 (kd_m10_overtakes.at 45 rfl) rfl hx10.symm (by decide) rfl ?_
        refine ok_goto (tgt := 49) (kd_m10_overtakes.at 46 rfl) (by decide) ?_
        refine ok_sub (lv' := [(0, .ref 0), (3, .int x10)]) [1, 0] rfl ?_
        exact ih x10 q9
      · refine ok_sub (lv' := [(3, .int v3)]) [1] rfl ?_
        exact hk72 v3 S
def f_m10_overtakes (a1 : Int32) (a2 : Int32) (S : kSt) : Option (Int32 × kSt) :=
  (f_m10_areUnlike a1 a2 S).bind fun q1 =>
  (f_m10_may_ q1.1 q1.2).bind fun q2 =>
  if q2.1 then
    (f_m9_begin 6 a1 q2.2).bind fun q4 =>
    (f_m9_begin 7 a2 q4).bind fun q5 =>
    f_m10_overtakes_L49 
      (fun (x11 : Int32) (S12 : kSt) =>
        some (x11, S12)
      )
      (fun  (S13 : kSt) =>
        some ((-2), S13)
      )
      kFU 0 q5
  else
    some ((-1), q2.2)
theorem ok_m10_overtakes {l : Launch} {G : kG} {E : kE} (a1 : Int32) (a2 : Int32)  (S : kSt) : kFn l G E E kjI m10_overtakes 3 [.ref 0, .int a1, .int a2] S (f_m10_overtakes a1 a2 S) := by
  unfold f_m10_overtakes
  refine kFn_of (by decide +kernel) (fun hG => Nat.le_of_ble_eq_true rfl) ?_
  show kOk _ _ _ _ _ _ _ _ [(0, .ref 0), (1, .int a1), (2, .int a2)] _ _
  refine ok_aload_n 0 (kd_m10_overtakes.at 0 rfl) rfl rfl ?_
  refine ok_aload_n 0 (kd_m10_overtakes.at 1 rfl) rfl rfl ?_
  refine ok_iload_n 1 (kd_m10_overtakes.at 2 rfl) rfl rfl ?_
  refine ok_iload_n 2 (kd_m10_overtakes.at 3 rfl) rfl rfl ?_
  refine ok_callVB (M' := m10_areUnlike) (as := [.int a1, .int a2]) (st := [.ref 0]) (kd_m10_overtakes.at 4 rfl) kc10_221 sh_0 rfl rfl (by decide) (ok_m10_areUnlike a1 a2 S) (kfit_of (by decide)) rfl (Nat.le_of_ble_eq_true rfl) (fun q1 hq1 => ?_)
  refine ok_callVB (M' := m10_may_) (as := [.int (kb q1.1)]) (st := []) (kd_m10_overtakes.at 5 rfl) kc10_154 sh_0 rfl rfl (by decide) (ok_m10_may_ q1.1 q1.2) (kfit_of (by decide)) rfl (Nat.le_of_ble_eq_true rfl) (fun q2 hq2 => ?_)
  refine ok_ifb_ne (tgt := 15) (kd_m10_overtakes.at 6 rfl) (by decide) (fun h3 => ?_) (fun h3 => ?_)
  · refine ok_aload_n 0 (kd_m10_overtakes.at 9 rfl) rfl rfl ?_
    refine ok_getR (kd_m10_overtakes.at 10 rfl) kf10_54 sh_0 rfl (kr_0_10 _) ?_
    refine ok_aload_n 0 (kd_m10_overtakes.at 11 rfl) rfl rfl ?_
    refine ok_getR (kd_m10_overtakes.at 12 rfl) kf10_16 sh_0 rfl (kr_0_2 _) ?_
    refine ok_aload_n 0 (kd_m10_overtakes.at 13 rfl) rfl rfl ?_
    refine ok_getR (kd_m10_overtakes.at 14 rfl) kf10_35 sh_0 rfl (kr_0_6 _) ?_
    refine ok_iload_n 1 (kd_m10_overtakes.at 15 rfl) rfl rfl ?_
    refine ok_callVV (M' := m9_begin) (as := [.ref 1, .ref 4, .int a1]) (st := []) (kd_m10_overtakes.at 16 rfl) kc10_175 sh_6 rfl rfl (by decide) (ok_m9_begin 6 a1 sh_6 q2.2) (kfit_of (by decide)) rfl (Nat.le_of_ble_eq_true rfl) (fun q4 hq4 => ?_)
    refine ok_aload_n 0 (kd_m10_overtakes.at 17 rfl) rfl rfl ?_
    refine ok_getR (kd_m10_overtakes.at 18 rfl) kf10_58 sh_0 rfl (kr_0_11 _) ?_
    refine ok_aload_n 0 (kd_m10_overtakes.at 19 rfl) rfl rfl ?_
    refine ok_getR (kd_m10_overtakes.at 20 rfl) kf10_16 sh_0 rfl (kr_0_2 _) ?_
    refine ok_aload_n 0 (kd_m10_overtakes.at 21 rfl) rfl rfl ?_
    refine ok_getR (kd_m10_overtakes.at 22 rfl) kf10_35 sh_0 rfl (kr_0_6 _) ?_
    refine ok_iload_n 2 (kd_m10_overtakes.at 23 rfl) rfl rfl ?_
    refine ok_callVV (M' := m9_begin) (as := [.ref 1, .ref 4, .int a2]) (st := []) (kd_m10_overtakes.at 24 rfl) kc10_175 sh_7 rfl rfl (by decide) (ok_m9_begin 7 a2 sh_7 q4) (kfit_of (by decide)) rfl (Nat.le_of_ble_eq_true rfl) (fun q5 hq5 => ?_)
    refine ok_iconst (v := 0) (kd_m10_overtakes.at 25 rfl) (by decide) ?_
    refine ok_istore_n (lv' := [(3, .int 0), (0, .ref 0), (1, .int a1), (2, .int a2)]) (kd_m10_overtakes.at 26 rfl) rfl (by decide) rfl ?_
    refine ok_sub (lv' := [(0, .ref 0), (3, .int 0)]) [1, 0] rfl ?_
    refine ok_m10_overtakes_L49 _ _ (fun x11 S12 => ?_) (fun S13 => ?_) kFU 0 q5
    · refine ok_iload_n 0 (kd_m10_overtakes.at 37 rfl) rfl rfl ?_
      exact ok_ireturn (kd_m10_overtakes.at 38 rfl) rfl
    · refine ok_bipush (v := (-2)) (kd_m10_overtakes.at 47 rfl) (by decide) ?_
      exact ok_ireturn (kd_m10_overtakes.at 48 rfl) rfl
  · refine ok_iconst (v := (-1)) (kd_m10_overtakes.at 7 rfl) (by decide) ?_
    exact ok_ireturn (kd_m10_overtakes.at 8 rfl) rfl
def f_m10_widest_L50   (k106 : Int32 → Int32 → kSt → Option (Int32 × kSt)) (c4 : Int32) : Nat → Int32 → Int32 → Int32 → kSt → Option (Int32 × kSt)
  | 0, _, _, _, _ => none
  | n + 1, v2, v3, v5, S =>
    if (S.1 1 2) ≤ v5 then
      k106 v2 v3 S
    else
      kgi c4 5 (
        kgi v5 5 (
          knx (kabs ((S.1 16 c4.toNatClampNeg) - (S.1 16 v5.toNatClampNeg))) fun x9 =>
          knx (fun (x10 : Int32) (x11 : Int32) (S12 : kSt) =>
            knx (v5 + 1) fun x13 =>
            f_m10_widest_L50 k106 c4 n x10 x11 x13 S12
            ) fun j100 =>
          if x9 ≤ v3 then
            j100 v2 v3 S
          else
            knx ((10 * c4) + v5) fun x15 =>
            j100 x15 x9 S
        )
      )
theorem ok_m10_widest_L50 {l : Launch} {G : kG} {E : kE}    (c4 : Int32) (k106 : Int32 → Int32 → kSt → Option (Int32 × kSt)) (hk106 : ∀ (v2 : Int32) (v3 : Int32) (S : kSt), kOk l G E (kZ G E kjI) m10_widest (kdp (6)) (k106 v2 v3 S) 106 [(0, .ref 0), (2, .int v2), (3, .int v3), (4, .int c4)] [] S) : ∀ (n : Nat) (v2 : Int32) (v3 : Int32) (v5 : Int32) (S : kSt), kOk l G E (kZ G E kjI) m10_widest (kdp (6)) (f_m10_widest_L50 k106 c4 n v2 v3 v5 S) 50 [(0, .ref 0), (2, .int v2), (3, .int v3), (4, .int c4), (5, .int v5)] [] S := by
  intro n
  induction n with
  | zero => intro v2 v3 v5 S; exact ok_none
  | succ n ih =>
    intro v2 v3 v5 S
    rw [f_m10_widest_L50]
    refine ok_iload 4 (kd_m10_widest.at 28 rfl) rfl ?_
    refine ok_aload_n 0 (kd_m10_widest.at 29 rfl) rfl rfl ?_
    refine ok_getR (kd_m10_widest.at 30 rfl) kf10_16 sh_0 rfl (kr_0_2 _) ?_
    refine ok_getI (kd_m10_widest.at 31 rfl) kf10_112 sh_1 rfl ?_
    refine ok_icmp_ge (tgt := 106) (kd_m10_widest.at 32 rfl) (by decide) (fun h8 => ?_) (fun h8 => ?_)
    · refine ok_sub (lv' := [(0, .ref 0), (2, .int v2), (3, .int v3), (4, .int c4)]) [0, 1, 2, 3] rfl ?_
      exact hk106 v2 v3 S
    · refine ok_aload_n 0 (kd_m10_widest.at 33 rfl) rfl rfl ?_
      refine ok_getR (kd_m10_widest.at 34 rfl) kf10_61 sh_0 rfl (kr_0_12 _) ?_
      refine ok_iload 3 (kd_m10_widest.at 35 rfl) rfl ?_
      refine ok_iald (kd_m10_widest.at 36 rfl) sh_16 ?_
      refine ok_aload_n 0 (kd_m10_widest.at 37 rfl) rfl rfl ?_
      refine ok_getR (kd_m10_widest.at 38 rfl) kf10_61 sh_0 rfl (kr_0_12 _) ?_
      refine ok_iload 4 (kd_m10_widest.at 39 rfl) rfl ?_
      refine ok_iald (kd_m10_widest.at 40 rfl) sh_16 ?_
      refine ok_isub (kd_m10_widest.at 41 rfl) ?_
      refine ok_mabs (y := 0) (kd_m10_widest.at 42 rfl) kc10_231 (kfit_of (by decide)) (Nat.le_of_ble_eq_true rfl) ?_
      refine ok_topi (fun x9 hx9 => ?_)
      refine ok_istore (lv' := [(6, .int x9), (0, .ref 0), (2, .int v2), (3, .int v3), (4, .int c4), (5, .int v5)]) (kd_m10_widest.at 43 rfl) (by decide) rfl ?_
      refine ok_iload 0 (kd_m10_widest.at 44 rfl) rfl ?_
      refine ok_iload_n 3 (kd_m10_widest.at 45 rfl) rfl rfl ?_
      refine ok_nx (fun j100 hj100 => ?_)
      have K100 : ∀ (x10 : Int32) (x11 : Int32) (S12 : kSt), kOk l G E (kZ G E kjI) m10_widest (kdp (6)) (j100 x10 x11 S12) 100 [(0, .ref 0), (2, .int x10), (3, .int x11), (4, .int c4), (5, .int v5)] [] S12 := by
        subst hj100
        intro x10 x11 S12
        refine ok_nx (fun x13 hx13 => ?_)
        refine ok_iinc (v := x13) (lv' := [(5, .int x13), (0, .ref 0), (2, .int x10), (3, .int x11), (4, .int c4)]) 4 (kd_m10_widest.at 55 rfl) rfl hx13.symm (by decide) rfl ?_
        refine ok_goto (tgt := 50) (kd_m10_widest.at 56 rfl) (by decide) ?_
        refine ok_sub (lv' := [(0, .ref 0), (2, .int x10), (3, .int x11), (4, .int c4), (5, .int x13)]) [1, 2, 3, 4, 0] rfl ?_
        exact ih x10 x11 x13 S12
      clear hj100
      refine ok_icmp_le (tgt := 100) (kd_m10_widest.at 46 rfl) (by decide) (fun h14 => ?_) (fun h14 => ?_)
      · refine ok_sub (lv' := [(0, .ref 0), (2, .int v2), (3, .int v3), (4, .int c4), (5, .int v5)]) [1, 2, 3, 4, 5] rfl ?_
        exact K100 v2 v3 S
      · refine ok_iload 0 (kd_m10_widest.at 47 rfl) rfl ?_
        refine ok_istore_n (lv' := [(3, .int x9), (6, .int x9), (0, .ref 0), (2, .int v2), (4, .int c4), (5, .int v5)]) (kd_m10_widest.at 48 rfl) rfl (by decide) rfl ?_
        refine ok_bipush (v := 10) (kd_m10_widest.at 49 rfl) (by decide) ?_
        refine ok_iload 4 (kd_m10_widest.at 50 rfl) rfl ?_
        refine ok_imul (kd_m10_widest.at 51 rfl) ?_
        refine ok_iload 5 (kd_m10_widest.at 52 rfl) rfl ?_
        refine ok_iadd (kd_m10_widest.at 53 rfl) ?_
        refine ok_topi (fun x15 hx15 => ?_)
        refine ok_istore_n (lv' := [(2, .int x15), (3, .int x9), (6, .int x9), (0, .ref 0), (4, .int c4), (5, .int v5)]) (kd_m10_widest.at 54 rfl) rfl (by decide) rfl ?_
        refine ok_sub (lv' := [(0, .ref 0), (2, .int x15), (3, .int x9), (4, .int c4), (5, .int v5)]) [3, 0, 1, 4, 5] rfl ?_
        exact K100 x15 x9 S
def f_m10_widest_L32   (k112 : Int32 → kSt → Option (Int32 × kSt))  : Nat → Int32 → Int32 → Int32 → kSt → Option (Int32 × kSt)
  | 0, _, _, _, _ => none
  | n + 1, v2, v3, v4, S =>
    if (S.1 1 2) ≤ v4 then
      k112 v2 S
    else
      knx (v4 + 1) fun x7 =>
      f_m10_widest_L50 
        (fun (x16 : Int32) (x17 : Int32) (S18 : kSt) =>
          knx (v4 + 1) fun x19 =>
          f_m10_widest_L32 k112 n x16 x17 x19 S18
        )
        v4 kFU v2 v3 x7 S
theorem ok_m10_widest_L32 {l : Launch} {G : kG} {E : kE}     (k112 : Int32 → kSt → Option (Int32 × kSt)) (hk112 : ∀ (v2 : Int32) (S : kSt), kOk l G E (kZ G E kjI) m10_widest (kdp (6)) (k112 v2 S) 112 [(2, .int v2)] [] S) : ∀ (n : Nat) (v2 : Int32) (v3 : Int32) (v4 : Int32) (S : kSt), kOk l G E (kZ G E kjI) m10_widest (kdp (6)) (f_m10_widest_L32 k112 n v2 v3 v4 S) 32 [(0, .ref 0), (2, .int v2), (3, .int v3), (4, .int v4)] [] S := by
  intro n
  induction n with
  | zero => intro v2 v3 v4 S; exact ok_none
  | succ n ih =>
    intro v2 v3 v4 S
    rw [f_m10_widest_L32]
    refine ok_iload 3 (kd_m10_widest.at 19 rfl) rfl ?_
    refine ok_aload_n 0 (kd_m10_widest.at 20 rfl) rfl rfl ?_
    refine ok_getR (kd_m10_widest.at 21 rfl) kf10_16 sh_0 rfl (kr_0_2 _) ?_
    refine ok_getI (kd_m10_widest.at 22 rfl) kf10_112 sh_1 rfl ?_
    refine ok_icmp_ge (tgt := 112) (kd_m10_widest.at 23 rfl) (by decide) (fun h6 => ?_) (fun h6 => ?_)
    · refine ok_sub (lv' := [(2, .int v2)]) [1] rfl ?_
      exact hk112 v2 S
    · refine ok_iload 3 (kd_m10_widest.at 24 rfl) rfl ?_
      refine ok_iconst (v := 1) (kd_m10_widest.at 25 rfl) (by decide) ?_
      refine ok_iadd (kd_m10_widest.at 26 rfl) ?_
      refine ok_topi (fun x7 hx7 => ?_)
      refine ok_istore (lv' := [(5, .int x7), (0, .ref 0), (2, .int v2), (3, .int v3), (4, .int v4)]) (kd_m10_widest.at 27 rfl) (by decide) rfl ?_
      refine ok_sub (lv' := [(0, .ref 0), (2, .int v2), (3, .int v3), (4, .int v4), (5, .int x7)]) [1, 2, 3, 4, 0] rfl ?_
      refine ok_m10_widest_L50 v4 _ (fun x16 x17 S18 => ?_) kFU v2 v3 x7 S
      refine ok_nx (fun x19 hx19 => ?_)
      refine ok_iinc (v := x19) (lv' := [(4, .int x19), (0, .ref 0), (2, .int x16), (3, .int x17)]) 3 (kd_m10_widest.at 57 rfl) rfl hx19.symm (by decide) rfl ?_
      refine ok_goto (tgt := 32) (kd_m10_widest.at 58 rfl) (by decide) ?_
      refine ok_sub (lv' := [(0, .ref 0), (2, .int x16), (3, .int x17), (4, .int x19)]) [1, 2, 3, 0] rfl ?_
      exact ih x16 x17 x19 S18
def f_m10_widest (a1 : Int32) (S : kSt) : Option (Int32 × kSt) :=
  kgb (S.1 0 5) fun b1 =>
  (f_m10_upTo a1 60 S).bind fun q2 =>
  (f_m10_may b1 q2.1 q2.2).bind fun q3 =>
  if q3.1 then
    (f_m10_sayAllBehind a1 q3.2).bind fun q5 =>
    f_m10_widest_L32 
      (fun (x20 : Int32) (S21 : kSt) =>
        some (x20, S21)
      )
      kFU (-2) (-1) 0 q5
  else
    some ((-1), q3.2)
theorem ok_m10_widest {l : Launch} {G : kG} {E : kE} (a1 : Int32)  (S : kSt) : kFn l G E E kjI m10_widest 6 [.ref 0, .int a1] S (f_m10_widest a1 S) := by
  unfold f_m10_widest
  refine kFn_of (by decide +kernel) (fun hG => Nat.le_of_ble_eq_true rfl) ?_
  show kOk _ _ _ _ _ _ _ _ [(0, .ref 0), (1, .int a1)] _ _
  refine ok_aload_n 0 (kd_m10_widest.at 0 rfl) rfl rfl ?_
  refine ok_aload_n 0 (kd_m10_widest.at 1 rfl) rfl rfl ?_
  refine ok_getZ (kd_m10_widest.at 2 rfl) kf10_108 sh_0 rfl (fun b1 => ?_)
  refine ok_iload_n 1 (kd_m10_widest.at 3 rfl) rfl rfl ?_
  refine ok_bipush (v := 60) (kd_m10_widest.at 4 rfl) (by decide) ?_
  refine ok_callSB (M' := m10_upTo) (as := [.int a1, .int 60]) (st := [.int (kb b1), .ref 0]) (kd_m10_widest.at 5 rfl) kc10_126  rfl (by decide) (ok_m10_upTo a1 60 S) (kfit_of (by decide)) rfl (Nat.le_of_ble_eq_true rfl) (fun q2 hq2 => ?_)
  refine ok_callVB (M' := m10_may) (as := [.int (kb b1), .int (kb q2.1)]) (st := []) (kd_m10_widest.at 6 rfl) kc10_104 sh_0 rfl rfl (by decide) (ok_m10_may b1 q2.1 q2.2) (kfit_of (by decide)) rfl (Nat.le_of_ble_eq_true rfl) (fun q3 hq3 => ?_)
  refine ok_ifb_ne (tgt := 19) (kd_m10_widest.at 7 rfl) (by decide) (fun h4 => ?_) (fun h4 => ?_)
  · refine ok_aload_n 0 (kd_m10_widest.at 10 rfl) rfl rfl ?_
    refine ok_iload_n 1 (kd_m10_widest.at 11 rfl) rfl rfl ?_
    refine ok_callVV (M' := m10_sayAllBehind) (as := [.int a1]) (st := []) (kd_m10_widest.at 12 rfl) kc10_224 sh_0 rfl rfl (by decide) (ok_m10_sayAllBehind a1 q3.2) (kfit_of (by decide)) rfl (Nat.le_of_ble_eq_true rfl) (fun q5 hq5 => ?_)
    refine ok_bipush (v := (-2)) (kd_m10_widest.at 13 rfl) (by decide) ?_
    refine ok_istore_n (lv' := [(2, .int (-2)), (0, .ref 0), (1, .int a1)]) (kd_m10_widest.at 14 rfl) rfl (by decide) rfl ?_
    refine ok_iconst (v := (-1)) (kd_m10_widest.at 15 rfl) (by decide) ?_
    refine ok_istore_n (lv' := [(3, .int (-1)), (2, .int (-2)), (0, .ref 0), (1, .int a1)]) (kd_m10_widest.at 16 rfl) rfl (by decide) rfl ?_
    refine ok_iconst (v := 0) (kd_m10_widest.at 17 rfl) (by decide) ?_
    refine ok_istore (lv' := [(4, .int 0), (3, .int (-1)), (2, .int (-2)), (0, .ref 0), (1, .int a1)]) (kd_m10_widest.at 18 rfl) (by decide) rfl ?_
    refine ok_sub (lv' := [(0, .ref 0), (2, .int (-2)), (3, .int (-1)), (4, .int 0)]) [3, 2, 1, 0] rfl ?_
    refine ok_m10_widest_L32 _ (fun x20 S21 => ?_) kFU (-2) (-1) 0 q5
    refine ok_iload_n 0 (kd_m10_widest.at 59 rfl) rfl rfl ?_
    exact ok_ireturn (kd_m10_widest.at 60 rfl) rfl
  · refine ok_iconst (v := (-1)) (kd_m10_widest.at 8 rfl) (by decide) ?_
    exact ok_ireturn (kd_m10_widest.at 9 rfl) rfl
def f_m10_sumAll_L28   (k54 : Int32 → kSt → Option (Int32 × kSt))  : Nat → Int32 → Int32 → kSt → Option (Int32 × kSt)
  | 0, _, _, _ => none
  | n + 1, v2, v3, S =>
    if (S.1 1 2) ≤ v3 then
      k54 v2 S
    else
      kgi v3 5 (
        knx (v2 + (S.1 16 v3.toNatClampNeg)) fun x7 =>
        knx (v3 + 1) fun x8 =>
        f_m10_sumAll_L28 k54 n x7 x8 S
      )
theorem ok_m10_sumAll_L28 {l : Launch} {G : kG} {E : kE}     (k54 : Int32 → kSt → Option (Int32 × kSt)) (hk54 : ∀ (v2 : Int32) (S : kSt), kOk l G E (kZ G E kjI) m10_sumAll (kdp (6)) (k54 v2 S) 54 [(2, .int v2)] [] S) : ∀ (n : Nat) (v2 : Int32) (v3 : Int32) (S : kSt), kOk l G E (kZ G E kjI) m10_sumAll (kdp (6)) (f_m10_sumAll_L28 k54 n v2 v3 S) 28 [(0, .ref 0), (2, .int v2), (3, .int v3)] [] S := by
  intro n
  induction n with
  | zero => intro v2 v3 S; exact ok_none
  | succ n ih =>
    intro v2 v3 S
    rw [f_m10_sumAll_L28]
    refine ok_iload_n 2 (kd_m10_sumAll.at 17 rfl) rfl rfl ?_
    refine ok_aload_n 0 (kd_m10_sumAll.at 18 rfl) rfl rfl ?_
    refine ok_getR (kd_m10_sumAll.at 19 rfl) kf10_16 sh_0 rfl (kr_0_2 _) ?_
    refine ok_getI (kd_m10_sumAll.at 20 rfl) kf10_112 sh_1 rfl ?_
    refine ok_icmp_ge (tgt := 54) (kd_m10_sumAll.at 21 rfl) (by decide) (fun h6 => ?_) (fun h6 => ?_)
    · refine ok_sub (lv' := [(2, .int v2)]) [1] rfl ?_
      exact hk54 v2 S
    · refine ok_iload_n 1 (kd_m10_sumAll.at 22 rfl) rfl rfl ?_
      refine ok_aload_n 0 (kd_m10_sumAll.at 23 rfl) rfl rfl ?_
      refine ok_getR (kd_m10_sumAll.at 24 rfl) kf10_61 sh_0 rfl (kr_0_12 _) ?_
      refine ok_iload_n 2 (kd_m10_sumAll.at 25 rfl) rfl rfl ?_
      refine ok_iald (kd_m10_sumAll.at 26 rfl) sh_16 ?_
      refine ok_iadd (kd_m10_sumAll.at 27 rfl) ?_
      refine ok_topi (fun x7 hx7 => ?_)
      refine ok_istore_n (lv' := [(2, .int x7), (0, .ref 0), (3, .int v3)]) (kd_m10_sumAll.at 28 rfl) rfl (by decide) rfl ?_
      refine ok_nx (fun x8 hx8 => ?_)
      refine ok_iinc (v := x8) (lv' := [(3, .int x8), (2, .int x7), (0, .ref 0)]) 2 (kd_m10_sumAll.at 29 rfl) rfl hx8.symm (by decide) rfl ?_
      refine ok_goto (tgt := 28) (kd_m10_sumAll.at 30 rfl) (by decide) ?_
      refine ok_sub (lv' := [(0, .ref 0), (2, .int x7), (3, .int x8)]) [2, 1, 0] rfl ?_
      exact ih x7 x8 S
def f_m10_sumAll (a1 : Int32) (S : kSt) : Option (Int32 × kSt) :=
  kgb (S.1 0 5) fun b1 =>
  (f_m10_upTo a1 60 S).bind fun q2 =>
  (f_m10_may b1 q2.1 q2.2).bind fun q3 =>
  if q3.1 then
    (f_m10_sayAllBehind a1 q3.2).bind fun q5 =>
    f_m10_sumAll_L28 
      (fun (x9 : Int32) (S10 : kSt) =>
        some (x9, S10)
      )
      kFU 0 0 q5
  else
    some ((-1), q3.2)
theorem ok_m10_sumAll {l : Launch} {G : kG} {E : kE} (a1 : Int32)  (S : kSt) : kFn l G E E kjI m10_sumAll 6 [.ref 0, .int a1] S (f_m10_sumAll a1 S) := by
  unfold f_m10_sumAll
  refine kFn_of (by decide +kernel) (fun hG => Nat.le_of_ble_eq_true rfl) ?_
  show kOk _ _ _ _ _ _ _ _ [(0, .ref 0), (1, .int a1)] _ _
  refine ok_aload_n 0 (kd_m10_sumAll.at 0 rfl) rfl rfl ?_
  refine ok_aload_n 0 (kd_m10_sumAll.at 1 rfl) rfl rfl ?_
  refine ok_getZ (kd_m10_sumAll.at 2 rfl) kf10_108 sh_0 rfl (fun b1 => ?_)
  refine ok_iload_n 1 (kd_m10_sumAll.at 3 rfl) rfl rfl ?_
  refine ok_bipush (v := 60) (kd_m10_sumAll.at 4 rfl) (by decide) ?_
  refine ok_callSB (M' := m10_upTo) (as := [.int a1, .int 60]) (st := [.int (kb b1), .ref 0]) (kd_m10_sumAll.at 5 rfl) kc10_126  rfl (by decide) (ok_m10_upTo a1 60 S) (kfit_of (by decide)) rfl (Nat.le_of_ble_eq_true rfl) (fun q2 hq2 => ?_)
  refine ok_callVB (M' := m10_may) (as := [.int (kb b1), .int (kb q2.1)]) (st := []) (kd_m10_sumAll.at 6 rfl) kc10_104 sh_0 rfl rfl (by decide) (ok_m10_may b1 q2.1 q2.2) (kfit_of (by decide)) rfl (Nat.le_of_ble_eq_true rfl) (fun q3 hq3 => ?_)
  refine ok_ifb_ne (tgt := 19) (kd_m10_sumAll.at 7 rfl) (by decide) (fun h4 => ?_) (fun h4 => ?_)
  · refine ok_aload_n 0 (kd_m10_sumAll.at 10 rfl) rfl rfl ?_
    refine ok_iload_n 1 (kd_m10_sumAll.at 11 rfl) rfl rfl ?_
    refine ok_callVV (M' := m10_sayAllBehind) (as := [.int a1]) (st := []) (kd_m10_sumAll.at 12 rfl) kc10_224 sh_0 rfl rfl (by decide) (ok_m10_sayAllBehind a1 q3.2) (kfit_of (by decide)) rfl (Nat.le_of_ble_eq_true rfl) (fun q5 hq5 => ?_)
    refine ok_iconst (v := 0) (kd_m10_sumAll.at 13 rfl) (by decide) ?_
    refine ok_istore_n (lv' := [(2, .int 0), (0, .ref 0), (1, .int a1)]) (kd_m10_sumAll.at 14 rfl) rfl (by decide) rfl ?_
    refine ok_iconst (v := 0) (kd_m10_sumAll.at 15 rfl) (by decide) ?_
    refine ok_istore_n (lv' := [(3, .int 0), (2, .int 0), (0, .ref 0), (1, .int a1)]) (kd_m10_sumAll.at 16 rfl) rfl (by decide) rfl ?_
    refine ok_sub (lv' := [(0, .ref 0), (2, .int 0), (3, .int 0)]) [2, 1, 0] rfl ?_
    refine ok_m10_sumAll_L28 _ (fun x9 S10 => ?_) kFU 0 0 q5
    refine ok_iload_n 0 (kd_m10_sumAll.at 31 rfl) rfl rfl ?_
    exact ok_ireturn (kd_m10_sumAll.at 32 rfl) rfl
  · refine ok_iconst (v := (-1)) (kd_m10_sumAll.at 8 rfl) (by decide) ?_
    exact ok_ireturn (kd_m10_sumAll.at 9 rfl) rfl
