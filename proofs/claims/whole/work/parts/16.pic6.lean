def f_m11_heardLine_L47   (k115 : kSt → Option kSt) (c1 : Int32) (c2 : Int32) (c3 : Int32) : Nat → Int32 → kSt → Option kSt
  | 0, _, _ => none
  | n + 1, v4, S =>
    if (S.1 58 6) ≤ v4 then
      k115  S
    else
      kgb (S.1 14 13) fun b9 =>
      knx (fun  (S10 : kSt) =>
        knx (v4 + 1) fun x11 =>
        f_m11_heardLine_L47 k115 c1 c2 c3 n x11 S10
        ) fun j109 =>
      if b9 then
        j109  S
      else
        knx (26 + (3 * v4)) fun x13 =>
        kgi x13 95 (
          if (S.1 58 x13.toNatClampNeg) = c2 then
            knx ((26 + (3 * v4)) + 1) fun x15 =>
            kgi x15 95 (
              if (S.1 58 x15.toNatClampNeg) = c3 then
                (f_m11_wrong 3 (S.1 14 4) S).bind fun q17 =>
                j109  q17
              else
                j109  S
            )
          else
            j109  S
        )
theorem ok_m11_heardLine_L47 {l : Launch} {G : kG} {E : kE}    (c1 : Int32) (c2 : Int32) (c3 : Int32) (k115 : kSt → Option kSt) (hk115 : ∀  (S : kSt), kOk l G E (kZ G E kjV) m11_heardLine (kdp (9)) (k115  S) 115 [(0, .ref 14), (1, .int c1), (2, .int c2), (3, .int c3)] [] S) : ∀ (n : Nat) (v4 : Int32) (S : kSt), kOk l G E (kZ G E kjV) m11_heardLine (kdp (9)) (f_m11_heardLine_L47 k115 c1 c2 c3 n v4 S) 47 [(0, .ref 14), (1, .int c1), (2, .int c2), (3, .int c3), (4, .int v4)] [] S := by
  intro n
  induction n with
  | zero => intro v4 S; exact ok_none
  | succ n ih =>
    intro v4 S
    rw [f_m11_heardLine_L47]
    refine ok_iload 4 (kd_m11_heardLine.at 28 rfl) rfl ?_
    refine ok_aload_n 0 (kd_m11_heardLine.at 29 rfl) rfl rfl ?_
    refine ok_getR (kd_m11_heardLine.at 30 rfl) kf11_23 sh_14 rfl (kr_14_16 _) ?_
    refine ok_bipush (v := 6) (kd_m11_heardLine.at 31 rfl) (by decide) ?_
    refine ok_ialdK (j := 6) (kd_m11_heardLine.at 32 rfl) sh_58 (by decide) (by decide) ?_
    refine ok_icmp_ge (tgt := 115) (kd_m11_heardLine.at 33 rfl) (by decide) (fun h8 => ?_) (fun h8 => ?_)
    · refine ok_sub (lv' := [(0, .ref 14), (1, .int c1), (2, .int c2), (3, .int c3)]) [0, 1, 2, 3] rfl ?_
      exact hk115  S
    · refine ok_aload_n 0 (kd_m11_heardLine.at 34 rfl) rfl rfl ?_
      refine ok_getZ (kd_m11_heardLine.at 35 rfl) kf11_97 sh_14 rfl (fun b9 => ?_)
      refine ok_nx (fun j109 hj109 => ?_)
      have K109 : ∀  (S10 : kSt), kOk l G E (kZ G E kjV) m11_heardLine (kdp (9)) (j109  S10) 109 [(0, .ref 14), (1, .int c1), (2, .int c2), (3, .int c3), (4, .int v4)] [] S10 := by
        subst hj109
        intro  S10
        refine ok_nx (fun x11 hx11 => ?_)
        refine ok_iinc (v := x11) (lv' := [(4, .int x11), (0, .ref 14), (1, .int c1), (2, .int c2), (3, .int c3)]) 4 (kd_m11_heardLine.at 64 rfl) rfl hx11.symm (by decide) rfl ?_
        refine ok_goto (tgt := 47) (kd_m11_heardLine.at 65 rfl) (by decide) ?_
        refine ok_sub (lv' := [(0, .ref 14), (1, .int c1), (2, .int c2), (3, .int c3), (4, .int x11)]) [1, 2, 3, 4, 0] rfl ?_
        exact ih x11 S10
      clear hj109
      refine ok_ifb_ne (tgt := 109) (kd_m11_heardLine.at 36 rfl) (by decide) (fun h12 => ?_) (fun h12 => ?_)
      · exact K109  S
      · refine ok_aload_n 0 (kd_m11_heardLine.at 37 rfl) rfl rfl ?_
        refine ok_getR (kd_m11_heardLine.at 38 rfl) kf11_23 sh_14 rfl (kr_14_16 _) ?_
        refine ok_bipush (v := 26) (kd_m11_heardLine.at 39 rfl) (by decide) ?_
        refine ok_iconst (v := 3) (kd_m11_heardLine.at 40 rfl) (by decide) ?_
        refine ok_iload 4 (kd_m11_heardLine.at 41 rfl) rfl ?_
        refine ok_imul (kd_m11_heardLine.at 42 rfl) ?_
        refine ok_iadd (kd_m11_heardLine.at 43 rfl) ?_
        refine ok_topi (fun x13 hx13 => ?_)
        refine ok_iald (kd_m11_heardLine.at 44 rfl) sh_58 ?_
        refine ok_iload_n 2 (kd_m11_heardLine.at 45 rfl) rfl rfl ?_
        refine ok_icmp_ne (tgt := 109) (kd_m11_heardLine.at 46 rfl) (by decide) (fun h14 => ?_) (fun h14 => ?_)
        · exact K109  S
        · refine ok_aload_n 0 (kd_m11_heardLine.at 47 rfl) rfl rfl ?_
          refine ok_getR (kd_m11_heardLine.at 48 rfl) kf11_23 sh_14 rfl (kr_14_16 _) ?_
          refine ok_bipush (v := 26) (kd_m11_heardLine.at 49 rfl) (by decide) ?_
          refine ok_iconst (v := 3) (kd_m11_heardLine.at 50 rfl) (by decide) ?_
          refine ok_iload 4 (kd_m11_heardLine.at 51 rfl) rfl ?_
          refine ok_imul (kd_m11_heardLine.at 52 rfl) ?_
          refine ok_iadd (kd_m11_heardLine.at 53 rfl) ?_
          refine ok_iconst (v := 1) (kd_m11_heardLine.at 54 rfl) (by decide) ?_
          refine ok_iadd (kd_m11_heardLine.at 55 rfl) ?_
          refine ok_topi (fun x15 hx15 => ?_)
          refine ok_iald (kd_m11_heardLine.at 56 rfl) sh_58 ?_
          refine ok_iload_n 3 (kd_m11_heardLine.at 57 rfl) rfl rfl ?_
          refine ok_icmp_ne (tgt := 109) (kd_m11_heardLine.at 58 rfl) (by decide) (fun h16 => ?_) (fun h16 => ?_)
          · exact K109  S
          · refine ok_aload_n 0 (kd_m11_heardLine.at 59 rfl) rfl rfl ?_
            refine ok_iconst (v := 3) (kd_m11_heardLine.at 60 rfl) (by decide) ?_
            refine ok_aload_n 0 (kd_m11_heardLine.at 61 rfl) rfl rfl ?_
            refine ok_getI (kd_m11_heardLine.at 62 rfl) kf11_78 sh_14 rfl ?_
            refine ok_callVV (M' := m11_wrong) (as := [.int 3, .int (S.1 14 4)]) (st := []) (kd_m11_heardLine.at 63 rfl) kc11_124 sh_14 rfl rfl (by decide) (ok_m11_wrong 3 (S.1 14 4) S) (kfit_of (by decide)) rfl (Nat.le_of_ble_eq_true rfl) (fun q17 hq17 => ?_)
            exact K109  q17
def f_m11_heardLine  (S : kSt) : Option kSt :=
  kgb (S.1 14 13) fun b1 =>
  if b1 then
    some S
  else
    knx (26 + (3 * (S.1 58 6))) fun x3 =>
    (f_m11_pairHere  S).bind fun q4 =>
    (f_m11_pass  q4.2).bind fun q5 =>
    (f_m11_must 15 q5).bind fun q6 =>
    (f_m11_numberHere 1 30 q6).bind fun q7 =>
    f_m11_heardLine_L47 
      (fun  (S18 : kSt) =>
        (f_m11_pass  S18).bind fun q19 =>
        (f_m11_after 12 0 (q19.1 58 0) q19).bind fun q20 =>
        kgb (q20.2.1 14 13) fun b21 =>
        if b21 then
          some q20.2
        else
          kgi x3 95 (
            knx (kuI q20.2 58 x3.toNatClampNeg q4.1) fun S23 =>
            knx (x3 + 1) fun x25 =>
            kgi x25 95 (
              knx (kuI S23 58 x25.toNatClampNeg q7.1) fun S24 =>
              knx (x3 + 2) fun x27 =>
              kgi x27 95 (
                knx (kuI S24 58 x27.toNatClampNeg q20.1) fun S26 =>
                knx (kuI S26 58 6 ((S26.1 58 6) + 1)) fun S28 =>
                some S28
              )
            )
          )
      )
      x3 q4.1 q7.1 kFU 0 q7.2
theorem ok_m11_heardLine {l : Launch} {G : kG} {E : kE}   (S : kSt) : kFn l G E E kjV m11_heardLine 9 [.ref 14] S (f_m11_heardLine  S) := by
  unfold f_m11_heardLine
  refine kFn_of (by decide +kernel) (fun hG => Nat.le_of_ble_eq_true rfl) ?_
  show kOk _ _ _ _ _ _ _ _ [(0, .ref 14)] _ _
  refine ok_aload_n 0 (kd_m11_heardLine.at 0 rfl) rfl rfl ?_
  refine ok_getZ (kd_m11_heardLine.at 1 rfl) kf11_97 sh_14 rfl (fun b1 => ?_)
  refine ok_ifb_eq (tgt := 8) (kd_m11_heardLine.at 2 rfl) (by decide) (fun h2 => ?_) (fun h2 => ?_)
  · refine ok_bipush (v := 26) (kd_m11_heardLine.at 4 rfl) (by decide) ?_
    refine ok_iconst (v := 3) (kd_m11_heardLine.at 5 rfl) (by decide) ?_
    refine ok_aload_n 0 (kd_m11_heardLine.at 6 rfl) rfl rfl ?_
    refine ok_getR (kd_m11_heardLine.at 7 rfl) kf11_23 sh_14 rfl (kr_14_16 _) ?_
    refine ok_bipush (v := 6) (kd_m11_heardLine.at 8 rfl) (by decide) ?_
    refine ok_ialdK (j := 6) (kd_m11_heardLine.at 9 rfl) sh_58 (by decide) (by decide) ?_
    refine ok_imul (kd_m11_heardLine.at 10 rfl) ?_
    refine ok_iadd (kd_m11_heardLine.at 11 rfl) ?_
    refine ok_topi (fun x3 hx3 => ?_)
    refine ok_istore_n (lv' := [(1, .int x3), (0, .ref 14)]) (kd_m11_heardLine.at 12 rfl) rfl (by decide) rfl ?_
    refine ok_aload_n 1 (kd_m11_heardLine.at 13 rfl) rfl rfl ?_
    refine ok_callVI (M' := m11_pairHere) (as := []) (st := []) (kd_m11_heardLine.at 14 rfl) kc11_232 sh_14 rfl rfl (by decide) (ok_m11_pairHere  S) (kfit_of (by decide)) rfl (Nat.le_of_ble_eq_true rfl) (fun q4 hq4 => ?_)
    refine ok_istore_n (lv' := [(2, .int q4.1), (1, .int x3), (0, .ref 14)]) (kd_m11_heardLine.at 15 rfl) rfl (by decide) rfl ?_
    refine ok_aload_n 2 (kd_m11_heardLine.at 16 rfl) rfl rfl ?_
    refine ok_callVV (M' := m11_pass) (as := []) (st := []) (kd_m11_heardLine.at 17 rfl) kc11_154 sh_14 rfl rfl (by decide) (ok_m11_pass  q4.2) (kfit_of (by decide)) rfl (Nat.le_of_ble_eq_true rfl) (fun q5 hq5 => ?_)
    refine ok_aload_n 2 (kd_m11_heardLine.at 18 rfl) rfl rfl ?_
    refine ok_ldcS (kd_m11_heardLine.at 19 rfl) kst_11_237 ?_
    refine ok_callVV (M' := m11_must) (as := [.ref (1000 + 15)]) (st := []) (kd_m11_heardLine.at 20 rfl) kc11_157 sh_14 rfl rfl (by decide) (ok_m11_must 15 (by decide) q5) (kfit_of (by decide)) rfl (Nat.le_of_ble_eq_true rfl) (fun q6 hq6 => ?_)
    refine ok_aload_n 2 (kd_m11_heardLine.at 21 rfl) rfl rfl ?_
    refine ok_iconst (v := 1) (kd_m11_heardLine.at 22 rfl) (by decide) ?_
    refine ok_bipush (v := 30) (kd_m11_heardLine.at 23 rfl) (by decide) ?_
    refine ok_callVI (M' := m11_numberHere) (as := [.int 1, .int 30]) (st := []) (kd_m11_heardLine.at 24 rfl) kc11_150 sh_14 rfl rfl (by decide) (ok_m11_numberHere 1 30 q6) (kfit_of (by decide)) rfl (Nat.le_of_ble_eq_true rfl) (fun q7 hq7 => ?_)
    refine ok_istore_n (lv' := [(3, .int q7.1), (2, .int q4.1), (1, .int x3), (0, .ref 14)]) (kd_m11_heardLine.at 25 rfl) rfl (by decide) rfl ?_
    refine ok_iconst (v := 0) (kd_m11_heardLine.at 26 rfl) (by decide) ?_
    refine ok_istore (lv' := [(4, .int 0), (3, .int q7.1), (2, .int q4.1), (1, .int x3), (0, .ref 14)]) (kd_m11_heardLine.at 27 rfl) (by decide) rfl ?_
    refine ok_sub (lv' := [(0, .ref 14), (1, .int x3), (2, .int q4.1), (3, .int q7.1), (4, .int 0)]) [4, 3, 2, 1, 0] rfl ?_
    refine ok_m11_heardLine_L47 x3 q4.1 q7.1 _ (fun S18 => ?_) kFU 0 q7.2
    refine ok_aload_n 0 (kd_m11_heardLine.at 66 rfl) rfl rfl ?_
    refine ok_callVV (M' := m11_pass) (as := []) (st := []) (kd_m11_heardLine.at 67 rfl) kc11_154 sh_14 rfl rfl (by decide) (ok_m11_pass  S18) (kfit_of (by decide)) rfl (Nat.le_of_ble_eq_true rfl) (fun q19 hq19 => ?_)
    refine ok_aload_n 0 (kd_m11_heardLine.at 68 rfl) rfl rfl ?_
    refine ok_ldcS (kd_m11_heardLine.at 69 rfl) kst_11_228 ?_
    refine ok_iconst (v := 0) (kd_m11_heardLine.at 70 rfl) (by decide) ?_
    refine ok_aload_n 0 (kd_m11_heardLine.at 71 rfl) rfl rfl ?_
    refine ok_getR (kd_m11_heardLine.at 72 rfl) kf11_23 sh_14 rfl (kr_14_16 _) ?_
    refine ok_iconst (v := 0) (kd_m11_heardLine.at 73 rfl) (by decide) ?_
    refine ok_ialdK (j := 0) (kd_m11_heardLine.at 74 rfl) sh_58 (by decide) (by decide) ?_
    refine ok_callVI (M' := m11_after) (as := [.ref (1000 + 12), .int 0, .int (q19.1 58 0)]) (st := []) (kd_m11_heardLine.at 75 rfl) kc11_210 sh_14 rfl rfl (by decide) (ok_m11_after 12 0 (q19.1 58 0) (by decide) q19) (kfit_of (by decide)) rfl (Nat.le_of_ble_eq_true rfl) (fun q20 hq20 => ?_)
    refine ok_istore (lv' := [(4, .int q20.1), (0, .ref 14), (1, .int x3), (2, .int q4.1), (3, .int q7.1)]) (kd_m11_heardLine.at 76 rfl) (by decide) rfl ?_
    refine ok_aload_n 1 (kd_m11_heardLine.at 77 rfl) rfl rfl ?_
    refine ok_getZ (kd_m11_heardLine.at 78 rfl) kf11_97 sh_14 rfl (fun b21 => ?_)
    refine ok_ifb_eq (tgt := 142) (kd_m11_heardLine.at 79 rfl) (by decide) (fun h22 => ?_) (fun h22 => ?_)
    · refine ok_aload_n 1 (kd_m11_heardLine.at 81 rfl) rfl rfl ?_
      refine ok_getR (kd_m11_heardLine.at 82 rfl) kf11_23 sh_14 rfl (kr_14_16 _) ?_
      refine ok_iload_n 2 (kd_m11_heardLine.at 83 rfl) rfl rfl ?_
      refine ok_iload_n 3 (kd_m11_heardLine.at 84 rfl) rfl rfl ?_
      refine ok_iast (kd_m11_heardLine.at 85 rfl) sh_58 ?_
      refine ok_nS (fun S23 hS23 => ?_)
      refine ok_aload_n 1 (kd_m11_heardLine.at 86 rfl) rfl rfl ?_
      refine ok_getR (kd_m11_heardLine.at 87 rfl) kf11_23 sh_14 rfl (kr_14_16 _) ?_
      refine ok_iload_n 2 (kd_m11_heardLine.at 88 rfl) rfl rfl ?_
      refine ok_iconst (v := 1) (kd_m11_heardLine.at 89 rfl) (by decide) ?_
      refine ok_iadd (kd_m11_heardLine.at 90 rfl) ?_
      refine ok_iload_n 4 (kd_m11_heardLine.at 91 rfl) rfl rfl ?_
      refine ok_sndi (fun x25 hx25 => ?_)
      refine ok_iast (kd_m11_heardLine.at 92 rfl) sh_58 ?_
      refine ok_nS (fun S24 hS24 => ?_)
      refine ok_aload_n 1 (kd_m11_heardLine.at 93 rfl) rfl rfl ?_
      refine ok_getR (kd_m11_heardLine.at 94 rfl) kf11_23 sh_14 rfl (kr_14_16 _) ?_
      refine ok_iload_n 2 (kd_m11_heardLine.at 95 rfl) rfl rfl ?_
      refine ok_iconst (v := 2) (kd_m11_heardLine.at 96 rfl) (by decide) ?_
      refine ok_iadd (kd_m11_heardLine.at 97 rfl) ?_
      refine ok_iload 0 (kd_m11_heardLine.at 98 rfl) rfl ?_
      refine ok_sndi (fun x27 hx27 => ?_)
      refine ok_iast (kd_m11_heardLine.at 99 rfl) sh_58 ?_
      refine ok_nS (fun S26 hS26 => ?_)
      refine ok_aload_n 1 (kd_m11_heardLine.at 100 rfl) rfl rfl ?_
      refine ok_getR (kd_m11_heardLine.at 101 rfl) kf11_23 sh_14 rfl (kr_14_16 _) ?_
      refine ok_bipush (v := 6) (kd_m11_heardLine.at 102 rfl) (by decide) ?_
      refine ok_dup2 (kd_m11_heardLine.at 103 rfl) rfl rfl ?_
      refine ok_ialdK (j := 6) (kd_m11_heardLine.at 104 rfl) sh_58 (by decide) (by decide) ?_
      refine ok_iconst (v := 1) (kd_m11_heardLine.at 105 rfl) (by decide) ?_
      refine ok_iadd (kd_m11_heardLine.at 106 rfl) ?_
      refine ok_iastK (j := 6) (kd_m11_heardLine.at 107 rfl) sh_58 (by decide) (by decide) ?_
      refine ok_nS (fun S28 hS28 => ?_)
      exact ok_return (kd_m11_heardLine.at 108 rfl) rfl
    · exact ok_return (kd_m11_heardLine.at 80 rfl) rfl
  · exact ok_return (kd_m11_heardLine.at 3 rfl) rfl
def f_m11_unsureLine_L27   (k74 : kSt → Option kSt) (c1 : Int32) (c2 : Int32) : Nat → Int32 → kSt → Option kSt
  | 0, _, _ => none
  | n + 1, v3, S =>
    if (S.1 58 5) ≤ v3 then
      k74  S
    else
      kgb (S.1 14 13) fun b6 =>
      knx (fun  (S7 : kSt) =>
        knx (v3 + 1) fun x8 =>
        f_m11_unsureLine_L27 k74 c1 c2 n x8 S7
        ) fun j68 =>
      if b6 then
        j68  S
      else
        knx (18 + (2 * v3)) fun x10 =>
        kgi x10 95 (
          if (S.1 58 x10.toNatClampNeg) = c2 then
            (f_m11_wrong 3 (S.1 14 4) S).bind fun q12 =>
            j68  q12
          else
            j68  S
        )
theorem ok_m11_unsureLine_L27 {l : Launch} {G : kG} {E : kE}    (c1 : Int32) (c2 : Int32) (k74 : kSt → Option kSt) (hk74 : ∀  (S : kSt), kOk l G E (kZ G E kjV) m11_unsureLine (kdp (8)) (k74  S) 74 [(0, .ref 14), (1, .int c1), (2, .int c2)] [] S) : ∀ (n : Nat) (v3 : Int32) (S : kSt), kOk l G E (kZ G E kjV) m11_unsureLine (kdp (8)) (f_m11_unsureLine_L27 k74 c1 c2 n v3 S) 27 [(0, .ref 14), (1, .int c1), (2, .int c2), (3, .int v3)] [] S := by
  intro n
  induction n with
  | zero => intro v3 S; exact ok_none
  | succ n ih =>
    intro v3 S
    rw [f_m11_unsureLine_L27]
    refine ok_iload_n 3 (kd_m11_unsureLine.at 18 rfl) rfl rfl ?_
    refine ok_aload_n 0 (kd_m11_unsureLine.at 19 rfl) rfl rfl ?_
    refine ok_getR (kd_m11_unsureLine.at 20 rfl) kf11_23 sh_14 rfl (kr_14_16 _) ?_
    refine ok_iconst (v := 5) (kd_m11_unsureLine.at 21 rfl) (by decide) ?_
    refine ok_ialdK (j := 5) (kd_m11_unsureLine.at 22 rfl) sh_58 (by decide) (by decide) ?_
    refine ok_icmp_ge (tgt := 74) (kd_m11_unsureLine.at 23 rfl) (by decide) (fun h5 => ?_) (fun h5 => ?_)
    · refine ok_sub (lv' := [(0, .ref 14), (1, .int c1), (2, .int c2)]) [0, 1, 2] rfl ?_
      exact hk74  S
    · refine ok_aload_n 0 (kd_m11_unsureLine.at 24 rfl) rfl rfl ?_
      refine ok_getZ (kd_m11_unsureLine.at 25 rfl) kf11_97 sh_14 rfl (fun b6 => ?_)
      refine ok_nx (fun j68 hj68 => ?_)
      have K68 : ∀  (S7 : kSt), kOk l G E (kZ G E kjV) m11_unsureLine (kdp (8)) (j68  S7) 68 [(0, .ref 14), (1, .int c1), (2, .int c2), (3, .int v3)] [] S7 := by
        subst hj68
        intro  S7
        refine ok_nx (fun x8 hx8 => ?_)
        refine ok_iinc (v := x8) (lv' := [(3, .int x8), (0, .ref 14), (1, .int c1), (2, .int c2)]) 3 (kd_m11_unsureLine.at 42 rfl) rfl hx8.symm (by decide) rfl ?_
        refine ok_goto (tgt := 27) (kd_m11_unsureLine.at 43 rfl) (by decide) ?_
        refine ok_sub (lv' := [(0, .ref 14), (1, .int c1), (2, .int c2), (3, .int x8)]) [1, 2, 3, 0] rfl ?_
        exact ih x8 S7
      clear hj68
      refine ok_ifb_ne (tgt := 68) (kd_m11_unsureLine.at 26 rfl) (by decide) (fun h9 => ?_) (fun h9 => ?_)
      · exact K68  S
      · refine ok_aload_n 0 (kd_m11_unsureLine.at 27 rfl) rfl rfl ?_
        refine ok_getR (kd_m11_unsureLine.at 28 rfl) kf11_23 sh_14 rfl (kr_14_16 _) ?_
        refine ok_bipush (v := 18) (kd_m11_unsureLine.at 29 rfl) (by decide) ?_
        refine ok_iconst (v := 2) (kd_m11_unsureLine.at 30 rfl) (by decide) ?_
        refine ok_iload_n 3 (kd_m11_unsureLine.at 31 rfl) rfl rfl ?_
        refine ok_imul (kd_m11_unsureLine.at 32 rfl) ?_
        refine ok_iadd (kd_m11_unsureLine.at 33 rfl) ?_
        refine ok_topi (fun x10 hx10 => ?_)
        refine ok_iald (kd_m11_unsureLine.at 34 rfl) sh_58 ?_
        refine ok_iload_n 2 (kd_m11_unsureLine.at 35 rfl) rfl rfl ?_
        refine ok_icmp_ne (tgt := 68) (kd_m11_unsureLine.at 36 rfl) (by decide) (fun h11 => ?_) (fun h11 => ?_)
        · exact K68  S
        · refine ok_aload_n 0 (kd_m11_unsureLine.at 37 rfl) rfl rfl ?_
          refine ok_iconst (v := 3) (kd_m11_unsureLine.at 38 rfl) (by decide) ?_
          refine ok_aload_n 0 (kd_m11_unsureLine.at 39 rfl) rfl rfl ?_
          refine ok_getI (kd_m11_unsureLine.at 40 rfl) kf11_78 sh_14 rfl ?_
          refine ok_callVV (M' := m11_wrong) (as := [.int 3, .int (S.1 14 4)]) (st := []) (kd_m11_unsureLine.at 41 rfl) kc11_124 sh_14 rfl rfl (by decide) (ok_m11_wrong 3 (S.1 14 4) S) (kfit_of (by decide)) rfl (Nat.le_of_ble_eq_true rfl) (fun q12 hq12 => ?_)
          exact K68  q12
def f_m11_unsureLine  (S : kSt) : Option kSt :=
  kgb (S.1 14 13) fun b1 =>
  if b1 then
    some S
  else
    knx (18 + (2 * (S.1 58 5))) fun x3 =>
    (f_m11_pairHere  S).bind fun q4 =>
    f_m11_unsureLine_L27 
      (fun  (S13 : kSt) =>
        (f_m11_pass  S13).bind fun q14 =>
        (f_m11_number 0 20 q14).bind fun q15 =>
        kgb (q15.2.1 14 13) fun b16 =>
        if b16 then
          some q15.2
        else
          kgi x3 95 (
            knx (kuI q15.2 58 x3.toNatClampNeg q4.1) fun S18 =>
            knx (x3 + 1) fun x20 =>
            kgi x20 95 (
              knx (kuI S18 58 x20.toNatClampNeg q15.1) fun S19 =>
              knx (kuI S19 58 5 ((S19.1 58 5) + 1)) fun S21 =>
              some S21
            )
          )
      )
      x3 q4.1 kFU 0 q4.2
theorem ok_m11_unsureLine {l : Launch} {G : kG} {E : kE}   (S : kSt) : kFn l G E E kjV m11_unsureLine 8 [.ref 14] S (f_m11_unsureLine  S) := by
  unfold f_m11_unsureLine
  refine kFn_of (by decide +kernel) (fun hG => Nat.le_of_ble_eq_true rfl) ?_
  show kOk _ _ _ _ _ _ _ _ [(0, .ref 14)] _ _
  refine ok_aload_n 0 (kd_m11_unsureLine.at 0 rfl) rfl rfl ?_
  refine ok_getZ (kd_m11_unsureLine.at 1 rfl) kf11_97 sh_14 rfl (fun b1 => ?_)
  refine ok_ifb_eq (tgt := 8) (kd_m11_unsureLine.at 2 rfl) (by decide) (fun h2 => ?_) (fun h2 => ?_)
  · refine ok_bipush (v := 18) (kd_m11_unsureLine.at 4 rfl) (by decide) ?_
    refine ok_iconst (v := 2) (kd_m11_unsureLine.at 5 rfl) (by decide) ?_
    refine ok_aload_n 0 (kd_m11_unsureLine.at 6 rfl) rfl rfl ?_
    refine ok_getR (kd_m11_unsureLine.at 7 rfl) kf11_23 sh_14 rfl (kr_14_16 _) ?_
    refine ok_iconst (v := 5) (kd_m11_unsureLine.at 8 rfl) (by decide) ?_
    refine ok_ialdK (j := 5) (kd_m11_unsureLine.at 9 rfl) sh_58 (by decide) (by decide) ?_
    refine ok_imul (kd_m11_unsureLine.at 10 rfl) ?_
    refine ok_iadd (kd_m11_unsureLine.at 11 rfl) ?_
    refine ok_topi (fun x3 hx3 => ?_)
    refine ok_istore_n (lv' := [(1, .int x3), (0, .ref 14)]) (kd_m11_unsureLine.at 12 rfl) rfl (by decide) rfl ?_
    refine ok_aload_n 1 (kd_m11_unsureLine.at 13 rfl) rfl rfl ?_
    refine ok_callVI (M' := m11_pairHere) (as := []) (st := []) (kd_m11_unsureLine.at 14 rfl) kc11_232 sh_14 rfl rfl (by decide) (ok_m11_pairHere  S) (kfit_of (by decide)) rfl (Nat.le_of_ble_eq_true rfl) (fun q4 hq4 => ?_)
    refine ok_istore_n (lv' := [(2, .int q4.1), (1, .int x3), (0, .ref 14)]) (kd_m11_unsureLine.at 15 rfl) rfl (by decide) rfl ?_
    refine ok_iconst (v := 0) (kd_m11_unsureLine.at 16 rfl) (by decide) ?_
    refine ok_istore_n (lv' := [(3, .int 0), (2, .int q4.1), (1, .int x3), (0, .ref 14)]) (kd_m11_unsureLine.at 17 rfl) rfl (by decide) rfl ?_
    refine ok_sub (lv' := [(0, .ref 14), (1, .int x3), (2, .int q4.1), (3, .int 0)]) [3, 2, 1, 0] rfl ?_
    refine ok_m11_unsureLine_L27 x3 q4.1 _ (fun S13 => ?_) kFU 0 q4.2
    refine ok_aload_n 0 (kd_m11_unsureLine.at 44 rfl) rfl rfl ?_
    refine ok_callVV (M' := m11_pass) (as := []) (st := []) (kd_m11_unsureLine.at 45 rfl) kc11_154 sh_14 rfl rfl (by decide) (ok_m11_pass  S13) (kfit_of (by decide)) rfl (Nat.le_of_ble_eq_true rfl) (fun q14 hq14 => ?_)
    refine ok_aload_n 0 (kd_m11_unsureLine.at 46 rfl) rfl rfl ?_
    refine ok_iconst (v := 0) (kd_m11_unsureLine.at 47 rfl) (by decide) ?_
    refine ok_bipush (v := 20) (kd_m11_unsureLine.at 48 rfl) (by decide) ?_
    refine ok_callVI (M' := m11_number) (as := [.int 0, .int 20]) (st := []) (kd_m11_unsureLine.at 49 rfl) kc11_161 sh_14 rfl rfl (by decide) (ok_m11_number 0 20 q14) (kfit_of (by decide)) rfl (Nat.le_of_ble_eq_true rfl) (fun q15 hq15 => ?_)
    refine ok_istore_n (lv' := [(3, .int q15.1), (0, .ref 14), (1, .int x3), (2, .int q4.1)]) (kd_m11_unsureLine.at 50 rfl) rfl (by decide) rfl ?_
    refine ok_aload_n 1 (kd_m11_unsureLine.at 51 rfl) rfl rfl ?_
    refine ok_getZ (kd_m11_unsureLine.at 52 rfl) kf11_97 sh_14 rfl (fun b16 => ?_)
    refine ok_ifb_eq (tgt := 94) (kd_m11_unsureLine.at 53 rfl) (by decide) (fun h17 => ?_) (fun h17 => ?_)
    · refine ok_aload_n 1 (kd_m11_unsureLine.at 55 rfl) rfl rfl ?_
      refine ok_getR (kd_m11_unsureLine.at 56 rfl) kf11_23 sh_14 rfl (kr_14_16 _) ?_
      refine ok_iload_n 2 (kd_m11_unsureLine.at 57 rfl) rfl rfl ?_
      refine ok_iload_n 3 (kd_m11_unsureLine.at 58 rfl) rfl rfl ?_
      refine ok_iast (kd_m11_unsureLine.at 59 rfl) sh_58 ?_
      refine ok_nS (fun S18 hS18 => ?_)
      refine ok_aload_n 1 (kd_m11_unsureLine.at 60 rfl) rfl rfl ?_
      refine ok_getR (kd_m11_unsureLine.at 61 rfl) kf11_23 sh_14 rfl (kr_14_16 _) ?_
      refine ok_iload_n 2 (kd_m11_unsureLine.at 62 rfl) rfl rfl ?_
      refine ok_iconst (v := 1) (kd_m11_unsureLine.at 63 rfl) (by decide) ?_
      refine ok_iadd (kd_m11_unsureLine.at 64 rfl) ?_
      refine ok_iload_n 0 (kd_m11_unsureLine.at 65 rfl) rfl rfl ?_
      refine ok_sndi (fun x20 hx20 => ?_)
      refine ok_iast (kd_m11_unsureLine.at 66 rfl) sh_58 ?_
      refine ok_nS (fun S19 hS19 => ?_)
      refine ok_aload_n 1 (kd_m11_unsureLine.at 67 rfl) rfl rfl ?_
      refine ok_getR (kd_m11_unsureLine.at 68 rfl) kf11_23 sh_14 rfl (kr_14_16 _) ?_
      refine ok_iconst (v := 5) (kd_m11_unsureLine.at 69 rfl) (by decide) ?_
      refine ok_dup2 (kd_m11_unsureLine.at 70 rfl) rfl rfl ?_
      refine ok_ialdK (j := 5) (kd_m11_unsureLine.at 71 rfl) sh_58 (by decide) (by decide) ?_
      refine ok_iconst (v := 1) (kd_m11_unsureLine.at 72 rfl) (by decide) ?_
      refine ok_iadd (kd_m11_unsureLine.at 73 rfl) ?_
      refine ok_iastK (j := 5) (kd_m11_unsureLine.at 74 rfl) sh_58 (by decide) (by decide) ?_
      refine ok_nS (fun S21 hS21 => ?_)
      exact ok_return (kd_m11_unsureLine.at 75 rfl) rfl
    · exact ok_return (kd_m11_unsureLine.at 54 rfl) rfl
  · exact ok_return (kd_m11_unsureLine.at 3 rfl) rfl
def f_m11_debtLine  (S : kSt) : Option kSt :=
  (f_m11_pairHere  S).bind fun q1 =>
  (f_m11_pass  q1.2).bind fun q2 =>
  (f_m11_pairHere  q2).bind fun q3 =>
  kgb (q3.2.1 14 13) fun b4 =>
  knx (fun  (S5 : kSt) =>
    (f_m11_pass  S5).bind fun q6 =>
    (f_m11_number 1 99 q6).bind fun q7 =>
    kgb (q7.2.1 14 13) fun b8 =>
    if b8 then
      some q7.2
    else
      knx ((10 + (5 * q1.1)) + q3.1) fun x11 =>
      kgi x11 36 (
        knx (kuI q7.2 60 x11.toNatClampNeg q7.1) fun S10 =>
        knx (kuI S10 58 4 ((S10.1 58 4) + 1)) fun S12 =>
        some S12
      )
    ) fun j51 =>
  if b4 then
    j51  q3.2
  else
    knx (fun  (S14 : kSt) =>
      (f_m11_wrong 3 (S14.1 14 4) S14).bind fun q15 =>
      j51  q15
      ) fun j42 =>
    if q1.1 = q3.1 then
      j42  q3.2
    else
      knx ((10 + (5 * q1.1)) + q3.1) fun x17 =>
      kgi x17 36 (
        if (q3.2.1 60 x17.toNatClampNeg) ≤ 0 then
          j51  q3.2
        else
          j42  q3.2
      )
theorem ok_m11_debtLine {l : Launch} {G : kG} {E : kE}   (S : kSt) : kFn l G E E kjV m11_debtLine 8 [.ref 14] S (f_m11_debtLine  S) := by
  unfold f_m11_debtLine
  refine kFn_of (by decide +kernel) (fun hG => Nat.le_of_ble_eq_true rfl) ?_
  show kOk _ _ _ _ _ _ _ _ [(0, .ref 14)] _ _
  refine ok_aload_n 0 (kd_m11_debtLine.at 0 rfl) rfl rfl ?_
  refine ok_callVI (M' := m11_pairHere) (as := []) (st := []) (kd_m11_debtLine.at 1 rfl) kc11_232 sh_14 rfl rfl (by decide) (ok_m11_pairHere  S) (kfit_of (by decide)) rfl (Nat.le_of_ble_eq_true rfl) (fun q1 hq1 => ?_)
  refine ok_istore_n (lv' := [(1, .int q1.1), (0, .ref 14)]) (kd_m11_debtLine.at 2 rfl) rfl (by decide) rfl ?_
  refine ok_aload_n 1 (kd_m11_debtLine.at 3 rfl) rfl rfl ?_
  refine ok_callVV (M' := m11_pass) (as := []) (st := []) (kd_m11_debtLine.at 4 rfl) kc11_154 sh_14 rfl rfl (by decide) (ok_m11_pass  q1.2) (kfit_of (by decide)) rfl (Nat.le_of_ble_eq_true rfl) (fun q2 hq2 => ?_)
  refine ok_aload_n 1 (kd_m11_debtLine.at 5 rfl) rfl rfl ?_
  refine ok_callVI (M' := m11_pairHere) (as := []) (st := []) (kd_m11_debtLine.at 6 rfl) kc11_232 sh_14 rfl rfl (by decide) (ok_m11_pairHere  q2) (kfit_of (by decide)) rfl (Nat.le_of_ble_eq_true rfl) (fun q3 hq3 => ?_)
  refine ok_istore_n (lv' := [(2, .int q3.1), (1, .int q1.1), (0, .ref 14)]) (kd_m11_debtLine.at 7 rfl) rfl (by decide) rfl ?_
  refine ok_aload_n 2 (kd_m11_debtLine.at 8 rfl) rfl rfl ?_
  refine ok_getZ (kd_m11_debtLine.at 9 rfl) kf11_97 sh_14 rfl (fun b4 => ?_)
  refine ok_nx (fun j51 hj51 => ?_)
  have K51 : ∀  (S5 : kSt), kOk l G E (kZ G E kjV) m11_debtLine (kdp (8)) (j51  S5) 51 [(0, .ref 14), (1, .int q1.1), (2, .int q3.1)] [] S5 := by
    subst hj51
    intro  S5
    refine ok_aload_n 0 (kd_m11_debtLine.at 30 rfl) rfl rfl ?_
    refine ok_callVV (M' := m11_pass) (as := []) (st := []) (kd_m11_debtLine.at 31 rfl) kc11_154 sh_14 rfl rfl (by decide) (ok_m11_pass  S5) (kfit_of (by decide)) rfl (Nat.le_of_ble_eq_true rfl) (fun q6 hq6 => ?_)
    refine ok_aload_n 0 (kd_m11_debtLine.at 32 rfl) rfl rfl ?_
    refine ok_iconst (v := 1) (kd_m11_debtLine.at 33 rfl) (by decide) ?_
    refine ok_bipush (v := 99) (kd_m11_debtLine.at 34 rfl) (by decide) ?_
    refine ok_callVI (M' := m11_number) (as := [.int 1, .int 99]) (st := []) (kd_m11_debtLine.at 35 rfl) kc11_161 sh_14 rfl rfl (by decide) (ok_m11_number 1 99 q6) (kfit_of (by decide)) rfl (Nat.le_of_ble_eq_true rfl) (fun q7 hq7 => ?_)
    refine ok_istore_n (lv' := [(3, .int q7.1), (0, .ref 14), (1, .int q1.1), (2, .int q3.1)]) (kd_m11_debtLine.at 36 rfl) rfl (by decide) rfl ?_
    refine ok_aload_n 1 (kd_m11_debtLine.at 37 rfl) rfl rfl ?_
    refine ok_getZ (kd_m11_debtLine.at 38 rfl) kf11_97 sh_14 rfl (fun b8 => ?_)
    refine ok_ifb_eq (tgt := 71) (kd_m11_debtLine.at 39 rfl) (by decide) (fun h9 => ?_) (fun h9 => ?_)
    · refine ok_aload_n 1 (kd_m11_debtLine.at 41 rfl) rfl rfl ?_
      refine ok_getR (kd_m11_debtLine.at 42 rfl) kf11_29 sh_14 rfl (kr_14_18 _) ?_
      refine ok_bipush (v := 10) (kd_m11_debtLine.at 43 rfl) (by decide) ?_
      refine ok_iconst (v := 5) (kd_m11_debtLine.at 44 rfl) (by decide) ?_
      refine ok_iload_n 2 (kd_m11_debtLine.at 45 rfl) rfl rfl ?_
      refine ok_imul (kd_m11_debtLine.at 46 rfl) ?_
      refine ok_iadd (kd_m11_debtLine.at 47 rfl) ?_
      refine ok_iload_n 3 (kd_m11_debtLine.at 48 rfl) rfl rfl ?_
      refine ok_iadd (kd_m11_debtLine.at 49 rfl) ?_
      refine ok_iload_n 0 (kd_m11_debtLine.at 50 rfl) rfl rfl ?_
      refine ok_sndi (fun x11 hx11 => ?_)
      refine ok_iast (kd_m11_debtLine.at 51 rfl) sh_60 ?_
      refine ok_nS (fun S10 hS10 => ?_)
      refine ok_aload_n 1 (kd_m11_debtLine.at 52 rfl) rfl rfl ?_
      refine ok_getR (kd_m11_debtLine.at 53 rfl) kf11_23 sh_14 rfl (kr_14_16 _) ?_
      refine ok_iconst (v := 4) (kd_m11_debtLine.at 54 rfl) (by decide) ?_
      refine ok_dup2 (kd_m11_debtLine.at 55 rfl) rfl rfl ?_
      refine ok_ialdK (j := 4) (kd_m11_debtLine.at 56 rfl) sh_58 (by decide) (by decide) ?_
      refine ok_iconst (v := 1) (kd_m11_debtLine.at 57 rfl) (by decide) ?_
      refine ok_iadd (kd_m11_debtLine.at 58 rfl) ?_
      refine ok_iastK (j := 4) (kd_m11_debtLine.at 59 rfl) sh_58 (by decide) (by decide) ?_
      refine ok_nS (fun S12 hS12 => ?_)
      exact ok_return (kd_m11_debtLine.at 60 rfl) rfl
    · exact ok_return (kd_m11_debtLine.at 40 rfl) rfl
  clear hj51
  refine ok_ifb_ne (tgt := 51) (kd_m11_debtLine.at 10 rfl) (by decide) (fun h13 => ?_) (fun h13 => ?_)
  · refine ok_sub (lv' := [(0, .ref 14), (1, .int q1.1), (2, .int q3.1)]) [2, 1, 0] rfl ?_
    exact K51  q3.2
  · refine ok_iload_n 1 (kd_m11_debtLine.at 11 rfl) rfl rfl ?_
    refine ok_iload_n 0 (kd_m11_debtLine.at 12 rfl) rfl rfl ?_
    refine ok_nx (fun j42 hj42 => ?_)
    have K42 : ∀  (S14 : kSt), kOk l G E (kZ G E kjV) m11_debtLine (kdp (8)) (j42  S14) 42 [(0, .ref 14), (1, .int q1.1), (2, .int q3.1)] [] S14 := by
      subst hj42
      intro  S14
      refine ok_aload_n 0 (kd_m11_debtLine.at 25 rfl) rfl rfl ?_
      refine ok_iconst (v := 3) (kd_m11_debtLine.at 26 rfl) (by decide) ?_
      refine ok_aload_n 0 (kd_m11_debtLine.at 27 rfl) rfl rfl ?_
      refine ok_getI (kd_m11_debtLine.at 28 rfl) kf11_78 sh_14 rfl ?_
      refine ok_callVV (M' := m11_wrong) (as := [.int 3, .int (S14.1 14 4)]) (st := []) (kd_m11_debtLine.at 29 rfl) kc11_124 sh_14 rfl rfl (by decide) (ok_m11_wrong 3 (S14.1 14 4) S14) (kfit_of (by decide)) rfl (Nat.le_of_ble_eq_true rfl) (fun q15 hq15 => ?_)
      exact K51  q15
    clear hj42
    refine ok_icmp_eq (tgt := 42) (kd_m11_debtLine.at 13 rfl) (by decide) (fun h16 => ?_) (fun h16 => ?_)
    · refine ok_sub (lv' := [(0, .ref 14), (1, .int q1.1), (2, .int q3.1)]) [2, 1, 0] rfl ?_
      exact K42  q3.2
    · refine ok_aload_n 2 (kd_m11_debtLine.at 14 rfl) rfl rfl ?_
      refine ok_getR (kd_m11_debtLine.at 15 rfl) kf11_29 sh_14 rfl (kr_14_18 _) ?_
      refine ok_bipush (v := 10) (kd_m11_debtLine.at 16 rfl) (by decide) ?_
      refine ok_iconst (v := 5) (kd_m11_debtLine.at 17 rfl) (by decide) ?_
      refine ok_iload_n 1 (kd_m11_debtLine.at 18 rfl) rfl rfl ?_
      refine ok_imul (kd_m11_debtLine.at 19 rfl) ?_
      refine ok_iadd (kd_m11_debtLine.at 20 rfl) ?_
      refine ok_iload_n 0 (kd_m11_debtLine.at 21 rfl) rfl rfl ?_
      refine ok_iadd (kd_m11_debtLine.at 22 rfl) ?_
      refine ok_topi (fun x17 hx17 => ?_)
      refine ok_iald (kd_m11_debtLine.at 23 rfl) sh_60 ?_
      refine ok_if_le (tgt := 51) (kd_m11_debtLine.at 24 rfl) (by decide) (fun h18 => ?_) (fun h18 => ?_)
      · refine ok_sub (lv' := [(0, .ref 14), (1, .int q1.1), (2, .int q3.1)]) [2, 1, 0] rfl ?_
        exact K51  q3.2
      · refine ok_sub (lv' := [(0, .ref 14), (1, .int q1.1), (2, .int q3.1)]) [2, 1, 0] rfl ?_
        exact K42  q3.2
def f_m11_contractLine  (S : kSt) : Option kSt :=
  (f_m11_pairHere  S).bind fun q1 =>
  kgb (q1.2.1 14 13) fun b2 =>
  knx (fun  (S3 : kSt) =>
    (f_m11_pass  S3).bind fun q4 =>
    (f_m11_after 14 1 9 q4).bind fun q5 =>
    kgb (q5.2.1 14 13) fun b6 =>
    if b6 then
      some q5.2
    else
      knx (13 + q1.1) fun x9 =>
      kgi x9 95 (
        knx (kuI q5.2 58 x9.toNatClampNeg q5.1) fun S8 =>
        knx (kuI S8 58 3 ((S8.1 58 3) + 1)) fun S10 =>
        some S10
      )
    ) fun j33 =>
  if b2 then
    j33  q1.2
  else
    knx (13 + q1.1) fun x12 =>
    kgi x12 95 (
      if (q1.2.1 58 x12.toNatClampNeg) ≤ 0 then
        j33  q1.2
      else
        (f_m11_wrong 3 (q1.2.1 14 4) q1.2).bind fun q14 =>
        j33  q14
    )
theorem ok_m11_contractLine {l : Launch} {G : kG} {E : kE}   (S : kSt) : kFn l G E E kjV m11_contractLine 9 [.ref 14] S (f_m11_contractLine  S) := by
  unfold f_m11_contractLine
  refine kFn_of (by decide +kernel) (fun hG => Nat.le_of_ble_eq_true rfl) ?_
  show kOk _ _ _ _ _ _ _ _ [(0, .ref 14)] _ _
  refine ok_aload_n 0 (kd_m11_contractLine.at 0 rfl) rfl rfl ?_
  refine ok_callVI (M' := m11_pairHere) (as := []) (st := []) (kd_m11_contractLine.at 1 rfl) kc11_232 sh_14 rfl rfl (by decide) (ok_m11_pairHere  S) (kfit_of (by decide)) rfl (Nat.le_of_ble_eq_true rfl) (fun q1 hq1 => ?_)
  refine ok_istore_n (lv' := [(1, .int q1.1), (0, .ref 14)]) (kd_m11_contractLine.at 2 rfl) rfl (by decide) rfl ?_
  refine ok_aload_n 1 (kd_m11_contractLine.at 3 rfl) rfl rfl ?_
  refine ok_getZ (kd_m11_contractLine.at 4 rfl) kf11_97 sh_14 rfl (fun b2 => ?_)
  refine ok_nx (fun j33 hj33 => ?_)
  have K33 : ∀  (S3 : kSt), kOk l G E (kZ G E kjV) m11_contractLine (kdp (9)) (j33  S3) 33 [(0, .ref 14), (1, .int q1.1)] [] S3 := by
    subst hj33
    intro  S3
    refine ok_aload_n 0 (kd_m11_contractLine.at 18 rfl) rfl rfl ?_
    refine ok_callVV (M' := m11_pass) (as := []) (st := []) (kd_m11_contractLine.at 19 rfl) kc11_154 sh_14 rfl rfl (by decide) (ok_m11_pass  S3) (kfit_of (by decide)) rfl (Nat.le_of_ble_eq_true rfl) (fun q4 hq4 => ?_)
    refine ok_aload_n 0 (kd_m11_contractLine.at 20 rfl) rfl rfl ?_
    refine ok_ldcS (kd_m11_contractLine.at 21 rfl) kst_11_235 ?_
    refine ok_iconst (v := 1) (kd_m11_contractLine.at 22 rfl) (by decide) ?_
    refine ok_bipush (v := 9) (kd_m11_contractLine.at 23 rfl) (by decide) ?_
    refine ok_callVI (M' := m11_after) (as := [.ref (1000 + 14), .int 1, .int 9]) (st := []) (kd_m11_contractLine.at 24 rfl) kc11_210 sh_14 rfl rfl (by decide) (ok_m11_after 14 1 9 (by decide) q4) (kfit_of (by decide)) rfl (Nat.le_of_ble_eq_true rfl) (fun q5 hq5 => ?_)
    refine ok_istore_n (lv' := [(2, .int q5.1), (0, .ref 14), (1, .int q1.1)]) (kd_m11_contractLine.at 25 rfl) rfl (by decide) rfl ?_
    refine ok_aload_n 1 (kd_m11_contractLine.at 26 rfl) rfl rfl ?_
    refine ok_getZ (kd_m11_contractLine.at 27 rfl) kf11_97 sh_14 rfl (fun b6 => ?_)
    refine ok_ifb_eq (tgt := 55) (kd_m11_contractLine.at 28 rfl) (by decide) (fun h7 => ?_) (fun h7 => ?_)
    · refine ok_aload_n 1 (kd_m11_contractLine.at 30 rfl) rfl rfl ?_
      refine ok_getR (kd_m11_contractLine.at 31 rfl) kf11_23 sh_14 rfl (kr_14_16 _) ?_
      refine ok_bipush (v := 13) (kd_m11_contractLine.at 32 rfl) (by decide) ?_
      refine ok_iload_n 2 (kd_m11_contractLine.at 33 rfl) rfl rfl ?_
      refine ok_iadd (kd_m11_contractLine.at 34 rfl) ?_
      refine ok_iload_n 0 (kd_m11_contractLine.at 35 rfl) rfl rfl ?_
      refine ok_sndi (fun x9 hx9 => ?_)
      refine ok_iast (kd_m11_contractLine.at 36 rfl) sh_58 ?_
      refine ok_nS (fun S8 hS8 => ?_)
      refine ok_aload_n 1 (kd_m11_contractLine.at 37 rfl) rfl rfl ?_
      refine ok_getR (kd_m11_contractLine.at 38 rfl) kf11_23 sh_14 rfl (kr_14_16 _) ?_
      refine ok_iconst (v := 3) (kd_m11_contractLine.at 39 rfl) (by decide) ?_
      refine ok_dup2 (kd_m11_contractLine.at 40 rfl) rfl rfl ?_
      refine ok_ialdK (j := 3) (kd_m11_contractLine.at 41 rfl) sh_58 (by decide) (by decide) ?_
      refine ok_iconst (v := 1) (kd_m11_contractLine.at 42 rfl) (by decide) ?_
      refine ok_iadd (kd_m11_contractLine.at 43 rfl) ?_
      refine ok_iastK (j := 3) (kd_m11_contractLine.at 44 rfl) sh_58 (by decide) (by decide) ?_
      refine ok_nS (fun S10 hS10 => ?_)
      exact ok_return (kd_m11_contractLine.at 45 rfl) rfl
    · exact ok_return (kd_m11_contractLine.at 29 rfl) rfl
  clear hj33
  refine ok_ifb_ne (tgt := 33) (kd_m11_contractLine.at 5 rfl) (by decide) (fun h11 => ?_) (fun h11 => ?_)
  · refine ok_sub (lv' := [(0, .ref 14), (1, .int q1.1)]) [1, 0] rfl ?_
    exact K33  q1.2
  · refine ok_aload_n 1 (kd_m11_contractLine.at 6 rfl) rfl rfl ?_
    refine ok_getR (kd_m11_contractLine.at 7 rfl) kf11_23 sh_14 rfl (kr_14_16 _) ?_
    refine ok_bipush (v := 13) (kd_m11_contractLine.at 8 rfl) (by decide) ?_
    refine ok_iload_n 0 (kd_m11_contractLine.at 9 rfl) rfl rfl ?_
    refine ok_iadd (kd_m11_contractLine.at 10 rfl) ?_
    refine ok_topi (fun x12 hx12 => ?_)
    refine ok_iald (kd_m11_contractLine.at 11 rfl) sh_58 ?_
    refine ok_if_le (tgt := 33) (kd_m11_contractLine.at 12 rfl) (by decide) (fun h13 => ?_) (fun h13 => ?_)
    · refine ok_sub (lv' := [(0, .ref 14), (1, .int q1.1)]) [1, 0] rfl ?_
      exact K33  q1.2
    · refine ok_aload_n 1 (kd_m11_contractLine.at 13 rfl) rfl rfl ?_
      refine ok_iconst (v := 3) (kd_m11_contractLine.at 14 rfl) (by decide) ?_
      refine ok_aload_n 1 (kd_m11_contractLine.at 15 rfl) rfl rfl ?_
      refine ok_getI (kd_m11_contractLine.at 16 rfl) kf11_78 sh_14 rfl ?_
      refine ok_callVV (M' := m11_wrong) (as := [.int 3, .int (q1.2.1 14 4)]) (st := []) (kd_m11_contractLine.at 17 rfl) kc11_124 sh_14 rfl rfl (by decide) (ok_m11_wrong 3 (q1.2.1 14 4) q1.2) (kfit_of (by decide)) rfl (Nat.le_of_ble_eq_true rfl) (fun q14 hq14 => ?_)
      refine ok_sub (lv' := [(0, .ref 14), (1, .int q1.1)]) [1, 0] rfl ?_
      exact K33  q14
def f_m11_pairLine  (S : kSt) : Option kSt :=
  kgb (S.1 14 13) fun b1 =>
  if b1 then
    some S
  else
    knx (S.1 58 2) fun x3 =>
    (f_m11_newName x3 S).bind fun q4 =>
    (f_m11_isWord 8 q4).bind fun q5 =>
    knx (fun (x6 : Int32) (S7 : kSt) =>
      knx (fun  (S8 : kSt) =>
        (f_m11_pass  S8).bind fun q9 =>
        (f_m11_after 12 0 (q9.1 58 0) q9).bind fun q10 =>
        (f_m11_after 13 0 20 q10.2).bind fun q11 =>
        kgb (q11.2.1 14 13) fun b12 =>
        if b12 then
          some q11.2
        else
          knx (8 + x3) fun x15 =>
          kgi x15 95 (
            knx (kuI q11.2 58 x15.toNatClampNeg x6) fun S14 =>
            kgi x3 36 (
              knx (kuI S14 60 x3.toNatClampNeg q10.1) fun S16 =>
              knx (5 + x3) fun x18 =>
              kgi x18 36 (
                knx (kuI S16 60 x18.toNatClampNeg q11.1) fun S17 =>
                knx (kuI S17 58 2 ((S17.1 58 2) + 1)) fun S19 =>
                some S19
              )
            )
          )
        ) fun j87 =>
      if 0 ≤ x6 then
        j87  S7
      else
        (f_m11_wrong 1 (S7.1 14 4) S7).bind fun q21 =>
        j87  q21
      ) fun j73 =>
    if q5.1 then
      j73 0 q5.2
    else
      (f_m11_isWord 9 q5.2).bind fun q23 =>
      if q23.1 then
        j73 1 q23.2
      else
        (f_m11_isWord 10 q23.2).bind fun q25 =>
        if q25.1 then
          j73 2 q25.2
        else
          (f_m11_isWord 11 q25.2).bind fun q27 =>
          if q27.1 then
            j73 3 q27.2
          else
            j73 (-1) q27.2
theorem ok_m11_pairLine {l : Launch} {G : kG} {E : kE}   (S : kSt) : kFn l G E E kjV m11_pairLine 9 [.ref 14] S (f_m11_pairLine  S) := by
  unfold f_m11_pairLine
  refine kFn_of (by decide +kernel) (fun hG => Nat.le_of_ble_eq_true rfl) ?_
  show kOk _ _ _ _ _ _ _ _ [(0, .ref 14)] _ _
  refine ok_aload_n 0 (kd_m11_pairLine.at 0 rfl) rfl rfl ?_
  refine ok_getZ (kd_m11_pairLine.at 1 rfl) kf11_97 sh_14 rfl (fun b1 => ?_)
  refine ok_ifb_eq (tgt := 8) (kd_m11_pairLine.at 2 rfl) (by decide) (fun h2 => ?_) (fun h2 => ?_)
  · refine ok_aload_n 0 (kd_m11_pairLine.at 4 rfl) rfl rfl ?_
    refine ok_getR (kd_m11_pairLine.at 5 rfl) kf11_23 sh_14 rfl (kr_14_16 _) ?_
    refine ok_iconst (v := 2) (kd_m11_pairLine.at 6 rfl) (by decide) ?_
    refine ok_ialdK (j := 2) (kd_m11_pairLine.at 7 rfl) sh_58 (by decide) (by decide) ?_
    refine ok_topi (fun x3 hx3 => ?_)
    refine ok_istore_n (lv' := [(1, .int x3), (0, .ref 14)]) (kd_m11_pairLine.at 8 rfl) rfl (by decide) rfl ?_
    refine ok_aload_n 1 (kd_m11_pairLine.at 9 rfl) rfl rfl ?_
    refine ok_iload_n 0 (kd_m11_pairLine.at 10 rfl) rfl rfl ?_
    refine ok_callVV (M' := m11_newName) (as := [.int x3]) (st := []) (kd_m11_pairLine.at 11 rfl) kc11_216 sh_14 rfl rfl (by decide) (ok_m11_newName x3 S) (kfit_of (by decide)) rfl (Nat.le_of_ble_eq_true rfl) (fun q4 hq4 => ?_)
    refine ok_aload_n 1 (kd_m11_pairLine.at 12 rfl) rfl rfl ?_
    refine ok_ldcS (kd_m11_pairLine.at 13 rfl) kst_11_220 ?_
    refine ok_callVB (M' := m11_isWord) (as := [.ref (1000 + 8)]) (st := []) (kd_m11_pairLine.at 14 rfl) kc11_114 sh_14 rfl rfl (by decide) (ok_m11_isWord 8 (by decide) q4) (kfit_of (by decide)) rfl (Nat.le_of_ble_eq_true rfl) (fun q5 hq5 => ?_)
    refine ok_nx (fun j73 hj73 => ?_)
    have K73 : ∀ (x6 : Int32) (S7 : kSt), kOk l G E (kZ G E kjV) m11_pairLine (kdp (9)) (j73 x6 S7) 73 [(0, .ref 14), (1, .int x3)] [.int x6] S7 := by
      subst hj73
      intro x6 S7
      refine ok_istore_n (lv' := [(2, .int x6), (0, .ref 14), (1, .int x3)]) (kd_m11_pairLine.at 37 rfl) rfl (by decide) rfl ?_
      refine ok_iload_n 0 (kd_m11_pairLine.at 38 rfl) rfl rfl ?_
      refine ok_nx (fun j87 hj87 => ?_)
      have K87 : ∀  (S8 : kSt), kOk l G E (kZ G E kjV) m11_pairLine (kdp (9)) (j87  S8) 87 [(0, .ref 14), (1, .int x3), (2, .int x6)] [] S8 := by
        subst hj87
        intro  S8
        refine ok_aload_n 0 (kd_m11_pairLine.at 45 rfl) rfl rfl ?_
        refine ok_callVV (M' := m11_pass) (as := []) (st := []) (kd_m11_pairLine.at 46 rfl) kc11_154 sh_14 rfl rfl (by decide) (ok_m11_pass  S8) (kfit_of (by decide)) rfl (Nat.le_of_ble_eq_true rfl) (fun q9 hq9 => ?_)
        refine ok_aload_n 0 (kd_m11_pairLine.at 47 rfl) rfl rfl ?_
        refine ok_ldcS (kd_m11_pairLine.at 48 rfl) kst_11_228 ?_
        refine ok_iconst (v := 0) (kd_m11_pairLine.at 49 rfl) (by decide) ?_
        refine ok_aload_n 0 (kd_m11_pairLine.at 50 rfl) rfl rfl ?_
        refine ok_getR (kd_m11_pairLine.at 51 rfl) kf11_23 sh_14 rfl (kr_14_16 _) ?_
        refine ok_iconst (v := 0) (kd_m11_pairLine.at 52 rfl) (by decide) ?_
        refine ok_ialdK (j := 0) (kd_m11_pairLine.at 53 rfl) sh_58 (by decide) (by decide) ?_
        refine ok_callVI (M' := m11_after) (as := [.ref (1000 + 12), .int 0, .int (q9.1 58 0)]) (st := []) (kd_m11_pairLine.at 54 rfl) kc11_210 sh_14 rfl rfl (by decide) (ok_m11_after 12 0 (q9.1 58 0) (by decide) q9) (kfit_of (by decide)) rfl (Nat.le_of_ble_eq_true rfl) (fun q10 hq10 => ?_)
        refine ok_istore_n (lv' := [(3, .int q10.1), (0, .ref 14), (1, .int x3), (2, .int x6)]) (kd_m11_pairLine.at 55 rfl) rfl (by decide) rfl ?_
        refine ok_aload_n 1 (kd_m11_pairLine.at 56 rfl) rfl rfl ?_
        refine ok_ldcS (kd_m11_pairLine.at 57 rfl) kst_11_230 ?_
        refine ok_iconst (v := 0) (kd_m11_pairLine.at 58 rfl) (by decide) ?_
        refine ok_bipush (v := 20) (kd_m11_pairLine.at 59 rfl) (by decide) ?_
        refine ok_callVI (M' := m11_after) (as := [.ref (1000 + 13), .int 0, .int 20]) (st := []) (kd_m11_pairLine.at 60 rfl) kc11_210 sh_14 rfl rfl (by decide) (ok_m11_after 13 0 20 (by decide) q10.2) (kfit_of (by decide)) rfl (Nat.le_of_ble_eq_true rfl) (fun q11 hq11 => ?_)
        refine ok_istore (lv' := [(4, .int q11.1), (3, .int q10.1), (0, .ref 14), (1, .int x3), (2, .int x6)]) (kd_m11_pairLine.at 61 rfl) (by decide) rfl ?_
        refine ok_aload_n 2 (kd_m11_pairLine.at 62 rfl) rfl rfl ?_
        refine ok_getZ (kd_m11_pairLine.at 63 rfl) kf11_97 sh_14 rfl (fun b12 => ?_)
        refine ok_ifb_eq (tgt := 124) (kd_m11_pairLine.at 64 rfl) (by decide) (fun h13 => ?_) (fun h13 => ?_)
        · refine ok_aload_n 2 (kd_m11_pairLine.at 66 rfl) rfl rfl ?_
          refine ok_getR (kd_m11_pairLine.at 67 rfl) kf11_23 sh_14 rfl (kr_14_16 _) ?_
          refine ok_bipush (v := 8) (kd_m11_pairLine.at 68 rfl) (by decide) ?_
          refine ok_iload_n 3 (kd_m11_pairLine.at 69 rfl) rfl rfl ?_
          refine ok_iadd (kd_m11_pairLine.at 70 rfl) ?_
          refine ok_iload_n 4 (kd_m11_pairLine.at 71 rfl) rfl rfl ?_
          refine ok_sndi (fun x15 hx15 => ?_)
          refine ok_iast (kd_m11_pairLine.at 72 rfl) sh_58 ?_
          refine ok_nS (fun S14 hS14 => ?_)
          refine ok_aload_n 2 (kd_m11_pairLine.at 73 rfl) rfl rfl ?_
          refine ok_getR (kd_m11_pairLine.at 74 rfl) kf11_29 sh_14 rfl (kr_14_18 _) ?_
          refine ok_iload_n 3 (kd_m11_pairLine.at 75 rfl) rfl rfl ?_
          refine ok_iload_n 1 (kd_m11_pairLine.at 76 rfl) rfl rfl ?_
          refine ok_iast (kd_m11_pairLine.at 77 rfl) sh_60 ?_
          refine ok_nS (fun S16 hS16 => ?_)
          refine ok_aload_n 2 (kd_m11_pairLine.at 78 rfl) rfl rfl ?_
          refine ok_getR (kd_m11_pairLine.at 79 rfl) kf11_29 sh_14 rfl (kr_14_18 _) ?_
          refine ok_iconst (v := 5) (kd_m11_pairLine.at 80 rfl) (by decide) ?_
          refine ok_iload_n 3 (kd_m11_pairLine.at 81 rfl) rfl rfl ?_
          refine ok_iadd (kd_m11_pairLine.at 82 rfl) ?_
          refine ok_iload 0 (kd_m11_pairLine.at 83 rfl) rfl ?_
          refine ok_sndi (fun x18 hx18 => ?_)
          refine ok_iast (kd_m11_pairLine.at 84 rfl) sh_60 ?_
          refine ok_nS (fun S17 hS17 => ?_)
          refine ok_aload_n 2 (kd_m11_pairLine.at 85 rfl) rfl rfl ?_
          refine ok_getR (kd_m11_pairLine.at 86 rfl) kf11_23 sh_14 rfl (kr_14_16 _) ?_
          refine ok_iconst (v := 2) (kd_m11_pairLine.at 87 rfl) (by decide) ?_
          refine ok_dup2 (kd_m11_pairLine.at 88 rfl) rfl rfl ?_
          refine ok_ialdK (j := 2) (kd_m11_pairLine.at 89 rfl) sh_58 (by decide) (by decide) ?_
          refine ok_iconst (v := 1) (kd_m11_pairLine.at 90 rfl) (by decide) ?_
          refine ok_iadd (kd_m11_pairLine.at 91 rfl) ?_
          refine ok_iastK (j := 2) (kd_m11_pairLine.at 92 rfl) sh_58 (by decide) (by decide) ?_
          refine ok_nS (fun S19 hS19 => ?_)
          exact ok_return (kd_m11_pairLine.at 93 rfl) rfl
        · exact ok_return (kd_m11_pairLine.at 65 rfl) rfl
      clear hj87
      refine ok_if_ge (tgt := 87) (kd_m11_pairLine.at 39 rfl) (by decide) (fun h20 => ?_) (fun h20 => ?_)
      · refine ok_sub (lv' := [(0, .ref 14), (1, .int x3), (2, .int x6)]) [1, 2, 0] rfl ?_
        exact K87  S7
      · refine ok_aload_n 1 (kd_m11_pairLine.at 40 rfl) rfl rfl ?_
        refine ok_iconst (v := 1) (kd_m11_pairLine.at 41 rfl) (by decide) ?_
        refine ok_aload_n 1 (kd_m11_pairLine.at 42 rfl) rfl rfl ?_
        refine ok_getI (kd_m11_pairLine.at 43 rfl) kf11_78 sh_14 rfl ?_
        refine ok_callVV (M' := m11_wrong) (as := [.int 1, .int (S7.1 14 4)]) (st := []) (kd_m11_pairLine.at 44 rfl) kc11_124 sh_14 rfl rfl (by decide) (ok_m11_wrong 1 (S7.1 14 4) S7) (kfit_of (by decide)) rfl (Nat.le_of_ble_eq_true rfl) (fun q21 hq21 => ?_)
        refine ok_sub (lv' := [(0, .ref 14), (1, .int x3), (2, .int x6)]) [1, 2, 0] rfl ?_
        exact K87  q21
    clear hj73
    refine ok_ifb_eq (tgt := 33) (kd_m11_pairLine.at 15 rfl) (by decide) (fun h22 => ?_) (fun h22 => ?_)
    · refine ok_aload_n 1 (kd_m11_pairLine.at 18 rfl) rfl rfl ?_
      refine ok_ldcS (kd_m11_pairLine.at 19 rfl) kst_11_222 ?_
      refine ok_callVB (M' := m11_isWord) (as := [.ref (1000 + 9)]) (st := []) (kd_m11_pairLine.at 20 rfl) kc11_114 sh_14 rfl rfl (by decide) (ok_m11_isWord 9 (by decide) q5.2) (kfit_of (by decide)) rfl (Nat.le_of_ble_eq_true rfl) (fun q23 hq23 => ?_)
      refine ok_ifb_eq (tgt := 46) (kd_m11_pairLine.at 21 rfl) (by decide) (fun h24 => ?_) (fun h24 => ?_)
      · refine ok_aload_n 1 (kd_m11_pairLine.at 24 rfl) rfl rfl ?_
        refine ok_ldcS (kd_m11_pairLine.at 25 rfl) kst_11_224 ?_
        refine ok_callVB (M' := m11_isWord) (as := [.ref (1000 + 10)]) (st := []) (kd_m11_pairLine.at 26 rfl) kc11_114 sh_14 rfl rfl (by decide) (ok_m11_isWord 10 (by decide) q23.2) (kfit_of (by decide)) rfl (Nat.le_of_ble_eq_true rfl) (fun q25 hq25 => ?_)
        refine ok_ifb_eq (tgt := 59) (kd_m11_pairLine.at 27 rfl) (by decide) (fun h26 => ?_) (fun h26 => ?_)
        · refine ok_aload_n 1 (kd_m11_pairLine.at 30 rfl) rfl rfl ?_
          refine ok_ldcS (kd_m11_pairLine.at 31 rfl) kst_11_226 ?_
          refine ok_callVB (M' := m11_isWord) (as := [.ref (1000 + 11)]) (st := []) (kd_m11_pairLine.at 32 rfl) kc11_114 sh_14 rfl rfl (by decide) (ok_m11_isWord 11 (by decide) q25.2) (kfit_of (by decide)) rfl (Nat.le_of_ble_eq_true rfl) (fun q27 hq27 => ?_)
          refine ok_ifb_eq (tgt := 72) (kd_m11_pairLine.at 33 rfl) (by decide) (fun h28 => ?_) (fun h28 => ?_)
          · refine ok_iconst (v := (-1)) (kd_m11_pairLine.at 36 rfl) (by decide) ?_
            refine ok_sub (lv' := [(0, .ref 14), (1, .int x3)]) [1, 0] rfl ?_
            exact K73 (-1) q27.2
          · refine ok_iconst (v := 3) (kd_m11_pairLine.at 34 rfl) (by decide) ?_
            refine ok_goto (tgt := 73) (kd_m11_pairLine.at 35 rfl) (by decide) ?_
            refine ok_sub (lv' := [(0, .ref 14), (1, .int x3)]) [1, 0] rfl ?_
            exact K73 3 q27.2
        · refine ok_iconst (v := 2) (kd_m11_pairLine.at 28 rfl) (by decide) ?_
          refine ok_goto (tgt := 73) (kd_m11_pairLine.at 29 rfl) (by decide) ?_
          refine ok_sub (lv' := [(0, .ref 14), (1, .int x3)]) [1, 0] rfl ?_
          exact K73 2 q25.2
      · refine ok_iconst (v := 1) (kd_m11_pairLine.at 22 rfl) (by decide) ?_
        refine ok_goto (tgt := 73) (kd_m11_pairLine.at 23 rfl) (by decide) ?_
        refine ok_sub (lv' := [(0, .ref 14), (1, .int x3)]) [1, 0] rfl ?_
        exact K73 1 q23.2
    · refine ok_iconst (v := 0) (kd_m11_pairLine.at 16 rfl) (by decide) ?_
      refine ok_goto (tgt := 73) (kd_m11_pairLine.at 17 rfl) (by decide) ?_
      refine ok_sub (lv' := [(0, .ref 14), (1, .int x3)]) [1, 0] rfl ?_
      exact K73 0 q5.2
  · exact ok_return (kd_m11_pairLine.at 3 rfl) rfl
def f_m11_pierLine  (S : kSt) : Option kSt :=
  knx (fun  (S1 : kSt) =>
    kgb (S1.1 14 13) fun b2 =>
    if b2 then
      some S1
    else
      (f_m11_next  S1).bind fun q4 =>
      (f_m11_after 6 2 99 q4).bind fun q5 =>
      knx (kuI q5.2 58 0 q5.1) fun S6 =>
      (f_m11_after 7 0 100 S6).bind fun q7 =>
      knx (kuI q7.2 58 1 q7.1) fun S8 =>
      kgb (S8.1 14 13) fun b9 =>
      if b9 then
        some S8
      else
        knx (kuI S8 58 7 1) fun S11 =>
        some S11
    ) fun j19 =>
  if (S.1 58 7) ≤ 0 then
    j19  S
  else
    (f_m11_wrong 3 (S.1 14 4) S).bind fun q13 =>
    j19  q13
theorem ok_m11_pierLine {l : Launch} {G : kG} {E : kE}   (S : kSt) : kFn l G E E kjV m11_pierLine 9 [.ref 14] S (f_m11_pierLine  S) := by
  unfold f_m11_pierLine
  refine kFn_of (by decide +kernel) (fun hG => Nat.le_of_ble_eq_true rfl) ?_
  show kOk _ _ _ _ _ _ _ _ [(0, .ref 14)] _ _
  refine ok_aload_n 0 (kd_m11_pierLine.at 0 rfl) rfl rfl ?_
  refine ok_getR (kd_m11_pierLine.at 1 rfl) kf11_23 sh_14 rfl (kr_14_16 _) ?_
  refine ok_bipush (v := 7) (kd_m11_pierLine.at 2 rfl) (by decide) ?_
  refine ok_ialdK (j := 7) (kd_m11_pierLine.at 3 rfl) sh_58 (by decide) (by decide) ?_
  refine ok_nx (fun j19 hj19 => ?_)
  have K19 : ∀  (S1 : kSt), kOk l G E (kZ G E kjV) m11_pierLine (kdp (9)) (j19  S1) 19 [(0, .ref 14)] [] S1 := by
    subst hj19
    intro  S1
    refine ok_aload_n 0 (kd_m11_pierLine.at 10 rfl) rfl rfl ?_
    refine ok_getZ (kd_m11_pierLine.at 11 rfl) kf11_97 sh_14 rfl (fun b2 => ?_)
    refine ok_ifb_eq (tgt := 27) (kd_m11_pierLine.at 12 rfl) (by decide) (fun h3 => ?_) (fun h3 => ?_)
    · refine ok_aload_n 0 (kd_m11_pierLine.at 14 rfl) rfl rfl ?_
      refine ok_callVV (M' := m11_next) (as := []) (st := []) (kd_m11_pierLine.at 15 rfl) kc11_118 sh_14 rfl rfl (by decide) (ok_m11_next  S1) (kfit_of (by decide)) rfl (Nat.le_of_ble_eq_true rfl) (fun q4 hq4 => ?_)
      refine ok_aload_n 0 (kd_m11_pierLine.at 16 rfl) rfl rfl ?_
      refine ok_getR (kd_m11_pierLine.at 17 rfl) kf11_23 sh_14 rfl (kr_14_16 _) ?_
      refine ok_iconst (v := 0) (kd_m11_pierLine.at 18 rfl) (by decide) ?_
      refine ok_aload_n 0 (kd_m11_pierLine.at 19 rfl) rfl rfl ?_
      refine ok_ldcS (kd_m11_pierLine.at 20 rfl) kst_11_208 ?_
      refine ok_iconst (v := 2) (kd_m11_pierLine.at 21 rfl) (by decide) ?_
      refine ok_bipush (v := 99) (kd_m11_pierLine.at 22 rfl) (by decide) ?_
      refine ok_callVI (M' := m11_after) (as := [.ref (1000 + 6), .int 2, .int 99]) (st := [.int 0, .ref 58]) (kd_m11_pierLine.at 23 rfl) kc11_210 sh_14 rfl rfl (by decide) (ok_m11_after 6 2 99 (by decide) q4) (kfit_of (by decide)) rfl (Nat.le_of_ble_eq_true rfl) (fun q5 hq5 => ?_)
      refine ok_iastK (j := 0) (kd_m11_pierLine.at 24 rfl) sh_58 (by decide) (by decide) ?_
      refine ok_nS (fun S6 hS6 => ?_)
      refine ok_aload_n 0 (kd_m11_pierLine.at 25 rfl) rfl rfl ?_
      refine ok_getR (kd_m11_pierLine.at 26 rfl) kf11_23 sh_14 rfl (kr_14_16 _) ?_
      refine ok_iconst (v := 1) (kd_m11_pierLine.at 27 rfl) (by decide) ?_
      refine ok_aload_n 0 (kd_m11_pierLine.at 28 rfl) rfl rfl ?_
      refine ok_ldcS (kd_m11_pierLine.at 29 rfl) kst_11_214 ?_
      refine ok_iconst (v := 0) (kd_m11_pierLine.at 30 rfl) (by decide) ?_
      refine ok_bipush (v := 100) (kd_m11_pierLine.at 31 rfl) (by decide) ?_
      refine ok_callVI (M' := m11_after) (as := [.ref (1000 + 7), .int 0, .int 100]) (st := [.int 1, .ref 58]) (kd_m11_pierLine.at 32 rfl) kc11_210 sh_14 rfl rfl (by decide) (ok_m11_after 7 0 100 (by decide) S6) (kfit_of (by decide)) rfl (Nat.le_of_ble_eq_true rfl) (fun q7 hq7 => ?_)
      refine ok_iastK (j := 1) (kd_m11_pierLine.at 33 rfl) sh_58 (by decide) (by decide) ?_
      refine ok_nS (fun S8 hS8 => ?_)
      refine ok_aload_n 0 (kd_m11_pierLine.at 34 rfl) rfl rfl ?_
      refine ok_getZ (kd_m11_pierLine.at 35 rfl) kf11_97 sh_14 rfl (fun b9 => ?_)
      refine ok_ifb_ne (tgt := 76) (kd_m11_pierLine.at 36 rfl) (by decide) (fun h10 => ?_) (fun h10 => ?_)
      · exact ok_return (kd_m11_pierLine.at 42 rfl) rfl
      · refine ok_aload_n 0 (kd_m11_pierLine.at 37 rfl) rfl rfl ?_
        refine ok_getR (kd_m11_pierLine.at 38 rfl) kf11_23 sh_14 rfl (kr_14_16 _) ?_
        refine ok_bipush (v := 7) (kd_m11_pierLine.at 39 rfl) (by decide) ?_
        refine ok_iconst (v := 1) (kd_m11_pierLine.at 40 rfl) (by decide) ?_
        refine ok_iastK (j := 7) (kd_m11_pierLine.at 41 rfl) sh_58 (by decide) (by decide) ?_
        refine ok_nS (fun S11 hS11 => ?_)
        exact ok_return (kd_m11_pierLine.at 42 rfl) rfl
    · exact ok_return (kd_m11_pierLine.at 13 rfl) rfl
  clear hj19
  refine ok_if_le (tgt := 19) (kd_m11_pierLine.at 4 rfl) (by decide) (fun h12 => ?_) (fun h12 => ?_)
  · exact K19  S
  · refine ok_aload_n 0 (kd_m11_pierLine.at 5 rfl) rfl rfl ?_
    refine ok_iconst (v := 3) (kd_m11_pierLine.at 6 rfl) (by decide) ?_
    refine ok_aload_n 0 (kd_m11_pierLine.at 7 rfl) rfl rfl ?_
    refine ok_getI (kd_m11_pierLine.at 8 rfl) kf11_78 sh_14 rfl ?_
    refine ok_callVV (M' := m11_wrong) (as := [.int 3, .int (S.1 14 4)]) (st := []) (kd_m11_pierLine.at 9 rfl) kc11_124 sh_14 rfl rfl (by decide) (ok_m11_wrong 3 (S.1 14 4) S) (kfit_of (by decide)) rfl (Nat.le_of_ble_eq_true rfl) (fun q13 hq13 => ?_)
    exact K19  q13
def f_m11_readLine  (S : kSt) : Option kSt :=
  (f_m11_isWord 0 S).bind fun q1 =>
  if q1.1 then
    (f_m11_pierLine  q1.2).bind fun q27 =>
    some q27
  else
    knx (if 5 ≤ (q1.2.1 58 2) then false else true) fun x4 =>
    (f_m11_begins 1 x4 q1.2).bind fun q5 =>
    if q5.1 then
      (f_m11_pairLine  q5.2).bind fun q26 =>
      some q26
    else
      (f_m11_begins 2 true q5.2).bind fun q7 =>
      if q7.1 then
        (f_m11_contractLine  q7.2).bind fun q25 =>
        some q25
      else
        knx (if 10 ≤ (q7.2.1 58 4) then false else true) fun x10 =>
        (f_m11_begins 3 x10 q7.2).bind fun q11 =>
        if q11.1 then
          (f_m11_debtLine  q11.2).bind fun q24 =>
          some q24
        else
          knx (if 4 ≤ (q11.2.1 58 5) then false else true) fun x14 =>
          (f_m11_begins 4 x14 q11.2).bind fun q15 =>
          if q15.1 then
            (f_m11_unsureLine  q15.2).bind fun q23 =>
            some q23
          else
            knx (if 8 ≤ (q15.2.1 58 6) then false else true) fun x18 =>
            (f_m11_begins 5 x18 q15.2).bind fun q19 =>
            if q19.1 then
              (f_m11_heardLine  q19.2).bind fun q22 =>
              some q22
            else
              (f_m11_wrong 1 (q19.2.1 14 4) q19.2).bind fun q21 =>
              some q21
theorem ok_m11_readLine {l : Launch} {G : kG} {E : kE}   (S : kSt) : kFn l G E E kjV m11_readLine 10 [.ref 14] S (f_m11_readLine  S) := by
  unfold f_m11_readLine
  refine kFn_of (by decide +kernel) (fun hG => Nat.le_of_ble_eq_true rfl) ?_
  show kOk _ _ _ _ _ _ _ _ [(0, .ref 14)] _ _
  refine ok_aload_n 0 (kd_m11_readLine.at 0 rfl) rfl rfl ?_
  refine ok_ldcS (kd_m11_readLine.at 1 rfl) kst_11_128 ?_
  refine ok_callVB (M' := m11_isWord) (as := [.ref (1000 + 0)]) (st := []) (kd_m11_readLine.at 2 rfl) kc11_114 sh_14 rfl rfl (by decide) (ok_m11_isWord 0 (by decide) S) (kfit_of (by decide)) rfl (Nat.le_of_ble_eq_true rfl) (fun q1 hq1 => ?_)
  refine ok_ifb_eq (tgt := 16) (kd_m11_readLine.at 3 rfl) (by decide) (fun h2 => ?_) (fun h2 => ?_)
  · refine ok_aload_n 0 (kd_m11_readLine.at 7 rfl) rfl rfl ?_
    refine ok_ldcS (kd_m11_readLine.at 8 rfl) kst_11_130 ?_
    refine ok_aload_n 0 (kd_m11_readLine.at 9 rfl) rfl rfl ?_
    refine ok_getR (kd_m11_readLine.at 10 rfl) kf11_23 sh_14 rfl (kr_14_16 _) ?_
    refine ok_iconst (v := 2) (kd_m11_readLine.at 11 rfl) (by decide) ?_
    refine ok_ialdK (j := 2) (kd_m11_readLine.at 12 rfl) sh_58 (by decide) (by decide) ?_
    refine ok_iconst (v := 5) (kd_m11_readLine.at 13 rfl) (by decide) ?_
    refine ok_fold (α := Bool) (pcJ := 34) (lvJ := [(0, .ref 14)]) (stJ := [.ref (1000 + 1), .ref 14]) (mk := fun v => .int (kb v)) (fun K => ?_) (fun x4 => ?_)
    · refine ok_ap ?_
      refine ok_icmp_ge (tgt := 33) (kd_m11_readLine.at 14 rfl) (by decide) (fun h3 => ?_) (fun h3 => ?_)
      · refine ok_iconst (v := 0) (kd_m11_readLine.at 17 rfl) (by decide) ?_
        exact K false
      · refine ok_iconst (v := 1) (kd_m11_readLine.at 15 rfl) (by decide) ?_
        refine ok_goto (tgt := 34) (kd_m11_readLine.at 16 rfl) (by decide) ?_
        exact K true
    · refine ok_callVB (M' := m11_begins) (as := [.ref (1000 + 1), .int (kb x4)]) (st := []) (kd_m11_readLine.at 18 rfl) kc11_189 sh_14 rfl rfl (by decide) (ok_m11_begins 1 x4 (by decide) q1.2) (kfit_of (by decide)) rfl (Nat.le_of_ble_eq_true rfl) (fun q5 hq5 => ?_)
      refine ok_ifb_eq (tgt := 47) (kd_m11_readLine.at 19 rfl) (by decide) (fun h6 => ?_) (fun h6 => ?_)
      · refine ok_aload_n 0 (kd_m11_readLine.at 23 rfl) rfl rfl ?_
        refine ok_ldcS (kd_m11_readLine.at 24 rfl) kst_11_132 ?_
        refine ok_iconst (v := 1) (kd_m11_readLine.at 25 rfl) (by decide) ?_
        refine ok_callVB (M' := m11_begins) (as := [.ref (1000 + 2), .int (kb true)]) (st := []) (kd_m11_readLine.at 26 rfl) kc11_189 sh_14 rfl rfl (by decide) (ok_m11_begins 2 true (by decide) q5.2) (kfit_of (by decide)) rfl (Nat.le_of_ble_eq_true rfl) (fun q7 hq7 => ?_)
        refine ok_ifb_eq (tgt := 64) (kd_m11_readLine.at 27 rfl) (by decide) (fun h8 => ?_) (fun h8 => ?_)
        · refine ok_aload_n 0 (kd_m11_readLine.at 31 rfl) rfl rfl ?_
          refine ok_ldcS (kd_m11_readLine.at 32 rfl) kst_11_134 ?_
          refine ok_aload_n 0 (kd_m11_readLine.at 33 rfl) rfl rfl ?_
          refine ok_getR (kd_m11_readLine.at 34 rfl) kf11_23 sh_14 rfl (kr_14_16 _) ?_
          refine ok_iconst (v := 4) (kd_m11_readLine.at 35 rfl) (by decide) ?_
          refine ok_ialdK (j := 4) (kd_m11_readLine.at 36 rfl) sh_58 (by decide) (by decide) ?_
          refine ok_bipush (v := 10) (kd_m11_readLine.at 37 rfl) (by decide) ?_
          refine ok_fold (α := Bool) (pcJ := 83) (lvJ := [(0, .ref 14)]) (stJ := [.ref (1000 + 3), .ref 14]) (mk := fun v => .int (kb v)) (fun K => ?_) (fun x10 => ?_)
          · refine ok_ap ?_
            refine ok_icmp_ge (tgt := 82) (kd_m11_readLine.at 38 rfl) (by decide) (fun h9 => ?_) (fun h9 => ?_)
            · refine ok_iconst (v := 0) (kd_m11_readLine.at 41 rfl) (by decide) ?_
              exact K false
            · refine ok_iconst (v := 1) (kd_m11_readLine.at 39 rfl) (by decide) ?_
              refine ok_goto (tgt := 83) (kd_m11_readLine.at 40 rfl) (by decide) ?_
              exact K true
          · refine ok_callVB (M' := m11_begins) (as := [.ref (1000 + 3), .int (kb x10)]) (st := []) (kd_m11_readLine.at 42 rfl) kc11_189 sh_14 rfl rfl (by decide) (ok_m11_begins 3 x10 (by decide) q7.2) (kfit_of (by decide)) rfl (Nat.le_of_ble_eq_true rfl) (fun q11 hq11 => ?_)
            refine ok_ifb_eq (tgt := 96) (kd_m11_readLine.at 43 rfl) (by decide) (fun h12 => ?_) (fun h12 => ?_)
            · refine ok_aload_n 0 (kd_m11_readLine.at 47 rfl) rfl rfl ?_
              refine ok_ldcS (kd_m11_readLine.at 48 rfl) kst_11_136 ?_
              refine ok_aload_n 0 (kd_m11_readLine.at 49 rfl) rfl rfl ?_
              refine ok_getR (kd_m11_readLine.at 50 rfl) kf11_23 sh_14 rfl (kr_14_16 _) ?_
              refine ok_iconst (v := 5) (kd_m11_readLine.at 51 rfl) (by decide) ?_
              refine ok_ialdK (j := 5) (kd_m11_readLine.at 52 rfl) sh_58 (by decide) (by decide) ?_
              refine ok_iconst (v := 4) (kd_m11_readLine.at 53 rfl) (by decide) ?_
              refine ok_fold (α := Bool) (pcJ := 114) (lvJ := [(0, .ref 14)]) (stJ := [.ref (1000 + 4), .ref 14]) (mk := fun v => .int (kb v)) (fun K => ?_) (fun x14 => ?_)
              · refine ok_ap ?_
                refine ok_icmp_ge (tgt := 113) (kd_m11_readLine.at 54 rfl) (by decide) (fun h13 => ?_) (fun h13 => ?_)
                · refine ok_iconst (v := 0) (kd_m11_readLine.at 57 rfl) (by decide) ?_
                  exact K false
                · refine ok_iconst (v := 1) (kd_m11_readLine.at 55 rfl) (by decide) ?_
                  refine ok_goto (tgt := 114) (kd_m11_readLine.at 56 rfl) (by decide) ?_
                  exact K true
              · refine ok_callVB (M' := m11_begins) (as := [.ref (1000 + 4), .int (kb x14)]) (st := []) (kd_m11_readLine.at 58 rfl) kc11_189 sh_14 rfl rfl (by decide) (ok_m11_begins 4 x14 (by decide) q11.2) (kfit_of (by decide)) rfl (Nat.le_of_ble_eq_true rfl) (fun q15 hq15 => ?_)
                refine ok_ifb_eq (tgt := 127) (kd_m11_readLine.at 59 rfl) (by decide) (fun h16 => ?_) (fun h16 => ?_)
                · refine ok_aload_n 0 (kd_m11_readLine.at 63 rfl) rfl rfl ?_
                  refine ok_ldcS (kd_m11_readLine.at 64 rfl) kst_11_138 ?_
                  refine ok_aload_n 0 (kd_m11_readLine.at 65 rfl) rfl rfl ?_
                  refine ok_getR (kd_m11_readLine.at 66 rfl) kf11_23 sh_14 rfl (kr_14_16 _) ?_
                  refine ok_bipush (v := 6) (kd_m11_readLine.at 67 rfl) (by decide) ?_
                  refine ok_ialdK (j := 6) (kd_m11_readLine.at 68 rfl) sh_58 (by decide) (by decide) ?_
                  refine ok_bipush (v := 8) (kd_m11_readLine.at 69 rfl) (by decide) ?_
                  refine ok_fold (α := Bool) (pcJ := 147) (lvJ := [(0, .ref 14)]) (stJ := [.ref (1000 + 5), .ref 14]) (mk := fun v => .int (kb v)) (fun K => ?_) (fun x18 => ?_)
                  · refine ok_ap ?_
                    refine ok_icmp_ge (tgt := 146) (kd_m11_readLine.at 70 rfl) (by decide) (fun h17 => ?_) (fun h17 => ?_)
                    · refine ok_iconst (v := 0) (kd_m11_readLine.at 73 rfl) (by decide) ?_
                      exact K false
                    · refine ok_iconst (v := 1) (kd_m11_readLine.at 71 rfl) (by decide) ?_
                      refine ok_goto (tgt := 147) (kd_m11_readLine.at 72 rfl) (by decide) ?_
                      exact K true
                  · refine ok_callVB (M' := m11_begins) (as := [.ref (1000 + 5), .int (kb x18)]) (st := []) (kd_m11_readLine.at 74 rfl) kc11_189 sh_14 rfl rfl (by decide) (ok_m11_begins 5 x18 (by decide) q15.2) (kfit_of (by decide)) rfl (Nat.le_of_ble_eq_true rfl) (fun q19 hq19 => ?_)
                    refine ok_ifb_eq (tgt := 160) (kd_m11_readLine.at 75 rfl) (by decide) (fun h20 => ?_) (fun h20 => ?_)
                    · refine ok_aload_n 0 (kd_m11_readLine.at 79 rfl) rfl rfl ?_
                      refine ok_iconst (v := 1) (kd_m11_readLine.at 80 rfl) (by decide) ?_
                      refine ok_aload_n 0 (kd_m11_readLine.at 81 rfl) rfl rfl ?_
                      refine ok_getI (kd_m11_readLine.at 82 rfl) kf11_78 sh_14 rfl ?_
                      refine ok_callVV (M' := m11_wrong) (as := [.int 1, .int (q19.2.1 14 4)]) (st := []) (kd_m11_readLine.at 83 rfl) kc11_124 sh_14 rfl rfl (by decide) (ok_m11_wrong 1 (q19.2.1 14 4) q19.2) (kfit_of (by decide)) rfl (Nat.le_of_ble_eq_true rfl) (fun q21 hq21 => ?_)
                      exact ok_return (kd_m11_readLine.at 84 rfl) rfl
                    · refine ok_aload_n 0 (kd_m11_readLine.at 76 rfl) rfl rfl ?_
                      refine ok_callVV (M' := m11_heardLine) (as := []) (st := []) (kd_m11_readLine.at 77 rfl) kc11_205 sh_14 rfl rfl (by decide) (ok_m11_heardLine  q19.2) (kfit_of (by decide)) rfl (Nat.le_of_ble_eq_true rfl) (fun q22 hq22 => ?_)
                      refine ok_goto (tgt := 169) (kd_m11_readLine.at 78 rfl) (by decide) ?_
                      exact ok_return (kd_m11_readLine.at 84 rfl) rfl
                · refine ok_aload_n 0 (kd_m11_readLine.at 60 rfl) rfl rfl ?_
                  refine ok_callVV (M' := m11_unsureLine) (as := []) (st := []) (kd_m11_readLine.at 61 rfl) kc11_202 sh_14 rfl rfl (by decide) (ok_m11_unsureLine  q15.2) (kfit_of (by decide)) rfl (Nat.le_of_ble_eq_true rfl) (fun q23 hq23 => ?_)
                  refine ok_goto (tgt := 169) (kd_m11_readLine.at 62 rfl) (by decide) ?_
                  exact ok_return (kd_m11_readLine.at 84 rfl) rfl
            · refine ok_aload_n 0 (kd_m11_readLine.at 44 rfl) rfl rfl ?_
              refine ok_callVV (M' := m11_debtLine) (as := []) (st := []) (kd_m11_readLine.at 45 rfl) kc11_199 sh_14 rfl rfl (by decide) (ok_m11_debtLine  q11.2) (kfit_of (by decide)) rfl (Nat.le_of_ble_eq_true rfl) (fun q24 hq24 => ?_)
              refine ok_goto (tgt := 169) (kd_m11_readLine.at 46 rfl) (by decide) ?_
              exact ok_return (kd_m11_readLine.at 84 rfl) rfl
        · refine ok_aload_n 0 (kd_m11_readLine.at 28 rfl) rfl rfl ?_
          refine ok_callVV (M' := m11_contractLine) (as := []) (st := []) (kd_m11_readLine.at 29 rfl) kc11_196 sh_14 rfl rfl (by decide) (ok_m11_contractLine  q7.2) (kfit_of (by decide)) rfl (Nat.le_of_ble_eq_true rfl) (fun q25 hq25 => ?_)
          refine ok_goto (tgt := 169) (kd_m11_readLine.at 30 rfl) (by decide) ?_
          exact ok_return (kd_m11_readLine.at 84 rfl) rfl
      · refine ok_aload_n 0 (kd_m11_readLine.at 20 rfl) rfl rfl ?_
        refine ok_callVV (M' := m11_pairLine) (as := []) (st := []) (kd_m11_readLine.at 21 rfl) kc11_193 sh_14 rfl rfl (by decide) (ok_m11_pairLine  q5.2) (kfit_of (by decide)) rfl (Nat.le_of_ble_eq_true rfl) (fun q26 hq26 => ?_)
        refine ok_goto (tgt := 169) (kd_m11_readLine.at 22 rfl) (by decide) ?_
        exact ok_return (kd_m11_readLine.at 84 rfl) rfl
  · refine ok_aload_n 0 (kd_m11_readLine.at 4 rfl) rfl rfl ?_
    refine ok_callVV (M' := m11_pierLine) (as := []) (st := []) (kd_m11_readLine.at 5 rfl) kc11_186 sh_14 rfl rfl (by decide) (ok_m11_pierLine  q1.2) (kfit_of (by decide)) rfl (Nat.le_of_ble_eq_true rfl) (fun q27 hq27 => ?_)
    refine ok_goto (tgt := 169) (kd_m11_readLine.at 6 rfl) (by decide) ?_
    exact ok_return (kd_m11_readLine.at 84 rfl) rfl
def f_m11_pier_L39   (k58 : kSt → Option (Int32 × kSt)) (c1 : Int32) : Nat → Int32 → kSt → Option (Int32 × kSt)
  | 0, _, _ => none
  | n + 1, v2, S =>
    if 95 ≤ v2 then
      k58  S
    else
      kgi v2 95 (
        knx (kuI S 58 v2.toNatClampNeg 0) fun S8 =>
        knx (v2 + 1) fun x9 =>
        f_m11_pier_L39 k58 c1 n x9 S8
      )
theorem ok_m11_pier_L39 {l : Launch} {G : kG} {E : kE}    (c1 : Int32) (k58 : kSt → Option (Int32 × kSt)) (hk58 : ∀  (S : kSt), kOk l G E (kZ G E kjI) m11_pier (kdp (11)) (k58  S) 58 [(0, .ref 14), (1, .int c1)] [] S) : ∀ (n : Nat) (v2 : Int32) (S : kSt), kOk l G E (kZ G E kjI) m11_pier (kdp (11)) (f_m11_pier_L39 k58 c1 n v2 S) 39 [(0, .ref 14), (1, .int c1), (2, .int v2)] [] S := by
  intro n
  induction n with
  | zero => intro v2 S; exact ok_none
  | succ n ih =>
    intro v2 S
    rw [f_m11_pier_L39]
    refine ok_iload_n 2 (kd_m11_pier.at 23 rfl) rfl rfl ?_
    refine ok_bipush (v := 95) (kd_m11_pier.at 24 rfl) (by decide) ?_
    refine ok_icmp_ge (tgt := 58) (kd_m11_pier.at 25 rfl) (by decide) (fun h7 => ?_) (fun h7 => ?_)
    · refine ok_sub (lv' := [(0, .ref 14), (1, .int c1)]) [0, 1] rfl ?_
      exact hk58  S
    · refine ok_aload_n 0 (kd_m11_pier.at 26 rfl) rfl rfl ?_
      refine ok_getR (kd_m11_pier.at 27 rfl) kf11_23 sh_14 rfl (kr_14_16 _) ?_
      refine ok_iload_n 2 (kd_m11_pier.at 28 rfl) rfl rfl ?_
      refine ok_iconst (v := 0) (kd_m11_pier.at 29 rfl) (by decide) ?_
      refine ok_iast (kd_m11_pier.at 30 rfl) sh_58 ?_
      refine ok_nS (fun S8 hS8 => ?_)
      refine ok_nx (fun x9 hx9 => ?_)
      refine ok_iinc (v := x9) (lv' := [(2, .int x9), (0, .ref 14), (1, .int c1)]) 2 (kd_m11_pier.at 31 rfl) rfl hx9.symm (by decide) rfl ?_
      refine ok_goto (tgt := 39) (kd_m11_pier.at 32 rfl) (by decide) ?_
      refine ok_sub (lv' := [(0, .ref 14), (1, .int c1), (2, .int x9)]) [1, 2, 0] rfl ?_
      exact ih x9 S8
def f_m11_pier_L60   (k79 : kSt → Option (Int32 × kSt)) (c1 : Int32) : Nat → Int32 → kSt → Option (Int32 × kSt)
  | 0, _, _ => none
  | n + 1, v2, S =>
    if 36 ≤ v2 then
      k79  S
    else
      kgi v2 36 (
        knx (kuI S 60 v2.toNatClampNeg 0) fun S12 =>
        knx (v2 + 1) fun x13 =>
        f_m11_pier_L60 k79 c1 n x13 S12
      )
theorem ok_m11_pier_L60 {l : Launch} {G : kG} {E : kE}    (c1 : Int32) (k79 : kSt → Option (Int32 × kSt)) (hk79 : ∀  (S : kSt), kOk l G E (kZ G E kjI) m11_pier (kdp (11)) (k79  S) 79 [(0, .ref 14), (1, .int c1)] [] S) : ∀ (n : Nat) (v2 : Int32) (S : kSt), kOk l G E (kZ G E kjI) m11_pier (kdp (11)) (f_m11_pier_L60 k79 c1 n v2 S) 60 [(0, .ref 14), (1, .int c1), (2, .int v2)] [] S := by
  intro n
  induction n with
  | zero => intro v2 S; exact ok_none
  | succ n ih =>
    intro v2 S
    rw [f_m11_pier_L60]
    refine ok_iload_n 2 (kd_m11_pier.at 35 rfl) rfl rfl ?_
    refine ok_bipush (v := 36) (kd_m11_pier.at 36 rfl) (by decide) ?_
    refine ok_icmp_ge (tgt := 79) (kd_m11_pier.at 37 rfl) (by decide) (fun h11 => ?_) (fun h11 => ?_)
    · refine ok_sub (lv' := [(0, .ref 14), (1, .int c1)]) [0, 1] rfl ?_
      exact hk79  S
    · refine ok_aload_n 0 (kd_m11_pier.at 38 rfl) rfl rfl ?_
      refine ok_getR (kd_m11_pier.at 39 rfl) kf11_29 sh_14 rfl (kr_14_18 _) ?_
      refine ok_iload_n 2 (kd_m11_pier.at 40 rfl) rfl rfl ?_
      refine ok_iconst (v := 0) (kd_m11_pier.at 41 rfl) (by decide) ?_
      refine ok_iast (kd_m11_pier.at 42 rfl) sh_60 ?_
      refine ok_nS (fun S12 hS12 => ?_)
      refine ok_nx (fun x13 hx13 => ?_)
      refine ok_iinc (v := x13) (lv' := [(2, .int x13), (0, .ref 14), (1, .int c1)]) 2 (kd_m11_pier.at 43 rfl) rfl hx13.symm (by decide) rfl ?_
      refine ok_goto (tgt := 60) (kd_m11_pier.at 44 rfl) (by decide) ?_
      refine ok_sub (lv' := [(0, .ref 14), (1, .int c1), (2, .int x13)]) [1, 2, 0] rfl ?_
      exact ih x13 S12
def f_m11_pier_L97   (k124 : kSt → Option (Int32 × kSt))  : Nat → kSt → Option (Int32 × kSt)
  | 0, _ => none
  | n + 1, S =>
    kgb (S.1 14 13) fun b19 =>
    if b19 then
      k124  S
    else
      if (S.1 14 6) = 59 then
        (f_m11_next  S).bind fun q22 =>
        (f_m11_readLine  q22).bind fun q23 =>
        f_m11_pier_L97 k124 n  q23
      else
        k124  S
theorem ok_m11_pier_L97 {l : Launch} {G : kG} {E : kE}     (k124 : kSt → Option (Int32 × kSt)) (hk124 : ∀  (S : kSt), kOk l G E (kZ G E kjI) m11_pier (kdp (11)) (k124  S) 124 [(0, .ref 14)] [] S) : ∀ (n : Nat)  (S : kSt), kOk l G E (kZ G E kjI) m11_pier (kdp (11)) (f_m11_pier_L97 k124 n  S) 97 [(0, .ref 14)] [] S := by
  intro n
  induction n with
  | zero => intro  S; exact ok_none
  | succ n ih =>
    intro  S
    rw [f_m11_pier_L97]
    refine ok_aload_n 0 (kd_m11_pier.at 55 rfl) rfl rfl ?_
    refine ok_getZ (kd_m11_pier.at 56 rfl) kf11_97 sh_14 rfl (fun b19 => ?_)
    refine ok_ifb_ne (tgt := 124) (kd_m11_pier.at 57 rfl) (by decide) (fun h20 => ?_) (fun h20 => ?_)
    · exact hk124  S
    · refine ok_aload_n 0 (kd_m11_pier.at 58 rfl) rfl rfl ?_
      refine ok_getI (kd_m11_pier.at 59 rfl) kf11_87 sh_14 rfl ?_
      refine ok_bipush (v := 59) (kd_m11_pier.at 60 rfl) (by decide) ?_
      refine ok_icmp_ne (tgt := 124) (kd_m11_pier.at 61 rfl) (by decide) (fun h21 => ?_) (fun h21 => ?_)
      · exact hk124  S
      · refine ok_aload_n 0 (kd_m11_pier.at 62 rfl) rfl rfl ?_
        refine ok_callVV (M' := m11_next) (as := []) (st := []) (kd_m11_pier.at 63 rfl) kc11_118 sh_14 rfl rfl (by decide) (ok_m11_next  S) (kfit_of (by decide)) rfl (Nat.le_of_ble_eq_true rfl) (fun q22 hq22 => ?_)
        refine ok_aload_n 0 (kd_m11_pier.at 64 rfl) rfl rfl ?_
        refine ok_callVV (M' := m11_readLine) (as := []) (st := []) (kd_m11_pier.at 65 rfl) kc11_170 sh_14 rfl rfl (by decide) (ok_m11_readLine  q22) (kfit_of (by decide)) rfl (Nat.le_of_ble_eq_true rfl) (fun q23 hq23 => ?_)
        refine ok_goto (tgt := 97) (kd_m11_pier.at 66 rfl) (by decide) ?_
        exact ih  q23
def f_m11_pier (a1 : Int32) (S : kSt) : Option (Int32 × kSt) :=
  (f_m11_good  S).bind fun q1 =>
  (f_m11_in a1 0 (q1.1 14 2) q1).bind fun q2 =>
  if q2.1 then
    knx (kuI q2.2 14 2 0) fun S4 =>
    knx (kuI S4 14 9 0) fun S5 =>
    knx (kuI S5 14 13 (kb false)) fun S6 =>
    f_m11_pier_L39 
      (fun  (S10 : kSt) =>
        f_m11_pier_L60 
          (fun  (S14 : kSt) =>
            knx (kuI S14 14 3 a1) fun S15 =>
            knx (kuI S15 14 5 0) fun S16 =>
            (f_m11_next  S16).bind fun q17 =>
            (f_m11_readLine  q17).bind fun q18 =>
            f_m11_pier_L97 
              (fun  (S24 : kSt) =>
                kgb (S24.1 14 13) fun b25 =>
                knx (fun  (S26 : kSt) =>
                  kgb (S26.1 14 13) fun b27 =>
                  knx (fun  (S28 : kSt) =>
                    kgb (S28.1 14 13) fun b29 =>
                    if b29 then
                      (f_m11_no 4 S28).bind fun q37 =>
                      some (q37.1, q37.2)
                    else
                      (f_m11_copy 58 95 0 57 95 0 95 S28).bind fun q31 =>
                      (f_m11_copy 60 36 0 59 36 0 36 q31).bind fun q32 =>
                      (f_m11_copy 60 36 0 61 36 0 36 q32).bind fun q33 =>
                      knx (kuI q33 14 14 (kb true)) fun S34 =>
                      knx (kuI S34 14 22 0) fun S35 =>
                      knx (kuI S35 14 23 0) fun S36 =>
                      some (S36.1 57 2, S36)
                    ) fun j183 =>
                  if b27 then
                    j183  S26
                  else
                    knx (fun  (S39 : kSt) =>
                      (f_m11_wrong 6 (S39.1 14 4) S39).bind fun q40 =>
                      j183  q40
                      ) fun j173 =>
                    if (S26.1 58 7) = 0 then
                      j173  S26
                    else
                      if (S26.1 58 2) = 0 then
                        j173  S26
                      else
                        j183  S26
                  ) fun j147 =>
                if b25 then
                  j147  S24
                else
                  if (S24.1 14 6) = 0 then
                    j147  S24
                  else
                    (f_m11_wrong 1 (S24.1 14 4) S24).bind fun q45 =>
                    j147  q45
              )
              kFU q18
          )
          a1 kFU 0 S10
      )
      a1 kFU 0 S6
  else
    (f_m11_no 2 q2.2).bind fun q46 =>
    some (q46.1, q46.2)
theorem ok_m11_pier {l : Launch} {G : kG} {E : kE} (a1 : Int32)  (S : kSt) : kFn l G E E kjI m11_pier 11 [.ref 14, .int a1] S (f_m11_pier a1 S) := by
  unfold f_m11_pier
  refine kFn_of (by decide +kernel) (fun hG => Nat.le_of_ble_eq_true rfl) ?_
  show kOk _ _ _ _ _ _ _ _ [(0, .ref 14), (1, .int a1)] _ _
  refine ok_aload_n 0 (kd_m11_pier.at 0 rfl) rfl rfl ?_
  refine ok_callVV (M' := m11_good) (as := []) (st := []) (kd_m11_pier.at 1 rfl) kc11_164 sh_14 rfl rfl (by decide) (ok_m11_good  S) (kfit_of (by decide)) rfl (Nat.le_of_ble_eq_true rfl) (fun q1 hq1 => ?_)
  refine ok_iload_n 1 (kd_m11_pier.at 2 rfl) rfl rfl ?_
  refine ok_iconst (v := 0) (kd_m11_pier.at 3 rfl) (by decide) ?_
  refine ok_aload_n 0 (kd_m11_pier.at 4 rfl) rfl rfl ?_
  refine ok_getI (kd_m11_pier.at 5 rfl) kf11_65 sh_14 rfl ?_
  refine ok_callSB (M' := m11_in) (as := [.int a1, .int 0, .int (q1.1 14 2)]) (st := []) (kd_m11_pier.at 6 rfl) kc11_146  rfl (by decide) (ok_m11_in a1 0 (q1.1 14 2) q1) (kfit_of (by decide)) rfl (Nat.le_of_ble_eq_true rfl) (fun q2 hq2 => ?_)
  refine ok_ifb_ne (tgt := 22) (kd_m11_pier.at 7 rfl) (by decide) (fun h3 => ?_) (fun h3 => ?_)
  · refine ok_aload_n 0 (kd_m11_pier.at 12 rfl) rfl rfl ?_
    refine ok_iconst (v := 0) (kd_m11_pier.at 13 rfl) (by decide) ?_
    refine ok_putI (kd_m11_pier.at 14 rfl) kf11_65 sh_14 rfl rfl ?_
    refine ok_nS (fun S4 hS4 => ?_)
    refine ok_aload_n 0 (kd_m11_pier.at 15 rfl) rfl rfl ?_
    refine ok_iconst (v := 0) (kd_m11_pier.at 16 rfl) (by decide) ?_
    refine ok_putI (kd_m11_pier.at 17 rfl) kf11_101 sh_14 rfl rfl ?_
    refine ok_nS (fun S5 hS5 => ?_)
    refine ok_aload_n 0 (kd_m11_pier.at 18 rfl) rfl rfl ?_
    refine ok_iconst (v := 0) (kd_m11_pier.at 19 rfl) (by decide) ?_
    refine ok_putZ (b := false) (kd_m11_pier.at 20 rfl) kf11_97 sh_14 rfl rfl ?_
    refine ok_nS (fun S6 hS6 => ?_)
    refine ok_iconst (v := 0) (kd_m11_pier.at 21 rfl) (by decide) ?_
    refine ok_istore_n (lv' := [(2, .int 0), (0, .ref 14), (1, .int a1)]) (kd_m11_pier.at 22 rfl) rfl (by decide) rfl ?_
    refine ok_sub (lv' := [(0, .ref 14), (1, .int a1), (2, .int 0)]) [1, 2, 0] rfl ?_
    refine ok_m11_pier_L39 a1 _ (fun S10 => ?_) kFU 0 S6
    refine ok_iconst (v := 0) (kd_m11_pier.at 33 rfl) (by decide) ?_
    refine ok_istore_n (lv' := [(2, .int 0), (0, .ref 14), (1, .int a1)]) (kd_m11_pier.at 34 rfl) rfl (by decide) rfl ?_
    refine ok_sub (lv' := [(0, .ref 14), (1, .int a1), (2, .int 0)]) [1, 2, 0] rfl ?_
    refine ok_m11_pier_L60 a1 _ (fun S14 => ?_) kFU 0 S10
    refine ok_aload_n 0 (kd_m11_pier.at 45 rfl) rfl rfl ?_
    refine ok_iload_n 1 (kd_m11_pier.at 46 rfl) rfl rfl ?_
    refine ok_putI (kd_m11_pier.at 47 rfl) kf11_68 sh_14 rfl rfl ?_
    refine ok_nS (fun S15 hS15 => ?_)
    refine ok_aload_n 0 (kd_m11_pier.at 48 rfl) rfl rfl ?_
    refine ok_iconst (v := 0) (kd_m11_pier.at 49 rfl) (by decide) ?_
    refine ok_putI (kd_m11_pier.at 50 rfl) kf11_71 sh_14 rfl rfl ?_
    refine ok_nS (fun S16 hS16 => ?_)
    refine ok_aload_n 0 (kd_m11_pier.at 51 rfl) rfl rfl ?_
    refine ok_callVV (M' := m11_next) (as := []) (st := []) (kd_m11_pier.at 52 rfl) kc11_118 sh_14 rfl rfl (by decide) (ok_m11_next  S16) (kfit_of (by decide)) rfl (Nat.le_of_ble_eq_true rfl) (fun q17 hq17 => ?_)
    refine ok_aload_n 0 (kd_m11_pier.at 53 rfl) rfl rfl ?_
    refine ok_callVV (M' := m11_readLine) (as := []) (st := []) (kd_m11_pier.at 54 rfl) kc11_170 sh_14 rfl rfl (by decide) (ok_m11_readLine  q17) (kfit_of (by decide)) rfl (Nat.le_of_ble_eq_true rfl) (fun q18 hq18 => ?_)
    refine ok_sub (lv' := [(0, .ref 14)]) [0] rfl ?_
    refine ok_m11_pier_L97 _ (fun S24 => ?_) kFU q18
    refine ok_aload_n 0 (kd_m11_pier.at 67 rfl) rfl rfl ?_
    refine ok_getZ (kd_m11_pier.at 68 rfl) kf11_97 sh_14 rfl (fun b25 => ?_)
    refine ok_nx (fun j147 hj147 => ?_)
    have K147 : ∀  (S26 : kSt), kOk l G E (kZ G E kjI) m11_pier (kdp (11)) (j147  S26) 147 [(0, .ref 14)] [] S26 := by
      subst hj147
      intro  S26
      refine ok_aload_n 0 (kd_m11_pier.at 78 rfl) rfl rfl ?_
      refine ok_getZ (kd_m11_pier.at 79 rfl) kf11_97 sh_14 rfl (fun b27 => ?_)
      refine ok_nx (fun j183 hj183 => ?_)
      have K183 : ∀  (S28 : kSt), kOk l G E (kZ G E kjI) m11_pier (kdp (11)) (j183  S28) 183 [(0, .ref 14)] [] S28 := by
        subst hj183
        intro  S28
        refine ok_aload_n 0 (kd_m11_pier.at 96 rfl) rfl rfl ?_
        refine ok_getZ (kd_m11_pier.at 97 rfl) kf11_97 sh_14 rfl (fun b29 => ?_)
        refine ok_ifb_eq (tgt := 196) (kd_m11_pier.at 98 rfl) (by decide) (fun h30 => ?_) (fun h30 => ?_)
        · refine ok_aload_n 0 (kd_m11_pier.at 103 rfl) rfl rfl ?_
          refine ok_getR (kd_m11_pier.at 104 rfl) kf11_23 sh_14 rfl (kr_14_16 _) ?_
          refine ok_iconst (v := 0) (kd_m11_pier.at 105 rfl) (by decide) ?_
          refine ok_aload_n 0 (kd_m11_pier.at 106 rfl) rfl rfl ?_
          refine ok_getR (kd_m11_pier.at 107 rfl) kf11_20 sh_14 rfl (kr_14_15 _) ?_
          refine ok_iconst (v := 0) (kd_m11_pier.at 108 rfl) (by decide) ?_
          refine ok_bipush (v := 95) (kd_m11_pier.at 109 rfl) (by decide) ?_
          refine ok_callSV (M' := m11_copy) (as := [.ref 58, .int 0, .ref 57, .int 0, .int 95]) (st := []) (kd_m11_pier.at 110 rfl) kc11_173  rfl (by decide) (ok_m11_copy 58 95 0 57 95 0 95 sh_58 sh_57 S28) (kfit_of (by decide)) rfl (Nat.le_of_ble_eq_true rfl) (fun q31 hq31 => ?_)
          refine ok_aload_n 0 (kd_m11_pier.at 111 rfl) rfl rfl ?_
          refine ok_getR (kd_m11_pier.at 112 rfl) kf11_29 sh_14 rfl (kr_14_18 _) ?_
          refine ok_iconst (v := 0) (kd_m11_pier.at 113 rfl) (by decide) ?_
          refine ok_aload_n 0 (kd_m11_pier.at 114 rfl) rfl rfl ?_
          refine ok_getR (kd_m11_pier.at 115 rfl) kf11_26 sh_14 rfl (kr_14_17 _) ?_
          refine ok_iconst (v := 0) (kd_m11_pier.at 116 rfl) (by decide) ?_
          refine ok_bipush (v := 36) (kd_m11_pier.at 117 rfl) (by decide) ?_
          refine ok_callSV (M' := m11_copy) (as := [.ref 60, .int 0, .ref 59, .int 0, .int 36]) (st := []) (kd_m11_pier.at 118 rfl) kc11_173  rfl (by decide) (ok_m11_copy 60 36 0 59 36 0 36 sh_60 sh_59 q31) (kfit_of (by decide)) rfl (Nat.le_of_ble_eq_true rfl) (fun q32 hq32 => ?_)
          refine ok_aload_n 0 (kd_m11_pier.at 119 rfl) rfl rfl ?_
          refine ok_getR (kd_m11_pier.at 120 rfl) kf11_29 sh_14 rfl (kr_14_18 _) ?_
          refine ok_iconst (v := 0) (kd_m11_pier.at 121 rfl) (by decide) ?_
          refine ok_aload_n 0 (kd_m11_pier.at 122 rfl) rfl rfl ?_
          refine ok_getR (kd_m11_pier.at 123 rfl) kf11_32 sh_14 rfl (kr_14_19 _) ?_
          refine ok_iconst (v := 0) (kd_m11_pier.at 124 rfl) (by decide) ?_
          refine ok_bipush (v := 36) (kd_m11_pier.at 125 rfl) (by decide) ?_
          refine ok_callSV (M' := m11_copy) (as := [.ref 60, .int 0, .ref 61, .int 0, .int 36]) (st := []) (kd_m11_pier.at 126 rfl) kc11_173  rfl (by decide) (ok_m11_copy 60 36 0 61 36 0 36 sh_60 sh_61 q32) (kfit_of (by decide)) rfl (Nat.le_of_ble_eq_true rfl) (fun q33 hq33 => ?_)
          refine ok_aload_n 0 (kd_m11_pier.at 127 rfl) rfl rfl ?_
          refine ok_iconst (v := 1) (kd_m11_pier.at 128 rfl) (by decide) ?_
          refine ok_putZ (b := true) (kd_m11_pier.at 129 rfl) kf11_177 sh_14 rfl rfl ?_
          refine ok_nS (fun S34 hS34 => ?_)
          refine ok_aload_n 0 (kd_m11_pier.at 130 rfl) rfl rfl ?_
          refine ok_iconst (v := 0) (kd_m11_pier.at 131 rfl) (by decide) ?_
          refine ok_putI (kd_m11_pier.at 132 rfl) kf11_180 sh_14 rfl rfl ?_
          refine ok_nS (fun S35 hS35 => ?_)
          refine ok_aload_n 0 (kd_m11_pier.at 133 rfl) rfl rfl ?_
          refine ok_iconst (v := 0) (kd_m11_pier.at 134 rfl) (by decide) ?_
          refine ok_putI (kd_m11_pier.at 135 rfl) kf11_183 sh_14 rfl rfl ?_
          refine ok_nS (fun S36 hS36 => ?_)
          refine ok_aload_n 0 (kd_m11_pier.at 136 rfl) rfl rfl ?_
          refine ok_getR (kd_m11_pier.at 137 rfl) kf11_20 sh_14 rfl (kr_14_15 _) ?_
          refine ok_iconst (v := 2) (kd_m11_pier.at 138 rfl) (by decide) ?_
          refine ok_ialdK (j := 2) (kd_m11_pier.at 139 rfl) sh_57 (by decide) (by decide) ?_
          exact ok_ireturn (kd_m11_pier.at 140 rfl) rfl
        · refine ok_aload_n 0 (kd_m11_pier.at 99 rfl) rfl rfl ?_
          refine ok_iconst (v := 4) (kd_m11_pier.at 100 rfl) (by decide) ?_
          refine ok_callVI (M' := m11_no) (as := [.int 4]) (st := []) (kd_m11_pier.at 101 rfl) kc11_167 sh_14 rfl rfl (by decide) (ok_m11_no 4 S28) (kfit_of (by decide)) rfl (Nat.le_of_ble_eq_true rfl) (fun q37 hq37 => ?_)
          exact ok_ireturn (kd_m11_pier.at 102 rfl) rfl
      clear hj183
      refine ok_ifb_ne (tgt := 183) (kd_m11_pier.at 80 rfl) (by decide) (fun h38 => ?_) (fun h38 => ?_)
      · exact K183  S26
      · refine ok_aload_n 0 (kd_m11_pier.at 81 rfl) rfl rfl ?_
        refine ok_getR (kd_m11_pier.at 82 rfl) kf11_23 sh_14 rfl (kr_14_16 _) ?_
        refine ok_bipush (v := 7) (kd_m11_pier.at 83 rfl) (by decide) ?_
        refine ok_ialdK (j := 7) (kd_m11_pier.at 84 rfl) sh_58 (by decide) (by decide) ?_
        refine ok_nx (fun j173 hj173 => ?_)
        have K173 : ∀  (S39 : kSt), kOk l G E (kZ G E kjI) m11_pier (kdp (11)) (j173  S39) 173 [(0, .ref 14)] [] S39 := by
          subst hj173
          intro  S39
          refine ok_aload_n 0 (kd_m11_pier.at 91 rfl) rfl rfl ?_
          refine ok_bipush (v := 6) (kd_m11_pier.at 92 rfl) (by decide) ?_
          refine ok_aload_n 0 (kd_m11_pier.at 93 rfl) rfl rfl ?_
          refine ok_getI (kd_m11_pier.at 94 rfl) kf11_78 sh_14 rfl ?_
          refine ok_callVV (M' := m11_wrong) (as := [.int 6, .int (S39.1 14 4)]) (st := []) (kd_m11_pier.at 95 rfl) kc11_124 sh_14 rfl rfl (by decide) (ok_m11_wrong 6 (S39.1 14 4) S39) (kfit_of (by decide)) rfl (Nat.le_of_ble_eq_true rfl) (fun q40 hq40 => ?_)
          exact K183  q40
        clear hj173
        refine ok_if_eq (tgt := 173) (kd_m11_pier.at 85 rfl) (by decide) (fun h41 => ?_) (fun h41 => ?_)
        · exact K173  S26
        · refine ok_aload_n 0 (kd_m11_pier.at 86 rfl) rfl rfl ?_
          refine ok_getR (kd_m11_pier.at 87 rfl) kf11_23 sh_14 rfl (kr_14_16 _) ?_
          refine ok_iconst (v := 2) (kd_m11_pier.at 88 rfl) (by decide) ?_
          refine ok_ialdK (j := 2) (kd_m11_pier.at 89 rfl) sh_58 (by decide) (by decide) ?_
          refine ok_if_ne (tgt := 183) (kd_m11_pier.at 90 rfl) (by decide) (fun h42 => ?_) (fun h42 => ?_)
          · exact K183  S26
          · exact K173  S26
    clear hj147
    refine ok_ifb_ne (tgt := 147) (kd_m11_pier.at 69 rfl) (by decide) (fun h43 => ?_) (fun h43 => ?_)
    · exact K147  S24
    · refine ok_aload_n 0 (kd_m11_pier.at 70 rfl) rfl rfl ?_
      refine ok_getI (kd_m11_pier.at 71 rfl) kf11_87 sh_14 rfl ?_
      refine ok_if_eq (tgt := 147) (kd_m11_pier.at 72 rfl) (by decide) (fun h44 => ?_) (fun h44 => ?_)
      · exact K147  S24
      · refine ok_aload_n 0 (kd_m11_pier.at 73 rfl) rfl rfl ?_
        refine ok_iconst (v := 1) (kd_m11_pier.at 74 rfl) (by decide) ?_
        refine ok_aload_n 0 (kd_m11_pier.at 75 rfl) rfl rfl ?_
        refine ok_getI (kd_m11_pier.at 76 rfl) kf11_78 sh_14 rfl ?_
        refine ok_callVV (M' := m11_wrong) (as := [.int 1, .int (S24.1 14 4)]) (st := []) (kd_m11_pier.at 77 rfl) kc11_124 sh_14 rfl rfl (by decide) (ok_m11_wrong 1 (S24.1 14 4) S24) (kfit_of (by decide)) rfl (Nat.le_of_ble_eq_true rfl) (fun q45 hq45 => ?_)
        exact K147  q45
  · refine ok_aload_n 0 (kd_m11_pier.at 8 rfl) rfl rfl ?_
    refine ok_iconst (v := 2) (kd_m11_pier.at 9 rfl) (by decide) ?_
    refine ok_callVI (M' := m11_no) (as := [.int 2]) (st := []) (kd_m11_pier.at 10 rfl) kc11_167 sh_14 rfl rfl (by decide) (ok_m11_no 2 q2.2) (kfit_of (by decide)) rfl (Nat.le_of_ble_eq_true rfl) (fun q46 hq46 => ?_)
    exact ok_ireturn (kd_m11_pier.at 11 rfl) rfl
def f_m11_fault  (S : kSt) : Option (Int32 × kSt) :=
  knx (kuI S 14 0 0) fun S1 =>
  some (S1.1 14 9, S1)
theorem ok_m11_fault {l : Launch} {G : kG} {E : kE}   (S : kSt) : kFn l G E E kjI m11_fault 1 [.ref 14] S (f_m11_fault  S) := by
  unfold f_m11_fault
  refine kFn_of (by decide +kernel) (fun hG => Nat.le_of_ble_eq_true rfl) ?_
  show kOk _ _ _ _ _ _ _ _ [(0, .ref 14)] _ _
  refine ok_aload_n 0 (kd_m11_fault.at 0 rfl) rfl rfl ?_
  refine ok_iconst (v := 0) (kd_m11_fault.at 1 rfl) (by decide) ?_
  refine ok_putI (kd_m11_fault.at 2 rfl) kf11_59 sh_14 rfl rfl ?_
  refine ok_nS (fun S1 hS1 => ?_)
  refine ok_aload_n 0 (kd_m11_fault.at 3 rfl) rfl rfl ?_
  refine ok_getI (kd_m11_fault.at 4 rfl) kf11_101 sh_14 rfl ?_
  exact ok_ireturn (kd_m11_fault.at 5 rfl) rfl
def f_m11_where  (S : kSt) : Option (Int32 × kSt) :=
  knx (kuI S 14 0 0) fun S1 =>
  if (S1.1 14 11) = 4 then
    some (S1.1 14 10, S1)
  else
    some ((-1), S1)
theorem ok_m11_where {l : Launch} {G : kG} {E : kE}   (S : kSt) : kFn l G E E kjI m11_where 1 [.ref 14] S (f_m11_where  S) := by
  unfold f_m11_where
  refine kFn_of (by decide +kernel) (fun hG => Nat.le_of_ble_eq_true rfl) ?_
  show kOk _ _ _ _ _ _ _ _ [(0, .ref 14)] _ _
  refine ok_aload_n 0 (kd_m11_where.at 0 rfl) rfl rfl ?_
  refine ok_iconst (v := 0) (kd_m11_where.at 1 rfl) (by decide) ?_
  refine ok_putI (kd_m11_where.at 2 rfl) kf11_59 sh_14 rfl rfl ?_
  refine ok_nS (fun S1 hS1 => ?_)
  refine ok_aload_n 0 (kd_m11_where.at 3 rfl) rfl rfl ?_
  refine ok_getI (kd_m11_where.at 4 rfl) kf11_62 sh_14 rfl ?_
  refine ok_iconst (v := 4) (kd_m11_where.at 5 rfl) (by decide) ?_
  refine ok_icmp_ne (tgt := 20) (kd_m11_where.at 6 rfl) (by decide) (fun h2 => ?_) (fun h2 => ?_)
  · refine ok_iconst (v := (-1)) (kd_m11_where.at 10 rfl) (by decide) ?_
    exact ok_ireturn (kd_m11_where.at 11 rfl) rfl
  · refine ok_aload_n 0 (kd_m11_where.at 7 rfl) rfl rfl ?_
    refine ok_getI (kd_m11_where.at 8 rfl) kf11_13 sh_14 rfl ?_
    refine ok_goto (tgt := 21) (kd_m11_where.at 9 rfl) (by decide) ?_
    exact ok_ireturn (kd_m11_where.at 11 rfl) rfl
def f_m11_isPair (a1 : Int32) (S : kSt) : Option (Bool × kSt) :=
  kgb (S.1 14 14) fun b1 =>
  if b1 then
    (f_m11_in a1 0 ((S.1 57 2) - 1) S).bind fun q3 =>
    if q3.1 then
      some (true, q3.2)
    else
      some (false, q3.2)
  else
    some (false, S)
theorem ok_m11_isPair {l : Launch} {G : kG} {E : kE} (a1 : Int32)  (S : kSt) : kFn l G E E kjB m11_isPair 2 [.ref 14, .int a1] S (f_m11_isPair a1 S) := by
  unfold f_m11_isPair
  refine kFn_of (by decide +kernel) (fun hG => Nat.le_of_ble_eq_true rfl) ?_
  show kOk _ _ _ _ _ _ _ _ [(0, .ref 14), (1, .int a1)] _ _
  refine ok_aload_n 0 (kd_m11_isPair.at 0 rfl) rfl rfl ?_
  refine ok_getZ (kd_m11_isPair.at 1 rfl) kf11_177 sh_14 rfl (fun b1 => ?_)
  refine ok_ifb_eq (tgt := 27) (kd_m11_isPair.at 2 rfl) (by decide) (fun h2 => ?_) (fun h2 => ?_)
  · refine ok_iconst (v := 0) (kd_m11_isPair.at 15 rfl) (by decide) ?_
    exact ok_zreturn (x := false) (kd_m11_isPair.at 16 rfl) rfl
  · refine ok_iload_n 1 (kd_m11_isPair.at 3 rfl) rfl rfl ?_
    refine ok_iconst (v := 0) (kd_m11_isPair.at 4 rfl) (by decide) ?_
    refine ok_aload_n 0 (kd_m11_isPair.at 5 rfl) rfl rfl ?_
    refine ok_getR (kd_m11_isPair.at 6 rfl) kf11_20 sh_14 rfl (kr_14_15 _) ?_
    refine ok_iconst (v := 2) (kd_m11_isPair.at 7 rfl) (by decide) ?_
    refine ok_ialdK (j := 2) (kd_m11_isPair.at 8 rfl) sh_57 (by decide) (by decide) ?_
    refine ok_iconst (v := 1) (kd_m11_isPair.at 9 rfl) (by decide) ?_
    refine ok_isub (kd_m11_isPair.at 10 rfl) ?_
    refine ok_callSB (M' := m11_in) (as := [.int a1, .int 0, .int ((S.1 57 2) - 1)]) (st := []) (kd_m11_isPair.at 11 rfl) kc11_146  rfl (by decide) (ok_m11_in a1 0 ((S.1 57 2) - 1) S) (kfit_of (by decide)) rfl (Nat.le_of_ble_eq_true rfl) (fun q3 hq3 => ?_)
    refine ok_ifb_eq (tgt := 27) (kd_m11_isPair.at 12 rfl) (by decide) (fun h4 => ?_) (fun h4 => ?_)
    · refine ok_iconst (v := 0) (kd_m11_isPair.at 15 rfl) (by decide) ?_
      exact ok_zreturn (x := false) (kd_m11_isPair.at 16 rfl) rfl
    · refine ok_iconst (v := 1) (kd_m11_isPair.at 13 rfl) (by decide) ?_
      refine ok_goto (tgt := 28) (kd_m11_isPair.at 14 rfl) (by decide) ?_
      exact ok_zreturn (x := true) (kd_m11_isPair.at 16 rfl) rfl
def f_m11_areTwo (a1 : Int32) (a2 : Int32) (S : kSt) : Option (Bool × kSt) :=
  (f_m11_isPair a1 S).bind fun q1 =>
  if q1.1 then
    (f_m11_isPair a2 q1.2).bind fun q3 =>
    if q3.1 then
      if a1 = a2 then
        some (false, q3.2)
      else
        some (true, q3.2)
    else
      some (false, q3.2)
  else
    some (false, q1.2)
theorem ok_m11_areTwo {l : Launch} {G : kG} {E : kE} (a1 : Int32) (a2 : Int32)  (S : kSt) : kFn l G E E kjB m11_areTwo 3 [.ref 14, .int a1, .int a2] S (f_m11_areTwo a1 a2 S) := by
  unfold f_m11_areTwo
  refine kFn_of (by decide +kernel) (fun hG => Nat.le_of_ble_eq_true rfl) ?_
  show kOk _ _ _ _ _ _ _ _ [(0, .ref 14), (1, .int a1), (2, .int a2)] _ _
  refine ok_aload_n 0 (kd_m11_areTwo.at 0 rfl) rfl rfl ?_
  refine ok_iload_n 1 (kd_m11_areTwo.at 1 rfl) rfl rfl ?_
  refine ok_callVB (M' := m11_isPair) (as := [.int a1]) (st := []) (kd_m11_areTwo.at 2 rfl) kc11_239 sh_14 rfl rfl (by decide) (ok_m11_isPair a1 S) (kfit_of (by decide)) rfl (Nat.le_of_ble_eq_true rfl) (fun q1 hq1 => ?_)
  refine ok_ifb_eq (tgt := 25) (kd_m11_areTwo.at 3 rfl) (by decide) (fun h2 => ?_) (fun h2 => ?_)
  · refine ok_iconst (v := 0) (kd_m11_areTwo.at 13 rfl) (by decide) ?_
    exact ok_zreturn (x := false) (kd_m11_areTwo.at 14 rfl) rfl
  · refine ok_aload_n 0 (kd_m11_areTwo.at 4 rfl) rfl rfl ?_
    refine ok_iload_n 2 (kd_m11_areTwo.at 5 rfl) rfl rfl ?_
    refine ok_callVB (M' := m11_isPair) (as := [.int a2]) (st := []) (kd_m11_areTwo.at 6 rfl) kc11_239 sh_14 rfl rfl (by decide) (ok_m11_isPair a2 q1.2) (kfit_of (by decide)) rfl (Nat.le_of_ble_eq_true rfl) (fun q3 hq3 => ?_)
    refine ok_ifb_eq (tgt := 25) (kd_m11_areTwo.at 7 rfl) (by decide) (fun h4 => ?_) (fun h4 => ?_)
    · refine ok_iconst (v := 0) (kd_m11_areTwo.at 13 rfl) (by decide) ?_
      exact ok_zreturn (x := false) (kd_m11_areTwo.at 14 rfl) rfl
    · refine ok_iload_n 1 (kd_m11_areTwo.at 8 rfl) rfl rfl ?_
      refine ok_iload_n 2 (kd_m11_areTwo.at 9 rfl) rfl rfl ?_
      refine ok_icmp_eq (tgt := 25) (kd_m11_areTwo.at 10 rfl) (by decide) (fun h5 => ?_) (fun h5 => ?_)
      · refine ok_iconst (v := 0) (kd_m11_areTwo.at 13 rfl) (by decide) ?_
        exact ok_zreturn (x := false) (kd_m11_areTwo.at 14 rfl) rfl
      · refine ok_iconst (v := 1) (kd_m11_areTwo.at 11 rfl) (by decide) ?_
        refine ok_goto (tgt := 26) (kd_m11_areTwo.at 12 rfl) (by decide) ?_
        exact ok_zreturn (x := true) (kd_m11_areTwo.at 14 rfl) rfl
def f_m11_why (a1 : Bool) (a2 : Bool) (S : kSt) : Option (Int32 × kSt) :=
  if a1 then
    if a2 then
      some (0, S)
    else
      some (2, S)
  else
    some (1, S)
theorem ok_m11_why {l : Launch} {G : kG} {E : kE} (a1 : Bool) (a2 : Bool)  (S : kSt) : kFn l G E E kjI m11_why 1 [.ref 14, .int (kb a1), .int (kb a2)] S (f_m11_why a1 a2 S) := by
  unfold f_m11_why
  refine kFn_of (by decide +kernel) (fun hG => Nat.le_of_ble_eq_true rfl) ?_
  show kOk _ _ _ _ _ _ _ _ [(0, .ref 14), (1, .int (kb a1)), (2, .int (kb a2))] _ _
  refine ok_iload_n 1 (kd_m11_why.at 0 rfl) rfl rfl ?_
  refine ok_ifb_ne (tgt := 8) (kd_m11_why.at 1 rfl) (by decide) (fun h1 => ?_) (fun h1 => ?_)
  · refine ok_iload_n 2 (kd_m11_why.at 4 rfl) rfl rfl ?_
    refine ok_ifb_eq (tgt := 16) (kd_m11_why.at 5 rfl) (by decide) (fun h2 => ?_) (fun h2 => ?_)
    · refine ok_iconst (v := 2) (kd_m11_why.at 8 rfl) (by decide) ?_
      exact ok_ireturn (kd_m11_why.at 9 rfl) rfl
    · refine ok_iconst (v := 0) (kd_m11_why.at 6 rfl) (by decide) ?_
      refine ok_goto (tgt := 17) (kd_m11_why.at 7 rfl) (by decide) ?_
      exact ok_ireturn (kd_m11_why.at 9 rfl) rfl
  · refine ok_iconst (v := 1) (kd_m11_why.at 2 rfl) (by decide) ?_
    refine ok_goto (tgt := 17) (kd_m11_why.at 3 rfl) (by decide) ?_
    exact ok_ireturn (kd_m11_why.at 9 rfl) rfl
def f_m11_within (a1 : Int32) (S : kSt) : Option (Int32 × kSt) :=
  if 0 ≤ a1 then
    if a1 ≤ (S.1 57 0) then
      some (a1, S)
    else
      some (S.1 57 0, S)
  else
    some (0, S)
theorem ok_m11_within {l : Launch} {G : kG} {E : kE} (a1 : Int32)  (S : kSt) : kFn l G E E kjI m11_within 1 [.ref 14, .int a1] S (f_m11_within a1 S) := by
  unfold f_m11_within
  refine kFn_of (by decide +kernel) (fun hG => Nat.le_of_ble_eq_true rfl) ?_
  show kOk _ _ _ _ _ _ _ _ [(0, .ref 14), (1, .int a1)] _ _
  refine ok_iload_n 1 (kd_m11_within.at 0 rfl) rfl rfl ?_
  refine ok_if_ge (tgt := 8) (kd_m11_within.at 1 rfl) (by decide) (fun h1 => ?_) (fun h1 => ?_)
  · refine ok_iload_n 1 (kd_m11_within.at 4 rfl) rfl rfl ?_
    refine ok_aload_n 0 (kd_m11_within.at 5 rfl) rfl rfl ?_
    refine ok_getR (kd_m11_within.at 6 rfl) kf11_20 sh_14 rfl (kr_14_15 _) ?_
    refine ok_iconst (v := 0) (kd_m11_within.at 7 rfl) (by decide) ?_
    refine ok_ialdK (j := 0) (kd_m11_within.at 8 rfl) sh_57 (by decide) (by decide) ?_
    refine ok_icmp_le (tgt := 27) (kd_m11_within.at 9 rfl) (by decide) (fun h2 => ?_) (fun h2 => ?_)
    · refine ok_iload_n 1 (kd_m11_within.at 15 rfl) rfl rfl ?_
      exact ok_ireturn (kd_m11_within.at 16 rfl) rfl
    · refine ok_aload_n 0 (kd_m11_within.at 10 rfl) rfl rfl ?_
      refine ok_getR (kd_m11_within.at 11 rfl) kf11_20 sh_14 rfl (kr_14_15 _) ?_
      refine ok_iconst (v := 0) (kd_m11_within.at 12 rfl) (by decide) ?_
      refine ok_ialdK (j := 0) (kd_m11_within.at 13 rfl) sh_57 (by decide) (by decide) ?_
      refine ok_goto (tgt := 28) (kd_m11_within.at 14 rfl) (by decide) ?_
      exact ok_ireturn (kd_m11_within.at 16 rfl) rfl
  · refine ok_iconst (v := 0) (kd_m11_within.at 2 rfl) (by decide) ?_
    refine ok_goto (tgt := 28) (kd_m11_within.at 3 rfl) (by decide) ?_
    exact ok_ireturn (kd_m11_within.at 16 rfl) rfl
def f_m11_byLaw (a1 : Int32) (a2 : Int32) (a3 : Int32) (S : kSt) : Option (Int32 × kSt) :=
  knx (8 + a1) fun x1 =>
  kgi x1 95 (
    knx (S.1 57 x1.toNatClampNeg) fun x2 =>
    knx (if x2 = 0 then a2 + a3 else (if x2 = 1 then (2 * a2) + a3 else (if x2 = 2 then a2 - a3 else ((S.1 57 0) - a2) + a3))) fun x6 =>
    (f_m11_within x6 S).bind fun q7 =>
    some (q7.1, q7.2)
  )
theorem ok_m11_byLaw {l : Launch} {G : kG} {E : kE} (a1 : Int32) (a2 : Int32) (a3 : Int32)  (S : kSt) : kFn l G E E kjI m11_byLaw 2 [.ref 14, .int a1, .int a2, .int a3] S (f_m11_byLaw a1 a2 a3 S) := by
  unfold f_m11_byLaw
  refine kFn_of (by decide +kernel) (fun hG => Nat.le_of_ble_eq_true rfl) ?_
  show kOk _ _ _ _ _ _ _ _ [(0, .ref 14), (1, .int a1), (2, .int a2), (3, .int a3)] _ _
  refine ok_aload_n 0 (kd_m11_byLaw.at 0 rfl) rfl rfl ?_
  refine ok_getR (kd_m11_byLaw.at 1 rfl) kf11_20 sh_14 rfl (kr_14_15 _) ?_
  refine ok_bipush (v := 8) (kd_m11_byLaw.at 2 rfl) (by decide) ?_
  refine ok_iload_n 1 (kd_m11_byLaw.at 3 rfl) rfl rfl ?_
  refine ok_iadd (kd_m11_byLaw.at 4 rfl) ?_
  refine ok_topi (fun x1 hx1 => ?_)
  refine ok_iald (kd_m11_byLaw.at 5 rfl) sh_57 ?_
  refine ok_topi (fun x2 hx2 => ?_)
  refine ok_istore (lv' := [(4, .int x2), (0, .ref 14), (1, .int a1), (2, .int a2), (3, .int a3)]) (kd_m11_byLaw.at 6 rfl) (by decide) rfl ?_
  refine ok_aload_n 1 (kd_m11_byLaw.at 7 rfl) rfl rfl ?_
  refine ok_iload 0 (kd_m11_byLaw.at 8 rfl) rfl ?_
  refine ok_fold (α := Int32) (pcJ := 59) (lvJ := [(4, .int x2), (0, .ref 14), (1, .int a1), (2, .int a2), (3, .int a3)]) (stJ := [.ref 14]) (mk := fun v => .int v) (fun K => ?_) (fun x6 => ?_)
  · refine ok_ap ?_
    refine ok_if_ne (tgt := 23) (kd_m11_byLaw.at 9 rfl) (by decide) (fun h5 => ?_) (fun h5 => ?_)
    · refine ok_iload 0 (kd_m11_byLaw.at 14 rfl) rfl ?_
      refine ok_iconst (v := 1) (kd_m11_byLaw.at 15 rfl) (by decide) ?_
      refine ok_ap ?_
      refine ok_icmp_ne (tgt := 37) (kd_m11_byLaw.at 16 rfl) (by decide) (fun h4 => ?_) (fun h4 => ?_)
      · refine ok_iload 0 (kd_m11_byLaw.at 23 rfl) rfl ?_
        refine ok_iconst (v := 2) (kd_m11_byLaw.at 24 rfl) (by decide) ?_
        refine ok_ap ?_
        refine ok_icmp_ne (tgt := 49) (kd_m11_byLaw.at 25 rfl) (by decide) (fun h3 => ?_) (fun h3 => ?_)
        · refine ok_aload_n 1 (kd_m11_byLaw.at 30 rfl) rfl rfl ?_
          refine ok_getR (kd_m11_byLaw.at 31 rfl) kf11_20 sh_14 rfl (kr_14_15 _) ?_
          refine ok_iconst (v := 0) (kd_m11_byLaw.at 32 rfl) (by decide) ?_
          refine ok_ialdK (j := 0) (kd_m11_byLaw.at 33 rfl) sh_57 (by decide) (by decide) ?_
          refine ok_iload_n 3 (kd_m11_byLaw.at 34 rfl) rfl rfl ?_
          refine ok_isub (kd_m11_byLaw.at 35 rfl) ?_
          refine ok_iload_n 4 (kd_m11_byLaw.at 36 rfl) rfl rfl ?_
          refine ok_iadd (kd_m11_byLaw.at 37 rfl) ?_
          exact K (((S.1 57 0) - a2) + a3)
        · refine ok_iload_n 3 (kd_m11_byLaw.at 26 rfl) rfl rfl ?_
          refine ok_iload_n 4 (kd_m11_byLaw.at 27 rfl) rfl rfl ?_
          refine ok_isub (kd_m11_byLaw.at 28 rfl) ?_
          refine ok_goto (tgt := 59) (kd_m11_byLaw.at 29 rfl) (by decide) ?_
          exact K (a2 - a3)
      · refine ok_iconst (v := 2) (kd_m11_byLaw.at 17 rfl) (by decide) ?_
        refine ok_iload_n 3 (kd_m11_byLaw.at 18 rfl) rfl rfl ?_
        refine ok_imul (kd_m11_byLaw.at 19 rfl) ?_
        refine ok_iload_n 4 (kd_m11_byLaw.at 20 rfl) rfl rfl ?_
        refine ok_iadd (kd_m11_byLaw.at 21 rfl) ?_
        refine ok_goto (tgt := 59) (kd_m11_byLaw.at 22 rfl) (by decide) ?_
        exact K ((2 * a2) + a3)
    · refine ok_iload_n 3 (kd_m11_byLaw.at 10 rfl) rfl rfl ?_
      refine ok_iload_n 4 (kd_m11_byLaw.at 11 rfl) rfl rfl ?_
      refine ok_iadd (kd_m11_byLaw.at 12 rfl) ?_
      refine ok_goto (tgt := 59) (kd_m11_byLaw.at 13 rfl) (by decide) ?_
      exact K (a2 + a3)
  · refine ok_callVI (M' := m11_within) (as := [.int x6]) (st := []) (kd_m11_byLaw.at 38 rfl) kc11_242 sh_14 rfl rfl (by decide) (ok_m11_within x6 S) (kfit_of (by decide)) rfl (Nat.le_of_ble_eq_true rfl) (fun q7 hq7 => ?_)
    exact ok_ireturn (kd_m11_byLaw.at 39 rfl) rfl
def f_m11_behind (a1 : Int32) (a2 : Int32) (a3 : Int32) (a4 : Int32) (a5 : Int32) (a6 : Bool) (S : kSt) : Option (Int32 × kSt) :=
  knx (fun (x1 : Int32) (S2 : kSt) =>
    if a4 ≤ 0 then
      some (x1, S2)
    else
      kgz a4 (
        if (krem a5 a4) = 0 then
          some ((S2.1 57 0) - x1, S2)
        else
          some (x1, S2)
      )
    ) fun j16 =>
  if a6 then
    j16 a2 S
  else
    (f_m11_byLaw a1 a2 a3 S).bind fun q6 =>
    j16 q6.1 q6.2
theorem ok_m11_behind {l : Launch} {G : kG} {E : kE} (a1 : Int32) (a2 : Int32) (a3 : Int32) (a4 : Int32) (a5 : Int32) (a6 : Bool)  (S : kSt) : kFn l G E E kjI m11_behind 3 [.ref 14, .int a1, .int a2, .int a3, .int a4, .int a5, .int (kb a6)] S (f_m11_behind a1 a2 a3 a4 a5 a6 S) := by
  unfold f_m11_behind
  refine kFn_of (by decide +kernel) (fun hG => Nat.le_of_ble_eq_true rfl) ?_
  show kOk _ _ _ _ _ _ _ _ [(0, .ref 14), (1, .int a1), (2, .int a2), (3, .int a3), (4, .int a4), (5, .int a5), (6, .int (kb a6))] _ _
  refine ok_iload 6 (kd_m11_behind.at 0 rfl) rfl ?_
  refine ok_nx (fun j16 hj16 => ?_)
  have K16 : ∀ (x1 : Int32) (S2 : kSt), kOk l G E (kZ G E kjI) m11_behind (kdp (3)) (j16 x1 S2) 16 [(0, .ref 14), (4, .int a4), (5, .int a5)] [.int x1] S2 := by
    subst hj16
    intro x1 S2
    refine ok_istore (lv' := [(7, .int x1), (0, .ref 14), (4, .int a4), (5, .int a5)]) (kd_m11_behind.at 9 rfl) (by decide) rfl ?_
    refine ok_iload 2 (kd_m11_behind.at 10 rfl) rfl ?_
    refine ok_if_le (tgt := 43) (kd_m11_behind.at 11 rfl) (by decide) (fun h3 => ?_) (fun h3 => ?_)
    · refine ok_iload 0 (kd_m11_behind.at 23 rfl) rfl ?_
      exact ok_ireturn (kd_m11_behind.at 24 rfl) rfl
    · refine ok_iload 3 (kd_m11_behind.at 12 rfl) rfl ?_
      refine ok_iload 2 (kd_m11_behind.at 13 rfl) rfl ?_
      refine ok_iremG (kd_m11_behind.at 14 rfl) ?_
      refine ok_if_ne (tgt := 43) (kd_m11_behind.at 15 rfl) (by decide) (fun h4 => ?_) (fun h4 => ?_)
      · refine ok_iload 0 (kd_m11_behind.at 23 rfl) rfl ?_
        exact ok_ireturn (kd_m11_behind.at 24 rfl) rfl
      · refine ok_aload_n 1 (kd_m11_behind.at 16 rfl) rfl rfl ?_
        refine ok_getR (kd_m11_behind.at 17 rfl) kf11_20 sh_14 rfl (kr_14_15 _) ?_
        refine ok_iconst (v := 0) (kd_m11_behind.at 18 rfl) (by decide) ?_
        refine ok_ialdK (j := 0) (kd_m11_behind.at 19 rfl) sh_57 (by decide) (by decide) ?_
        refine ok_iload 0 (kd_m11_behind.at 20 rfl) rfl ?_
        refine ok_isub (kd_m11_behind.at 21 rfl) ?_
        refine ok_goto (tgt := 45) (kd_m11_behind.at 22 rfl) (by decide) ?_
        exact ok_ireturn (kd_m11_behind.at 24 rfl) rfl
  clear hj16
  refine ok_ifb_eq (tgt := 9) (kd_m11_behind.at 1 rfl) (by decide) (fun h5 => ?_) (fun h5 => ?_)
  · refine ok_aload_n 0 (kd_m11_behind.at 4 rfl) rfl rfl ?_
    refine ok_iload_n 1 (kd_m11_behind.at 5 rfl) rfl rfl ?_
    refine ok_iload_n 2 (kd_m11_behind.at 6 rfl) rfl rfl ?_
    refine ok_iload_n 3 (kd_m11_behind.at 7 rfl) rfl rfl ?_
    refine ok_callVI (M' := m11_byLaw) (as := [.int a1, .int a2, .int a3]) (st := []) (kd_m11_behind.at 8 rfl) kc11_245 sh_14 rfl rfl (by decide) (ok_m11_byLaw a1 a2 a3 S) (kfit_of (by decide)) rfl (Nat.le_of_ble_eq_true rfl) (fun q6 hq6 => ?_)
    refine ok_sub (lv' := [(0, .ref 14), (4, .int a4), (5, .int a5)]) [0, 4, 5] rfl ?_
    exact K16 q6.1 q6.2
  · refine ok_iload_n 2 (kd_m11_behind.at 2 rfl) rfl rfl ?_
    refine ok_goto (tgt := 16) (kd_m11_behind.at 3 rfl) (by decide) ?_
    refine ok_sub (lv' := [(0, .ref 14), (4, .int a4), (5, .int a5)]) [0, 4, 5] rfl ?_
    exact K16 a2 S
def f_m11_isMore (a1 : Int32) (S : kSt) : Option (Bool × kSt) :=
  if (2 * a1) ≤ (S.1 57 0) then
    some (false, S)
  else
    some (true, S)
theorem ok_m11_isMore {l : Launch} {G : kG} {E : kE} (a1 : Int32)  (S : kSt) : kFn l G E E kjB m11_isMore 1 [.ref 14, .int a1] S (f_m11_isMore a1 S) := by
  unfold f_m11_isMore
  refine kFn_of (by decide +kernel) (fun hG => Nat.le_of_ble_eq_true rfl) ?_
  show kOk _ _ _ _ _ _ _ _ [(0, .ref 14), (1, .int a1)] _ _
  refine ok_iconst (v := 2) (kd_m11_isMore.at 0 rfl) (by decide) ?_
  refine ok_iload_n 1 (kd_m11_isMore.at 1 rfl) rfl rfl ?_
  refine ok_imul (kd_m11_isMore.at 2 rfl) ?_
  refine ok_aload_n 0 (kd_m11_isMore.at 3 rfl) rfl rfl ?_
  refine ok_getR (kd_m11_isMore.at 4 rfl) kf11_20 sh_14 rfl (kr_14_15 _) ?_
  refine ok_iconst (v := 0) (kd_m11_isMore.at 5 rfl) (by decide) ?_
  refine ok_ialdK (j := 0) (kd_m11_isMore.at 6 rfl) sh_57 (by decide) (by decide) ?_
  refine ok_icmp_le (tgt := 16) (kd_m11_isMore.at 7 rfl) (by decide) (fun h1 => ?_) (fun h1 => ?_)
  · refine ok_iconst (v := 0) (kd_m11_isMore.at 10 rfl) (by decide) ?_
    exact ok_zreturn (x := false) (kd_m11_isMore.at 11 rfl) rfl
  · refine ok_iconst (v := 1) (kd_m11_isMore.at 8 rfl) (by decide) ?_
    refine ok_goto (tgt := 17) (kd_m11_isMore.at 9 rfl) (by decide) ?_
    exact ok_zreturn (x := true) (kd_m11_isMore.at 11 rfl) rfl
def f_m11_saysBy_L11   (k46 : Int32 → kSt → Option (Int32 × kSt)) (c1 : Int32) (c2 : Int32) (c3 : Int32) (c4 : Int32) : Nat → Int32 → Int32 → kSt → Option (Int32 × kSt)
  | 0, _, _, _ => none
  | n + 1, v5, v6, S =>
    if c2 < v6 then
      k46 v5 S
    else
      (f_m11_behind c1 v5 c3 c4 ((S.1 61 35) + v6) false S).bind fun q3 =>
      knx (v6 + 1) fun x4 =>
      f_m11_saysBy_L11 k46 c1 c2 c3 c4 n q3.1 x4 q3.2
theorem ok_m11_saysBy_L11 {l : Launch} {G : kG} {E : kE}    (c1 : Int32) (c2 : Int32) (c3 : Int32) (c4 : Int32) (k46 : Int32 → kSt → Option (Int32 × kSt)) (hk46 : ∀ (v5 : Int32) (S : kSt), kOk l G E (kZ G E kjI) m11_saysBy (kdp (4)) (k46 v5 S) 46 [(5, .int v5)] [] S) : ∀ (n : Nat) (v5 : Int32) (v6 : Int32) (S : kSt), kOk l G E (kZ G E kjI) m11_saysBy (kdp (4)) (f_m11_saysBy_L11 k46 c1 c2 c3 c4 n v5 v6 S) 11 [(0, .ref 14), (1, .int c1), (2, .int c2), (3, .int c3), (4, .int c4), (5, .int v5), (6, .int v6)] [] S := by
  intro n
  induction n with
  | zero => intro v5 v6 S; exact ok_none
  | succ n ih =>
    intro v5 v6 S
    rw [f_m11_saysBy_L11]
    refine ok_iload 6 (kd_m11_saysBy.at 7 rfl) rfl ?_
    refine ok_iload_n 2 (kd_m11_saysBy.at 8 rfl) rfl rfl ?_
    refine ok_icmp_gt (tgt := 46) (kd_m11_saysBy.at 9 rfl) (by decide) (fun h2 => ?_) (fun h2 => ?_)
    · refine ok_sub (lv' := [(5, .int v5)]) [5] rfl ?_
      exact hk46 v5 S
    · refine ok_aload_n 0 (kd_m11_saysBy.at 10 rfl) rfl rfl ?_
      refine ok_iload_n 1 (kd_m11_saysBy.at 11 rfl) rfl rfl ?_
      refine ok_iload 5 (kd_m11_saysBy.at 12 rfl) rfl ?_
      refine ok_iload_n 3 (kd_m11_saysBy.at 13 rfl) rfl rfl ?_
      refine ok_iload 4 (kd_m11_saysBy.at 14 rfl) rfl ?_
      refine ok_aload_n 0 (kd_m11_saysBy.at 15 rfl) rfl rfl ?_
      refine ok_getR (kd_m11_saysBy.at 16 rfl) kf11_32 sh_14 rfl (kr_14_19 _) ?_
      refine ok_bipush (v := 35) (kd_m11_saysBy.at 17 rfl) (by decide) ?_
      refine ok_ialdK (j := 35) (kd_m11_saysBy.at 18 rfl) sh_61 (by decide) (by decide) ?_
      refine ok_iload 6 (kd_m11_saysBy.at 19 rfl) rfl ?_
      refine ok_iadd (kd_m11_saysBy.at 20 rfl) ?_
      refine ok_iconst (v := 0) (kd_m11_saysBy.at 21 rfl) (by decide) ?_
      refine ok_callVI (M' := m11_behind) (as := [.int c1, .int v5, .int c3, .int c4, .int ((S.1 61 35) + v6), .int (kb false)]) (st := []) (kd_m11_saysBy.at 22 rfl) kc11_249 sh_14 rfl rfl (by decide) (ok_m11_behind c1 v5 c3 c4 ((S.1 61 35) + v6) false S) (kfit_of (by decide)) rfl (Nat.le_of_ble_eq_true rfl) (fun q3 hq3 => ?_)
      refine ok_istore (lv' := [(5, .int q3.1), (0, .ref 14), (1, .int c1), (2, .int c2), (3, .int c3), (4, .int c4), (6, .int v6)]) (kd_m11_saysBy.at 23 rfl) (by decide) rfl ?_
      refine ok_nx (fun x4 hx4 => ?_)
      refine ok_iinc (v := x4) (lv' := [(6, .int x4), (5, .int q3.1), (0, .ref 14), (1, .int c1), (2, .int c2), (3, .int c3), (4, .int c4)]) 6 (kd_m11_saysBy.at 24 rfl) rfl hx4.symm (by decide) rfl ?_
      refine ok_goto (tgt := 11) (kd_m11_saysBy.at 25 rfl) (by decide) ?_
      refine ok_sub (lv' := [(0, .ref 14), (1, .int c1), (2, .int c2), (3, .int c3), (4, .int c4), (5, .int q3.1), (6, .int x4)]) [2, 3, 4, 5, 6, 1, 0] rfl ?_
      exact ih q3.1 x4 q3.2
def f_m11_saysBy (a1 : Int32) (a2 : Int32) (a3 : Int32) (a4 : Int32) (S : kSt) : Option (Int32 × kSt) :=
  kgi a1 36 (
    knx (S.1 61 a1.toNatClampNeg) fun x1 =>
    f_m11_saysBy_L11 
      (fun (x5 : Int32) (S6 : kSt) =>
        some (x5, S6)
      )
      a1 a2 a3 a4 kFU x1 1 S
  )
theorem ok_m11_saysBy {l : Launch} {G : kG} {E : kE} (a1 : Int32) (a2 : Int32) (a3 : Int32) (a4 : Int32)  (S : kSt) : kFn l G E E kjI m11_saysBy 4 [.ref 14, .int a1, .int a2, .int a3, .int a4] S (f_m11_saysBy a1 a2 a3 a4 S) := by
  unfold f_m11_saysBy
  refine kFn_of (by decide +kernel) (fun hG => Nat.le_of_ble_eq_true rfl) ?_
  show kOk _ _ _ _ _ _ _ _ [(0, .ref 14), (1, .int a1), (2, .int a2), (3, .int a3), (4, .int a4)] _ _
  refine ok_aload_n 0 (kd_m11_saysBy.at 0 rfl) rfl rfl ?_
  refine ok_getR (kd_m11_saysBy.at 1 rfl) kf11_32 sh_14 rfl (kr_14_19 _) ?_
  refine ok_iload_n 1 (kd_m11_saysBy.at 2 rfl) rfl rfl ?_
  refine ok_iald (kd_m11_saysBy.at 3 rfl) sh_61 ?_
  refine ok_topi (fun x1 hx1 => ?_)
  refine ok_istore (lv' := [(5, .int x1), (0, .ref 14), (1, .int a1), (2, .int a2), (3, .int a3), (4, .int a4)]) (kd_m11_saysBy.at 4 rfl) (by decide) rfl ?_
  refine ok_iconst (v := 1) (kd_m11_saysBy.at 5 rfl) (by decide) ?_
  refine ok_istore (lv' := [(6, .int 1), (5, .int x1), (0, .ref 14), (1, .int a1), (2, .int a2), (3, .int a3), (4, .int a4)]) (kd_m11_saysBy.at 6 rfl) (by decide) rfl ?_
  refine ok_sub (lv' := [(0, .ref 14), (1, .int a1), (2, .int a2), (3, .int a3), (4, .int a4), (5, .int x1), (6, .int 1)]) [2, 3, 4, 5, 6, 1, 0] rfl ?_
  refine ok_m11_saysBy_L11 a1 a2 a3 a4 _ (fun x5 S6 => ?_) kFU x1 1 S
  refine ok_iload 0 (kd_m11_saysBy.at 26 rfl) rfl ?_
  exact ok_ireturn (kd_m11_saysBy.at 27 rfl) rfl
def f_m11_saysIn (a1 : Int32) (a2 : Int32) (S : kSt) : Option (Int32 × kSt) :=
  knx (5 + a1) fun x1 =>
  kgi x1 36 (
    knx (13 + a1) fun x2 =>
    kgi x2 95 (
      (f_m11_saysBy a1 a2 (S.1 61 x1.toNatClampNeg) (S.1 57 x2.toNatClampNeg) S).bind fun q3 =>
      some (q3.1, q3.2)
    )
  )
theorem ok_m11_saysIn {l : Launch} {G : kG} {E : kE} (a1 : Int32) (a2 : Int32)  (S : kSt) : kFn l G E E kjI m11_saysIn 5 [.ref 14, .int a1, .int a2] S (f_m11_saysIn a1 a2 S) := by
  unfold f_m11_saysIn
  refine kFn_of (by decide +kernel) (fun hG => Nat.le_of_ble_eq_true rfl) ?_
  show kOk _ _ _ _ _ _ _ _ [(0, .ref 14), (1, .int a1), (2, .int a2)] _ _
  refine ok_aload_n 0 (kd_m11_saysIn.at 0 rfl) rfl rfl ?_
  refine ok_iload_n 1 (kd_m11_saysIn.at 1 rfl) rfl rfl ?_
  refine ok_iload_n 2 (kd_m11_saysIn.at 2 rfl) rfl rfl ?_
  refine ok_aload_n 0 (kd_m11_saysIn.at 3 rfl) rfl rfl ?_
  refine ok_getR (kd_m11_saysIn.at 4 rfl) kf11_32 sh_14 rfl (kr_14_19 _) ?_
  refine ok_iconst (v := 5) (kd_m11_saysIn.at 5 rfl) (by decide) ?_
  refine ok_iload_n 1 (kd_m11_saysIn.at 6 rfl) rfl rfl ?_
  refine ok_iadd (kd_m11_saysIn.at 7 rfl) ?_
  refine ok_topi (fun x1 hx1 => ?_)
  refine ok_iald (kd_m11_saysIn.at 8 rfl) sh_61 ?_
  refine ok_aload_n 0 (kd_m11_saysIn.at 9 rfl) rfl rfl ?_
  refine ok_getR (kd_m11_saysIn.at 10 rfl) kf11_20 sh_14 rfl (kr_14_15 _) ?_
  refine ok_bipush (v := 13) (kd_m11_saysIn.at 11 rfl) (by decide) ?_
  refine ok_iload_n 1 (kd_m11_saysIn.at 12 rfl) rfl rfl ?_
  refine ok_iadd (kd_m11_saysIn.at 13 rfl) ?_
  refine ok_topi (fun x2 hx2 => ?_)
  refine ok_iald (kd_m11_saysIn.at 14 rfl) sh_57 ?_
  refine ok_callVI (M' := m11_saysBy) (as := [.int a1, .int a2, .int (S.1 61 x1.toNatClampNeg), .int (S.1 57 x2.toNatClampNeg)]) (st := []) (kd_m11_saysIn.at 15 rfl) kc11_253 sh_14 rfl rfl (by decide) (ok_m11_saysBy a1 a2 (S.1 61 x1.toNatClampNeg) (S.1 57 x2.toNatClampNeg) S) (kfit_of (by decide)) rfl (Nat.le_of_ble_eq_true rfl) (fun q3 hq3 => ?_)
  exact ok_ireturn (kd_m11_saysIn.at 16 rfl) rfl
def f_m11_isRoundOf_L13   (k48 : kSt → Option (Bool × kSt)) (k56 : kSt → Option (Bool × kSt)) (c1 : Int32) : Nat → Int32 → kSt → Option (Bool × kSt)
  | 0, _, _ => none
  | n + 1, v2, S =>
    if (S.1 14 27) ≤ v2 then
      k56  S
    else
      knx ((S.1 14 26) + v2) fun x3 =>
      kgi x3 2600 (
        knx (((S.1 14 26) + v2) + c1) fun x4 =>
        kgi x4 2600 (
          if (S.1 64 x3.toNatClampNeg) = (S.1 64 x4.toNatClampNeg) then
            knx (v2 + 1) fun x6 =>
            f_m11_isRoundOf_L13 k48 k56 c1 n x6 S
          else
            k48  S
        )
      )
theorem ok_m11_isRoundOf_L13 {l : Launch} {G : kG} {E : kE}    (c1 : Int32) (k48 : kSt → Option (Bool × kSt)) (k56 : kSt → Option (Bool × kSt)) (hk48 : ∀  (S : kSt), kOk l G E (kZ G E kjB) m11_isRoundOf (kdp (1)) (k48  S) 48 [] [] S) (hk56 : ∀  (S : kSt), kOk l G E (kZ G E kjB) m11_isRoundOf (kdp (1)) (k56  S) 56 [] [] S) : ∀ (n : Nat) (v2 : Int32) (S : kSt), kOk l G E (kZ G E kjB) m11_isRoundOf (kdp (1)) (f_m11_isRoundOf_L13 k48 k56 c1 n v2 S) 13 [(0, .ref 14), (1, .int c1), (2, .int v2)] [] S := by
  intro n
  induction n with
  | zero => intro v2 S; exact ok_none
  | succ n ih =>
    intro v2 S
    rw [f_m11_isRoundOf_L13]
    refine ok_iload_n 2 (kd_m11_isRoundOf.at 9 rfl) rfl rfl ?_
    refine ok_aload_n 0 (kd_m11_isRoundOf.at 10 rfl) rfl rfl ?_
    refine ok_getI (kd_m11_isRoundOf.at 11 rfl) kf11_260 sh_14 rfl ?_
    refine ok_icmp_ge (tgt := 56) (kd_m11_isRoundOf.at 12 rfl) (by decide) (fun h2 => ?_) (fun h2 => ?_)
    · refine ok_sub (lv' := []) [] rfl ?_
      exact hk56  S
    · refine ok_aload_n 0 (kd_m11_isRoundOf.at 13 rfl) rfl rfl ?_
      refine ok_getR (kd_m11_isRoundOf.at 14 rfl) kf11_41 sh_14 rfl (kr_14_24 _) ?_
      refine ok_aload_n 0 (kd_m11_isRoundOf.at 15 rfl) rfl rfl ?_
      refine ok_getI (kd_m11_isRoundOf.at 16 rfl) kf11_257 sh_14 rfl ?_
      refine ok_iload_n 2 (kd_m11_isRoundOf.at 17 rfl) rfl rfl ?_
      refine ok_iadd (kd_m11_isRoundOf.at 18 rfl) ?_
      refine ok_topi (fun x3 hx3 => ?_)
      refine ok_iald (kd_m11_isRoundOf.at 19 rfl) sh_64 ?_
      refine ok_aload_n 0 (kd_m11_isRoundOf.at 20 rfl) rfl rfl ?_
      refine ok_getR (kd_m11_isRoundOf.at 21 rfl) kf11_41 sh_14 rfl (kr_14_24 _) ?_
      refine ok_aload_n 0 (kd_m11_isRoundOf.at 22 rfl) rfl rfl ?_
      refine ok_getI (kd_m11_isRoundOf.at 23 rfl) kf11_257 sh_14 rfl ?_
      refine ok_iload_n 2 (kd_m11_isRoundOf.at 24 rfl) rfl rfl ?_
      refine ok_iadd (kd_m11_isRoundOf.at 25 rfl) ?_
      refine ok_iload_n 1 (kd_m11_isRoundOf.at 26 rfl) rfl rfl ?_
      refine ok_iadd (kd_m11_isRoundOf.at 27 rfl) ?_
      refine ok_topi (fun x4 hx4 => ?_)
      refine ok_iald (kd_m11_isRoundOf.at 28 rfl) sh_64 ?_
      refine ok_icmp_eq (tgt := 50) (kd_m11_isRoundOf.at 29 rfl) (by decide) (fun h5 => ?_) (fun h5 => ?_)
      · refine ok_nx (fun x6 hx6 => ?_)
        refine ok_iinc (v := x6) (lv' := [(2, .int x6), (0, .ref 14), (1, .int c1)]) 2 (kd_m11_isRoundOf.at 32 rfl) rfl hx6.symm (by decide) rfl ?_
        refine ok_goto (tgt := 13) (kd_m11_isRoundOf.at 33 rfl) (by decide) ?_
        refine ok_sub (lv' := [(0, .ref 14), (1, .int c1), (2, .int x6)]) [1, 2, 0] rfl ?_
        exact ih x6 S
      · refine ok_sub (lv' := []) [] rfl ?_
        exact hk48  S
def f_m11_isRoundOf (a1 : Int32) (S : kSt) : Option (Bool × kSt) :=
  kgz a1 (
    if (krem (S.1 14 27) a1) = 0 then
      f_m11_isRoundOf_L13 
        (fun  (S7 : kSt) =>
          some (false, S7)
        )
        (fun  (S8 : kSt) =>
          some (true, S8)
        )
        a1 kFU 0 S
    else
      some (false, S)
  )
theorem ok_m11_isRoundOf {l : Launch} {G : kG} {E : kE} (a1 : Int32)  (S : kSt) : kFn l G E E kjB m11_isRoundOf 1 [.ref 14, .int a1] S (f_m11_isRoundOf a1 S) := by
  unfold f_m11_isRoundOf
  refine kFn_of (by decide +kernel) (fun hG => Nat.le_of_ble_eq_true rfl) ?_
  show kOk _ _ _ _ _ _ _ _ [(0, .ref 14), (1, .int a1)] _ _
  refine ok_aload_n 0 (kd_m11_isRoundOf.at 0 rfl) rfl rfl ?_
  refine ok_getI (kd_m11_isRoundOf.at 1 rfl) kf11_260 sh_14 rfl ?_
  refine ok_iload_n 1 (kd_m11_isRoundOf.at 2 rfl) rfl rfl ?_
  refine ok_iremG (kd_m11_isRoundOf.at 3 rfl) ?_
  refine ok_if_eq (tgt := 11) (kd_m11_isRoundOf.at 4 rfl) (by decide) (fun h1 => ?_) (fun h1 => ?_)
  · refine ok_iconst (v := 0) (kd_m11_isRoundOf.at 7 rfl) (by decide) ?_
    refine ok_istore_n (lv' := [(2, .int 0), (0, .ref 14), (1, .int a1)]) (kd_m11_isRoundOf.at 8 rfl) rfl (by decide) rfl ?_
    refine ok_sub (lv' := [(0, .ref 14), (1, .int a1), (2, .int 0)]) [1, 2, 0] rfl ?_
    refine ok_m11_isRoundOf_L13 a1 _ _ (fun S7 => ?_) (fun S8 => ?_) kFU 0 S
    · refine ok_iconst (v := 0) (kd_m11_isRoundOf.at 30 rfl) (by decide) ?_
      exact ok_zreturn (x := false) (kd_m11_isRoundOf.at 31 rfl) rfl
    · refine ok_iconst (v := 1) (kd_m11_isRoundOf.at 34 rfl) (by decide) ?_
      exact ok_zreturn (x := true) (kd_m11_isRoundOf.at 35 rfl) rfl
  · refine ok_iconst (v := 0) (kd_m11_isRoundOf.at 5 rfl) (by decide) ?_
    exact ok_zreturn (x := false) (kd_m11_isRoundOf.at 6 rfl) rfl
def f_m11_goRound_L28   (k48 : kSt → Option kSt) (c1 : Int32) (c2 : Int32) : Nat → Int32 → kSt → Option kSt
  | 0, _, _ => none
  | n + 1, v3, S =>
    if 900 ≤ v3 then
      k48  S
    else
      kgi v3 900 (
        knx (kuI S 65 v3.toNatClampNeg (-1)) fun S5 =>
        knx (v3 + 1) fun x6 =>
        f_m11_goRound_L28 k48 c1 c2 n x6 S5
      )
theorem ok_m11_goRound_L28 {l : Launch} {G : kG} {E : kE}    (c1 : Int32) (c2 : Int32) (k48 : kSt → Option kSt) (hk48 : ∀  (S : kSt), kOk l G E (kZ G E kjV) m11_goRound (kdp (4)) (k48  S) 48 [(0, .ref 14), (1, .int c1), (2, .int c2)] [] S) : ∀ (n : Nat) (v3 : Int32) (S : kSt), kOk l G E (kZ G E kjV) m11_goRound (kdp (4)) (f_m11_goRound_L28 k48 c1 c2 n v3 S) 28 [(0, .ref 14), (1, .int c1), (2, .int c2), (3, .int v3)] [] S := by
  intro n
  induction n with
  | zero => intro v3 S; exact ok_none
  | succ n ih =>
    intro v3 S
    rw [f_m11_goRound_L28]
    refine ok_iload_n 3 (kd_m11_goRound.at 18 rfl) rfl rfl ?_
    refine ok_sipush (v := 900) (kd_m11_goRound.at 19 rfl) (by decide) ?_
    refine ok_icmp_ge (tgt := 48) (kd_m11_goRound.at 20 rfl) (by decide) (fun h4 => ?_) (fun h4 => ?_)
    · refine ok_sub (lv' := [(0, .ref 14), (1, .int c1), (2, .int c2)]) [0, 1, 2] rfl ?_
      exact hk48  S
    · refine ok_aload_n 0 (kd_m11_goRound.at 21 rfl) rfl rfl ?_
      refine ok_getR (kd_m11_goRound.at 22 rfl) kf11_44 sh_14 rfl (kr_14_25 _) ?_
      refine ok_iload_n 3 (kd_m11_goRound.at 23 rfl) rfl rfl ?_
      refine ok_iconst (v := (-1)) (kd_m11_goRound.at 24 rfl) (by decide) ?_
      refine ok_iast (kd_m11_goRound.at 25 rfl) sh_65 ?_
      refine ok_nS (fun S5 hS5 => ?_)
      refine ok_nx (fun x6 hx6 => ?_)
      refine ok_iinc (v := x6) (lv' := [(3, .int x6), (0, .ref 14), (1, .int c1), (2, .int c2)]) 3 (kd_m11_goRound.at 26 rfl) rfl hx6.symm (by decide) rfl ?_
      refine ok_goto (tgt := 28) (kd_m11_goRound.at 27 rfl) (by decide) ?_
      refine ok_sub (lv' := [(0, .ref 14), (1, .int c1), (2, .int c2), (3, .int x6)]) [1, 2, 3, 0] rfl ?_
      exact ih x6 S5
def f_m11_goRound_L74   (k161 : Int32 → Int32 → kSt → Option kSt) (c1 : Int32) (c2 : Int32) : Nat → Int32 → Int32 → Int32 → kSt → Option kSt
  | 0, _, _, _, _ => none
  | n + 1, v3, v4, v5, S =>
    kgi v5 900 (
      if 0 ≤ (S.1 65 v5.toNatClampNeg) then
        k161 v4 v5 S
      else
        kgi v5 900 (
          knx (kuI S 65 v5.toNatClampNeg v4) fun S11 =>
          kgi v4 2600 (
            knx (kuI S11 64 v4.toNatClampNeg v3) fun S12 =>
            knx (v4 + 1) fun x13 =>
            knx (5 + c1) fun x14 =>
            kgi x14 36 (
              knx (13 + c1) fun x15 =>
              kgi x15 95 (
                (f_m11_behind c1 v3 (S12.1 61 x14.toNatClampNeg) (S12.1 57 x15.toNatClampNeg) ((S12.1 61 35) + x13) false S12).bind fun q16 =>
                kgz c2 (
                  knx ((q16.1 * 9) + (krem ((q16.2.1 61 35) + x13) c2)) fun x17 =>
                  f_m11_goRound_L74 k161 c1 c2 n q16.1 x13 x17 q16.2
                )
              )
            )
          )
        )
    )
theorem ok_m11_goRound_L74 {l : Launch} {G : kG} {E : kE}    (c1 : Int32) (c2 : Int32) (k161 : Int32 → Int32 → kSt → Option kSt) (hk161 : ∀ (v4 : Int32) (v5 : Int32) (S : kSt), kOk l G E (kZ G E kjV) m11_goRound (kdp (4)) (k161 v4 v5 S) 161 [(0, .ref 14), (4, .int v4), (5, .int v5)] [] S) : ∀ (n : Nat) (v3 : Int32) (v4 : Int32) (v5 : Int32) (S : kSt), kOk l G E (kZ G E kjV) m11_goRound (kdp (4)) (f_m11_goRound_L74 k161 c1 c2 n v3 v4 v5 S) 74 [(0, .ref 14), (1, .int c1), (2, .int c2), (3, .int v3), (4, .int v4), (5, .int v5)] [] S := by
  intro n
  induction n with
  | zero => intro v3 v4 v5 S; exact ok_none
  | succ n ih =>
    intro v3 v4 v5 S
    rw [f_m11_goRound_L74]
    refine ok_aload_n 0 (kd_m11_goRound.at 46 rfl) rfl rfl ?_
    refine ok_getR (kd_m11_goRound.at 47 rfl) kf11_44 sh_14 rfl (kr_14_25 _) ?_
    refine ok_iload 5 (kd_m11_goRound.at 48 rfl) rfl ?_
    refine ok_iald (kd_m11_goRound.at 49 rfl) sh_65 ?_
    refine ok_if_ge (tgt := 161) (kd_m11_goRound.at 50 rfl) (by decide) (fun h10 => ?_) (fun h10 => ?_)
    · refine ok_sub (lv' := [(0, .ref 14), (4, .int v4), (5, .int v5)]) [0, 4, 5] rfl ?_
      exact hk161 v4 v5 S
    · refine ok_aload_n 0 (kd_m11_goRound.at 51 rfl) rfl rfl ?_
      refine ok_getR (kd_m11_goRound.at 52 rfl) kf11_44 sh_14 rfl (kr_14_25 _) ?_
      refine ok_iload 5 (kd_m11_goRound.at 53 rfl) rfl ?_
      refine ok_iload 4 (kd_m11_goRound.at 54 rfl) rfl ?_
      refine ok_iast (kd_m11_goRound.at 55 rfl) sh_65 ?_
      refine ok_nS (fun S11 hS11 => ?_)
      refine ok_aload_n 0 (kd_m11_goRound.at 56 rfl) rfl rfl ?_
      refine ok_getR (kd_m11_goRound.at 57 rfl) kf11_41 sh_14 rfl (kr_14_24 _) ?_
      refine ok_iload 4 (kd_m11_goRound.at 58 rfl) rfl ?_
      refine ok_iload_n 3 (kd_m11_goRound.at 59 rfl) rfl rfl ?_
      refine ok_iast (kd_m11_goRound.at 60 rfl) sh_64 ?_
      refine ok_nS (fun S12 hS12 => ?_)
      refine ok_nx (fun x13 hx13 => ?_)
      refine ok_iinc (v := x13) (lv' := [(4, .int x13), (0, .ref 14), (1, .int c1), (2, .int c2), (3, .int v3), (5, .int v5)]) 4 (kd_m11_goRound.at 61 rfl) rfl hx13.symm (by decide) rfl ?_
      refine ok_aload_n 1 (kd_m11_goRound.at 62 rfl) rfl rfl ?_
      refine ok_iload_n 2 (kd_m11_goRound.at 63 rfl) rfl rfl ?_
      refine ok_iload_n 4 (kd_m11_goRound.at 64 rfl) rfl rfl ?_
      refine ok_aload_n 1 (kd_m11_goRound.at 65 rfl) rfl rfl ?_
      refine ok_getR (kd_m11_goRound.at 66 rfl) kf11_32 sh_14 rfl (kr_14_19 _) ?_
      refine ok_iconst (v := 5) (kd_m11_goRound.at 67 rfl) (by decide) ?_
      refine ok_iload_n 2 (kd_m11_goRound.at 68 rfl) rfl rfl ?_
      refine ok_iadd (kd_m11_goRound.at 69 rfl) ?_
      refine ok_topi (fun x14 hx14 => ?_)
      refine ok_iald (kd_m11_goRound.at 70 rfl) sh_61 ?_
      refine ok_aload_n 1 (kd_m11_goRound.at 71 rfl) rfl rfl ?_
      refine ok_getR (kd_m11_goRound.at 72 rfl) kf11_20 sh_14 rfl (kr_14_15 _) ?_
      refine ok_bipush (v := 13) (kd_m11_goRound.at 73 rfl) (by decide) ?_
      refine ok_iload_n 2 (kd_m11_goRound.at 74 rfl) rfl rfl ?_
      refine ok_iadd (kd_m11_goRound.at 75 rfl) ?_
      refine ok_topi (fun x15 hx15 => ?_)
      refine ok_iald (kd_m11_goRound.at 76 rfl) sh_57 ?_
      refine ok_aload_n 1 (kd_m11_goRound.at 77 rfl) rfl rfl ?_
      refine ok_getR (kd_m11_goRound.at 78 rfl) kf11_32 sh_14 rfl (kr_14_19 _) ?_
      refine ok_bipush (v := 35) (kd_m11_goRound.at 79 rfl) (by decide) ?_
      refine ok_ialdK (j := 35) (kd_m11_goRound.at 80 rfl) sh_61 (by decide) (by decide) ?_
      refine ok_iload 0 (kd_m11_goRound.at 81 rfl) rfl ?_
      refine ok_iadd (kd_m11_goRound.at 82 rfl) ?_
      refine ok_iconst (v := 0) (kd_m11_goRound.at 83 rfl) (by decide) ?_
      refine ok_callVI (M' := m11_behind) (as := [.int c1, .int v3, .int (S12.1 61 x14.toNatClampNeg), .int (S12.1 57 x15.toNatClampNeg), .int ((S12.1 61 35) + x13), .int (kb false)]) (st := []) (kd_m11_goRound.at 84 rfl) kc11_249 sh_14 rfl rfl (by decide) (ok_m11_behind c1 v3 (S12.1 61 x14.toNatClampNeg) (S12.1 57 x15.toNatClampNeg) ((S12.1 61 35) + x13) false S12) (kfit_of (by decide)) rfl (Nat.le_of_ble_eq_true rfl) (fun q16 hq16 => ?_)
      refine ok_istore_n (lv' := [(3, .int q16.1), (4, .int x13), (0, .ref 14), (1, .int c1), (2, .int c2), (5, .int v5)]) (kd_m11_goRound.at 85 rfl) rfl (by decide) rfl ?_
      refine ok_iload_n 0 (kd_m11_goRound.at 86 rfl) rfl rfl ?_
      refine ok_bipush (v := 9) (kd_m11_goRound.at 87 rfl) (by decide) ?_
      refine ok_imul (kd_m11_goRound.at 88 rfl) ?_
      refine ok_aload_n 2 (kd_m11_goRound.at 89 rfl) rfl rfl ?_
      refine ok_getR (kd_m11_goRound.at 90 rfl) kf11_32 sh_14 rfl (kr_14_19 _) ?_
      refine ok_bipush (v := 35) (kd_m11_goRound.at 91 rfl) (by decide) ?_
      refine ok_ialdK (j := 35) (kd_m11_goRound.at 92 rfl) sh_61 (by decide) (by decide) ?_
      refine ok_iload 1 (kd_m11_goRound.at 93 rfl) rfl ?_
      refine ok_iadd (kd_m11_goRound.at 94 rfl) ?_
      refine ok_iload_n 4 (kd_m11_goRound.at 95 rfl) rfl rfl ?_
      refine ok_iremG (kd_m11_goRound.at 96 rfl) ?_
      refine ok_iadd (kd_m11_goRound.at 97 rfl) ?_
      refine ok_topi (fun x17 hx17 => ?_)
      refine ok_istore (lv' := [(5, .int x17), (3, .int q16.1), (4, .int x13), (0, .ref 14), (1, .int c1), (2, .int c2)]) (kd_m11_goRound.at 98 rfl) (by decide) rfl ?_
      refine ok_goto (tgt := 74) (kd_m11_goRound.at 99 rfl) (by decide) ?_
      refine ok_sub (lv' := [(0, .ref 14), (1, .int c1), (2, .int c2), (3, .int q16.1), (4, .int x13), (5, .int x17)]) [3, 4, 5, 1, 2, 0] rfl ?_
      exact ih q16.1 x13 x17 q16.2
def f_m11_goRound_L187   (k228 : kSt → Option kSt)  : Nat → Int32 → kSt → Option kSt
  | 0, _, _ => none
  | n + 1, v6, S =>
    if ((S.1 14 26) + (2 * (S.1 14 27))) ≤ v6 then
      k228  S
    else
      knx (v6 - (S.1 14 27)) fun x24 =>
      kgi x24 2600 (
        kgi v6 2600 (
          knx (kuI S 64 v6.toNatClampNeg (S.1 64 x24.toNatClampNeg)) fun S25 =>
          knx (v6 + 1) fun x26 =>
          f_m11_goRound_L187 k228 n x26 S25
        )
      )
theorem ok_m11_goRound_L187 {l : Launch} {G : kG} {E : kE}     (k228 : kSt → Option kSt) (hk228 : ∀  (S : kSt), kOk l G E (kZ G E kjV) m11_goRound (kdp (4)) (k228  S) 228 [(0, .ref 14)] [] S) : ∀ (n : Nat) (v6 : Int32) (S : kSt), kOk l G E (kZ G E kjV) m11_goRound (kdp (4)) (f_m11_goRound_L187 k228 n v6 S) 187 [(0, .ref 14), (6, .int v6)] [] S := by
  intro n
  induction n with
  | zero => intro v6 S; exact ok_none
  | succ n ih =>
    intro v6 S
    rw [f_m11_goRound_L187]
    refine ok_iload 1 (kd_m11_goRound.at 114 rfl) rfl ?_
    refine ok_aload_n 0 (kd_m11_goRound.at 115 rfl) rfl rfl ?_
    refine ok_getI (kd_m11_goRound.at 116 rfl) kf11_257 sh_14 rfl ?_
    refine ok_iconst (v := 2) (kd_m11_goRound.at 117 rfl) (by decide) ?_
    refine ok_aload_n 0 (kd_m11_goRound.at 118 rfl) rfl rfl ?_
    refine ok_getI (kd_m11_goRound.at 119 rfl) kf11_260 sh_14 rfl ?_
    refine ok_imul (kd_m11_goRound.at 120 rfl) ?_
    refine ok_iadd (kd_m11_goRound.at 121 rfl) ?_
    refine ok_icmp_ge (tgt := 228) (kd_m11_goRound.at 122 rfl) (by decide) (fun h23 => ?_) (fun h23 => ?_)
    · refine ok_sub (lv' := [(0, .ref 14)]) [0] rfl ?_
      exact hk228  S
    · refine ok_aload_n 0 (kd_m11_goRound.at 123 rfl) rfl rfl ?_
      refine ok_getR (kd_m11_goRound.at 124 rfl) kf11_41 sh_14 rfl (kr_14_24 _) ?_
      refine ok_iload 1 (kd_m11_goRound.at 125 rfl) rfl ?_
      refine ok_aload_n 0 (kd_m11_goRound.at 126 rfl) rfl rfl ?_
      refine ok_getR (kd_m11_goRound.at 127 rfl) kf11_41 sh_14 rfl (kr_14_24 _) ?_
      refine ok_iload 1 (kd_m11_goRound.at 128 rfl) rfl ?_
      refine ok_aload_n 0 (kd_m11_goRound.at 129 rfl) rfl rfl ?_
      refine ok_getI (kd_m11_goRound.at 130 rfl) kf11_260 sh_14 rfl ?_
      refine ok_isub (kd_m11_goRound.at 131 rfl) ?_
      refine ok_topi (fun x24 hx24 => ?_)
      refine ok_iald (kd_m11_goRound.at 132 rfl) sh_64 ?_
      refine ok_iast (kd_m11_goRound.at 133 rfl) sh_64 ?_
      refine ok_nS (fun S25 hS25 => ?_)
      refine ok_nx (fun x26 hx26 => ?_)
      refine ok_iinc (v := x26) (lv' := [(6, .int x26), (0, .ref 14)]) 1 (kd_m11_goRound.at 134 rfl) rfl hx26.symm (by decide) rfl ?_
      refine ok_goto (tgt := 187) (kd_m11_goRound.at 135 rfl) (by decide) ?_
      refine ok_sub (lv' := [(0, .ref 14), (6, .int x26)]) [1, 0] rfl ?_
      exact ih x26 S25
def f_m11_goRound_L233   (k257 : kSt → Option kSt)  : Nat → kSt → Option kSt
  | 0, _ => none
  | n + 1, S =>
    (f_m11_isRoundOf (S.1 14 29) S).bind fun q29 =>
    if q29.1 then
      k257  q29.2
    else
      knx (kuI q29.2 14 29 ((q29.2.1 14 29) + 1)) fun S31 =>
      f_m11_goRound_L233 k257 n  S31
theorem ok_m11_goRound_L233 {l : Launch} {G : kG} {E : kE}     (k257 : kSt → Option kSt) (hk257 : ∀  (S : kSt), kOk l G E (kZ G E kjV) m11_goRound (kdp (4)) (k257  S) 257 [(0, .ref 14)] [] S) : ∀ (n : Nat)  (S : kSt), kOk l G E (kZ G E kjV) m11_goRound (kdp (4)) (f_m11_goRound_L233 k257 n  S) 233 [(0, .ref 14)] [] S := by
  intro n
  induction n with
  | zero => intro  S; exact ok_none
  | succ n ih =>
    intro  S
    rw [f_m11_goRound_L233]
    refine ok_aload_n 0 (kd_m11_goRound.at 139 rfl) rfl rfl ?_
    refine ok_aload_n 0 (kd_m11_goRound.at 140 rfl) rfl rfl ?_
    refine ok_getI (kd_m11_goRound.at 141 rfl) kf11_263 sh_14 rfl ?_
    refine ok_callVB (M' := m11_isRoundOf) (as := [.int (S.1 14 29)]) (st := []) (kd_m11_goRound.at 142 rfl) kc11_266 sh_14 rfl rfl (by decide) (ok_m11_isRoundOf (S.1 14 29) S) (kfit_of (by decide)) rfl (Nat.le_of_ble_eq_true rfl) (fun q29 hq29 => ?_)
    refine ok_ifb_ne (tgt := 257) (kd_m11_goRound.at 143 rfl) (by decide) (fun h30 => ?_) (fun h30 => ?_)
    · exact hk257  q29.2
    · refine ok_aload_n 0 (kd_m11_goRound.at 144 rfl) rfl rfl ?_
      refine ok_dup (kd_m11_goRound.at 145 rfl) rfl ?_
      refine ok_getI (kd_m11_goRound.at 146 rfl) kf11_263 sh_14 rfl ?_
      refine ok_iconst (v := 1) (kd_m11_goRound.at 147 rfl) (by decide) ?_
      refine ok_iadd (kd_m11_goRound.at 148 rfl) ?_
      refine ok_putI (kd_m11_goRound.at 149 rfl) kf11_263 sh_14 rfl rfl ?_
      refine ok_nS (fun S31 hS31 => ?_)
      refine ok_goto (tgt := 233) (kd_m11_goRound.at 150 rfl) (by decide) ?_
      exact ih  S31
def f_m11_goRound_L265   (k315 : kSt → Option kSt)  : Nat → kSt → Option kSt
  | 0, _ => none
  | n + 1, S =>
    if (S.1 14 28) ≤ 0 then
      k315  S
    else
      knx ((S.1 14 28) - 1) fun x35 =>
      kgi x35 2600 (
        knx (((S.1 14 28) - 1) + (S.1 14 29)) fun x36 =>
        kgi x36 2600 (
          if (S.1 64 x35.toNatClampNeg) = (S.1 64 x36.toNatClampNeg) then
            knx (kuI S 14 28 ((S.1 14 28) - 1)) fun S38 =>
            f_m11_goRound_L265 k315 n  S38
          else
            k315  S
        )
      )
theorem ok_m11_goRound_L265 {l : Launch} {G : kG} {E : kE}     (k315 : kSt → Option kSt) (hk315 : ∀  (S : kSt), kOk l G E (kZ G E kjV) m11_goRound (kdp (4)) (k315  S) 315 [] [] S) : ∀ (n : Nat)  (S : kSt), kOk l G E (kZ G E kjV) m11_goRound (kdp (4)) (f_m11_goRound_L265 k315 n  S) 265 [(0, .ref 14)] [] S := by
  intro n
  induction n with
  | zero => intro  S; exact ok_none
  | succ n ih =>
    intro  S
    rw [f_m11_goRound_L265]
    refine ok_aload_n 0 (kd_m11_goRound.at 155 rfl) rfl rfl ?_
    refine ok_getI (kd_m11_goRound.at 156 rfl) kf11_269 sh_14 rfl ?_
    refine ok_if_le (tgt := 315) (kd_m11_goRound.at 157 rfl) (by decide) (fun h34 => ?_) (fun h34 => ?_)
    · refine ok_sub (lv' := []) [] rfl ?_
      exact hk315  S
    · refine ok_aload_n 0 (kd_m11_goRound.at 158 rfl) rfl rfl ?_
      refine ok_getR (kd_m11_goRound.at 159 rfl) kf11_41 sh_14 rfl (kr_14_24 _) ?_
      refine ok_aload_n 0 (kd_m11_goRound.at 160 rfl) rfl rfl ?_
      refine ok_getI (kd_m11_goRound.at 161 rfl) kf11_269 sh_14 rfl ?_
      refine ok_iconst (v := 1) (kd_m11_goRound.at 162 rfl) (by decide) ?_
      refine ok_isub (kd_m11_goRound.at 163 rfl) ?_
      refine ok_topi (fun x35 hx35 => ?_)
      refine ok_iald (kd_m11_goRound.at 164 rfl) sh_64 ?_
      refine ok_aload_n 0 (kd_m11_goRound.at 165 rfl) rfl rfl ?_
      refine ok_getR (kd_m11_goRound.at 166 rfl) kf11_41 sh_14 rfl (kr_14_24 _) ?_
      refine ok_aload_n 0 (kd_m11_goRound.at 167 rfl) rfl rfl ?_
      refine ok_getI (kd_m11_goRound.at 168 rfl) kf11_269 sh_14 rfl ?_
      refine ok_iconst (v := 1) (kd_m11_goRound.at 169 rfl) (by decide) ?_
      refine ok_isub (kd_m11_goRound.at 170 rfl) ?_
      refine ok_aload_n 0 (kd_m11_goRound.at 171 rfl) rfl rfl ?_
      refine ok_getI (kd_m11_goRound.at 172 rfl) kf11_263 sh_14 rfl ?_
      refine ok_iadd (kd_m11_goRound.at 173 rfl) ?_
      refine ok_topi (fun x36 hx36 => ?_)
      refine ok_iald (kd_m11_goRound.at 174 rfl) sh_64 ?_
      refine ok_icmp_ne (tgt := 315) (kd_m11_goRound.at 175 rfl) (by decide) (fun h37 => ?_) (fun h37 => ?_)
      · refine ok_sub (lv' := []) [] rfl ?_
        exact hk315  S
      · refine ok_aload_n 0 (kd_m11_goRound.at 176 rfl) rfl rfl ?_
        refine ok_dup (kd_m11_goRound.at 177 rfl) rfl ?_
        refine ok_getI (kd_m11_goRound.at 178 rfl) kf11_269 sh_14 rfl ?_
        refine ok_iconst (v := 1) (kd_m11_goRound.at 179 rfl) (by decide) ?_
        refine ok_isub (kd_m11_goRound.at 180 rfl) ?_
        refine ok_putI (kd_m11_goRound.at 181 rfl) kf11_269 sh_14 rfl rfl ?_
        refine ok_nS (fun S38 hS38 => ?_)
        refine ok_goto (tgt := 265) (kd_m11_goRound.at 182 rfl) (by decide) ?_
        exact ih  S38
def f_m11_goRound (a1 : Int32) (S : kSt) : Option kSt :=
  knx (13 + a1) fun x1 =>
  kgi x1 95 (
    knx (fun (x2 : Int32) (S3 : kSt) =>
      f_m11_goRound_L28 
        (fun  (S7 : kSt) =>
          kgi a1 36 (
            knx (S7.1 61 a1.toNatClampNeg) fun x8 =>
            kgz x2 (
              knx ((x8 * 9) + (krem (S7.1 61 35) x2)) fun x9 =>
              f_m11_goRound_L74 
                (fun (x18 : Int32) (x19 : Int32) (S20 : kSt) =>
                  kgi x19 900 (
                    knx (kuI S20 14 26 (S20.1 65 x19.toNatClampNeg)) fun S21 =>
                    knx (kuI S21 14 27 (x18 - (S21.1 14 26))) fun S22 =>
                    f_m11_goRound_L187 
                      (fun  (S27 : kSt) =>
                        knx (kuI S27 14 29 1) fun S28 =>
                        f_m11_goRound_L233 
                          (fun  (S32 : kSt) =>
                            knx (kuI S32 14 28 (S32.1 14 26)) fun S33 =>
                            f_m11_goRound_L265 
                              (fun  (S39 : kSt) =>
                                some S39
                              )
                              kFU S33
                          )
                          kFU S28
                      )
                      kFU x18 S22
                  )
                )
                a1 x2 kFU x8 0 x9 S7
            )
          )
        )
        a1 x2 kFU 0 S3
      ) fun j25 =>
    if (S.1 57 x1.toNatClampNeg) = 0 then
      j25 1 S
    else
      knx (13 + a1) fun x41 =>
      kgi x41 95 (
        j25 (S.1 57 x41.toNatClampNeg) S
      )
  )
theorem ok_m11_goRound {l : Launch} {G : kG} {E : kE} (a1 : Int32)  (S : kSt) : kFn l G E E kjV m11_goRound 4 [.ref 14, .int a1] S (f_m11_goRound a1 S) := by
  unfold f_m11_goRound
  refine kFn_of (by decide +kernel) (fun hG => Nat.le_of_ble_eq_true rfl) ?_
  show kOk _ _ _ _ _ _ _ _ [(0, .ref 14), (1, .int a1)] _ _
  refine ok_aload_n 0 (kd_m11_goRound.at 0 rfl) rfl rfl ?_
  refine ok_getR (kd_m11_goRound.at 1 rfl) kf11_20 sh_14 rfl (kr_14_15 _) ?_
  refine ok_bipush (v := 13) (kd_m11_goRound.at 2 rfl) (by decide) ?_
  refine ok_iload_n 1 (kd_m11_goRound.at 3 rfl) rfl rfl ?_
  refine ok_iadd (kd_m11_goRound.at 4 rfl) ?_
  refine ok_topi (fun x1 hx1 => ?_)
  refine ok_iald (kd_m11_goRound.at 5 rfl) sh_57 ?_
  refine ok_nx (fun j25 hj25 => ?_)
  have K25 : ∀ (x2 : Int32) (S3 : kSt), kOk l G E (kZ G E kjV) m11_goRound (kdp (4)) (j25 x2 S3) 25 [(0, .ref 14), (1, .int a1)] [.int x2] S3 := by
    subst hj25
    intro x2 S3
    refine ok_istore_n (lv' := [(2, .int x2), (0, .ref 14), (1, .int a1)]) (kd_m11_goRound.at 15 rfl) rfl (by decide) rfl ?_
    refine ok_iconst (v := 0) (kd_m11_goRound.at 16 rfl) (by decide) ?_
    refine ok_istore_n (lv' := [(3, .int 0), (2, .int x2), (0, .ref 14), (1, .int a1)]) (kd_m11_goRound.at 17 rfl) rfl (by decide) rfl ?_
    refine ok_sub (lv' := [(0, .ref 14), (1, .int a1), (2, .int x2), (3, .int 0)]) [2, 3, 1, 0] rfl ?_
    refine ok_m11_goRound_L28 a1 x2 _ (fun S7 => ?_) kFU 0 S3
    refine ok_aload_n 0 (kd_m11_goRound.at 28 rfl) rfl rfl ?_
    refine ok_getR (kd_m11_goRound.at 29 rfl) kf11_32 sh_14 rfl (kr_14_19 _) ?_
    refine ok_iload_n 1 (kd_m11_goRound.at 30 rfl) rfl rfl ?_
    refine ok_iald (kd_m11_goRound.at 31 rfl) sh_61 ?_
    refine ok_topi (fun x8 hx8 => ?_)
    refine ok_istore_n (lv' := [(3, .int x8), (0, .ref 14), (1, .int a1), (2, .int x2)]) (kd_m11_goRound.at 32 rfl) rfl (by decide) rfl ?_
    refine ok_iconst (v := 0) (kd_m11_goRound.at 33 rfl) (by decide) ?_
    refine ok_istore (lv' := [(4, .int 0), (3, .int x8), (0, .ref 14), (1, .int a1), (2, .int x2)]) (kd_m11_goRound.at 34 rfl) (by decide) rfl ?_
    refine ok_iload_n 1 (kd_m11_goRound.at 35 rfl) rfl rfl ?_
    refine ok_bipush (v := 9) (kd_m11_goRound.at 36 rfl) (by decide) ?_
    refine ok_imul (kd_m11_goRound.at 37 rfl) ?_
    refine ok_aload_n 2 (kd_m11_goRound.at 38 rfl) rfl rfl ?_
    refine ok_getR (kd_m11_goRound.at 39 rfl) kf11_32 sh_14 rfl (kr_14_19 _) ?_
    refine ok_bipush (v := 35) (kd_m11_goRound.at 40 rfl) (by decide) ?_
    refine ok_ialdK (j := 35) (kd_m11_goRound.at 41 rfl) sh_61 (by decide) (by decide) ?_
    refine ok_iload_n 4 (kd_m11_goRound.at 42 rfl) rfl rfl ?_
    refine ok_iremG (kd_m11_goRound.at 43 rfl) ?_
    refine ok_iadd (kd_m11_goRound.at 44 rfl) ?_
    refine ok_topi (fun x9 hx9 => ?_)
    refine ok_istore (lv' := [(5, .int x9), (4, .int 0), (3, .int x8), (0, .ref 14), (1, .int a1), (2, .int x2)]) (kd_m11_goRound.at 45 rfl) (by decide) rfl ?_
    refine ok_sub (lv' := [(0, .ref 14), (1, .int a1), (2, .int x2), (3, .int x8), (4, .int 0), (5, .int x9)]) [3, 4, 5, 2, 1, 0] rfl ?_
    refine ok_m11_goRound_L74 a1 x2 _ (fun x18 x19 S20 => ?_) kFU x8 0 x9 S7
    refine ok_aload_n 0 (kd_m11_goRound.at 100 rfl) rfl rfl ?_
    refine ok_aload_n 0 (kd_m11_goRound.at 101 rfl) rfl rfl ?_
    refine ok_getR (kd_m11_goRound.at 102 rfl) kf11_44 sh_14 rfl (kr_14_25 _) ?_
    refine ok_iload 2 (kd_m11_goRound.at 103 rfl) rfl ?_
    refine ok_iald (kd_m11_goRound.at 104 rfl) sh_65 ?_
    refine ok_putI (kd_m11_goRound.at 105 rfl) kf11_257 sh_14 rfl rfl ?_
    refine ok_nS (fun S21 hS21 => ?_)
    refine ok_aload_n 0 (kd_m11_goRound.at 106 rfl) rfl rfl ?_
    refine ok_iload 1 (kd_m11_goRound.at 107 rfl) rfl ?_
    refine ok_aload_n 0 (kd_m11_goRound.at 108 rfl) rfl rfl ?_
    refine ok_getI (kd_m11_goRound.at 109 rfl) kf11_257 sh_14 rfl ?_
    refine ok_isub (kd_m11_goRound.at 110 rfl) ?_
    refine ok_putI (kd_m11_goRound.at 111 rfl) kf11_260 sh_14 rfl rfl ?_
    refine ok_nS (fun S22 hS22 => ?_)
    refine ok_iload 1 (kd_m11_goRound.at 112 rfl) rfl ?_
    refine ok_istore (lv' := [(6, .int x18), (0, .ref 14), (4, .int x18), (5, .int x19)]) (kd_m11_goRound.at 113 rfl) (by decide) rfl ?_
    refine ok_sub (lv' := [(0, .ref 14), (6, .int x18)]) [1, 0] rfl ?_
    refine ok_m11_goRound_L187 _ (fun S27 => ?_) kFU x18 S22
    refine ok_aload_n 0 (kd_m11_goRound.at 136 rfl) rfl rfl ?_
    refine ok_iconst (v := 1) (kd_m11_goRound.at 137 rfl) (by decide) ?_
    refine ok_putI (kd_m11_goRound.at 138 rfl) kf11_263 sh_14 rfl rfl ?_
    refine ok_nS (fun S28 hS28 => ?_)
    refine ok_m11_goRound_L233 _ (fun S32 => ?_) kFU S28
    refine ok_aload_n 0 (kd_m11_goRound.at 151 rfl) rfl rfl ?_
    refine ok_aload_n 0 (kd_m11_goRound.at 152 rfl) rfl rfl ?_
    refine ok_getI (kd_m11_goRound.at 153 rfl) kf11_257 sh_14 rfl ?_
    refine ok_putI (kd_m11_goRound.at 154 rfl) kf11_269 sh_14 rfl rfl ?_
    refine ok_nS (fun S33 hS33 => ?_)
    refine ok_m11_goRound_L265 _ (fun S39 => ?_) kFU S33
    exact ok_return (kd_m11_goRound.at 183 rfl) rfl
  clear hj25
  refine ok_if_ne (tgt := 16) (kd_m11_goRound.at 6 rfl) (by decide) (fun h40 => ?_) (fun h40 => ?_)
  · refine ok_aload_n 0 (kd_m11_goRound.at 9 rfl) rfl rfl ?_
    refine ok_getR (kd_m11_goRound.at 10 rfl) kf11_20 sh_14 rfl (kr_14_15 _) ?_
    refine ok_bipush (v := 13) (kd_m11_goRound.at 11 rfl) (by decide) ?_
    refine ok_iload_n 1 (kd_m11_goRound.at 12 rfl) rfl rfl ?_
    refine ok_iadd (kd_m11_goRound.at 13 rfl) ?_
    refine ok_topi (fun x41 hx41 => ?_)
    refine ok_iald (kd_m11_goRound.at 14 rfl) sh_57 ?_
    exact K25 (S.1 57 x41.toNatClampNeg) S
  · refine ok_iconst (v := 1) (kd_m11_goRound.at 7 rfl) (by decide) ?_
    refine ok_goto (tgt := 25) (kd_m11_goRound.at 8 rfl) (by decide) ?_
    exact K25 1 S
