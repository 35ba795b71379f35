def f_m10_season  (S : kSt) : Option (Int32 × kSt) :=
  kgb (S.1 0 5) fun b1 =>
  (f_m10_may_ b1 S).bind fun q2 =>
  if q2.1 then
    if (q2.2.1 4 0) < 999 then
      (f_m3_keep  q2.2).bind fun q5 =>
      (f_m10_sayAllBehind 1 q5).bind fun q6 =>
      knx (q6.1 1 2) fun x8 =>
      kgc 0 0 x8 5 5 (
        knx (kcp q6 16 40 (0 : Int32).toNatClampNeg (0 : Int32).toNatClampNeg (x8 : Int32).toNatClampNeg) fun S7 =>
        knx (kuI S7 4 0 ((S7.1 4 0) + 1)) fun S9 =>
        (f_m10_bitsOfMore 40 S9).bind fun q10 =>
        some (q10.1, q10.2)
      )
    else
      (f_m10_refuse 3 q2.2).bind fun q11 =>
      some (q11.1, q11.2)
  else
    some ((-1), q2.2)
theorem ok_m10_season {l : Launch} {G : kG} {E : kE}   (S : kSt) : kFn l G E E kjI m10_season 6 [.ref 0] S (f_m10_season  S) := by
  unfold f_m10_season
  refine kFn_of (by decide +kernel) (fun hG => Nat.le_of_ble_eq_true rfl) ?_
  show kOk _ _ _ _ _ _ _ _ [(0, .ref 0)] _ _
  refine ok_aload_n 0 (kd_m10_season.at 0 rfl) rfl rfl ?_
  refine ok_aload_n 0 (kd_m10_season.at 1 rfl) rfl rfl ?_
  refine ok_getZ (kd_m10_season.at 2 rfl) kf10_108 sh_0 rfl (fun b1 => ?_)
  refine ok_callVB (M' := m10_may_) (as := [.int (kb b1)]) (st := []) (kd_m10_season.at 3 rfl) kc10_154 sh_0 rfl rfl (by decide) (ok_m10_may_ b1 S) (kfit_of (by decide)) rfl (Nat.le_of_ble_eq_true rfl) (fun q2 hq2 => ?_)
  refine ok_ifb_ne (tgt := 13) (kd_m10_season.at 4 rfl) (by decide) (fun h3 => ?_) (fun h3 => ?_)
  · refine ok_aload_n 0 (kd_m10_season.at 7 rfl) rfl rfl ?_
    refine ok_getR (kd_m10_season.at 8 rfl) kf10_35 sh_0 rfl (kr_0_6 _) ?_
    refine ok_getI (kd_m10_season.at 9 rfl) kf10_383 sh_4 rfl ?_
    refine ok_sipush (v := 999) (kd_m10_season.at 10 rfl) (by decide) ?_
    refine ok_icmp_lt (tgt := 32) (kd_m10_season.at 11 rfl) (by decide) (fun h4 => ?_) (fun h4 => ?_)
    · refine ok_aload_n 0 (kd_m10_season.at 16 rfl) rfl rfl ?_
      refine ok_getR (kd_m10_season.at 17 rfl) kf10_42 sh_0 rfl (kr_0_7 _) ?_
      refine ok_aload_n 0 (kd_m10_season.at 18 rfl) rfl rfl ?_
      refine ok_getR (kd_m10_season.at 19 rfl) kf10_35 sh_0 rfl (kr_0_6 _) ?_
      refine ok_callVV (M' := m3_keep) (as := [.ref 4]) (st := []) (kd_m10_season.at 20 rfl) kc10_386 sh_5 rfl rfl (by decide) (ok_m3_keep  q2.2) (kfit_of (by decide)) rfl (Nat.le_of_ble_eq_true rfl) (fun q5 hq5 => ?_)
      refine ok_aload_n 0 (kd_m10_season.at 21 rfl) rfl rfl ?_
      refine ok_iconst (v := 1) (kd_m10_season.at 22 rfl) (by decide) ?_
      refine ok_callVV (M' := m10_sayAllBehind) (as := [.int 1]) (st := []) (kd_m10_season.at 23 rfl) kc10_224 sh_0 rfl rfl (by decide) (ok_m10_sayAllBehind 1 q5) (kfit_of (by decide)) rfl (Nat.le_of_ble_eq_true rfl) (fun q6 hq6 => ?_)
      refine ok_aload_n 0 (kd_m10_season.at 24 rfl) rfl rfl ?_
      refine ok_getR (kd_m10_season.at 25 rfl) kf10_61 sh_0 rfl (kr_0_12 _) ?_
      refine ok_iconst (v := 0) (kd_m10_season.at 26 rfl) (by decide) ?_
      refine ok_aload_n 0 (kd_m10_season.at 27 rfl) rfl rfl ?_
      refine ok_getR (kd_m10_season.at 28 rfl) kf10_35 sh_0 rfl (kr_0_6 _) ?_
      refine ok_getR (kd_m10_season.at 29 rfl) kf10_157 sh_4 rfl (kr_4_1 _) ?_
      refine ok_iconst (v := 0) (kd_m10_season.at 30 rfl) (by decide) ?_
      refine ok_aload_n 0 (kd_m10_season.at 31 rfl) rfl rfl ?_
      refine ok_getR (kd_m10_season.at 32 rfl) kf10_16 sh_0 rfl (kr_0_2 _) ?_
      refine ok_getI (kd_m10_season.at 33 rfl) kf10_112 sh_1 rfl ?_
      refine ok_topi (fun x8 hx8 => ?_)
      refine ok_acopy (kd_m10_season.at 34 rfl) kac_10_390 kac2 kac3 kac4 sh_16 sh_40 (kfit_of (by decide)) (Nat.le_of_ble_eq_true rfl) ?_
      refine ok_nS (fun S7 hS7 => ?_)
      refine ok_aload_n 0 (kd_m10_season.at 35 rfl) rfl rfl ?_
      refine ok_getR (kd_m10_season.at 36 rfl) kf10_35 sh_0 rfl (kr_0_6 _) ?_
      refine ok_dup (kd_m10_season.at 37 rfl) rfl ?_
      refine ok_getI (kd_m10_season.at 38 rfl) kf10_383 sh_4 rfl ?_
      refine ok_iconst (v := 1) (kd_m10_season.at 39 rfl) (by decide) ?_
      refine ok_iadd (kd_m10_season.at 40 rfl) ?_
      refine ok_putI (kd_m10_season.at 41 rfl) kf10_383 sh_4 rfl rfl ?_
      refine ok_nS (fun S9 hS9 => ?_)
      refine ok_aload_n 0 (kd_m10_season.at 42 rfl) rfl rfl ?_
      refine ok_aload_n 0 (kd_m10_season.at 43 rfl) rfl rfl ?_
      refine ok_getR (kd_m10_season.at 44 rfl) kf10_35 sh_0 rfl (kr_0_6 _) ?_
      refine ok_getR (kd_m10_season.at 45 rfl) kf10_157 sh_4 rfl (kr_4_1 _) ?_
      refine ok_callVI (M' := m10_bitsOfMore) (as := [.ref 40]) (st := []) (kd_m10_season.at 46 rfl) kc10_236 sh_0 rfl rfl (by decide) (ok_m10_bitsOfMore 40 sh_40 S9) (kfit_of (by decide)) rfl (Nat.le_of_ble_eq_true rfl) (fun q10 hq10 => ?_)
      exact ok_ireturn (kd_m10_season.at 47 rfl) rfl
    · refine ok_aload_n 0 (kd_m10_season.at 12 rfl) rfl rfl ?_
      refine ok_iconst (v := 3) (kd_m10_season.at 13 rfl) (by decide) ?_
      refine ok_callVI (M' := m10_refuse) (as := [.int 3]) (st := []) (kd_m10_season.at 14 rfl) kc10_130 sh_0 rfl rfl (by decide) (ok_m10_refuse 3 q2.2) (kfit_of (by decide)) rfl (Nat.le_of_ble_eq_true rfl) (fun q11 hq11 => ?_)
      exact ok_ireturn (kd_m10_season.at 15 rfl) rfl
  · refine ok_iconst (v := (-1)) (kd_m10_season.at 5 rfl) (by decide) ?_
    exact ok_ireturn (kd_m10_season.at 6 rfl) rfl
def f_m10_change (a1 : Int32) (S : kSt) : Option (Int32 × kSt) :=
  (f_m10_isPair a1 S).bind fun q1 =>
  (f_m10_may_ q1.1 q1.2).bind fun q2 =>
  if q2.1 then
    kgi a1 5 (
      knx ((q2.2.1 1 0) - (q2.2.1 40 a1.toNatClampNeg)) fun x4 =>
      kgi a1 5 (
        if x4 = (q2.2.1 40 a1.toNatClampNeg) then
          (f_m10_refuse 5 q2.2).bind fun q8 =>
          some (q8.1, q8.2)
        else
          (f_m3_keep  q2.2).bind fun q6 =>
          kgi a1 5 (
            knx (kuI q6 40 a1.toNatClampNeg x4) fun S7 =>
            some (x4, S7)
          )
      )
    )
  else
    some ((-1), q2.2)
theorem ok_m10_change {l : Launch} {G : kG} {E : kE} (a1 : Int32)  (S : kSt) : kFn l G E E kjI m10_change 3 [.ref 0, .int a1] S (f_m10_change a1 S) := by
  unfold f_m10_change
  refine kFn_of (by decide +kernel) (fun hG => Nat.le_of_ble_eq_true rfl) ?_
  show kOk _ _ _ _ _ _ _ _ [(0, .ref 0), (1, .int a1)] _ _
  refine ok_aload_n 0 (kd_m10_change.at 0 rfl) rfl rfl ?_
  refine ok_aload_n 0 (kd_m10_change.at 1 rfl) rfl rfl ?_
  refine ok_iload_n 1 (kd_m10_change.at 2 rfl) rfl rfl ?_
  refine ok_callVB (M' := m10_isPair) (as := [.int a1]) (st := [.ref 0]) (kd_m10_change.at 3 rfl) kc10_115 sh_0 rfl rfl (by decide) (ok_m10_isPair a1 S) (kfit_of (by decide)) rfl (Nat.le_of_ble_eq_true rfl) (fun q1 hq1 => ?_)
  refine ok_callVB (M' := m10_may_) (as := [.int (kb q1.1)]) (st := []) (kd_m10_change.at 4 rfl) kc10_154 sh_0 rfl rfl (by decide) (ok_m10_may_ q1.1 q1.2) (kfit_of (by decide)) rfl (Nat.le_of_ble_eq_true rfl) (fun q2 hq2 => ?_)
  refine ok_ifb_ne (tgt := 14) (kd_m10_change.at 5 rfl) (by decide) (fun h3 => ?_) (fun h3 => ?_)
  · refine ok_aload_n 0 (kd_m10_change.at 8 rfl) rfl rfl ?_
    refine ok_getR (kd_m10_change.at 9 rfl) kf10_16 sh_0 rfl (kr_0_2 _) ?_
    refine ok_getI (kd_m10_change.at 10 rfl) kf10_163 sh_1 rfl ?_
    refine ok_aload_n 0 (kd_m10_change.at 11 rfl) rfl rfl ?_
    refine ok_getR (kd_m10_change.at 12 rfl) kf10_35 sh_0 rfl (kr_0_6 _) ?_
    refine ok_getR (kd_m10_change.at 13 rfl) kf10_157 sh_4 rfl (kr_4_1 _) ?_
    refine ok_iload_n 1 (kd_m10_change.at 14 rfl) rfl rfl ?_
    refine ok_iald (kd_m10_change.at 15 rfl) sh_40 ?_
    refine ok_isub (kd_m10_change.at 16 rfl) ?_
    refine ok_topi (fun x4 hx4 => ?_)
    refine ok_istore_n (lv' := [(2, .int x4), (0, .ref 0), (1, .int a1)]) (kd_m10_change.at 17 rfl) rfl (by decide) rfl ?_
    refine ok_iload_n 0 (kd_m10_change.at 18 rfl) rfl rfl ?_
    refine ok_aload_n 1 (kd_m10_change.at 19 rfl) rfl rfl ?_
    refine ok_getR (kd_m10_change.at 20 rfl) kf10_35 sh_0 rfl (kr_0_6 _) ?_
    refine ok_getR (kd_m10_change.at 21 rfl) kf10_157 sh_4 rfl (kr_4_1 _) ?_
    refine ok_iload_n 2 (kd_m10_change.at 22 rfl) rfl rfl ?_
    refine ok_iald (kd_m10_change.at 23 rfl) sh_40 ?_
    refine ok_icmp_ne (tgt := 51) (kd_m10_change.at 24 rfl) (by decide) (fun h5 => ?_) (fun h5 => ?_)
    · refine ok_aload_n 1 (kd_m10_change.at 29 rfl) rfl rfl ?_
      refine ok_getR (kd_m10_change.at 30 rfl) kf10_42 sh_0 rfl (kr_0_7 _) ?_
      refine ok_aload_n 1 (kd_m10_change.at 31 rfl) rfl rfl ?_
      refine ok_getR (kd_m10_change.at 32 rfl) kf10_35 sh_0 rfl (kr_0_6 _) ?_
      refine ok_callVV (M' := m3_keep) (as := [.ref 4]) (st := []) (kd_m10_change.at 33 rfl) kc10_386 sh_5 rfl rfl (by decide) (ok_m3_keep  q2.2) (kfit_of (by decide)) rfl (Nat.le_of_ble_eq_true rfl) (fun q6 hq6 => ?_)
      refine ok_aload_n 1 (kd_m10_change.at 34 rfl) rfl rfl ?_
      refine ok_getR (kd_m10_change.at 35 rfl) kf10_35 sh_0 rfl (kr_0_6 _) ?_
      refine ok_getR (kd_m10_change.at 36 rfl) kf10_157 sh_4 rfl (kr_4_1 _) ?_
      refine ok_iload_n 2 (kd_m10_change.at 37 rfl) rfl rfl ?_
      refine ok_iload_n 0 (kd_m10_change.at 38 rfl) rfl rfl ?_
      refine ok_iast (kd_m10_change.at 39 rfl) sh_40 ?_
      refine ok_nS (fun S7 hS7 => ?_)
      refine ok_iload_n 0 (kd_m10_change.at 40 rfl) rfl rfl ?_
      exact ok_ireturn (kd_m10_change.at 41 rfl) rfl
    · refine ok_aload_n 1 (kd_m10_change.at 25 rfl) rfl rfl ?_
      refine ok_iconst (v := 5) (kd_m10_change.at 26 rfl) (by decide) ?_
      refine ok_callVI (M' := m10_refuse) (as := [.int 5]) (st := []) (kd_m10_change.at 27 rfl) kc10_130 sh_0 rfl rfl (by decide) (ok_m10_refuse 5 q2.2) (kfit_of (by decide)) rfl (Nat.le_of_ble_eq_true rfl) (fun q8 hq8 => ?_)
      exact ok_ireturn (kd_m10_change.at 28 rfl) rfl
  · refine ok_iconst (v := (-1)) (kd_m10_change.at 6 rfl) (by decide) ?_
    exact ok_ireturn (kd_m10_change.at 7 rfl) rfl
def f_m10_step (a1 : Int32) (a2 : Int32) (S : kSt) : Option (Bool × kSt) :=
  (f_m10_isPair a1 S).bind fun q1 =>
  (f_m10_upTo a2 20 q1.2).bind fun q2 =>
  (f_m10_may q1.1 q2.1 q2.2).bind fun q3 =>
  if q3.1 then
    kgi a1 5 (
      if (q3.2.1 41 a1.toNatClampNeg) = a2 then
        (f_m10_deny 5 q3.2).bind fun q8 =>
        some (q8.1, q8.2)
      else
        (f_m3_keep  q3.2).bind fun q6 =>
        kgi a1 5 (
          knx (kuI q6 41 a1.toNatClampNeg a2) fun S7 =>
          some (true, S7)
        )
    )
  else
    some (false, q3.2)
theorem ok_m10_step {l : Launch} {G : kG} {E : kE} (a1 : Int32) (a2 : Int32)  (S : kSt) : kFn l G E E kjB m10_step 3 [.ref 0, .int a1, .int a2] S (f_m10_step a1 a2 S) := by
  unfold f_m10_step
  refine kFn_of (by decide +kernel) (fun hG => Nat.le_of_ble_eq_true rfl) ?_
  show kOk _ _ _ _ _ _ _ _ [(0, .ref 0), (1, .int a1), (2, .int a2)] _ _
  refine ok_aload_n 0 (kd_m10_step.at 0 rfl) rfl rfl ?_
  refine ok_aload_n 0 (kd_m10_step.at 1 rfl) rfl rfl ?_
  refine ok_iload_n 1 (kd_m10_step.at 2 rfl) rfl rfl ?_
  refine ok_callVB (M' := m10_isPair) (as := [.int a1]) (st := [.ref 0]) (kd_m10_step.at 3 rfl) kc10_115 sh_0 rfl rfl (by decide) (ok_m10_isPair a1 S) (kfit_of (by decide)) rfl (Nat.le_of_ble_eq_true rfl) (fun q1 hq1 => ?_)
  refine ok_iload_n 2 (kd_m10_step.at 4 rfl) rfl rfl ?_
  refine ok_bipush (v := 20) (kd_m10_step.at 5 rfl) (by decide) ?_
  refine ok_callSB (M' := m10_upTo) (as := [.int a2, .int 20]) (st := [.int (kb q1.1), .ref 0]) (kd_m10_step.at 6 rfl) kc10_126  rfl (by decide) (ok_m10_upTo a2 20 q1.2) (kfit_of (by decide)) rfl (Nat.le_of_ble_eq_true rfl) (fun q2 hq2 => ?_)
  refine ok_callVB (M' := m10_may) (as := [.int (kb q1.1), .int (kb q2.1)]) (st := []) (kd_m10_step.at 7 rfl) kc10_104 sh_0 rfl rfl (by decide) (ok_m10_may q1.1 q2.1 q2.2) (kfit_of (by decide)) rfl (Nat.le_of_ble_eq_true rfl) (fun q3 hq3 => ?_)
  refine ok_ifb_ne (tgt := 20) (kd_m10_step.at 8 rfl) (by decide) (fun h4 => ?_) (fun h4 => ?_)
  · refine ok_aload_n 0 (kd_m10_step.at 11 rfl) rfl rfl ?_
    refine ok_getR (kd_m10_step.at 12 rfl) kf10_35 sh_0 rfl (kr_0_6 _) ?_
    refine ok_getR (kd_m10_step.at 13 rfl) kf10_166 sh_4 rfl (kr_4_2 _) ?_
    refine ok_iload_n 1 (kd_m10_step.at 14 rfl) rfl rfl ?_
    refine ok_iald (kd_m10_step.at 15 rfl) sh_41 ?_
    refine ok_iload_n 2 (kd_m10_step.at 16 rfl) rfl rfl ?_
    refine ok_icmp_ne (tgt := 39) (kd_m10_step.at 17 rfl) (by decide) (fun h5 => ?_) (fun h5 => ?_)
    · refine ok_aload_n 0 (kd_m10_step.at 22 rfl) rfl rfl ?_
      refine ok_getR (kd_m10_step.at 23 rfl) kf10_42 sh_0 rfl (kr_0_7 _) ?_
      refine ok_aload_n 0 (kd_m10_step.at 24 rfl) rfl rfl ?_
      refine ok_getR (kd_m10_step.at 25 rfl) kf10_35 sh_0 rfl (kr_0_6 _) ?_
      refine ok_callVV (M' := m3_keep) (as := [.ref 4]) (st := []) (kd_m10_step.at 26 rfl) kc10_386 sh_5 rfl rfl (by decide) (ok_m3_keep  q3.2) (kfit_of (by decide)) rfl (Nat.le_of_ble_eq_true rfl) (fun q6 hq6 => ?_)
      refine ok_aload_n 0 (kd_m10_step.at 27 rfl) rfl rfl ?_
      refine ok_getR (kd_m10_step.at 28 rfl) kf10_35 sh_0 rfl (kr_0_6 _) ?_
      refine ok_getR (kd_m10_step.at 29 rfl) kf10_166 sh_4 rfl (kr_4_2 _) ?_
      refine ok_iload_n 1 (kd_m10_step.at 30 rfl) rfl rfl ?_
      refine ok_iload_n 2 (kd_m10_step.at 31 rfl) rfl rfl ?_
      refine ok_iast (kd_m10_step.at 32 rfl) sh_41 ?_
      refine ok_nS (fun S7 hS7 => ?_)
      refine ok_iconst (v := 1) (kd_m10_step.at 33 rfl) (by decide) ?_
      exact ok_zreturn (x := true) (kd_m10_step.at 34 rfl) rfl
    · refine ok_aload_n 0 (kd_m10_step.at 18 rfl) rfl rfl ?_
      refine ok_iconst (v := 5) (kd_m10_step.at 19 rfl) (by decide) ?_
      refine ok_callVB (M' := m10_deny) (as := [.int 5]) (st := []) (kd_m10_step.at 20 rfl) kc10_396 sh_0 rfl rfl (by decide) (ok_m10_deny 5 q3.2) (kfit_of (by decide)) rfl (Nat.le_of_ble_eq_true rfl) (fun q8 hq8 => ?_)
      exact ok_zreturn (x := q8.1) (kd_m10_step.at 21 rfl) rfl
  · refine ok_iconst (v := 0) (kd_m10_step.at 9 rfl) (by decide) ?_
    exact ok_zreturn (x := false) (kd_m10_step.at 10 rfl) rfl
def f_m10_pay (a1 : Int32) (a2 : Int32) (a3 : Int32) (S : kSt) : Option (Int32 × kSt) :=
  (f_m10_areUnlike a1 a2 S).bind fun q1 =>
  knx (if a3 < 1 then false else (if 99 < a3 then false else true)) fun x4 =>
  (f_m10_may q1.1 x4 q1.2).bind fun q5 =>
  if q5.1 then
    knx ((a1 * 5) + a2) fun x7 =>
    kgi x7 25 (
      if a3 ≤ (q5.2.1 42 x7.toNatClampNeg) then
        (f_m3_keep  q5.2).bind fun q9 =>
        kgi x7 25 (
          kgi x7 25 (
            knx (kuI q9 42 x7.toNatClampNeg ((q9.1 42 x7.toNatClampNeg) - a3)) fun S10 =>
            kgi x7 25 (
              some (S10.1 42 x7.toNatClampNeg, S10)
            )
          )
        )
      else
        (f_m10_refuse 5 q5.2).bind fun q11 =>
        some (q11.1, q11.2)
    )
  else
    some ((-1), q5.2)
theorem ok_m10_pay {l : Launch} {G : kG} {E : kE} (a1 : Int32) (a2 : Int32) (a3 : Int32)  (S : kSt) : kFn l G E E kjI m10_pay 3 [.ref 0, .int a1, .int a2, .int a3] S (f_m10_pay a1 a2 a3 S) := by
  unfold f_m10_pay
  refine kFn_of (by decide +kernel) (fun hG => Nat.le_of_ble_eq_true rfl) ?_
  show kOk _ _ _ _ _ _ _ _ [(0, .ref 0), (1, .int a1), (2, .int a2), (3, .int a3)] _ _
  refine ok_aload_n 0 (kd_m10_pay.at 0 rfl) rfl rfl ?_
  refine ok_aload_n 0 (kd_m10_pay.at 1 rfl) rfl rfl ?_
  refine ok_iload_n 1 (kd_m10_pay.at 2 rfl) rfl rfl ?_
  refine ok_iload_n 2 (kd_m10_pay.at 3 rfl) rfl rfl ?_
  refine ok_callVB (M' := m10_areUnlike) (as := [.int a1, .int a2]) (st := [.ref 0]) (kd_m10_pay.at 4 rfl) kc10_221 sh_0 rfl rfl (by decide) (ok_m10_areUnlike a1 a2 S) (kfit_of (by decide)) rfl (Nat.le_of_ble_eq_true rfl) (fun q1 hq1 => ?_)
  refine ok_iload_n 3 (kd_m10_pay.at 5 rfl) rfl rfl ?_
  refine ok_iconst (v := 1) (kd_m10_pay.at 6 rfl) (by decide) ?_
  refine ok_fold (α := Bool) (pcJ := 23) (lvJ := [(0, .ref 0), (1, .int a1), (2, .int a2), (3, .int a3)]) (stJ := [.int (kb q1.1), .ref 0]) (mk := fun v => .int (kb v)) (fun K => ?_) (fun x4 => ?_)
  · refine ok_ap ?_
    refine ok_icmp_lt (tgt := 22) (kd_m10_pay.at 7 rfl) (by decide) (fun h3 => ?_) (fun h3 => ?_)
    · refine ok_iconst (v := 0) (kd_m10_pay.at 13 rfl) (by decide) ?_
      exact K false
    · refine ok_iload_n 3 (kd_m10_pay.at 8 rfl) rfl rfl ?_
      refine ok_bipush (v := 99) (kd_m10_pay.at 9 rfl) (by decide) ?_
      refine ok_ap ?_
      refine ok_icmp_gt (tgt := 22) (kd_m10_pay.at 10 rfl) (by decide) (fun h2 => ?_) (fun h2 => ?_)
      · refine ok_iconst (v := 0) (kd_m10_pay.at 13 rfl) (by decide) ?_
        exact K false
      · refine ok_iconst (v := 1) (kd_m10_pay.at 11 rfl) (by decide) ?_
        refine ok_goto (tgt := 23) (kd_m10_pay.at 12 rfl) (by decide) ?_
        exact K true
  · refine ok_callVB (M' := m10_may) (as := [.int (kb q1.1), .int (kb x4)]) (st := []) (kd_m10_pay.at 14 rfl) kc10_104 sh_0 rfl rfl (by decide) (ok_m10_may q1.1 x4 q1.2) (kfit_of (by decide)) rfl (Nat.le_of_ble_eq_true rfl) (fun q5 hq5 => ?_)
    refine ok_ifb_ne (tgt := 31) (kd_m10_pay.at 15 rfl) (by decide) (fun h6 => ?_) (fun h6 => ?_)
    · refine ok_iload_n 1 (kd_m10_pay.at 18 rfl) rfl rfl ?_
      refine ok_iconst (v := 5) (kd_m10_pay.at 19 rfl) (by decide) ?_
      refine ok_imul (kd_m10_pay.at 20 rfl) ?_
      refine ok_iload_n 2 (kd_m10_pay.at 21 rfl) rfl rfl ?_
      refine ok_iadd (kd_m10_pay.at 22 rfl) ?_
      refine ok_topi (fun x7 hx7 => ?_)
      refine ok_istore (lv' := [(4, .int x7), (0, .ref 0), (1, .int a1), (2, .int a2), (3, .int a3)]) (kd_m10_pay.at 23 rfl) (by decide) rfl ?_
      refine ok_iload_n 4 (kd_m10_pay.at 24 rfl) rfl rfl ?_
      refine ok_aload_n 1 (kd_m10_pay.at 25 rfl) rfl rfl ?_
      refine ok_getR (kd_m10_pay.at 26 rfl) kf10_35 sh_0 rfl (kr_0_6 _) ?_
      refine ok_getR (kd_m10_pay.at 27 rfl) kf10_299 sh_4 rfl (kr_4_3 _) ?_
      refine ok_iload 0 (kd_m10_pay.at 28 rfl) rfl ?_
      refine ok_iald (kd_m10_pay.at 29 rfl) sh_42 ?_
      refine ok_icmp_le (tgt := 58) (kd_m10_pay.at 30 rfl) (by decide) (fun h8 => ?_) (fun h8 => ?_)
      · refine ok_aload_n 1 (kd_m10_pay.at 35 rfl) rfl rfl ?_
        refine ok_getR (kd_m10_pay.at 36 rfl) kf10_42 sh_0 rfl (kr_0_7 _) ?_
        refine ok_aload_n 1 (kd_m10_pay.at 37 rfl) rfl rfl ?_
        refine ok_getR (kd_m10_pay.at 38 rfl) kf10_35 sh_0 rfl (kr_0_6 _) ?_
        refine ok_callVV (M' := m3_keep) (as := [.ref 4]) (st := []) (kd_m10_pay.at 39 rfl) kc10_386 sh_5 rfl rfl (by decide) (ok_m3_keep  q5.2) (kfit_of (by decide)) rfl (Nat.le_of_ble_eq_true rfl) (fun q9 hq9 => ?_)
        refine ok_aload_n 1 (kd_m10_pay.at 40 rfl) rfl rfl ?_
        refine ok_getR (kd_m10_pay.at 41 rfl) kf10_35 sh_0 rfl (kr_0_6 _) ?_
        refine ok_getR (kd_m10_pay.at 42 rfl) kf10_299 sh_4 rfl (kr_4_3 _) ?_
        refine ok_iload 0 (kd_m10_pay.at 43 rfl) rfl ?_
        refine ok_dup2 (kd_m10_pay.at 44 rfl) rfl rfl ?_
        refine ok_iald (kd_m10_pay.at 45 rfl) sh_42 ?_
        refine ok_iload_n 4 (kd_m10_pay.at 46 rfl) rfl rfl ?_
        refine ok_isub (kd_m10_pay.at 47 rfl) ?_
        refine ok_iast (kd_m10_pay.at 48 rfl) sh_42 ?_
        refine ok_nS (fun S10 hS10 => ?_)
        refine ok_aload_n 1 (kd_m10_pay.at 49 rfl) rfl rfl ?_
        refine ok_getR (kd_m10_pay.at 50 rfl) kf10_35 sh_0 rfl (kr_0_6 _) ?_
        refine ok_getR (kd_m10_pay.at 51 rfl) kf10_299 sh_4 rfl (kr_4_3 _) ?_
        refine ok_iload 0 (kd_m10_pay.at 52 rfl) rfl ?_
        refine ok_iald (kd_m10_pay.at 53 rfl) sh_42 ?_
        exact ok_ireturn (kd_m10_pay.at 54 rfl) rfl
      · refine ok_aload_n 1 (kd_m10_pay.at 31 rfl) rfl rfl ?_
        refine ok_iconst (v := 5) (kd_m10_pay.at 32 rfl) (by decide) ?_
        refine ok_callVI (M' := m10_refuse) (as := [.int 5]) (st := []) (kd_m10_pay.at 33 rfl) kc10_130 sh_0 rfl rfl (by decide) (ok_m10_refuse 5 q5.2) (kfit_of (by decide)) rfl (Nat.le_of_ble_eq_true rfl) (fun q11 hq11 => ?_)
        exact ok_ireturn (kd_m10_pay.at 34 rfl) rfl
    · refine ok_iconst (v := (-1)) (kd_m10_pay.at 16 rfl) (by decide) ?_
      exact ok_ireturn (kd_m10_pay.at 17 rfl) rfl
def f_m10_undo  (S : kSt) : Option (Bool × kSt) :=
  if (S.1 5 2) = 0 then
    (f_m10_deny 6 S).bind fun q4 =>
    some (q4.1, q4.2)
  else
    (f_m3_takeBack  S).bind fun q2 =>
    knx (kuI q2 0 18 0) fun S3 =>
    some (true, S3)
theorem ok_m10_undo {l : Launch} {G : kG} {E : kE}   (S : kSt) : kFn l G E E kjB m10_undo 3 [.ref 0] S (f_m10_undo  S) := by
  unfold f_m10_undo
  refine kFn_of (by decide +kernel) (fun hG => Nat.le_of_ble_eq_true rfl) ?_
  show kOk _ _ _ _ _ _ _ _ [(0, .ref 0)] _ _
  refine ok_aload_n 0 (kd_m10_undo.at 0 rfl) rfl rfl ?_
  refine ok_getR (kd_m10_undo.at 1 rfl) kf10_42 sh_0 rfl (kr_0_7 _) ?_
  refine ok_getI (kd_m10_undo.at 2 rfl) kf10_399 sh_5 rfl ?_
  refine ok_if_ne (tgt := 17) (kd_m10_undo.at 3 rfl) (by decide) (fun h1 => ?_) (fun h1 => ?_)
  · refine ok_aload_n 0 (kd_m10_undo.at 8 rfl) rfl rfl ?_
    refine ok_getR (kd_m10_undo.at 9 rfl) kf10_42 sh_0 rfl (kr_0_7 _) ?_
    refine ok_aload_n 0 (kd_m10_undo.at 10 rfl) rfl rfl ?_
    refine ok_getR (kd_m10_undo.at 11 rfl) kf10_35 sh_0 rfl (kr_0_6 _) ?_
    refine ok_callVV (M' := m3_takeBack) (as := [.ref 4]) (st := []) (kd_m10_undo.at 12 rfl) kc10_400 sh_5 rfl rfl (by decide) (ok_m3_takeBack  S) (kfit_of (by decide)) rfl (Nat.le_of_ble_eq_true rfl) (fun q2 hq2 => ?_)
    refine ok_aload_n 0 (kd_m10_undo.at 13 rfl) rfl rfl ?_
    refine ok_iconst (v := 0) (kd_m10_undo.at 14 rfl) (by decide) ?_
    refine ok_putI (kd_m10_undo.at 15 rfl) kf10_100 sh_0 rfl rfl ?_
    refine ok_nS (fun S3 hS3 => ?_)
    refine ok_iconst (v := 1) (kd_m10_undo.at 16 rfl) (by decide) ?_
    exact ok_zreturn (x := true) (kd_m10_undo.at 17 rfl) rfl
  · refine ok_aload_n 0 (kd_m10_undo.at 4 rfl) rfl rfl ?_
    refine ok_bipush (v := 6) (kd_m10_undo.at 5 rfl) (by decide) ?_
    refine ok_callVB (M' := m10_deny) (as := [.int 6]) (st := []) (kd_m10_undo.at 6 rfl) kc10_396 sh_0 rfl rfl (by decide) (ok_m10_deny 6 S) (kfit_of (by decide)) rfl (Nat.le_of_ble_eq_true rfl) (fun q4 hq4 => ?_)
    exact ok_zreturn (x := q4.1) (kd_m10_undo.at 7 rfl) rfl
def f_m10_image  (S : kSt) : Option (Int32 × kSt) :=
  kgb (S.1 0 5) fun b1 =>
  (f_m10_may_ b1 S).bind fun q2 =>
  if q2.1 then
    if (q2.2.1 0 9) < 3 then
      knx (q2.2.1 0 9) fun x5 =>
      kgi x5 3 (
        (f_m4_save (70 + x5.toNatClampNeg) q2.2).bind fun q7 =>
        knx (kuI q7 0 9 ((q7.1 0 9) + 1)) fun S8 =>
        some ((S8.1 0 9) - 1, S8)
      )
    else
      (f_m10_refuse 3 q2.2).bind fun q9 =>
      some (q9.1, q9.2)
  else
    some ((-1), q2.2)
theorem ok_m10_image {l : Launch} {G : kG} {E : kE}   (S : kSt) : kFn l G E E kjI m10_image 3 [.ref 0] S (f_m10_image  S) := by
  unfold f_m10_image
  refine kFn_of (by decide +kernel) (fun hG => Nat.le_of_ble_eq_true rfl) ?_
  show kOk _ _ _ _ _ _ _ _ [(0, .ref 0)] _ _
  refine ok_aload_n 0 (kd_m10_image.at 0 rfl) rfl rfl ?_
  refine ok_aload_n 0 (kd_m10_image.at 1 rfl) rfl rfl ?_
  refine ok_getZ (kd_m10_image.at 2 rfl) kf10_108 sh_0 rfl (fun b1 => ?_)
  refine ok_callVB (M' := m10_may_) (as := [.int (kb b1)]) (st := []) (kd_m10_image.at 3 rfl) kc10_154 sh_0 rfl rfl (by decide) (ok_m10_may_ b1 S) (kfit_of (by decide)) rfl (Nat.le_of_ble_eq_true rfl) (fun q2 hq2 => ?_)
  refine ok_ifb_ne (tgt := 13) (kd_m10_image.at 4 rfl) (by decide) (fun h3 => ?_) (fun h3 => ?_)
  · refine ok_aload_n 0 (kd_m10_image.at 7 rfl) rfl rfl ?_
    refine ok_getI (kd_m10_image.at 8 rfl) kf10_145 sh_0 rfl ?_
    refine ok_iconst (v := 3) (kd_m10_image.at 9 rfl) (by decide) ?_
    refine ok_icmp_lt (tgt := 27) (kd_m10_image.at 10 rfl) (by decide) (fun h4 => ?_) (fun h4 => ?_)
    · refine ok_aload_n 0 (kd_m10_image.at 15 rfl) rfl rfl ?_
      refine ok_getR (kd_m10_image.at 16 rfl) kf10_35 sh_0 rfl (kr_0_6 _) ?_
      refine ok_aload_n 0 (kd_m10_image.at 17 rfl) rfl rfl ?_
      refine ok_getR (kd_m10_image.at 18 rfl) kf10_48 sh_0 rfl (kr_0_8 _) ?_
      refine ok_aload_n 0 (kd_m10_image.at 19 rfl) rfl rfl ?_
      refine ok_getI (kd_m10_image.at 20 rfl) kf10_145 sh_0 rfl ?_
      refine ok_topi (fun x5 hx5 => ?_)
      refine ok_aald (b := 70) (kd_m10_image.at 21 rfl) sh_17 (kr_img _) (fun hx6 => ?_)
      refine ok_callVV (M' := m4_save) (as := [.ref (70 + x5.toNatClampNeg)]) (st := []) (kd_m10_image.at 22 rfl) kc10_403 sh_4 rfl rfl (by decide) (ok_m4_save (70 + x5.toNatClampNeg) (sh_img _ hx6) q2.2) (kfit_of (by decide)) rfl (Nat.le_of_ble_eq_true rfl) (fun q7 hq7 => ?_)
      refine ok_aload_n 0 (kd_m10_image.at 23 rfl) rfl rfl ?_
      refine ok_dup (kd_m10_image.at 24 rfl) rfl ?_
      refine ok_getI (kd_m10_image.at 25 rfl) kf10_145 sh_0 rfl ?_
      refine ok_iconst (v := 1) (kd_m10_image.at 26 rfl) (by decide) ?_
      refine ok_iadd (kd_m10_image.at 27 rfl) ?_
      refine ok_putI (kd_m10_image.at 28 rfl) kf10_145 sh_0 rfl rfl ?_
      refine ok_nS (fun S8 hS8 => ?_)
      refine ok_aload_n 0 (kd_m10_image.at 29 rfl) rfl rfl ?_
      refine ok_getI (kd_m10_image.at 30 rfl) kf10_145 sh_0 rfl ?_
      refine ok_iconst (v := 1) (kd_m10_image.at 31 rfl) (by decide) ?_
      refine ok_isub (kd_m10_image.at 32 rfl) ?_
      exact ok_ireturn (kd_m10_image.at 33 rfl) rfl
    · refine ok_aload_n 0 (kd_m10_image.at 11 rfl) rfl rfl ?_
      refine ok_iconst (v := 3) (kd_m10_image.at 12 rfl) (by decide) ?_
      refine ok_callVI (M' := m10_refuse) (as := [.int 3]) (st := []) (kd_m10_image.at 13 rfl) kc10_130 sh_0 rfl rfl (by decide) (ok_m10_refuse 3 q2.2) (kfit_of (by decide)) rfl (Nat.le_of_ble_eq_true rfl) (fun q9 hq9 => ?_)
      exact ok_ireturn (kd_m10_image.at 14 rfl) rfl
  · refine ok_iconst (v := (-1)) (kd_m10_image.at 5 rfl) (by decide) ?_
    exact ok_ireturn (kd_m10_image.at 6 rfl) rfl
def f_m10_back (a1 : Int32) (S : kSt) : Option (Bool × kSt) :=
  knx (if a1 < 0 then false else (if (S.1 0 9) ≤ a1 then false else true)) fun x3 =>
  (f_m10_may_ x3 S).bind fun q4 =>
  if q4.1 then
    kgi a1 3 (
      (f_m4_load (70 + a1.toNatClampNeg) q4.2).bind fun q7 =>
      (f_m3_forget  q7).bind fun q8 =>
      some (true, q8)
    )
  else
    some (false, q4.2)
theorem ok_m10_back {l : Launch} {G : kG} {E : kE} (a1 : Int32)  (S : kSt) : kFn l G E E kjB m10_back 3 [.ref 0, .int a1] S (f_m10_back a1 S) := by
  unfold f_m10_back
  refine kFn_of (by decide +kernel) (fun hG => Nat.le_of_ble_eq_true rfl) ?_
  show kOk _ _ _ _ _ _ _ _ [(0, .ref 0), (1, .int a1)] _ _
  refine ok_aload_n 0 (kd_m10_back.at 0 rfl) rfl rfl ?_
  refine ok_iload_n 1 (kd_m10_back.at 1 rfl) rfl rfl ?_
  refine ok_fold (α := Bool) (pcJ := 18) (lvJ := [(0, .ref 0), (1, .int a1)]) (stJ := [.ref 0]) (mk := fun v => .int (kb v)) (fun K => ?_) (fun x3 => ?_)
  · refine ok_ap ?_
    refine ok_if_lt (tgt := 17) (kd_m10_back.at 2 rfl) (by decide) (fun h2 => ?_) (fun h2 => ?_)
    · refine ok_iconst (v := 0) (kd_m10_back.at 9 rfl) (by decide) ?_
      exact K false
    · refine ok_iload_n 1 (kd_m10_back.at 3 rfl) rfl rfl ?_
      refine ok_aload_n 0 (kd_m10_back.at 4 rfl) rfl rfl ?_
      refine ok_getI (kd_m10_back.at 5 rfl) kf10_145 sh_0 rfl ?_
      refine ok_ap ?_
      refine ok_icmp_ge (tgt := 17) (kd_m10_back.at 6 rfl) (by decide) (fun h1 => ?_) (fun h1 => ?_)
      · refine ok_iconst (v := 0) (kd_m10_back.at 9 rfl) (by decide) ?_
        exact K false
      · refine ok_iconst (v := 1) (kd_m10_back.at 7 rfl) (by decide) ?_
        refine ok_goto (tgt := 18) (kd_m10_back.at 8 rfl) (by decide) ?_
        exact K true
  · refine ok_callVB (M' := m10_may_) (as := [.int (kb x3)]) (st := []) (kd_m10_back.at 10 rfl) kc10_154 sh_0 rfl rfl (by decide) (ok_m10_may_ x3 S) (kfit_of (by decide)) rfl (Nat.le_of_ble_eq_true rfl) (fun q4 hq4 => ?_)
    refine ok_ifb_ne (tgt := 26) (kd_m10_back.at 11 rfl) (by decide) (fun h5 => ?_) (fun h5 => ?_)
    · refine ok_aload_n 0 (kd_m10_back.at 14 rfl) rfl rfl ?_
      refine ok_getR (kd_m10_back.at 15 rfl) kf10_35 sh_0 rfl (kr_0_6 _) ?_
      refine ok_aload_n 0 (kd_m10_back.at 16 rfl) rfl rfl ?_
      refine ok_getR (kd_m10_back.at 17 rfl) kf10_48 sh_0 rfl (kr_0_8 _) ?_
      refine ok_iload_n 1 (kd_m10_back.at 18 rfl) rfl rfl ?_
      refine ok_aald (b := 70) (kd_m10_back.at 19 rfl) sh_17 (kr_img _) (fun hx6 => ?_)
      refine ok_callVV (M' := m4_load) (as := [.ref (70 + a1.toNatClampNeg)]) (st := []) (kd_m10_back.at 20 rfl) kc10_407 sh_4 rfl rfl (by decide) (ok_m4_load (70 + a1.toNatClampNeg) (sh_img _ hx6) q4.2) (kfit_of (by decide)) rfl (Nat.le_of_ble_eq_true rfl) (fun q7 hq7 => ?_)
      refine ok_aload_n 0 (kd_m10_back.at 21 rfl) rfl rfl ?_
      refine ok_getR (kd_m10_back.at 22 rfl) kf10_42 sh_0 rfl (kr_0_7 _) ?_
      refine ok_callVV (M' := m3_forget) (as := []) (st := []) (kd_m10_back.at 23 rfl) kc10_142 sh_5 rfl rfl (by decide) (ok_m3_forget  q7) (kfit_of (by decide)) rfl (Nat.le_of_ble_eq_true rfl) (fun q8 hq8 => ?_)
      refine ok_iconst (v := 1) (kd_m10_back.at 24 rfl) (by decide) ?_
      exact ok_zreturn (x := true) (kd_m10_back.at 25 rfl) rfl
    · refine ok_iconst (v := 0) (kd_m10_back.at 12 rfl) (by decide) ?_
      exact ok_zreturn (x := false) (kd_m10_back.at 13 rfl) rfl
def f_m10_led_L4   (k42 : Int32 → kSt → Option (Int32 × kSt)) (k53 : kSt → Option (Int32 × kSt))  : Nat → Int32 → Int32 → kSt → Option (Int32 × kSt)
  | 0, _, _, _ => none
  | n + 1, v2, v3, S =>
    kgb (S.1 0 5) fun b1 =>
    if b1 then
      if (S.1 1 2) ≤ v3 then
        k53  S
      else
        kgi v3 5 (
          (f_m10_isMore (S.1 40 v3.toNatClampNeg) S).bind fun q4 =>
          knx (fun (x5 : Int32) (S6 : kSt) =>
            knx (v3 + 1) fun x7 =>
            f_m10_led_L4 k42 k53 n x5 x7 S6
            ) fun j47 =>
          if q4.1 then
            if v2 = 0 then
              k42 v3 q4.2
            else
              knx (v2 + (-1)) fun x10 =>
              j47 x10 q4.2
          else
            j47 v2 q4.2
        )
    else
      k53  S
theorem ok_m10_led_L4 {l : Launch} {G : kG} {E : kE}     (k42 : Int32 → kSt → Option (Int32 × kSt)) (k53 : kSt → Option (Int32 × kSt)) (hk42 : ∀ (v3 : Int32) (S : kSt), kOk l G E (kZ G E kjI) m10_led (kdp (2)) (k42 v3 S) 42 [(3, .int v3)] [] S) (hk53 : ∀  (S : kSt), kOk l G E (kZ G E kjI) m10_led (kdp (2)) (k53  S) 53 [] [] S) : ∀ (n : Nat) (v2 : Int32) (v3 : Int32) (S : kSt), kOk l G E (kZ G E kjI) m10_led (kdp (2)) (f_m10_led_L4 k42 k53 n v2 v3 S) 4 [(0, .ref 0), (2, .int v2), (3, .int v3)] [] S := by
  intro n
  induction n with
  | zero => intro v2 v3 S; exact ok_none
  | succ n ih =>
    intro v2 v3 S
    rw [f_m10_led_L4]
    refine ok_aload_n 0 (kd_m10_led.at 4 rfl) rfl rfl ?_
    refine ok_getZ (kd_m10_led.at 5 rfl) kf10_108 sh_0 rfl (fun b1 => ?_)
    refine ok_ifb_eq (tgt := 53) (kd_m10_led.at 6 rfl) (by decide) (fun h2 => ?_) (fun h2 => ?_)
    · refine ok_sub (lv' := []) [] rfl ?_
      exact hk53  S
    · refine ok_iload_n 2 (kd_m10_led.at 7 rfl) rfl rfl ?_
      refine ok_aload_n 0 (kd_m10_led.at 8 rfl) rfl rfl ?_
      refine ok_getR (kd_m10_led.at 9 rfl) kf10_16 sh_0 rfl (kr_0_2 _) ?_
      refine ok_getI (kd_m10_led.at 10 rfl) kf10_112 sh_1 rfl ?_
      refine ok_icmp_ge (tgt := 53) (kd_m10_led.at 11 rfl) (by decide) (fun h3 => ?_) (fun h3 => ?_)
      · refine ok_sub (lv' := []) [] rfl ?_
        exact hk53  S
      · refine ok_aload_n 0 (kd_m10_led.at 12 rfl) rfl rfl ?_
        refine ok_aload_n 0 (kd_m10_led.at 13 rfl) rfl rfl ?_
        refine ok_getR (kd_m10_led.at 14 rfl) kf10_35 sh_0 rfl (kr_0_6 _) ?_
        refine ok_getR (kd_m10_led.at 15 rfl) kf10_157 sh_4 rfl (kr_4_1 _) ?_
        refine ok_iload_n 2 (kd_m10_led.at 16 rfl) rfl rfl ?_
        refine ok_iald (kd_m10_led.at 17 rfl) sh_40 ?_
        refine ok_callVB (M' := m10_isMore) (as := [.int (S.1 40 v3.toNatClampNeg)]) (st := []) (kd_m10_led.at 18 rfl) kc10_172 sh_0 rfl rfl (by decide) (ok_m10_isMore (S.1 40 v3.toNatClampNeg) S) (kfit_of (by decide)) rfl (Nat.le_of_ble_eq_true rfl) (fun q4 hq4 => ?_)
        refine ok_nx (fun j47 hj47 => ?_)
        have K47 : ∀ (x5 : Int32) (S6 : kSt), kOk l G E (kZ G E kjI) m10_led (kdp (2)) (j47 x5 S6) 47 [(0, .ref 0), (2, .int x5), (3, .int v3)] [] S6 := by
          subst hj47
          intro x5 S6
          refine ok_nx (fun x7 hx7 => ?_)
          refine ok_iinc (v := x7) (lv' := [(3, .int x7), (0, .ref 0), (2, .int x5)]) 2 (kd_m10_led.at 25 rfl) rfl hx7.symm (by decide) rfl ?_
          refine ok_goto (tgt := 4) (kd_m10_led.at 26 rfl) (by decide) ?_
          refine ok_sub (lv' := [(0, .ref 0), (2, .int x5), (3, .int x7)]) [1, 2, 0] rfl ?_
          exact ih x5 x7 S6
        clear hj47
        refine ok_ifb_eq (tgt := 47) (kd_m10_led.at 19 rfl) (by decide) (fun h8 => ?_) (fun h8 => ?_)
        · exact K47 v2 q4.2
        · refine ok_iload_n 1 (kd_m10_led.at 20 rfl) rfl rfl ?_
          refine ok_if_ne (tgt := 44) (kd_m10_led.at 21 rfl) (by decide) (fun h9 => ?_) (fun h9 => ?_)
          · refine ok_nx (fun x10 hx10 => ?_)
            refine ok_iinc (v := x10) (lv' := [(2, .int x10), (0, .ref 0), (3, .int v3)]) 1 (kd_m10_led.at 24 rfl) rfl hx10.symm (by decide) rfl ?_
            refine ok_sub (lv' := [(0, .ref 0), (2, .int x10), (3, .int v3)]) [1, 0, 2] rfl ?_
            exact K47 x10 q4.2
          · refine ok_sub (lv' := [(3, .int v3)]) [2] rfl ?_
            exact hk42 v3 q4.2
def f_m10_led (a1 : Int32) (S : kSt) : Option (Int32 × kSt) :=
  f_m10_led_L4 
    (fun (x11 : Int32) (S12 : kSt) =>
      some (x11, S12)
    )
    (fun  (S13 : kSt) =>
      none
    )
    kFU a1 0 S
theorem ok_m10_led {l : Launch} {G : kG} {E : kE} (a1 : Int32)  (S : kSt) : kFn l G E E kjI m10_led 2 [.ref 0, .int a1] S (f_m10_led a1 S) := by
  unfold f_m10_led
  refine kFn_of (by decide +kernel) (fun hG => Nat.le_of_ble_eq_true rfl) ?_
  show kOk _ _ _ _ _ _ _ _ [(0, .ref 0), (1, .int a1)] _ _
  refine ok_iload_n 1 (kd_m10_led.at 0 rfl) rfl rfl ?_
  refine ok_istore_n (lv' := [(2, .int a1), (0, .ref 0), (1, .int a1)]) (kd_m10_led.at 1 rfl) rfl (by decide) rfl ?_
  refine ok_iconst (v := 0) (kd_m10_led.at 2 rfl) (by decide) ?_
  refine ok_istore_n (lv' := [(3, .int 0), (2, .int a1), (0, .ref 0), (1, .int a1)]) (kd_m10_led.at 3 rfl) rfl (by decide) rfl ?_
  refine ok_sub (lv' := [(0, .ref 0), (2, .int a1), (3, .int 0)]) [2, 1, 0] rfl ?_
  refine ok_m10_led_L4 _ _ (fun x11 S12 => ?_) (fun S13 => ?_) kFU a1 0 S
  · refine ok_iload_n 0 (kd_m10_led.at 22 rfl) rfl rfl ?_
    exact ok_ireturn (kd_m10_led.at 23 rfl) rfl
  · exact ok_none
def f_m5_count_t (a1 : Int32) (S : kSt) : Option (Int32 × kSt) :=
  kcase7 (ksw 0 6 a1)
    (
      some (S.1 1 0, S)
    )
    (
      some (S.1 1 1, S)
    )
    (
      some (S.1 1 2, S)
    )
    (
      some (S.1 1 3, S)
    )
    (
      some (S.1 1 4, S)
    )
    (
      some (S.1 1 5, S)
    )
    (
      some (S.1 1 6, S)
    )
    (
      some ((-1), S)
    )
theorem ok_m5_count_t {l : Launch} {G : kG} {E : kE} (a1 : Int32)  (S : kSt) : kFn l G E E kjI m5_count 1 [.ref 1, .int a1] S (f_m5_count_t a1 S) := by
  unfold f_m5_count_t
  refine kFn_of (by decide +kernel) (fun hG => Nat.le_of_ble_eq_true rfl) ?_
  show kOk _ _ _ _ _ _ _ _ [(0, .ref 1), (1, .int a1)] _ _
  refine ok_iload_n 1 (kd_m5_count.at 0 rfl) rfl rfl ?_
  refine ok_table7 79 44 49 54 59 64 69 74 (kd_m5_count.at 1 rfl) (by decide) (by decide) (by decide) (by decide) (by decide) (by decide) (by decide) (by decide) (by decide) ?_ ?_ ?_ ?_ ?_ ?_ ?_ ?_
  · refine ok_iconst (v := (-1)) (kd_m5_count.at 23 rfl) (by decide) ?_
    exact ok_ireturn (kd_m5_count.at 24 rfl) rfl
  · refine ok_aload_n 0 (kd_m5_count.at 2 rfl) rfl rfl ?_
    refine ok_getI (kd_m5_count.at 3 rfl) kf5_42 sh_1 rfl ?_
    exact ok_ireturn (kd_m5_count.at 4 rfl) rfl
  · refine ok_aload_n 0 (kd_m5_count.at 5 rfl) rfl rfl ?_
    refine ok_getI (kd_m5_count.at 6 rfl) kf5_46 sh_1 rfl ?_
    exact ok_ireturn (kd_m5_count.at 7 rfl) rfl
  · refine ok_aload_n 0 (kd_m5_count.at 8 rfl) rfl rfl ?_
    refine ok_getI (kd_m5_count.at 9 rfl) kf5_49 sh_1 rfl ?_
    exact ok_ireturn (kd_m5_count.at 10 rfl) rfl
  · refine ok_aload_n 0 (kd_m5_count.at 11 rfl) rfl rfl ?_
    refine ok_getI (kd_m5_count.at 12 rfl) kf5_52 sh_1 rfl ?_
    exact ok_ireturn (kd_m5_count.at 13 rfl) rfl
  · refine ok_aload_n 0 (kd_m5_count.at 14 rfl) rfl rfl ?_
    refine ok_getI (kd_m5_count.at 15 rfl) kf5_55 sh_1 rfl ?_
    exact ok_ireturn (kd_m5_count.at 16 rfl) rfl
  · refine ok_aload_n 0 (kd_m5_count.at 17 rfl) rfl rfl ?_
    refine ok_getI (kd_m5_count.at 18 rfl) kf5_58 sh_1 rfl ?_
    exact ok_ireturn (kd_m5_count.at 19 rfl) rfl
  · refine ok_aload_n 0 (kd_m5_count.at 20 rfl) rfl rfl ?_
    refine ok_getI (kd_m5_count.at 21 rfl) kf5_61 sh_1 rfl ?_
    exact ok_ireturn (kd_m5_count.at 22 rfl) rfl
def f_m10_size (a1 : Int32) (S : kSt) : Option (Int32 × kSt) :=
  kcase4 (ksw 7 10 a1)
    (
      some (S.1 4 0, S)
    )
    (
      some (S.1 5 2, S)
    )
    (
      some (S.1 0 9, S)
    )
    (
      some (S.1 0 1, S)
    )
    (
      (f_m5_count_t a1 S).bind fun q1 =>
      some (q1.1, q1.2)
    )
theorem ok_m10_size {l : Launch} {G : kG} {E : kE} (a1 : Int32)  (S : kSt) : kFn l G E E kjI m10_size 2 [.ref 0, .int a1] S (f_m10_size a1 S) := by
  unfold f_m10_size
  refine kFn_of (by decide +kernel) (fun hG => Nat.le_of_ble_eq_true rfl) ?_
  show kOk _ _ _ _ _ _ _ _ [(0, .ref 0), (1, .int a1)] _ _
  refine ok_iload_n 1 (kd_m10_size.at 0 rfl) rfl rfl ?_
  refine ok_table4 58 32 40 48 53 (kd_m10_size.at 1 rfl) (by decide) (by decide) (by decide) (by decide) (by decide) (by decide) ?_ ?_ ?_ ?_ ?_
  · refine ok_aload_n 0 (kd_m10_size.at 16 rfl) rfl rfl ?_
    refine ok_getR (kd_m10_size.at 17 rfl) kf10_16 sh_0 rfl (kr_0_2 _) ?_
    refine ok_iload_n 1 (kd_m10_size.at 18 rfl) rfl rfl ?_
    refine ok_callVI (M' := m5_count) (as := [.int a1]) (st := []) (kd_m10_size.at 19 rfl) kc10_413 sh_1 rfl rfl (by decide) (ok_m5_count_t a1 S) (kfit_of (by decide)) rfl (Nat.le_of_ble_eq_true rfl) (fun q1 hq1 => ?_)
    exact ok_ireturn (kd_m10_size.at 20 rfl) rfl
  · refine ok_aload_n 0 (kd_m10_size.at 2 rfl) rfl rfl ?_
    refine ok_getR (kd_m10_size.at 3 rfl) kf10_35 sh_0 rfl (kr_0_6 _) ?_
    refine ok_getI (kd_m10_size.at 4 rfl) kf10_383 sh_4 rfl ?_
    exact ok_ireturn (kd_m10_size.at 5 rfl) rfl
  · refine ok_aload_n 0 (kd_m10_size.at 6 rfl) rfl rfl ?_
    refine ok_getR (kd_m10_size.at 7 rfl) kf10_42 sh_0 rfl (kr_0_7 _) ?_
    refine ok_getI (kd_m10_size.at 8 rfl) kf10_399 sh_5 rfl ?_
    exact ok_ireturn (kd_m10_size.at 9 rfl) rfl
  · refine ok_aload_n 0 (kd_m10_size.at 10 rfl) rfl rfl ?_
    refine ok_getI (kd_m10_size.at 11 rfl) kf10_145 sh_0 rfl ?_
    exact ok_ireturn (kd_m10_size.at 12 rfl) rfl
  · refine ok_aload_n 0 (kd_m10_size.at 13 rfl) rfl rfl ?_
    refine ok_getI (kd_m10_size.at 14 rfl) kf10_119 sh_0 rfl ?_
    exact ok_ireturn (kd_m10_size.at 15 rfl) rfl
def f_m10_trouble  (S : kSt) : Option (Int32 × kSt) :=
  some (S.1 0 18, S)
theorem ok_m10_trouble {l : Launch} {G : kG} {E : kE}   (S : kSt) : kFn l G E E kjI m10_trouble 1 [.ref 0] S (f_m10_trouble  S) := by
  unfold f_m10_trouble
  refine kFn_of (by decide +kernel) (fun hG => Nat.le_of_ble_eq_true rfl) ?_
  show kOk _ _ _ _ _ _ _ _ [(0, .ref 0)] _ _
  refine ok_aload_n 0 (kd_m10_trouble.at 0 rfl) rfl rfl ?_
  refine ok_getI (kd_m10_trouble.at 1 rfl) kf10_100 sh_0 rfl ?_
  exact ok_ireturn (kd_m10_trouble.at 2 rfl) rfl
def f_m11_thrown  (S : kSt) : Option (Int32 × kSt) :=
  some (S.1 14 0, S)
theorem ok_m11_thrown {l : Launch} {G : kG} {E : kE}   (S : kSt) : kFn l G E E kjI m11_thrown 1 [.ref 14] S (f_m11_thrown  S) := by
  unfold f_m11_thrown
  refine kFn_of (by decide +kernel) (fun hG => Nat.le_of_ble_eq_true rfl) ?_
  show kOk _ _ _ _ _ _ _ _ [(0, .ref 14)] _ _
  refine ok_aload_n 0 (kd_m11_thrown.at 0 rfl) rfl rfl ?_
  refine ok_getI (kd_m11_thrown.at 1 rfl) kf11_59 sh_14 rfl ?_
  exact ok_ireturn (kd_m11_thrown.at 2 rfl) rfl
def f_m11_good  (S : kSt) : Option kSt :=
  knx (kuI S 14 0 0) fun S1 =>
  knx (kuI S1 14 11 0) fun S2 =>
  some S2
theorem ok_m11_good {l : Launch} {G : kG} {E : kE}   (S : kSt) : kFn l G E E kjV m11_good 1 [.ref 14] S (f_m11_good  S) := by
  unfold f_m11_good
  refine kFn_of (by decide +kernel) (fun hG => Nat.le_of_ble_eq_true rfl) ?_
  show kOk _ _ _ _ _ _ _ _ [(0, .ref 14)] _ _
  refine ok_aload_n 0 (kd_m11_good.at 0 rfl) rfl rfl ?_
  refine ok_iconst (v := 0) (kd_m11_good.at 1 rfl) (by decide) ?_
  refine ok_putI (kd_m11_good.at 2 rfl) kf11_59 sh_14 rfl rfl ?_
  refine ok_nS (fun S1 hS1 => ?_)
  refine ok_aload_n 0 (kd_m11_good.at 3 rfl) rfl rfl ?_
  refine ok_iconst (v := 0) (kd_m11_good.at 4 rfl) (by decide) ?_
  refine ok_putI (kd_m11_good.at 5 rfl) kf11_62 sh_14 rfl rfl ?_
  refine ok_nS (fun S2 hS2 => ?_)
  exact ok_return (kd_m11_good.at 6 rfl) rfl
def f_m11_no (a1 : Int32) (S : kSt) : Option (Int32 × kSt) :=
  knx (kuI S 14 11 a1) fun S1 =>
  some ((-1), S1)
theorem ok_m11_no {l : Launch} {G : kG} {E : kE} (a1 : Int32)  (S : kSt) : kFn l G E E kjI m11_no 1 [.ref 14, .int a1] S (f_m11_no a1 S) := by
  unfold f_m11_no
  refine kFn_of (by decide +kernel) (fun hG => Nat.le_of_ble_eq_true rfl) ?_
  show kOk _ _ _ _ _ _ _ _ [(0, .ref 14), (1, .int a1)] _ _
  refine ok_aload_n 0 (kd_m11_no.at 0 rfl) rfl rfl ?_
  refine ok_iload_n 1 (kd_m11_no.at 1 rfl) rfl rfl ?_
  refine ok_putI (kd_m11_no.at 2 rfl) kf11_62 sh_14 rfl rfl ?_
  refine ok_nS (fun S1 hS1 => ?_)
  refine ok_iconst (v := (-1)) (kd_m11_no.at 3 rfl) (by decide) ?_
  exact ok_ireturn (kd_m11_no.at 4 rfl) rfl
def f_m11_isNot (a1 : Int32) (S : kSt) : Option (Bool × kSt) :=
  knx (kuI S 14 11 a1) fun S1 =>
  some (false, S1)
theorem ok_m11_isNot {l : Launch} {G : kG} {E : kE} (a1 : Int32)  (S : kSt) : kFn l G E E kjB m11_isNot 1 [.ref 14, .int a1] S (f_m11_isNot a1 S) := by
  unfold f_m11_isNot
  refine kFn_of (by decide +kernel) (fun hG => Nat.le_of_ble_eq_true rfl) ?_
  show kOk _ _ _ _ _ _ _ _ [(0, .ref 14), (1, .int a1)] _ _
  refine ok_aload_n 0 (kd_m11_isNot.at 0 rfl) rfl rfl ?_
  refine ok_iload_n 1 (kd_m11_isNot.at 1 rfl) rfl rfl ?_
  refine ok_putI (kd_m11_isNot.at 2 rfl) kf11_62 sh_14 rfl rfl ?_
  refine ok_nS (fun S1 hS1 => ?_)
  refine ok_iconst (v := 0) (kd_m11_isNot.at 3 rfl) (by decide) ?_
  exact ok_zreturn (x := false) (kd_m11_isNot.at 4 rfl) rfl
def f_m11_in (a0 : Int32) (a1 : Int32) (a2 : Int32) (S : kSt) : Option (Bool × kSt) :=
  if a0 < a1 then
    some (false, S)
  else
    if a2 < a0 then
      some (false, S)
    else
      some (true, S)
theorem ok_m11_in {l : Launch} {G : kG} {E : kE} (a0 : Int32) (a1 : Int32) (a2 : Int32)  (S : kSt) : kFn l G E E kjB m11_in 1 [.int a0, .int a1, .int a2] S (f_m11_in a0 a1 a2 S) := by
  unfold f_m11_in
  refine kFn_of (by decide +kernel) (fun hG => Nat.le_of_ble_eq_true rfl) ?_
  show kOk _ _ _ _ _ _ _ _ [(0, .int a0), (1, .int a1), (2, .int a2)] _ _
  refine ok_iload_n 0 (kd_m11_in.at 0 rfl) rfl rfl ?_
  refine ok_iload_n 1 (kd_m11_in.at 1 rfl) rfl rfl ?_
  refine ok_icmp_lt (tgt := 14) (kd_m11_in.at 2 rfl) (by decide) (fun h1 => ?_) (fun h1 => ?_)
  · refine ok_iconst (v := 0) (kd_m11_in.at 8 rfl) (by decide) ?_
    exact ok_zreturn (x := false) (kd_m11_in.at 9 rfl) rfl
  · refine ok_iload_n 0 (kd_m11_in.at 3 rfl) rfl rfl ?_
    refine ok_iload_n 2 (kd_m11_in.at 4 rfl) rfl rfl ?_
    refine ok_icmp_gt (tgt := 14) (kd_m11_in.at 5 rfl) (by decide) (fun h2 => ?_) (fun h2 => ?_)
    · refine ok_iconst (v := 0) (kd_m11_in.at 8 rfl) (by decide) ?_
      exact ok_zreturn (x := false) (kd_m11_in.at 9 rfl) rfl
    · refine ok_iconst (v := 1) (kd_m11_in.at 6 rfl) (by decide) ?_
      refine ok_goto (tgt := 15) (kd_m11_in.at 7 rfl) (by decide) ?_
      exact ok_zreturn (x := true) (kd_m11_in.at 9 rfl) rfl
def f_m11_hasBit (a0 : Int32) (a1 : Int32) (S : kSt) : Option (Bool × kSt) :=
  if ((a0 >>> (a1 &&& 31)) &&& 1) = 1 then
    some (true, S)
  else
    some (false, S)
theorem ok_m11_hasBit {l : Launch} {G : kG} {E : kE} (a0 : Int32) (a1 : Int32)  (S : kSt) : kFn l G E E kjB m11_hasBit 1 [.int a0, .int a1] S (f_m11_hasBit a0 a1 S) := by
  unfold f_m11_hasBit
  refine kFn_of (by decide +kernel) (fun hG => Nat.le_of_ble_eq_true rfl) ?_
  show kOk _ _ _ _ _ _ _ _ [(0, .int a0), (1, .int a1)] _ _
  refine ok_iload_n 0 (kd_m11_hasBit.at 0 rfl) rfl rfl ?_
  refine ok_iload_n 1 (kd_m11_hasBit.at 1 rfl) rfl rfl ?_
  refine ok_ishr (kd_m11_hasBit.at 2 rfl) ?_
  refine ok_iconst (v := 1) (kd_m11_hasBit.at 3 rfl) (by decide) ?_
  refine ok_iand (kd_m11_hasBit.at 4 rfl) ?_
  refine ok_iconst (v := 1) (kd_m11_hasBit.at 5 rfl) (by decide) ?_
  refine ok_icmp_ne (tgt := 13) (kd_m11_hasBit.at 6 rfl) (by decide) (fun h1 => ?_) (fun h1 => ?_)
  · refine ok_iconst (v := 0) (kd_m11_hasBit.at 9 rfl) (by decide) ?_
    exact ok_zreturn (x := false) (kd_m11_hasBit.at 10 rfl) rfl
  · refine ok_iconst (v := 1) (kd_m11_hasBit.at 7 rfl) (by decide) ?_
    refine ok_goto (tgt := 14) (kd_m11_hasBit.at 8 rfl) (by decide) ?_
    exact ok_zreturn (x := true) (kd_m11_hasBit.at 10 rfl) rfl
def f_m11_ones_L4   (k24 : Int32 → kSt → Option (Int32 × kSt)) (c0 : Int32) : Nat → Int32 → Int32 → kSt → Option (Int32 × kSt)
  | 0, _, _, _ => none
  | n + 1, v1, v2, S =>
    if 8 ≤ v2 then
      k24 v1 S
    else
      knx (v1 + ((c0 >>> (v2 &&& 31)) &&& 1)) fun x2 =>
      knx (v2 + 1) fun x3 =>
      f_m11_ones_L4 k24 c0 n x2 x3 S
theorem ok_m11_ones_L4 {l : Launch} {G : kG} {E : kE}    (c0 : Int32) (k24 : Int32 → kSt → Option (Int32 × kSt)) (hk24 : ∀ (v1 : Int32) (S : kSt), kOk l G E (kZ G E kjI) m11_ones (kdp (1)) (k24 v1 S) 24 [(1, .int v1)] [] S) : ∀ (n : Nat) (v1 : Int32) (v2 : Int32) (S : kSt), kOk l G E (kZ G E kjI) m11_ones (kdp (1)) (f_m11_ones_L4 k24 c0 n v1 v2 S) 4 [(0, .int c0), (1, .int v1), (2, .int v2)] [] S := by
  intro n
  induction n with
  | zero => intro v1 v2 S; exact ok_none
  | succ n ih =>
    intro v1 v2 S
    rw [f_m11_ones_L4]
    refine ok_iload_n 2 (kd_m11_ones.at 4 rfl) rfl rfl ?_
    refine ok_bipush (v := 8) (kd_m11_ones.at 5 rfl) (by decide) ?_
    refine ok_icmp_ge (tgt := 24) (kd_m11_ones.at 6 rfl) (by decide) (fun h1 => ?_) (fun h1 => ?_)
    · refine ok_sub (lv' := [(1, .int v1)]) [1] rfl ?_
      exact hk24 v1 S
    · refine ok_iload_n 1 (kd_m11_ones.at 7 rfl) rfl rfl ?_
      refine ok_iload_n 0 (kd_m11_ones.at 8 rfl) rfl rfl ?_
      refine ok_iload_n 2 (kd_m11_ones.at 9 rfl) rfl rfl ?_
      refine ok_ishr (kd_m11_ones.at 10 rfl) ?_
      refine ok_iconst (v := 1) (kd_m11_ones.at 11 rfl) (by decide) ?_
      refine ok_iand (kd_m11_ones.at 12 rfl) ?_
      refine ok_iadd (kd_m11_ones.at 13 rfl) ?_
      refine ok_topi (fun x2 hx2 => ?_)
      refine ok_istore_n (lv' := [(1, .int x2), (0, .int c0), (2, .int v2)]) (kd_m11_ones.at 14 rfl) rfl (by decide) rfl ?_
      refine ok_nx (fun x3 hx3 => ?_)
      refine ok_iinc (v := x3) (lv' := [(2, .int x3), (1, .int x2), (0, .int c0)]) 2 (kd_m11_ones.at 15 rfl) rfl hx3.symm (by decide) rfl ?_
      refine ok_goto (tgt := 4) (kd_m11_ones.at 16 rfl) (by decide) ?_
      refine ok_sub (lv' := [(0, .int c0), (1, .int x2), (2, .int x3)]) [2, 1, 0] rfl ?_
      exact ih x2 x3 S
def f_m11_ones (a0 : Int32) (S : kSt) : Option (Int32 × kSt) :=
  f_m11_ones_L4 
    (fun (x4 : Int32) (S5 : kSt) =>
      some (x4, S5)
    )
    a0 kFU 0 0 S
theorem ok_m11_ones {l : Launch} {G : kG} {E : kE} (a0 : Int32)  (S : kSt) : kFn l G E E kjI m11_ones 1 [.int a0] S (f_m11_ones a0 S) := by
  unfold f_m11_ones
  refine kFn_of (by decide +kernel) (fun hG => Nat.le_of_ble_eq_true rfl) ?_
  show kOk _ _ _ _ _ _ _ _ [(0, .int a0)] _ _
  refine ok_iconst (v := 0) (kd_m11_ones.at 0 rfl) (by decide) ?_
  refine ok_istore_n (lv' := [(1, .int 0), (0, .int a0)]) (kd_m11_ones.at 1 rfl) rfl (by decide) rfl ?_
  refine ok_iconst (v := 0) (kd_m11_ones.at 2 rfl) (by decide) ?_
  refine ok_istore_n (lv' := [(2, .int 0), (1, .int 0), (0, .int a0)]) (kd_m11_ones.at 3 rfl) rfl (by decide) rfl ?_
  refine ok_sub (lv' := [(0, .int a0), (1, .int 0), (2, .int 0)]) [2, 1, 0] rfl ?_
  refine ok_m11_ones_L4 a0 _ (fun x4 S5 => ?_) kFU 0 0 S
  refine ok_iload_n 0 (kd_m11_ones.at 17 rfl) rfl rfl ?_
  exact ok_ireturn (kd_m11_ones.at 18 rfl) rfl
def f_m11_copy_L3 (w0 n0 : Nat) (w2 n2 : Nat)  (k28 : kSt → Option kSt) (c1 : Int32) (c3 : Int32) (c4 : Int32) : Nat → Int32 → kSt → Option kSt
  | 0, _, _ => none
  | n + 1, v5, S =>
    if c4 ≤ v5 then
      k28  S
    else
      knx (c1 + v5) fun x2 =>
      kgi x2 n0 (
        knx (c3 + v5) fun x4 =>
        kgi x4 n2 (
          knx (kuI S w2 x4.toNatClampNeg (S.1 w0 x2.toNatClampNeg)) fun S3 =>
          knx (v5 + 1) fun x5 =>
          f_m11_copy_L3 w0 n0 w2 n2 k28 c1 c3 c4 n x5 S3
        )
      )
theorem ok_m11_copy_L3 {l : Launch} {G : kG} {E : kE} (w0 n0 : Nat) (w2 n2 : Nat) (hw0 : kSH[w0]? = some (1, 0, n0)) (hw2 : kSH[w2]? = some (1, 0, n2))  (c1 : Int32) (c3 : Int32) (c4 : Int32) (k28 : kSt → Option kSt) (hk28 : ∀  (S : kSt), kOk l G E (kZ G E kjV) m11_copy (kdp (1)) (k28  S) 28 [] [] S) : ∀ (n : Nat) (v5 : Int32) (S : kSt), kOk l G E (kZ G E kjV) m11_copy (kdp (1)) (f_m11_copy_L3 w0 n0 w2 n2 k28 c1 c3 c4 n v5 S) 3 [(0, .ref w0), (1, .int c1), (2, .ref w2), (3, .int c3), (4, .int c4), (5, .int v5)] [] S := by
  intro n
  induction n with
  | zero => intro v5 S; exact ok_none
  | succ n ih =>
    intro v5 S
    rw [f_m11_copy_L3]
    refine ok_iload 5 (kd_m11_copy.at 2 rfl) rfl ?_
    refine ok_iload 4 (kd_m11_copy.at 3 rfl) rfl ?_
    refine ok_icmp_ge (tgt := 28) (kd_m11_copy.at 4 rfl) (by decide) (fun h1 => ?_) (fun h1 => ?_)
    · refine ok_sub (lv' := []) [] rfl ?_
      exact hk28  S
    · refine ok_aload_n 2 (kd_m11_copy.at 5 rfl) rfl rfl ?_
      refine ok_iload_n 3 (kd_m11_copy.at 6 rfl) rfl rfl ?_
      refine ok_iload 5 (kd_m11_copy.at 7 rfl) rfl ?_
      refine ok_iadd (kd_m11_copy.at 8 rfl) ?_
      refine ok_aload_n 0 (kd_m11_copy.at 9 rfl) rfl rfl ?_
      refine ok_iload_n 1 (kd_m11_copy.at 10 rfl) rfl rfl ?_
      refine ok_iload 5 (kd_m11_copy.at 11 rfl) rfl ?_
      refine ok_iadd (kd_m11_copy.at 12 rfl) ?_
      refine ok_topi (fun x2 hx2 => ?_)
      refine ok_iald (kd_m11_copy.at 13 rfl) hw0 ?_
      refine ok_sndi (fun x4 hx4 => ?_)
      refine ok_iast (kd_m11_copy.at 14 rfl) hw2 ?_
      refine ok_nS (fun S3 hS3 => ?_)
      refine ok_nx (fun x5 hx5 => ?_)
      refine ok_iinc (v := x5) (lv' := [(5, .int x5), (0, .ref w0), (1, .int c1), (2, .ref w2), (3, .int c3), (4, .int c4)]) 5 (kd_m11_copy.at 15 rfl) rfl hx5.symm (by decide) rfl ?_
      refine ok_goto (tgt := 3) (kd_m11_copy.at 16 rfl) (by decide) ?_
      refine ok_sub (lv' := [(0, .ref w0), (1, .int c1), (2, .ref w2), (3, .int c3), (4, .int c4), (5, .int x5)]) [1, 2, 3, 4, 5, 0] rfl ?_
      exact ih x5 S3
def f_m11_copy (w0 n0 : Nat) (a1 : Int32) (w2 n2 : Nat) (a3 : Int32) (a4 : Int32) (S : kSt) : Option kSt :=
  f_m11_copy_L3 w0 n0 w2 n2
    (fun  (S6 : kSt) =>
      some S6
    )
    a1 a3 a4 kFU 0 S
theorem ok_m11_copy {l : Launch} {G : kG} {E : kE} (w0 n0 : Nat) (a1 : Int32) (w2 n2 : Nat) (a3 : Int32) (a4 : Int32) (hw0 : kSH[w0]? = some (1, 0, n0)) (hw2 : kSH[w2]? = some (1, 0, n2)) (S : kSt) : kFn l G E E kjV m11_copy 1 [.ref w0, .int a1, .ref w2, .int a3, .int a4] S (f_m11_copy w0 n0 a1 w2 n2 a3 a4 S) := by
  unfold f_m11_copy
  refine kFn_of (by decide +kernel) (fun hG => Nat.le_of_ble_eq_true rfl) ?_
  show kOk _ _ _ _ _ _ _ _ [(0, .ref w0), (1, .int a1), (2, .ref w2), (3, .int a3), (4, .int a4)] _ _
  refine ok_iconst (v := 0) (kd_m11_copy.at 0 rfl) (by decide) ?_
  refine ok_istore (lv' := [(5, .int 0), (0, .ref w0), (1, .int a1), (2, .ref w2), (3, .int a3), (4, .int a4)]) (kd_m11_copy.at 1 rfl) (by decide) rfl ?_
  refine ok_sub (lv' := [(0, .ref w0), (1, .int a1), (2, .ref w2), (3, .int a3), (4, .int a4), (5, .int 0)]) [1, 2, 3, 4, 5, 0] rfl ?_
  refine ok_m11_copy_L3 w0 n0 w2 n2 hw0 hw2 a1 a3 a4 _ (fun S6 => ?_) kFU 0 S
  exact ok_return (kd_m11_copy.at 17 rfl) rfl
def f_m11_lowest_L6   (k31 : Int64 → kSt → Option (Int64 × kSt)) (c0 : Int64) (c2 : Int64) (c4 : Bool) : Nat → Int64 → Int64 → kSt → Option (Int64 × kSt)
  | 0, _, _, _ => none
  | n + 1, v5, v7, S =>
    if (lg_cmp v7 0) = 0 then
      k31 v5 S
    else
      kgzL v7 (
        knx (kremL v5 v7) fun x2 =>
        f_m11_lowest_L6 k31 c0 c2 c4 n v7 x2 S
      )
theorem ok_m11_lowest_L6 {l : Launch} {G : kG} {E : kE}    (c0 : Int64) (c2 : Int64) (c4 : Bool) (k31 : Int64 → kSt → Option (Int64 × kSt)) (hk31 : ∀ (v5 : Int64) (S : kSt), kOk l G E (kZ G E kjL) m11_lowest (kdp (1)) (k31 v5 S) 31 [(0, .long c0), (2, .long c2), (4, .int (kb c4)), (5, .long v5)] [] S) : ∀ (n : Nat) (v5 : Int64) (v7 : Int64) (S : kSt), kOk l G E (kZ G E kjL) m11_lowest (kdp (1)) (f_m11_lowest_L6 k31 c0 c2 c4 n v5 v7 S) 6 [(0, .long c0), (2, .long c2), (4, .int (kb c4)), (5, .long v5), (7, .long v7)] [] S := by
  intro n
  induction n with
  | zero => intro v5 v7 S; exact ok_none
  | succ n ih =>
    intro v5 v7 S
    rw [f_m11_lowest_L6]
    refine ok_lload 4 (kd_m11_lowest.at 4 rfl) rfl ?_
    refine ok_lconst (v := 0) (kd_m11_lowest.at 5 rfl) (by decide) ?_
    refine ok_lcmp (kd_m11_lowest.at 6 rfl) ?_
    refine ok_if_eq (tgt := 31) (kd_m11_lowest.at 7 rfl) (by decide) (fun h1 => ?_) (fun h1 => ?_)
    · refine ok_sub (lv' := [(0, .long c0), (2, .long c2), (4, .int (kb c4)), (5, .long v5)]) [0, 1, 2, 3] rfl ?_
      exact hk31 v5 S
    · refine ok_lload 3 (kd_m11_lowest.at 8 rfl) rfl ?_
      refine ok_lload 4 (kd_m11_lowest.at 9 rfl) rfl ?_
      refine ok_lremG (kd_m11_lowest.at 10 rfl) ?_
      refine ok_topl (fun x2 hx2 => ?_)
      refine ok_lstore (lv' := [(9, .long x2), (0, .long c0), (2, .long c2), (4, .int (kb c4)), (5, .long v5), (7, .long v7)]) (kd_m11_lowest.at 11 rfl) (by decide) rfl ?_
      refine ok_lload 5 (kd_m11_lowest.at 12 rfl) rfl ?_
      refine ok_lstore (lv' := [(5, .long v7), (9, .long x2), (0, .long c0), (2, .long c2), (4, .int (kb c4)), (7, .long v7)]) (kd_m11_lowest.at 13 rfl) (by decide) rfl ?_
      refine ok_lload 1 (kd_m11_lowest.at 14 rfl) rfl ?_
      refine ok_lstore (lv' := [(7, .long x2), (5, .long v7), (9, .long x2), (0, .long c0), (2, .long c2), (4, .int (kb c4))]) (kd_m11_lowest.at 15 rfl) (by decide) rfl ?_
      refine ok_goto (tgt := 6) (kd_m11_lowest.at 16 rfl) (by decide) ?_
      refine ok_sub (lv' := [(0, .long c0), (2, .long c2), (4, .int (kb c4)), (5, .long v7), (7, .long x2)]) [3, 4, 5, 1, 0] rfl ?_
      exact ih v7 x2 S
def f_m11_lowest (a0 : Int64) (a2 : Int64) (a4 : Bool) (S : kSt) : Option (Int64 × kSt) :=
  f_m11_lowest_L6 
    (fun (x3 : Int64) (S4 : kSt) =>
      knx (if a4 then a2 else a0) fun x6 =>
      kgzL x3 (
        some (x6 / x3, S4)
      )
    )
    a0 a2 a4 kFU a2 a0 S
theorem ok_m11_lowest {l : Launch} {G : kG} {E : kE} (a0 : Int64) (a2 : Int64) (a4 : Bool)  (S : kSt) : kFn l G E E kjL m11_lowest 1 [.long a0, .long a2, .int (kb a4)] S (f_m11_lowest a0 a2 a4 S) := by
  unfold f_m11_lowest
  refine kFn_of (by decide +kernel) (fun hG => Nat.le_of_ble_eq_true rfl) ?_
  show kOk _ _ _ _ _ _ _ _ [(0, .long a0), (2, .long a2), (4, .int (kb a4))] _ _
  refine ok_lload_n 1 (kd_m11_lowest.at 0 rfl) rfl rfl ?_
  refine ok_lstore (lv' := [(5, .long a2), (0, .long a0), (2, .long a2), (4, .int (kb a4))]) (kd_m11_lowest.at 1 rfl) (by decide) rfl ?_
  refine ok_lload_n 1 (kd_m11_lowest.at 2 rfl) rfl rfl ?_
  refine ok_lstore (lv' := [(7, .long a0), (5, .long a2), (0, .long a0), (2, .long a2), (4, .int (kb a4))]) (kd_m11_lowest.at 3 rfl) (by decide) rfl ?_
  refine ok_sub (lv' := [(0, .long a0), (2, .long a2), (4, .int (kb a4)), (5, .long a2), (7, .long a0)]) [2, 3, 4, 1, 0] rfl ?_
  refine ok_m11_lowest_L6 a0 a2 a4 _ (fun x3 S4 => ?_) kFU a2 a0 S
  refine ok_iload 2 (kd_m11_lowest.at 17 rfl) rfl ?_
  refine ok_fold (α := Int64) (pcJ := 41) (lvJ := [(0, .long a0), (2, .long a2), (4, .int (kb a4)), (5, .long x3)]) (stJ := []) (mk := fun v => .long v) (fun K => ?_) (fun x6 => ?_)
  · refine ok_ap ?_
    refine ok_ifb_eq (tgt := 40) (kd_m11_lowest.at 18 rfl) (by decide) (fun h5 => ?_) (fun h5 => ?_)
    · refine ok_lload_n 0 (kd_m11_lowest.at 21 rfl) rfl rfl ?_
      exact K a0
    · refine ok_lload_n 1 (kd_m11_lowest.at 19 rfl) rfl rfl ?_
      refine ok_goto (tgt := 41) (kd_m11_lowest.at 20 rfl) (by decide) ?_
      exact K a2
  · refine ok_lload 3 (kd_m11_lowest.at 22 rfl) rfl ?_
    refine ok_ldivG (kd_m11_lowest.at 23 rfl) ?_
    exact ok_lreturn (kd_m11_lowest.at 24 rfl) rfl
def f_m11_feed_L23   (k120 : kSt → Option (Int32 × kSt)) (c1 : Int32) (c2 : Int32) (c3 : Int32) (c4 : Int32) (c5 : Int32) : Nat → Int32 → kSt → Option (Int32 × kSt)
  | 0, _, _ => none
  | n + 1, v6, S =>
    if 20 ≤ v6 then
      k120  S
    else
      knx (fun (x4 : Int32) (S5 : kSt) =>
        knx (S5.1 14 2) fun x7 =>
        kgi x7 900 (
          knx (kuI S5 55 x7.toNatClampNeg ((x4 >>> ((24 - (8 * (krem v6 4))) &&& 31)) &&& 255)) fun S6 =>
          knx (kuI S6 14 2 ((S6.1 14 2) + 1)) fun S8 =>
          knx (v6 + 1) fun x9 =>
          f_m11_feed_L23 k120 c1 c2 c3 c4 c5 n x9 S8
        )
        ) fun j76 =>
      if 4 ≤ v6 then
        if 8 ≤ v6 then
          if 12 ≤ v6 then
            if 16 ≤ v6 then
              j76 c5 S
            else
              j76 c4 S
          else
            j76 c3 S
        else
          j76 c2 S
      else
        j76 c1 S
theorem ok_m11_feed_L23 {l : Launch} {G : kG} {E : kE}    (c1 : Int32) (c2 : Int32) (c3 : Int32) (c4 : Int32) (c5 : Int32) (k120 : kSt → Option (Int32 × kSt)) (hk120 : ∀  (S : kSt), kOk l G E (kZ G E kjI) m11_feed (kdp (1)) (k120  S) 120 [(0, .ref 14)] [] S) : ∀ (n : Nat) (v6 : Int32) (S : kSt), kOk l G E (kZ G E kjI) m11_feed (kdp (1)) (f_m11_feed_L23 k120 c1 c2 c3 c4 c5 n v6 S) 23 [(0, .ref 14), (1, .int c1), (2, .int c2), (3, .int c3), (4, .int c4), (5, .int c5), (6, .int v6)] [] S := by
  intro n
  induction n with
  | zero => intro v6 S; exact ok_none
  | succ n ih =>
    intro v6 S
    rw [f_m11_feed_L23]
    refine ok_iload 6 (kd_m11_feed.at 13 rfl) rfl ?_
    refine ok_bipush (v := 20) (kd_m11_feed.at 14 rfl) (by decide) ?_
    refine ok_icmp_ge (tgt := 120) (kd_m11_feed.at 15 rfl) (by decide) (fun h3 => ?_) (fun h3 => ?_)
    · refine ok_sub (lv' := [(0, .ref 14)]) [0] rfl ?_
      exact hk120  S
    · refine ok_iload 6 (kd_m11_feed.at 16 rfl) rfl ?_
      refine ok_iconst (v := 4) (kd_m11_feed.at 17 rfl) (by decide) ?_
      refine ok_nx (fun j76 hj76 => ?_)
      have K76 : ∀ (x4 : Int32) (S5 : kSt), kOk l G E (kZ G E kjI) m11_feed (kdp (1)) (j76 x4 S5) 76 [(0, .ref 14), (1, .int c1), (2, .int c2), (3, .int c3), (4, .int c4), (5, .int c5), (6, .int v6)] [.int x4] S5 := by
        subst hj76
        intro x4 S5
        refine ok_istore (lv' := [(7, .int x4), (0, .ref 14), (1, .int c1), (2, .int c2), (3, .int c3), (4, .int c4), (5, .int c5), (6, .int v6)]) (kd_m11_feed.at 37 rfl) (by decide) rfl ?_
        refine ok_aload_n 1 (kd_m11_feed.at 38 rfl) rfl rfl ?_
        refine ok_getR (kd_m11_feed.at 39 rfl) kf11_7 sh_14 rfl (kr_14_1 _) ?_
        refine ok_aload_n 1 (kd_m11_feed.at 40 rfl) rfl rfl ?_
        refine ok_getI (kd_m11_feed.at 41 rfl) kf11_65 sh_14 rfl ?_
        refine ok_iload 0 (kd_m11_feed.at 42 rfl) rfl ?_
        refine ok_bipush (v := 24) (kd_m11_feed.at 43 rfl) (by decide) ?_
        refine ok_bipush (v := 8) (kd_m11_feed.at 44 rfl) (by decide) ?_
        refine ok_iload 7 (kd_m11_feed.at 45 rfl) rfl ?_
        refine ok_iconst (v := 4) (kd_m11_feed.at 46 rfl) (by decide) ?_
        refine ok_iremK (kd_m11_feed.at 47 rfl) (by decide) ?_
        refine ok_imul (kd_m11_feed.at 48 rfl) ?_
        refine ok_isub (kd_m11_feed.at 49 rfl) ?_
        refine ok_ishr (kd_m11_feed.at 50 rfl) ?_
        refine ok_sipush (v := 255) (kd_m11_feed.at 51 rfl) (by decide) ?_
        refine ok_iand (kd_m11_feed.at 52 rfl) ?_
        refine ok_sndi (fun x7 hx7 => ?_)
        refine ok_iast (kd_m11_feed.at 53 rfl) sh_55 ?_
        refine ok_nS (fun S6 hS6 => ?_)
        refine ok_aload_n 1 (kd_m11_feed.at 54 rfl) rfl rfl ?_
        refine ok_dup (kd_m11_feed.at 55 rfl) rfl ?_
        refine ok_getI (kd_m11_feed.at 56 rfl) kf11_65 sh_14 rfl ?_
        refine ok_iconst (v := 1) (kd_m11_feed.at 57 rfl) (by decide) ?_
        refine ok_iadd (kd_m11_feed.at 58 rfl) ?_
        refine ok_putI (kd_m11_feed.at 59 rfl) kf11_65 sh_14 rfl rfl ?_
        refine ok_nS (fun S8 hS8 => ?_)
        refine ok_nx (fun x9 hx9 => ?_)
        refine ok_iinc (v := x9) (lv' := [(6, .int x9), (7, .int x4), (0, .ref 14), (1, .int c1), (2, .int c2), (3, .int c3), (4, .int c4), (5, .int c5)]) 7 (kd_m11_feed.at 60 rfl) rfl hx9.symm (by decide) rfl ?_
        refine ok_goto (tgt := 23) (kd_m11_feed.at 61 rfl) (by decide) ?_
        refine ok_sub (lv' := [(0, .ref 14), (1, .int c1), (2, .int c2), (3, .int c3), (4, .int c4), (5, .int c5), (6, .int x9)]) [2, 3, 4, 5, 6, 7, 0] rfl ?_
        exact ih x9 S8
      clear hj76
      refine ok_icmp_ge (tgt := 40) (kd_m11_feed.at 18 rfl) (by decide) (fun h10 => ?_) (fun h10 => ?_)
      · refine ok_iload 6 (kd_m11_feed.at 21 rfl) rfl ?_
        refine ok_bipush (v := 8) (kd_m11_feed.at 22 rfl) (by decide) ?_
        refine ok_icmp_ge (tgt := 51) (kd_m11_feed.at 23 rfl) (by decide) (fun h11 => ?_) (fun h11 => ?_)
        · refine ok_iload 6 (kd_m11_feed.at 26 rfl) rfl ?_
          refine ok_bipush (v := 12) (kd_m11_feed.at 27 rfl) (by decide) ?_
          refine ok_icmp_ge (tgt := 62) (kd_m11_feed.at 28 rfl) (by decide) (fun h12 => ?_) (fun h12 => ?_)
          · refine ok_iload 6 (kd_m11_feed.at 31 rfl) rfl ?_
            refine ok_bipush (v := 16) (kd_m11_feed.at 32 rfl) (by decide) ?_
            refine ok_icmp_ge (tgt := 74) (kd_m11_feed.at 33 rfl) (by decide) (fun h13 => ?_) (fun h13 => ?_)
            · refine ok_iload 5 (kd_m11_feed.at 36 rfl) rfl ?_
              exact K76 c5 S
            · refine ok_iload 4 (kd_m11_feed.at 34 rfl) rfl ?_
              refine ok_goto (tgt := 76) (kd_m11_feed.at 35 rfl) (by decide) ?_
              exact K76 c4 S
          · refine ok_iload_n 3 (kd_m11_feed.at 29 rfl) rfl rfl ?_
            refine ok_goto (tgt := 76) (kd_m11_feed.at 30 rfl) (by decide) ?_
            exact K76 c3 S
        · refine ok_iload_n 2 (kd_m11_feed.at 24 rfl) rfl rfl ?_
          refine ok_goto (tgt := 76) (kd_m11_feed.at 25 rfl) (by decide) ?_
          exact K76 c2 S
      · refine ok_iload_n 1 (kd_m11_feed.at 19 rfl) rfl rfl ?_
        refine ok_goto (tgt := 76) (kd_m11_feed.at 20 rfl) (by decide) ?_
        exact K76 c1 S
def f_m11_feed (a1 : Int32) (a2 : Int32) (a3 : Int32) (a4 : Int32) (a5 : Int32) (S : kSt) : Option (Int32 × kSt) :=
  knx (kuI S 14 0 0) fun S1 =>
  if ((S1.1 14 2) + 20) ≤ 900 then
    f_m11_feed_L23 
      (fun  (S14 : kSt) =>
        some (S14.1 14 2, S14)
      )
      a1 a2 a3 a4 a5 kFU 0 S1
  else
    some ((-1), S1)
theorem ok_m11_feed {l : Launch} {G : kG} {E : kE} (a1 : Int32) (a2 : Int32) (a3 : Int32) (a4 : Int32) (a5 : Int32)  (S : kSt) : kFn l G E E kjI m11_feed 1 [.ref 14, .int a1, .int a2, .int a3, .int a4, .int a5] S (f_m11_feed a1 a2 a3 a4 a5 S) := by
  unfold f_m11_feed
  refine kFn_of (by decide +kernel) (fun hG => Nat.le_of_ble_eq_true rfl) ?_
  show kOk _ _ _ _ _ _ _ _ [(0, .ref 14), (1, .int a1), (2, .int a2), (3, .int a3), (4, .int a4), (5, .int a5)] _ _
  refine ok_aload_n 0 (kd_m11_feed.at 0 rfl) rfl rfl ?_
  refine ok_iconst (v := 0) (kd_m11_feed.at 1 rfl) (by decide) ?_
  refine ok_putI (kd_m11_feed.at 2 rfl) kf11_59 sh_14 rfl rfl ?_
  refine ok_nS (fun S1 hS1 => ?_)
  refine ok_aload_n 0 (kd_m11_feed.at 3 rfl) rfl rfl ?_
  refine ok_getI (kd_m11_feed.at 4 rfl) kf11_65 sh_14 rfl ?_
  refine ok_bipush (v := 20) (kd_m11_feed.at 5 rfl) (by decide) ?_
  refine ok_iadd (kd_m11_feed.at 6 rfl) ?_
  refine ok_sipush (v := 900) (kd_m11_feed.at 7 rfl) (by decide) ?_
  refine ok_icmp_le (tgt := 20) (kd_m11_feed.at 8 rfl) (by decide) (fun h2 => ?_) (fun h2 => ?_)
  · refine ok_iconst (v := 0) (kd_m11_feed.at 11 rfl) (by decide) ?_
    refine ok_istore (lv' := [(6, .int 0), (0, .ref 14), (1, .int a1), (2, .int a2), (3, .int a3), (4, .int a4), (5, .int a5)]) (kd_m11_feed.at 12 rfl) (by decide) rfl ?_
    refine ok_sub (lv' := [(0, .ref 14), (1, .int a1), (2, .int a2), (3, .int a3), (4, .int a4), (5, .int a5), (6, .int 0)]) [1, 2, 3, 4, 5, 6, 0] rfl ?_
    refine ok_m11_feed_L23 a1 a2 a3 a4 a5 _ (fun S14 => ?_) kFU 0 S1
    refine ok_aload_n 0 (kd_m11_feed.at 62 rfl) rfl rfl ?_
    refine ok_getI (kd_m11_feed.at 63 rfl) kf11_65 sh_14 rfl ?_
    exact ok_ireturn (kd_m11_feed.at 64 rfl) rfl
  · refine ok_iconst (v := (-1)) (kd_m11_feed.at 9 rfl) (by decide) ?_
    exact ok_ireturn (kd_m11_feed.at 10 rfl) rfl
def f_m11_see (a1 : Int32) (S : kSt) : Option (Int32 × kSt) :=
  if (S.1 14 3) ≤ a1 then
    some ((-1), S)
  else
    kgi a1 900 (
      some (S.1 55 a1.toNatClampNeg, S)
    )
theorem ok_m11_see {l : Launch} {G : kG} {E : kE} (a1 : Int32)  (S : kSt) : kFn l G E E kjI m11_see 1 [.ref 14, .int a1] S (f_m11_see a1 S) := by
  unfold f_m11_see
  refine kFn_of (by decide +kernel) (fun hG => Nat.le_of_ble_eq_true rfl) ?_
  show kOk _ _ _ _ _ _ _ _ [(0, .ref 14), (1, .int a1)] _ _
  refine ok_iload_n 1 (kd_m11_see.at 0 rfl) rfl rfl ?_
  refine ok_aload_n 0 (kd_m11_see.at 1 rfl) rfl rfl ?_
  refine ok_getI (kd_m11_see.at 2 rfl) kf11_68 sh_14 rfl ?_
  refine ok_icmp_ge (tgt := 17) (kd_m11_see.at 3 rfl) (by decide) (fun h1 => ?_) (fun h1 => ?_)
  · refine ok_iconst (v := (-1)) (kd_m11_see.at 9 rfl) (by decide) ?_
    exact ok_ireturn (kd_m11_see.at 10 rfl) rfl
  · refine ok_aload_n 0 (kd_m11_see.at 4 rfl) rfl rfl ?_
    refine ok_getR (kd_m11_see.at 5 rfl) kf11_7 sh_14 rfl (kr_14_1 _) ?_
    refine ok_iload_n 1 (kd_m11_see.at 6 rfl) rfl rfl ?_
    refine ok_iald (kd_m11_see.at 7 rfl) sh_55 ?_
    refine ok_goto (tgt := 18) (kd_m11_see.at 8 rfl) (by decide) ?_
    exact ok_ireturn (kd_m11_see.at 10 rfl) rfl
def f_m11_isSmall (a0 : Int32) (S : kSt) : Option (Bool × kSt) :=
  if a0 < 97 then
    some (false, S)
  else
    if 122 < a0 then
      some (false, S)
    else
      some (true, S)
theorem ok_m11_isSmall {l : Launch} {G : kG} {E : kE} (a0 : Int32)  (S : kSt) : kFn l G E E kjB m11_isSmall 1 [.int a0] S (f_m11_isSmall a0 S) := by
  unfold f_m11_isSmall
  refine kFn_of (by decide +kernel) (fun hG => Nat.le_of_ble_eq_true rfl) ?_
  show kOk _ _ _ _ _ _ _ _ [(0, .int a0)] _ _
  refine ok_iload_n 0 (kd_m11_isSmall.at 0 rfl) rfl rfl ?_
  refine ok_bipush (v := 97) (kd_m11_isSmall.at 1 rfl) (by decide) ?_
  refine ok_icmp_lt (tgt := 16) (kd_m11_isSmall.at 2 rfl) (by decide) (fun h1 => ?_) (fun h1 => ?_)
  · refine ok_iconst (v := 0) (kd_m11_isSmall.at 8 rfl) (by decide) ?_
    exact ok_zreturn (x := false) (kd_m11_isSmall.at 9 rfl) rfl
  · refine ok_iload_n 0 (kd_m11_isSmall.at 3 rfl) rfl rfl ?_
    refine ok_bipush (v := 122) (kd_m11_isSmall.at 4 rfl) (by decide) ?_
    refine ok_icmp_gt (tgt := 16) (kd_m11_isSmall.at 5 rfl) (by decide) (fun h2 => ?_) (fun h2 => ?_)
    · refine ok_iconst (v := 0) (kd_m11_isSmall.at 8 rfl) (by decide) ?_
      exact ok_zreturn (x := false) (kd_m11_isSmall.at 9 rfl) rfl
    · refine ok_iconst (v := 1) (kd_m11_isSmall.at 6 rfl) (by decide) ?_
      refine ok_goto (tgt := 17) (kd_m11_isSmall.at 7 rfl) (by decide) ?_
      exact ok_zreturn (x := true) (kd_m11_isSmall.at 9 rfl) rfl
def f_m11_isDigit (a0 : Int32) (S : kSt) : Option (Bool × kSt) :=
  if a0 < 48 then
    some (false, S)
  else
    if 57 < a0 then
      some (false, S)
    else
      some (true, S)
theorem ok_m11_isDigit {l : Launch} {G : kG} {E : kE} (a0 : Int32)  (S : kSt) : kFn l G E E kjB m11_isDigit 1 [.int a0] S (f_m11_isDigit a0 S) := by
  unfold f_m11_isDigit
  refine kFn_of (by decide +kernel) (fun hG => Nat.le_of_ble_eq_true rfl) ?_
  show kOk _ _ _ _ _ _ _ _ [(0, .int a0)] _ _
  refine ok_iload_n 0 (kd_m11_isDigit.at 0 rfl) rfl rfl ?_
  refine ok_bipush (v := 48) (kd_m11_isDigit.at 1 rfl) (by decide) ?_
  refine ok_icmp_lt (tgt := 16) (kd_m11_isDigit.at 2 rfl) (by decide) (fun h1 => ?_) (fun h1 => ?_)
  · refine ok_iconst (v := 0) (kd_m11_isDigit.at 8 rfl) (by decide) ?_
    exact ok_zreturn (x := false) (kd_m11_isDigit.at 9 rfl) rfl
  · refine ok_iload_n 0 (kd_m11_isDigit.at 3 rfl) rfl rfl ?_
    refine ok_bipush (v := 57) (kd_m11_isDigit.at 4 rfl) (by decide) ?_
    refine ok_icmp_gt (tgt := 16) (kd_m11_isDigit.at 5 rfl) (by decide) (fun h2 => ?_) (fun h2 => ?_)
    · refine ok_iconst (v := 0) (kd_m11_isDigit.at 8 rfl) (by decide) ?_
      exact ok_zreturn (x := false) (kd_m11_isDigit.at 9 rfl) rfl
    · refine ok_iconst (v := 1) (kd_m11_isDigit.at 6 rfl) (by decide) ?_
      refine ok_goto (tgt := 17) (kd_m11_isDigit.at 7 rfl) (by decide) ?_
      exact ok_zreturn (x := true) (kd_m11_isDigit.at 9 rfl) rfl
def f_m11_next_L5   (k21 : Int32 → kSt → Option kSt)  : Nat → Int32 → kSt → Option kSt
  | 0, _, _ => none
  | n + 1, v1, S =>
    (f_m11_see v1 S).bind fun q2 =>
    if q2.1 = 32 then
      knx (v1 + 1) fun x4 =>
      f_m11_next_L5 k21 n x4 q2.2
    else
      k21 v1 q2.2
theorem ok_m11_next_L5 {l : Launch} {G : kG} {E : kE}     (k21 : Int32 → kSt → Option kSt) (hk21 : ∀ (v1 : Int32) (S : kSt), kOk l G E (kZ G E kjV) m11_next (kdp (2)) (k21 v1 S) 21 [(0, .ref 14), (1, .int v1)] [] S) : ∀ (n : Nat) (v1 : Int32) (S : kSt), kOk l G E (kZ G E kjV) m11_next (kdp (2)) (f_m11_next_L5 k21 n v1 S) 5 [(0, .ref 14), (1, .int v1)] [] S := by
  intro n
  induction n with
  | zero => intro v1 S; exact ok_none
  | succ n ih =>
    intro v1 S
    rw [f_m11_next_L5]
    refine ok_aload_n 0 (kd_m11_next.at 3 rfl) rfl rfl ?_
    refine ok_iload_n 1 (kd_m11_next.at 4 rfl) rfl rfl ?_
    refine ok_callVI (M' := m11_see) (as := [.int v1]) (st := []) (kd_m11_next.at 5 rfl) kc11_74 sh_14 rfl rfl (by decide) (ok_m11_see v1 S) (kfit_of (by decide)) rfl (Nat.le_of_ble_eq_true rfl) (fun q2 hq2 => ?_)
    refine ok_bipush (v := 32) (kd_m11_next.at 6 rfl) (by decide) ?_
    refine ok_icmp_ne (tgt := 21) (kd_m11_next.at 7 rfl) (by decide) (fun h3 => ?_) (fun h3 => ?_)
    · exact hk21 v1 q2.2
    · refine ok_nx (fun x4 hx4 => ?_)
      refine ok_iinc (v := x4) (lv' := [(1, .int x4), (0, .ref 14)]) 1 (kd_m11_next.at 8 rfl) rfl hx4.symm (by decide) rfl ?_
      refine ok_goto (tgt := 5) (kd_m11_next.at 9 rfl) (by decide) ?_
      refine ok_sub (lv' := [(0, .ref 14), (1, .int x4)]) [1, 0] rfl ?_
      exact ih x4 q2.2
def f_m11_next_L152   (k197 : Int32 → Int32 → kSt → Option kSt)  : Nat → Int32 → Int32 → kSt → Option kSt
  | 0, _, _, _ => none
  | n + 1, v1, v3, S =>
    (f_m11_see v1 S).bind fun q20 =>
    (f_m11_isDigit q20.1 q20.2).bind fun q21 =>
    if q21.1 then
      knx (fun  (S23 : kSt) =>
        knx (v3 + 1) fun x24 =>
        knx (v1 + 1) fun x25 =>
        f_m11_next_L152 k197 n x25 x24 S23
        ) fun j188 =>
      if 3 ≤ v3 then
        j188  q21.2
      else
        (f_m11_see v1 q21.2).bind fun q27 =>
        knx (kuI q27.2 14 7 (((10 * (q21.2.1 14 7)) + q27.1) - 48)) fun S28 =>
        j188  S28
    else
      k197 v1 v3 q21.2
theorem ok_m11_next_L152 {l : Launch} {G : kG} {E : kE}     (k197 : Int32 → Int32 → kSt → Option kSt) (hk197 : ∀ (v1 : Int32) (v3 : Int32) (S : kSt), kOk l G E (kZ G E kjV) m11_next (kdp (2)) (k197 v1 v3 S) 197 [(0, .ref 14), (1, .int v1), (3, .int v3)] [] S) : ∀ (n : Nat) (v1 : Int32) (v3 : Int32) (S : kSt), kOk l G E (kZ G E kjV) m11_next (kdp (2)) (f_m11_next_L152 k197 n v1 v3 S) 152 [(0, .ref 14), (1, .int v1), (3, .int v3)] [] S := by
  intro n
  induction n with
  | zero => intro v1 v3 S; exact ok_none
  | succ n ih =>
    intro v1 v3 S
    rw [f_m11_next_L152]
    refine ok_aload_n 0 (kd_m11_next.at 79 rfl) rfl rfl ?_
    refine ok_iload_n 1 (kd_m11_next.at 80 rfl) rfl rfl ?_
    refine ok_callVI (M' := m11_see) (as := [.int v1]) (st := []) (kd_m11_next.at 81 rfl) kc11_74 sh_14 rfl rfl (by decide) (ok_m11_see v1 S) (kfit_of (by decide)) rfl (Nat.le_of_ble_eq_true rfl) (fun q20 hq20 => ?_)
    refine ok_callSB (M' := m11_isDigit) (as := [.int q20.1]) (st := []) (kd_m11_next.at 82 rfl) kc11_94  rfl (by decide) (ok_m11_isDigit q20.1 q20.2) (kfit_of (by decide)) rfl (Nat.le_of_ble_eq_true rfl) (fun q21 hq21 => ?_)
    refine ok_ifb_eq (tgt := 197) (kd_m11_next.at 83 rfl) (by decide) (fun h22 => ?_) (fun h22 => ?_)
    · exact hk197 v1 v3 q21.2
    · refine ok_iload_n 2 (kd_m11_next.at 84 rfl) rfl rfl ?_
      refine ok_iconst (v := 3) (kd_m11_next.at 85 rfl) (by decide) ?_
      refine ok_nx (fun j188 hj188 => ?_)
      have K188 : ∀  (S23 : kSt), kOk l G E (kZ G E kjV) m11_next (kdp (2)) (j188  S23) 188 [(0, .ref 14), (1, .int v1), (3, .int v3)] [] S23 := by
        subst hj188
        intro  S23
        refine ok_nx (fun x24 hx24 => ?_)
        refine ok_iinc (v := x24) (lv' := [(3, .int x24), (0, .ref 14), (1, .int v1)]) 2 (kd_m11_next.at 99 rfl) rfl hx24.symm (by decide) rfl ?_
        refine ok_nx (fun x25 hx25 => ?_)
        refine ok_iinc (v := x25) (lv' := [(1, .int x25), (3, .int x24), (0, .ref 14)]) 2 (kd_m11_next.at 100 rfl) rfl hx25.symm (by decide) rfl ?_
        refine ok_goto (tgt := 152) (kd_m11_next.at 101 rfl) (by decide) ?_
        refine ok_sub (lv' := [(0, .ref 14), (1, .int x25), (3, .int x24)]) [2, 0, 1] rfl ?_
        exact ih x25 x24 S23
      clear hj188
      refine ok_icmp_ge (tgt := 188) (kd_m11_next.at 86 rfl) (by decide) (fun h26 => ?_) (fun h26 => ?_)
      · exact K188  q21.2
      · refine ok_aload_n 0 (kd_m11_next.at 87 rfl) rfl rfl ?_
        refine ok_bipush (v := 10) (kd_m11_next.at 88 rfl) (by decide) ?_
        refine ok_aload_n 0 (kd_m11_next.at 89 rfl) rfl rfl ?_
        refine ok_getI (kd_m11_next.at 90 rfl) kf11_84 sh_14 rfl ?_
        refine ok_imul (kd_m11_next.at 91 rfl) ?_
        refine ok_aload_n 0 (kd_m11_next.at 92 rfl) rfl rfl ?_
        refine ok_iload_n 1 (kd_m11_next.at 93 rfl) rfl rfl ?_
        refine ok_callVI (M' := m11_see) (as := [.int v1]) (st := [.int (10 * (q21.2.1 14 7)), .ref 14]) (kd_m11_next.at 94 rfl) kc11_74 sh_14 rfl rfl (by decide) (ok_m11_see v1 q21.2) (kfit_of (by decide)) rfl (Nat.le_of_ble_eq_true rfl) (fun q27 hq27 => ?_)
        refine ok_iadd (kd_m11_next.at 95 rfl) ?_
        refine ok_bipush (v := 48) (kd_m11_next.at 96 rfl) (by decide) ?_
        refine ok_isub (kd_m11_next.at 97 rfl) ?_
        refine ok_putI (kd_m11_next.at 98 rfl) kf11_84 sh_14 rfl rfl ?_
        refine ok_nS (fun S28 hS28 => ?_)
        exact K188  S28
def f_m11_next_L67   (k117 : Int32 → kSt → Option kSt)  : Nat → Int32 → kSt → Option kSt
  | 0, _, _ => none
  | n + 1, v1, S =>
    (f_m11_see v1 S).bind fun q36 =>
    (f_m11_isSmall q36.1 q36.2).bind fun q37 =>
    if q37.1 then
      knx (fun  (S39 : kSt) =>
        knx (kuI S39 14 8 ((S39.1 14 8) + 1)) fun S40 =>
        knx (v1 + 1) fun x41 =>
        f_m11_next_L67 k117 n x41 S40
        ) fun j101 =>
      if 8 ≤ (q37.2.1 14 8) then
        j101  q37.2
      else
        (f_m11_see v1 q37.2).bind fun q43 =>
        knx (q37.2.1 14 8) fun x45 =>
        kgi x45 8 (
          knx (kuI q43.2 56 x45.toNatClampNeg q43.1) fun S44 =>
          j101  S44
        )
    else
      k117 v1 q37.2
theorem ok_m11_next_L67 {l : Launch} {G : kG} {E : kE}     (k117 : Int32 → kSt → Option kSt) (hk117 : ∀ (v1 : Int32) (S : kSt), kOk l G E (kZ G E kjV) m11_next (kdp (2)) (k117 v1 S) 117 [(0, .ref 14), (1, .int v1)] [] S) : ∀ (n : Nat) (v1 : Int32) (S : kSt), kOk l G E (kZ G E kjV) m11_next (kdp (2)) (f_m11_next_L67 k117 n v1 S) 67 [(0, .ref 14), (1, .int v1)] [] S := by
  intro n
  induction n with
  | zero => intro v1 S; exact ok_none
  | succ n ih =>
    intro v1 S
    rw [f_m11_next_L67]
    refine ok_aload_n 0 (kd_m11_next.at 36 rfl) rfl rfl ?_
    refine ok_iload_n 1 (kd_m11_next.at 37 rfl) rfl rfl ?_
    refine ok_callVI (M' := m11_see) (as := [.int v1]) (st := []) (kd_m11_next.at 38 rfl) kc11_74 sh_14 rfl rfl (by decide) (ok_m11_see v1 S) (kfit_of (by decide)) rfl (Nat.le_of_ble_eq_true rfl) (fun q36 hq36 => ?_)
    refine ok_callSB (M' := m11_isSmall) (as := [.int q36.1]) (st := []) (kd_m11_next.at 39 rfl) kc11_90  rfl (by decide) (ok_m11_isSmall q36.1 q36.2) (kfit_of (by decide)) rfl (Nat.le_of_ble_eq_true rfl) (fun q37 hq37 => ?_)
    refine ok_ifb_eq (tgt := 117) (kd_m11_next.at 40 rfl) (by decide) (fun h38 => ?_) (fun h38 => ?_)
    · exact hk117 v1 q37.2
    · refine ok_aload_n 0 (kd_m11_next.at 41 rfl) rfl rfl ?_
      refine ok_getI (kd_m11_next.at 42 rfl) kf11_81 sh_14 rfl ?_
      refine ok_bipush (v := 8) (kd_m11_next.at 43 rfl) (by decide) ?_
      refine ok_nx (fun j101 hj101 => ?_)
      have K101 : ∀  (S39 : kSt), kOk l G E (kZ G E kjV) m11_next (kdp (2)) (j101  S39) 101 [(0, .ref 14), (1, .int v1)] [] S39 := by
        subst hj101
        intro  S39
        refine ok_aload_n 0 (kd_m11_next.at 53 rfl) rfl rfl ?_
        refine ok_dup (kd_m11_next.at 54 rfl) rfl ?_
        refine ok_getI (kd_m11_next.at 55 rfl) kf11_81 sh_14 rfl ?_
        refine ok_iconst (v := 1) (kd_m11_next.at 56 rfl) (by decide) ?_
        refine ok_iadd (kd_m11_next.at 57 rfl) ?_
        refine ok_putI (kd_m11_next.at 58 rfl) kf11_81 sh_14 rfl rfl ?_
        refine ok_nS (fun S40 hS40 => ?_)
        refine ok_nx (fun x41 hx41 => ?_)
        refine ok_iinc (v := x41) (lv' := [(1, .int x41), (0, .ref 14)]) 1 (kd_m11_next.at 59 rfl) rfl hx41.symm (by decide) rfl ?_
        refine ok_goto (tgt := 67) (kd_m11_next.at 60 rfl) (by decide) ?_
        refine ok_sub (lv' := [(0, .ref 14), (1, .int x41)]) [1, 0] rfl ?_
        exact ih x41 S40
      clear hj101
      refine ok_icmp_ge (tgt := 101) (kd_m11_next.at 44 rfl) (by decide) (fun h42 => ?_) (fun h42 => ?_)
      · exact K101  q37.2
      · refine ok_aload_n 0 (kd_m11_next.at 45 rfl) rfl rfl ?_
        refine ok_getR (kd_m11_next.at 46 rfl) kf11_17 sh_14 rfl (kr_14_12 _) ?_
        refine ok_aload_n 0 (kd_m11_next.at 47 rfl) rfl rfl ?_
        refine ok_getI (kd_m11_next.at 48 rfl) kf11_81 sh_14 rfl ?_
        refine ok_aload_n 0 (kd_m11_next.at 49 rfl) rfl rfl ?_
        refine ok_iload_n 1 (kd_m11_next.at 50 rfl) rfl rfl ?_
        refine ok_callVI (M' := m11_see) (as := [.int v1]) (st := [.int (q37.2.1 14 8), .ref 56]) (kd_m11_next.at 51 rfl) kc11_74 sh_14 rfl rfl (by decide) (ok_m11_see v1 q37.2) (kfit_of (by decide)) rfl (Nat.le_of_ble_eq_true rfl) (fun q43 hq43 => ?_)
        refine ok_sndi (fun x45 hx45 => ?_)
        refine ok_iast (kd_m11_next.at 52 rfl) sh_56 ?_
        refine ok_nS (fun S44 hS44 => ?_)
        exact K101  S44
def f_m11_next  (S : kSt) : Option kSt :=
  knx (S.1 14 5) fun x1 =>
  f_m11_next_L5 
    (fun (x5 : Int32) (S6 : kSt) =>
      knx (kuI S6 14 4 x5) fun S7 =>
      (f_m11_see x5 S7).bind fun q8 =>
      knx (kuI q8.2 14 8 0) fun S9 =>
      knx (kuI S9 14 7 0) fun S10 =>
      if q8.1 = (-1) then
        knx (kuI S10 14 6 0) fun S52 =>
        knx (kuI S52 14 5 x5) fun S53 =>
        some S53
      else
        (f_m11_isSmall q8.1 S10).bind fun q12 =>
        if q12.1 then
          f_m11_next_L67 
            (fun (x46 : Int32) (S47 : kSt) =>
              knx (kuI S47 14 5 x46) fun S48 =>
              knx (if (S48.1 14 8) ≤ 8 then 2 else 1) fun x50 =>
              knx (kuI S48 14 6 x50) fun S51 =>
              some S51
            )
            kFU x5 q12.2
        else
          (f_m11_isDigit q8.1 q12.2).bind fun q14 =>
          if q14.1 then
            f_m11_next_L152 
              (fun (x29 : Int32) (x30 : Int32) (S31 : kSt) =>
                knx (kuI S31 14 5 x29) fun S32 =>
                knx (if x30 ≤ 3 then 3 else 1) fun x34 =>
                knx (kuI S32 14 6 x34) fun S35 =>
                some S35
              )
              kFU x5 0 q14.2
          else
            knx (kuI q14.2 14 5 (x5 + 1)) fun S16 =>
            knx (if q8.1 = 59 then q8.1 else 1) fun x18 =>
            knx (kuI S16 14 6 x18) fun S19 =>
            some S19
    )
    kFU x1 S
theorem ok_m11_next {l : Launch} {G : kG} {E : kE}   (S : kSt) : kFn l G E E kjV m11_next 2 [.ref 14] S (f_m11_next  S) := by
  unfold f_m11_next
  refine kFn_of (by decide +kernel) (fun hG => Nat.le_of_ble_eq_true rfl) ?_
  show kOk _ _ _ _ _ _ _ _ [(0, .ref 14)] _ _
  refine ok_aload_n 0 (kd_m11_next.at 0 rfl) rfl rfl ?_
  refine ok_getI (kd_m11_next.at 1 rfl) kf11_71 sh_14 rfl ?_
  refine ok_topi (fun x1 hx1 => ?_)
  refine ok_istore_n (lv' := [(1, .int x1), (0, .ref 14)]) (kd_m11_next.at 2 rfl) rfl (by decide) rfl ?_
  refine ok_sub (lv' := [(0, .ref 14), (1, .int x1)]) [1, 0] rfl ?_
  refine ok_m11_next_L5 _ (fun x5 S6 => ?_) kFU x1 S
  refine ok_aload_n 0 (kd_m11_next.at 10 rfl) rfl rfl ?_
  refine ok_iload_n 1 (kd_m11_next.at 11 rfl) rfl rfl ?_
  refine ok_putI (kd_m11_next.at 12 rfl) kf11_78 sh_14 rfl rfl ?_
  refine ok_nS (fun S7 hS7 => ?_)
  refine ok_aload_n 0 (kd_m11_next.at 13 rfl) rfl rfl ?_
  refine ok_iload_n 1 (kd_m11_next.at 14 rfl) rfl rfl ?_
  refine ok_callVI (M' := m11_see) (as := [.int x5]) (st := []) (kd_m11_next.at 15 rfl) kc11_74 sh_14 rfl rfl (by decide) (ok_m11_see x5 S7) (kfit_of (by decide)) rfl (Nat.le_of_ble_eq_true rfl) (fun q8 hq8 => ?_)
  refine ok_istore_n (lv' := [(2, .int q8.1), (0, .ref 14), (1, .int x5)]) (kd_m11_next.at 16 rfl) rfl (by decide) rfl ?_
  refine ok_aload_n 1 (kd_m11_next.at 17 rfl) rfl rfl ?_
  refine ok_iconst (v := 0) (kd_m11_next.at 18 rfl) (by decide) ?_
  refine ok_putI (kd_m11_next.at 19 rfl) kf11_81 sh_14 rfl rfl ?_
  refine ok_nS (fun S9 hS9 => ?_)
  refine ok_aload_n 1 (kd_m11_next.at 20 rfl) rfl rfl ?_
  refine ok_iconst (v := 0) (kd_m11_next.at 21 rfl) (by decide) ?_
  refine ok_putI (kd_m11_next.at 22 rfl) kf11_84 sh_14 rfl rfl ?_
  refine ok_nS (fun S10 hS10 => ?_)
  refine ok_iload_n 0 (kd_m11_next.at 23 rfl) rfl rfl ?_
  refine ok_iconst (v := (-1)) (kd_m11_next.at 24 rfl) (by decide) ?_
  refine ok_icmp_ne (tgt := 60) (kd_m11_next.at 25 rfl) (by decide) (fun h11 => ?_) (fun h11 => ?_)
  · refine ok_iload_n 0 (kd_m11_next.at 33 rfl) rfl rfl ?_
    refine ok_callSB (M' := m11_isSmall) (as := [.int q8.1]) (st := []) (kd_m11_next.at 34 rfl) kc11_90  rfl (by decide) (ok_m11_isSmall q8.1 S10) (kfit_of (by decide)) rfl (Nat.le_of_ble_eq_true rfl) (fun q12 hq12 => ?_)
    refine ok_ifb_eq (tgt := 143) (kd_m11_next.at 35 rfl) (by decide) (fun h13 => ?_) (fun h13 => ?_)
    · refine ok_iload_n 0 (kd_m11_next.at 74 rfl) rfl rfl ?_
      refine ok_callSB (M' := m11_isDigit) (as := [.int q8.1]) (st := []) (kd_m11_next.at 75 rfl) kc11_94  rfl (by decide) (ok_m11_isDigit q8.1 q12.2) (kfit_of (by decide)) rfl (Nat.le_of_ble_eq_true rfl) (fun q14 hq14 => ?_)
      refine ok_ifb_eq (tgt := 219) (kd_m11_next.at 76 rfl) (by decide) (fun h15 => ?_) (fun h15 => ?_)
      · refine ok_aload_n 1 (kd_m11_next.at 114 rfl) rfl rfl ?_
        refine ok_iload_n 2 (kd_m11_next.at 115 rfl) rfl rfl ?_
        refine ok_iconst (v := 1) (kd_m11_next.at 116 rfl) (by decide) ?_
        refine ok_iadd (kd_m11_next.at 117 rfl) ?_
        refine ok_putI (kd_m11_next.at 118 rfl) kf11_71 sh_14 rfl rfl ?_
        refine ok_nS (fun S16 hS16 => ?_)
        refine ok_aload_n 1 (kd_m11_next.at 119 rfl) rfl rfl ?_
        refine ok_iload_n 0 (kd_m11_next.at 120 rfl) rfl rfl ?_
        refine ok_bipush (v := 59) (kd_m11_next.at 121 rfl) (by decide) ?_
        refine ok_fold (α := Int32) (pcJ := 238) (lvJ := [(2, .int q8.1), (0, .ref 14), (1, .int x5)]) (stJ := [.ref 14]) (mk := fun v => .int v) (fun K => ?_) (fun x18 => ?_)
        · refine ok_ap ?_
          refine ok_icmp_ne (tgt := 237) (kd_m11_next.at 122 rfl) (by decide) (fun h17 => ?_) (fun h17 => ?_)
          · refine ok_iconst (v := 1) (kd_m11_next.at 125 rfl) (by decide) ?_
            exact K 1
          · refine ok_iload_n 0 (kd_m11_next.at 123 rfl) rfl rfl ?_
            refine ok_goto (tgt := 238) (kd_m11_next.at 124 rfl) (by decide) ?_
            exact K q8.1
        · refine ok_putI (kd_m11_next.at 126 rfl) kf11_87 sh_14 rfl rfl ?_
          refine ok_nS (fun S19 hS19 => ?_)
          exact ok_return (kd_m11_next.at 127 rfl) rfl
      · refine ok_iconst (v := 0) (kd_m11_next.at 77 rfl) (by decide) ?_
        refine ok_istore_n (lv' := [(3, .int 0), (2, .int q8.1), (0, .ref 14), (1, .int x5)]) (kd_m11_next.at 78 rfl) rfl (by decide) rfl ?_
        refine ok_sub (lv' := [(0, .ref 14), (1, .int x5), (3, .int 0)]) [2, 3, 0] rfl ?_
        refine ok_m11_next_L152 _ (fun x29 x30 S31 => ?_) kFU x5 0 q14.2
        refine ok_aload_n 0 (kd_m11_next.at 102 rfl) rfl rfl ?_
        refine ok_iload_n 1 (kd_m11_next.at 103 rfl) rfl rfl ?_
        refine ok_putI (kd_m11_next.at 104 rfl) kf11_71 sh_14 rfl rfl ?_
        refine ok_nS (fun S32 hS32 => ?_)
        refine ok_aload_n 0 (kd_m11_next.at 105 rfl) rfl rfl ?_
        refine ok_iload_n 2 (kd_m11_next.at 106 rfl) rfl rfl ?_
        refine ok_iconst (v := 3) (kd_m11_next.at 107 rfl) (by decide) ?_
        refine ok_fold (α := Int32) (pcJ := 213) (lvJ := [(0, .ref 14), (1, .int x29), (3, .int x30)]) (stJ := [.ref 14]) (mk := fun v => .int v) (fun K => ?_) (fun x34 => ?_)
        · refine ok_ap ?_
          refine ok_icmp_le (tgt := 212) (kd_m11_next.at 108 rfl) (by decide) (fun h33 => ?_) (fun h33 => ?_)
          · refine ok_iconst (v := 3) (kd_m11_next.at 111 rfl) (by decide) ?_
            exact K 3
          · refine ok_iconst (v := 1) (kd_m11_next.at 109 rfl) (by decide) ?_
            refine ok_goto (tgt := 213) (kd_m11_next.at 110 rfl) (by decide) ?_
            exact K 1
        · refine ok_putI (kd_m11_next.at 112 rfl) kf11_87 sh_14 rfl rfl ?_
          refine ok_nS (fun S35 hS35 => ?_)
          refine ok_goto (tgt := 241) (kd_m11_next.at 113 rfl) (by decide) ?_
          exact ok_return (kd_m11_next.at 127 rfl) rfl
    · refine ok_sub (lv' := [(0, .ref 14), (1, .int x5)]) [1, 2] rfl ?_
      refine ok_m11_next_L67 _ (fun x46 S47 => ?_) kFU x5 q12.2
      refine ok_aload_n 0 (kd_m11_next.at 61 rfl) rfl rfl ?_
      refine ok_iload_n 1 (kd_m11_next.at 62 rfl) rfl rfl ?_
      refine ok_putI (kd_m11_next.at 63 rfl) kf11_71 sh_14 rfl rfl ?_
      refine ok_nS (fun S48 hS48 => ?_)
      refine ok_aload_n 0 (kd_m11_next.at 64 rfl) rfl rfl ?_
      refine ok_aload_n 0 (kd_m11_next.at 65 rfl) rfl rfl ?_
      refine ok_getI (kd_m11_next.at 66 rfl) kf11_81 sh_14 rfl ?_
      refine ok_bipush (v := 8) (kd_m11_next.at 67 rfl) (by decide) ?_
      refine ok_fold (α := Int32) (pcJ := 137) (lvJ := [(0, .ref 14), (1, .int x46)]) (stJ := [.ref 14]) (mk := fun v => .int v) (fun K => ?_) (fun x50 => ?_)
      · refine ok_ap ?_
        refine ok_icmp_le (tgt := 136) (kd_m11_next.at 68 rfl) (by decide) (fun h49 => ?_) (fun h49 => ?_)
        · refine ok_iconst (v := 2) (kd_m11_next.at 71 rfl) (by decide) ?_
          exact K 2
        · refine ok_iconst (v := 1) (kd_m11_next.at 69 rfl) (by decide) ?_
          refine ok_goto (tgt := 137) (kd_m11_next.at 70 rfl) (by decide) ?_
          exact K 1
      · refine ok_putI (kd_m11_next.at 72 rfl) kf11_87 sh_14 rfl rfl ?_
        refine ok_nS (fun S51 hS51 => ?_)
        refine ok_goto (tgt := 241) (kd_m11_next.at 73 rfl) (by decide) ?_
        exact ok_return (kd_m11_next.at 127 rfl) rfl
  · refine ok_aload_n 1 (kd_m11_next.at 26 rfl) rfl rfl ?_
    refine ok_iconst (v := 0) (kd_m11_next.at 27 rfl) (by decide) ?_
    refine ok_putI (kd_m11_next.at 28 rfl) kf11_87 sh_14 rfl rfl ?_
    refine ok_nS (fun S52 hS52 => ?_)
    refine ok_aload_n 1 (kd_m11_next.at 29 rfl) rfl rfl ?_
    refine ok_iload_n 2 (kd_m11_next.at 30 rfl) rfl rfl ?_
    refine ok_putI (kd_m11_next.at 31 rfl) kf11_71 sh_14 rfl rfl ?_
    refine ok_nS (fun S53 hS53 => ?_)
    refine ok_goto (tgt := 241) (kd_m11_next.at 32 rfl) (by decide) ?_
    exact ok_return (kd_m11_next.at 127 rfl) rfl
def f_m11_wrong (a1 : Int32) (a2 : Int32) (S : kSt) : Option kSt :=
  kgb (S.1 14 13) fun b1 =>
  if b1 then
    some S
  else
    knx (kuI S 14 13 (kb true)) fun S3 =>
    knx (kuI S3 14 9 a1) fun S4 =>
    knx (kuI S4 14 10 a2) fun S5 =>
    some S5
theorem ok_m11_wrong {l : Launch} {G : kG} {E : kE} (a1 : Int32) (a2 : Int32)  (S : kSt) : kFn l G E E kjV m11_wrong 1 [.ref 14, .int a1, .int a2] S (f_m11_wrong a1 a2 S) := by
  unfold f_m11_wrong
  refine kFn_of (by decide +kernel) (fun hG => Nat.le_of_ble_eq_true rfl) ?_
  show kOk _ _ _ _ _ _ _ _ [(0, .ref 14), (1, .int a1), (2, .int a2)] _ _
  refine ok_aload_n 0 (kd_m11_wrong.at 0 rfl) rfl rfl ?_
  refine ok_getZ (kd_m11_wrong.at 1 rfl) kf11_97 sh_14 rfl (fun b1 => ?_)
  refine ok_ifb_eq (tgt := 8) (kd_m11_wrong.at 2 rfl) (by decide) (fun h2 => ?_) (fun h2 => ?_)
  · refine ok_aload_n 0 (kd_m11_wrong.at 4 rfl) rfl rfl ?_
    refine ok_iconst (v := 1) (kd_m11_wrong.at 5 rfl) (by decide) ?_
    refine ok_putZ (b := true) (kd_m11_wrong.at 6 rfl) kf11_97 sh_14 rfl rfl ?_
    refine ok_nS (fun S3 hS3 => ?_)
    refine ok_aload_n 0 (kd_m11_wrong.at 7 rfl) rfl rfl ?_
    refine ok_iload_n 1 (kd_m11_wrong.at 8 rfl) rfl rfl ?_
    refine ok_putI (kd_m11_wrong.at 9 rfl) kf11_101 sh_14 rfl rfl ?_
    refine ok_nS (fun S4 hS4 => ?_)
    refine ok_aload_n 0 (kd_m11_wrong.at 10 rfl) rfl rfl ?_
    refine ok_iload_n 2 (kd_m11_wrong.at 11 rfl) rfl rfl ?_
    refine ok_putI (kd_m11_wrong.at 12 rfl) kf11_13 sh_14 rfl rfl ?_
    refine ok_nS (fun S5 hS5 => ?_)
    exact ok_return (kd_m11_wrong.at 13 rfl) rfl
  · exact ok_return (kd_m11_wrong.at 3 rfl) rfl
def f_m11_isWord_L32 (i1 : Nat)  (k70 : Bool → kSt → Option (Bool × kSt))  : Nat → Bool → Int32 → kSt → Option (Bool × kSt)
  | 0, _, _, _ => none
  | n + 1, v2, v3, S =>
    if (S.1 14 8) ≤ v3 then
      k70 v2 S
    else
      knx (fun (x7 : Bool) (S8 : kSt) =>
        knx (v3 + 1) fun x9 =>
        f_m11_isWord_L32 i1 k70 n x7 x9 S8
        ) fun j63 =>
      knx (fun  (S10 : kSt) =>
        j63 false S10
        ) fun j62 =>
      if v2 then
        kgi v3 8 (
          (f_mJ_charAt_J0 i1 v3 S).bind fun q12 =>
          if (S.1 56 v3.toNatClampNeg) = q12.1 then
            j63 true q12.2
          else
            j62  q12.2
        )
      else
        j62  S
theorem ok_m11_isWord_L32 {l : Launch} {G : kG} {E : kE} (i1 : Nat) (hi1 : i1 < 16)   (k70 : Bool → kSt → Option (Bool × kSt)) (hk70 : ∀ (v2 : Bool) (S : kSt), kOk l G E (kZ G E kjB) m11_isWord (kdp (5)) (k70 v2 S) 70 [(2, .int (kb v2))] [] S) : ∀ (n : Nat) (v2 : Bool) (v3 : Int32) (S : kSt), kOk l G E (kZ G E kjB) m11_isWord (kdp (5)) (f_m11_isWord_L32 i1 k70 n v2 v3 S) 32 [(0, .ref 14), (1, .ref (1000 + i1)), (2, .int (kb v2)), (3, .int v3)] [] S := by
  intro n
  induction n with
  | zero => intro v2 v3 S; exact ok_none
  | succ n ih =>
    intro v2 v3 S
    rw [f_m11_isWord_L32]
    refine ok_iload_n 3 (kd_m11_isWord.at 18 rfl) rfl rfl ?_
    refine ok_aload_n 0 (kd_m11_isWord.at 19 rfl) rfl rfl ?_
    refine ok_getI (kd_m11_isWord.at 20 rfl) kf11_81 sh_14 rfl ?_
    refine ok_icmp_ge (tgt := 70) (kd_m11_isWord.at 21 rfl) (by decide) (fun h6 => ?_) (fun h6 => ?_)
    · refine ok_sub (lv' := [(2, .int (kb v2))]) [2] rfl ?_
      exact hk70 v2 S
    · refine ok_iload_n 2 (kd_m11_isWord.at 22 rfl) rfl rfl ?_
      refine ok_nx (fun j63 hj63 => ?_)
      have K63 : ∀ (x7 : Bool) (S8 : kSt), kOk l G E (kZ G E kjB) m11_isWord (kdp (5)) (j63 x7 S8) 63 [(0, .ref 14), (1, .ref (1000 + i1)), (3, .int v3)] [.int (kb x7)] S8 := by
        subst hj63
        intro x7 S8
        refine ok_istore_n (lv' := [(2, .int (kb x7)), (0, .ref 14), (1, .ref (1000 + i1)), (3, .int v3)]) (kd_m11_isWord.at 35 rfl) rfl (by decide) rfl ?_
        refine ok_nx (fun x9 hx9 => ?_)
        refine ok_iinc (v := x9) (lv' := [(3, .int x9), (2, .int (kb x7)), (0, .ref 14), (1, .ref (1000 + i1))]) 3 (kd_m11_isWord.at 36 rfl) rfl hx9.symm (by decide) rfl ?_
        refine ok_goto (tgt := 32) (kd_m11_isWord.at 37 rfl) (by decide) ?_
        refine ok_sub (lv' := [(0, .ref 14), (1, .ref (1000 + i1)), (2, .int (kb x7)), (3, .int x9)]) [2, 3, 1, 0] rfl ?_
        exact ih x7 x9 S8
      clear hj63
      refine ok_nx (fun j62 hj62 => ?_)
      have K62 : ∀  (S10 : kSt), kOk l G E (kZ G E kjB) m11_isWord (kdp (5)) (j62  S10) 62 [(0, .ref 14), (1, .ref (1000 + i1)), (3, .int v3)] [] S10 := by
        subst hj62
        intro  S10
        refine ok_iconst (v := 0) (kd_m11_isWord.at 34 rfl) (by decide) ?_
        exact K63 false S10
      clear hj62
      refine ok_ifb_eq (tgt := 62) (kd_m11_isWord.at 23 rfl) (by decide) (fun h11 => ?_) (fun h11 => ?_)
      · refine ok_sub (lv' := [(0, .ref 14), (1, .ref (1000 + i1)), (3, .int v3)]) [0, 1, 3] rfl ?_
        exact K62  S
      · refine ok_aload_n 0 (kd_m11_isWord.at 24 rfl) rfl rfl ?_
        refine ok_getR (kd_m11_isWord.at 25 rfl) kf11_17 sh_14 rfl (kr_14_12 _) ?_
        refine ok_iload_n 3 (kd_m11_isWord.at 26 rfl) rfl rfl ?_
        refine ok_iald (kd_m11_isWord.at 27 rfl) sh_56 ?_
        refine ok_aload_n 1 (kd_m11_isWord.at 28 rfl) rfl rfl ?_
        refine ok_iload_n 3 (kd_m11_isWord.at 29 rfl) rfl rfl ?_
        refine ok_callTI (M' := mJ_charAt_J0) (as := [.int v3]) (st := [.int (S.1 56 v3.toNatClampNeg)]) (kd_m11_isWord.at 30 rfl) kc11_110 hi1 rfl rfl (by decide) (ok_mJ_charAt_J0 i1 v3 hi1 S) (kfit_of (by decide)) rfl (Nat.le_of_ble_eq_true rfl) (fun q12 hq12 => ?_)
        refine ok_icmp_ne (tgt := 62) (kd_m11_isWord.at 31 rfl) (by decide) (fun h13 => ?_) (fun h13 => ?_)
        · refine ok_sub (lv' := [(0, .ref 14), (1, .ref (1000 + i1)), (3, .int v3)]) [0, 1, 3] rfl ?_
          exact K62  q12.2
        · refine ok_iconst (v := 1) (kd_m11_isWord.at 32 rfl) (by decide) ?_
          refine ok_goto (tgt := 63) (kd_m11_isWord.at 33 rfl) (by decide) ?_
          refine ok_sub (lv' := [(0, .ref 14), (1, .ref (1000 + i1)), (3, .int v3)]) [0, 1, 3] rfl ?_
          exact K63 true q12.2
def f_m11_isWord (i1 : Nat) (S : kSt) : Option (Bool × kSt) :=
  kgb (S.1 14 13) fun b1 =>
  if b1 then
    some (false, S)
  else
    if (S.1 14 6) = 2 then
      (f_mJ_length_J0 i1 S).bind fun q4 =>
      if (S.1 14 8) = q4.1 then
        f_m11_isWord_L32 i1
          (fun (x14 : Bool) (S15 : kSt) =>
            some (x14, S15)
          )
          kFU true 0 q4.2
      else
        some (false, q4.2)
    else
      some (false, S)
theorem ok_m11_isWord {l : Launch} {G : kG} {E : kE} (i1 : Nat) (hi1 : i1 < 16) (S : kSt) : kFn l G E E kjB m11_isWord 5 [.ref 14, .ref (1000 + i1)] S (f_m11_isWord i1 S) := by
  unfold f_m11_isWord
  refine kFn_of (by decide +kernel) (fun hG => Nat.le_of_ble_eq_true rfl) ?_
  show kOk _ _ _ _ _ _ _ _ [(0, .ref 14), (1, .ref (1000 + i1))] _ _
  refine ok_aload_n 0 (kd_m11_isWord.at 0 rfl) rfl rfl ?_
  refine ok_getZ (kd_m11_isWord.at 1 rfl) kf11_97 sh_14 rfl (fun b1 => ?_)
  refine ok_ifb_ne (tgt := 26) (kd_m11_isWord.at 2 rfl) (by decide) (fun h2 => ?_) (fun h2 => ?_)
  · refine ok_iconst (v := 0) (kd_m11_isWord.at 12 rfl) (by decide) ?_
    exact ok_zreturn (x := false) (kd_m11_isWord.at 13 rfl) rfl
  · refine ok_aload_n 0 (kd_m11_isWord.at 3 rfl) rfl rfl ?_
    refine ok_getI (kd_m11_isWord.at 4 rfl) kf11_87 sh_14 rfl ?_
    refine ok_iconst (v := 2) (kd_m11_isWord.at 5 rfl) (by decide) ?_
    refine ok_icmp_ne (tgt := 26) (kd_m11_isWord.at 6 rfl) (by decide) (fun h3 => ?_) (fun h3 => ?_)
    · refine ok_iconst (v := 0) (kd_m11_isWord.at 12 rfl) (by decide) ?_
      exact ok_zreturn (x := false) (kd_m11_isWord.at 13 rfl) rfl
    · refine ok_aload_n 0 (kd_m11_isWord.at 7 rfl) rfl rfl ?_
      refine ok_getI (kd_m11_isWord.at 8 rfl) kf11_81 sh_14 rfl ?_
      refine ok_aload_n 1 (kd_m11_isWord.at 9 rfl) rfl rfl ?_
      refine ok_callTI (M' := mJ_length_J0) (as := []) (st := [.int (S.1 14 8)]) (kd_m11_isWord.at 10 rfl) kc11_104 hi1 rfl rfl (by decide) (ok_mJ_length_J0 i1 hi1 S) (kfit_of (by decide)) rfl (Nat.le_of_ble_eq_true rfl) (fun q4 hq4 => ?_)
      refine ok_icmp_eq (tgt := 28) (kd_m11_isWord.at 11 rfl) (by decide) (fun h5 => ?_) (fun h5 => ?_)
      · refine ok_iconst (v := 1) (kd_m11_isWord.at 14 rfl) (by decide) ?_
        refine ok_istore_n (lv' := [(2, .int (kb true)), (0, .ref 14), (1, .ref (1000 + i1))]) (kd_m11_isWord.at 15 rfl) rfl (by decide) rfl ?_
        refine ok_iconst (v := 0) (kd_m11_isWord.at 16 rfl) (by decide) ?_
        refine ok_istore_n (lv' := [(3, .int 0), (2, .int (kb true)), (0, .ref 14), (1, .ref (1000 + i1))]) (kd_m11_isWord.at 17 rfl) rfl (by decide) rfl ?_
        refine ok_sub (lv' := [(0, .ref 14), (1, .ref (1000 + i1)), (2, .int (kb true)), (3, .int 0)]) [2, 3, 1, 0] rfl ?_
        refine ok_m11_isWord_L32 i1 hi1 _ (fun x14 S15 => ?_) kFU true 0 q4.2
        refine ok_iload_n 0 (kd_m11_isWord.at 38 rfl) rfl rfl ?_
        exact ok_zreturn (x := x14) (kd_m11_isWord.at 39 rfl) rfl
      · refine ok_iconst (v := 0) (kd_m11_isWord.at 12 rfl) (by decide) ?_
        exact ok_zreturn (x := false) (kd_m11_isWord.at 13 rfl) rfl
def f_m11_takesWord (i1 : Nat) (S : kSt) : Option (Bool × kSt) :=
  (f_m11_isWord i1 S).bind fun q1 =>
  if q1.1 then
    (f_m11_next  q1.2).bind fun q3 =>
    some (true, q3)
  else
    some (false, q1.2)
theorem ok_m11_takesWord {l : Launch} {G : kG} {E : kE} (i1 : Nat) (hi1 : i1 < 16) (S : kSt) : kFn l G E E kjB m11_takesWord 6 [.ref 14, .ref (1000 + i1)] S (f_m11_takesWord i1 S) := by
  unfold f_m11_takesWord
  refine kFn_of (by decide +kernel) (fun hG => Nat.le_of_ble_eq_true rfl) ?_
  show kOk _ _ _ _ _ _ _ _ [(0, .ref 14), (1, .ref (1000 + i1))] _ _
  refine ok_aload_n 0 (kd_m11_takesWord.at 0 rfl) rfl rfl ?_
  refine ok_aload_n 1 (kd_m11_takesWord.at 1 rfl) rfl rfl ?_
  refine ok_callVB (M' := m11_isWord) (as := [.ref (1000 + i1)]) (st := []) (kd_m11_takesWord.at 2 rfl) kc11_114 sh_14 rfl rfl (by decide) (ok_m11_isWord i1 hi1 S) (kfit_of (by decide)) rfl (Nat.le_of_ble_eq_true rfl) (fun q1 hq1 => ?_)
  refine ok_ifb_ne (tgt := 10) (kd_m11_takesWord.at 3 rfl) (by decide) (fun h2 => ?_) (fun h2 => ?_)
  · refine ok_aload_n 0 (kd_m11_takesWord.at 6 rfl) rfl rfl ?_
    refine ok_callVV (M' := m11_next) (as := []) (st := []) (kd_m11_takesWord.at 7 rfl) kc11_118 sh_14 rfl rfl (by decide) (ok_m11_next  q1.2) (kfit_of (by decide)) rfl (Nat.le_of_ble_eq_true rfl) (fun q3 hq3 => ?_)
    refine ok_iconst (v := 1) (kd_m11_takesWord.at 8 rfl) (by decide) ?_
    exact ok_zreturn (x := true) (kd_m11_takesWord.at 9 rfl) rfl
  · refine ok_iconst (v := 0) (kd_m11_takesWord.at 4 rfl) (by decide) ?_
    exact ok_zreturn (x := false) (kd_m11_takesWord.at 5 rfl) rfl
def f_m11_must (i1 : Nat) (S : kSt) : Option kSt :=
  kgb (S.1 14 13) fun b1 =>
  if b1 then
    some S
  else
    (f_m11_takesWord i1 S).bind fun q3 =>
    if q3.1 then
      some q3.2
    else
      (f_m11_wrong 1 (q3.2.1 14 4) q3.2).bind fun q5 =>
      some q5
theorem ok_m11_must {l : Launch} {G : kG} {E : kE} (i1 : Nat) (hi1 : i1 < 16) (S : kSt) : kFn l G E E kjV m11_must 7 [.ref 14, .ref (1000 + i1)] S (f_m11_must i1 S) := by
  unfold f_m11_must
  refine kFn_of (by decide +kernel) (fun hG => Nat.le_of_ble_eq_true rfl) ?_
  show kOk _ _ _ _ _ _ _ _ [(0, .ref 14), (1, .ref (1000 + i1))] _ _
  refine ok_aload_n 0 (kd_m11_must.at 0 rfl) rfl rfl ?_
  refine ok_getZ (kd_m11_must.at 1 rfl) kf11_97 sh_14 rfl (fun b1 => ?_)
  refine ok_ifb_ne (tgt := 24) (kd_m11_must.at 2 rfl) (by decide) (fun h2 => ?_) (fun h2 => ?_)
  · exact ok_return (kd_m11_must.at 12 rfl) rfl
  · refine ok_aload_n 0 (kd_m11_must.at 3 rfl) rfl rfl ?_
    refine ok_aload_n 1 (kd_m11_must.at 4 rfl) rfl rfl ?_
    refine ok_callVB (M' := m11_takesWord) (as := [.ref (1000 + i1)]) (st := []) (kd_m11_must.at 5 rfl) kc11_121 sh_14 rfl rfl (by decide) (ok_m11_takesWord i1 hi1 S) (kfit_of (by decide)) rfl (Nat.le_of_ble_eq_true rfl) (fun q3 hq3 => ?_)
    refine ok_ifb_ne (tgt := 24) (kd_m11_must.at 6 rfl) (by decide) (fun h4 => ?_) (fun h4 => ?_)
    · exact ok_return (kd_m11_must.at 12 rfl) rfl
    · refine ok_aload_n 0 (kd_m11_must.at 7 rfl) rfl rfl ?_
      refine ok_iconst (v := 1) (kd_m11_must.at 8 rfl) (by decide) ?_
      refine ok_aload_n 0 (kd_m11_must.at 9 rfl) rfl rfl ?_
      refine ok_getI (kd_m11_must.at 10 rfl) kf11_78 sh_14 rfl ?_
      refine ok_callVV (M' := m11_wrong) (as := [.int 1, .int (q3.2.1 14 4)]) (st := []) (kd_m11_must.at 11 rfl) kc11_124 sh_14 rfl rfl (by decide) (ok_m11_wrong 1 (q3.2.1 14 4) q3.2) (kfit_of (by decide)) rfl (Nat.le_of_ble_eq_true rfl) (fun q5 hq5 => ?_)
      exact ok_return (kd_m11_must.at 12 rfl) rfl
def f_m11_mustName  (S : kSt) : Option kSt :=
  knx (fun  (S1 : kSt) =>
    (f_m11_wrong 1 (S1.1 14 4) S1).bind fun q2 =>
    some q2
    ) fun j62 =>
  if (S.1 14 6) = 2 then
    (f_m11_isWord 0 S).bind fun q4 =>
    if q4.1 then
      j62  q4.2
    else
      (f_m11_isWord 1 q4.2).bind fun q6 =>
      if q6.1 then
        j62  q6.2
      else
        (f_m11_isWord 2 q6.2).bind fun q8 =>
        if q8.1 then
          j62  q8.2
        else
          (f_m11_isWord 3 q8.2).bind fun q10 =>
          if q10.1 then
            j62  q10.2
          else
            (f_m11_isWord 4 q10.2).bind fun q12 =>
            if q12.1 then
              j62  q12.2
            else
              (f_m11_isWord 5 q12.2).bind fun q14 =>
              if q14.1 then
                j62  q14.2
              else
                some q14.2
  else
    j62  S
theorem ok_m11_mustName {l : Launch} {G : kG} {E : kE}   (S : kSt) : kFn l G E E kjV m11_mustName 6 [.ref 14] S (f_m11_mustName  S) := by
  unfold f_m11_mustName
  refine kFn_of (by decide +kernel) (fun hG => Nat.le_of_ble_eq_true rfl) ?_
  show kOk _ _ _ _ _ _ _ _ [(0, .ref 14)] _ _
  refine ok_aload_n 0 (kd_m11_mustName.at 0 rfl) rfl rfl ?_
  refine ok_getI (kd_m11_mustName.at 1 rfl) kf11_87 sh_14 rfl ?_
  refine ok_iconst (v := 2) (kd_m11_mustName.at 2 rfl) (by decide) ?_
  refine ok_nx (fun j62 hj62 => ?_)
  have K62 : ∀  (S1 : kSt), kOk l G E (kZ G E kjV) m11_mustName (kdp (6)) (j62  S1) 62 [(0, .ref 14)] [] S1 := by
    subst hj62
    intro  S1
    refine ok_aload_n 0 (kd_m11_mustName.at 28 rfl) rfl rfl ?_
    refine ok_iconst (v := 1) (kd_m11_mustName.at 29 rfl) (by decide) ?_
    refine ok_aload_n 0 (kd_m11_mustName.at 30 rfl) rfl rfl ?_
    refine ok_getI (kd_m11_mustName.at 31 rfl) kf11_78 sh_14 rfl ?_
    refine ok_callVV (M' := m11_wrong) (as := [.int 1, .int (S1.1 14 4)]) (st := []) (kd_m11_mustName.at 32 rfl) kc11_124 sh_14 rfl rfl (by decide) (ok_m11_wrong 1 (S1.1 14 4) S1) (kfit_of (by decide)) rfl (Nat.le_of_ble_eq_true rfl) (fun q2 hq2 => ?_)
    exact ok_return (kd_m11_mustName.at 33 rfl) rfl
  clear hj62
  refine ok_icmp_ne (tgt := 62) (kd_m11_mustName.at 3 rfl) (by decide) (fun h3 => ?_) (fun h3 => ?_)
  · exact K62  S
  · refine ok_aload_n 0 (kd_m11_mustName.at 4 rfl) rfl rfl ?_
    refine ok_ldcS (kd_m11_mustName.at 5 rfl) kst_11_128 ?_
    refine ok_callVB (M' := m11_isWord) (as := [.ref (1000 + 0)]) (st := []) (kd_m11_mustName.at 6 rfl) kc11_114 sh_14 rfl rfl (by decide) (ok_m11_isWord 0 (by decide) S) (kfit_of (by decide)) rfl (Nat.le_of_ble_eq_true rfl) (fun q4 hq4 => ?_)
    refine ok_ifb_ne (tgt := 62) (kd_m11_mustName.at 7 rfl) (by decide) (fun h5 => ?_) (fun h5 => ?_)
    · exact K62  q4.2
    · refine ok_aload_n 0 (kd_m11_mustName.at 8 rfl) rfl rfl ?_
      refine ok_ldcS (kd_m11_mustName.at 9 rfl) kst_11_130 ?_
      refine ok_callVB (M' := m11_isWord) (as := [.ref (1000 + 1)]) (st := []) (kd_m11_mustName.at 10 rfl) kc11_114 sh_14 rfl rfl (by decide) (ok_m11_isWord 1 (by decide) q4.2) (kfit_of (by decide)) rfl (Nat.le_of_ble_eq_true rfl) (fun q6 hq6 => ?_)
      refine ok_ifb_ne (tgt := 62) (kd_m11_mustName.at 11 rfl) (by decide) (fun h7 => ?_) (fun h7 => ?_)
      · exact K62  q6.2
      · refine ok_aload_n 0 (kd_m11_mustName.at 12 rfl) rfl rfl ?_
        refine ok_ldcS (kd_m11_mustName.at 13 rfl) kst_11_132 ?_
        refine ok_callVB (M' := m11_isWord) (as := [.ref (1000 + 2)]) (st := []) (kd_m11_mustName.at 14 rfl) kc11_114 sh_14 rfl rfl (by decide) (ok_m11_isWord 2 (by decide) q6.2) (kfit_of (by decide)) rfl (Nat.le_of_ble_eq_true rfl) (fun q8 hq8 => ?_)
        refine ok_ifb_ne (tgt := 62) (kd_m11_mustName.at 15 rfl) (by decide) (fun h9 => ?_) (fun h9 => ?_)
        · exact K62  q8.2
        · refine ok_aload_n 0 (kd_m11_mustName.at 16 rfl) rfl rfl ?_
          refine ok_ldcS (kd_m11_mustName.at 17 rfl) kst_11_134 ?_
          refine ok_callVB (M' := m11_isWord) (as := [.ref (1000 + 3)]) (st := []) (kd_m11_mustName.at 18 rfl) kc11_114 sh_14 rfl rfl (by decide) (ok_m11_isWord 3 (by decide) q8.2) (kfit_of (by decide)) rfl (Nat.le_of_ble_eq_true rfl) (fun q10 hq10 => ?_)
          refine ok_ifb_ne (tgt := 62) (kd_m11_mustName.at 19 rfl) (by decide) (fun h11 => ?_) (fun h11 => ?_)
          · exact K62  q10.2
          · refine ok_aload_n 0 (kd_m11_mustName.at 20 rfl) rfl rfl ?_
            refine ok_ldcS (kd_m11_mustName.at 21 rfl) kst_11_136 ?_
            refine ok_callVB (M' := m11_isWord) (as := [.ref (1000 + 4)]) (st := []) (kd_m11_mustName.at 22 rfl) kc11_114 sh_14 rfl rfl (by decide) (ok_m11_isWord 4 (by decide) q10.2) (kfit_of (by decide)) rfl (Nat.le_of_ble_eq_true rfl) (fun q12 hq12 => ?_)
            refine ok_ifb_ne (tgt := 62) (kd_m11_mustName.at 23 rfl) (by decide) (fun h13 => ?_) (fun h13 => ?_)
            · exact K62  q12.2
            · refine ok_aload_n 0 (kd_m11_mustName.at 24 rfl) rfl rfl ?_
              refine ok_ldcS (kd_m11_mustName.at 25 rfl) kst_11_138 ?_
              refine ok_callVB (M' := m11_isWord) (as := [.ref (1000 + 5)]) (st := []) (kd_m11_mustName.at 26 rfl) kc11_114 sh_14 rfl rfl (by decide) (ok_m11_isWord 5 (by decide) q12.2) (kfit_of (by decide)) rfl (Nat.le_of_ble_eq_true rfl) (fun q14 hq14 => ?_)
              refine ok_ifb_eq (tgt := 71) (kd_m11_mustName.at 27 rfl) (by decide) (fun h15 => ?_) (fun h15 => ?_)
              · exact ok_return (kd_m11_mustName.at 33 rfl) rfl
              · exact K62  q14.2
def f_m11_find_L43   (k90 : Int32 → kSt → Option (Int32 × kSt)) (c1 : Int32) : Nat → Int32 → Int32 → kSt → Option (Int32 × kSt)
  | 0, _, _, _ => none
  | n + 1, v2, v3, S =>
    if (S.1 14 8) ≤ v3 then
      k90 v2 S
    else
      if v2 = 0 then
        k90 v2 S
      else
        knx ((55 + (8 * c1)) + v3) fun x7 =>
        kgi x7 95 (
          kgi v3 8 (
            knx (if (S.1 58 x7.toNatClampNeg) = (S.1 56 v3.toNatClampNeg) then true else false) fun x9 =>
            knx (v3 + 1) fun x10 =>
            f_m11_find_L43 k90 c1 n (kb x9) x10 S
          )
        )
theorem ok_m11_find_L43 {l : Launch} {G : kG} {E : kE}    (c1 : Int32) (k90 : Int32 → kSt → Option (Int32 × kSt)) (hk90 : ∀ (v2 : Int32) (S : kSt), kOk l G E (kZ G E kjI) m11_find (kdp (1)) (k90 v2 S) 90 [(0, .ref 14), (1, .int c1), (2, .int v2)] [] S) : ∀ (n : Nat) (v2 : Int32) (v3 : Int32) (S : kSt), kOk l G E (kZ G E kjI) m11_find (kdp (1)) (f_m11_find_L43 k90 c1 n v2 v3 S) 43 [(0, .ref 14), (1, .int c1), (2, .int v2), (3, .int v3)] [] S := by
  intro n
  induction n with
  | zero => intro v2 v3 S; exact ok_none
  | succ n ih =>
    intro v2 v3 S
    rw [f_m11_find_L43]
    refine ok_iload_n 3 (kd_m11_find.at 27 rfl) rfl rfl ?_
    refine ok_aload_n 0 (kd_m11_find.at 28 rfl) rfl rfl ?_
    refine ok_getI (kd_m11_find.at 29 rfl) kf11_81 sh_14 rfl ?_
    refine ok_icmp_ge (tgt := 90) (kd_m11_find.at 30 rfl) (by decide) (fun h5 => ?_) (fun h5 => ?_)
    · refine ok_sub (lv' := [(0, .ref 14), (1, .int c1), (2, .int v2)]) [0, 1, 2] rfl ?_
      exact hk90 v2 S
    · refine ok_iload_n 2 (kd_m11_find.at 31 rfl) rfl rfl ?_
      refine ok_if_eq (tgt := 90) (kd_m11_find.at 32 rfl) (by decide) (fun h6 => ?_) (fun h6 => ?_)
      · refine ok_sub (lv' := [(0, .ref 14), (1, .int c1), (2, .int v2)]) [0, 1, 2] rfl ?_
        exact hk90 v2 S
      · refine ok_aload_n 0 (kd_m11_find.at 33 rfl) rfl rfl ?_
        refine ok_getR (kd_m11_find.at 34 rfl) kf11_23 sh_14 rfl (kr_14_16 _) ?_
        refine ok_bipush (v := 55) (kd_m11_find.at 35 rfl) (by decide) ?_
        refine ok_bipush (v := 8) (kd_m11_find.at 36 rfl) (by decide) ?_
        refine ok_iload_n 1 (kd_m11_find.at 37 rfl) rfl rfl ?_
        refine ok_imul (kd_m11_find.at 38 rfl) ?_
        refine ok_iadd (kd_m11_find.at 39 rfl) ?_
        refine ok_iload_n 3 (kd_m11_find.at 40 rfl) rfl rfl ?_
        refine ok_iadd (kd_m11_find.at 41 rfl) ?_
        refine ok_topi (fun x7 hx7 => ?_)
        refine ok_iald (kd_m11_find.at 42 rfl) sh_58 ?_
        refine ok_aload_n 0 (kd_m11_find.at 43 rfl) rfl rfl ?_
        refine ok_getR (kd_m11_find.at 44 rfl) kf11_17 sh_14 rfl (kr_14_12 _) ?_
        refine ok_iload_n 3 (kd_m11_find.at 45 rfl) rfl rfl ?_
        refine ok_iald (kd_m11_find.at 46 rfl) sh_56 ?_
        refine ok_fold (α := Bool) (pcJ := 83) (lvJ := [(0, .ref 14), (1, .int c1), (2, .int v2), (3, .int v3)]) (stJ := []) (mk := fun v => .int (kb v)) (fun K => ?_) (fun x9 => ?_)
        · refine ok_ap ?_
          refine ok_icmp_ne (tgt := 82) (kd_m11_find.at 47 rfl) (by decide) (fun h8 => ?_) (fun h8 => ?_)
          · refine ok_iconst (v := 0) (kd_m11_find.at 50 rfl) (by decide) ?_
            exact K false
          · refine ok_iconst (v := 1) (kd_m11_find.at 48 rfl) (by decide) ?_
            refine ok_goto (tgt := 83) (kd_m11_find.at 49 rfl) (by decide) ?_
            exact K true
        · refine ok_istore_n (lv' := [(2, .int (kb x9)), (0, .ref 14), (1, .int c1), (3, .int v3)]) (kd_m11_find.at 51 rfl) rfl (by decide) rfl ?_
          refine ok_nx (fun x10 hx10 => ?_)
          refine ok_iinc (v := x10) (lv' := [(3, .int x10), (2, .int (kb x9)), (0, .ref 14), (1, .int c1)]) 3 (kd_m11_find.at 52 rfl) rfl hx10.symm (by decide) rfl ?_
          refine ok_goto (tgt := 43) (kd_m11_find.at 53 rfl) (by decide) ?_
          refine ok_sub (lv' := [(0, .ref 14), (1, .int c1), (2, .int (kb x9)), (3, .int x10)]) [2, 3, 1, 0] rfl ?_
          exact ih (kb x9) x10 S
def f_m11_find_L2   (k94 : Int32 → kSt → Option (Int32 × kSt)) (k102 : kSt → Option (Int32 × kSt))  : Nat → Int32 → kSt → Option (Int32 × kSt)
  | 0, _, _ => none
  | n + 1, v1, S =>
    if 5 ≤ v1 then
      k102  S
    else
      knx (50 + v1) fun x2 =>
      kgi x2 95 (
        knx (fun (x3 : Bool) (S4 : kSt) =>
          f_m11_find_L43 
            (fun (x11 : Int32) (S12 : kSt) =>
              if x11 = 0 then
                knx (v1 + 1) fun x14 =>
                f_m11_find_L2 k94 k102 n x14 S12
              else
                k94 v1 S12
            )
            v1 kFU (kb x3) 0 S4
          ) fun j40 =>
        knx (fun  (S15 : kSt) =>
          j40 false S15
          ) fun j39 =>
        if (S.1 58 x2.toNatClampNeg) ≤ 0 then
          j39  S
        else
          knx (50 + v1) fun x17 =>
          kgi x17 95 (
            if (S.1 58 x17.toNatClampNeg) = (S.1 14 8) then
              j40 true S
            else
              j39  S
          )
      )
theorem ok_m11_find_L2 {l : Launch} {G : kG} {E : kE}     (k94 : Int32 → kSt → Option (Int32 × kSt)) (k102 : kSt → Option (Int32 × kSt)) (hk94 : ∀ (v1 : Int32) (S : kSt), kOk l G E (kZ G E kjI) m11_find (kdp (1)) (k94 v1 S) 94 [(1, .int v1)] [] S) (hk102 : ∀  (S : kSt), kOk l G E (kZ G E kjI) m11_find (kdp (1)) (k102  S) 102 [] [] S) : ∀ (n : Nat) (v1 : Int32) (S : kSt), kOk l G E (kZ G E kjI) m11_find (kdp (1)) (f_m11_find_L2 k94 k102 n v1 S) 2 [(0, .ref 14), (1, .int v1)] [] S := by
  intro n
  induction n with
  | zero => intro v1 S; exact ok_none
  | succ n ih =>
    intro v1 S
    rw [f_m11_find_L2]
    refine ok_iload_n 1 (kd_m11_find.at 2 rfl) rfl rfl ?_
    refine ok_iconst (v := 5) (kd_m11_find.at 3 rfl) (by decide) ?_
    refine ok_icmp_ge (tgt := 102) (kd_m11_find.at 4 rfl) (by decide) (fun h1 => ?_) (fun h1 => ?_)
    · refine ok_sub (lv' := []) [] rfl ?_
      exact hk102  S
    · refine ok_aload_n 0 (kd_m11_find.at 5 rfl) rfl rfl ?_
      refine ok_getR (kd_m11_find.at 6 rfl) kf11_23 sh_14 rfl (kr_14_16 _) ?_
      refine ok_bipush (v := 50) (kd_m11_find.at 7 rfl) (by decide) ?_
      refine ok_iload_n 1 (kd_m11_find.at 8 rfl) rfl rfl ?_
      refine ok_iadd (kd_m11_find.at 9 rfl) ?_
      refine ok_topi (fun x2 hx2 => ?_)
      refine ok_iald (kd_m11_find.at 10 rfl) sh_58 ?_
      refine ok_nx (fun j40 hj40 => ?_)
      have K40 : ∀ (x3 : Bool) (S4 : kSt), kOk l G E (kZ G E kjI) m11_find (kdp (1)) (j40 x3 S4) 40 [(0, .ref 14), (1, .int v1)] [.int (kb x3)] S4 := by
        subst hj40
        intro x3 S4
        refine ok_istore_n (lv' := [(2, .int (kb x3)), (0, .ref 14), (1, .int v1)]) (kd_m11_find.at 24 rfl) rfl (by decide) rfl ?_
        refine ok_iconst (v := 0) (kd_m11_find.at 25 rfl) (by decide) ?_
        refine ok_istore_n (lv' := [(3, .int 0), (2, .int (kb x3)), (0, .ref 14), (1, .int v1)]) (kd_m11_find.at 26 rfl) rfl (by decide) rfl ?_
        refine ok_sub (lv' := [(0, .ref 14), (1, .int v1), (2, .int (kb x3)), (3, .int 0)]) [2, 3, 1, 0] rfl ?_
        refine ok_m11_find_L43 v1 _ (fun x11 S12 => ?_) kFU (kb x3) 0 S4
        refine ok_iload_n 2 (kd_m11_find.at 54 rfl) rfl rfl ?_
        refine ok_if_eq (tgt := 96) (kd_m11_find.at 55 rfl) (by decide) (fun h13 => ?_) (fun h13 => ?_)
        · refine ok_nx (fun x14 hx14 => ?_)
          refine ok_iinc (v := x14) (lv' := [(1, .int x14), (0, .ref 14), (2, .int x11)]) 1 (kd_m11_find.at 58 rfl) rfl hx14.symm (by decide) rfl ?_
          refine ok_goto (tgt := 2) (kd_m11_find.at 59 rfl) (by decide) ?_
          refine ok_sub (lv' := [(0, .ref 14), (1, .int x14)]) [1, 0] rfl ?_
          exact ih x14 S12
        · refine ok_sub (lv' := [(1, .int v1)]) [1] rfl ?_
          exact hk94 v1 S12
      clear hj40
      refine ok_nx (fun j39 hj39 => ?_)
      have K39 : ∀  (S15 : kSt), kOk l G E (kZ G E kjI) m11_find (kdp (1)) (j39  S15) 39 [(0, .ref 14), (1, .int v1)] [] S15 := by
        subst hj39
        intro  S15
        refine ok_iconst (v := 0) (kd_m11_find.at 23 rfl) (by decide) ?_
        exact K40 false S15
      clear hj39
      refine ok_if_le (tgt := 39) (kd_m11_find.at 11 rfl) (by decide) (fun h16 => ?_) (fun h16 => ?_)
      · exact K39  S
      · refine ok_aload_n 0 (kd_m11_find.at 12 rfl) rfl rfl ?_
        refine ok_getR (kd_m11_find.at 13 rfl) kf11_23 sh_14 rfl (kr_14_16 _) ?_
        refine ok_bipush (v := 50) (kd_m11_find.at 14 rfl) (by decide) ?_
        refine ok_iload_n 1 (kd_m11_find.at 15 rfl) rfl rfl ?_
        refine ok_iadd (kd_m11_find.at 16 rfl) ?_
        refine ok_topi (fun x17 hx17 => ?_)
        refine ok_iald (kd_m11_find.at 17 rfl) sh_58 ?_
        refine ok_aload_n 0 (kd_m11_find.at 18 rfl) rfl rfl ?_
        refine ok_getI (kd_m11_find.at 19 rfl) kf11_81 sh_14 rfl ?_
        refine ok_icmp_ne (tgt := 39) (kd_m11_find.at 20 rfl) (by decide) (fun h18 => ?_) (fun h18 => ?_)
        · exact K39  S
        · refine ok_iconst (v := 1) (kd_m11_find.at 21 rfl) (by decide) ?_
          refine ok_goto (tgt := 40) (kd_m11_find.at 22 rfl) (by decide) ?_
          exact K40 true S
def f_m11_find  (S : kSt) : Option (Int32 × kSt) :=
  f_m11_find_L2 
    (fun (x19 : Int32) (S20 : kSt) =>
      some (x19, S20)
    )
    (fun  (S21 : kSt) =>
      some ((-1), S21)
    )
    kFU 0 S
theorem ok_m11_find {l : Launch} {G : kG} {E : kE}   (S : kSt) : kFn l G E E kjI m11_find 1 [.ref 14] S (f_m11_find  S) := by
  unfold f_m11_find
  refine kFn_of (by decide +kernel) (fun hG => Nat.le_of_ble_eq_true rfl) ?_
  show kOk _ _ _ _ _ _ _ _ [(0, .ref 14)] _ _
  refine ok_iconst (v := 0) (kd_m11_find.at 0 rfl) (by decide) ?_
  refine ok_istore_n (lv' := [(1, .int 0), (0, .ref 14)]) (kd_m11_find.at 1 rfl) rfl (by decide) rfl ?_
  refine ok_sub (lv' := [(0, .ref 14), (1, .int 0)]) [1, 0] rfl ?_
  refine ok_m11_find_L2 _ _ (fun x19 S20 => ?_) (fun S21 => ?_) kFU 0 S
  · refine ok_iload_n 0 (kd_m11_find.at 56 rfl) rfl rfl ?_
    exact ok_ireturn (kd_m11_find.at 57 rfl) rfl
  · refine ok_iconst (v := (-1)) (kd_m11_find.at 60 rfl) (by decide) ?_
    exact ok_ireturn (kd_m11_find.at 61 rfl) rfl
def f_m11_newName_L45   (k79 : kSt → Option kSt) (c1 : Int32) : Nat → Int32 → kSt → Option kSt
  | 0, _, _ => none
  | n + 1, v2, S =>
    if (S.1 14 8) ≤ v2 then
      k79  S
    else
      kgi v2 8 (
        knx ((55 + (8 * c1)) + v2) fun x10 =>
        kgi x10 95 (
          knx (kuI S 58 x10.toNatClampNeg (S.1 56 v2.toNatClampNeg)) fun S9 =>
          knx (v2 + 1) fun x11 =>
          f_m11_newName_L45 k79 c1 n x11 S9
        )
      )
theorem ok_m11_newName_L45 {l : Launch} {G : kG} {E : kE}    (c1 : Int32) (k79 : kSt → Option kSt) (hk79 : ∀  (S : kSt), kOk l G E (kZ G E kjV) m11_newName (kdp (7)) (k79  S) 79 [(0, .ref 14), (1, .int c1)] [] S) : ∀ (n : Nat) (v2 : Int32) (S : kSt), kOk l G E (kZ G E kjV) m11_newName (kdp (7)) (f_m11_newName_L45 k79 c1 n v2 S) 45 [(0, .ref 14), (1, .int c1), (2, .int v2)] [] S := by
  intro n
  induction n with
  | zero => intro v2 S; exact ok_none
  | succ n ih =>
    intro v2 S
    rw [f_m11_newName_L45]
    refine ok_iload_n 2 (kd_m11_newName.at 23 rfl) rfl rfl ?_
    refine ok_aload_n 0 (kd_m11_newName.at 24 rfl) rfl rfl ?_
    refine ok_getI (kd_m11_newName.at 25 rfl) kf11_81 sh_14 rfl ?_
    refine ok_icmp_ge (tgt := 79) (kd_m11_newName.at 26 rfl) (by decide) (fun h8 => ?_) (fun h8 => ?_)
    · refine ok_sub (lv' := [(0, .ref 14), (1, .int c1)]) [0, 1] rfl ?_
      exact hk79  S
    · refine ok_aload_n 0 (kd_m11_newName.at 27 rfl) rfl rfl ?_
      refine ok_getR (kd_m11_newName.at 28 rfl) kf11_23 sh_14 rfl (kr_14_16 _) ?_
      refine ok_bipush (v := 55) (kd_m11_newName.at 29 rfl) (by decide) ?_
      refine ok_bipush (v := 8) (kd_m11_newName.at 30 rfl) (by decide) ?_
      refine ok_iload_n 1 (kd_m11_newName.at 31 rfl) rfl rfl ?_
      refine ok_imul (kd_m11_newName.at 32 rfl) ?_
      refine ok_iadd (kd_m11_newName.at 33 rfl) ?_
      refine ok_iload_n 2 (kd_m11_newName.at 34 rfl) rfl rfl ?_
      refine ok_iadd (kd_m11_newName.at 35 rfl) ?_
      refine ok_aload_n 0 (kd_m11_newName.at 36 rfl) rfl rfl ?_
      refine ok_getR (kd_m11_newName.at 37 rfl) kf11_17 sh_14 rfl (kr_14_12 _) ?_
      refine ok_iload_n 2 (kd_m11_newName.at 38 rfl) rfl rfl ?_
      refine ok_iald (kd_m11_newName.at 39 rfl) sh_56 ?_
      refine ok_sndi (fun x10 hx10 => ?_)
      refine ok_iast (kd_m11_newName.at 40 rfl) sh_58 ?_
      refine ok_nS (fun S9 hS9 => ?_)
      refine ok_nx (fun x11 hx11 => ?_)
      refine ok_iinc (v := x11) (lv' := [(2, .int x11), (0, .ref 14), (1, .int c1)]) 2 (kd_m11_newName.at 41 rfl) rfl hx11.symm (by decide) rfl ?_
      refine ok_goto (tgt := 45) (kd_m11_newName.at 42 rfl) (by decide) ?_
      refine ok_sub (lv' := [(0, .ref 14), (1, .int c1), (2, .int x11)]) [1, 2, 0] rfl ?_
      exact ih x11 S9
def f_m11_newName (a1 : Int32) (S : kSt) : Option kSt :=
  kgb (S.1 14 13) fun b1 =>
  if b1 then
    some S
  else
    (f_m11_mustName  S).bind fun q3 =>
    kgb (q3.1 14 13) fun b4 =>
    knx (fun  (S5 : kSt) =>
      kgb (S5.1 14 13) fun b6 =>
      if b6 then
        some S5
      else
        f_m11_newName_L45 
          (fun  (S12 : kSt) =>
            knx (50 + a1) fun x14 =>
            kgi x14 95 (
              knx (kuI S12 58 x14.toNatClampNeg (S12.1 14 8)) fun S13 =>
              (f_m11_next  S13).bind fun q15 =>
              some q15
            )
          )
          a1 kFU 0 S5
      ) fun j35 =>
    if b4 then
      j35  q3
    else
      (f_m11_find  q3).bind fun q17 =>
      if q17.1 < 0 then
        j35  q17.2
      else
        (f_m11_wrong 3 (q17.2.1 14 4) q17.2).bind fun q19 =>
        j35  q19
theorem ok_m11_newName {l : Launch} {G : kG} {E : kE} (a1 : Int32)  (S : kSt) : kFn l G E E kjV m11_newName 7 [.ref 14, .int a1] S (f_m11_newName a1 S) := by
  unfold f_m11_newName
  refine kFn_of (by decide +kernel) (fun hG => Nat.le_of_ble_eq_true rfl) ?_
  show kOk _ _ _ _ _ _ _ _ [(0, .ref 14), (1, .int a1)] _ _
  refine ok_aload_n 0 (kd_m11_newName.at 0 rfl) rfl rfl ?_
  refine ok_getZ (kd_m11_newName.at 1 rfl) kf11_97 sh_14 rfl (fun b1 => ?_)
  refine ok_ifb_eq (tgt := 8) (kd_m11_newName.at 2 rfl) (by decide) (fun h2 => ?_) (fun h2 => ?_)
  · refine ok_aload_n 0 (kd_m11_newName.at 4 rfl) rfl rfl ?_
    refine ok_callVV (M' := m11_mustName) (as := []) (st := []) (kd_m11_newName.at 5 rfl) kc11_140 sh_14 rfl rfl (by decide) (ok_m11_mustName  S) (kfit_of (by decide)) rfl (Nat.le_of_ble_eq_true rfl) (fun q3 hq3 => ?_)
    refine ok_aload_n 0 (kd_m11_newName.at 6 rfl) rfl rfl ?_
    refine ok_getZ (kd_m11_newName.at 7 rfl) kf11_97 sh_14 rfl (fun b4 => ?_)
    refine ok_nx (fun j35 hj35 => ?_)
    have K35 : ∀  (S5 : kSt), kOk l G E (kZ G E kjV) m11_newName (kdp (7)) (j35  S5) 35 [(0, .ref 14), (1, .int a1)] [] S5 := by
      subst hj35
      intro  S5
      refine ok_aload_n 0 (kd_m11_newName.at 17 rfl) rfl rfl ?_
      refine ok_getZ (kd_m11_newName.at 18 rfl) kf11_97 sh_14 rfl (fun b6 => ?_)
      refine ok_ifb_eq (tgt := 43) (kd_m11_newName.at 19 rfl) (by decide) (fun h7 => ?_) (fun h7 => ?_)
      · refine ok_iconst (v := 0) (kd_m11_newName.at 21 rfl) (by decide) ?_
        refine ok_istore_n (lv' := [(2, .int 0), (0, .ref 14), (1, .int a1)]) (kd_m11_newName.at 22 rfl) rfl (by decide) rfl ?_
        refine ok_sub (lv' := [(0, .ref 14), (1, .int a1), (2, .int 0)]) [1, 2, 0] rfl ?_
        refine ok_m11_newName_L45 a1 _ (fun S12 => ?_) kFU 0 S5
        refine ok_aload_n 0 (kd_m11_newName.at 43 rfl) rfl rfl ?_
        refine ok_getR (kd_m11_newName.at 44 rfl) kf11_23 sh_14 rfl (kr_14_16 _) ?_
        refine ok_bipush (v := 50) (kd_m11_newName.at 45 rfl) (by decide) ?_
        refine ok_iload_n 1 (kd_m11_newName.at 46 rfl) rfl rfl ?_
        refine ok_iadd (kd_m11_newName.at 47 rfl) ?_
        refine ok_aload_n 0 (kd_m11_newName.at 48 rfl) rfl rfl ?_
        refine ok_getI (kd_m11_newName.at 49 rfl) kf11_81 sh_14 rfl ?_
        refine ok_sndi (fun x14 hx14 => ?_)
        refine ok_iast (kd_m11_newName.at 50 rfl) sh_58 ?_
        refine ok_nS (fun S13 hS13 => ?_)
        refine ok_aload_n 0 (kd_m11_newName.at 51 rfl) rfl rfl ?_
        refine ok_callVV (M' := m11_next) (as := []) (st := []) (kd_m11_newName.at 52 rfl) kc11_118 sh_14 rfl rfl (by decide) (ok_m11_next  S13) (kfit_of (by decide)) rfl (Nat.le_of_ble_eq_true rfl) (fun q15 hq15 => ?_)
        exact ok_return (kd_m11_newName.at 53 rfl) rfl
      · exact ok_return (kd_m11_newName.at 20 rfl) rfl
    clear hj35
    refine ok_ifb_ne (tgt := 35) (kd_m11_newName.at 8 rfl) (by decide) (fun h16 => ?_) (fun h16 => ?_)
    · exact K35  q3
    · refine ok_aload_n 0 (kd_m11_newName.at 9 rfl) rfl rfl ?_
      refine ok_callVI (M' := m11_find) (as := []) (st := []) (kd_m11_newName.at 10 rfl) kc11_143 sh_14 rfl rfl (by decide) (ok_m11_find  q3) (kfit_of (by decide)) rfl (Nat.le_of_ble_eq_true rfl) (fun q17 hq17 => ?_)
      refine ok_if_lt (tgt := 35) (kd_m11_newName.at 11 rfl) (by decide) (fun h18 => ?_) (fun h18 => ?_)
      · exact K35  q17.2
      · refine ok_aload_n 0 (kd_m11_newName.at 12 rfl) rfl rfl ?_
        refine ok_iconst (v := 3) (kd_m11_newName.at 13 rfl) (by decide) ?_
        refine ok_aload_n 0 (kd_m11_newName.at 14 rfl) rfl rfl ?_
        refine ok_getI (kd_m11_newName.at 15 rfl) kf11_78 sh_14 rfl ?_
        refine ok_callVV (M' := m11_wrong) (as := [.int 3, .int (q17.2.1 14 4)]) (st := []) (kd_m11_newName.at 16 rfl) kc11_124 sh_14 rfl rfl (by decide) (ok_m11_wrong 3 (q17.2.1 14 4) q17.2) (kfit_of (by decide)) rfl (Nat.le_of_ble_eq_true rfl) (fun q19 hq19 => ?_)
        exact K35  q19
  · exact ok_return (kd_m11_newName.at 3 rfl) rfl
def f_m11_pairHere  (S : kSt) : Option (Int32 × kSt) :=
  kgb (S.1 14 13) fun b1 =>
  if b1 then
    some (0, S)
  else
    (f_m11_mustName  S).bind fun q3 =>
    kgb (q3.1 14 13) fun b4 =>
    if b4 then
      some (0, q3)
    else
      (f_m11_find  q3).bind fun q6 =>
      knx (fun  (S7 : kSt) =>
        kgb (S7.1 14 13) fun b8 =>
        if b8 then
          some (0, S7)
        else
          some (q6.1, S7)
        ) fun j40 =>
      if 0 ≤ q6.1 then
        j40  q6.2
      else
        (f_m11_wrong 2 (q6.2.1 14 4) q6.2).bind fun q11 =>
        j40  q11
theorem ok_m11_pairHere {l : Launch} {G : kG} {E : kE}   (S : kSt) : kFn l G E E kjI m11_pairHere 7 [.ref 14] S (f_m11_pairHere  S) := by
  unfold f_m11_pairHere
  refine kFn_of (by decide +kernel) (fun hG => Nat.le_of_ble_eq_true rfl) ?_
  show kOk _ _ _ _ _ _ _ _ [(0, .ref 14)] _ _
  refine ok_aload_n 0 (kd_m11_pairHere.at 0 rfl) rfl rfl ?_
  refine ok_getZ (kd_m11_pairHere.at 1 rfl) kf11_97 sh_14 rfl (fun b1 => ?_)
  refine ok_ifb_eq (tgt := 9) (kd_m11_pairHere.at 2 rfl) (by decide) (fun h2 => ?_) (fun h2 => ?_)
  · refine ok_aload_n 0 (kd_m11_pairHere.at 5 rfl) rfl rfl ?_
    refine ok_callVV (M' := m11_mustName) (as := []) (st := []) (kd_m11_pairHere.at 6 rfl) kc11_140 sh_14 rfl rfl (by decide) (ok_m11_mustName  S) (kfit_of (by decide)) rfl (Nat.le_of_ble_eq_true rfl) (fun q3 hq3 => ?_)
    refine ok_aload_n 0 (kd_m11_pairHere.at 7 rfl) rfl rfl ?_
    refine ok_getZ (kd_m11_pairHere.at 8 rfl) kf11_97 sh_14 rfl (fun b4 => ?_)
    refine ok_ifb_eq (tgt := 22) (kd_m11_pairHere.at 9 rfl) (by decide) (fun h5 => ?_) (fun h5 => ?_)
    · refine ok_aload_n 0 (kd_m11_pairHere.at 12 rfl) rfl rfl ?_
      refine ok_callVI (M' := m11_find) (as := []) (st := []) (kd_m11_pairHere.at 13 rfl) kc11_143 sh_14 rfl rfl (by decide) (ok_m11_find  q3) (kfit_of (by decide)) rfl (Nat.le_of_ble_eq_true rfl) (fun q6 hq6 => ?_)
      refine ok_istore_n (lv' := [(1, .int q6.1), (0, .ref 14)]) (kd_m11_pairHere.at 14 rfl) rfl (by decide) rfl ?_
      refine ok_iload_n 0 (kd_m11_pairHere.at 15 rfl) rfl rfl ?_
      refine ok_nx (fun j40 hj40 => ?_)
      have K40 : ∀  (S7 : kSt), kOk l G E (kZ G E kjI) m11_pairHere (kdp (7)) (j40  S7) 40 [(0, .ref 14), (1, .int q6.1)] [] S7 := by
        subst hj40
        intro  S7
        refine ok_aload_n 0 (kd_m11_pairHere.at 22 rfl) rfl rfl ?_
        refine ok_getZ (kd_m11_pairHere.at 23 rfl) kf11_97 sh_14 rfl (fun b8 => ?_)
        refine ok_ifb_eq (tgt := 51) (kd_m11_pairHere.at 24 rfl) (by decide) (fun h9 => ?_) (fun h9 => ?_)
        · refine ok_iload_n 1 (kd_m11_pairHere.at 27 rfl) rfl rfl ?_
          exact ok_ireturn (kd_m11_pairHere.at 28 rfl) rfl
        · refine ok_iconst (v := 0) (kd_m11_pairHere.at 25 rfl) (by decide) ?_
          refine ok_goto (tgt := 52) (kd_m11_pairHere.at 26 rfl) (by decide) ?_
          exact ok_ireturn (kd_m11_pairHere.at 28 rfl) rfl
      clear hj40
      refine ok_if_ge (tgt := 40) (kd_m11_pairHere.at 16 rfl) (by decide) (fun h10 => ?_) (fun h10 => ?_)
      · refine ok_sub (lv' := [(0, .ref 14), (1, .int q6.1)]) [1, 0] rfl ?_
        exact K40  q6.2
      · refine ok_aload_n 1 (kd_m11_pairHere.at 17 rfl) rfl rfl ?_
        refine ok_iconst (v := 2) (kd_m11_pairHere.at 18 rfl) (by decide) ?_
        refine ok_aload_n 1 (kd_m11_pairHere.at 19 rfl) rfl rfl ?_
        refine ok_getI (kd_m11_pairHere.at 20 rfl) kf11_78 sh_14 rfl ?_
        refine ok_callVV (M' := m11_wrong) (as := [.int 2, .int (q6.2.1 14 4)]) (st := []) (kd_m11_pairHere.at 21 rfl) kc11_124 sh_14 rfl rfl (by decide) (ok_m11_wrong 2 (q6.2.1 14 4) q6.2) (kfit_of (by decide)) rfl (Nat.le_of_ble_eq_true rfl) (fun q11 hq11 => ?_)
        refine ok_sub (lv' := [(0, .ref 14), (1, .int q6.1)]) [1, 0] rfl ?_
        exact K40  q11
    · refine ok_iconst (v := 0) (kd_m11_pairHere.at 10 rfl) (by decide) ?_
      exact ok_ireturn (kd_m11_pairHere.at 11 rfl) rfl
  · refine ok_iconst (v := 0) (kd_m11_pairHere.at 3 rfl) (by decide) ?_
    exact ok_ireturn (kd_m11_pairHere.at 4 rfl) rfl
def f_m11_pass  (S : kSt) : Option kSt :=
  kgb (S.1 14 13) fun b1 =>
  if b1 then
    some S
  else
    (f_m11_next  S).bind fun q3 =>
    some q3
theorem ok_m11_pass {l : Launch} {G : kG} {E : kE}   (S : kSt) : kFn l G E E kjV m11_pass 3 [.ref 14] S (f_m11_pass  S) := by
  unfold f_m11_pass
  refine kFn_of (by decide +kernel) (fun hG => Nat.le_of_ble_eq_true rfl) ?_
  show kOk _ _ _ _ _ _ _ _ [(0, .ref 14)] _ _
  refine ok_aload_n 0 (kd_m11_pass.at 0 rfl) rfl rfl ?_
  refine ok_getZ (kd_m11_pass.at 1 rfl) kf11_97 sh_14 rfl (fun b1 => ?_)
  refine ok_ifb_ne (tgt := 11) (kd_m11_pass.at 2 rfl) (by decide) (fun h2 => ?_) (fun h2 => ?_)
  · exact ok_return (kd_m11_pass.at 5 rfl) rfl
  · refine ok_aload_n 0 (kd_m11_pass.at 3 rfl) rfl rfl ?_
    refine ok_callVV (M' := m11_next) (as := []) (st := []) (kd_m11_pass.at 4 rfl) kc11_118 sh_14 rfl rfl (by decide) (ok_m11_next  S) (kfit_of (by decide)) rfl (Nat.le_of_ble_eq_true rfl) (fun q3 hq3 => ?_)
    exact ok_return (kd_m11_pass.at 5 rfl) rfl
def f_m11_numberHere (a1 : Int32) (a2 : Int32) (S : kSt) : Option (Int32 × kSt) :=
  kgb (S.1 14 13) fun b1 =>
  if b1 then
    some (a1, S)
  else
    knx (fun  (S3 : kSt) =>
      kgb (S3.1 14 13) fun b4 =>
      if b4 then
        some (a1, S3)
      else
        some (S3.1 14 7, S3)
      ) fun j50 =>
    if (S.1 14 6) = 3 then
      (f_m11_in (S.1 14 7) a1 a2 S).bind fun q7 =>
      if q7.1 then
        j50  q7.2
      else
        (f_m11_wrong 4 (q7.2.1 14 4) q7.2).bind fun q9 =>
        j50  q9
    else
      (f_m11_wrong 1 (S.1 14 4) S).bind fun q10 =>
      j50  q10
theorem ok_m11_numberHere {l : Launch} {G : kG} {E : kE} (a1 : Int32) (a2 : Int32)  (S : kSt) : kFn l G E E kjI m11_numberHere 2 [.ref 14, .int a1, .int a2] S (f_m11_numberHere a1 a2 S) := by
  unfold f_m11_numberHere
  refine kFn_of (by decide +kernel) (fun hG => Nat.le_of_ble_eq_true rfl) ?_
  show kOk _ _ _ _ _ _ _ _ [(0, .ref 14), (1, .int a1), (2, .int a2)] _ _
  refine ok_aload_n 0 (kd_m11_numberHere.at 0 rfl) rfl rfl ?_
  refine ok_getZ (kd_m11_numberHere.at 1 rfl) kf11_97 sh_14 rfl (fun b1 => ?_)
  refine ok_ifb_eq (tgt := 9) (kd_m11_numberHere.at 2 rfl) (by decide) (fun h2 => ?_) (fun h2 => ?_)
  · refine ok_aload_n 0 (kd_m11_numberHere.at 5 rfl) rfl rfl ?_
    refine ok_getI (kd_m11_numberHere.at 6 rfl) kf11_87 sh_14 rfl ?_
    refine ok_iconst (v := 3) (kd_m11_numberHere.at 7 rfl) (by decide) ?_
    refine ok_nx (fun j50 hj50 => ?_)
    have K50 : ∀  (S3 : kSt), kOk l G E (kZ G E kjI) m11_numberHere (kdp (2)) (j50  S3) 50 [(0, .ref 14), (1, .int a1)] [] S3 := by
      subst hj50
      intro  S3
      refine ok_aload_n 0 (kd_m11_numberHere.at 26 rfl) rfl rfl ?_
      refine ok_getZ (kd_m11_numberHere.at 27 rfl) kf11_97 sh_14 rfl (fun b4 => ?_)
      refine ok_ifb_eq (tgt := 61) (kd_m11_numberHere.at 28 rfl) (by decide) (fun h5 => ?_) (fun h5 => ?_)
      · refine ok_aload_n 0 (kd_m11_numberHere.at 31 rfl) rfl rfl ?_
        refine ok_getI (kd_m11_numberHere.at 32 rfl) kf11_84 sh_14 rfl ?_
        exact ok_ireturn (kd_m11_numberHere.at 33 rfl) rfl
      · refine ok_iload_n 1 (kd_m11_numberHere.at 29 rfl) rfl rfl ?_
        refine ok_goto (tgt := 65) (kd_m11_numberHere.at 30 rfl) (by decide) ?_
        exact ok_ireturn (kd_m11_numberHere.at 33 rfl) rfl
    clear hj50
    refine ok_icmp_eq (tgt := 29) (kd_m11_numberHere.at 8 rfl) (by decide) (fun h6 => ?_) (fun h6 => ?_)
    · refine ok_aload_n 0 (kd_m11_numberHere.at 15 rfl) rfl rfl ?_
      refine ok_getI (kd_m11_numberHere.at 16 rfl) kf11_84 sh_14 rfl ?_
      refine ok_iload_n 1 (kd_m11_numberHere.at 17 rfl) rfl rfl ?_
      refine ok_iload_n 2 (kd_m11_numberHere.at 18 rfl) rfl rfl ?_
      refine ok_callSB (M' := m11_in) (as := [.int (S.1 14 7), .int a1, .int a2]) (st := []) (kd_m11_numberHere.at 19 rfl) kc11_146  rfl (by decide) (ok_m11_in (S.1 14 7) a1 a2 S) (kfit_of (by decide)) rfl (Nat.le_of_ble_eq_true rfl) (fun q7 hq7 => ?_)
      refine ok_ifb_ne (tgt := 50) (kd_m11_numberHere.at 20 rfl) (by decide) (fun h8 => ?_) (fun h8 => ?_)
      · refine ok_sub (lv' := [(0, .ref 14), (1, .int a1)]) [0, 1] rfl ?_
        exact K50  q7.2
      · refine ok_aload_n 0 (kd_m11_numberHere.at 21 rfl) rfl rfl ?_
        refine ok_iconst (v := 4) (kd_m11_numberHere.at 22 rfl) (by decide) ?_
        refine ok_aload_n 0 (kd_m11_numberHere.at 23 rfl) rfl rfl ?_
        refine ok_getI (kd_m11_numberHere.at 24 rfl) kf11_78 sh_14 rfl ?_
        refine ok_callVV (M' := m11_wrong) (as := [.int 4, .int (q7.2.1 14 4)]) (st := []) (kd_m11_numberHere.at 25 rfl) kc11_124 sh_14 rfl rfl (by decide) (ok_m11_wrong 4 (q7.2.1 14 4) q7.2) (kfit_of (by decide)) rfl (Nat.le_of_ble_eq_true rfl) (fun q9 hq9 => ?_)
        refine ok_sub (lv' := [(0, .ref 14), (1, .int a1)]) [0, 1] rfl ?_
        exact K50  q9
    · refine ok_aload_n 0 (kd_m11_numberHere.at 9 rfl) rfl rfl ?_
      refine ok_iconst (v := 1) (kd_m11_numberHere.at 10 rfl) (by decide) ?_
      refine ok_aload_n 0 (kd_m11_numberHere.at 11 rfl) rfl rfl ?_
      refine ok_getI (kd_m11_numberHere.at 12 rfl) kf11_78 sh_14 rfl ?_
      refine ok_callVV (M' := m11_wrong) (as := [.int 1, .int (S.1 14 4)]) (st := []) (kd_m11_numberHere.at 13 rfl) kc11_124 sh_14 rfl rfl (by decide) (ok_m11_wrong 1 (S.1 14 4) S) (kfit_of (by decide)) rfl (Nat.le_of_ble_eq_true rfl) (fun q10 hq10 => ?_)
      refine ok_goto (tgt := 50) (kd_m11_numberHere.at 14 rfl) (by decide) ?_
      refine ok_sub (lv' := [(0, .ref 14), (1, .int a1)]) [0, 1] rfl ?_
      exact K50  q10
  · refine ok_iload_n 1 (kd_m11_numberHere.at 3 rfl) rfl rfl ?_
    exact ok_ireturn (kd_m11_numberHere.at 4 rfl) rfl
def f_m11_number (a1 : Int32) (a2 : Int32) (S : kSt) : Option (Int32 × kSt) :=
  (f_m11_numberHere a1 a2 S).bind fun q1 =>
  (f_m11_pass  q1.2).bind fun q2 =>
  some (q1.1, q2)
theorem ok_m11_number {l : Launch} {G : kG} {E : kE} (a1 : Int32) (a2 : Int32)  (S : kSt) : kFn l G E E kjI m11_number 4 [.ref 14, .int a1, .int a2] S (f_m11_number a1 a2 S) := by
  unfold f_m11_number
  refine kFn_of (by decide +kernel) (fun hG => Nat.le_of_ble_eq_true rfl) ?_
  show kOk _ _ _ _ _ _ _ _ [(0, .ref 14), (1, .int a1), (2, .int a2)] _ _
  refine ok_aload_n 0 (kd_m11_number.at 0 rfl) rfl rfl ?_
  refine ok_iload_n 1 (kd_m11_number.at 1 rfl) rfl rfl ?_
  refine ok_iload_n 2 (kd_m11_number.at 2 rfl) rfl rfl ?_
  refine ok_callVI (M' := m11_numberHere) (as := [.int a1, .int a2]) (st := []) (kd_m11_number.at 3 rfl) kc11_150 sh_14 rfl rfl (by decide) (ok_m11_numberHere a1 a2 S) (kfit_of (by decide)) rfl (Nat.le_of_ble_eq_true rfl) (fun q1 hq1 => ?_)
  refine ok_istore_n (lv' := [(3, .int q1.1), (0, .ref 14), (1, .int a1), (2, .int a2)]) (kd_m11_number.at 4 rfl) rfl (by decide) rfl ?_
  refine ok_aload_n 1 (kd_m11_number.at 5 rfl) rfl rfl ?_
  refine ok_callVV (M' := m11_pass) (as := []) (st := []) (kd_m11_number.at 6 rfl) kc11_154 sh_14 rfl rfl (by decide) (ok_m11_pass  q1.2) (kfit_of (by decide)) rfl (Nat.le_of_ble_eq_true rfl) (fun q2 hq2 => ?_)
  refine ok_iload_n 0 (kd_m11_number.at 7 rfl) rfl rfl ?_
  exact ok_ireturn (kd_m11_number.at 8 rfl) rfl
def f_m11_after (i1 : Nat) (a2 : Int32) (a3 : Int32) (S : kSt) : Option (Int32 × kSt) :=
  (f_m11_must i1 S).bind fun q1 =>
  (f_m11_number a2 a3 q1).bind fun q2 =>
  some (q2.1, q2.2)
theorem ok_m11_after {l : Launch} {G : kG} {E : kE} (i1 : Nat) (a2 : Int32) (a3 : Int32) (hi1 : i1 < 16) (S : kSt) : kFn l G E E kjI m11_after 8 [.ref 14, .ref (1000 + i1), .int a2, .int a3] S (f_m11_after i1 a2 a3 S) := by
  unfold f_m11_after
  refine kFn_of (by decide +kernel) (fun hG => Nat.le_of_ble_eq_true rfl) ?_
  show kOk _ _ _ _ _ _ _ _ [(0, .ref 14), (1, .ref (1000 + i1)), (2, .int a2), (3, .int a3)] _ _
  refine ok_aload_n 0 (kd_m11_after.at 0 rfl) rfl rfl ?_
  refine ok_aload_n 1 (kd_m11_after.at 1 rfl) rfl rfl ?_
  refine ok_callVV (M' := m11_must) (as := [.ref (1000 + i1)]) (st := []) (kd_m11_after.at 2 rfl) kc11_157 sh_14 rfl rfl (by decide) (ok_m11_must i1 hi1 S) (kfit_of (by decide)) rfl (Nat.le_of_ble_eq_true rfl) (fun q1 hq1 => ?_)
  refine ok_aload_n 0 (kd_m11_after.at 3 rfl) rfl rfl ?_
  refine ok_iload_n 2 (kd_m11_after.at 4 rfl) rfl rfl ?_
  refine ok_iload_n 3 (kd_m11_after.at 5 rfl) rfl rfl ?_
  refine ok_callVI (M' := m11_number) (as := [.int a2, .int a3]) (st := []) (kd_m11_after.at 6 rfl) kc11_161 sh_14 rfl rfl (by decide) (ok_m11_number a2 a3 q1) (kfit_of (by decide)) rfl (Nat.le_of_ble_eq_true rfl) (fun q2 hq2 => ?_)
  exact ok_ireturn (kd_m11_after.at 7 rfl) rfl
def f_m11_begins (i1 : Nat) (a2 : Bool) (S : kSt) : Option (Bool × kSt) :=
  (f_m11_isWord i1 S).bind fun q1 =>
  if q1.1 then
    knx (fun  (S3 : kSt) =>
      knx (fun  (S4 : kSt) =>
        (f_m11_pass  S4).bind fun q5 =>
        some (true, q5)
        ) fun j43 =>
      if (S3.1 58 7) = 0 then
        (f_m11_wrong 6 (S3.1 14 4) S3).bind fun q7 =>
        j43  q7
      else
        j43  S3
      ) fun j23 =>
    if a2 then
      j23  q1.2
    else
      (f_m11_wrong 5 (q1.2.1 14 4) q1.2).bind fun q9 =>
      j23  q9
  else
    some (false, q1.2)
theorem ok_m11_begins {l : Launch} {G : kG} {E : kE} (i1 : Nat) (a2 : Bool) (hi1 : i1 < 16) (S : kSt) : kFn l G E E kjB m11_begins 6 [.ref 14, .ref (1000 + i1), .int (kb a2)] S (f_m11_begins i1 a2 S) := by
  unfold f_m11_begins
  refine kFn_of (by decide +kernel) (fun hG => Nat.le_of_ble_eq_true rfl) ?_
  show kOk _ _ _ _ _ _ _ _ [(0, .ref 14), (1, .ref (1000 + i1)), (2, .int (kb a2))] _ _
  refine ok_aload_n 0 (kd_m11_begins.at 0 rfl) rfl rfl ?_
  refine ok_aload_n 1 (kd_m11_begins.at 1 rfl) rfl rfl ?_
  refine ok_callVB (M' := m11_isWord) (as := [.ref (1000 + i1)]) (st := []) (kd_m11_begins.at 2 rfl) kc11_114 sh_14 rfl rfl (by decide) (ok_m11_isWord i1 hi1 S) (kfit_of (by decide)) rfl (Nat.le_of_ble_eq_true rfl) (fun q1 hq1 => ?_)
  refine ok_ifb_ne (tgt := 10) (kd_m11_begins.at 3 rfl) (by decide) (fun h2 => ?_) (fun h2 => ?_)
  · refine ok_iload_n 2 (kd_m11_begins.at 6 rfl) rfl rfl ?_
    refine ok_nx (fun j23 hj23 => ?_)
    have K23 : ∀  (S3 : kSt), kOk l G E (kZ G E kjB) m11_begins (kdp (6)) (j23  S3) 23 [(0, .ref 14)] [] S3 := by
      subst hj23
      intro  S3
      refine ok_aload_n 0 (kd_m11_begins.at 13 rfl) rfl rfl ?_
      refine ok_getR (kd_m11_begins.at 14 rfl) kf11_23 sh_14 rfl (kr_14_16 _) ?_
      refine ok_bipush (v := 7) (kd_m11_begins.at 15 rfl) (by decide) ?_
      refine ok_ialdK (j := 7) (kd_m11_begins.at 16 rfl) sh_58 (by decide) (by decide) ?_
      refine ok_nx (fun j43 hj43 => ?_)
      have K43 : ∀  (S4 : kSt), kOk l G E (kZ G E kjB) m11_begins (kdp (6)) (j43  S4) 43 [(0, .ref 14)] [] S4 := by
        subst hj43
        intro  S4
        refine ok_aload_n 0 (kd_m11_begins.at 23 rfl) rfl rfl ?_
        refine ok_callVV (M' := m11_pass) (as := []) (st := []) (kd_m11_begins.at 24 rfl) kc11_154 sh_14 rfl rfl (by decide) (ok_m11_pass  S4) (kfit_of (by decide)) rfl (Nat.le_of_ble_eq_true rfl) (fun q5 hq5 => ?_)
        refine ok_iconst (v := 1) (kd_m11_begins.at 25 rfl) (by decide) ?_
        exact ok_zreturn (x := true) (kd_m11_begins.at 26 rfl) rfl
      clear hj43
      refine ok_if_ne (tgt := 43) (kd_m11_begins.at 17 rfl) (by decide) (fun h6 => ?_) (fun h6 => ?_)
      · exact K43  S3
      · refine ok_aload_n 0 (kd_m11_begins.at 18 rfl) rfl rfl ?_
        refine ok_bipush (v := 6) (kd_m11_begins.at 19 rfl) (by decide) ?_
        refine ok_aload_n 0 (kd_m11_begins.at 20 rfl) rfl rfl ?_
        refine ok_getI (kd_m11_begins.at 21 rfl) kf11_78 sh_14 rfl ?_
        refine ok_callVV (M' := m11_wrong) (as := [.int 6, .int (S3.1 14 4)]) (st := []) (kd_m11_begins.at 22 rfl) kc11_124 sh_14 rfl rfl (by decide) (ok_m11_wrong 6 (S3.1 14 4) S3) (kfit_of (by decide)) rfl (Nat.le_of_ble_eq_true rfl) (fun q7 hq7 => ?_)
        exact K43  q7
    clear hj23
    refine ok_ifb_ne (tgt := 23) (kd_m11_begins.at 7 rfl) (by decide) (fun h8 => ?_) (fun h8 => ?_)
    · refine ok_sub (lv' := [(0, .ref 14)]) [0] rfl ?_
      exact K23  q1.2
    · refine ok_aload_n 0 (kd_m11_begins.at 8 rfl) rfl rfl ?_
      refine ok_iconst (v := 5) (kd_m11_begins.at 9 rfl) (by decide) ?_
      refine ok_aload_n 0 (kd_m11_begins.at 10 rfl) rfl rfl ?_
      refine ok_getI (kd_m11_begins.at 11 rfl) kf11_78 sh_14 rfl ?_
      refine ok_callVV (M' := m11_wrong) (as := [.int 5, .int (q1.2.1 14 4)]) (st := []) (kd_m11_begins.at 12 rfl) kc11_124 sh_14 rfl rfl (by decide) (ok_m11_wrong 5 (q1.2.1 14 4) q1.2) (kfit_of (by decide)) rfl (Nat.le_of_ble_eq_true rfl) (fun q9 hq9 => ?_)
      refine ok_sub (lv' := [(0, .ref 14)]) [0] rfl ?_
      exact K23  q9
  · refine ok_iconst (v := 0) (kd_m11_begins.at 4 rfl) (by decide) ?_
    exact ok_zreturn (x := false) (kd_m11_begins.at 5 rfl) rfl
