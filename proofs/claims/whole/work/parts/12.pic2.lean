def f_m3_forget  (S : kSt) : Option kSt :=
  knx (kuI S 5 2 0) fun S1 =>
  some S1
theorem ok_m3_forget {l : Launch} {G : kG} {E : kE}   (S : kSt) : kFn l G E E kjV m3_forget 1 [.ref 5] S (f_m3_forget  S) := by
  unfold f_m3_forget
  refine kFn_of (by decide +kernel) (fun hG => Nat.le_of_ble_eq_true rfl) ?_
  show kOk _ _ _ _ _ _ _ _ [(0, .ref 5)] _ _
  refine ok_aload_n 0 (kd_m3_forget.at 0 rfl) rfl rfl ?_
  refine ok_iconst (v := 0) (kd_m3_forget.at 1 rfl) (by decide) ?_
  refine ok_putI (kd_m3_forget.at 2 rfl) kf3_18 sh_5 rfl rfl ?_
  refine ok_nS (fun S1 hS1 => ?_)
  exact ok_return (kd_m3_forget.at 3 rfl) rfl
def f_m4_save (w1 : Nat) (S : kSt) : Option kSt :=
  if 36 ≤ (Int32.ofNat 36) then
    kgi 0 36 (
      knx (kuI S w1 (0 : Int32).toNatClampNeg (S.1 4 0)) fun S2 =>
      knx (kcp S2 40 w1 0 1 5) fun S3 =>
      knx (kcp S3 41 w1 0 6 5) fun S4 =>
      knx (kcp S4 42 w1 0 11 25) fun S5 =>
      some S5
    )
  else
    some S
theorem ok_m4_save {l : Launch} {G : kG} {E : kE} (w1 : Nat) (hw1 : kSH[w1]? = some (1, 0, 36)) (S : kSt) : kFn l G E E kjV m4_save 1 [.ref 4, .ref w1] S (f_m4_save w1 S) := by
  unfold f_m4_save
  refine kFn_of (by decide +kernel) (fun hG => Nat.le_of_ble_eq_true rfl) ?_
  show kOk _ _ _ _ _ _ _ _ [(0, .ref 4), (1, .ref w1)] _ _
  refine ok_aload_n 1 (kd_m4_save.at 0 rfl) rfl rfl ?_
  refine ok_alen (kd_m4_save.at 1 rfl) hw1 ?_
  refine ok_bipush (v := 36) (kd_m4_save.at 2 rfl) (by decide) ?_
  refine ok_icmp_ge (tgt := 8) (kd_m4_save.at 3 rfl) (by decide) (fun h1 => ?_) (fun h1 => ?_)
  · refine ok_aload_n 1 (kd_m4_save.at 5 rfl) rfl rfl ?_
    refine ok_iconst (v := 0) (kd_m4_save.at 6 rfl) (by decide) ?_
    refine ok_aload_n 0 (kd_m4_save.at 7 rfl) rfl rfl ?_
    refine ok_getI (kd_m4_save.at 8 rfl) kf4_21 sh_4 rfl ?_
    refine ok_iast (kd_m4_save.at 9 rfl) hw1 ?_
    refine ok_nS (fun S2 hS2 => ?_)
    refine ok_aload_n 0 (kd_m4_save.at 10 rfl) rfl rfl ?_
    refine ok_getR (kd_m4_save.at 11 rfl) kf4_11 sh_4 rfl (kr_4_1 _) ?_
    refine ok_iconst (v := 0) (kd_m4_save.at 12 rfl) (by decide) ?_
    refine ok_aload_n 1 (kd_m4_save.at 13 rfl) rfl rfl ?_
    refine ok_iconst (v := 1) (kd_m4_save.at 14 rfl) (by decide) ?_
    refine ok_iconst (v := 5) (kd_m4_save.at 15 rfl) (by decide) ?_
    refine ok_acopyK (a := 0) (b := 1) (n' := 5) (kd_m4_save.at 16 rfl) kac_4_28 kac2 kac3 kac4 sh_40 hw1 (by decide) (by decide) (by decide) (by decide) (kfit_of (by decide)) (Nat.le_of_ble_eq_true rfl) ?_
    refine ok_nS (fun S3 hS3 => ?_)
    refine ok_aload_n 0 (kd_m4_save.at 17 rfl) rfl rfl ?_
    refine ok_getR (kd_m4_save.at 18 rfl) kf4_15 sh_4 rfl (kr_4_2 _) ?_
    refine ok_iconst (v := 0) (kd_m4_save.at 19 rfl) (by decide) ?_
    refine ok_aload_n 1 (kd_m4_save.at 20 rfl) rfl rfl ?_
    refine ok_bipush (v := 6) (kd_m4_save.at 21 rfl) (by decide) ?_
    refine ok_iconst (v := 5) (kd_m4_save.at 22 rfl) (by decide) ?_
    refine ok_acopyK (a := 0) (b := 6) (n' := 5) (kd_m4_save.at 23 rfl) kac_4_28 kac2 kac3 kac4 sh_41 hw1 (by decide) (by decide) (by decide) (by decide) (kfit_of (by decide)) (Nat.le_of_ble_eq_true rfl) ?_
    refine ok_nS (fun S4 hS4 => ?_)
    refine ok_aload_n 0 (kd_m4_save.at 24 rfl) rfl rfl ?_
    refine ok_getR (kd_m4_save.at 25 rfl) kf4_18 sh_4 rfl (kr_4_3 _) ?_
    refine ok_iconst (v := 0) (kd_m4_save.at 26 rfl) (by decide) ?_
    refine ok_aload_n 1 (kd_m4_save.at 27 rfl) rfl rfl ?_
    refine ok_bipush (v := 11) (kd_m4_save.at 28 rfl) (by decide) ?_
    refine ok_bipush (v := 25) (kd_m4_save.at 29 rfl) (by decide) ?_
    refine ok_acopyK (a := 0) (b := 11) (n' := 25) (kd_m4_save.at 30 rfl) kac_4_28 kac2 kac3 kac4 sh_42 hw1 (by decide) (by decide) (by decide) (by decide) (kfit_of (by decide)) (Nat.le_of_ble_eq_true rfl) ?_
    refine ok_nS (fun S5 hS5 => ?_)
    exact ok_return (kd_m4_save.at 31 rfl) rfl
  · exact ok_return (kd_m4_save.at 4 rfl) rfl
def f_m3_keep  (S : kSt) : Option kSt :=
  knx (S.1 5 1) fun x1 =>
  kgi x1 16 (
    (f_m4_save (73 + x1.toNatClampNeg) S).bind fun q3 =>
    knx (kuI q3 5 1 (krem ((q3.1 5 1) + 1) 16)) fun S4 =>
    knx (kuI S4 5 2 (kmin ((S4.1 5 2) + 1) 16)) fun S5 =>
    some S5
  )
theorem ok_m3_keep {l : Launch} {G : kG} {E : kE}   (S : kSt) : kFn l G E E kjV m3_keep 2 [.ref 5, .ref 4] S (f_m3_keep  S) := by
  unfold f_m3_keep
  refine kFn_of (by decide +kernel) (fun hG => Nat.le_of_ble_eq_true rfl) ?_
  show kOk _ _ _ _ _ _ _ _ [(0, .ref 5), (1, .ref 4)] _ _
  refine ok_aload_n 1 (kd_m3_keep.at 0 rfl) rfl rfl ?_
  refine ok_aload_n 0 (kd_m3_keep.at 1 rfl) rfl rfl ?_
  refine ok_getR (kd_m3_keep.at 2 rfl) kf3_13 sh_5 rfl (kr_5_0 _) ?_
  refine ok_aload_n 0 (kd_m3_keep.at 3 rfl) rfl rfl ?_
  refine ok_getI (kd_m3_keep.at 4 rfl) kf3_22 sh_5 rfl ?_
  refine ok_topi (fun x1 hx1 => ?_)
  refine ok_aald (b := 73) (kd_m3_keep.at 5 rfl) sh_43 (kr_row _) (fun hx2 => ?_)
  refine ok_callVV (M' := m4_save) (as := [.ref (73 + x1.toNatClampNeg)]) (st := []) (kd_m3_keep.at 6 rfl) kc3_25 sh_4 rfl rfl (by decide) (ok_m4_save (73 + x1.toNatClampNeg) (sh_row _ hx2) S) (kfit_of (by decide)) rfl (Nat.le_of_ble_eq_true rfl) (fun q3 hq3 => ?_)
  refine ok_aload_n 0 (kd_m3_keep.at 7 rfl) rfl rfl ?_
  refine ok_aload_n 0 (kd_m3_keep.at 8 rfl) rfl rfl ?_
  refine ok_getI (kd_m3_keep.at 9 rfl) kf3_22 sh_5 rfl ?_
  refine ok_iconst (v := 1) (kd_m3_keep.at 10 rfl) (by decide) ?_
  refine ok_iadd (kd_m3_keep.at 11 rfl) ?_
  refine ok_bipush (v := 16) (kd_m3_keep.at 12 rfl) (by decide) ?_
  refine ok_iremK (kd_m3_keep.at 13 rfl) (by decide) ?_
  refine ok_putI (kd_m3_keep.at 14 rfl) kf3_22 sh_5 rfl rfl ?_
  refine ok_nS (fun S4 hS4 => ?_)
  refine ok_aload_n 0 (kd_m3_keep.at 15 rfl) rfl rfl ?_
  refine ok_aload_n 0 (kd_m3_keep.at 16 rfl) rfl rfl ?_
  refine ok_getI (kd_m3_keep.at 17 rfl) kf3_18 sh_5 rfl ?_
  refine ok_iconst (v := 1) (kd_m3_keep.at 18 rfl) (by decide) ?_
  refine ok_iadd (kd_m3_keep.at 19 rfl) ?_
  refine ok_bipush (v := 16) (kd_m3_keep.at 20 rfl) (by decide) ?_
  refine ok_mmin (kd_m3_keep.at 21 rfl) kc3_29 (kfit_of (by decide)) (Nat.le_of_ble_eq_true rfl) ?_
  refine ok_putI (kd_m3_keep.at 22 rfl) kf3_18 sh_5 rfl rfl ?_
  refine ok_nS (fun S5 hS5 => ?_)
  exact ok_return (kd_m3_keep.at 23 rfl) rfl
def f_m4_load (w1 : Nat) (S : kSt) : Option kSt :=
  if 36 ≤ (Int32.ofNat 36) then
    kgi 0 36 (
      knx (kuI S 4 0 (S.1 w1 (0 : Int32).toNatClampNeg)) fun S2 =>
      knx (kcp S2 w1 40 1 0 5) fun S3 =>
      knx (kcp S3 w1 41 6 0 5) fun S4 =>
      knx (kcp S4 w1 42 11 0 25) fun S5 =>
      some S5
    )
  else
    some S
theorem ok_m4_load {l : Launch} {G : kG} {E : kE} (w1 : Nat) (hw1 : kSH[w1]? = some (1, 0, 36)) (S : kSt) : kFn l G E E kjV m4_load 1 [.ref 4, .ref w1] S (f_m4_load w1 S) := by
  unfold f_m4_load
  refine kFn_of (by decide +kernel) (fun hG => Nat.le_of_ble_eq_true rfl) ?_
  show kOk _ _ _ _ _ _ _ _ [(0, .ref 4), (1, .ref w1)] _ _
  refine ok_aload_n 1 (kd_m4_load.at 0 rfl) rfl rfl ?_
  refine ok_alen (kd_m4_load.at 1 rfl) hw1 ?_
  refine ok_bipush (v := 36) (kd_m4_load.at 2 rfl) (by decide) ?_
  refine ok_icmp_ge (tgt := 8) (kd_m4_load.at 3 rfl) (by decide) (fun h1 => ?_) (fun h1 => ?_)
  · refine ok_aload_n 0 (kd_m4_load.at 5 rfl) rfl rfl ?_
    refine ok_aload_n 1 (kd_m4_load.at 6 rfl) rfl rfl ?_
    refine ok_iconst (v := 0) (kd_m4_load.at 7 rfl) (by decide) ?_
    refine ok_iald (kd_m4_load.at 8 rfl) hw1 ?_
    refine ok_putI (kd_m4_load.at 9 rfl) kf4_21 sh_4 rfl rfl ?_
    refine ok_nS (fun S2 hS2 => ?_)
    refine ok_aload_n 1 (kd_m4_load.at 10 rfl) rfl rfl ?_
    refine ok_iconst (v := 1) (kd_m4_load.at 11 rfl) (by decide) ?_
    refine ok_aload_n 0 (kd_m4_load.at 12 rfl) rfl rfl ?_
    refine ok_getR (kd_m4_load.at 13 rfl) kf4_11 sh_4 rfl (kr_4_1 _) ?_
    refine ok_iconst (v := 0) (kd_m4_load.at 14 rfl) (by decide) ?_
    refine ok_iconst (v := 5) (kd_m4_load.at 15 rfl) (by decide) ?_
    refine ok_acopyK (a := 1) (b := 0) (n' := 5) (kd_m4_load.at 16 rfl) kac_4_28 kac2 kac3 kac4 hw1 sh_40 (by decide) (by decide) (by decide) (by decide) (kfit_of (by decide)) (Nat.le_of_ble_eq_true rfl) ?_
    refine ok_nS (fun S3 hS3 => ?_)
    refine ok_aload_n 1 (kd_m4_load.at 17 rfl) rfl rfl ?_
    refine ok_bipush (v := 6) (kd_m4_load.at 18 rfl) (by decide) ?_
    refine ok_aload_n 0 (kd_m4_load.at 19 rfl) rfl rfl ?_
    refine ok_getR (kd_m4_load.at 20 rfl) kf4_15 sh_4 rfl (kr_4_2 _) ?_
    refine ok_iconst (v := 0) (kd_m4_load.at 21 rfl) (by decide) ?_
    refine ok_iconst (v := 5) (kd_m4_load.at 22 rfl) (by decide) ?_
    refine ok_acopyK (a := 6) (b := 0) (n' := 5) (kd_m4_load.at 23 rfl) kac_4_28 kac2 kac3 kac4 hw1 sh_41 (by decide) (by decide) (by decide) (by decide) (kfit_of (by decide)) (Nat.le_of_ble_eq_true rfl) ?_
    refine ok_nS (fun S4 hS4 => ?_)
    refine ok_aload_n 1 (kd_m4_load.at 24 rfl) rfl rfl ?_
    refine ok_bipush (v := 11) (kd_m4_load.at 25 rfl) (by decide) ?_
    refine ok_aload_n 0 (kd_m4_load.at 26 rfl) rfl rfl ?_
    refine ok_getR (kd_m4_load.at 27 rfl) kf4_18 sh_4 rfl (kr_4_3 _) ?_
    refine ok_iconst (v := 0) (kd_m4_load.at 28 rfl) (by decide) ?_
    refine ok_bipush (v := 25) (kd_m4_load.at 29 rfl) (by decide) ?_
    refine ok_acopyK (a := 11) (b := 0) (n' := 25) (kd_m4_load.at 30 rfl) kac_4_28 kac2 kac3 kac4 hw1 sh_42 (by decide) (by decide) (by decide) (by decide) (kfit_of (by decide)) (Nat.le_of_ble_eq_true rfl) ?_
    refine ok_nS (fun S5 hS5 => ?_)
    exact ok_return (kd_m4_load.at 31 rfl) rfl
  · exact ok_return (kd_m4_load.at 4 rfl) rfl
def f_m3_takeBack  (S : kSt) : Option kSt :=
  if (S.1 5 2) ≤ 0 then
    some S
  else
    knx (kuI S 5 1 (krem (((S.1 5 1) + 16) - 1) 16)) fun S2 =>
    knx (kuI S2 5 2 ((S2.1 5 2) - 1)) fun S3 =>
    knx (S3.1 5 1) fun x4 =>
    kgi x4 16 (
      (f_m4_load (73 + x4.toNatClampNeg) S3).bind fun q6 =>
      some q6
    )
theorem ok_m3_takeBack {l : Launch} {G : kG} {E : kE}   (S : kSt) : kFn l G E E kjV m3_takeBack 2 [.ref 5, .ref 4] S (f_m3_takeBack  S) := by
  unfold f_m3_takeBack
  refine kFn_of (by decide +kernel) (fun hG => Nat.le_of_ble_eq_true rfl) ?_
  show kOk _ _ _ _ _ _ _ _ [(0, .ref 5), (1, .ref 4)] _ _
  refine ok_aload_n 0 (kd_m3_takeBack.at 0 rfl) rfl rfl ?_
  refine ok_getI (kd_m3_takeBack.at 1 rfl) kf3_18 sh_5 rfl ?_
  refine ok_if_le (tgt := 46) (kd_m3_takeBack.at 2 rfl) (by decide) (fun h1 => ?_) (fun h1 => ?_)
  · exact ok_return (kd_m3_takeBack.at 26 rfl) rfl
  · refine ok_aload_n 0 (kd_m3_takeBack.at 3 rfl) rfl rfl ?_
    refine ok_aload_n 0 (kd_m3_takeBack.at 4 rfl) rfl rfl ?_
    refine ok_getI (kd_m3_takeBack.at 5 rfl) kf3_22 sh_5 rfl ?_
    refine ok_bipush (v := 16) (kd_m3_takeBack.at 6 rfl) (by decide) ?_
    refine ok_iadd (kd_m3_takeBack.at 7 rfl) ?_
    refine ok_iconst (v := 1) (kd_m3_takeBack.at 8 rfl) (by decide) ?_
    refine ok_isub (kd_m3_takeBack.at 9 rfl) ?_
    refine ok_bipush (v := 16) (kd_m3_takeBack.at 10 rfl) (by decide) ?_
    refine ok_iremK (kd_m3_takeBack.at 11 rfl) (by decide) ?_
    refine ok_putI (kd_m3_takeBack.at 12 rfl) kf3_22 sh_5 rfl rfl ?_
    refine ok_nS (fun S2 hS2 => ?_)
    refine ok_aload_n 0 (kd_m3_takeBack.at 13 rfl) rfl rfl ?_
    refine ok_dup (kd_m3_takeBack.at 14 rfl) rfl ?_
    refine ok_getI (kd_m3_takeBack.at 15 rfl) kf3_18 sh_5 rfl ?_
    refine ok_iconst (v := 1) (kd_m3_takeBack.at 16 rfl) (by decide) ?_
    refine ok_isub (kd_m3_takeBack.at 17 rfl) ?_
    refine ok_putI (kd_m3_takeBack.at 18 rfl) kf3_18 sh_5 rfl rfl ?_
    refine ok_nS (fun S3 hS3 => ?_)
    refine ok_aload_n 1 (kd_m3_takeBack.at 19 rfl) rfl rfl ?_
    refine ok_aload_n 0 (kd_m3_takeBack.at 20 rfl) rfl rfl ?_
    refine ok_getR (kd_m3_takeBack.at 21 rfl) kf3_13 sh_5 rfl (kr_5_0 _) ?_
    refine ok_aload_n 0 (kd_m3_takeBack.at 22 rfl) rfl rfl ?_
    refine ok_getI (kd_m3_takeBack.at 23 rfl) kf3_22 sh_5 rfl ?_
    refine ok_topi (fun x4 hx4 => ?_)
    refine ok_aald (b := 73) (kd_m3_takeBack.at 24 rfl) sh_43 (kr_row _) (fun hx5 => ?_)
    refine ok_callVV (M' := m4_load) (as := [.ref (73 + x4.toNatClampNeg)]) (st := []) (kd_m3_takeBack.at 25 rfl) kc3_35 sh_4 rfl rfl (by decide) (ok_m4_load (73 + x4.toNatClampNeg) (sh_row _ hx5) S3) (kfit_of (by decide)) rfl (Nat.le_of_ble_eq_true rfl) (fun q6 hq6 => ?_)
    exact ok_return (kd_m3_takeBack.at 26 rfl) rfl
def f_m4_begin  (S : kSt) : Option kSt :=
  knx (kuI S 4 0 0) fun S1 =>
  knx (kcp S1 19 40 0 0 5) fun S2 =>
  knx (kcp S2 20 41 0 0 5) fun S3 =>
  knx (kcp S3 22 42 0 0 25) fun S4 =>
  some S4
theorem ok_m4_begin {l : Launch} {G : kG} {E : kE}   (S : kSt) : kFn l G E E kjV m4_begin 1 [.ref 4, .ref 1] S (f_m4_begin  S) := by
  unfold f_m4_begin
  refine kFn_of (by decide +kernel) (fun hG => Nat.le_of_ble_eq_true rfl) ?_
  show kOk _ _ _ _ _ _ _ _ [(0, .ref 4), (1, .ref 1)] _ _
  refine ok_aload_n 0 (kd_m4_begin.at 0 rfl) rfl rfl ?_
  refine ok_iconst (v := 0) (kd_m4_begin.at 1 rfl) (by decide) ?_
  refine ok_putI (kd_m4_begin.at 2 rfl) kf4_21 sh_4 rfl rfl ?_
  refine ok_nS (fun S1 hS1 => ?_)
  refine ok_aload_n 1 (kd_m4_begin.at 3 rfl) rfl rfl ?_
  refine ok_getR (kd_m4_begin.at 4 rfl) kf4_25 sh_1 rfl (kr_1_8 _) ?_
  refine ok_iconst (v := 0) (kd_m4_begin.at 5 rfl) (by decide) ?_
  refine ok_aload_n 0 (kd_m4_begin.at 6 rfl) rfl rfl ?_
  refine ok_getR (kd_m4_begin.at 7 rfl) kf4_11 sh_4 rfl (kr_4_1 _) ?_
  refine ok_iconst (v := 0) (kd_m4_begin.at 8 rfl) (by decide) ?_
  refine ok_iconst (v := 5) (kd_m4_begin.at 9 rfl) (by decide) ?_
  refine ok_acopyK (a := 0) (b := 0) (n' := 5) (kd_m4_begin.at 10 rfl) kac_4_28 kac2 kac3 kac4 sh_19 sh_40 (by decide) (by decide) (by decide) (by decide) (kfit_of (by decide)) (Nat.le_of_ble_eq_true rfl) ?_
  refine ok_nS (fun S2 hS2 => ?_)
  refine ok_aload_n 1 (kd_m4_begin.at 11 rfl) rfl rfl ?_
  refine ok_getR (kd_m4_begin.at 12 rfl) kf4_34 sh_1 rfl (kr_1_9 _) ?_
  refine ok_iconst (v := 0) (kd_m4_begin.at 13 rfl) (by decide) ?_
  refine ok_aload_n 0 (kd_m4_begin.at 14 rfl) rfl rfl ?_
  refine ok_getR (kd_m4_begin.at 15 rfl) kf4_15 sh_4 rfl (kr_4_2 _) ?_
  refine ok_iconst (v := 0) (kd_m4_begin.at 16 rfl) (by decide) ?_
  refine ok_iconst (v := 5) (kd_m4_begin.at 17 rfl) (by decide) ?_
  refine ok_acopyK (a := 0) (b := 0) (n' := 5) (kd_m4_begin.at 18 rfl) kac_4_28 kac2 kac3 kac4 sh_20 sh_41 (by decide) (by decide) (by decide) (by decide) (kfit_of (by decide)) (Nat.le_of_ble_eq_true rfl) ?_
  refine ok_nS (fun S3 hS3 => ?_)
  refine ok_aload_n 1 (kd_m4_begin.at 19 rfl) rfl rfl ?_
  refine ok_getR (kd_m4_begin.at 20 rfl) kf4_35 sh_1 rfl (kr_1_11 _) ?_
  refine ok_iconst (v := 0) (kd_m4_begin.at 21 rfl) (by decide) ?_
  refine ok_aload_n 0 (kd_m4_begin.at 22 rfl) rfl rfl ?_
  refine ok_getR (kd_m4_begin.at 23 rfl) kf4_18 sh_4 rfl (kr_4_3 _) ?_
  refine ok_iconst (v := 0) (kd_m4_begin.at 24 rfl) (by decide) ?_
  refine ok_bipush (v := 25) (kd_m4_begin.at 25 rfl) (by decide) ?_
  refine ok_acopyK (a := 0) (b := 0) (n' := 25) (kd_m4_begin.at 26 rfl) kac_4_28 kac2 kac3 kac4 sh_22 sh_42 (by decide) (by decide) (by decide) (by decide) (kfit_of (by decide)) (Nat.le_of_ble_eq_true rfl) ?_
  refine ok_nS (fun S4 hS4 => ?_)
  exact ok_return (kd_m4_begin.at 27 rfl) rfl
def f_m6_reduce_L9   (k44 : Int64 → kSt → Option kSt) (c1 : Int64) (c3 : Int64) : Nat → Int64 → Int64 → Int32 → kSt → Option kSt
  | 0, _, _, _, _ => none
  | n + 1, v5, v7, v9, S =>
    if 100 ≤ v9 then
      k44 v5 S
    else
      if (lg_cmp v7 0) = 0 then
        k44 v5 S
      else
        kgzL v7 (
          knx (kremL v5 v7) fun x3 =>
          knx (v9 + 1) fun x4 =>
          f_m6_reduce_L9 k44 c1 c3 n v7 x3 x4 S
        )
theorem ok_m6_reduce_L9 {l : Launch} {G : kG} {E : kE}    (c1 : Int64) (c3 : Int64) (k44 : Int64 → kSt → Option kSt) (hk44 : ∀ (v5 : Int64) (S : kSt), kOk l G E (kZ G E kjV) m6_reduce (kdp (1)) (k44 v5 S) 44 [(0, .ref 12), (1, .long c1), (3, .long c3), (5, .long v5)] [] S) : ∀ (n : Nat) (v5 : Int64) (v7 : Int64) (v9 : Int32) (S : kSt), kOk l G E (kZ G E kjV) m6_reduce (kdp (1)) (f_m6_reduce_L9 k44 c1 c3 n v5 v7 v9 S) 9 [(0, .ref 12), (1, .long c1), (3, .long c3), (5, .long v5), (7, .long v7), (9, .int v9)] [] S := by
  intro n
  induction n with
  | zero => intro v5 v7 v9 S; exact ok_none
  | succ n ih =>
    intro v5 v7 v9 S
    rw [f_m6_reduce_L9]
    refine ok_iload 5 (kd_m6_reduce.at 6 rfl) rfl ?_
    refine ok_bipush (v := 100) (kd_m6_reduce.at 7 rfl) (by decide) ?_
    refine ok_icmp_ge (tgt := 44) (kd_m6_reduce.at 8 rfl) (by decide) (fun h1 => ?_) (fun h1 => ?_)
    · refine ok_sub (lv' := [(0, .ref 12), (1, .long c1), (3, .long c3), (5, .long v5)]) [0, 1, 2, 3] rfl ?_
      exact hk44 v5 S
    · refine ok_lload 4 (kd_m6_reduce.at 9 rfl) rfl ?_
      refine ok_lconst (v := 0) (kd_m6_reduce.at 10 rfl) (by decide) ?_
      refine ok_lcmp (kd_m6_reduce.at 11 rfl) ?_
      refine ok_if_eq (tgt := 44) (kd_m6_reduce.at 12 rfl) (by decide) (fun h2 => ?_) (fun h2 => ?_)
      · refine ok_sub (lv' := [(0, .ref 12), (1, .long c1), (3, .long c3), (5, .long v5)]) [0, 1, 2, 3] rfl ?_
        exact hk44 v5 S
      · refine ok_lload 3 (kd_m6_reduce.at 13 rfl) rfl ?_
        refine ok_lload 4 (kd_m6_reduce.at 14 rfl) rfl ?_
        refine ok_lremG (kd_m6_reduce.at 15 rfl) ?_
        refine ok_topl (fun x3 hx3 => ?_)
        refine ok_lstore (lv' := [(10, .long x3), (0, .ref 12), (1, .long c1), (3, .long c3), (5, .long v5), (7, .long v7), (9, .int v9)]) (kd_m6_reduce.at 16 rfl) (by decide) rfl ?_
        refine ok_lload 5 (kd_m6_reduce.at 17 rfl) rfl ?_
        refine ok_lstore (lv' := [(5, .long v7), (10, .long x3), (0, .ref 12), (1, .long c1), (3, .long c3), (7, .long v7), (9, .int v9)]) (kd_m6_reduce.at 18 rfl) (by decide) rfl ?_
        refine ok_lload 1 (kd_m6_reduce.at 19 rfl) rfl ?_
        refine ok_lstore (lv' := [(7, .long x3), (5, .long v7), (10, .long x3), (0, .ref 12), (1, .long c1), (3, .long c3), (9, .int v9)]) (kd_m6_reduce.at 20 rfl) (by decide) rfl ?_
        refine ok_nx (fun x4 hx4 => ?_)
        refine ok_iinc (v := x4) (lv' := [(9, .int x4), (7, .long x3), (5, .long v7), (10, .long x3), (0, .ref 12), (1, .long c1), (3, .long c3)]) 6 (kd_m6_reduce.at 21 rfl) rfl hx4.symm (by decide) rfl ?_
        refine ok_goto (tgt := 9) (kd_m6_reduce.at 22 rfl) (by decide) ?_
        refine ok_sub (lv' := [(0, .ref 12), (1, .long c1), (3, .long c3), (5, .long v7), (7, .long x3), (9, .int x4)]) [4, 5, 6, 2, 1, 0] rfl ?_
        exact ih v7 x3 x4 S
def f_m6_reduce (a1 : Int64) (a3 : Int64) (S : kSt) : Option kSt :=
  f_m6_reduce_L9 
    (fun (x5 : Int64) (S6 : kSt) =>
      knx (fun (x7 : Int64) (S8 : kSt) =>
        knx (kuL S8 12 0 x7) fun S9 =>
        knx (fun (x10 : Int64) (S11 : kSt) =>
          knx (kuL S11 12 1 x10) fun S12 =>
          some S12
          ) fun j79 =>
        if (lg_cmp x5 0) = 0 then
          j79 a3 S9
        else
          kgzL x5 (
            j79 (a3 / x5) S9
          )
        ) fun j60 =>
      if (lg_cmp x5 0) = 0 then
        j60 a1 S6
      else
        kgzL x5 (
          j60 (a1 / x5) S6
        )
    )
    a1 a3 kFU a3 a1 0 S
theorem ok_m6_reduce {l : Launch} {G : kG} {E : kE} (a1 : Int64) (a3 : Int64)  (S : kSt) : kFn l G E E kjV m6_reduce 1 [.ref 12, .long a1, .long a3] S (f_m6_reduce a1 a3 S) := by
  unfold f_m6_reduce
  refine kFn_of (by decide +kernel) (fun hG => Nat.le_of_ble_eq_true rfl) ?_
  show kOk _ _ _ _ _ _ _ _ [(0, .ref 12), (1, .long a1), (3, .long a3)] _ _
  refine ok_lload_n 2 (kd_m6_reduce.at 0 rfl) rfl rfl ?_
  refine ok_lstore (lv' := [(5, .long a3), (0, .ref 12), (1, .long a1), (3, .long a3)]) (kd_m6_reduce.at 1 rfl) (by decide) rfl ?_
  refine ok_lload_n 2 (kd_m6_reduce.at 2 rfl) rfl rfl ?_
  refine ok_lstore (lv' := [(7, .long a1), (5, .long a3), (0, .ref 12), (1, .long a1), (3, .long a3)]) (kd_m6_reduce.at 3 rfl) (by decide) rfl ?_
  refine ok_iconst (v := 0) (kd_m6_reduce.at 4 rfl) (by decide) ?_
  refine ok_istore (lv' := [(9, .int 0), (7, .long a1), (5, .long a3), (0, .ref 12), (1, .long a1), (3, .long a3)]) (kd_m6_reduce.at 5 rfl) (by decide) rfl ?_
  refine ok_sub (lv' := [(0, .ref 12), (1, .long a1), (3, .long a3), (5, .long a3), (7, .long a1), (9, .int 0)]) [3, 4, 5, 2, 1, 0] rfl ?_
  refine ok_m6_reduce_L9 a1 a3 _ (fun x5 S6 => ?_) kFU a3 a1 0 S
  refine ok_aload_n 0 (kd_m6_reduce.at 23 rfl) rfl rfl ?_
  refine ok_lload 3 (kd_m6_reduce.at 24 rfl) rfl ?_
  refine ok_lconst (v := 0) (kd_m6_reduce.at 25 rfl) (by decide) ?_
  refine ok_lcmp (kd_m6_reduce.at 26 rfl) ?_
  refine ok_nx (fun j60 hj60 => ?_)
  have K60 : ∀ (x7 : Int64) (S8 : kSt), kOk l G E (kZ G E kjV) m6_reduce (kdp (1)) (j60 x7 S8) 60 [(0, .ref 12), (3, .long a3), (5, .long x5)] [.long x7, .ref 12] S8 := by
    subst hj60
    intro x7 S8
    refine ok_putL (kd_m6_reduce.at 33 rfl) kf6_7 sh_12 rfl rfl ?_
    refine ok_nS (fun S9 hS9 => ?_)
    refine ok_aload_n 0 (kd_m6_reduce.at 34 rfl) rfl rfl ?_
    refine ok_lload 2 (kd_m6_reduce.at 35 rfl) rfl ?_
    refine ok_lconst (v := 0) (kd_m6_reduce.at 36 rfl) (by decide) ?_
    refine ok_lcmp (kd_m6_reduce.at 37 rfl) ?_
    refine ok_nx (fun j79 hj79 => ?_)
    have K79 : ∀ (x10 : Int64) (S11 : kSt), kOk l G E (kZ G E kjV) m6_reduce (kdp (1)) (j79 x10 S11) 79 [] [.long x10, .ref 12] S11 := by
      subst hj79
      intro x10 S11
      refine ok_putL (kd_m6_reduce.at 44 rfl) kf6_13 sh_12 rfl rfl ?_
      refine ok_nS (fun S12 hS12 => ?_)
      exact ok_return (kd_m6_reduce.at 45 rfl) rfl
    clear hj79
    refine ok_if_ne (tgt := 75) (kd_m6_reduce.at 38 rfl) (by decide) (fun h13 => ?_) (fun h13 => ?_)
    · refine ok_lload_n 1 (kd_m6_reduce.at 41 rfl) rfl rfl ?_
      refine ok_lload 2 (kd_m6_reduce.at 42 rfl) rfl ?_
      refine ok_ldivG (kd_m6_reduce.at 43 rfl) ?_
      refine ok_sub (lv' := []) [] rfl ?_
      exact K79 (a3 / x5) S9
    · refine ok_lload_n 1 (kd_m6_reduce.at 39 rfl) rfl rfl ?_
      refine ok_goto (tgt := 79) (kd_m6_reduce.at 40 rfl) (by decide) ?_
      refine ok_sub (lv' := []) [] rfl ?_
      exact K79 a3 S9
  clear hj60
  refine ok_if_ne (tgt := 56) (kd_m6_reduce.at 27 rfl) (by decide) (fun h14 => ?_) (fun h14 => ?_)
  · refine ok_lload_n 1 (kd_m6_reduce.at 30 rfl) rfl rfl ?_
    refine ok_lload 3 (kd_m6_reduce.at 31 rfl) rfl ?_
    refine ok_ldivG (kd_m6_reduce.at 32 rfl) ?_
    refine ok_sub (lv' := [(0, .ref 12), (3, .long a3), (5, .long x5)]) [0, 2, 3] rfl ?_
    exact K60 (a1 / x5) S6
  · refine ok_lload_n 1 (kd_m6_reduce.at 28 rfl) rfl rfl ?_
    refine ok_goto (tgt := 60) (kd_m6_reduce.at 29 rfl) (by decide) ?_
    refine ok_sub (lv' := [(0, .ref 12), (3, .long a3), (5, .long x5)]) [0, 2, 3] rfl ?_
    exact K60 a1 S6
def f_m6_part (a1 : Bool) (S : kSt) : Option (Int64 × kSt) :=
  if a1 then
    some (S.2 12 1, S)
  else
    some (S.2 12 0, S)
theorem ok_m6_part {l : Launch} {G : kG} {E : kE} (a1 : Bool)  (S : kSt) : kFn l G E E kjL m6_part 1 [.ref 12, .int (kb a1)] S (f_m6_part a1 S) := by
  unfold f_m6_part
  refine kFn_of (by decide +kernel) (fun hG => Nat.le_of_ble_eq_true rfl) ?_
  show kOk _ _ _ _ _ _ _ _ [(0, .ref 12), (1, .int (kb a1))] _ _
  refine ok_iload_n 1 (kd_m6_part.at 0 rfl) rfl rfl ?_
  refine ok_ifb_eq (tgt := 11) (kd_m6_part.at 1 rfl) (by decide) (fun h1 => ?_) (fun h1 => ?_)
  · refine ok_aload_n 0 (kd_m6_part.at 5 rfl) rfl rfl ?_
    refine ok_getL (kd_m6_part.at 6 rfl) kf6_7 sh_12 rfl ?_
    exact ok_lreturn (kd_m6_part.at 7 rfl) rfl
  · refine ok_aload_n 0 (kd_m6_part.at 2 rfl) rfl rfl ?_
    refine ok_getL (kd_m6_part.at 3 rfl) kf6_13 sh_12 rfl ?_
    refine ok_goto (tgt := 15) (kd_m6_part.at 4 rfl) (by decide) ?_
    exact ok_lreturn (kd_m6_part.at 7 rfl) rfl
def f_m7_found (a1 : Int32) (S : kSt) : Option (Bool × kSt) :=
  knx (kuI S 3 9 a1) fun S1 =>
  knx (kuI S1 3 10 (S1.1 3 4)) fun S2 =>
  some (false, S2)
theorem ok_m7_found {l : Launch} {G : kG} {ad : Nat → Nat} (a1 : Int32)  (S : kSt) : kFn l G (ad, 2) (ad, 2) kjB m7_found 1 [.ref 3, .int a1] S (f_m7_found a1 S) := by
  unfold f_m7_found
  refine kFn_of (by decide +kernel) (fun hG => Nat.le_of_ble_eq_true rfl) ?_
  show kOk _ _ _ _ _ _ _ _ [(0, .ref 3), (1, .int a1)] _ _
  refine ok_aload_n 0 (kd_m7_found.at 0 rfl) rfl rfl ?_
  refine ok_iload_n 1 (kd_m7_found.at 1 rfl) rfl rfl ?_
  refine ok_putI (kd_m7_found.at 2 rfl) kf7_44 sh_3 rfl rfl ?_
  refine ok_nS (fun S1 hS1 => ?_)
  refine ok_aload_n 0 (kd_m7_found.at 3 rfl) rfl rfl ?_
  refine ok_aload_n 0 (kd_m7_found.at 4 rfl) rfl rfl ?_
  refine ok_getI (kd_m7_found.at 5 rfl) kf7_70 sh_3 rfl ?_
  refine ok_putI (kd_m7_found.at 6 rfl) kf7_47 sh_3 rfl rfl ?_
  refine ok_nS (fun S2 hS2 => ?_)
  refine ok_iconst (v := 0) (kd_m7_found.at 7 rfl) (by decide) ?_
  exact ok_zreturn (x := false) (kd_m7_found.at 8 rfl) rfl
def f_m7_isLetter (a0 : Int32) (S : kSt) : Option (Bool × kSt) :=
  if a0 < 97 then
    some (false, S)
  else
    if 122 < a0 then
      some (false, S)
    else
      some (true, S)
theorem ok_m7_isLetter {l : Launch} {G : kG} {ad : Nat → Nat} (a0 : Int32)  (S : kSt) : kFn l G (ad, 2) (ad, 2) kjB m7_isLetter 1 [.int a0] S (f_m7_isLetter a0 S) := by
  unfold f_m7_isLetter
  refine kFn_of (by decide +kernel) (fun hG => Nat.le_of_ble_eq_true rfl) ?_
  show kOk _ _ _ _ _ _ _ _ [(0, .int a0)] _ _
  refine ok_iload_n 0 (kd_m7_isLetter.at 0 rfl) rfl rfl ?_
  refine ok_bipush (v := 97) (kd_m7_isLetter.at 1 rfl) (by decide) ?_
  refine ok_icmp_lt (tgt := 16) (kd_m7_isLetter.at 2 rfl) (by decide) (fun h1 => ?_) (fun h1 => ?_)
  · refine ok_iconst (v := 0) (kd_m7_isLetter.at 8 rfl) (by decide) ?_
    exact ok_zreturn (x := false) (kd_m7_isLetter.at 9 rfl) rfl
  · refine ok_iload_n 0 (kd_m7_isLetter.at 3 rfl) rfl rfl ?_
    refine ok_bipush (v := 122) (kd_m7_isLetter.at 4 rfl) (by decide) ?_
    refine ok_icmp_gt (tgt := 16) (kd_m7_isLetter.at 5 rfl) (by decide) (fun h2 => ?_) (fun h2 => ?_)
    · refine ok_iconst (v := 0) (kd_m7_isLetter.at 8 rfl) (by decide) ?_
      exact ok_zreturn (x := false) (kd_m7_isLetter.at 9 rfl) rfl
    · refine ok_iconst (v := 1) (kd_m7_isLetter.at 6 rfl) (by decide) ?_
      refine ok_goto (tgt := 17) (kd_m7_isLetter.at 7 rfl) (by decide) ?_
      exact ok_zreturn (x := true) (kd_m7_isLetter.at 9 rfl) rfl
def f_m7_isDigit (a0 : Int32) (S : kSt) : Option (Bool × kSt) :=
  if a0 < 48 then
    some (false, S)
  else
    if 57 < a0 then
      some (false, S)
    else
      some (true, S)
theorem ok_m7_isDigit {l : Launch} {G : kG} {ad : Nat → Nat} (a0 : Int32)  (S : kSt) : kFn l G (ad, 2) (ad, 2) kjB m7_isDigit 1 [.int a0] S (f_m7_isDigit a0 S) := by
  unfold f_m7_isDigit
  refine kFn_of (by decide +kernel) (fun hG => Nat.le_of_ble_eq_true rfl) ?_
  show kOk _ _ _ _ _ _ _ _ [(0, .int a0)] _ _
  refine ok_iload_n 0 (kd_m7_isDigit.at 0 rfl) rfl rfl ?_
  refine ok_bipush (v := 48) (kd_m7_isDigit.at 1 rfl) (by decide) ?_
  refine ok_icmp_lt (tgt := 16) (kd_m7_isDigit.at 2 rfl) (by decide) (fun h1 => ?_) (fun h1 => ?_)
  · refine ok_iconst (v := 0) (kd_m7_isDigit.at 8 rfl) (by decide) ?_
    exact ok_zreturn (x := false) (kd_m7_isDigit.at 9 rfl) rfl
  · refine ok_iload_n 0 (kd_m7_isDigit.at 3 rfl) rfl rfl ?_
    refine ok_bipush (v := 57) (kd_m7_isDigit.at 4 rfl) (by decide) ?_
    refine ok_icmp_gt (tgt := 16) (kd_m7_isDigit.at 5 rfl) (by decide) (fun h2 => ?_) (fun h2 => ?_)
    · refine ok_iconst (v := 0) (kd_m7_isDigit.at 8 rfl) (by decide) ?_
      exact ok_zreturn (x := false) (kd_m7_isDigit.at 9 rfl) rfl
    · refine ok_iconst (v := 1) (kd_m7_isDigit.at 6 rfl) (by decide) ?_
      refine ok_goto (tgt := 17) (kd_m7_isDigit.at 7 rfl) (by decide) ?_
      exact ok_zreturn (x := true) (kd_m7_isDigit.at 9 rfl) rfl
def f_m7_takeDigits_L5   (k68 : kSt → Option kSt)  : Nat → kSt → Option kSt
  | 0, _ => none
  | n + 1, S =>
    if (S.1 3 1) ≤ (S.1 3 2) then
      k68  S
    else
      knx (S.1 3 2) fun x3 =>
      kgi x3 900 (
        (f_m7_isDigit (S.1 15 x3.toNatClampNeg) S).bind fun q4 =>
        if q4.1 then
          knx (q4.2.1 3 2) fun x6 =>
          kgi x6 900 (
            knx (kuI q4.2 3 5 ((((q4.2.1 3 5) * 10) + (q4.2.1 15 x6.toNatClampNeg)) - 48)) fun S7 =>
            knx (kuI S7 3 2 ((S7.1 3 2) + 1)) fun S8 =>
            f_m7_takeDigits_L5 k68 n  S8
          )
        else
          k68  q4.2
      )
theorem ok_m7_takeDigits_L5 {l : Launch} {G : kG} {ad : Nat → Nat}     (k68 : kSt → Option kSt) (hk68 : ∀  (S : kSt), kOk l G (ad, 2) (kZ G (ad, 2) kjV) m7_takeDigits (kdp (2)) (k68  S) 68 [(0, .ref 3)] [] S) : ∀ (n : Nat)  (S : kSt), kOk l G (ad, 2) (kZ G (ad, 2) kjV) m7_takeDigits (kdp (2)) (f_m7_takeDigits_L5 k68 n  S) 5 [(0, .ref 3)] [] S := by
  intro n
  induction n with
  | zero => intro  S; exact ok_none
  | succ n ih =>
    intro  S
    rw [f_m7_takeDigits_L5]
    refine ok_aload_n 0 (kd_m7_takeDigits.at 3 rfl) rfl rfl ?_
    refine ok_getI (kd_m7_takeDigits.at 4 rfl) kf7_41 sh_3 rfl ?_
    refine ok_aload_n 0 (kd_m7_takeDigits.at 5 rfl) rfl rfl ?_
    refine ok_getI (kd_m7_takeDigits.at 6 rfl) kf7_37 sh_3 rfl ?_
    refine ok_icmp_ge (tgt := 68) (kd_m7_takeDigits.at 7 rfl) (by decide) (fun h2 => ?_) (fun h2 => ?_)
    · exact hk68  S
    · refine ok_aload_n 0 (kd_m7_takeDigits.at 8 rfl) rfl rfl ?_
      refine ok_getR (kd_m7_takeDigits.at 9 rfl) kf7_18 sh_3 rfl (kr_3_0 _) ?_
      refine ok_aload_n 0 (kd_m7_takeDigits.at 10 rfl) rfl rfl ?_
      refine ok_getI (kd_m7_takeDigits.at 11 rfl) kf7_41 sh_3 rfl ?_
      refine ok_topi (fun x3 hx3 => ?_)
      refine ok_bald (kd_m7_takeDigits.at 12 rfl) sh_15 ?_
      refine ok_callSB (M' := m7_isDigit) (as := [.int (S.1 15 x3.toNatClampNeg)]) (st := []) (kd_m7_takeDigits.at 13 rfl) kc7_79  rfl (by decide) (ok_m7_isDigit (S.1 15 x3.toNatClampNeg) S) (kfit_of (by decide)) rfl (Nat.le_of_ble_eq_true rfl) (fun q4 hq4 => ?_)
      refine ok_ifb_eq (tgt := 68) (kd_m7_takeDigits.at 14 rfl) (by decide) (fun h5 => ?_) (fun h5 => ?_)
      · exact hk68  q4.2
      · refine ok_aload_n 0 (kd_m7_takeDigits.at 15 rfl) rfl rfl ?_
        refine ok_aload_n 0 (kd_m7_takeDigits.at 16 rfl) rfl rfl ?_
        refine ok_getI (kd_m7_takeDigits.at 17 rfl) kf7_85 sh_3 rfl ?_
        refine ok_bipush (v := 10) (kd_m7_takeDigits.at 18 rfl) (by decide) ?_
        refine ok_imul (kd_m7_takeDigits.at 19 rfl) ?_
        refine ok_aload_n 0 (kd_m7_takeDigits.at 20 rfl) rfl rfl ?_
        refine ok_getR (kd_m7_takeDigits.at 21 rfl) kf7_18 sh_3 rfl (kr_3_0 _) ?_
        refine ok_aload_n 0 (kd_m7_takeDigits.at 22 rfl) rfl rfl ?_
        refine ok_getI (kd_m7_takeDigits.at 23 rfl) kf7_41 sh_3 rfl ?_
        refine ok_topi (fun x6 hx6 => ?_)
        refine ok_bald (kd_m7_takeDigits.at 24 rfl) sh_15 ?_
        refine ok_iadd (kd_m7_takeDigits.at 25 rfl) ?_
        refine ok_bipush (v := 48) (kd_m7_takeDigits.at 26 rfl) (by decide) ?_
        refine ok_isub (kd_m7_takeDigits.at 27 rfl) ?_
        refine ok_putI (kd_m7_takeDigits.at 28 rfl) kf7_85 sh_3 rfl rfl ?_
        refine ok_nS (fun S7 hS7 => ?_)
        refine ok_aload_n 0 (kd_m7_takeDigits.at 29 rfl) rfl rfl ?_
        refine ok_dup (kd_m7_takeDigits.at 30 rfl) rfl ?_
        refine ok_getI (kd_m7_takeDigits.at 31 rfl) kf7_41 sh_3 rfl ?_
        refine ok_iconst (v := 1) (kd_m7_takeDigits.at 32 rfl) (by decide) ?_
        refine ok_iadd (kd_m7_takeDigits.at 33 rfl) ?_
        refine ok_putI (kd_m7_takeDigits.at 34 rfl) kf7_41 sh_3 rfl rfl ?_
        refine ok_nS (fun S8 hS8 => ?_)
        refine ok_goto (tgt := 5) (kd_m7_takeDigits.at 35 rfl) (by decide) ?_
        exact ih  S8
def f_m7_takeDigits  (S : kSt) : Option kSt :=
  knx (kuI S 3 5 0) fun S1 =>
  f_m7_takeDigits_L5 
    (fun  (S9 : kSt) =>
      knx (if 3 < ((S9.1 3 2) - (S9.1 3 4)) then 4 else 2) fun x11 =>
      knx (kuI S9 3 3 x11) fun S12 =>
      some S12
    )
    kFU S1
theorem ok_m7_takeDigits {l : Launch} {G : kG} {ad : Nat → Nat}   (S : kSt) : kFn l G (ad, 2) (ad, 2) kjV m7_takeDigits 2 [.ref 3] S (f_m7_takeDigits  S) := by
  unfold f_m7_takeDigits
  refine kFn_of (by decide +kernel) (fun hG => Nat.le_of_ble_eq_true rfl) ?_
  show kOk _ _ _ _ _ _ _ _ [(0, .ref 3)] _ _
  refine ok_aload_n 0 (kd_m7_takeDigits.at 0 rfl) rfl rfl ?_
  refine ok_iconst (v := 0) (kd_m7_takeDigits.at 1 rfl) (by decide) ?_
  refine ok_putI (kd_m7_takeDigits.at 2 rfl) kf7_85 sh_3 rfl rfl ?_
  refine ok_nS (fun S1 hS1 => ?_)
  refine ok_m7_takeDigits_L5 _ (fun S9 => ?_) kFU S1
  refine ok_aload_n 0 (kd_m7_takeDigits.at 36 rfl) rfl rfl ?_
  refine ok_aload_n 0 (kd_m7_takeDigits.at 37 rfl) rfl rfl ?_
  refine ok_getI (kd_m7_takeDigits.at 38 rfl) kf7_41 sh_3 rfl ?_
  refine ok_aload_n 0 (kd_m7_takeDigits.at 39 rfl) rfl rfl ?_
  refine ok_getI (kd_m7_takeDigits.at 40 rfl) kf7_70 sh_3 rfl ?_
  refine ok_isub (kd_m7_takeDigits.at 41 rfl) ?_
  refine ok_iconst (v := 3) (kd_m7_takeDigits.at 42 rfl) (by decide) ?_
  refine ok_fold (α := Int32) (pcJ := 87) (lvJ := [(0, .ref 3)]) (stJ := [.ref 3]) (mk := fun v => .int v) (fun K => ?_) (fun x11 => ?_)
  · refine ok_ap ?_
    refine ok_icmp_gt (tgt := 86) (kd_m7_takeDigits.at 43 rfl) (by decide) (fun h10 => ?_) (fun h10 => ?_)
    · refine ok_iconst (v := 4) (kd_m7_takeDigits.at 46 rfl) (by decide) ?_
      exact K 4
    · refine ok_iconst (v := 2) (kd_m7_takeDigits.at 44 rfl) (by decide) ?_
      refine ok_goto (tgt := 87) (kd_m7_takeDigits.at 45 rfl) (by decide) ?_
      exact K 2
  · refine ok_putI (kd_m7_takeDigits.at 47 rfl) kf7_57 sh_3 rfl rfl ?_
    refine ok_nS (fun S12 hS12 => ?_)
    exact ok_return (kd_m7_takeDigits.at 48 rfl) rfl
def f_m7_takeLetters_L0   (k39 : kSt → Option kSt)  : Nat → kSt → Option kSt
  | 0, _ => none
  | n + 1, S =>
    if (S.1 3 1) ≤ (S.1 3 2) then
      k39  S
    else
      knx (S.1 3 2) fun x2 =>
      kgi x2 900 (
        (f_m7_isLetter (S.1 15 x2.toNatClampNeg) S).bind fun q3 =>
        if q3.1 then
          knx (kuI q3.2 3 2 ((q3.2.1 3 2) + 1)) fun S5 =>
          f_m7_takeLetters_L0 k39 n  S5
        else
          k39  q3.2
      )
theorem ok_m7_takeLetters_L0 {l : Launch} {G : kG} {ad : Nat → Nat}     (k39 : kSt → Option kSt) (hk39 : ∀  (S : kSt), kOk l G (ad, 2) (kZ G (ad, 2) kjV) m7_takeLetters (kdp (2)) (k39  S) 39 [(0, .ref 3)] [] S) : ∀ (n : Nat)  (S : kSt), kOk l G (ad, 2) (kZ G (ad, 2) kjV) m7_takeLetters (kdp (2)) (f_m7_takeLetters_L0 k39 n  S) 0 [(0, .ref 3)] [] S := by
  intro n
  induction n with
  | zero => intro  S; exact ok_none
  | succ n ih =>
    intro  S
    rw [f_m7_takeLetters_L0]
    refine ok_aload_n 0 (kd_m7_takeLetters.at 0 rfl) rfl rfl ?_
    refine ok_getI (kd_m7_takeLetters.at 1 rfl) kf7_41 sh_3 rfl ?_
    refine ok_aload_n 0 (kd_m7_takeLetters.at 2 rfl) rfl rfl ?_
    refine ok_getI (kd_m7_takeLetters.at 3 rfl) kf7_37 sh_3 rfl ?_
    refine ok_icmp_ge (tgt := 39) (kd_m7_takeLetters.at 4 rfl) (by decide) (fun h1 => ?_) (fun h1 => ?_)
    · exact hk39  S
    · refine ok_aload_n 0 (kd_m7_takeLetters.at 5 rfl) rfl rfl ?_
      refine ok_getR (kd_m7_takeLetters.at 6 rfl) kf7_18 sh_3 rfl (kr_3_0 _) ?_
      refine ok_aload_n 0 (kd_m7_takeLetters.at 7 rfl) rfl rfl ?_
      refine ok_getI (kd_m7_takeLetters.at 8 rfl) kf7_41 sh_3 rfl ?_
      refine ok_topi (fun x2 hx2 => ?_)
      refine ok_bald (kd_m7_takeLetters.at 9 rfl) sh_15 ?_
      refine ok_callSB (M' := m7_isLetter) (as := [.int (S.1 15 x2.toNatClampNeg)]) (st := []) (kd_m7_takeLetters.at 10 rfl) kc7_73  rfl (by decide) (ok_m7_isLetter (S.1 15 x2.toNatClampNeg) S) (kfit_of (by decide)) rfl (Nat.le_of_ble_eq_true rfl) (fun q3 hq3 => ?_)
      refine ok_ifb_eq (tgt := 39) (kd_m7_takeLetters.at 11 rfl) (by decide) (fun h4 => ?_) (fun h4 => ?_)
      · exact hk39  q3.2
      · refine ok_aload_n 0 (kd_m7_takeLetters.at 12 rfl) rfl rfl ?_
        refine ok_dup (kd_m7_takeLetters.at 13 rfl) rfl ?_
        refine ok_getI (kd_m7_takeLetters.at 14 rfl) kf7_41 sh_3 rfl ?_
        refine ok_iconst (v := 1) (kd_m7_takeLetters.at 15 rfl) (by decide) ?_
        refine ok_iadd (kd_m7_takeLetters.at 16 rfl) ?_
        refine ok_putI (kd_m7_takeLetters.at 17 rfl) kf7_41 sh_3 rfl rfl ?_
        refine ok_nS (fun S5 hS5 => ?_)
        refine ok_goto (tgt := 0) (kd_m7_takeLetters.at 18 rfl) (by decide) ?_
        exact ih  S5
def f_m7_takeLetters  (S : kSt) : Option kSt :=
  f_m7_takeLetters_L0 
    (fun  (S6 : kSt) =>
      knx (if 8 < ((S6.1 3 2) - (S6.1 3 4)) then 4 else 1) fun x8 =>
      knx (kuI S6 3 3 x8) fun S9 =>
      some S9
    )
    kFU S
theorem ok_m7_takeLetters {l : Launch} {G : kG} {ad : Nat → Nat}   (S : kSt) : kFn l G (ad, 2) (ad, 2) kjV m7_takeLetters 2 [.ref 3] S (f_m7_takeLetters  S) := by
  unfold f_m7_takeLetters
  refine kFn_of (by decide +kernel) (fun hG => Nat.le_of_ble_eq_true rfl) ?_
  show kOk _ _ _ _ _ _ _ _ [(0, .ref 3)] _ _
  refine ok_m7_takeLetters_L0 _ (fun S6 => ?_) kFU S
  refine ok_aload_n 0 (kd_m7_takeLetters.at 19 rfl) rfl rfl ?_
  refine ok_aload_n 0 (kd_m7_takeLetters.at 20 rfl) rfl rfl ?_
  refine ok_getI (kd_m7_takeLetters.at 21 rfl) kf7_41 sh_3 rfl ?_
  refine ok_aload_n 0 (kd_m7_takeLetters.at 22 rfl) rfl rfl ?_
  refine ok_getI (kd_m7_takeLetters.at 23 rfl) kf7_70 sh_3 rfl ?_
  refine ok_isub (kd_m7_takeLetters.at 24 rfl) ?_
  refine ok_bipush (v := 8) (kd_m7_takeLetters.at 25 rfl) (by decide) ?_
  refine ok_fold (α := Int32) (pcJ := 59) (lvJ := [(0, .ref 3)]) (stJ := [.ref 3]) (mk := fun v => .int v) (fun K => ?_) (fun x8 => ?_)
  · refine ok_ap ?_
    refine ok_icmp_gt (tgt := 58) (kd_m7_takeLetters.at 26 rfl) (by decide) (fun h7 => ?_) (fun h7 => ?_)
    · refine ok_iconst (v := 4) (kd_m7_takeLetters.at 29 rfl) (by decide) ?_
      exact K 4
    · refine ok_iconst (v := 1) (kd_m7_takeLetters.at 27 rfl) (by decide) ?_
      refine ok_goto (tgt := 59) (kd_m7_takeLetters.at 28 rfl) (by decide) ?_
      exact K 1
  · refine ok_putI (kd_m7_takeLetters.at 30 rfl) kf7_57 sh_3 rfl rfl ?_
    refine ok_nS (fun S9 hS9 => ?_)
    exact ok_return (kd_m7_takeLetters.at 31 rfl) rfl
def f_m7_next_L0   (k38 : kSt → Option kSt)  : Nat → kSt → Option kSt
  | 0, _ => none
  | n + 1, S =>
    if (S.1 3 1) ≤ (S.1 3 2) then
      k38  S
    else
      knx (S.1 3 2) fun x2 =>
      kgi x2 900 (
        if (S.1 15 x2.toNatClampNeg) = 32 then
          knx (kuI S 3 2 ((S.1 3 2) + 1)) fun S4 =>
          f_m7_next_L0 k38 n  S4
        else
          k38  S
      )
theorem ok_m7_next_L0 {l : Launch} {G : kG} {ad : Nat → Nat}     (k38 : kSt → Option kSt) (hk38 : ∀  (S : kSt), kOk l G (ad, 2) (kZ G (ad, 2) kjV) m7_next (kdp (3)) (k38  S) 38 [(0, .ref 3)] [] S) : ∀ (n : Nat)  (S : kSt), kOk l G (ad, 2) (kZ G (ad, 2) kjV) m7_next (kdp (3)) (f_m7_next_L0 k38 n  S) 0 [(0, .ref 3)] [] S := by
  intro n
  induction n with
  | zero => intro  S; exact ok_none
  | succ n ih =>
    intro  S
    rw [f_m7_next_L0]
    refine ok_aload_n 0 (kd_m7_next.at 0 rfl) rfl rfl ?_
    refine ok_getI (kd_m7_next.at 1 rfl) kf7_41 sh_3 rfl ?_
    refine ok_aload_n 0 (kd_m7_next.at 2 rfl) rfl rfl ?_
    refine ok_getI (kd_m7_next.at 3 rfl) kf7_37 sh_3 rfl ?_
    refine ok_icmp_ge (tgt := 38) (kd_m7_next.at 4 rfl) (by decide) (fun h1 => ?_) (fun h1 => ?_)
    · exact hk38  S
    · refine ok_aload_n 0 (kd_m7_next.at 5 rfl) rfl rfl ?_
      refine ok_getR (kd_m7_next.at 6 rfl) kf7_18 sh_3 rfl (kr_3_0 _) ?_
      refine ok_aload_n 0 (kd_m7_next.at 7 rfl) rfl rfl ?_
      refine ok_getI (kd_m7_next.at 8 rfl) kf7_41 sh_3 rfl ?_
      refine ok_topi (fun x2 hx2 => ?_)
      refine ok_bald (kd_m7_next.at 9 rfl) sh_15 ?_
      refine ok_bipush (v := 32) (kd_m7_next.at 10 rfl) (by decide) ?_
      refine ok_icmp_ne (tgt := 38) (kd_m7_next.at 11 rfl) (by decide) (fun h3 => ?_) (fun h3 => ?_)
      · exact hk38  S
      · refine ok_aload_n 0 (kd_m7_next.at 12 rfl) rfl rfl ?_
        refine ok_dup (kd_m7_next.at 13 rfl) rfl ?_
        refine ok_getI (kd_m7_next.at 14 rfl) kf7_41 sh_3 rfl ?_
        refine ok_iconst (v := 1) (kd_m7_next.at 15 rfl) (by decide) ?_
        refine ok_iadd (kd_m7_next.at 16 rfl) ?_
        refine ok_putI (kd_m7_next.at 17 rfl) kf7_41 sh_3 rfl rfl ?_
        refine ok_nS (fun S4 hS4 => ?_)
        refine ok_goto (tgt := 0) (kd_m7_next.at 18 rfl) (by decide) ?_
        exact ih  S4
def f_m7_next  (S : kSt) : Option kSt :=
  f_m7_next_L0 
    (fun  (S5 : kSt) =>
      knx (kuI S5 3 4 (S5.1 3 2)) fun S6 =>
      if (S6.1 3 2) < (S6.1 3 1) then
        knx (S6.1 3 2) fun x8 =>
        kgi x8 900 (
          (f_m7_isLetter (S6.1 15 x8.toNatClampNeg) S6).bind fun q9 =>
          if q9.1 then
            (f_m7_takeLetters  q9.2).bind fun q20 =>
            some q20
          else
            knx (q9.2.1 3 2) fun x11 =>
            kgi x11 900 (
              (f_m7_isDigit (q9.2.1 15 x11.toNatClampNeg) q9.2).bind fun q12 =>
              if q12.1 then
                (f_m7_takeDigits  q12.2).bind fun q19 =>
                some q19
              else
                knx (q12.2.1 3 2) fun x14 =>
                kgi x14 900 (
                  knx (if (q12.2.1 15 x14.toNatClampNeg) = 59 then 3 else 4) fun x16 =>
                  knx (kuI q12.2 3 3 x16) fun S17 =>
                  knx (kuI S17 3 2 ((S17.1 3 2) + 1)) fun S18 =>
                  some S18
                )
            )
        )
      else
        knx (kuI S6 3 3 0) fun S21 =>
        some S21
    )
    kFU S
theorem ok_m7_next {l : Launch} {G : kG} {ad : Nat → Nat}   (S : kSt) : kFn l G (ad, 2) (ad, 2) kjV m7_next 3 [.ref 3] S (f_m7_next  S) := by
  unfold f_m7_next
  refine kFn_of (by decide +kernel) (fun hG => Nat.le_of_ble_eq_true rfl) ?_
  show kOk _ _ _ _ _ _ _ _ [(0, .ref 3)] _ _
  refine ok_m7_next_L0 _ (fun S5 => ?_) kFU S
  refine ok_aload_n 0 (kd_m7_next.at 19 rfl) rfl rfl ?_
  refine ok_aload_n 0 (kd_m7_next.at 20 rfl) rfl rfl ?_
  refine ok_getI (kd_m7_next.at 21 rfl) kf7_41 sh_3 rfl ?_
  refine ok_putI (kd_m7_next.at 22 rfl) kf7_70 sh_3 rfl rfl ?_
  refine ok_nS (fun S6 hS6 => ?_)
  refine ok_aload_n 0 (kd_m7_next.at 23 rfl) rfl rfl ?_
  refine ok_getI (kd_m7_next.at 24 rfl) kf7_41 sh_3 rfl ?_
  refine ok_aload_n 0 (kd_m7_next.at 25 rfl) rfl rfl ?_
  refine ok_getI (kd_m7_next.at 26 rfl) kf7_37 sh_3 rfl ?_
  refine ok_icmp_lt (tgt := 65) (kd_m7_next.at 27 rfl) (by decide) (fun h7 => ?_) (fun h7 => ?_)
  · refine ok_aload_n 0 (kd_m7_next.at 32 rfl) rfl rfl ?_
    refine ok_getR (kd_m7_next.at 33 rfl) kf7_18 sh_3 rfl (kr_3_0 _) ?_
    refine ok_aload_n 0 (kd_m7_next.at 34 rfl) rfl rfl ?_
    refine ok_getI (kd_m7_next.at 35 rfl) kf7_41 sh_3 rfl ?_
    refine ok_topi (fun x8 hx8 => ?_)
    refine ok_bald (kd_m7_next.at 36 rfl) sh_15 ?_
    refine ok_callSB (M' := m7_isLetter) (as := [.int (S6.1 15 x8.toNatClampNeg)]) (st := []) (kd_m7_next.at 37 rfl) kc7_73  rfl (by decide) (ok_m7_isLetter (S6.1 15 x8.toNatClampNeg) S6) (kfit_of (by decide)) rfl (Nat.le_of_ble_eq_true rfl) (fun q9 hq9 => ?_)
    refine ok_ifb_eq (tgt := 87) (kd_m7_next.at 38 rfl) (by decide) (fun h10 => ?_) (fun h10 => ?_)
    · refine ok_aload_n 0 (kd_m7_next.at 42 rfl) rfl rfl ?_
      refine ok_getR (kd_m7_next.at 43 rfl) kf7_18 sh_3 rfl (kr_3_0 _) ?_
      refine ok_aload_n 0 (kd_m7_next.at 44 rfl) rfl rfl ?_
      refine ok_getI (kd_m7_next.at 45 rfl) kf7_41 sh_3 rfl ?_
      refine ok_topi (fun x11 hx11 => ?_)
      refine ok_bald (kd_m7_next.at 46 rfl) sh_15 ?_
      refine ok_callSB (M' := m7_isDigit) (as := [.int (q9.2.1 15 x11.toNatClampNeg)]) (st := []) (kd_m7_next.at 47 rfl) kc7_79  rfl (by decide) (ok_m7_isDigit (q9.2.1 15 x11.toNatClampNeg) q9.2) (kfit_of (by decide)) rfl (Nat.le_of_ble_eq_true rfl) (fun q12 hq12 => ?_)
      refine ok_ifb_eq (tgt := 109) (kd_m7_next.at 48 rfl) (by decide) (fun h13 => ?_) (fun h13 => ?_)
      · refine ok_aload_n 0 (kd_m7_next.at 52 rfl) rfl rfl ?_
        refine ok_aload_n 0 (kd_m7_next.at 53 rfl) rfl rfl ?_
        refine ok_getR (kd_m7_next.at 54 rfl) kf7_18 sh_3 rfl (kr_3_0 _) ?_
        refine ok_aload_n 0 (kd_m7_next.at 55 rfl) rfl rfl ?_
        refine ok_getI (kd_m7_next.at 56 rfl) kf7_41 sh_3 rfl ?_
        refine ok_topi (fun x14 hx14 => ?_)
        refine ok_bald (kd_m7_next.at 57 rfl) sh_15 ?_
        refine ok_bipush (v := 59) (kd_m7_next.at 58 rfl) (by decide) ?_
        refine ok_fold (α := Int32) (pcJ := 129) (lvJ := [(0, .ref 3)]) (stJ := [.ref 3]) (mk := fun v => .int v) (fun K => ?_) (fun x16 => ?_)
        · refine ok_ap ?_
          refine ok_icmp_ne (tgt := 128) (kd_m7_next.at 59 rfl) (by decide) (fun h15 => ?_) (fun h15 => ?_)
          · refine ok_iconst (v := 4) (kd_m7_next.at 62 rfl) (by decide) ?_
            exact K 4
          · refine ok_iconst (v := 3) (kd_m7_next.at 60 rfl) (by decide) ?_
            refine ok_goto (tgt := 129) (kd_m7_next.at 61 rfl) (by decide) ?_
            exact K 3
        · refine ok_putI (kd_m7_next.at 63 rfl) kf7_57 sh_3 rfl rfl ?_
          refine ok_nS (fun S17 hS17 => ?_)
          refine ok_aload_n 0 (kd_m7_next.at 64 rfl) rfl rfl ?_
          refine ok_dup (kd_m7_next.at 65 rfl) rfl ?_
          refine ok_getI (kd_m7_next.at 66 rfl) kf7_41 sh_3 rfl ?_
          refine ok_iconst (v := 1) (kd_m7_next.at 67 rfl) (by decide) ?_
          refine ok_iadd (kd_m7_next.at 68 rfl) ?_
          refine ok_putI (kd_m7_next.at 69 rfl) kf7_41 sh_3 rfl rfl ?_
          refine ok_nS (fun S18 hS18 => ?_)
          exact ok_return (kd_m7_next.at 70 rfl) rfl
      · refine ok_aload_n 0 (kd_m7_next.at 49 rfl) rfl rfl ?_
        refine ok_callVV (M' := m7_takeDigits) (as := []) (st := []) (kd_m7_next.at 50 rfl) kc7_82 sh_3 rfl rfl (by decide) (ok_m7_takeDigits  q12.2) (kfit_of (by decide)) rfl (Nat.le_of_ble_eq_true rfl) (fun q19 hq19 => ?_)
        refine ok_goto (tgt := 142) (kd_m7_next.at 51 rfl) (by decide) ?_
        exact ok_return (kd_m7_next.at 70 rfl) rfl
    · refine ok_aload_n 0 (kd_m7_next.at 39 rfl) rfl rfl ?_
      refine ok_callVV (M' := m7_takeLetters) (as := []) (st := []) (kd_m7_next.at 40 rfl) kc7_76 sh_3 rfl rfl (by decide) (ok_m7_takeLetters  q9.2) (kfit_of (by decide)) rfl (Nat.le_of_ble_eq_true rfl) (fun q20 hq20 => ?_)
      refine ok_goto (tgt := 142) (kd_m7_next.at 41 rfl) (by decide) ?_
      exact ok_return (kd_m7_next.at 70 rfl) rfl
  · refine ok_aload_n 0 (kd_m7_next.at 28 rfl) rfl rfl ?_
    refine ok_iconst (v := 0) (kd_m7_next.at 29 rfl) (by decide) ?_
    refine ok_putI (kd_m7_next.at 30 rfl) kf7_57 sh_3 rfl rfl ?_
    refine ok_nS (fun S21 hS21 => ?_)
    refine ok_goto (tgt := 142) (kd_m7_next.at 31 rfl) (by decide) ?_
    exact ok_return (kd_m7_next.at 70 rfl) rfl
def f_mJ_coder_J0 (i0 : Nat) (S : kSt) : Option (Int32 × kSt) :=
  if (1 : Int32) = 0 then
    some (1, S)
  else
    some (0, S)
theorem ok_mJ_coder_J0 {l : Launch} {G : kG} {E : kE} (i0 : Nat) (hi0 : i0 < 16) (S : kSt) : kFn l G E E kjI mJ_coder_J0 1 [.ref (1000 + i0)] S (f_mJ_coder_J0 i0 S) := by
  unfold f_mJ_coder_J0
  refine kFn_of (by decide +kernel) (fun hG => Nat.le_of_ble_eq_true rfl) ?_
  show kOk _ _ _ _ _ _ _ _ [(0, .ref (1000 + i0))] _ _
  refine ok_getsC (kd_mJ_coder_J0.at 0 rfl) (kin3 14 (by decide +kernel) rfl) ?_
  refine ok_if_eq (tgt := 13) (kd_mJ_coder_J0.at 1 rfl) (by decide) (fun h1 => ?_) (fun h1 => ?_)
  · refine ok_iconst (v := 1) (kd_mJ_coder_J0.at 5 rfl) (by decide) ?_
    exact ok_nreturn (kd_mJ_coder_J0.at 6 rfl) rfl (rfl)
  · refine ok_aload_n 0 (kd_mJ_coder_J0.at 2 rfl) rfl rfl ?_
    refine ok_scod (kd_mJ_coder_J0.at 3 rfl) hi0 (kin8 176 (by decide +kernel) rfl) ?_
    refine ok_goto (tgt := 14) (kd_mJ_coder_J0.at 4 rfl) (by decide) ?_
    exact ok_nreturn (kd_mJ_coder_J0.at 6 rfl) rfl (rfl)
def f_mJ_length_J0 (i0 : Nat) (S : kSt) : Option (Int32 × kSt) :=
  (f_mJ_coder_J0 i0 S).bind fun q1 =>
  some ((Int32.ofNat (kLen.getD i0 0)) >>> (q1.1 &&& 31), q1.2)
theorem ok_mJ_length_J0 {l : Launch} {G : kG} {E : kE} (i0 : Nat) (hi0 : i0 < 16) (S : kSt) : kFn l G E E kjI mJ_length_J0 2 [.ref (1000 + i0)] S (f_mJ_length_J0 i0 S) := by
  unfold f_mJ_length_J0
  refine kFn_of (by decide +kernel) (fun hG => Nat.le_of_ble_eq_true rfl) ?_
  show kOk _ _ _ _ _ _ _ _ [(0, .ref (1000 + i0))] _ _
  refine ok_aload_n 0 (kd_mJ_length_J0.at 0 rfl) rfl rfl ?_
  refine ok_sval (kd_mJ_length_J0.at 1 rfl) hi0 (kin8 175 (by decide +kernel) rfl) ?_
  refine ok_slen (kd_mJ_length_J0.at 2 rfl) hi0 ?_
  refine ok_aload_n 0 (kd_mJ_length_J0.at 3 rfl) rfl rfl ?_
  refine ok_callTI (M' := mJ_coder_J0) (as := []) (st := [.int (Int32.ofNat (kLen.getD i0 0))]) (kd_mJ_length_J0.at 4 rfl) ⟨(kin3 10 (by decide +kernel) rfl), kwm_mJ_coder_J0, kwl_mJ_coder_J0, kwi_mJ_coder_J0, kwc_mJ_coder_J0, kcy_mJ_coder_J0⟩ hi0 rfl rfl (by decide) (ok_mJ_coder_J0 i0 hi0 S) (kfit_of (by decide)) rfl (Nat.le_of_ble_eq_true rfl) (fun q1 hq1 => ?_)
  refine ok_ishr (kd_mJ_length_J0.at 5 rfl) ?_
  exact ok_ireturn (kd_mJ_length_J0.at 6 rfl) rfl
def f_mJ_isLatin1_J0 (i0 : Nat) (S : kSt) : Option (Bool × kSt) :=
  if (1 : Int32) = 0 then
    some (false, S)
  else
    if (0 : Int32) = 0 then
      some (true, S)
    else
      some (false, S)
theorem ok_mJ_isLatin1_J0 {l : Launch} {G : kG} {E : kE} (i0 : Nat) (hi0 : i0 < 16) (S : kSt) : kFn l G E E kjB mJ_isLatin1_J0 1 [.ref (1000 + i0)] S (f_mJ_isLatin1_J0 i0 S) := by
  unfold f_mJ_isLatin1_J0
  refine kFn_of (by decide +kernel) (fun hG => Nat.le_of_ble_eq_true rfl) ?_
  show kOk _ _ _ _ _ _ _ _ [(0, .ref (1000 + i0))] _ _
  refine ok_getsC (kd_mJ_isLatin1_J0.at 0 rfl) (kin3 14 (by decide +kernel) rfl) ?_
  refine ok_if_eq (tgt := 17) (kd_mJ_isLatin1_J0.at 1 rfl) (by decide) (fun h1 => ?_) (fun h1 => ?_)
  · refine ok_iconst (v := 0) (kd_mJ_isLatin1_J0.at 7 rfl) (by decide) ?_
    exact ok_zreturn (x := false) (kd_mJ_isLatin1_J0.at 8 rfl) rfl
  · refine ok_aload_n 0 (kd_mJ_isLatin1_J0.at 2 rfl) rfl rfl ?_
    refine ok_scod (kd_mJ_isLatin1_J0.at 3 rfl) hi0 (kin8 176 (by decide +kernel) rfl) ?_
    refine ok_if_ne (tgt := 17) (kd_mJ_isLatin1_J0.at 4 rfl) (by decide) (fun h2 => ?_) (fun h2 => ?_)
    · refine ok_iconst (v := 0) (kd_mJ_isLatin1_J0.at 7 rfl) (by decide) ?_
      exact ok_zreturn (x := false) (kd_mJ_isLatin1_J0.at 8 rfl) rfl
    · refine ok_iconst (v := 1) (kd_mJ_isLatin1_J0.at 5 rfl) (by decide) ?_
      refine ok_goto (tgt := 18) (kd_mJ_isLatin1_J0.at 6 rfl) (by decide) ?_
      exact ok_zreturn (x := true) (kd_mJ_isLatin1_J0.at 8 rfl) rfl
def f_mJ_checkIndex_J3 (a0 : Int32) (a1 : Int32) (S : kSt) : Option (Int32 × kSt) :=
  knx (fun  (S1 : kSt) =>
    none
    ) fun j9 =>
  if a0 < 0 then
    j9  S
  else
    if a0 < a1 then
      some (a0, S)
    else
      j9  S
theorem ok_mJ_checkIndex_J3 {l : Launch} {G : kG} {E : kE} (a0 : Int32) (a1 : Int32)  (S : kSt) : kFn l G E E kjI mJ_checkIndex_J3 1 [.int a0, .int a1, G.2.2.2.2.1] S (f_mJ_checkIndex_J3 a0 a1 S) := by
  unfold f_mJ_checkIndex_J3
  refine kFn_of (by decide +kernel) (fun hG => by rcases hG with h | h <;> rw [h] <;> exact Nat.le_of_ble_eq_true rfl) ?_
  show kOk _ _ _ _ _ _ _ _ [(0, .int a0), (1, .int a1), (2, G.2.2.2.2.1)] _ _
  refine ok_iload_n 0 (kd_mJ_checkIndex_J3.at 0 rfl) rfl rfl ?_
  refine ok_nx (fun j9 hj9 => ?_)
  have K9 : ∀  (S1 : kSt), kOk l G E (kZ G E kjI) mJ_checkIndex_J3 (kdp (1)) (j9  S1) 9 [(0, .int a0), (1, .int a1), (2, G.2.2.2.2.1)] [] S1 := by
    subst hj9
    intro  S1
    exact ok_none
  clear hj9
  refine ok_if_lt (tgt := 9) (kd_mJ_checkIndex_J3.at 1 rfl) (by decide) (fun h2 => ?_) (fun h2 => ?_)
  · exact K9  S
  · refine ok_iload_n 0 (kd_mJ_checkIndex_J3.at 2 rfl) rfl rfl ?_
    refine ok_iload_n 1 (kd_mJ_checkIndex_J3.at 3 rfl) rfl rfl ?_
    refine ok_icmp_lt (tgt := 16) (kd_mJ_checkIndex_J3.at 4 rfl) (by decide) (fun h3 => ?_) (fun h3 => ?_)
    · refine ok_iload_n 0 (kd_mJ_checkIndex_J3.at 10 rfl) rfl rfl ?_
      exact ok_ireturn (kd_mJ_checkIndex_J3.at 11 rfl) rfl
    · exact K9  S
def f_mJ_checkIndex_J0 (a0 : Int32) (a1 : Int32) (S : kSt) : Option kSt :=
  (f_mJ_checkIndex_J3 a0 a1 S).bind fun q1 =>
  some q1.2
theorem ok_mJ_checkIndex_J0 {l : Launch} {G : kG} {E : kE} (a0 : Int32) (a1 : Int32)  (S : kSt) : kFn l G E E kjV mJ_checkIndex_J0 2 [.int a0, .int a1] S (f_mJ_checkIndex_J0 a0 a1 S) := by
  unfold f_mJ_checkIndex_J0
  refine kFn_of (by decide +kernel) (fun hG => Nat.le_of_ble_eq_true rfl) ?_
  show kOk _ _ _ _ _ _ _ _ [(0, .int a0), (1, .int a1)] _ _
  refine ok_iload_n 0 (kd_mJ_checkIndex_J0.at 0 rfl) rfl rfl ?_
  refine ok_iload_n 1 (kd_mJ_checkIndex_J0.at 1 rfl) rfl rfl ?_
  refine ok_getsF (kd_mJ_checkIndex_J0.at 2 rfl) (kin3 30 (by decide +kernel) rfl) ?_
  refine ok_callSI (M' := mJ_checkIndex_J3) (as := [.int a0, .int a1, G.2.2.2.2.1]) (st := []) (kd_mJ_checkIndex_J0.at 3 rfl) ⟨(kin3 32 (by decide +kernel) rfl), kws_mJ_checkIndex_J3, kwi_mJ_checkIndex_J3, kwc_mJ_checkIndex_J3, kcy_mJ_checkIndex_J3⟩  rfl (by decide) (ok_mJ_checkIndex_J3 a0 a1 S) (kfit_of (by decide)) rfl (Nat.le_of_ble_eq_true rfl) (fun q1 hq1 => ?_)
  refine ok_pop (kd_mJ_checkIndex_J0.at 4 rfl) rfl ?_
  exact ok_return (kd_mJ_checkIndex_J0.at 5 rfl) rfl
def f_mJ_charAt_J1 (i0 : Nat) (a1 : Int32) (S : kSt) : Option (Int32 × kSt) :=
  (f_mJ_checkIndex_J0 a1 (Int32.ofNat (kLen.getD i0 0)) S).bind fun q1 =>
  kgi a1 (kLen.getD i0 0) (
    some (((((kByt.getD i0 []).getD a1.toNatClampNeg 0) &&& 255).toUInt32 % 65536).toInt32, q1)
  )
theorem ok_mJ_charAt_J1 {l : Launch} {G : kG} {E : kE} (i0 : Nat) (a1 : Int32) (hi0 : i0 < 16) (S : kSt) : kFn l G E E kjI mJ_charAt_J1 3 [.ref (1100 + i0), .int a1] S (f_mJ_charAt_J1 i0 a1 S) := by
  unfold f_mJ_charAt_J1
  refine kFn_of (by decide +kernel) (fun hG => Nat.le_of_ble_eq_true rfl) ?_
  show kOk _ _ _ _ _ _ _ _ [(0, .ref (1100 + i0)), (1, .int a1)] _ _
  refine ok_iload_n 1 (kd_mJ_charAt_J1.at 0 rfl) rfl rfl ?_
  refine ok_aload_n 0 (kd_mJ_charAt_J1.at 1 rfl) rfl rfl ?_
  refine ok_slen (kd_mJ_charAt_J1.at 2 rfl) hi0 ?_
  refine ok_callSV (M' := mJ_checkIndex_J0) (as := [.int a1, .int (Int32.ofNat (kLen.getD i0 0))]) (st := []) (kd_mJ_charAt_J1.at 3 rfl) ⟨(kin3 27 (by decide +kernel) rfl), kws_mJ_checkIndex_J0, kwi_mJ_checkIndex_J0, kwc_mJ_checkIndex_J0, kcy_mJ_checkIndex_J0⟩  rfl (by decide) (ok_mJ_checkIndex_J0 a1 (Int32.ofNat (kLen.getD i0 0)) S) (kfit_of (by decide)) rfl (Nat.le_of_ble_eq_true rfl) (fun q1 hq1 => ?_)
  refine ok_aload_n 0 (kd_mJ_charAt_J1.at 4 rfl) rfl rfl ?_
  refine ok_iload_n 1 (kd_mJ_charAt_J1.at 5 rfl) rfl rfl ?_
  refine ok_sbyt (kd_mJ_charAt_J1.at 6 rfl) hi0 ?_
  refine ok_sipush (v := 255) (kd_mJ_charAt_J1.at 7 rfl) (by decide) ?_
  refine ok_iand (kd_mJ_charAt_J1.at 8 rfl) ?_
  refine ok_i2c (kd_mJ_charAt_J1.at 9 rfl) ?_
  exact ok_nreturn (kd_mJ_charAt_J1.at 10 rfl) rfl (pk_nc _)
theorem knar_charAt {i0 : Nat} {a1 : Int32} {S : kSt} {q : Int32 × kSt} (h : f_mJ_charAt_J1 i0 a1 S = some q) : narrow .char (.int q.1) = .int q.1 := by
  unfold f_mJ_charAt_J1 at h
  obtain ⟨q1, h1, h⟩ := kbnd h
  obtain ⟨_, h⟩ := kgi_some h
  cases h
  exact pk_nc _
def f_mJ_charAt_J0 (i0 : Nat) (a1 : Int32) (S : kSt) : Option (Int32 × kSt) :=
  (f_mJ_isLatin1_J0 i0 S).bind fun q1 =>
  if q1.1 then
    (f_mJ_charAt_J1 i0 a1 q1.2).bind fun q3 =>
    some (q3.1, q3.2)
  else
    none
theorem ok_mJ_charAt_J0 {l : Launch} {G : kG} {E : kE} (i0 : Nat) (a1 : Int32) (hi0 : i0 < 16) (S : kSt) : kFn l G E E kjI mJ_charAt_J0 4 [.ref (1000 + i0), .int a1] S (f_mJ_charAt_J0 i0 a1 S) := by
  unfold f_mJ_charAt_J0
  refine kFn_of (by decide +kernel) (fun hG => Nat.le_of_ble_eq_true rfl) ?_
  show kOk _ _ _ _ _ _ _ _ [(0, .ref (1000 + i0)), (1, .int a1)] _ _
  refine ok_aload_n 0 (kd_mJ_charAt_J0.at 0 rfl) rfl rfl ?_
  refine ok_callTB (M' := mJ_isLatin1_J0) (as := []) (st := []) (kd_mJ_charAt_J0.at 1 rfl) ⟨(kin3 20 (by decide +kernel) rfl), kwm_mJ_isLatin1_J0, kwl_mJ_isLatin1_J0, kwi_mJ_isLatin1_J0, kwc_mJ_isLatin1_J0, kcy_mJ_isLatin1_J0⟩ hi0 rfl rfl (by decide) (ok_mJ_isLatin1_J0 i0 hi0 S) (kfit_of (by decide)) rfl (Nat.le_of_ble_eq_true rfl) (fun q1 hq1 => ?_)
  refine ok_ifb_eq (tgt := 16) (kd_mJ_charAt_J0.at 2 rfl) (by decide) (fun h2 => ?_) (fun h2 => ?_)
  · exact ok_none
  · refine ok_aload_n 0 (kd_mJ_charAt_J0.at 3 rfl) rfl rfl ?_
    refine ok_sval (kd_mJ_charAt_J0.at 4 rfl) hi0 (kin8 175 (by decide +kernel) rfl) ?_
    refine ok_iload_n 1 (kd_mJ_charAt_J0.at 5 rfl) rfl rfl ?_
    refine ok_callSI (M' := mJ_charAt_J1) (as := [.ref (1100 + i0), .int a1]) (st := []) (kd_mJ_charAt_J0.at 6 rfl) ⟨(kin3 24 (by decide +kernel) rfl), kws_mJ_charAt_J1, kwi_mJ_charAt_J1, kwc_mJ_charAt_J1, kcy_mJ_charAt_J1⟩  rfl (by decide) (ok_mJ_charAt_J1 i0 a1 hi0 q1.2) (kfit_of (by decide)) rfl (Nat.le_of_ble_eq_true rfl) (fun q3 hq3 => ?_)
    exact ok_nreturn (kd_mJ_charAt_J0.at 7 rfl) rfl (knar_charAt hq3)
def f_m7_isWord_L28 (i1 : Nat)  (k55 : kSt → Option (Bool × kSt)) (k63 : kSt → Option (Bool × kSt))  : Nat → Int32 → kSt → Option (Bool × kSt)
  | 0, _, _ => none
  | n + 1, v2, S =>
    (f_mJ_length_J0 i1 S).bind fun q4 =>
    if q4.1 ≤ v2 then
      k63  q4.2
    else
      knx ((q4.2.1 3 4) + v2) fun x6 =>
      kgi x6 900 (
        (f_mJ_charAt_J0 i1 v2 q4.2).bind fun q7 =>
        if (q4.2.1 15 x6.toNatClampNeg) = q7.1 then
          knx (v2 + 1) fun x9 =>
          f_m7_isWord_L28 i1 k55 k63 n x9 q7.2
        else
          k55  q7.2
      )
theorem ok_m7_isWord_L28 {l : Launch} {G : kG} {ad : Nat → Nat} (i1 : Nat) (hi1 : i1 < 16)   (k55 : kSt → Option (Bool × kSt)) (k63 : kSt → Option (Bool × kSt)) (hk55 : ∀  (S : kSt), kOk l G (ad, 2) (kZ G (ad, 2) kjB) m7_isWord (kdp (5)) (k55  S) 55 [] [] S) (hk63 : ∀  (S : kSt), kOk l G (ad, 2) (kZ G (ad, 2) kjB) m7_isWord (kdp (5)) (k63  S) 63 [] [] S) : ∀ (n : Nat) (v2 : Int32) (S : kSt), kOk l G (ad, 2) (kZ G (ad, 2) kjB) m7_isWord (kdp (5)) (f_m7_isWord_L28 i1 k55 k63 n v2 S) 28 [(0, .ref 3), (1, .ref (1000 + i1)), (2, .int v2)] [] S := by
  intro n
  induction n with
  | zero => intro v2 S; exact ok_none
  | succ n ih =>
    intro v2 S
    rw [f_m7_isWord_L28]
    refine ok_iload_n 2 (kd_m7_isWord.at 16 rfl) rfl rfl ?_
    refine ok_aload_n 1 (kd_m7_isWord.at 17 rfl) rfl rfl ?_
    refine ok_callTI (M' := mJ_length_J0) (as := []) (st := [.int v2]) (kd_m7_isWord.at 18 rfl) kc7_88 hi1 rfl rfl (by decide) (ok_mJ_length_J0 i1 hi1 S) (kfit_of (by decide)) rfl (Nat.le_of_ble_eq_true rfl) (fun q4 hq4 => ?_)
    refine ok_icmp_ge (tgt := 63) (kd_m7_isWord.at 19 rfl) (by decide) (fun h5 => ?_) (fun h5 => ?_)
    · refine ok_sub (lv' := []) [] rfl ?_
      exact hk63  q4.2
    · refine ok_aload_n 0 (kd_m7_isWord.at 20 rfl) rfl rfl ?_
      refine ok_getR (kd_m7_isWord.at 21 rfl) kf7_18 sh_3 rfl (kr_3_0 _) ?_
      refine ok_aload_n 0 (kd_m7_isWord.at 22 rfl) rfl rfl ?_
      refine ok_getI (kd_m7_isWord.at 23 rfl) kf7_70 sh_3 rfl ?_
      refine ok_iload_n 2 (kd_m7_isWord.at 24 rfl) rfl rfl ?_
      refine ok_iadd (kd_m7_isWord.at 25 rfl) ?_
      refine ok_topi (fun x6 hx6 => ?_)
      refine ok_bald (kd_m7_isWord.at 26 rfl) sh_15 ?_
      refine ok_aload_n 1 (kd_m7_isWord.at 27 rfl) rfl rfl ?_
      refine ok_iload_n 2 (kd_m7_isWord.at 28 rfl) rfl rfl ?_
      refine ok_callTI (M' := mJ_charAt_J0) (as := [.int v2]) (st := [.int (q4.2.1 15 x6.toNatClampNeg)]) (kd_m7_isWord.at 29 rfl) kc7_94 hi1 rfl rfl (by decide) (ok_mJ_charAt_J0 i1 v2 hi1 q4.2) (kfit_of (by decide)) rfl (Nat.le_of_ble_eq_true rfl) (fun q7 hq7 => ?_)
      refine ok_icmp_eq (tgt := 57) (kd_m7_isWord.at 30 rfl) (by decide) (fun h8 => ?_) (fun h8 => ?_)
      · refine ok_nx (fun x9 hx9 => ?_)
        refine ok_iinc (v := x9) (lv' := [(2, .int x9), (0, .ref 3), (1, .ref (1000 + i1))]) 2 (kd_m7_isWord.at 33 rfl) rfl hx9.symm (by decide) rfl ?_
        refine ok_goto (tgt := 28) (kd_m7_isWord.at 34 rfl) (by decide) ?_
        refine ok_sub (lv' := [(0, .ref 3), (1, .ref (1000 + i1)), (2, .int x9)]) [1, 2, 0] rfl ?_
        exact ih x9 q7.2
      · refine ok_sub (lv' := []) [] rfl ?_
        exact hk55  q7.2
def f_m7_isWord (i1 : Nat) (S : kSt) : Option (Bool × kSt) :=
  if (S.1 3 3) = 1 then
    (f_mJ_length_J0 i1 S).bind fun q2 =>
    if ((S.1 3 2) - (S.1 3 4)) = q2.1 then
      f_m7_isWord_L28 i1
        (fun  (S10 : kSt) =>
          some (false, S10)
        )
        (fun  (S11 : kSt) =>
          some (true, S11)
        )
        kFU 0 q2.2
    else
      some (false, q2.2)
  else
    some (false, S)
theorem ok_m7_isWord {l : Launch} {G : kG} {ad : Nat → Nat} (i1 : Nat) (hi1 : i1 < 16) (S : kSt) : kFn l G (ad, 2) (ad, 2) kjB m7_isWord 5 [.ref 3, .ref (1000 + i1)] S (f_m7_isWord i1 S) := by
  unfold f_m7_isWord
  refine kFn_of (by decide +kernel) (fun hG => Nat.le_of_ble_eq_true rfl) ?_
  show kOk _ _ _ _ _ _ _ _ [(0, .ref 3), (1, .ref (1000 + i1))] _ _
  refine ok_aload_n 0 (kd_m7_isWord.at 0 rfl) rfl rfl ?_
  refine ok_getI (kd_m7_isWord.at 1 rfl) kf7_57 sh_3 rfl ?_
  refine ok_iconst (v := 1) (kd_m7_isWord.at 2 rfl) (by decide) ?_
  refine ok_icmp_ne (tgt := 24) (kd_m7_isWord.at 3 rfl) (by decide) (fun h1 => ?_) (fun h1 => ?_)
  · refine ok_iconst (v := 0) (kd_m7_isWord.at 12 rfl) (by decide) ?_
    exact ok_zreturn (x := false) (kd_m7_isWord.at 13 rfl) rfl
  · refine ok_aload_n 0 (kd_m7_isWord.at 4 rfl) rfl rfl ?_
    refine ok_getI (kd_m7_isWord.at 5 rfl) kf7_41 sh_3 rfl ?_
    refine ok_aload_n 0 (kd_m7_isWord.at 6 rfl) rfl rfl ?_
    refine ok_getI (kd_m7_isWord.at 7 rfl) kf7_70 sh_3 rfl ?_
    refine ok_isub (kd_m7_isWord.at 8 rfl) ?_
    refine ok_aload_n 1 (kd_m7_isWord.at 9 rfl) rfl rfl ?_
    refine ok_callTI (M' := mJ_length_J0) (as := []) (st := [.int ((S.1 3 2) - (S.1 3 4))]) (kd_m7_isWord.at 10 rfl) kc7_88 hi1 rfl rfl (by decide) (ok_mJ_length_J0 i1 hi1 S) (kfit_of (by decide)) rfl (Nat.le_of_ble_eq_true rfl) (fun q2 hq2 => ?_)
    refine ok_icmp_eq (tgt := 26) (kd_m7_isWord.at 11 rfl) (by decide) (fun h3 => ?_) (fun h3 => ?_)
    · refine ok_iconst (v := 0) (kd_m7_isWord.at 14 rfl) (by decide) ?_
      refine ok_istore_n (lv' := [(2, .int 0), (0, .ref 3), (1, .ref (1000 + i1))]) (kd_m7_isWord.at 15 rfl) rfl (by decide) rfl ?_
      refine ok_sub (lv' := [(0, .ref 3), (1, .ref (1000 + i1)), (2, .int 0)]) [1, 2, 0] rfl ?_
      refine ok_m7_isWord_L28 i1 hi1 _ _ (fun S10 => ?_) (fun S11 => ?_) kFU 0 q2.2
      · refine ok_iconst (v := 0) (kd_m7_isWord.at 31 rfl) (by decide) ?_
        exact ok_zreturn (x := false) (kd_m7_isWord.at 32 rfl) rfl
      · refine ok_iconst (v := 1) (kd_m7_isWord.at 35 rfl) (by decide) ?_
        exact ok_zreturn (x := true) (kd_m7_isWord.at 36 rfl) rfl
    · refine ok_iconst (v := 0) (kd_m7_isWord.at 12 rfl) (by decide) ?_
      exact ok_zreturn (x := false) (kd_m7_isWord.at 13 rfl) rfl
def f_m7_isHeadOfLine  (S : kSt) : Option (Bool × kSt) :=
  (f_m7_isWord 0 S).bind fun q1 =>
  knx (fun  (S2 : kSt) =>
    some (true, S2)
    ) fun j54 =>
  if q1.1 then
    j54  q1.2
  else
    (f_m7_isWord 1 q1.2).bind fun q4 =>
    if q4.1 then
      j54  q4.2
    else
      (f_m7_isWord 2 q4.2).bind fun q6 =>
      if q6.1 then
        j54  q6.2
      else
        (f_m7_isWord 3 q6.2).bind fun q8 =>
        if q8.1 then
          j54  q8.2
        else
          (f_m7_isWord 4 q8.2).bind fun q10 =>
          if q10.1 then
            j54  q10.2
          else
            (f_m7_isWord 5 q10.2).bind fun q12 =>
            if q12.1 then
              j54  q12.2
            else
              some (false, q12.2)
theorem ok_m7_isHeadOfLine {l : Launch} {G : kG} {ad : Nat → Nat}   (S : kSt) : kFn l G (ad, 2) (ad, 2) kjB m7_isHeadOfLine 6 [.ref 3] S (f_m7_isHeadOfLine  S) := by
  unfold f_m7_isHeadOfLine
  refine kFn_of (by decide +kernel) (fun hG => Nat.le_of_ble_eq_true rfl) ?_
  show kOk _ _ _ _ _ _ _ _ [(0, .ref 3)] _ _
  refine ok_aload_n 0 (kd_m7_isHeadOfLine.at 0 rfl) rfl rfl ?_
  refine ok_ldcS (kd_m7_isHeadOfLine.at 1 rfl) kst_7_98 ?_
  refine ok_callVB (M' := m7_isWord) (as := [.ref (1000 + 0)]) (st := []) (kd_m7_isHeadOfLine.at 2 rfl) kc7_99 sh_3 rfl rfl (by decide) (ok_m7_isWord 0 (by decide) S) (kfit_of (by decide)) rfl (Nat.le_of_ble_eq_true rfl) (fun q1 hq1 => ?_)
  refine ok_nx (fun j54 hj54 => ?_)
  have K54 : ∀  (S2 : kSt), kOk l G (ad, 2) (kZ G (ad, 2) kjB) m7_isHeadOfLine (kdp (6)) (j54  S2) 54 [] [] S2 := by
    subst hj54
    intro  S2
    refine ok_iconst (v := 1) (kd_m7_isHeadOfLine.at 24 rfl) (by decide) ?_
    refine ok_goto (tgt := 59) (kd_m7_isHeadOfLine.at 25 rfl) (by decide) ?_
    exact ok_zreturn (x := true) (kd_m7_isHeadOfLine.at 27 rfl) rfl
  clear hj54
  refine ok_ifb_ne (tgt := 54) (kd_m7_isHeadOfLine.at 3 rfl) (by decide) (fun h3 => ?_) (fun h3 => ?_)
  · refine ok_sub (lv' := []) [] rfl ?_
    exact K54  q1.2
  · refine ok_aload_n 0 (kd_m7_isHeadOfLine.at 4 rfl) rfl rfl ?_
    refine ok_ldcS (kd_m7_isHeadOfLine.at 5 rfl) kst_7_103 ?_
    refine ok_callVB (M' := m7_isWord) (as := [.ref (1000 + 1)]) (st := []) (kd_m7_isHeadOfLine.at 6 rfl) kc7_99 sh_3 rfl rfl (by decide) (ok_m7_isWord 1 (by decide) q1.2) (kfit_of (by decide)) rfl (Nat.le_of_ble_eq_true rfl) (fun q4 hq4 => ?_)
    refine ok_ifb_ne (tgt := 54) (kd_m7_isHeadOfLine.at 7 rfl) (by decide) (fun h5 => ?_) (fun h5 => ?_)
    · refine ok_sub (lv' := []) [] rfl ?_
      exact K54  q4.2
    · refine ok_aload_n 0 (kd_m7_isHeadOfLine.at 8 rfl) rfl rfl ?_
      refine ok_ldcS (kd_m7_isHeadOfLine.at 9 rfl) kst_7_105 ?_
      refine ok_callVB (M' := m7_isWord) (as := [.ref (1000 + 2)]) (st := []) (kd_m7_isHeadOfLine.at 10 rfl) kc7_99 sh_3 rfl rfl (by decide) (ok_m7_isWord 2 (by decide) q4.2) (kfit_of (by decide)) rfl (Nat.le_of_ble_eq_true rfl) (fun q6 hq6 => ?_)
      refine ok_ifb_ne (tgt := 54) (kd_m7_isHeadOfLine.at 11 rfl) (by decide) (fun h7 => ?_) (fun h7 => ?_)
      · refine ok_sub (lv' := []) [] rfl ?_
        exact K54  q6.2
      · refine ok_aload_n 0 (kd_m7_isHeadOfLine.at 12 rfl) rfl rfl ?_
        refine ok_ldcS (kd_m7_isHeadOfLine.at 13 rfl) kst_7_107 ?_
        refine ok_callVB (M' := m7_isWord) (as := [.ref (1000 + 3)]) (st := []) (kd_m7_isHeadOfLine.at 14 rfl) kc7_99 sh_3 rfl rfl (by decide) (ok_m7_isWord 3 (by decide) q6.2) (kfit_of (by decide)) rfl (Nat.le_of_ble_eq_true rfl) (fun q8 hq8 => ?_)
        refine ok_ifb_ne (tgt := 54) (kd_m7_isHeadOfLine.at 15 rfl) (by decide) (fun h9 => ?_) (fun h9 => ?_)
        · refine ok_sub (lv' := []) [] rfl ?_
          exact K54  q8.2
        · refine ok_aload_n 0 (kd_m7_isHeadOfLine.at 16 rfl) rfl rfl ?_
          refine ok_ldcS (kd_m7_isHeadOfLine.at 17 rfl) kst_7_109 ?_
          refine ok_callVB (M' := m7_isWord) (as := [.ref (1000 + 4)]) (st := []) (kd_m7_isHeadOfLine.at 18 rfl) kc7_99 sh_3 rfl rfl (by decide) (ok_m7_isWord 4 (by decide) q8.2) (kfit_of (by decide)) rfl (Nat.le_of_ble_eq_true rfl) (fun q10 hq10 => ?_)
          refine ok_ifb_ne (tgt := 54) (kd_m7_isHeadOfLine.at 19 rfl) (by decide) (fun h11 => ?_) (fun h11 => ?_)
          · refine ok_sub (lv' := []) [] rfl ?_
            exact K54  q10.2
          · refine ok_aload_n 0 (kd_m7_isHeadOfLine.at 20 rfl) rfl rfl ?_
            refine ok_ldcS (kd_m7_isHeadOfLine.at 21 rfl) kst_7_111 ?_
            refine ok_callVB (M' := m7_isWord) (as := [.ref (1000 + 5)]) (st := []) (kd_m7_isHeadOfLine.at 22 rfl) kc7_99 sh_3 rfl rfl (by decide) (ok_m7_isWord 5 (by decide) q10.2) (kfit_of (by decide)) rfl (Nat.le_of_ble_eq_true rfl) (fun q12 hq12 => ?_)
            refine ok_ifb_eq (tgt := 58) (kd_m7_isHeadOfLine.at 23 rfl) (by decide) (fun h13 => ?_) (fun h13 => ?_)
            · refine ok_iconst (v := 0) (kd_m7_isHeadOfLine.at 26 rfl) (by decide) ?_
              exact ok_zreturn (x := false) (kd_m7_isHeadOfLine.at 27 rfl) rfl
            · refine ok_sub (lv' := []) [] rfl ?_
              exact K54  q12.2
def f_m7_lawOfWord  (S : kSt) : Option (Int32 × kSt) :=
  (f_m7_isWord 8 S).bind fun q1 =>
  if q1.1 then
    some (0, q1.2)
  else
    (f_m7_isWord 9 q1.2).bind fun q3 =>
    if q3.1 then
      some (1, q3.2)
    else
      (f_m7_isWord 10 q3.2).bind fun q5 =>
      if q5.1 then
        some (2, q5.2)
      else
        (f_m7_isWord 11 q5.2).bind fun q7 =>
        if q7.1 then
          some (3, q7.2)
        else
          some ((-1), q7.2)
theorem ok_m7_lawOfWord {l : Launch} {G : kG} {ad : Nat → Nat}   (S : kSt) : kFn l G (ad, 2) (ad, 2) kjI m7_lawOfWord 6 [.ref 3] S (f_m7_lawOfWord  S) := by
  unfold f_m7_lawOfWord
  refine kFn_of (by decide +kernel) (fun hG => Nat.le_of_ble_eq_true rfl) ?_
  show kOk _ _ _ _ _ _ _ _ [(0, .ref 3)] _ _
  refine ok_aload_n 0 (kd_m7_lawOfWord.at 0 rfl) rfl rfl ?_
  refine ok_ldcS (kd_m7_lawOfWord.at 1 rfl) kst_7_113 ?_
  refine ok_callVB (M' := m7_isWord) (as := [.ref (1000 + 8)]) (st := []) (kd_m7_lawOfWord.at 2 rfl) kc7_99 sh_3 rfl rfl (by decide) (ok_m7_isWord 8 (by decide) S) (kfit_of (by decide)) rfl (Nat.le_of_ble_eq_true rfl) (fun q1 hq1 => ?_)
  refine ok_ifb_eq (tgt := 11) (kd_m7_lawOfWord.at 3 rfl) (by decide) (fun h2 => ?_) (fun h2 => ?_)
  · refine ok_aload_n 0 (kd_m7_lawOfWord.at 6 rfl) rfl rfl ?_
    refine ok_ldcS (kd_m7_lawOfWord.at 7 rfl) kst_7_117 ?_
    refine ok_callVB (M' := m7_isWord) (as := [.ref (1000 + 9)]) (st := []) (kd_m7_lawOfWord.at 8 rfl) kc7_99 sh_3 rfl rfl (by decide) (ok_m7_isWord 9 (by decide) q1.2) (kfit_of (by decide)) rfl (Nat.le_of_ble_eq_true rfl) (fun q3 hq3 => ?_)
    refine ok_ifb_eq (tgt := 22) (kd_m7_lawOfWord.at 9 rfl) (by decide) (fun h4 => ?_) (fun h4 => ?_)
    · refine ok_aload_n 0 (kd_m7_lawOfWord.at 12 rfl) rfl rfl ?_
      refine ok_ldcS (kd_m7_lawOfWord.at 13 rfl) kst_7_119 ?_
      refine ok_callVB (M' := m7_isWord) (as := [.ref (1000 + 10)]) (st := []) (kd_m7_lawOfWord.at 14 rfl) kc7_99 sh_3 rfl rfl (by decide) (ok_m7_isWord 10 (by decide) q3.2) (kfit_of (by decide)) rfl (Nat.le_of_ble_eq_true rfl) (fun q5 hq5 => ?_)
      refine ok_ifb_eq (tgt := 33) (kd_m7_lawOfWord.at 15 rfl) (by decide) (fun h6 => ?_) (fun h6 => ?_)
      · refine ok_aload_n 0 (kd_m7_lawOfWord.at 18 rfl) rfl rfl ?_
        refine ok_ldcS (kd_m7_lawOfWord.at 19 rfl) kst_7_121 ?_
        refine ok_callVB (M' := m7_isWord) (as := [.ref (1000 + 11)]) (st := []) (kd_m7_lawOfWord.at 20 rfl) kc7_99 sh_3 rfl rfl (by decide) (ok_m7_isWord 11 (by decide) q5.2) (kfit_of (by decide)) rfl (Nat.le_of_ble_eq_true rfl) (fun q7 hq7 => ?_)
        refine ok_ifb_eq (tgt := 46) (kd_m7_lawOfWord.at 21 rfl) (by decide) (fun h8 => ?_) (fun h8 => ?_)
        · refine ok_iconst (v := (-1)) (kd_m7_lawOfWord.at 24 rfl) (by decide) ?_
          exact ok_ireturn (kd_m7_lawOfWord.at 25 rfl) rfl
        · refine ok_iconst (v := 3) (kd_m7_lawOfWord.at 22 rfl) (by decide) ?_
          refine ok_goto (tgt := 47) (kd_m7_lawOfWord.at 23 rfl) (by decide) ?_
          exact ok_ireturn (kd_m7_lawOfWord.at 25 rfl) rfl
      · refine ok_iconst (v := 2) (kd_m7_lawOfWord.at 16 rfl) (by decide) ?_
        exact ok_ireturn (kd_m7_lawOfWord.at 17 rfl) rfl
    · refine ok_iconst (v := 1) (kd_m7_lawOfWord.at 10 rfl) (by decide) ?_
      exact ok_ireturn (kd_m7_lawOfWord.at 11 rfl) rfl
  · refine ok_iconst (v := 0) (kd_m7_lawOfWord.at 4 rfl) (by decide) ?_
    exact ok_ireturn (kd_m7_lawOfWord.at 5 rfl) rfl
def f_m7_isSame_L2   (k29 : kSt → Option (Bool × kSt)) (k37 : kSt → Option (Bool × kSt)) (c1 : Int32) (c2 : Int32) : Nat → Int32 → kSt → Option (Bool × kSt)
  | 0, _, _ => none
  | n + 1, v3, S =>
    if c2 ≤ v3 then
      k37  S
    else
      knx (c1 + v3) fun x2 =>
      kgi x2 900 (
        knx ((S.1 3 4) + v3) fun x3 =>
        kgi x3 900 (
          if (S.1 15 x2.toNatClampNeg) = (S.1 15 x3.toNatClampNeg) then
            knx (v3 + 1) fun x5 =>
            f_m7_isSame_L2 k29 k37 c1 c2 n x5 S
          else
            k29  S
        )
      )
theorem ok_m7_isSame_L2 {l : Launch} {G : kG} {ad : Nat → Nat}    (c1 : Int32) (c2 : Int32) (k29 : kSt → Option (Bool × kSt)) (k37 : kSt → Option (Bool × kSt)) (hk29 : ∀  (S : kSt), kOk l G (ad, 2) (kZ G (ad, 2) kjB) m7_isSame (kdp (1)) (k29  S) 29 [] [] S) (hk37 : ∀  (S : kSt), kOk l G (ad, 2) (kZ G (ad, 2) kjB) m7_isSame (kdp (1)) (k37  S) 37 [] [] S) : ∀ (n : Nat) (v3 : Int32) (S : kSt), kOk l G (ad, 2) (kZ G (ad, 2) kjB) m7_isSame (kdp (1)) (f_m7_isSame_L2 k29 k37 c1 c2 n v3 S) 2 [(0, .ref 3), (1, .int c1), (2, .int c2), (3, .int v3)] [] S := by
  intro n
  induction n with
  | zero => intro v3 S; exact ok_none
  | succ n ih =>
    intro v3 S
    rw [f_m7_isSame_L2]
    refine ok_iload_n 3 (kd_m7_isSame.at 2 rfl) rfl rfl ?_
    refine ok_iload_n 2 (kd_m7_isSame.at 3 rfl) rfl rfl ?_
    refine ok_icmp_ge (tgt := 37) (kd_m7_isSame.at 4 rfl) (by decide) (fun h1 => ?_) (fun h1 => ?_)
    · refine ok_sub (lv' := []) [] rfl ?_
      exact hk37  S
    · refine ok_aload_n 0 (kd_m7_isSame.at 5 rfl) rfl rfl ?_
      refine ok_getR (kd_m7_isSame.at 6 rfl) kf7_18 sh_3 rfl (kr_3_0 _) ?_
      refine ok_iload_n 1 (kd_m7_isSame.at 7 rfl) rfl rfl ?_
      refine ok_iload_n 3 (kd_m7_isSame.at 8 rfl) rfl rfl ?_
      refine ok_iadd (kd_m7_isSame.at 9 rfl) ?_
      refine ok_topi (fun x2 hx2 => ?_)
      refine ok_bald (kd_m7_isSame.at 10 rfl) sh_15 ?_
      refine ok_aload_n 0 (kd_m7_isSame.at 11 rfl) rfl rfl ?_
      refine ok_getR (kd_m7_isSame.at 12 rfl) kf7_18 sh_3 rfl (kr_3_0 _) ?_
      refine ok_aload_n 0 (kd_m7_isSame.at 13 rfl) rfl rfl ?_
      refine ok_getI (kd_m7_isSame.at 14 rfl) kf7_70 sh_3 rfl ?_
      refine ok_iload_n 3 (kd_m7_isSame.at 15 rfl) rfl rfl ?_
      refine ok_iadd (kd_m7_isSame.at 16 rfl) ?_
      refine ok_topi (fun x3 hx3 => ?_)
      refine ok_bald (kd_m7_isSame.at 17 rfl) sh_15 ?_
      refine ok_icmp_eq (tgt := 31) (kd_m7_isSame.at 18 rfl) (by decide) (fun h4 => ?_) (fun h4 => ?_)
      · refine ok_nx (fun x5 hx5 => ?_)
        refine ok_iinc (v := x5) (lv' := [(3, .int x5), (0, .ref 3), (1, .int c1), (2, .int c2)]) 3 (kd_m7_isSame.at 21 rfl) rfl hx5.symm (by decide) rfl ?_
        refine ok_goto (tgt := 2) (kd_m7_isSame.at 22 rfl) (by decide) ?_
        refine ok_sub (lv' := [(0, .ref 3), (1, .int c1), (2, .int c2), (3, .int x5)]) [1, 2, 3, 0] rfl ?_
        exact ih x5 S
      · refine ok_sub (lv' := []) [] rfl ?_
        exact hk29  S
def f_m7_isSame (a1 : Int32) (a2 : Int32) (S : kSt) : Option (Bool × kSt) :=
  f_m7_isSame_L2 
    (fun  (S6 : kSt) =>
      some (false, S6)
    )
    (fun  (S7 : kSt) =>
      some (true, S7)
    )
    a1 a2 kFU 0 S
theorem ok_m7_isSame {l : Launch} {G : kG} {ad : Nat → Nat} (a1 : Int32) (a2 : Int32)  (S : kSt) : kFn l G (ad, 2) (ad, 2) kjB m7_isSame 1 [.ref 3, .int a1, .int a2] S (f_m7_isSame a1 a2 S) := by
  unfold f_m7_isSame
  refine kFn_of (by decide +kernel) (fun hG => Nat.le_of_ble_eq_true rfl) ?_
  show kOk _ _ _ _ _ _ _ _ [(0, .ref 3), (1, .int a1), (2, .int a2)] _ _
  refine ok_iconst (v := 0) (kd_m7_isSame.at 0 rfl) (by decide) ?_
  refine ok_istore_n (lv' := [(3, .int 0), (0, .ref 3), (1, .int a1), (2, .int a2)]) (kd_m7_isSame.at 1 rfl) rfl (by decide) rfl ?_
  refine ok_sub (lv' := [(0, .ref 3), (1, .int a1), (2, .int a2), (3, .int 0)]) [1, 2, 3, 0] rfl ?_
  refine ok_m7_isSame_L2 a1 a2 _ _ (fun S6 => ?_) (fun S7 => ?_) kFU 0 S
  · refine ok_iconst (v := 0) (kd_m7_isSame.at 19 rfl) (by decide) ?_
    exact ok_zreturn (x := false) (kd_m7_isSame.at 20 rfl) rfl
  · refine ok_iconst (v := 1) (kd_m7_isSame.at 23 rfl) (by decide) ?_
    exact ok_zreturn (x := true) (kd_m7_isSame.at 24 rfl) rfl
def f_m7_pairOfName_L2   (k50 : Int32 → kSt → Option (Int32 × kSt)) (k58 : kSt → Option (Int32 × kSt))  : Nat → Int32 → kSt → Option (Int32 × kSt)
  | 0, _, _ => none
  | n + 1, v1, S =>
    if (S.1 2 2) ≤ v1 then
      k58  S
    else
      kgi v1 5 (
        knx (fun  (S2 : kSt) =>
          knx (v1 + 1) fun x3 =>
          f_m7_pairOfName_L2 k50 k58 n x3 S2
          ) fun j52 =>
        if (S.1 39 v1.toNatClampNeg) = ((S.1 3 2) - (S.1 3 4)) then
          kgi v1 5 (
            kgi v1 5 (
              (f_m7_isSame (S.1 38 v1.toNatClampNeg) (S.1 39 v1.toNatClampNeg) S).bind fun q5 =>
              if q5.1 then
                k50 v1 q5.2
              else
                j52  q5.2
            )
          )
        else
          j52  S
      )
theorem ok_m7_pairOfName_L2 {l : Launch} {G : kG} {ad : Nat → Nat}     (k50 : Int32 → kSt → Option (Int32 × kSt)) (k58 : kSt → Option (Int32 × kSt)) (hk50 : ∀ (v1 : Int32) (S : kSt), kOk l G (ad, 2) (kZ G (ad, 2) kjI) m7_pairOfName (kdp (2)) (k50 v1 S) 50 [(1, .int v1)] [] S) (hk58 : ∀  (S : kSt), kOk l G (ad, 2) (kZ G (ad, 2) kjI) m7_pairOfName (kdp (2)) (k58  S) 58 [] [] S) : ∀ (n : Nat) (v1 : Int32) (S : kSt), kOk l G (ad, 2) (kZ G (ad, 2) kjI) m7_pairOfName (kdp (2)) (f_m7_pairOfName_L2 k50 k58 n v1 S) 2 [(0, .ref 3), (1, .int v1)] [] S := by
  intro n
  induction n with
  | zero => intro v1 S; exact ok_none
  | succ n ih =>
    intro v1 S
    rw [f_m7_pairOfName_L2]
    refine ok_iload_n 1 (kd_m7_pairOfName.at 2 rfl) rfl rfl ?_
    refine ok_aload_n 0 (kd_m7_pairOfName.at 3 rfl) rfl rfl ?_
    refine ok_getR (kd_m7_pairOfName.at 4 rfl) kf7_22 sh_3 rfl (kr_3_6 _) ?_
    refine ok_getI (kd_m7_pairOfName.at 5 rfl) kf7_67 sh_2 rfl ?_
    refine ok_icmp_ge (tgt := 58) (kd_m7_pairOfName.at 6 rfl) (by decide) (fun h1 => ?_) (fun h1 => ?_)
    · refine ok_sub (lv' := []) [] rfl ?_
      exact hk58  S
    · refine ok_aload_n 0 (kd_m7_pairOfName.at 7 rfl) rfl rfl ?_
      refine ok_getR (kd_m7_pairOfName.at 8 rfl) kf7_15 sh_3 rfl (kr_3_8 _) ?_
      refine ok_iload_n 1 (kd_m7_pairOfName.at 9 rfl) rfl rfl ?_
      refine ok_iald (kd_m7_pairOfName.at 10 rfl) sh_39 ?_
      refine ok_aload_n 0 (kd_m7_pairOfName.at 11 rfl) rfl rfl ?_
      refine ok_getI (kd_m7_pairOfName.at 12 rfl) kf7_41 sh_3 rfl ?_
      refine ok_aload_n 0 (kd_m7_pairOfName.at 13 rfl) rfl rfl ?_
      refine ok_getI (kd_m7_pairOfName.at 14 rfl) kf7_70 sh_3 rfl ?_
      refine ok_isub (kd_m7_pairOfName.at 15 rfl) ?_
      refine ok_nx (fun j52 hj52 => ?_)
      have K52 : ∀  (S2 : kSt), kOk l G (ad, 2) (kZ G (ad, 2) kjI) m7_pairOfName (kdp (2)) (j52  S2) 52 [(0, .ref 3), (1, .int v1)] [] S2 := by
        subst hj52
        intro  S2
        refine ok_nx (fun x3 hx3 => ?_)
        refine ok_iinc (v := x3) (lv' := [(1, .int x3), (0, .ref 3)]) 1 (kd_m7_pairOfName.at 30 rfl) rfl hx3.symm (by decide) rfl ?_
        refine ok_goto (tgt := 2) (kd_m7_pairOfName.at 31 rfl) (by decide) ?_
        refine ok_sub (lv' := [(0, .ref 3), (1, .int x3)]) [1, 0] rfl ?_
        exact ih x3 S2
      clear hj52
      refine ok_icmp_ne (tgt := 52) (kd_m7_pairOfName.at 16 rfl) (by decide) (fun h4 => ?_) (fun h4 => ?_)
      · exact K52  S
      · refine ok_aload_n 0 (kd_m7_pairOfName.at 17 rfl) rfl rfl ?_
        refine ok_aload_n 0 (kd_m7_pairOfName.at 18 rfl) rfl rfl ?_
        refine ok_getR (kd_m7_pairOfName.at 19 rfl) kf7_9 sh_3 rfl (kr_3_7 _) ?_
        refine ok_iload_n 1 (kd_m7_pairOfName.at 20 rfl) rfl rfl ?_
        refine ok_iald (kd_m7_pairOfName.at 21 rfl) sh_38 ?_
        refine ok_aload_n 0 (kd_m7_pairOfName.at 22 rfl) rfl rfl ?_
        refine ok_getR (kd_m7_pairOfName.at 23 rfl) kf7_15 sh_3 rfl (kr_3_8 _) ?_
        refine ok_iload_n 1 (kd_m7_pairOfName.at 24 rfl) rfl rfl ?_
        refine ok_iald (kd_m7_pairOfName.at 25 rfl) sh_39 ?_
        refine ok_callVB (M' := m7_isSame) (as := [.int (S.1 38 v1.toNatClampNeg), .int (S.1 39 v1.toNatClampNeg)]) (st := []) (kd_m7_pairOfName.at 26 rfl) kc7_123 sh_3 rfl rfl (by decide) (ok_m7_isSame (S.1 38 v1.toNatClampNeg) (S.1 39 v1.toNatClampNeg) S) (kfit_of (by decide)) rfl (Nat.le_of_ble_eq_true rfl) (fun q5 hq5 => ?_)
        refine ok_ifb_eq (tgt := 52) (kd_m7_pairOfName.at 27 rfl) (by decide) (fun h6 => ?_) (fun h6 => ?_)
        · exact K52  q5.2
        · refine ok_sub (lv' := [(1, .int v1)]) [1] rfl ?_
          exact hk50 v1 q5.2
def f_m7_pairOfName  (S : kSt) : Option (Int32 × kSt) :=
  f_m7_pairOfName_L2 
    (fun (x7 : Int32) (S8 : kSt) =>
      some (x7, S8)
    )
    (fun  (S9 : kSt) =>
      some ((-1), S9)
    )
    kFU 0 S
theorem ok_m7_pairOfName {l : Launch} {G : kG} {ad : Nat → Nat}   (S : kSt) : kFn l G (ad, 2) (ad, 2) kjI m7_pairOfName 2 [.ref 3] S (f_m7_pairOfName  S) := by
  unfold f_m7_pairOfName
  refine kFn_of (by decide +kernel) (fun hG => Nat.le_of_ble_eq_true rfl) ?_
  show kOk _ _ _ _ _ _ _ _ [(0, .ref 3)] _ _
  refine ok_iconst (v := 0) (kd_m7_pairOfName.at 0 rfl) (by decide) ?_
  refine ok_istore_n (lv' := [(1, .int 0), (0, .ref 3)]) (kd_m7_pairOfName.at 1 rfl) rfl (by decide) rfl ?_
  refine ok_sub (lv' := [(0, .ref 3), (1, .int 0)]) [1, 0] rfl ?_
  refine ok_m7_pairOfName_L2 _ _ (fun x7 S8 => ?_) (fun S9 => ?_) kFU 0 S
  · refine ok_iload_n 0 (kd_m7_pairOfName.at 28 rfl) rfl rfl ?_
    exact ok_ireturn (kd_m7_pairOfName.at 29 rfl) rfl
  · refine ok_iconst (v := (-1)) (kd_m7_pairOfName.at 32 rfl) (by decide) ?_
    exact ok_ireturn (kd_m7_pairOfName.at 33 rfl) rfl
def f_m7_takeWord (i1 : Nat) (S : kSt) : Option (Bool × kSt) :=
  (f_m7_isWord i1 S).bind fun q1 =>
  if q1.1 then
    (f_m7_next  q1.2).bind fun q3 =>
    some (true, q3)
  else
    (f_m7_found 1 q1.2).bind fun q4 =>
    some (q4.1, q4.2)
theorem ok_m7_takeWord {l : Launch} {G : kG} {ad : Nat → Nat} (i1 : Nat) (hi1 : i1 < 16) (S : kSt) : kFn l G (ad, 2) (ad, 2) kjB m7_takeWord 6 [.ref 3, .ref (1000 + i1)] S (f_m7_takeWord i1 S) := by
  unfold f_m7_takeWord
  refine kFn_of (by decide +kernel) (fun hG => Nat.le_of_ble_eq_true rfl) ?_
  show kOk _ _ _ _ _ _ _ _ [(0, .ref 3), (1, .ref (1000 + i1))] _ _
  refine ok_aload_n 0 (kd_m7_takeWord.at 0 rfl) rfl rfl ?_
  refine ok_aload_n 1 (kd_m7_takeWord.at 1 rfl) rfl rfl ?_
  refine ok_callVB (M' := m7_isWord) (as := [.ref (1000 + i1)]) (st := []) (kd_m7_takeWord.at 2 rfl) kc7_99 sh_3 rfl rfl (by decide) (ok_m7_isWord i1 hi1 S) (kfit_of (by decide)) rfl (Nat.le_of_ble_eq_true rfl) (fun q1 hq1 => ?_)
  refine ok_ifb_ne (tgt := 14) (kd_m7_takeWord.at 3 rfl) (by decide) (fun h2 => ?_) (fun h2 => ?_)
  · refine ok_aload_n 0 (kd_m7_takeWord.at 8 rfl) rfl rfl ?_
    refine ok_callVV (M' := m7_next) (as := []) (st := []) (kd_m7_takeWord.at 9 rfl) kc7_50 sh_3 rfl rfl (by decide) (ok_m7_next  q1.2) (kfit_of (by decide)) rfl (Nat.le_of_ble_eq_true rfl) (fun q3 hq3 => ?_)
    refine ok_iconst (v := 1) (kd_m7_takeWord.at 10 rfl) (by decide) ?_
    exact ok_zreturn (x := true) (kd_m7_takeWord.at 11 rfl) rfl
  · refine ok_aload_n 0 (kd_m7_takeWord.at 4 rfl) rfl rfl ?_
    refine ok_iconst (v := 1) (kd_m7_takeWord.at 5 rfl) (by decide) ?_
    refine ok_callVB (M' := m7_found) (as := [.int 1]) (st := []) (kd_m7_takeWord.at 6 rfl) kc7_63 sh_3 rfl rfl (by decide) (ok_m7_found 1 q1.2) (kfit_of (by decide)) rfl (Nat.le_of_ble_eq_true rfl) (fun q4 hq4 => ?_)
    exact ok_zreturn (x := q4.1) (kd_m7_takeWord.at 7 rfl) rfl
def f_m7_seesWhole (a1 : Int32) (a2 : Int32) (S : kSt) : Option (Bool × kSt) :=
  if (S.1 3 3) = 2 then
    knx (fun  (S2 : kSt) =>
      some (true, S2)
      ) fun j38 =>
    knx (fun  (S3 : kSt) =>
      (f_m7_found 4 S3).bind fun q4 =>
      if q4.1 then
        j38  q4.2
      else
        some (false, q4.2)
      ) fun j30 =>
    if (S.1 3 5) < a1 then
      j30  S
    else
      if (S.1 3 5) ≤ a2 then
        j38  S
      else
        j30  S
  else
    (f_m7_found 1 S).bind fun q8 =>
    some (q8.1, q8.2)
theorem ok_m7_seesWhole {l : Launch} {G : kG} {ad : Nat → Nat} (a1 : Int32) (a2 : Int32)  (S : kSt) : kFn l G (ad, 2) (ad, 2) kjB m7_seesWhole 2 [.ref 3, .int a1, .int a2] S (f_m7_seesWhole a1 a2 S) := by
  unfold f_m7_seesWhole
  refine kFn_of (by decide +kernel) (fun hG => Nat.le_of_ble_eq_true rfl) ?_
  show kOk _ _ _ _ _ _ _ _ [(0, .ref 3), (1, .int a1), (2, .int a2)] _ _
  refine ok_aload_n 0 (kd_m7_seesWhole.at 0 rfl) rfl rfl ?_
  refine ok_getI (kd_m7_seesWhole.at 1 rfl) kf7_57 sh_3 rfl ?_
  refine ok_iconst (v := 2) (kd_m7_seesWhole.at 2 rfl) (by decide) ?_
  refine ok_icmp_eq (tgt := 14) (kd_m7_seesWhole.at 3 rfl) (by decide) (fun h1 => ?_) (fun h1 => ?_)
  · refine ok_aload_n 0 (kd_m7_seesWhole.at 8 rfl) rfl rfl ?_
    refine ok_getI (kd_m7_seesWhole.at 9 rfl) kf7_85 sh_3 rfl ?_
    refine ok_iload_n 1 (kd_m7_seesWhole.at 10 rfl) rfl rfl ?_
    refine ok_nx (fun j38 hj38 => ?_)
    have K38 : ∀  (S2 : kSt), kOk l G (ad, 2) (kZ G (ad, 2) kjB) m7_seesWhole (kdp (2)) (j38  S2) 38 [] [] S2 := by
      subst hj38
      intro  S2
      refine ok_iconst (v := 1) (kd_m7_seesWhole.at 20 rfl) (by decide) ?_
      refine ok_goto (tgt := 43) (kd_m7_seesWhole.at 21 rfl) (by decide) ?_
      exact ok_zreturn (x := true) (kd_m7_seesWhole.at 23 rfl) rfl
    clear hj38
    refine ok_nx (fun j30 hj30 => ?_)
    have K30 : ∀  (S3 : kSt), kOk l G (ad, 2) (kZ G (ad, 2) kjB) m7_seesWhole (kdp (2)) (j30  S3) 30 [(0, .ref 3)] [] S3 := by
      subst hj30
      intro  S3
      refine ok_aload_n 0 (kd_m7_seesWhole.at 16 rfl) rfl rfl ?_
      refine ok_iconst (v := 4) (kd_m7_seesWhole.at 17 rfl) (by decide) ?_
      refine ok_callVB (M' := m7_found) (as := [.int 4]) (st := []) (kd_m7_seesWhole.at 18 rfl) kc7_63 sh_3 rfl rfl (by decide) (ok_m7_found 4 S3) (kfit_of (by decide)) rfl (Nat.le_of_ble_eq_true rfl) (fun q4 hq4 => ?_)
      refine ok_ifb_eq (tgt := 42) (kd_m7_seesWhole.at 19 rfl) (by decide) (fun h5 => ?_) (fun h5 => ?_)
      · refine ok_iconst (v := 0) (kd_m7_seesWhole.at 22 rfl) (by decide) ?_
        exact ok_zreturn (x := false) (kd_m7_seesWhole.at 23 rfl) rfl
      · refine ok_sub (lv' := []) [] rfl ?_
        exact K38  q4.2
    clear hj30
    refine ok_icmp_lt (tgt := 30) (kd_m7_seesWhole.at 11 rfl) (by decide) (fun h6 => ?_) (fun h6 => ?_)
    · refine ok_sub (lv' := [(0, .ref 3)]) [0] rfl ?_
      exact K30  S
    · refine ok_aload_n 0 (kd_m7_seesWhole.at 12 rfl) rfl rfl ?_
      refine ok_getI (kd_m7_seesWhole.at 13 rfl) kf7_85 sh_3 rfl ?_
      refine ok_iload_n 2 (kd_m7_seesWhole.at 14 rfl) rfl rfl ?_
      refine ok_icmp_le (tgt := 38) (kd_m7_seesWhole.at 15 rfl) (by decide) (fun h7 => ?_) (fun h7 => ?_)
      · refine ok_sub (lv' := []) [] rfl ?_
        exact K38  S
      · refine ok_sub (lv' := [(0, .ref 3)]) [0] rfl ?_
        exact K30  S
  · refine ok_aload_n 0 (kd_m7_seesWhole.at 4 rfl) rfl rfl ?_
    refine ok_iconst (v := 1) (kd_m7_seesWhole.at 5 rfl) (by decide) ?_
    refine ok_callVB (M' := m7_found) (as := [.int 1]) (st := []) (kd_m7_seesWhole.at 6 rfl) kc7_63 sh_3 rfl rfl (by decide) (ok_m7_found 1 S) (kfit_of (by decide)) rfl (Nat.le_of_ble_eq_true rfl) (fun q8 hq8 => ?_)
    exact ok_zreturn (x := q8.1) (kd_m7_seesWhole.at 7 rfl) rfl
def f_m7_seenPair  (S : kSt) : Option (Int32 × kSt) :=
  knx (fun  (S1 : kSt) =>
    (f_m7_found 1 S1).bind fun q2 =>
    some ((-1), q2.2)
    ) fun j15 =>
  if (S.1 3 3) = 1 then
    (f_m7_isHeadOfLine  S).bind fun q4 =>
    if q4.1 then
      j15  q4.2
    else
      (f_m7_pairOfName  q4.2).bind fun q6 =>
      if 0 ≤ q6.1 then
        some (q6.1, q6.2)
      else
        (f_m7_found 2 q6.2).bind fun q8 =>
        some (q6.1, q8.2)
  else
    j15  S
theorem ok_m7_seenPair {l : Launch} {G : kG} {ad : Nat → Nat}   (S : kSt) : kFn l G (ad, 2) (ad, 2) kjI m7_seenPair 7 [.ref 3] S (f_m7_seenPair  S) := by
  unfold f_m7_seenPair
  refine kFn_of (by decide +kernel) (fun hG => Nat.le_of_ble_eq_true rfl) ?_
  show kOk _ _ _ _ _ _ _ _ [(0, .ref 3)] _ _
  refine ok_aload_n 0 (kd_m7_seenPair.at 0 rfl) rfl rfl ?_
  refine ok_getI (kd_m7_seenPair.at 1 rfl) kf7_57 sh_3 rfl ?_
  refine ok_iconst (v := 1) (kd_m7_seenPair.at 2 rfl) (by decide) ?_
  refine ok_nx (fun j15 hj15 => ?_)
  have K15 : ∀  (S1 : kSt), kOk l G (ad, 2) (kZ G (ad, 2) kjI) m7_seenPair (kdp (7)) (j15  S1) 15 [(0, .ref 3)] [] S1 := by
    subst hj15
    intro  S1
    refine ok_aload_n 0 (kd_m7_seenPair.at 7 rfl) rfl rfl ?_
    refine ok_iconst (v := 1) (kd_m7_seenPair.at 8 rfl) (by decide) ?_
    refine ok_callVB (M' := m7_found) (as := [.int 1]) (st := []) (kd_m7_seenPair.at 9 rfl) kc7_63 sh_3 rfl rfl (by decide) (ok_m7_found 1 S1) (kfit_of (by decide)) rfl (Nat.le_of_ble_eq_true rfl) (fun q2 hq2 => ?_)
    refine ok_pop (kd_m7_seenPair.at 10 rfl) rfl ?_
    refine ok_iconst (v := (-1)) (kd_m7_seenPair.at 11 rfl) (by decide) ?_
    exact ok_ireturn (kd_m7_seenPair.at 12 rfl) rfl
  clear hj15
  refine ok_icmp_ne (tgt := 15) (kd_m7_seenPair.at 3 rfl) (by decide) (fun h3 => ?_) (fun h3 => ?_)
  · exact K15  S
  · refine ok_aload_n 0 (kd_m7_seenPair.at 4 rfl) rfl rfl ?_
    refine ok_callVB (M' := m7_isHeadOfLine) (as := []) (st := []) (kd_m7_seenPair.at 5 rfl) kc7_127 sh_3 rfl rfl (by decide) (ok_m7_isHeadOfLine  S) (kfit_of (by decide)) rfl (Nat.le_of_ble_eq_true rfl) (fun q4 hq4 => ?_)
    refine ok_ifb_eq (tgt := 23) (kd_m7_seenPair.at 6 rfl) (by decide) (fun h5 => ?_) (fun h5 => ?_)
    · refine ok_aload_n 0 (kd_m7_seenPair.at 13 rfl) rfl rfl ?_
      refine ok_callVI (M' := m7_pairOfName) (as := []) (st := []) (kd_m7_seenPair.at 14 rfl) kc7_130 sh_3 rfl rfl (by decide) (ok_m7_pairOfName  q4.2) (kfit_of (by decide)) rfl (Nat.le_of_ble_eq_true rfl) (fun q6 hq6 => ?_)
      refine ok_istore_n (lv' := [(1, .int q6.1), (0, .ref 3)]) (kd_m7_seenPair.at 15 rfl) rfl (by decide) rfl ?_
      refine ok_iload_n 0 (kd_m7_seenPair.at 16 rfl) rfl rfl ?_
      refine ok_if_ge (tgt := 38) (kd_m7_seenPair.at 17 rfl) (by decide) (fun h7 => ?_) (fun h7 => ?_)
      · refine ok_iload_n 0 (kd_m7_seenPair.at 22 rfl) rfl rfl ?_
        exact ok_ireturn (kd_m7_seenPair.at 23 rfl) rfl
      · refine ok_aload_n 1 (kd_m7_seenPair.at 18 rfl) rfl rfl ?_
        refine ok_iconst (v := 2) (kd_m7_seenPair.at 19 rfl) (by decide) ?_
        refine ok_callVB (M' := m7_found) (as := [.int 2]) (st := []) (kd_m7_seenPair.at 20 rfl) kc7_63 sh_3 rfl rfl (by decide) (ok_m7_found 2 q6.2) (kfit_of (by decide)) rfl (Nat.le_of_ble_eq_true rfl) (fun q8 hq8 => ?_)
        refine ok_pop (kd_m7_seenPair.at 21 rfl) rfl ?_
        refine ok_iload_n 0 (kd_m7_seenPair.at 22 rfl) rfl rfl ?_
        exact ok_ireturn (kd_m7_seenPair.at 23 rfl) rfl
    · exact K15  q4.2
def f_m7_readHead  (S : kSt) : Option (Bool × kSt) :=
  (f_m7_isWord 0 S).bind fun q1 =>
  if q1.1 then
    (f_m7_next  q1.2).bind fun q3 =>
    (f_m7_takeWord 6 q3).bind fun q4 =>
    if q4.1 then
      (f_m7_seesWhole 2 99 q4.2).bind fun q6 =>
      if q6.1 then
        knx (kuI q6.2 2 0 (q6.2.1 3 5)) fun S8 =>
        (f_m7_next  S8).bind fun q9 =>
        (f_m7_takeWord 7 q9).bind fun q10 =>
        if q10.1 then
          (f_m7_seesWhole 0 100 q10.2).bind fun q12 =>
          if q12.1 then
            knx (kuI q12.2 2 1 (q12.2.1 3 5)) fun S14 =>
            (f_m7_next  S14).bind fun q15 =>
            some (true, q15)
          else
            some (false, q12.2)
        else
          some (false, q10.2)
      else
        some (false, q6.2)
    else
      some (false, q4.2)
  else
    (f_m7_isHeadOfLine  q1.2).bind fun q16 =>
    knx (if q16.1 then 6 else 1) fun x18 =>
    (f_m7_found x18 q16.2).bind fun q19 =>
    some (q19.1, q19.2)
theorem ok_m7_readHead {l : Launch} {G : kG} {ad : Nat → Nat}   (S : kSt) : kFn l G (ad, 2) (ad, 2) kjB m7_readHead 7 [.ref 3] S (f_m7_readHead  S) := by
  unfold f_m7_readHead
  refine kFn_of (by decide +kernel) (fun hG => Nat.le_of_ble_eq_true rfl) ?_
  show kOk _ _ _ _ _ _ _ _ [(0, .ref 3)] _ _
  refine ok_aload_n 0 (kd_m7_readHead.at 0 rfl) rfl rfl ?_
  refine ok_ldcS (kd_m7_readHead.at 1 rfl) kst_7_98 ?_
  refine ok_callVB (M' := m7_isWord) (as := [.ref (1000 + 0)]) (st := []) (kd_m7_readHead.at 2 rfl) kc7_99 sh_3 rfl rfl (by decide) (ok_m7_isWord 0 (by decide) S) (kfit_of (by decide)) rfl (Nat.le_of_ble_eq_true rfl) (fun q1 hq1 => ?_)
  refine ok_ifb_ne (tgt := 27) (kd_m7_readHead.at 3 rfl) (by decide) (fun h2 => ?_) (fun h2 => ?_)
  · refine ok_aload_n 0 (kd_m7_readHead.at 13 rfl) rfl rfl ?_
    refine ok_callVV (M' := m7_next) (as := []) (st := []) (kd_m7_readHead.at 14 rfl) kc7_50 sh_3 rfl rfl (by decide) (ok_m7_next  q1.2) (kfit_of (by decide)) rfl (Nat.le_of_ble_eq_true rfl) (fun q3 hq3 => ?_)
    refine ok_aload_n 0 (kd_m7_readHead.at 15 rfl) rfl rfl ?_
    refine ok_ldcS (kd_m7_readHead.at 16 rfl) kst_7_133 ?_
    refine ok_callVB (M' := m7_takeWord) (as := [.ref (1000 + 6)]) (st := []) (kd_m7_readHead.at 17 rfl) kc7_135 sh_3 rfl rfl (by decide) (ok_m7_takeWord 6 (by decide) q3) (kfit_of (by decide)) rfl (Nat.le_of_ble_eq_true rfl) (fun q4 hq4 => ?_)
    refine ok_ifb_eq (tgt := 50) (kd_m7_readHead.at 18 rfl) (by decide) (fun h5 => ?_) (fun h5 => ?_)
    · refine ok_iconst (v := 0) (kd_m7_readHead.at 24 rfl) (by decide) ?_
      exact ok_zreturn (x := false) (kd_m7_readHead.at 25 rfl) rfl
    · refine ok_aload_n 0 (kd_m7_readHead.at 19 rfl) rfl rfl ?_
      refine ok_iconst (v := 2) (kd_m7_readHead.at 20 rfl) (by decide) ?_
      refine ok_bipush (v := 99) (kd_m7_readHead.at 21 rfl) (by decide) ?_
      refine ok_callVB (M' := m7_seesWhole) (as := [.int 2, .int 99]) (st := []) (kd_m7_readHead.at 22 rfl) kc7_138 sh_3 rfl rfl (by decide) (ok_m7_seesWhole 2 99 q4.2) (kfit_of (by decide)) rfl (Nat.le_of_ble_eq_true rfl) (fun q6 hq6 => ?_)
      refine ok_ifb_ne (tgt := 52) (kd_m7_readHead.at 23 rfl) (by decide) (fun h7 => ?_) (fun h7 => ?_)
      · refine ok_aload_n 0 (kd_m7_readHead.at 26 rfl) rfl rfl ?_
        refine ok_getR (kd_m7_readHead.at 27 rfl) kf7_22 sh_3 rfl (kr_3_6 _) ?_
        refine ok_aload_n 0 (kd_m7_readHead.at 28 rfl) rfl rfl ?_
        refine ok_getI (kd_m7_readHead.at 29 rfl) kf7_85 sh_3 rfl ?_
        refine ok_putI (kd_m7_readHead.at 30 rfl) kf7_141 sh_2 rfl rfl ?_
        refine ok_nS (fun S8 hS8 => ?_)
        refine ok_aload_n 0 (kd_m7_readHead.at 31 rfl) rfl rfl ?_
        refine ok_callVV (M' := m7_next) (as := []) (st := []) (kd_m7_readHead.at 32 rfl) kc7_50 sh_3 rfl rfl (by decide) (ok_m7_next  S8) (kfit_of (by decide)) rfl (Nat.le_of_ble_eq_true rfl) (fun q9 hq9 => ?_)
        refine ok_aload_n 0 (kd_m7_readHead.at 33 rfl) rfl rfl ?_
        refine ok_ldcS (kd_m7_readHead.at 34 rfl) kst_7_143 ?_
        refine ok_callVB (M' := m7_takeWord) (as := [.ref (1000 + 7)]) (st := []) (kd_m7_readHead.at 35 rfl) kc7_135 sh_3 rfl rfl (by decide) (ok_m7_takeWord 7 (by decide) q9) (kfit_of (by decide)) rfl (Nat.le_of_ble_eq_true rfl) (fun q10 hq10 => ?_)
        refine ok_ifb_eq (tgt := 86) (kd_m7_readHead.at 36 rfl) (by decide) (fun h11 => ?_) (fun h11 => ?_)
        · refine ok_iconst (v := 0) (kd_m7_readHead.at 42 rfl) (by decide) ?_
          exact ok_zreturn (x := false) (kd_m7_readHead.at 43 rfl) rfl
        · refine ok_aload_n 0 (kd_m7_readHead.at 37 rfl) rfl rfl ?_
          refine ok_iconst (v := 0) (kd_m7_readHead.at 38 rfl) (by decide) ?_
          refine ok_bipush (v := 100) (kd_m7_readHead.at 39 rfl) (by decide) ?_
          refine ok_callVB (M' := m7_seesWhole) (as := [.int 0, .int 100]) (st := []) (kd_m7_readHead.at 40 rfl) kc7_138 sh_3 rfl rfl (by decide) (ok_m7_seesWhole 0 100 q10.2) (kfit_of (by decide)) rfl (Nat.le_of_ble_eq_true rfl) (fun q12 hq12 => ?_)
          refine ok_ifb_ne (tgt := 88) (kd_m7_readHead.at 41 rfl) (by decide) (fun h13 => ?_) (fun h13 => ?_)
          · refine ok_aload_n 0 (kd_m7_readHead.at 44 rfl) rfl rfl ?_
            refine ok_getR (kd_m7_readHead.at 45 rfl) kf7_22 sh_3 rfl (kr_3_6 _) ?_
            refine ok_aload_n 0 (kd_m7_readHead.at 46 rfl) rfl rfl ?_
            refine ok_getI (kd_m7_readHead.at 47 rfl) kf7_85 sh_3 rfl ?_
            refine ok_putI (kd_m7_readHead.at 48 rfl) kf7_145 sh_2 rfl rfl ?_
            refine ok_nS (fun S14 hS14 => ?_)
            refine ok_aload_n 0 (kd_m7_readHead.at 49 rfl) rfl rfl ?_
            refine ok_callVV (M' := m7_next) (as := []) (st := []) (kd_m7_readHead.at 50 rfl) kc7_50 sh_3 rfl rfl (by decide) (ok_m7_next  S14) (kfit_of (by decide)) rfl (Nat.le_of_ble_eq_true rfl) (fun q15 hq15 => ?_)
            refine ok_iconst (v := 1) (kd_m7_readHead.at 51 rfl) (by decide) ?_
            exact ok_zreturn (x := true) (kd_m7_readHead.at 52 rfl) rfl
          · refine ok_iconst (v := 0) (kd_m7_readHead.at 42 rfl) (by decide) ?_
            exact ok_zreturn (x := false) (kd_m7_readHead.at 43 rfl) rfl
      · refine ok_iconst (v := 0) (kd_m7_readHead.at 24 rfl) (by decide) ?_
        exact ok_zreturn (x := false) (kd_m7_readHead.at 25 rfl) rfl
  · refine ok_aload_n 0 (kd_m7_readHead.at 4 rfl) rfl rfl ?_
    refine ok_aload_n 0 (kd_m7_readHead.at 5 rfl) rfl rfl ?_
    refine ok_callVB (M' := m7_isHeadOfLine) (as := []) (st := [.ref 3]) (kd_m7_readHead.at 6 rfl) kc7_127 sh_3 rfl rfl (by decide) (ok_m7_isHeadOfLine  q1.2) (kfit_of (by decide)) rfl (Nat.le_of_ble_eq_true rfl) (fun q16 hq16 => ?_)
    refine ok_fold (α := Int32) (pcJ := 23) (lvJ := [(0, .ref 3)]) (stJ := [.ref 3]) (mk := fun v => .int v) (fun K => ?_) (fun x18 => ?_)
    · refine ok_ap ?_
      refine ok_ifb_eq (tgt := 22) (kd_m7_readHead.at 7 rfl) (by decide) (fun h17 => ?_) (fun h17 => ?_)
      · refine ok_iconst (v := 1) (kd_m7_readHead.at 10 rfl) (by decide) ?_
        exact K 1
      · refine ok_bipush (v := 6) (kd_m7_readHead.at 8 rfl) (by decide) ?_
        refine ok_goto (tgt := 23) (kd_m7_readHead.at 9 rfl) (by decide) ?_
        exact K 6
    · refine ok_callVB (M' := m7_found) (as := [.int x18]) (st := []) (kd_m7_readHead.at 11 rfl) kc7_63 sh_3 rfl rfl (by decide) (ok_m7_found x18 q16.2) (kfit_of (by decide)) rfl (Nat.le_of_ble_eq_true rfl) (fun q19 hq19 => ?_)
      exact ok_zreturn (x := q19.1) (kd_m7_readHead.at 12 rfl) rfl
def f_m5_isHeard_d_L2   (k30 : kSt → Option (Bool × kSt)) (k38 : kSt → Option (Bool × kSt)) (c1 : Int32) (c2 : Int32) : Nat → Int32 → kSt → Option (Bool × kSt)
  | 0, _, _ => none
  | n + 1, v3, S =>
    if (S.1 2 6) ≤ v3 then
      k38  S
    else
      kgi v3 8 (
        knx (fun  (S2 : kSt) =>
          knx (v3 + 1) fun x3 =>
          f_m5_isHeard_d_L2 k30 k38 c1 c2 n x3 S2
          ) fun j32 =>
        if (S.1 35 v3.toNatClampNeg) = c1 then
          kgi v3 8 (
            if (S.1 36 v3.toNatClampNeg) = c2 then
              k30  S
            else
              j32  S
          )
        else
          j32  S
      )
theorem ok_m5_isHeard_d_L2 {l : Launch} {G : kG} {E : kE}    (c1 : Int32) (c2 : Int32) (k30 : kSt → Option (Bool × kSt)) (k38 : kSt → Option (Bool × kSt)) (hk30 : ∀  (S : kSt), kOk l G E (kZ G E kjB) m5_isHeard (kdp (1)) (k30  S) 30 [] [] S) (hk38 : ∀  (S : kSt), kOk l G E (kZ G E kjB) m5_isHeard (kdp (1)) (k38  S) 38 [] [] S) : ∀ (n : Nat) (v3 : Int32) (S : kSt), kOk l G E (kZ G E kjB) m5_isHeard (kdp (1)) (f_m5_isHeard_d_L2 k30 k38 c1 c2 n v3 S) 2 [(0, .ref 2), (1, .int c1), (2, .int c2), (3, .int v3)] [] S := by
  intro n
  induction n with
  | zero => intro v3 S; exact ok_none
  | succ n ih =>
    intro v3 S
    rw [f_m5_isHeard_d_L2]
    refine ok_iload_n 3 (kd_m5_isHeard.at 2 rfl) rfl rfl ?_
    refine ok_aload_n 0 (kd_m5_isHeard.at 3 rfl) rfl rfl ?_
    refine ok_getI (kd_m5_isHeard.at 4 rfl) kf5_61 sh_2 rfl ?_
    refine ok_icmp_ge (tgt := 38) (kd_m5_isHeard.at 5 rfl) (by decide) (fun h1 => ?_) (fun h1 => ?_)
    · refine ok_sub (lv' := []) [] rfl ?_
      exact hk38  S
    · refine ok_aload_n 0 (kd_m5_isHeard.at 6 rfl) rfl rfl ?_
      refine ok_getR (kd_m5_isHeard.at 7 rfl) kf5_33 sh_2 rfl (kr_2_14 _) ?_
      refine ok_iload_n 3 (kd_m5_isHeard.at 8 rfl) rfl rfl ?_
      refine ok_iald (kd_m5_isHeard.at 9 rfl) sh_35 ?_
      refine ok_iload_n 1 (kd_m5_isHeard.at 10 rfl) rfl rfl ?_
      refine ok_nx (fun j32 hj32 => ?_)
      have K32 : ∀  (S2 : kSt), kOk l G E (kZ G E kjB) m5_isHeard (kdp (1)) (j32  S2) 32 [(0, .ref 2), (1, .int c1), (2, .int c2), (3, .int v3)] [] S2 := by
        subst hj32
        intro  S2
        refine ok_nx (fun x3 hx3 => ?_)
        refine ok_iinc (v := x3) (lv' := [(3, .int x3), (0, .ref 2), (1, .int c1), (2, .int c2)]) 3 (kd_m5_isHeard.at 20 rfl) rfl hx3.symm (by decide) rfl ?_
        refine ok_goto (tgt := 2) (kd_m5_isHeard.at 21 rfl) (by decide) ?_
        refine ok_sub (lv' := [(0, .ref 2), (1, .int c1), (2, .int c2), (3, .int x3)]) [1, 2, 3, 0] rfl ?_
        exact ih x3 S2
      clear hj32
      refine ok_icmp_ne (tgt := 32) (kd_m5_isHeard.at 11 rfl) (by decide) (fun h4 => ?_) (fun h4 => ?_)
      · exact K32  S
      · refine ok_aload_n 0 (kd_m5_isHeard.at 12 rfl) rfl rfl ?_
        refine ok_getR (kd_m5_isHeard.at 13 rfl) kf5_36 sh_2 rfl (kr_2_15 _) ?_
        refine ok_iload_n 3 (kd_m5_isHeard.at 14 rfl) rfl rfl ?_
        refine ok_iald (kd_m5_isHeard.at 15 rfl) sh_36 ?_
        refine ok_iload_n 2 (kd_m5_isHeard.at 16 rfl) rfl rfl ?_
        refine ok_icmp_ne (tgt := 32) (kd_m5_isHeard.at 17 rfl) (by decide) (fun h5 => ?_) (fun h5 => ?_)
        · exact K32  S
        · refine ok_sub (lv' := []) [] rfl ?_
          exact hk30  S
def f_m5_isHeard_d (a1 : Int32) (a2 : Int32) (S : kSt) : Option (Bool × kSt) :=
  f_m5_isHeard_d_L2 
    (fun  (S6 : kSt) =>
      some (true, S6)
    )
    (fun  (S7 : kSt) =>
      some (false, S7)
    )
    a1 a2 kFU 0 S
theorem ok_m5_isHeard_d {l : Launch} {G : kG} {E : kE} (a1 : Int32) (a2 : Int32)  (S : kSt) : kFn l G E E kjB m5_isHeard 1 [.ref 2, .int a1, .int a2] S (f_m5_isHeard_d a1 a2 S) := by
  unfold f_m5_isHeard_d
  refine kFn_of (by decide +kernel) (fun hG => Nat.le_of_ble_eq_true rfl) ?_
  show kOk _ _ _ _ _ _ _ _ [(0, .ref 2), (1, .int a1), (2, .int a2)] _ _
  refine ok_iconst (v := 0) (kd_m5_isHeard.at 0 rfl) (by decide) ?_
  refine ok_istore_n (lv' := [(3, .int 0), (0, .ref 2), (1, .int a1), (2, .int a2)]) (kd_m5_isHeard.at 1 rfl) rfl (by decide) rfl ?_
  refine ok_sub (lv' := [(0, .ref 2), (1, .int a1), (2, .int a2), (3, .int 0)]) [1, 2, 3, 0] rfl ?_
  refine ok_m5_isHeard_d_L2 a1 a2 _ _ (fun S6 => ?_) (fun S7 => ?_) kFU 0 S
  · refine ok_iconst (v := 1) (kd_m5_isHeard.at 18 rfl) (by decide) ?_
    exact ok_zreturn (x := true) (kd_m5_isHeard.at 19 rfl) rfl
  · refine ok_iconst (v := 0) (kd_m5_isHeard.at 22 rfl) (by decide) ?_
    exact ok_zreturn (x := false) (kd_m5_isHeard.at 23 rfl) rfl
def f_m7_readHeard  (S : kSt) : Option (Bool × kSt) :=
  knx (S.1 2 6) fun x1 =>
  if x1 < 8 then
    (f_m7_next  S).bind fun q3 =>
    (f_m7_seenPair  q3).bind fun q4 =>
    if 0 ≤ q4.1 then
      (f_m7_next  q4.2).bind fun q6 =>
      (f_m7_takeWord 15 q6).bind fun q7 =>
      if q7.1 then
        (f_m7_seesWhole 1 30 q7.2).bind fun q9 =>
        if q9.1 then
          (f_m5_isHeard_d q4.1 (q9.2.1 3 5) q9.2).bind fun q11 =>
          if q11.1 then
            (f_m7_found 3 q11.2).bind fun q23 =>
            some (q23.1, q23.2)
          else
            kgi x1 8 (
              knx (kuI q11.2 35 x1.toNatClampNeg q4.1) fun S13 =>
              kgi x1 8 (
                knx (kuI S13 36 x1.toNatClampNeg (S13.1 3 5)) fun S14 =>
                (f_m7_next  S14).bind fun q15 =>
                (f_m7_takeWord 12 q15).bind fun q16 =>
                if q16.1 then
                  (f_m7_seesWhole 0 (q16.2.1 2 0) q16.2).bind fun q18 =>
                  if q18.1 then
                    kgi x1 8 (
                      knx (kuI q18.2 37 x1.toNatClampNeg (q18.2.1 3 5)) fun S20 =>
                      knx (kuI S20 2 6 ((S20.1 2 6) + 1)) fun S21 =>
                      (f_m7_next  S21).bind fun q22 =>
                      some (true, q22)
                    )
                  else
                    some (false, q18.2)
                else
                  some (false, q16.2)
              )
            )
        else
          some (false, q9.2)
      else
        some (false, q7.2)
    else
      some (false, q4.2)
  else
    (f_m7_found 5 S).bind fun q24 =>
    some (q24.1, q24.2)
theorem ok_m7_readHeard {l : Launch} {G : kG} {ad : Nat → Nat}   (S : kSt) : kFn l G (ad, 2) (ad, 2) kjB m7_readHeard 8 [.ref 3] S (f_m7_readHeard  S) := by
  unfold f_m7_readHeard
  refine kFn_of (by decide +kernel) (fun hG => Nat.le_of_ble_eq_true rfl) ?_
  show kOk _ _ _ _ _ _ _ _ [(0, .ref 3)] _ _
  refine ok_aload_n 0 (kd_m7_readHeard.at 0 rfl) rfl rfl ?_
  refine ok_getR (kd_m7_readHeard.at 1 rfl) kf7_22 sh_3 rfl (kr_3_6 _) ?_
  refine ok_getI (kd_m7_readHeard.at 2 rfl) kf7_207 sh_2 rfl ?_
  refine ok_topi (fun x1 hx1 => ?_)
  refine ok_istore_n (lv' := [(1, .int x1), (0, .ref 3)]) (kd_m7_readHeard.at 3 rfl) rfl (by decide) rfl ?_
  refine ok_iload_n 0 (kd_m7_readHeard.at 4 rfl) rfl rfl ?_
  refine ok_bipush (v := 8) (kd_m7_readHeard.at 5 rfl) (by decide) ?_
  refine ok_icmp_lt (tgt := 20) (kd_m7_readHeard.at 6 rfl) (by decide) (fun h2 => ?_) (fun h2 => ?_)
  · refine ok_aload_n 1 (kd_m7_readHeard.at 11 rfl) rfl rfl ?_
    refine ok_callVV (M' := m7_next) (as := []) (st := []) (kd_m7_readHeard.at 12 rfl) kc7_50 sh_3 rfl rfl (by decide) (ok_m7_next  S) (kfit_of (by decide)) rfl (Nat.le_of_ble_eq_true rfl) (fun q3 hq3 => ?_)
    refine ok_aload_n 1 (kd_m7_readHeard.at 13 rfl) rfl rfl ?_
    refine ok_callVI (M' := m7_seenPair) (as := []) (st := []) (kd_m7_readHeard.at 14 rfl) kc7_178 sh_3 rfl rfl (by decide) (ok_m7_seenPair  q3) (kfit_of (by decide)) rfl (Nat.le_of_ble_eq_true rfl) (fun q4 hq4 => ?_)
    refine ok_istore_n (lv' := [(2, .int q4.1), (1, .int x1), (0, .ref 3)]) (kd_m7_readHeard.at 15 rfl) rfl (by decide) rfl ?_
    refine ok_iload_n 0 (kd_m7_readHeard.at 16 rfl) rfl rfl ?_
    refine ok_if_ge (tgt := 35) (kd_m7_readHeard.at 17 rfl) (by decide) (fun h5 => ?_) (fun h5 => ?_)
    · refine ok_aload_n 2 (kd_m7_readHeard.at 20 rfl) rfl rfl ?_
      refine ok_callVV (M' := m7_next) (as := []) (st := []) (kd_m7_readHeard.at 21 rfl) kc7_50 sh_3 rfl rfl (by decide) (ok_m7_next  q4.2) (kfit_of (by decide)) rfl (Nat.le_of_ble_eq_true rfl) (fun q6 hq6 => ?_)
      refine ok_aload_n 2 (kd_m7_readHeard.at 22 rfl) rfl rfl ?_
      refine ok_ldcS (kd_m7_readHeard.at 23 rfl) kst_7_210 ?_
      refine ok_callVB (M' := m7_takeWord) (as := [.ref (1000 + 15)]) (st := []) (kd_m7_readHeard.at 24 rfl) kc7_135 sh_3 rfl rfl (by decide) (ok_m7_takeWord 15 (by decide) q6) (kfit_of (by decide)) rfl (Nat.le_of_ble_eq_true rfl) (fun q7 hq7 => ?_)
      refine ok_ifb_eq (tgt := 58) (kd_m7_readHeard.at 25 rfl) (by decide) (fun h8 => ?_) (fun h8 => ?_)
      · refine ok_iconst (v := 0) (kd_m7_readHeard.at 31 rfl) (by decide) ?_
        exact ok_zreturn (x := false) (kd_m7_readHeard.at 32 rfl) rfl
      · refine ok_aload_n 2 (kd_m7_readHeard.at 26 rfl) rfl rfl ?_
        refine ok_iconst (v := 1) (kd_m7_readHeard.at 27 rfl) (by decide) ?_
        refine ok_bipush (v := 30) (kd_m7_readHeard.at 28 rfl) (by decide) ?_
        refine ok_callVB (M' := m7_seesWhole) (as := [.int 1, .int 30]) (st := []) (kd_m7_readHeard.at 29 rfl) kc7_138 sh_3 rfl rfl (by decide) (ok_m7_seesWhole 1 30 q7.2) (kfit_of (by decide)) rfl (Nat.le_of_ble_eq_true rfl) (fun q9 hq9 => ?_)
        refine ok_ifb_ne (tgt := 60) (kd_m7_readHeard.at 30 rfl) (by decide) (fun h10 => ?_) (fun h10 => ?_)
        · refine ok_aload_n 2 (kd_m7_readHeard.at 33 rfl) rfl rfl ?_
          refine ok_getR (kd_m7_readHeard.at 34 rfl) kf7_22 sh_3 rfl (kr_3_6 _) ?_
          refine ok_iload_n 0 (kd_m7_readHeard.at 35 rfl) rfl rfl ?_
          refine ok_aload_n 2 (kd_m7_readHeard.at 36 rfl) rfl rfl ?_
          refine ok_getI (kd_m7_readHeard.at 37 rfl) kf7_85 sh_3 rfl ?_
          refine ok_callVB (M' := m5_isHeard) (as := [.int q4.1, .int (q9.2.1 3 5)]) (st := []) (kd_m7_readHeard.at 38 rfl) kc7_212 sh_2 rfl rfl (by decide) (ok_m5_isHeard_d q4.1 (q9.2.1 3 5) q9.2) (kfit_of (by decide)) rfl (Nat.le_of_ble_eq_true rfl) (fun q11 hq11 => ?_)
          refine ok_ifb_eq (tgt := 81) (kd_m7_readHeard.at 39 rfl) (by decide) (fun h12 => ?_) (fun h12 => ?_)
          · refine ok_aload_n 2 (kd_m7_readHeard.at 44 rfl) rfl rfl ?_
            refine ok_getR (kd_m7_readHeard.at 45 rfl) kf7_22 sh_3 rfl (kr_3_6 _) ?_
            refine ok_getR (kd_m7_readHeard.at 46 rfl) kf7_215 sh_2 rfl (kr_2_14 _) ?_
            refine ok_iload_n 1 (kd_m7_readHeard.at 47 rfl) rfl rfl ?_
            refine ok_iload_n 0 (kd_m7_readHeard.at 48 rfl) rfl rfl ?_
            refine ok_iast (kd_m7_readHeard.at 49 rfl) sh_35 ?_
            refine ok_nS (fun S13 hS13 => ?_)
            refine ok_aload_n 2 (kd_m7_readHeard.at 50 rfl) rfl rfl ?_
            refine ok_getR (kd_m7_readHeard.at 51 rfl) kf7_22 sh_3 rfl (kr_3_6 _) ?_
            refine ok_getR (kd_m7_readHeard.at 52 rfl) kf7_218 sh_2 rfl (kr_2_15 _) ?_
            refine ok_iload_n 1 (kd_m7_readHeard.at 53 rfl) rfl rfl ?_
            refine ok_aload_n 2 (kd_m7_readHeard.at 54 rfl) rfl rfl ?_
            refine ok_getI (kd_m7_readHeard.at 55 rfl) kf7_85 sh_3 rfl ?_
            refine ok_iast (kd_m7_readHeard.at 56 rfl) sh_36 ?_
            refine ok_nS (fun S14 hS14 => ?_)
            refine ok_aload_n 2 (kd_m7_readHeard.at 57 rfl) rfl rfl ?_
            refine ok_callVV (M' := m7_next) (as := []) (st := []) (kd_m7_readHeard.at 58 rfl) kc7_50 sh_3 rfl rfl (by decide) (ok_m7_next  S14) (kfit_of (by decide)) rfl (Nat.le_of_ble_eq_true rfl) (fun q15 hq15 => ?_)
            refine ok_aload_n 2 (kd_m7_readHeard.at 59 rfl) rfl rfl ?_
            refine ok_ldcS (kd_m7_readHeard.at 60 rfl) kst_7_168 ?_
            refine ok_callVB (M' := m7_takeWord) (as := [.ref (1000 + 12)]) (st := []) (kd_m7_readHeard.at 61 rfl) kc7_135 sh_3 rfl rfl (by decide) (ok_m7_takeWord 12 (by decide) q15) (kfit_of (by decide)) rfl (Nat.le_of_ble_eq_true rfl) (fun q16 hq16 => ?_)
            refine ok_ifb_eq (tgt := 132) (kd_m7_readHeard.at 62 rfl) (by decide) (fun h17 => ?_) (fun h17 => ?_)
            · refine ok_iconst (v := 0) (kd_m7_readHeard.at 70 rfl) (by decide) ?_
              exact ok_zreturn (x := false) (kd_m7_readHeard.at 71 rfl) rfl
            · refine ok_aload_n 2 (kd_m7_readHeard.at 63 rfl) rfl rfl ?_
              refine ok_iconst (v := 0) (kd_m7_readHeard.at 64 rfl) (by decide) ?_
              refine ok_aload_n 2 (kd_m7_readHeard.at 65 rfl) rfl rfl ?_
              refine ok_getR (kd_m7_readHeard.at 66 rfl) kf7_22 sh_3 rfl (kr_3_6 _) ?_
              refine ok_getI (kd_m7_readHeard.at 67 rfl) kf7_141 sh_2 rfl ?_
              refine ok_callVB (M' := m7_seesWhole) (as := [.int 0, .int (q16.2.1 2 0)]) (st := []) (kd_m7_readHeard.at 68 rfl) kc7_138 sh_3 rfl rfl (by decide) (ok_m7_seesWhole 0 (q16.2.1 2 0) q16.2) (kfit_of (by decide)) rfl (Nat.le_of_ble_eq_true rfl) (fun q18 hq18 => ?_)
              refine ok_ifb_ne (tgt := 134) (kd_m7_readHeard.at 69 rfl) (by decide) (fun h19 => ?_) (fun h19 => ?_)
              · refine ok_aload_n 2 (kd_m7_readHeard.at 72 rfl) rfl rfl ?_
                refine ok_getR (kd_m7_readHeard.at 73 rfl) kf7_22 sh_3 rfl (kr_3_6 _) ?_
                refine ok_getR (kd_m7_readHeard.at 74 rfl) kf7_221 sh_2 rfl (kr_2_16 _) ?_
                refine ok_iload_n 1 (kd_m7_readHeard.at 75 rfl) rfl rfl ?_
                refine ok_aload_n 2 (kd_m7_readHeard.at 76 rfl) rfl rfl ?_
                refine ok_getI (kd_m7_readHeard.at 77 rfl) kf7_85 sh_3 rfl ?_
                refine ok_iast (kd_m7_readHeard.at 78 rfl) sh_37 ?_
                refine ok_nS (fun S20 hS20 => ?_)
                refine ok_aload_n 2 (kd_m7_readHeard.at 79 rfl) rfl rfl ?_
                refine ok_getR (kd_m7_readHeard.at 80 rfl) kf7_22 sh_3 rfl (kr_3_6 _) ?_
                refine ok_dup (kd_m7_readHeard.at 81 rfl) rfl ?_
                refine ok_getI (kd_m7_readHeard.at 82 rfl) kf7_207 sh_2 rfl ?_
                refine ok_iconst (v := 1) (kd_m7_readHeard.at 83 rfl) (by decide) ?_
                refine ok_iadd (kd_m7_readHeard.at 84 rfl) ?_
                refine ok_putI (kd_m7_readHeard.at 85 rfl) kf7_207 sh_2 rfl rfl ?_
                refine ok_nS (fun S21 hS21 => ?_)
                refine ok_aload_n 2 (kd_m7_readHeard.at 86 rfl) rfl rfl ?_
                refine ok_callVV (M' := m7_next) (as := []) (st := []) (kd_m7_readHeard.at 87 rfl) kc7_50 sh_3 rfl rfl (by decide) (ok_m7_next  S21) (kfit_of (by decide)) rfl (Nat.le_of_ble_eq_true rfl) (fun q22 hq22 => ?_)
                refine ok_iconst (v := 1) (kd_m7_readHeard.at 88 rfl) (by decide) ?_
                exact ok_zreturn (x := true) (kd_m7_readHeard.at 89 rfl) rfl
              · refine ok_iconst (v := 0) (kd_m7_readHeard.at 70 rfl) (by decide) ?_
                exact ok_zreturn (x := false) (kd_m7_readHeard.at 71 rfl) rfl
          · refine ok_aload_n 2 (kd_m7_readHeard.at 40 rfl) rfl rfl ?_
            refine ok_iconst (v := 3) (kd_m7_readHeard.at 41 rfl) (by decide) ?_
            refine ok_callVB (M' := m7_found) (as := [.int 3]) (st := []) (kd_m7_readHeard.at 42 rfl) kc7_63 sh_3 rfl rfl (by decide) (ok_m7_found 3 q11.2) (kfit_of (by decide)) rfl (Nat.le_of_ble_eq_true rfl) (fun q23 hq23 => ?_)
            exact ok_zreturn (x := q23.1) (kd_m7_readHeard.at 43 rfl) rfl
        · refine ok_iconst (v := 0) (kd_m7_readHeard.at 31 rfl) (by decide) ?_
          exact ok_zreturn (x := false) (kd_m7_readHeard.at 32 rfl) rfl
    · refine ok_iconst (v := 0) (kd_m7_readHeard.at 18 rfl) (by decide) ?_
      exact ok_zreturn (x := false) (kd_m7_readHeard.at 19 rfl) rfl
  · refine ok_aload_n 1 (kd_m7_readHeard.at 7 rfl) rfl rfl ?_
    refine ok_iconst (v := 5) (kd_m7_readHeard.at 8 rfl) (by decide) ?_
    refine ok_callVB (M' := m7_found) (as := [.int 5]) (st := []) (kd_m7_readHeard.at 9 rfl) kc7_63 sh_3 rfl rfl (by decide) (ok_m7_found 5 S) (kfit_of (by decide)) rfl (Nat.le_of_ble_eq_true rfl) (fun q24 hq24 => ?_)
    exact ok_zreturn (x := q24.1) (kd_m7_readHeard.at 10 rfl) rfl
def f_m5_isUnsure_d_L2   (k20 : kSt → Option (Bool × kSt)) (k28 : kSt → Option (Bool × kSt)) (c1 : Int32) : Nat → Int32 → kSt → Option (Bool × kSt)
  | 0, _, _ => none
  | n + 1, v2, S =>
    if (S.1 2 5) ≤ v2 then
      k28  S
    else
      kgi v2 4 (
        if (S.1 33 v2.toNatClampNeg) = c1 then
          k20  S
        else
          knx (v2 + 1) fun x3 =>
          f_m5_isUnsure_d_L2 k20 k28 c1 n x3 S
      )
theorem ok_m5_isUnsure_d_L2 {l : Launch} {G : kG} {E : kE}    (c1 : Int32) (k20 : kSt → Option (Bool × kSt)) (k28 : kSt → Option (Bool × kSt)) (hk20 : ∀  (S : kSt), kOk l G E (kZ G E kjB) m5_isUnsure (kdp (1)) (k20  S) 20 [] [] S) (hk28 : ∀  (S : kSt), kOk l G E (kZ G E kjB) m5_isUnsure (kdp (1)) (k28  S) 28 [] [] S) : ∀ (n : Nat) (v2 : Int32) (S : kSt), kOk l G E (kZ G E kjB) m5_isUnsure (kdp (1)) (f_m5_isUnsure_d_L2 k20 k28 c1 n v2 S) 2 [(0, .ref 2), (1, .int c1), (2, .int v2)] [] S := by
  intro n
  induction n with
  | zero => intro v2 S; exact ok_none
  | succ n ih =>
    intro v2 S
    rw [f_m5_isUnsure_d_L2]
    refine ok_iload_n 2 (kd_m5_isUnsure.at 2 rfl) rfl rfl ?_
    refine ok_aload_n 0 (kd_m5_isUnsure.at 3 rfl) rfl rfl ?_
    refine ok_getI (kd_m5_isUnsure.at 4 rfl) kf5_58 sh_2 rfl ?_
    refine ok_icmp_ge (tgt := 28) (kd_m5_isUnsure.at 5 rfl) (by decide) (fun h1 => ?_) (fun h1 => ?_)
    · refine ok_sub (lv' := []) [] rfl ?_
      exact hk28  S
    · refine ok_aload_n 0 (kd_m5_isUnsure.at 6 rfl) rfl rfl ?_
      refine ok_getR (kd_m5_isUnsure.at 7 rfl) kf5_27 sh_2 rfl (kr_2_12 _) ?_
      refine ok_iload_n 2 (kd_m5_isUnsure.at 8 rfl) rfl rfl ?_
      refine ok_iald (kd_m5_isUnsure.at 9 rfl) sh_33 ?_
      refine ok_iload_n 1 (kd_m5_isUnsure.at 10 rfl) rfl rfl ?_
      refine ok_icmp_ne (tgt := 22) (kd_m5_isUnsure.at 11 rfl) (by decide) (fun h2 => ?_) (fun h2 => ?_)
      · refine ok_nx (fun x3 hx3 => ?_)
        refine ok_iinc (v := x3) (lv' := [(2, .int x3), (0, .ref 2), (1, .int c1)]) 2 (kd_m5_isUnsure.at 14 rfl) rfl hx3.symm (by decide) rfl ?_
        refine ok_goto (tgt := 2) (kd_m5_isUnsure.at 15 rfl) (by decide) ?_
        refine ok_sub (lv' := [(0, .ref 2), (1, .int c1), (2, .int x3)]) [1, 2, 0] rfl ?_
        exact ih x3 S
      · refine ok_sub (lv' := []) [] rfl ?_
        exact hk20  S
def f_m5_isUnsure_d (a1 : Int32) (S : kSt) : Option (Bool × kSt) :=
  f_m5_isUnsure_d_L2 
    (fun  (S4 : kSt) =>
      some (true, S4)
    )
    (fun  (S5 : kSt) =>
      some (false, S5)
    )
    a1 kFU 0 S
theorem ok_m5_isUnsure_d {l : Launch} {G : kG} {E : kE} (a1 : Int32)  (S : kSt) : kFn l G E E kjB m5_isUnsure 1 [.ref 2, .int a1] S (f_m5_isUnsure_d a1 S) := by
  unfold f_m5_isUnsure_d
  refine kFn_of (by decide +kernel) (fun hG => Nat.le_of_ble_eq_true rfl) ?_
  show kOk _ _ _ _ _ _ _ _ [(0, .ref 2), (1, .int a1)] _ _
  refine ok_iconst (v := 0) (kd_m5_isUnsure.at 0 rfl) (by decide) ?_
  refine ok_istore_n (lv' := [(2, .int 0), (0, .ref 2), (1, .int a1)]) (kd_m5_isUnsure.at 1 rfl) rfl (by decide) rfl ?_
  refine ok_sub (lv' := [(0, .ref 2), (1, .int a1), (2, .int 0)]) [1, 2, 0] rfl ?_
  refine ok_m5_isUnsure_d_L2 a1 _ _ (fun S4 => ?_) (fun S5 => ?_) kFU 0 S
  · refine ok_iconst (v := 1) (kd_m5_isUnsure.at 12 rfl) (by decide) ?_
    exact ok_zreturn (x := true) (kd_m5_isUnsure.at 13 rfl) rfl
  · refine ok_iconst (v := 0) (kd_m5_isUnsure.at 16 rfl) (by decide) ?_
    exact ok_zreturn (x := false) (kd_m5_isUnsure.at 17 rfl) rfl
def f_m7_readUnsure  (S : kSt) : Option (Bool × kSt) :=
  knx (S.1 2 5) fun x1 =>
  if x1 < 4 then
    (f_m7_next  S).bind fun q3 =>
    (f_m7_seenPair  q3).bind fun q4 =>
    if 0 ≤ q4.1 then
      (f_m5_isUnsure_d q4.1 q4.2).bind fun q6 =>
      if q6.1 then
        (f_m7_found 3 q6.2).bind fun q15 =>
        some (q15.1, q15.2)
      else
        (f_m7_next  q6.2).bind fun q8 =>
        (f_m7_seesWhole 0 20 q8).bind fun q9 =>
        if q9.1 then
          kgi x1 4 (
            knx (kuI q9.2 33 x1.toNatClampNeg q4.1) fun S11 =>
            kgi x1 4 (
              knx (kuI S11 34 x1.toNatClampNeg (S11.1 3 5)) fun S12 =>
              knx (kuI S12 2 5 ((S12.1 2 5) + 1)) fun S13 =>
              (f_m7_next  S13).bind fun q14 =>
              some (true, q14)
            )
          )
        else
          some (false, q9.2)
    else
      some (false, q4.2)
  else
    (f_m7_found 5 S).bind fun q16 =>
    some (q16.1, q16.2)
theorem ok_m7_readUnsure {l : Launch} {G : kG} {ad : Nat → Nat}   (S : kSt) : kFn l G (ad, 2) (ad, 2) kjB m7_readUnsure 8 [.ref 3] S (f_m7_readUnsure  S) := by
  unfold f_m7_readUnsure
  refine kFn_of (by decide +kernel) (fun hG => Nat.le_of_ble_eq_true rfl) ?_
  show kOk _ _ _ _ _ _ _ _ [(0, .ref 3)] _ _
  refine ok_aload_n 0 (kd_m7_readUnsure.at 0 rfl) rfl rfl ?_
  refine ok_getR (kd_m7_readUnsure.at 1 rfl) kf7_22 sh_3 rfl (kr_3_6 _) ?_
  refine ok_getI (kd_m7_readUnsure.at 2 rfl) kf7_195 sh_2 rfl ?_
  refine ok_topi (fun x1 hx1 => ?_)
  refine ok_istore_n (lv' := [(1, .int x1), (0, .ref 3)]) (kd_m7_readUnsure.at 3 rfl) rfl (by decide) rfl ?_
  refine ok_iload_n 0 (kd_m7_readUnsure.at 4 rfl) rfl rfl ?_
  refine ok_iconst (v := 4) (kd_m7_readUnsure.at 5 rfl) (by decide) ?_
  refine ok_icmp_lt (tgt := 19) (kd_m7_readUnsure.at 6 rfl) (by decide) (fun h2 => ?_) (fun h2 => ?_)
  · refine ok_aload_n 1 (kd_m7_readUnsure.at 11 rfl) rfl rfl ?_
    refine ok_callVV (M' := m7_next) (as := []) (st := []) (kd_m7_readUnsure.at 12 rfl) kc7_50 sh_3 rfl rfl (by decide) (ok_m7_next  S) (kfit_of (by decide)) rfl (Nat.le_of_ble_eq_true rfl) (fun q3 hq3 => ?_)
    refine ok_aload_n 1 (kd_m7_readUnsure.at 13 rfl) rfl rfl ?_
    refine ok_callVI (M' := m7_seenPair) (as := []) (st := []) (kd_m7_readUnsure.at 14 rfl) kc7_178 sh_3 rfl rfl (by decide) (ok_m7_seenPair  q3) (kfit_of (by decide)) rfl (Nat.le_of_ble_eq_true rfl) (fun q4 hq4 => ?_)
    refine ok_istore_n (lv' := [(2, .int q4.1), (1, .int x1), (0, .ref 3)]) (kd_m7_readUnsure.at 15 rfl) rfl (by decide) rfl ?_
    refine ok_iload_n 0 (kd_m7_readUnsure.at 16 rfl) rfl rfl ?_
    refine ok_if_ge (tgt := 34) (kd_m7_readUnsure.at 17 rfl) (by decide) (fun h5 => ?_) (fun h5 => ?_)
    · refine ok_aload_n 2 (kd_m7_readUnsure.at 20 rfl) rfl rfl ?_
      refine ok_getR (kd_m7_readUnsure.at 21 rfl) kf7_22 sh_3 rfl (kr_3_6 _) ?_
      refine ok_iload_n 0 (kd_m7_readUnsure.at 22 rfl) rfl rfl ?_
      refine ok_callVB (M' := m5_isUnsure) (as := [.int q4.1]) (st := []) (kd_m7_readUnsure.at 23 rfl) kc7_198 sh_2 rfl rfl (by decide) (ok_m5_isUnsure_d q4.1 q4.2) (kfit_of (by decide)) rfl (Nat.le_of_ble_eq_true rfl) (fun q6 hq6 => ?_)
      refine ok_ifb_eq (tgt := 51) (kd_m7_readUnsure.at 24 rfl) (by decide) (fun h7 => ?_) (fun h7 => ?_)
      · refine ok_aload_n 2 (kd_m7_readUnsure.at 29 rfl) rfl rfl ?_
        refine ok_callVV (M' := m7_next) (as := []) (st := []) (kd_m7_readUnsure.at 30 rfl) kc7_50 sh_3 rfl rfl (by decide) (ok_m7_next  q6.2) (kfit_of (by decide)) rfl (Nat.le_of_ble_eq_true rfl) (fun q8 hq8 => ?_)
        refine ok_aload_n 2 (kd_m7_readUnsure.at 31 rfl) rfl rfl ?_
        refine ok_iconst (v := 0) (kd_m7_readUnsure.at 32 rfl) (by decide) ?_
        refine ok_bipush (v := 20) (kd_m7_readUnsure.at 33 rfl) (by decide) ?_
        refine ok_callVB (M' := m7_seesWhole) (as := [.int 0, .int 20]) (st := []) (kd_m7_readUnsure.at 34 rfl) kc7_138 sh_3 rfl rfl (by decide) (ok_m7_seesWhole 0 20 q8) (kfit_of (by decide)) rfl (Nat.le_of_ble_eq_true rfl) (fun q9 hq9 => ?_)
        refine ok_ifb_ne (tgt := 67) (kd_m7_readUnsure.at 35 rfl) (by decide) (fun h10 => ?_) (fun h10 => ?_)
        · refine ok_aload_n 2 (kd_m7_readUnsure.at 38 rfl) rfl rfl ?_
          refine ok_getR (kd_m7_readUnsure.at 39 rfl) kf7_22 sh_3 rfl (kr_3_6 _) ?_
          refine ok_getR (kd_m7_readUnsure.at 40 rfl) kf7_201 sh_2 rfl (kr_2_12 _) ?_
          refine ok_iload_n 1 (kd_m7_readUnsure.at 41 rfl) rfl rfl ?_
          refine ok_iload_n 0 (kd_m7_readUnsure.at 42 rfl) rfl rfl ?_
          refine ok_iast (kd_m7_readUnsure.at 43 rfl) sh_33 ?_
          refine ok_nS (fun S11 hS11 => ?_)
          refine ok_aload_n 2 (kd_m7_readUnsure.at 44 rfl) rfl rfl ?_
          refine ok_getR (kd_m7_readUnsure.at 45 rfl) kf7_22 sh_3 rfl (kr_3_6 _) ?_
          refine ok_getR (kd_m7_readUnsure.at 46 rfl) kf7_204 sh_2 rfl (kr_2_13 _) ?_
          refine ok_iload_n 1 (kd_m7_readUnsure.at 47 rfl) rfl rfl ?_
          refine ok_aload_n 2 (kd_m7_readUnsure.at 48 rfl) rfl rfl ?_
          refine ok_getI (kd_m7_readUnsure.at 49 rfl) kf7_85 sh_3 rfl ?_
          refine ok_iast (kd_m7_readUnsure.at 50 rfl) sh_34 ?_
          refine ok_nS (fun S12 hS12 => ?_)
          refine ok_aload_n 2 (kd_m7_readUnsure.at 51 rfl) rfl rfl ?_
          refine ok_getR (kd_m7_readUnsure.at 52 rfl) kf7_22 sh_3 rfl (kr_3_6 _) ?_
          refine ok_dup (kd_m7_readUnsure.at 53 rfl) rfl ?_
          refine ok_getI (kd_m7_readUnsure.at 54 rfl) kf7_195 sh_2 rfl ?_
          refine ok_iconst (v := 1) (kd_m7_readUnsure.at 55 rfl) (by decide) ?_
          refine ok_iadd (kd_m7_readUnsure.at 56 rfl) ?_
          refine ok_putI (kd_m7_readUnsure.at 57 rfl) kf7_195 sh_2 rfl rfl ?_
          refine ok_nS (fun S13 hS13 => ?_)
          refine ok_aload_n 2 (kd_m7_readUnsure.at 58 rfl) rfl rfl ?_
          refine ok_callVV (M' := m7_next) (as := []) (st := []) (kd_m7_readUnsure.at 59 rfl) kc7_50 sh_3 rfl rfl (by decide) (ok_m7_next  S13) (kfit_of (by decide)) rfl (Nat.le_of_ble_eq_true rfl) (fun q14 hq14 => ?_)
          refine ok_iconst (v := 1) (kd_m7_readUnsure.at 60 rfl) (by decide) ?_
          exact ok_zreturn (x := true) (kd_m7_readUnsure.at 61 rfl) rfl
        · refine ok_iconst (v := 0) (kd_m7_readUnsure.at 36 rfl) (by decide) ?_
          exact ok_zreturn (x := false) (kd_m7_readUnsure.at 37 rfl) rfl
      · refine ok_aload_n 2 (kd_m7_readUnsure.at 25 rfl) rfl rfl ?_
        refine ok_iconst (v := 3) (kd_m7_readUnsure.at 26 rfl) (by decide) ?_
        refine ok_callVB (M' := m7_found) (as := [.int 3]) (st := []) (kd_m7_readUnsure.at 27 rfl) kc7_63 sh_3 rfl rfl (by decide) (ok_m7_found 3 q6.2) (kfit_of (by decide)) rfl (Nat.le_of_ble_eq_true rfl) (fun q15 hq15 => ?_)
        exact ok_zreturn (x := q15.1) (kd_m7_readUnsure.at 28 rfl) rfl
    · refine ok_iconst (v := 0) (kd_m7_readUnsure.at 18 rfl) (by decide) ?_
      exact ok_zreturn (x := false) (kd_m7_readUnsure.at 19 rfl) rfl
  · refine ok_aload_n 1 (kd_m7_readUnsure.at 7 rfl) rfl rfl ?_
    refine ok_iconst (v := 5) (kd_m7_readUnsure.at 8 rfl) (by decide) ?_
    refine ok_callVB (M' := m7_found) (as := [.int 5]) (st := []) (kd_m7_readUnsure.at 9 rfl) kc7_63 sh_3 rfl rfl (by decide) (ok_m7_found 5 S) (kfit_of (by decide)) rfl (Nat.le_of_ble_eq_true rfl) (fun q16 hq16 => ?_)
    exact ok_zreturn (x := q16.1) (kd_m7_readUnsure.at 10 rfl) rfl
def f_m7_readDebt  (S : kSt) : Option (Bool × kSt) :=
  if (S.1 2 4) < 10 then
    (f_m7_next  S).bind fun q2 =>
    (f_m7_seenPair  q2).bind fun q3 =>
    if 0 ≤ q3.1 then
      (f_m7_next  q3.2).bind fun q5 =>
      (f_m7_seenPair  q5).bind fun q6 =>
      if 0 ≤ q6.1 then
        knx (fun  (S8 : kSt) =>
          (f_m7_found 3 S8).bind fun q9 =>
          some (q9.1, q9.2)
          ) fun j69 =>
        if q6.1 = q3.1 then
          j69  q6.2
        else
          knx ((q3.1 * 5) + q6.1) fun x11 =>
          kgi x11 25 (
            if (q6.2.1 32 x11.toNatClampNeg) = 0 then
              (f_m7_next  q6.2).bind fun q13 =>
              (f_m7_seesWhole 1 99 q13).bind fun q14 =>
              if q14.1 then
                knx ((q3.1 * 5) + q6.1) fun x17 =>
                kgi x17 25 (
                  knx (kuI q14.2 32 x17.toNatClampNeg (q14.2.1 3 5)) fun S16 =>
                  knx (kuI S16 2 4 ((S16.1 2 4) + 1)) fun S18 =>
                  (f_m7_next  S18).bind fun q19 =>
                  some (true, q19)
                )
              else
                some (false, q14.2)
            else
              j69  q6.2
          )
      else
        some (false, q6.2)
    else
      some (false, q3.2)
  else
    (f_m7_found 5 S).bind fun q20 =>
    some (q20.1, q20.2)
theorem ok_m7_readDebt {l : Launch} {G : kG} {ad : Nat → Nat}   (S : kSt) : kFn l G (ad, 2) (ad, 2) kjB m7_readDebt 8 [.ref 3] S (f_m7_readDebt  S) := by
  unfold f_m7_readDebt
  refine kFn_of (by decide +kernel) (fun hG => Nat.le_of_ble_eq_true rfl) ?_
  show kOk _ _ _ _ _ _ _ _ [(0, .ref 3)] _ _
  refine ok_aload_n 0 (kd_m7_readDebt.at 0 rfl) rfl rfl ?_
  refine ok_getR (kd_m7_readDebt.at 1 rfl) kf7_22 sh_3 rfl (kr_3_6 _) ?_
  refine ok_getI (kd_m7_readDebt.at 2 rfl) kf7_189 sh_2 rfl ?_
  refine ok_bipush (v := 10) (kd_m7_readDebt.at 3 rfl) (by decide) ?_
  refine ok_icmp_lt (tgt := 18) (kd_m7_readDebt.at 4 rfl) (by decide) (fun h1 => ?_) (fun h1 => ?_)
  · refine ok_aload_n 0 (kd_m7_readDebt.at 9 rfl) rfl rfl ?_
    refine ok_callVV (M' := m7_next) (as := []) (st := []) (kd_m7_readDebt.at 10 rfl) kc7_50 sh_3 rfl rfl (by decide) (ok_m7_next  S) (kfit_of (by decide)) rfl (Nat.le_of_ble_eq_true rfl) (fun q2 hq2 => ?_)
    refine ok_aload_n 0 (kd_m7_readDebt.at 11 rfl) rfl rfl ?_
    refine ok_callVI (M' := m7_seenPair) (as := []) (st := []) (kd_m7_readDebt.at 12 rfl) kc7_178 sh_3 rfl rfl (by decide) (ok_m7_seenPair  q2) (kfit_of (by decide)) rfl (Nat.le_of_ble_eq_true rfl) (fun q3 hq3 => ?_)
    refine ok_istore_n (lv' := [(1, .int q3.1), (0, .ref 3)]) (kd_m7_readDebt.at 13 rfl) rfl (by decide) rfl ?_
    refine ok_iload_n 0 (kd_m7_readDebt.at 14 rfl) rfl rfl ?_
    refine ok_if_ge (tgt := 33) (kd_m7_readDebt.at 15 rfl) (by decide) (fun h4 => ?_) (fun h4 => ?_)
    · refine ok_aload_n 1 (kd_m7_readDebt.at 18 rfl) rfl rfl ?_
      refine ok_callVV (M' := m7_next) (as := []) (st := []) (kd_m7_readDebt.at 19 rfl) kc7_50 sh_3 rfl rfl (by decide) (ok_m7_next  q3.2) (kfit_of (by decide)) rfl (Nat.le_of_ble_eq_true rfl) (fun q5 hq5 => ?_)
      refine ok_aload_n 1 (kd_m7_readDebt.at 20 rfl) rfl rfl ?_
      refine ok_callVI (M' := m7_seenPair) (as := []) (st := []) (kd_m7_readDebt.at 21 rfl) kc7_178 sh_3 rfl rfl (by decide) (ok_m7_seenPair  q5) (kfit_of (by decide)) rfl (Nat.le_of_ble_eq_true rfl) (fun q6 hq6 => ?_)
      refine ok_istore_n (lv' := [(2, .int q6.1), (1, .int q3.1), (0, .ref 3)]) (kd_m7_readDebt.at 22 rfl) rfl (by decide) rfl ?_
      refine ok_iload_n 0 (kd_m7_readDebt.at 23 rfl) rfl rfl ?_
      refine ok_if_ge (tgt := 48) (kd_m7_readDebt.at 24 rfl) (by decide) (fun h7 => ?_) (fun h7 => ?_)
      · refine ok_iload_n 0 (kd_m7_readDebt.at 27 rfl) rfl rfl ?_
        refine ok_iload_n 1 (kd_m7_readDebt.at 28 rfl) rfl rfl ?_
        refine ok_nx (fun j69 hj69 => ?_)
        have K69 : ∀  (S8 : kSt), kOk l G (ad, 2) (kZ G (ad, 2) kjB) m7_readDebt (kdp (8)) (j69  S8) 69 [(0, .ref 3)] [] S8 := by
          subst hj69
          intro  S8
          refine ok_aload_n 0 (kd_m7_readDebt.at 40 rfl) rfl rfl ?_
          refine ok_iconst (v := 3) (kd_m7_readDebt.at 41 rfl) (by decide) ?_
          refine ok_callVB (M' := m7_found) (as := [.int 3]) (st := []) (kd_m7_readDebt.at 42 rfl) kc7_63 sh_3 rfl rfl (by decide) (ok_m7_found 3 S8) (kfit_of (by decide)) rfl (Nat.le_of_ble_eq_true rfl) (fun q9 hq9 => ?_)
          exact ok_zreturn (x := q9.1) (kd_m7_readDebt.at 43 rfl) rfl
        clear hj69
        refine ok_icmp_eq (tgt := 69) (kd_m7_readDebt.at 29 rfl) (by decide) (fun h10 => ?_) (fun h10 => ?_)
        · refine ok_sub (lv' := [(0, .ref 3)]) [2] rfl ?_
          exact K69  q6.2
        · refine ok_aload_n 2 (kd_m7_readDebt.at 30 rfl) rfl rfl ?_
          refine ok_getR (kd_m7_readDebt.at 31 rfl) kf7_22 sh_3 rfl (kr_3_6 _) ?_
          refine ok_getR (kd_m7_readDebt.at 32 rfl) kf7_192 sh_2 rfl (kr_2_11 _) ?_
          refine ok_iload_n 1 (kd_m7_readDebt.at 33 rfl) rfl rfl ?_
          refine ok_iconst (v := 5) (kd_m7_readDebt.at 34 rfl) (by decide) ?_
          refine ok_imul (kd_m7_readDebt.at 35 rfl) ?_
          refine ok_iload_n 0 (kd_m7_readDebt.at 36 rfl) rfl rfl ?_
          refine ok_iadd (kd_m7_readDebt.at 37 rfl) ?_
          refine ok_topi (fun x11 hx11 => ?_)
          refine ok_iald (kd_m7_readDebt.at 38 rfl) sh_32 ?_
          refine ok_if_eq (tgt := 75) (kd_m7_readDebt.at 39 rfl) (by decide) (fun h12 => ?_) (fun h12 => ?_)
          · refine ok_aload_n 2 (kd_m7_readDebt.at 44 rfl) rfl rfl ?_
            refine ok_callVV (M' := m7_next) (as := []) (st := []) (kd_m7_readDebt.at 45 rfl) kc7_50 sh_3 rfl rfl (by decide) (ok_m7_next  q6.2) (kfit_of (by decide)) rfl (Nat.le_of_ble_eq_true rfl) (fun q13 hq13 => ?_)
            refine ok_aload_n 2 (kd_m7_readDebt.at 46 rfl) rfl rfl ?_
            refine ok_iconst (v := 1) (kd_m7_readDebt.at 47 rfl) (by decide) ?_
            refine ok_bipush (v := 99) (kd_m7_readDebt.at 48 rfl) (by decide) ?_
            refine ok_callVB (M' := m7_seesWhole) (as := [.int 1, .int 99]) (st := []) (kd_m7_readDebt.at 49 rfl) kc7_138 sh_3 rfl rfl (by decide) (ok_m7_seesWhole 1 99 q13) (kfit_of (by decide)) rfl (Nat.le_of_ble_eq_true rfl) (fun q14 hq14 => ?_)
            refine ok_ifb_ne (tgt := 91) (kd_m7_readDebt.at 50 rfl) (by decide) (fun h15 => ?_) (fun h15 => ?_)
            · refine ok_aload_n 2 (kd_m7_readDebt.at 53 rfl) rfl rfl ?_
              refine ok_getR (kd_m7_readDebt.at 54 rfl) kf7_22 sh_3 rfl (kr_3_6 _) ?_
              refine ok_getR (kd_m7_readDebt.at 55 rfl) kf7_192 sh_2 rfl (kr_2_11 _) ?_
              refine ok_iload_n 1 (kd_m7_readDebt.at 56 rfl) rfl rfl ?_
              refine ok_iconst (v := 5) (kd_m7_readDebt.at 57 rfl) (by decide) ?_
              refine ok_imul (kd_m7_readDebt.at 58 rfl) ?_
              refine ok_iload_n 0 (kd_m7_readDebt.at 59 rfl) rfl rfl ?_
              refine ok_iadd (kd_m7_readDebt.at 60 rfl) ?_
              refine ok_aload_n 2 (kd_m7_readDebt.at 61 rfl) rfl rfl ?_
              refine ok_getI (kd_m7_readDebt.at 62 rfl) kf7_85 sh_3 rfl ?_
              refine ok_sndi (fun x17 hx17 => ?_)
              refine ok_iast (kd_m7_readDebt.at 63 rfl) sh_32 ?_
              refine ok_nS (fun S16 hS16 => ?_)
              refine ok_aload_n 2 (kd_m7_readDebt.at 64 rfl) rfl rfl ?_
              refine ok_getR (kd_m7_readDebt.at 65 rfl) kf7_22 sh_3 rfl (kr_3_6 _) ?_
              refine ok_dup (kd_m7_readDebt.at 66 rfl) rfl ?_
              refine ok_getI (kd_m7_readDebt.at 67 rfl) kf7_189 sh_2 rfl ?_
              refine ok_iconst (v := 1) (kd_m7_readDebt.at 68 rfl) (by decide) ?_
              refine ok_iadd (kd_m7_readDebt.at 69 rfl) ?_
              refine ok_putI (kd_m7_readDebt.at 70 rfl) kf7_189 sh_2 rfl rfl ?_
              refine ok_nS (fun S18 hS18 => ?_)
              refine ok_aload_n 2 (kd_m7_readDebt.at 71 rfl) rfl rfl ?_
              refine ok_callVV (M' := m7_next) (as := []) (st := []) (kd_m7_readDebt.at 72 rfl) kc7_50 sh_3 rfl rfl (by decide) (ok_m7_next  S18) (kfit_of (by decide)) rfl (Nat.le_of_ble_eq_true rfl) (fun q19 hq19 => ?_)
              refine ok_iconst (v := 1) (kd_m7_readDebt.at 73 rfl) (by decide) ?_
              exact ok_zreturn (x := true) (kd_m7_readDebt.at 74 rfl) rfl
            · refine ok_iconst (v := 0) (kd_m7_readDebt.at 51 rfl) (by decide) ?_
              exact ok_zreturn (x := false) (kd_m7_readDebt.at 52 rfl) rfl
          · refine ok_sub (lv' := [(0, .ref 3)]) [2] rfl ?_
            exact K69  q6.2
      · refine ok_iconst (v := 0) (kd_m7_readDebt.at 25 rfl) (by decide) ?_
        exact ok_zreturn (x := false) (kd_m7_readDebt.at 26 rfl) rfl
    · refine ok_iconst (v := 0) (kd_m7_readDebt.at 16 rfl) (by decide) ?_
      exact ok_zreturn (x := false) (kd_m7_readDebt.at 17 rfl) rfl
  · refine ok_aload_n 0 (kd_m7_readDebt.at 5 rfl) rfl rfl ?_
    refine ok_iconst (v := 5) (kd_m7_readDebt.at 6 rfl) (by decide) ?_
    refine ok_callVB (M' := m7_found) (as := [.int 5]) (st := []) (kd_m7_readDebt.at 7 rfl) kc7_63 sh_3 rfl rfl (by decide) (ok_m7_found 5 S) (kfit_of (by decide)) rfl (Nat.le_of_ble_eq_true rfl) (fun q20 hq20 => ?_)
    exact ok_zreturn (x := q20.1) (kd_m7_readDebt.at 8 rfl) rfl
def f_m7_readContract  (S : kSt) : Option (Bool × kSt) :=
  (f_m7_next  S).bind fun q1 =>
  (f_m7_seenPair  q1).bind fun q2 =>
  if 0 ≤ q2.1 then
    kgi q2.1 5 (
      if (q2.2.1 31 q2.1.toNatClampNeg) = 0 then
        (f_m7_next  q2.2).bind fun q5 =>
        (f_m7_takeWord 14 q5).bind fun q6 =>
        if q6.1 then
          (f_m7_seesWhole 1 9 q6.2).bind fun q8 =>
          if q8.1 then
            kgi q2.1 5 (
              knx (kuI q8.2 31 q2.1.toNatClampNeg (q8.2.1 3 5)) fun S10 =>
              knx (kuI S10 2 3 ((S10.1 2 3) + 1)) fun S11 =>
              (f_m7_next  S11).bind fun q12 =>
              some (true, q12)
            )
          else
            some (false, q8.2)
        else
          some (false, q6.2)
      else
        (f_m7_found 3 q2.2).bind fun q13 =>
        some (q13.1, q13.2)
    )
  else
    some (false, q2.2)
theorem ok_m7_readContract {l : Launch} {G : kG} {ad : Nat → Nat}   (S : kSt) : kFn l G (ad, 2) (ad, 2) kjB m7_readContract 8 [.ref 3] S (f_m7_readContract  S) := by
  unfold f_m7_readContract
  refine kFn_of (by decide +kernel) (fun hG => Nat.le_of_ble_eq_true rfl) ?_
  show kOk _ _ _ _ _ _ _ _ [(0, .ref 3)] _ _
  refine ok_aload_n 0 (kd_m7_readContract.at 0 rfl) rfl rfl ?_
  refine ok_callVV (M' := m7_next) (as := []) (st := []) (kd_m7_readContract.at 1 rfl) kc7_50 sh_3 rfl rfl (by decide) (ok_m7_next  S) (kfit_of (by decide)) rfl (Nat.le_of_ble_eq_true rfl) (fun q1 hq1 => ?_)
  refine ok_aload_n 0 (kd_m7_readContract.at 2 rfl) rfl rfl ?_
  refine ok_callVI (M' := m7_seenPair) (as := []) (st := []) (kd_m7_readContract.at 3 rfl) kc7_178 sh_3 rfl rfl (by decide) (ok_m7_seenPair  q1) (kfit_of (by decide)) rfl (Nat.le_of_ble_eq_true rfl) (fun q2 hq2 => ?_)
  refine ok_istore_n (lv' := [(1, .int q2.1), (0, .ref 3)]) (kd_m7_readContract.at 4 rfl) rfl (by decide) rfl ?_
  refine ok_iload_n 0 (kd_m7_readContract.at 5 rfl) rfl rfl ?_
  refine ok_if_ge (tgt := 15) (kd_m7_readContract.at 6 rfl) (by decide) (fun h3 => ?_) (fun h3 => ?_)
  · refine ok_aload_n 1 (kd_m7_readContract.at 9 rfl) rfl rfl ?_
    refine ok_getR (kd_m7_readContract.at 10 rfl) kf7_22 sh_3 rfl (kr_3_6 _) ?_
    refine ok_getR (kd_m7_readContract.at 11 rfl) kf7_181 sh_2 rfl (kr_2_10 _) ?_
    refine ok_iload_n 0 (kd_m7_readContract.at 12 rfl) rfl rfl ?_
    refine ok_iald (kd_m7_readContract.at 13 rfl) sh_31 ?_
    refine ok_if_eq (tgt := 33) (kd_m7_readContract.at 14 rfl) (by decide) (fun h4 => ?_) (fun h4 => ?_)
    · refine ok_aload_n 1 (kd_m7_readContract.at 19 rfl) rfl rfl ?_
      refine ok_callVV (M' := m7_next) (as := []) (st := []) (kd_m7_readContract.at 20 rfl) kc7_50 sh_3 rfl rfl (by decide) (ok_m7_next  q2.2) (kfit_of (by decide)) rfl (Nat.le_of_ble_eq_true rfl) (fun q5 hq5 => ?_)
      refine ok_aload_n 1 (kd_m7_readContract.at 21 rfl) rfl rfl ?_
      refine ok_ldcS (kd_m7_readContract.at 22 rfl) kst_7_184 ?_
      refine ok_callVB (M' := m7_takeWord) (as := [.ref (1000 + 14)]) (st := []) (kd_m7_readContract.at 23 rfl) kc7_135 sh_3 rfl rfl (by decide) (ok_m7_takeWord 14 (by decide) q5) (kfit_of (by decide)) rfl (Nat.le_of_ble_eq_true rfl) (fun q6 hq6 => ?_)
      refine ok_ifb_eq (tgt := 56) (kd_m7_readContract.at 24 rfl) (by decide) (fun h7 => ?_) (fun h7 => ?_)
      · refine ok_iconst (v := 0) (kd_m7_readContract.at 30 rfl) (by decide) ?_
        exact ok_zreturn (x := false) (kd_m7_readContract.at 31 rfl) rfl
      · refine ok_aload_n 1 (kd_m7_readContract.at 25 rfl) rfl rfl ?_
        refine ok_iconst (v := 1) (kd_m7_readContract.at 26 rfl) (by decide) ?_
        refine ok_bipush (v := 9) (kd_m7_readContract.at 27 rfl) (by decide) ?_
        refine ok_callVB (M' := m7_seesWhole) (as := [.int 1, .int 9]) (st := []) (kd_m7_readContract.at 28 rfl) kc7_138 sh_3 rfl rfl (by decide) (ok_m7_seesWhole 1 9 q6.2) (kfit_of (by decide)) rfl (Nat.le_of_ble_eq_true rfl) (fun q8 hq8 => ?_)
        refine ok_ifb_ne (tgt := 58) (kd_m7_readContract.at 29 rfl) (by decide) (fun h9 => ?_) (fun h9 => ?_)
        · refine ok_aload_n 1 (kd_m7_readContract.at 32 rfl) rfl rfl ?_
          refine ok_getR (kd_m7_readContract.at 33 rfl) kf7_22 sh_3 rfl (kr_3_6 _) ?_
          refine ok_getR (kd_m7_readContract.at 34 rfl) kf7_181 sh_2 rfl (kr_2_10 _) ?_
          refine ok_iload_n 0 (kd_m7_readContract.at 35 rfl) rfl rfl ?_
          refine ok_aload_n 1 (kd_m7_readContract.at 36 rfl) rfl rfl ?_
          refine ok_getI (kd_m7_readContract.at 37 rfl) kf7_85 sh_3 rfl ?_
          refine ok_iast (kd_m7_readContract.at 38 rfl) sh_31 ?_
          refine ok_nS (fun S10 hS10 => ?_)
          refine ok_aload_n 1 (kd_m7_readContract.at 39 rfl) rfl rfl ?_
          refine ok_getR (kd_m7_readContract.at 40 rfl) kf7_22 sh_3 rfl (kr_3_6 _) ?_
          refine ok_dup (kd_m7_readContract.at 41 rfl) rfl ?_
          refine ok_getI (kd_m7_readContract.at 42 rfl) kf7_186 sh_2 rfl ?_
          refine ok_iconst (v := 1) (kd_m7_readContract.at 43 rfl) (by decide) ?_
          refine ok_iadd (kd_m7_readContract.at 44 rfl) ?_
          refine ok_putI (kd_m7_readContract.at 45 rfl) kf7_186 sh_2 rfl rfl ?_
          refine ok_nS (fun S11 hS11 => ?_)
          refine ok_aload_n 1 (kd_m7_readContract.at 46 rfl) rfl rfl ?_
          refine ok_callVV (M' := m7_next) (as := []) (st := []) (kd_m7_readContract.at 47 rfl) kc7_50 sh_3 rfl rfl (by decide) (ok_m7_next  S11) (kfit_of (by decide)) rfl (Nat.le_of_ble_eq_true rfl) (fun q12 hq12 => ?_)
          refine ok_iconst (v := 1) (kd_m7_readContract.at 48 rfl) (by decide) ?_
          exact ok_zreturn (x := true) (kd_m7_readContract.at 49 rfl) rfl
        · refine ok_iconst (v := 0) (kd_m7_readContract.at 30 rfl) (by decide) ?_
          exact ok_zreturn (x := false) (kd_m7_readContract.at 31 rfl) rfl
    · refine ok_aload_n 1 (kd_m7_readContract.at 15 rfl) rfl rfl ?_
      refine ok_iconst (v := 3) (kd_m7_readContract.at 16 rfl) (by decide) ?_
      refine ok_callVB (M' := m7_found) (as := [.int 3]) (st := []) (kd_m7_readContract.at 17 rfl) kc7_63 sh_3 rfl rfl (by decide) (ok_m7_found 3 q2.2) (kfit_of (by decide)) rfl (Nat.le_of_ble_eq_true rfl) (fun q13 hq13 => ?_)
      exact ok_zreturn (x := q13.1) (kd_m7_readContract.at 18 rfl) rfl
  · refine ok_iconst (v := 0) (kd_m7_readContract.at 7 rfl) (by decide) ?_
    exact ok_zreturn (x := false) (kd_m7_readContract.at 8 rfl) rfl
def f_m7_readPair  (S : kSt) : Option (Bool × kSt) :=
  knx (S.1 2 2) fun x1 =>
  if x1 < 5 then
    (f_m7_next  S).bind fun q3 =>
    knx (fun  (S4 : kSt) =>
      (f_m7_found 1 S4).bind fun q5 =>
      some (q5.1, q5.2)
      ) fun j38 =>
    if (q3.1 3 3) = 1 then
      (f_m7_isHeadOfLine  q3).bind fun q7 =>
      if q7.1 then
        j38  q7.2
      else
        (f_m7_pairOfName  q7.2).bind fun q9 =>
        if q9.1 < 0 then
          kgi x1 5 (
            knx (kuI q9.2 38 x1.toNatClampNeg (q9.2.1 3 4)) fun S11 =>
            kgi x1 5 (
              knx (kuI S11 39 x1.toNatClampNeg ((S11.1 3 2) - (S11.1 3 4))) fun S12 =>
              (f_m7_next  S12).bind fun q13 =>
              (f_m7_lawOfWord  q13).bind fun q14 =>
              kgi x1 5 (
                knx (kuI q14.2 28 x1.toNatClampNeg q14.1) fun S15 =>
                kgi x1 5 (
                  if 0 ≤ (S15.1 28 x1.toNatClampNeg) then
                    (f_m7_next  S15).bind fun q17 =>
                    (f_m7_takeWord 12 q17).bind fun q18 =>
                    if q18.1 then
                      (f_m7_seesWhole 0 (q18.2.1 2 0) q18.2).bind fun q20 =>
                      if q20.1 then
                        kgi x1 5 (
                          knx (kuI q20.2 29 x1.toNatClampNeg (q20.2.1 3 5)) fun S22 =>
                          (f_m7_next  S22).bind fun q23 =>
                          (f_m7_takeWord 13 q23).bind fun q24 =>
                          if q24.1 then
                            (f_m7_seesWhole 0 20 q24.2).bind fun q26 =>
                            if q26.1 then
                              kgi x1 5 (
                                knx (kuI q26.2 30 x1.toNatClampNeg (q26.2.1 3 5)) fun S28 =>
                                knx (kuI S28 2 2 ((S28.1 2 2) + 1)) fun S29 =>
                                (f_m7_next  S29).bind fun q30 =>
                                some (true, q30)
                              )
                            else
                              some (false, q26.2)
                          else
                            some (false, q24.2)
                        )
                      else
                        some (false, q20.2)
                    else
                      some (false, q18.2)
                  else
                    (f_m7_found 1 S15).bind fun q31 =>
                    some (q31.1, q31.2)
                )
              )
            )
          )
        else
          (f_m7_found 3 q9.2).bind fun q32 =>
          some (q32.1, q32.2)
    else
      j38  q3
  else
    (f_m7_found 5 S).bind fun q33 =>
    some (q33.1, q33.2)
theorem ok_m7_readPair {l : Launch} {G : kG} {ad : Nat → Nat}   (S : kSt) : kFn l G (ad, 2) (ad, 2) kjB m7_readPair 7 [.ref 3] S (f_m7_readPair  S) := by
  unfold f_m7_readPair
  refine kFn_of (by decide +kernel) (fun hG => Nat.le_of_ble_eq_true rfl) ?_
  show kOk _ _ _ _ _ _ _ _ [(0, .ref 3)] _ _
  refine ok_aload_n 0 (kd_m7_readPair.at 0 rfl) rfl rfl ?_
  refine ok_getR (kd_m7_readPair.at 1 rfl) kf7_22 sh_3 rfl (kr_3_6 _) ?_
  refine ok_getI (kd_m7_readPair.at 2 rfl) kf7_67 sh_2 rfl ?_
  refine ok_topi (fun x1 hx1 => ?_)
  refine ok_istore_n (lv' := [(1, .int x1), (0, .ref 3)]) (kd_m7_readPair.at 3 rfl) rfl (by decide) rfl ?_
  refine ok_iload_n 0 (kd_m7_readPair.at 4 rfl) rfl rfl ?_
  refine ok_iconst (v := 5) (kd_m7_readPair.at 5 rfl) (by decide) ?_
  refine ok_icmp_lt (tgt := 19) (kd_m7_readPair.at 6 rfl) (by decide) (fun h2 => ?_) (fun h2 => ?_)
  · refine ok_aload_n 1 (kd_m7_readPair.at 11 rfl) rfl rfl ?_
    refine ok_callVV (M' := m7_next) (as := []) (st := []) (kd_m7_readPair.at 12 rfl) kc7_50 sh_3 rfl rfl (by decide) (ok_m7_next  S) (kfit_of (by decide)) rfl (Nat.le_of_ble_eq_true rfl) (fun q3 hq3 => ?_)
    refine ok_aload_n 1 (kd_m7_readPair.at 13 rfl) rfl rfl ?_
    refine ok_getI (kd_m7_readPair.at 14 rfl) kf7_57 sh_3 rfl ?_
    refine ok_iconst (v := 1) (kd_m7_readPair.at 15 rfl) (by decide) ?_
    refine ok_nx (fun j38 hj38 => ?_)
    have K38 : ∀  (S4 : kSt), kOk l G (ad, 2) (kZ G (ad, 2) kjB) m7_readPair (kdp (7)) (j38  S4) 38 [(0, .ref 3)] [] S4 := by
      subst hj38
      intro  S4
      refine ok_aload_n 0 (kd_m7_readPair.at 20 rfl) rfl rfl ?_
      refine ok_iconst (v := 1) (kd_m7_readPair.at 21 rfl) (by decide) ?_
      refine ok_callVB (M' := m7_found) (as := [.int 1]) (st := []) (kd_m7_readPair.at 22 rfl) kc7_63 sh_3 rfl rfl (by decide) (ok_m7_found 1 S4) (kfit_of (by decide)) rfl (Nat.le_of_ble_eq_true rfl) (fun q5 hq5 => ?_)
      exact ok_zreturn (x := q5.1) (kd_m7_readPair.at 23 rfl) rfl
    clear hj38
    refine ok_icmp_ne (tgt := 38) (kd_m7_readPair.at 16 rfl) (by decide) (fun h6 => ?_) (fun h6 => ?_)
    · refine ok_sub (lv' := [(0, .ref 3)]) [1] rfl ?_
      exact K38  q3
    · refine ok_aload_n 1 (kd_m7_readPair.at 17 rfl) rfl rfl ?_
      refine ok_callVB (M' := m7_isHeadOfLine) (as := []) (st := []) (kd_m7_readPair.at 18 rfl) kc7_127 sh_3 rfl rfl (by decide) (ok_m7_isHeadOfLine  q3) (kfit_of (by decide)) rfl (Nat.le_of_ble_eq_true rfl) (fun q7 hq7 => ?_)
      refine ok_ifb_eq (tgt := 44) (kd_m7_readPair.at 19 rfl) (by decide) (fun h8 => ?_) (fun h8 => ?_)
      · refine ok_aload_n 1 (kd_m7_readPair.at 24 rfl) rfl rfl ?_
        refine ok_callVI (M' := m7_pairOfName) (as := []) (st := []) (kd_m7_readPair.at 25 rfl) kc7_130 sh_3 rfl rfl (by decide) (ok_m7_pairOfName  q7.2) (kfit_of (by decide)) rfl (Nat.le_of_ble_eq_true rfl) (fun q9 hq9 => ?_)
        refine ok_if_lt (tgt := 57) (kd_m7_readPair.at 26 rfl) (by decide) (fun h10 => ?_) (fun h10 => ?_)
        · refine ok_aload_n 1 (kd_m7_readPair.at 31 rfl) rfl rfl ?_
          refine ok_getR (kd_m7_readPair.at 32 rfl) kf7_9 sh_3 rfl (kr_3_7 _) ?_
          refine ok_iload_n 0 (kd_m7_readPair.at 33 rfl) rfl rfl ?_
          refine ok_aload_n 1 (kd_m7_readPair.at 34 rfl) rfl rfl ?_
          refine ok_getI (kd_m7_readPair.at 35 rfl) kf7_70 sh_3 rfl ?_
          refine ok_iast (kd_m7_readPair.at 36 rfl) sh_38 ?_
          refine ok_nS (fun S11 hS11 => ?_)
          refine ok_aload_n 1 (kd_m7_readPair.at 37 rfl) rfl rfl ?_
          refine ok_getR (kd_m7_readPair.at 38 rfl) kf7_15 sh_3 rfl (kr_3_8 _) ?_
          refine ok_iload_n 0 (kd_m7_readPair.at 39 rfl) rfl rfl ?_
          refine ok_aload_n 1 (kd_m7_readPair.at 40 rfl) rfl rfl ?_
          refine ok_getI (kd_m7_readPair.at 41 rfl) kf7_41 sh_3 rfl ?_
          refine ok_aload_n 1 (kd_m7_readPair.at 42 rfl) rfl rfl ?_
          refine ok_getI (kd_m7_readPair.at 43 rfl) kf7_70 sh_3 rfl ?_
          refine ok_isub (kd_m7_readPair.at 44 rfl) ?_
          refine ok_iast (kd_m7_readPair.at 45 rfl) sh_39 ?_
          refine ok_nS (fun S12 hS12 => ?_)
          refine ok_aload_n 1 (kd_m7_readPair.at 46 rfl) rfl rfl ?_
          refine ok_callVV (M' := m7_next) (as := []) (st := []) (kd_m7_readPair.at 47 rfl) kc7_50 sh_3 rfl rfl (by decide) (ok_m7_next  S12) (kfit_of (by decide)) rfl (Nat.le_of_ble_eq_true rfl) (fun q13 hq13 => ?_)
          refine ok_aload_n 1 (kd_m7_readPair.at 48 rfl) rfl rfl ?_
          refine ok_getR (kd_m7_readPair.at 49 rfl) kf7_22 sh_3 rfl (kr_3_6 _) ?_
          refine ok_getR (kd_m7_readPair.at 50 rfl) kf7_162 sh_2 rfl (kr_2_7 _) ?_
          refine ok_iload_n 0 (kd_m7_readPair.at 51 rfl) rfl rfl ?_
          refine ok_aload_n 1 (kd_m7_readPair.at 52 rfl) rfl rfl ?_
          refine ok_callVI (M' := m7_lawOfWord) (as := []) (st := [.int x1, .ref 28]) (kd_m7_readPair.at 53 rfl) kc7_165 sh_3 rfl rfl (by decide) (ok_m7_lawOfWord  q13) (kfit_of (by decide)) rfl (Nat.le_of_ble_eq_true rfl) (fun q14 hq14 => ?_)
          refine ok_iast (kd_m7_readPair.at 54 rfl) sh_28 ?_
          refine ok_nS (fun S15 hS15 => ?_)
          refine ok_aload_n 1 (kd_m7_readPair.at 55 rfl) rfl rfl ?_
          refine ok_getR (kd_m7_readPair.at 56 rfl) kf7_22 sh_3 rfl (kr_3_6 _) ?_
          refine ok_getR (kd_m7_readPair.at 57 rfl) kf7_162 sh_2 rfl (kr_2_7 _) ?_
          refine ok_iload_n 0 (kd_m7_readPair.at 58 rfl) rfl rfl ?_
          refine ok_iald (kd_m7_readPair.at 59 rfl) sh_28 ?_
          refine ok_if_ge (tgt := 117) (kd_m7_readPair.at 60 rfl) (by decide) (fun h16 => ?_) (fun h16 => ?_)
          · refine ok_aload_n 1 (kd_m7_readPair.at 65 rfl) rfl rfl ?_
            refine ok_callVV (M' := m7_next) (as := []) (st := []) (kd_m7_readPair.at 66 rfl) kc7_50 sh_3 rfl rfl (by decide) (ok_m7_next  S15) (kfit_of (by decide)) rfl (Nat.le_of_ble_eq_true rfl) (fun q17 hq17 => ?_)
            refine ok_aload_n 1 (kd_m7_readPair.at 67 rfl) rfl rfl ?_
            refine ok_ldcS (kd_m7_readPair.at 68 rfl) kst_7_168 ?_
            refine ok_callVB (M' := m7_takeWord) (as := [.ref (1000 + 12)]) (st := []) (kd_m7_readPair.at 69 rfl) kc7_135 sh_3 rfl rfl (by decide) (ok_m7_takeWord 12 (by decide) q17) (kfit_of (by decide)) rfl (Nat.le_of_ble_eq_true rfl) (fun q18 hq18 => ?_)
            refine ok_ifb_eq (tgt := 145) (kd_m7_readPair.at 70 rfl) (by decide) (fun h19 => ?_) (fun h19 => ?_)
            · refine ok_iconst (v := 0) (kd_m7_readPair.at 78 rfl) (by decide) ?_
              exact ok_zreturn (x := false) (kd_m7_readPair.at 79 rfl) rfl
            · refine ok_aload_n 1 (kd_m7_readPair.at 71 rfl) rfl rfl ?_
              refine ok_iconst (v := 0) (kd_m7_readPair.at 72 rfl) (by decide) ?_
              refine ok_aload_n 1 (kd_m7_readPair.at 73 rfl) rfl rfl ?_
              refine ok_getR (kd_m7_readPair.at 74 rfl) kf7_22 sh_3 rfl (kr_3_6 _) ?_
              refine ok_getI (kd_m7_readPair.at 75 rfl) kf7_141 sh_2 rfl ?_
              refine ok_callVB (M' := m7_seesWhole) (as := [.int 0, .int (q18.2.1 2 0)]) (st := []) (kd_m7_readPair.at 76 rfl) kc7_138 sh_3 rfl rfl (by decide) (ok_m7_seesWhole 0 (q18.2.1 2 0) q18.2) (kfit_of (by decide)) rfl (Nat.le_of_ble_eq_true rfl) (fun q20 hq20 => ?_)
              refine ok_ifb_ne (tgt := 147) (kd_m7_readPair.at 77 rfl) (by decide) (fun h21 => ?_) (fun h21 => ?_)
              · refine ok_aload_n 1 (kd_m7_readPair.at 80 rfl) rfl rfl ?_
                refine ok_getR (kd_m7_readPair.at 81 rfl) kf7_22 sh_3 rfl (kr_3_6 _) ?_
                refine ok_getR (kd_m7_readPair.at 82 rfl) kf7_170 sh_2 rfl (kr_2_8 _) ?_
                refine ok_iload_n 0 (kd_m7_readPair.at 83 rfl) rfl rfl ?_
                refine ok_aload_n 1 (kd_m7_readPair.at 84 rfl) rfl rfl ?_
                refine ok_getI (kd_m7_readPair.at 85 rfl) kf7_85 sh_3 rfl ?_
                refine ok_iast (kd_m7_readPair.at 86 rfl) sh_29 ?_
                refine ok_nS (fun S22 hS22 => ?_)
                refine ok_aload_n 1 (kd_m7_readPair.at 87 rfl) rfl rfl ?_
                refine ok_callVV (M' := m7_next) (as := []) (st := []) (kd_m7_readPair.at 88 rfl) kc7_50 sh_3 rfl rfl (by decide) (ok_m7_next  S22) (kfit_of (by decide)) rfl (Nat.le_of_ble_eq_true rfl) (fun q23 hq23 => ?_)
                refine ok_aload_n 1 (kd_m7_readPair.at 89 rfl) rfl rfl ?_
                refine ok_ldcS (kd_m7_readPair.at 90 rfl) kst_7_173 ?_
                refine ok_callVB (M' := m7_takeWord) (as := [.ref (1000 + 13)]) (st := []) (kd_m7_readPair.at 91 rfl) kc7_135 sh_3 rfl rfl (by decide) (ok_m7_takeWord 13 (by decide) q23) (kfit_of (by decide)) rfl (Nat.le_of_ble_eq_true rfl) (fun q24 hq24 => ?_)
                refine ok_ifb_eq (tgt := 183) (kd_m7_readPair.at 92 rfl) (by decide) (fun h25 => ?_) (fun h25 => ?_)
                · refine ok_iconst (v := 0) (kd_m7_readPair.at 98 rfl) (by decide) ?_
                  exact ok_zreturn (x := false) (kd_m7_readPair.at 99 rfl) rfl
                · refine ok_aload_n 1 (kd_m7_readPair.at 93 rfl) rfl rfl ?_
                  refine ok_iconst (v := 0) (kd_m7_readPair.at 94 rfl) (by decide) ?_
                  refine ok_bipush (v := 20) (kd_m7_readPair.at 95 rfl) (by decide) ?_
                  refine ok_callVB (M' := m7_seesWhole) (as := [.int 0, .int 20]) (st := []) (kd_m7_readPair.at 96 rfl) kc7_138 sh_3 rfl rfl (by decide) (ok_m7_seesWhole 0 20 q24.2) (kfit_of (by decide)) rfl (Nat.le_of_ble_eq_true rfl) (fun q26 hq26 => ?_)
                  refine ok_ifb_ne (tgt := 185) (kd_m7_readPair.at 97 rfl) (by decide) (fun h27 => ?_) (fun h27 => ?_)
                  · refine ok_aload_n 1 (kd_m7_readPair.at 100 rfl) rfl rfl ?_
                    refine ok_getR (kd_m7_readPair.at 101 rfl) kf7_22 sh_3 rfl (kr_3_6 _) ?_
                    refine ok_getR (kd_m7_readPair.at 102 rfl) kf7_175 sh_2 rfl (kr_2_9 _) ?_
                    refine ok_iload_n 0 (kd_m7_readPair.at 103 rfl) rfl rfl ?_
                    refine ok_aload_n 1 (kd_m7_readPair.at 104 rfl) rfl rfl ?_
                    refine ok_getI (kd_m7_readPair.at 105 rfl) kf7_85 sh_3 rfl ?_
                    refine ok_iast (kd_m7_readPair.at 106 rfl) sh_30 ?_
                    refine ok_nS (fun S28 hS28 => ?_)
                    refine ok_aload_n 1 (kd_m7_readPair.at 107 rfl) rfl rfl ?_
                    refine ok_getR (kd_m7_readPair.at 108 rfl) kf7_22 sh_3 rfl (kr_3_6 _) ?_
                    refine ok_dup (kd_m7_readPair.at 109 rfl) rfl ?_
                    refine ok_getI (kd_m7_readPair.at 110 rfl) kf7_67 sh_2 rfl ?_
                    refine ok_iconst (v := 1) (kd_m7_readPair.at 111 rfl) (by decide) ?_
                    refine ok_iadd (kd_m7_readPair.at 112 rfl) ?_
                    refine ok_putI (kd_m7_readPair.at 113 rfl) kf7_67 sh_2 rfl rfl ?_
                    refine ok_nS (fun S29 hS29 => ?_)
                    refine ok_aload_n 1 (kd_m7_readPair.at 114 rfl) rfl rfl ?_
                    refine ok_callVV (M' := m7_next) (as := []) (st := []) (kd_m7_readPair.at 115 rfl) kc7_50 sh_3 rfl rfl (by decide) (ok_m7_next  S29) (kfit_of (by decide)) rfl (Nat.le_of_ble_eq_true rfl) (fun q30 hq30 => ?_)
                    refine ok_iconst (v := 1) (kd_m7_readPair.at 116 rfl) (by decide) ?_
                    exact ok_zreturn (x := true) (kd_m7_readPair.at 117 rfl) rfl
                  · refine ok_iconst (v := 0) (kd_m7_readPair.at 98 rfl) (by decide) ?_
                    exact ok_zreturn (x := false) (kd_m7_readPair.at 99 rfl) rfl
              · refine ok_iconst (v := 0) (kd_m7_readPair.at 78 rfl) (by decide) ?_
                exact ok_zreturn (x := false) (kd_m7_readPair.at 79 rfl) rfl
          · refine ok_aload_n 1 (kd_m7_readPair.at 61 rfl) rfl rfl ?_
            refine ok_iconst (v := 1) (kd_m7_readPair.at 62 rfl) (by decide) ?_
            refine ok_callVB (M' := m7_found) (as := [.int 1]) (st := []) (kd_m7_readPair.at 63 rfl) kc7_63 sh_3 rfl rfl (by decide) (ok_m7_found 1 S15) (kfit_of (by decide)) rfl (Nat.le_of_ble_eq_true rfl) (fun q31 hq31 => ?_)
            exact ok_zreturn (x := q31.1) (kd_m7_readPair.at 64 rfl) rfl
        · refine ok_aload_n 1 (kd_m7_readPair.at 27 rfl) rfl rfl ?_
          refine ok_iconst (v := 3) (kd_m7_readPair.at 28 rfl) (by decide) ?_
          refine ok_callVB (M' := m7_found) (as := [.int 3]) (st := []) (kd_m7_readPair.at 29 rfl) kc7_63 sh_3 rfl rfl (by decide) (ok_m7_found 3 q9.2) (kfit_of (by decide)) rfl (Nat.le_of_ble_eq_true rfl) (fun q32 hq32 => ?_)
          exact ok_zreturn (x := q32.1) (kd_m7_readPair.at 30 rfl) rfl
      · refine ok_sub (lv' := [(0, .ref 3)]) [1] rfl ?_
        exact K38  q7.2
  · refine ok_aload_n 1 (kd_m7_readPair.at 7 rfl) rfl rfl ?_
    refine ok_iconst (v := 5) (kd_m7_readPair.at 8 rfl) (by decide) ?_
    refine ok_callVB (M' := m7_found) (as := [.int 5]) (st := []) (kd_m7_readPair.at 9 rfl) kc7_63 sh_3 rfl rfl (by decide) (ok_m7_found 5 S) (kfit_of (by decide)) rfl (Nat.le_of_ble_eq_true rfl) (fun q33 hq33 => ?_)
    exact ok_zreturn (x := q33.1) (kd_m7_readPair.at 10 rfl) rfl
