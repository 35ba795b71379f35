def f_m0_reckon_L29   (k76 : kSt → Option kSt) (c3 : Int32) : Nat → Int32 → kSt → Option kSt
  | 0, _, _ => none
  | n + 1, v4, S =>
    if (S.1 10 0) ≤ v4 then
      k76  S
    else
      kgi c3 5 (
        knx ((v4 * 5) + c3) fun x5 =>
        kgi x5 25 (
          knx ((c3 * 5) + v4) fun x6 =>
          kgi x6 25 (
            kgi c3 5 (
              knx (kuI S 49 c3.toNatClampNeg ((S.1 49 c3.toNatClampNeg) + ((S.1 42 x5.toNatClampNeg) - (S.1 42 x6.toNatClampNeg)))) fun S7 =>
              knx (v4 + 1) fun x8 =>
              f_m0_reckon_L29 k76 c3 n x8 S7
            )
          )
        )
      )
theorem ok_m0_reckon_L29 {l : Launch} {G : kG} {E : kE}    (c3 : Int32) (k76 : kSt → Option kSt) (hk76 : ∀  (S : kSt), kOk l G E (kZ G E kjV) m0_reckon (kdp (1)) (k76  S) 76 [(0, .ref 10), (1, .ref 4), (3, .int c3)] [] S) : ∀ (n : Nat) (v4 : Int32) (S : kSt), kOk l G E (kZ G E kjV) m0_reckon (kdp (1)) (f_m0_reckon_L29 k76 c3 n v4 S) 29 [(0, .ref 10), (1, .ref 4), (3, .int c3), (4, .int v4)] [] S := by
  intro n
  induction n with
  | zero => intro v4 S; exact ok_none
  | succ n ih =>
    intro v4 S
    rw [f_m0_reckon_L29]
    refine ok_iload 3 (kd_m0_reckon.at 18 rfl) rfl ?_
    refine ok_aload_n 0 (kd_m0_reckon.at 19 rfl) rfl rfl ?_
    refine ok_getI (kd_m0_reckon.at 20 rfl) kf0_33 sh_10 rfl ?_
    refine ok_icmp_ge (tgt := 76) (kd_m0_reckon.at 21 rfl) (by decide) (fun h4 => ?_) (fun h4 => ?_)
    · refine ok_sub (lv' := [(0, .ref 10), (1, .ref 4), (3, .int c3)]) [0, 1, 2] rfl ?_
      exact hk76  S
    · refine ok_aload_n 0 (kd_m0_reckon.at 22 rfl) rfl rfl ?_
      refine ok_getR (kd_m0_reckon.at 23 rfl) kf0_9 sh_10 rfl (kr_10_1 _) ?_
      refine ok_iload_n 2 (kd_m0_reckon.at 24 rfl) rfl rfl ?_
      refine ok_dup2 (kd_m0_reckon.at 25 rfl) rfl rfl ?_
      refine ok_iald (kd_m0_reckon.at 26 rfl) sh_49 ?_
      refine ok_aload_n 1 (kd_m0_reckon.at 27 rfl) rfl rfl ?_
      refine ok_getR (kd_m0_reckon.at 28 rfl) kf0_37 sh_4 rfl (kr_4_3 _) ?_
      refine ok_iload 3 (kd_m0_reckon.at 29 rfl) rfl ?_
      refine ok_iconst (v := 5) (kd_m0_reckon.at 30 rfl) (by decide) ?_
      refine ok_imul (kd_m0_reckon.at 31 rfl) ?_
      refine ok_iload_n 2 (kd_m0_reckon.at 32 rfl) rfl rfl ?_
      refine ok_iadd (kd_m0_reckon.at 33 rfl) ?_
      refine ok_topi (fun x5 hx5 => ?_)
      refine ok_iald (kd_m0_reckon.at 34 rfl) sh_42 ?_
      refine ok_aload_n 1 (kd_m0_reckon.at 35 rfl) rfl rfl ?_
      refine ok_getR (kd_m0_reckon.at 36 rfl) kf0_37 sh_4 rfl (kr_4_3 _) ?_
      refine ok_iload_n 2 (kd_m0_reckon.at 37 rfl) rfl rfl ?_
      refine ok_iconst (v := 5) (kd_m0_reckon.at 38 rfl) (by decide) ?_
      refine ok_imul (kd_m0_reckon.at 39 rfl) ?_
      refine ok_iload 3 (kd_m0_reckon.at 40 rfl) rfl ?_
      refine ok_iadd (kd_m0_reckon.at 41 rfl) ?_
      refine ok_topi (fun x6 hx6 => ?_)
      refine ok_iald (kd_m0_reckon.at 42 rfl) sh_42 ?_
      refine ok_isub (kd_m0_reckon.at 43 rfl) ?_
      refine ok_iadd (kd_m0_reckon.at 44 rfl) ?_
      refine ok_iast (kd_m0_reckon.at 45 rfl) sh_49 ?_
      refine ok_nS (fun S7 hS7 => ?_)
      refine ok_nx (fun x8 hx8 => ?_)
      refine ok_iinc (v := x8) (lv' := [(4, .int x8), (0, .ref 10), (1, .ref 4), (3, .int c3)]) 3 (kd_m0_reckon.at 46 rfl) rfl hx8.symm (by decide) rfl ?_
      refine ok_goto (tgt := 29) (kd_m0_reckon.at 47 rfl) (by decide) ?_
      refine ok_sub (lv' := [(0, .ref 10), (1, .ref 4), (3, .int c3), (4, .int x8)]) [1, 2, 3, 0] rfl ?_
      exact ih x8 S7
def f_m0_reckon_L11   (k82 : kSt → Option kSt)  : Nat → Int32 → kSt → Option kSt
  | 0, _, _ => none
  | n + 1, v3, S =>
    if (S.1 10 0) ≤ v3 then
      k82  S
    else
      kgi v3 5 (
        knx (kuI S 49 v3.toNatClampNeg 0) fun S3 =>
        f_m0_reckon_L29 
          (fun  (S9 : kSt) =>
            knx (v3 + 1) fun x10 =>
            f_m0_reckon_L11 k82 n x10 S9
          )
          v3 kFU 0 S3
      )
theorem ok_m0_reckon_L11 {l : Launch} {G : kG} {E : kE}     (k82 : kSt → Option kSt) (hk82 : ∀  (S : kSt), kOk l G E (kZ G E kjV) m0_reckon (kdp (1)) (k82  S) 82 [] [] S) : ∀ (n : Nat) (v3 : Int32) (S : kSt), kOk l G E (kZ G E kjV) m0_reckon (kdp (1)) (f_m0_reckon_L11 k82 n v3 S) 11 [(0, .ref 10), (1, .ref 4), (3, .int v3)] [] S := by
  intro n
  induction n with
  | zero => intro v3 S; exact ok_none
  | succ n ih =>
    intro v3 S
    rw [f_m0_reckon_L11]
    refine ok_iload_n 2 (kd_m0_reckon.at 7 rfl) rfl rfl ?_
    refine ok_aload_n 0 (kd_m0_reckon.at 8 rfl) rfl rfl ?_
    refine ok_getI (kd_m0_reckon.at 9 rfl) kf0_33 sh_10 rfl ?_
    refine ok_icmp_ge (tgt := 82) (kd_m0_reckon.at 10 rfl) (by decide) (fun h2 => ?_) (fun h2 => ?_)
    · refine ok_sub (lv' := []) [] rfl ?_
      exact hk82  S
    · refine ok_aload_n 0 (kd_m0_reckon.at 11 rfl) rfl rfl ?_
      refine ok_getR (kd_m0_reckon.at 12 rfl) kf0_9 sh_10 rfl (kr_10_1 _) ?_
      refine ok_iload_n 2 (kd_m0_reckon.at 13 rfl) rfl rfl ?_
      refine ok_iconst (v := 0) (kd_m0_reckon.at 14 rfl) (by decide) ?_
      refine ok_iast (kd_m0_reckon.at 15 rfl) sh_49 ?_
      refine ok_nS (fun S3 hS3 => ?_)
      refine ok_iconst (v := 0) (kd_m0_reckon.at 16 rfl) (by decide) ?_
      refine ok_istore (lv' := [(4, .int 0), (0, .ref 10), (1, .ref 4), (3, .int v3)]) (kd_m0_reckon.at 17 rfl) (by decide) rfl ?_
      refine ok_sub (lv' := [(0, .ref 10), (1, .ref 4), (3, .int v3), (4, .int 0)]) [1, 2, 3, 0] rfl ?_
      refine ok_m0_reckon_L29 v3 _ (fun S9 => ?_) kFU 0 S3
      refine ok_nx (fun x10 hx10 => ?_)
      refine ok_iinc (v := x10) (lv' := [(3, .int x10), (0, .ref 10), (1, .ref 4)]) 2 (kd_m0_reckon.at 48 rfl) rfl hx10.symm (by decide) rfl ?_
      refine ok_goto (tgt := 11) (kd_m0_reckon.at 49 rfl) (by decide) ?_
      refine ok_sub (lv' := [(0, .ref 10), (1, .ref 4), (3, .int x10)]) [1, 2, 0] rfl ?_
      exact ih x10 S9
def f_m0_reckon (a2 : Int32) (S : kSt) : Option kSt :=
  knx (kuI S 10 0 (kmin a2 5)) fun S1 =>
  f_m0_reckon_L11 
    (fun  (S11 : kSt) =>
      some S11
    )
    kFU 0 S1
theorem ok_m0_reckon {l : Launch} {G : kG} {E : kE} (a2 : Int32)  (S : kSt) : kFn l G E E kjV m0_reckon 1 [.ref 10, .ref 4, .int a2] S (f_m0_reckon a2 S) := by
  unfold f_m0_reckon
  refine kFn_of (by decide +kernel) (fun hG => Nat.le_of_ble_eq_true rfl) ?_
  show kOk _ _ _ _ _ _ _ _ [(0, .ref 10), (1, .ref 4), (2, .int a2)] _ _
  refine ok_aload_n 0 (kd_m0_reckon.at 0 rfl) rfl rfl ?_
  refine ok_iload_n 2 (kd_m0_reckon.at 1 rfl) rfl rfl ?_
  refine ok_iconst (v := 5) (kd_m0_reckon.at 2 rfl) (by decide) ?_
  refine ok_mmin (kd_m0_reckon.at 3 rfl) kc0_27 (kfit_of (by decide)) (Nat.le_of_ble_eq_true rfl) ?_
  refine ok_putI (kd_m0_reckon.at 4 rfl) kf0_33 sh_10 rfl rfl ?_
  refine ok_nS (fun S1 hS1 => ?_)
  refine ok_iconst (v := 0) (kd_m0_reckon.at 5 rfl) (by decide) ?_
  refine ok_istore_n (lv' := [(3, .int 0), (0, .ref 10), (1, .ref 4), (2, .int a2)]) (kd_m0_reckon.at 6 rfl) rfl (by decide) rfl ?_
  refine ok_sub (lv' := [(0, .ref 10), (1, .ref 4), (3, .int 0)]) [1, 2, 0] rfl ?_
  refine ok_m0_reckon_L11 _ (fun S11 => ?_) kFU 0 S1
  exact ok_return (kd_m0_reckon.at 50 rfl) rfl
def f_m0_owedInAll_L4   (k31 : Int32 → kSt → Option (Int32 × kSt))  : Nat → Int32 → Int32 → kSt → Option (Int32 × kSt)
  | 0, _, _, _ => none
  | n + 1, v1, v2, S =>
    if (S.1 10 0) ≤ v2 then
      k31 v1 S
    else
      kgi v2 5 (
        knx (v1 + (kmax 0 (S.1 49 v2.toNatClampNeg))) fun x2 =>
        knx (v2 + 1) fun x3 =>
        f_m0_owedInAll_L4 k31 n x2 x3 S
      )
theorem ok_m0_owedInAll_L4 {l : Launch} {G : kG} {E : kE}     (k31 : Int32 → kSt → Option (Int32 × kSt)) (hk31 : ∀ (v1 : Int32) (S : kSt), kOk l G E (kZ G E kjI) m0_owedInAll (kdp (1)) (k31 v1 S) 31 [(1, .int v1)] [] S) : ∀ (n : Nat) (v1 : Int32) (v2 : Int32) (S : kSt), kOk l G E (kZ G E kjI) m0_owedInAll (kdp (1)) (f_m0_owedInAll_L4 k31 n v1 v2 S) 4 [(0, .ref 10), (1, .int v1), (2, .int v2)] [] S := by
  intro n
  induction n with
  | zero => intro v1 v2 S; exact ok_none
  | succ n ih =>
    intro v1 v2 S
    rw [f_m0_owedInAll_L4]
    refine ok_iload_n 2 (kd_m0_owedInAll.at 4 rfl) rfl rfl ?_
    refine ok_aload_n 0 (kd_m0_owedInAll.at 5 rfl) rfl rfl ?_
    refine ok_getI (kd_m0_owedInAll.at 6 rfl) kf0_33 sh_10 rfl ?_
    refine ok_icmp_ge (tgt := 31) (kd_m0_owedInAll.at 7 rfl) (by decide) (fun h1 => ?_) (fun h1 => ?_)
    · refine ok_sub (lv' := [(1, .int v1)]) [1] rfl ?_
      exact hk31 v1 S
    · refine ok_iload_n 1 (kd_m0_owedInAll.at 8 rfl) rfl rfl ?_
      refine ok_iconst (v := 0) (kd_m0_owedInAll.at 9 rfl) (by decide) ?_
      refine ok_aload_n 0 (kd_m0_owedInAll.at 10 rfl) rfl rfl ?_
      refine ok_getR (kd_m0_owedInAll.at 11 rfl) kf0_9 sh_10 rfl (kr_10_1 _) ?_
      refine ok_iload_n 2 (kd_m0_owedInAll.at 12 rfl) rfl rfl ?_
      refine ok_iald (kd_m0_owedInAll.at 13 rfl) sh_49 ?_
      refine ok_mmax (kd_m0_owedInAll.at 14 rfl) kc0_42 (kfit_of (by decide)) (Nat.le_of_ble_eq_true rfl) ?_
      refine ok_iadd (kd_m0_owedInAll.at 15 rfl) ?_
      refine ok_topi (fun x2 hx2 => ?_)
      refine ok_istore_n (lv' := [(1, .int x2), (0, .ref 10), (2, .int v2)]) (kd_m0_owedInAll.at 16 rfl) rfl (by decide) rfl ?_
      refine ok_nx (fun x3 hx3 => ?_)
      refine ok_iinc (v := x3) (lv' := [(2, .int x3), (1, .int x2), (0, .ref 10)]) 2 (kd_m0_owedInAll.at 17 rfl) rfl hx3.symm (by decide) rfl ?_
      refine ok_goto (tgt := 4) (kd_m0_owedInAll.at 18 rfl) (by decide) ?_
      refine ok_sub (lv' := [(0, .ref 10), (1, .int x2), (2, .int x3)]) [2, 1, 0] rfl ?_
      exact ih x2 x3 S
def f_m0_owedInAll  (S : kSt) : Option (Int32 × kSt) :=
  f_m0_owedInAll_L4 
    (fun (x4 : Int32) (S5 : kSt) =>
      some (x4, S5)
    )
    kFU 0 0 S
theorem ok_m0_owedInAll {l : Launch} {G : kG} {E : kE}   (S : kSt) : kFn l G E E kjI m0_owedInAll 1 [.ref 10] S (f_m0_owedInAll  S) := by
  unfold f_m0_owedInAll
  refine kFn_of (by decide +kernel) (fun hG => Nat.le_of_ble_eq_true rfl) ?_
  show kOk _ _ _ _ _ _ _ _ [(0, .ref 10)] _ _
  refine ok_iconst (v := 0) (kd_m0_owedInAll.at 0 rfl) (by decide) ?_
  refine ok_istore_n (lv' := [(1, .int 0), (0, .ref 10)]) (kd_m0_owedInAll.at 1 rfl) rfl (by decide) rfl ?_
  refine ok_iconst (v := 0) (kd_m0_owedInAll.at 2 rfl) (by decide) ?_
  refine ok_istore_n (lv' := [(2, .int 0), (1, .int 0), (0, .ref 10)]) (kd_m0_owedInAll.at 3 rfl) rfl (by decide) rfl ?_
  refine ok_sub (lv' := [(0, .ref 10), (1, .int 0), (2, .int 0)]) [2, 1, 0] rfl ?_
  refine ok_m0_owedInAll_L4 _ (fun x4 S5 => ?_) kFU 0 0 S
  refine ok_iload_n 0 (kd_m0_owedInAll.at 19 rfl) rfl rfl ?_
  exact ok_ireturn (kd_m0_owedInAll.at 20 rfl) rfl
def f_m0_fewestPayments_L35   (k100 : Int32 → kSt → Option (Int32 × kSt)) (c1 : Int32) (c2 : Int32) : Nat → Int32 → Int32 → kSt → Option (Int32 × kSt)
  | 0, _, _, _ => none
  | n + 1, v3, v4, S =>
    if (S.1 10 0) ≤ v4 then
      k100 v3 S
    else
      knx (fun (x6 : Int32) (S7 : kSt) =>
        knx (v4 + 1) fun x8 =>
        f_m0_fewestPayments_L35 k100 c1 c2 n x6 x8 S7
        ) fun j94 =>
      if ((c2 >>> (v4 &&& 31)) &&& 1) = 0 then
        j94 v3 S
      else
        knx (c2 ^^^ (1 <<< (v4 &&& 31))) fun x10 =>
        kgi x10 32 (
          kgi v4 5 (
            kgi c2 32 (
              knx (kuI S 50 c2.toNatClampNeg ((S.1 50 x10.toNatClampNeg) + (S.1 49 v4.toNatClampNeg))) fun S11 =>
              kgi x10 32 (
                knx (kmax v3 (S11.1 51 x10.toNatClampNeg)) fun x12 =>
                j94 x12 S11
              )
            )
          )
        )
theorem ok_m0_fewestPayments_L35 {l : Launch} {G : kG} {E : kE}    (c1 : Int32) (c2 : Int32) (k100 : Int32 → kSt → Option (Int32 × kSt)) (hk100 : ∀ (v3 : Int32) (S : kSt), kOk l G E (kZ G E kjI) m0_fewestPayments (kdp (1)) (k100 v3 S) 100 [(0, .ref 10), (1, .int c1), (2, .int c2), (3, .int v3)] [] S) : ∀ (n : Nat) (v3 : Int32) (v4 : Int32) (S : kSt), kOk l G E (kZ G E kjI) m0_fewestPayments (kdp (1)) (f_m0_fewestPayments_L35 k100 c1 c2 n v3 v4 S) 35 [(0, .ref 10), (1, .int c1), (2, .int c2), (3, .int v3), (4, .int v4)] [] S := by
  intro n
  induction n with
  | zero => intro v3 v4 S; exact ok_none
  | succ n ih =>
    intro v3 v4 S
    rw [f_m0_fewestPayments_L35]
    refine ok_iload 4 (kd_m0_fewestPayments.at 26 rfl) rfl ?_
    refine ok_aload_n 0 (kd_m0_fewestPayments.at 27 rfl) rfl rfl ?_
    refine ok_getI (kd_m0_fewestPayments.at 28 rfl) kf0_33 sh_10 rfl ?_
    refine ok_icmp_ge (tgt := 100) (kd_m0_fewestPayments.at 29 rfl) (by decide) (fun h5 => ?_) (fun h5 => ?_)
    · refine ok_sub (lv' := [(0, .ref 10), (1, .int c1), (2, .int c2), (3, .int v3)]) [0, 1, 2, 3] rfl ?_
      exact hk100 v3 S
    · refine ok_iload_n 2 (kd_m0_fewestPayments.at 30 rfl) rfl rfl ?_
      refine ok_iload 4 (kd_m0_fewestPayments.at 31 rfl) rfl ?_
      refine ok_ishr (kd_m0_fewestPayments.at 32 rfl) ?_
      refine ok_iconst (v := 1) (kd_m0_fewestPayments.at 33 rfl) (by decide) ?_
      refine ok_iand (kd_m0_fewestPayments.at 34 rfl) ?_
      refine ok_nx (fun j94 hj94 => ?_)
      have K94 : ∀ (x6 : Int32) (S7 : kSt), kOk l G E (kZ G E kjI) m0_fewestPayments (kdp (1)) (j94 x6 S7) 94 [(0, .ref 10), (1, .int c1), (2, .int c2), (3, .int x6), (4, .int v4)] [] S7 := by
        subst hj94
        intro x6 S7
        refine ok_nx (fun x8 hx8 => ?_)
        refine ok_iinc (v := x8) (lv' := [(4, .int x8), (0, .ref 10), (1, .int c1), (2, .int c2), (3, .int x6)]) 4 (kd_m0_fewestPayments.at 62 rfl) rfl hx8.symm (by decide) rfl ?_
        refine ok_goto (tgt := 35) (kd_m0_fewestPayments.at 63 rfl) (by decide) ?_
        refine ok_sub (lv' := [(0, .ref 10), (1, .int c1), (2, .int c2), (3, .int x6), (4, .int x8)]) [1, 2, 3, 4, 0] rfl ?_
        exact ih x6 x8 S7
      clear hj94
      refine ok_if_eq (tgt := 94) (kd_m0_fewestPayments.at 35 rfl) (by decide) (fun h9 => ?_) (fun h9 => ?_)
      · exact K94 v3 S
      · refine ok_iload_n 2 (kd_m0_fewestPayments.at 36 rfl) rfl rfl ?_
        refine ok_iconst (v := 1) (kd_m0_fewestPayments.at 37 rfl) (by decide) ?_
        refine ok_iload 4 (kd_m0_fewestPayments.at 38 rfl) rfl ?_
        refine ok_ishl (kd_m0_fewestPayments.at 39 rfl) ?_
        refine ok_ixor (kd_m0_fewestPayments.at 40 rfl) ?_
        refine ok_topi (fun x10 hx10 => ?_)
        refine ok_istore (lv' := [(5, .int x10), (0, .ref 10), (1, .int c1), (2, .int c2), (3, .int v3), (4, .int v4)]) (kd_m0_fewestPayments.at 41 rfl) (by decide) rfl ?_
        refine ok_aload_n 1 (kd_m0_fewestPayments.at 42 rfl) rfl rfl ?_
        refine ok_getR (kd_m0_fewestPayments.at 43 rfl) kf0_15 sh_10 rfl (kr_10_2 _) ?_
        refine ok_iload_n 3 (kd_m0_fewestPayments.at 44 rfl) rfl rfl ?_
        refine ok_aload_n 1 (kd_m0_fewestPayments.at 45 rfl) rfl rfl ?_
        refine ok_getR (kd_m0_fewestPayments.at 46 rfl) kf0_15 sh_10 rfl (kr_10_2 _) ?_
        refine ok_iload 0 (kd_m0_fewestPayments.at 47 rfl) rfl ?_
        refine ok_iald (kd_m0_fewestPayments.at 48 rfl) sh_50 ?_
        refine ok_aload_n 1 (kd_m0_fewestPayments.at 49 rfl) rfl rfl ?_
        refine ok_getR (kd_m0_fewestPayments.at 50 rfl) kf0_9 sh_10 rfl (kr_10_1 _) ?_
        refine ok_iload 5 (kd_m0_fewestPayments.at 51 rfl) rfl ?_
        refine ok_iald (kd_m0_fewestPayments.at 52 rfl) sh_49 ?_
        refine ok_iadd (kd_m0_fewestPayments.at 53 rfl) ?_
        refine ok_iast (kd_m0_fewestPayments.at 54 rfl) sh_50 ?_
        refine ok_nS (fun S11 hS11 => ?_)
        refine ok_iload_n 4 (kd_m0_fewestPayments.at 55 rfl) rfl rfl ?_
        refine ok_aload_n 1 (kd_m0_fewestPayments.at 56 rfl) rfl rfl ?_
        refine ok_getR (kd_m0_fewestPayments.at 57 rfl) kf0_18 sh_10 rfl (kr_10_3 _) ?_
        refine ok_iload 0 (kd_m0_fewestPayments.at 58 rfl) rfl ?_
        refine ok_iald (kd_m0_fewestPayments.at 59 rfl) sh_51 ?_
        refine ok_mmax (kd_m0_fewestPayments.at 60 rfl) kc0_42 (kfit_of (by decide)) (Nat.le_of_ble_eq_true rfl) ?_
        refine ok_topi (fun x12 hx12 => ?_)
        refine ok_istore_n (lv' := [(3, .int x12), (5, .int x10), (0, .ref 10), (1, .int c1), (2, .int c2), (4, .int v4)]) (kd_m0_fewestPayments.at 61 rfl) rfl (by decide) rfl ?_
        refine ok_sub (lv' := [(0, .ref 10), (1, .int c1), (2, .int c2), (3, .int x12), (4, .int v4)]) [2, 3, 4, 0, 5] rfl ?_
        exact K94 x12 S11
def f_m0_fewestPayments_L25   (k128 : kSt → Option (Int32 × kSt)) (c1 : Int32) : Nat → Int32 → kSt → Option (Int32 × kSt)
  | 0, _, _ => none
  | n + 1, v2, S =>
    if c1 < v2 then
      k128  S
    else
      f_m0_fewestPayments_L35 
        (fun (x13 : Int32) (S14 : kSt) =>
          kgi v2 32 (
            knx (if (S14.1 50 v2.toNatClampNeg) = 0 then x13 + 1 else x13) fun x16 =>
            kgi v2 32 (
              knx (kuI S14 51 v2.toNatClampNeg x16) fun S17 =>
              knx (v2 + 1) fun x18 =>
              f_m0_fewestPayments_L25 k128 c1 n x18 S17
            )
          )
        )
        c1 v2 kFU 0 0 S
theorem ok_m0_fewestPayments_L25 {l : Launch} {G : kG} {E : kE}    (c1 : Int32) (k128 : kSt → Option (Int32 × kSt)) (hk128 : ∀  (S : kSt), kOk l G E (kZ G E kjI) m0_fewestPayments (kdp (1)) (k128  S) 128 [(0, .ref 10), (1, .int c1)] [] S) : ∀ (n : Nat) (v2 : Int32) (S : kSt), kOk l G E (kZ G E kjI) m0_fewestPayments (kdp (1)) (f_m0_fewestPayments_L25 k128 c1 n v2 S) 25 [(0, .ref 10), (1, .int c1), (2, .int v2)] [] S := by
  intro n
  induction n with
  | zero => intro v2 S; exact ok_none
  | succ n ih =>
    intro v2 S
    rw [f_m0_fewestPayments_L25]
    refine ok_iload_n 2 (kd_m0_fewestPayments.at 19 rfl) rfl rfl ?_
    refine ok_iload_n 1 (kd_m0_fewestPayments.at 20 rfl) rfl rfl ?_
    refine ok_icmp_gt (tgt := 128) (kd_m0_fewestPayments.at 21 rfl) (by decide) (fun h4 => ?_) (fun h4 => ?_)
    · refine ok_sub (lv' := [(0, .ref 10), (1, .int c1)]) [0, 1] rfl ?_
      exact hk128  S
    · refine ok_iconst (v := 0) (kd_m0_fewestPayments.at 22 rfl) (by decide) ?_
      refine ok_istore_n (lv' := [(3, .int 0), (0, .ref 10), (1, .int c1), (2, .int v2)]) (kd_m0_fewestPayments.at 23 rfl) rfl (by decide) rfl ?_
      refine ok_iconst (v := 0) (kd_m0_fewestPayments.at 24 rfl) (by decide) ?_
      refine ok_istore (lv' := [(4, .int 0), (3, .int 0), (0, .ref 10), (1, .int c1), (2, .int v2)]) (kd_m0_fewestPayments.at 25 rfl) (by decide) rfl ?_
      refine ok_sub (lv' := [(0, .ref 10), (1, .int c1), (2, .int v2), (3, .int 0), (4, .int 0)]) [2, 3, 4, 1, 0] rfl ?_
      refine ok_m0_fewestPayments_L35 c1 v2 _ (fun x13 S14 => ?_) kFU 0 0 S
      refine ok_aload_n 0 (kd_m0_fewestPayments.at 64 rfl) rfl rfl ?_
      refine ok_getR (kd_m0_fewestPayments.at 65 rfl) kf0_18 sh_10 rfl (kr_10_3 _) ?_
      refine ok_iload_n 2 (kd_m0_fewestPayments.at 66 rfl) rfl rfl ?_
      refine ok_aload_n 0 (kd_m0_fewestPayments.at 67 rfl) rfl rfl ?_
      refine ok_getR (kd_m0_fewestPayments.at 68 rfl) kf0_15 sh_10 rfl (kr_10_2 _) ?_
      refine ok_iload_n 2 (kd_m0_fewestPayments.at 69 rfl) rfl rfl ?_
      refine ok_iald (kd_m0_fewestPayments.at 70 rfl) sh_50 ?_
      refine ok_fold (α := Int32) (pcJ := 121) (lvJ := [(0, .ref 10), (1, .int c1), (2, .int v2), (3, .int x13)]) (stJ := [.int v2, .ref 51]) (mk := fun v => .int v) (fun K => ?_) (fun x16 => ?_)
      · refine ok_ap ?_
        refine ok_if_ne (tgt := 120) (kd_m0_fewestPayments.at 71 rfl) (by decide) (fun h15 => ?_) (fun h15 => ?_)
        · refine ok_iload_n 3 (kd_m0_fewestPayments.at 76 rfl) rfl rfl ?_
          exact K x13
        · refine ok_iload_n 3 (kd_m0_fewestPayments.at 72 rfl) rfl rfl ?_
          refine ok_iconst (v := 1) (kd_m0_fewestPayments.at 73 rfl) (by decide) ?_
          refine ok_iadd (kd_m0_fewestPayments.at 74 rfl) ?_
          refine ok_goto (tgt := 121) (kd_m0_fewestPayments.at 75 rfl) (by decide) ?_
          exact K (x13 + 1)
      · refine ok_iast (kd_m0_fewestPayments.at 77 rfl) sh_51 ?_
        refine ok_nS (fun S17 hS17 => ?_)
        refine ok_nx (fun x18 hx18 => ?_)
        refine ok_iinc (v := x18) (lv' := [(2, .int x18), (0, .ref 10), (1, .int c1), (3, .int x13)]) 2 (kd_m0_fewestPayments.at 78 rfl) rfl hx18.symm (by decide) rfl ?_
        refine ok_goto (tgt := 25) (kd_m0_fewestPayments.at 79 rfl) (by decide) ?_
        refine ok_sub (lv' := [(0, .ref 10), (1, .int c1), (2, .int x18)]) [1, 2, 0] rfl ?_
        exact ih x18 S17
def f_m0_fewestPayments  (S : kSt) : Option (Int32 × kSt) :=
  knx ((1 <<< ((S.1 10 0) &&& 31)) - 1) fun x1 =>
  knx (kuI S 50 0 0) fun S2 =>
  knx (kuI S2 51 0 0) fun S3 =>
  f_m0_fewestPayments_L25 
    (fun  (S19 : kSt) =>
      kgi x1 32 (
        some ((S19.1 10 0) - (S19.1 51 x1.toNatClampNeg), S19)
      )
    )
    x1 kFU 1 S3
theorem ok_m0_fewestPayments {l : Launch} {G : kG} {E : kE}   (S : kSt) : kFn l G E E kjI m0_fewestPayments 1 [.ref 10] S (f_m0_fewestPayments  S) := by
  unfold f_m0_fewestPayments
  refine kFn_of (by decide +kernel) (fun hG => Nat.le_of_ble_eq_true rfl) ?_
  show kOk _ _ _ _ _ _ _ _ [(0, .ref 10)] _ _
  refine ok_iconst (v := 1) (kd_m0_fewestPayments.at 0 rfl) (by decide) ?_
  refine ok_aload_n 0 (kd_m0_fewestPayments.at 1 rfl) rfl rfl ?_
  refine ok_getI (kd_m0_fewestPayments.at 2 rfl) kf0_33 sh_10 rfl ?_
  refine ok_ishl (kd_m0_fewestPayments.at 3 rfl) ?_
  refine ok_iconst (v := 1) (kd_m0_fewestPayments.at 4 rfl) (by decide) ?_
  refine ok_isub (kd_m0_fewestPayments.at 5 rfl) ?_
  refine ok_topi (fun x1 hx1 => ?_)
  refine ok_istore_n (lv' := [(1, .int x1), (0, .ref 10)]) (kd_m0_fewestPayments.at 6 rfl) rfl (by decide) rfl ?_
  refine ok_aload_n 1 (kd_m0_fewestPayments.at 7 rfl) rfl rfl ?_
  refine ok_getR (kd_m0_fewestPayments.at 8 rfl) kf0_15 sh_10 rfl (kr_10_2 _) ?_
  refine ok_iconst (v := 0) (kd_m0_fewestPayments.at 9 rfl) (by decide) ?_
  refine ok_iconst (v := 0) (kd_m0_fewestPayments.at 10 rfl) (by decide) ?_
  refine ok_iastK (j := 0) (kd_m0_fewestPayments.at 11 rfl) sh_50 (by decide) (by decide) ?_
  refine ok_nS (fun S2 hS2 => ?_)
  refine ok_aload_n 1 (kd_m0_fewestPayments.at 12 rfl) rfl rfl ?_
  refine ok_getR (kd_m0_fewestPayments.at 13 rfl) kf0_18 sh_10 rfl (kr_10_3 _) ?_
  refine ok_iconst (v := 0) (kd_m0_fewestPayments.at 14 rfl) (by decide) ?_
  refine ok_iconst (v := 0) (kd_m0_fewestPayments.at 15 rfl) (by decide) ?_
  refine ok_iastK (j := 0) (kd_m0_fewestPayments.at 16 rfl) sh_51 (by decide) (by decide) ?_
  refine ok_nS (fun S3 hS3 => ?_)
  refine ok_iconst (v := 1) (kd_m0_fewestPayments.at 17 rfl) (by decide) ?_
  refine ok_istore_n (lv' := [(2, .int 1), (1, .int x1), (0, .ref 10)]) (kd_m0_fewestPayments.at 18 rfl) rfl (by decide) rfl ?_
  refine ok_sub (lv' := [(0, .ref 10), (1, .int x1), (2, .int 1)]) [2, 1, 0] rfl ?_
  refine ok_m0_fewestPayments_L25 x1 _ (fun S19 => ?_) kFU 1 S3
  refine ok_aload_n 0 (kd_m0_fewestPayments.at 80 rfl) rfl rfl ?_
  refine ok_getI (kd_m0_fewestPayments.at 81 rfl) kf0_33 sh_10 rfl ?_
  refine ok_aload_n 0 (kd_m0_fewestPayments.at 82 rfl) rfl rfl ?_
  refine ok_getR (kd_m0_fewestPayments.at 83 rfl) kf0_18 sh_10 rfl (kr_10_3 _) ?_
  refine ok_iload_n 1 (kd_m0_fewestPayments.at 84 rfl) rfl rfl ?_
  refine ok_iald (kd_m0_fewestPayments.at 85 rfl) sh_51 ?_
  refine ok_isub (kd_m0_fewestPayments.at 86 rfl) ?_
  exact ok_ireturn (kd_m0_fewestPayments.at 87 rfl) rfl
def f_mJ_fill_J7_L5 (w0 n0 : Nat)  (k20 : kSt → Option kSt) (c1 : Int32) (c3 : Int32) : Nat → Int32 → kSt → Option kSt
  | 0, _, _ => none
  | n + 1, v2, S =>
    if c3 ≤ v2 then
      k20  S
    else
      kgi v2 n0 (
        knx (kuI S w0 v2.toNatClampNeg c1) fun S3 =>
        knx (v2 + 1) fun x4 =>
        f_mJ_fill_J7_L5 w0 n0 k20 c1 c3 n x4 S3
      )
theorem ok_mJ_fill_J7_L5 {l : Launch} {G : kG} {E : kE} (w0 n0 : Nat) (hw0 : kSH[w0]? = some (1, 0, n0))  (c1 : Int32) (c3 : Int32) (k20 : kSt → Option kSt) (hk20 : ∀  (S : kSt), kOk l G E (kZ G E kjV) mJ_fill_J7 (kdp (1)) (k20  S) 20 [] [] S) : ∀ (n : Nat) (v2 : Int32) (S : kSt), kOk l G E (kZ G E kjV) mJ_fill_J7 (kdp (1)) (f_mJ_fill_J7_L5 w0 n0 k20 c1 c3 n v2 S) 5 [(0, .ref w0), (1, .int c1), (2, .int v2), (3, .int c3)] [] S := by
  intro n
  induction n with
  | zero => intro v2 S; exact ok_none
  | succ n ih =>
    intro v2 S
    rw [f_mJ_fill_J7_L5]
    refine ok_iload_n 2 (kd_mJ_fill_J7.at 5 rfl) rfl rfl ?_
    refine ok_iload_n 3 (kd_mJ_fill_J7.at 6 rfl) rfl rfl ?_
    refine ok_icmp_ge (tgt := 20) (kd_mJ_fill_J7.at 7 rfl) (by decide) (fun h2 => ?_) (fun h2 => ?_)
    · refine ok_sub (lv' := []) [] rfl ?_
      exact hk20  S
    · refine ok_aload_n 0 (kd_mJ_fill_J7.at 8 rfl) rfl rfl ?_
      refine ok_iload_n 2 (kd_mJ_fill_J7.at 9 rfl) rfl rfl ?_
      refine ok_iload_n 1 (kd_mJ_fill_J7.at 10 rfl) rfl rfl ?_
      refine ok_iast (kd_mJ_fill_J7.at 11 rfl) hw0 ?_
      refine ok_nS (fun S3 hS3 => ?_)
      refine ok_nx (fun x4 hx4 => ?_)
      refine ok_iinc (v := x4) (lv' := [(2, .int x4), (0, .ref w0), (1, .int c1), (3, .int c3)]) 2 (kd_mJ_fill_J7.at 12 rfl) rfl hx4.symm (by decide) rfl ?_
      refine ok_goto (tgt := 5) (kd_mJ_fill_J7.at 13 rfl) (by decide) ?_
      refine ok_sub (lv' := [(0, .ref w0), (1, .int c1), (2, .int x4), (3, .int c3)]) [1, 2, 0, 3] rfl ?_
      exact ih x4 S3
def f_mJ_fill_J7 (w0 n0 : Nat) (a1 : Int32) (S : kSt) : Option kSt :=
  knx (Int32.ofNat n0) fun x1 =>
  f_mJ_fill_J7_L5 w0 n0
    (fun  (S5 : kSt) =>
      some S5
    )
    a1 x1 kFU 0 S
theorem ok_mJ_fill_J7 {l : Launch} {G : kG} {E : kE} (w0 n0 : Nat) (a1 : Int32) (hw0 : kSH[w0]? = some (1, 0, n0)) (S : kSt) : kFn l G E E kjV mJ_fill_J7 1 [.ref w0, .int a1] S (f_mJ_fill_J7 w0 n0 a1 S) := by
  unfold f_mJ_fill_J7
  refine kFn_of (by decide +kernel) (fun hG => Nat.le_of_ble_eq_true rfl) ?_
  show kOk _ _ _ _ _ _ _ _ [(0, .ref w0), (1, .int a1)] _ _
  refine ok_iconst (v := 0) (kd_mJ_fill_J7.at 0 rfl) (by decide) ?_
  refine ok_istore_n (lv' := [(2, .int 0), (0, .ref w0), (1, .int a1)]) (kd_mJ_fill_J7.at 1 rfl) rfl (by decide) rfl ?_
  refine ok_aload_n 1 (kd_mJ_fill_J7.at 2 rfl) rfl rfl ?_
  refine ok_alen (kd_mJ_fill_J7.at 3 rfl) hw0 ?_
  refine ok_topi (fun x1 hx1 => ?_)
  refine ok_istore_n (lv' := [(3, .int x1), (2, .int 0), (0, .ref w0), (1, .int a1)]) (kd_mJ_fill_J7.at 4 rfl) rfl (by decide) rfl ?_
  refine ok_sub (lv' := [(0, .ref w0), (1, .int a1), (2, .int 0), (3, .int x1)]) [2, 3, 1, 0] rfl ?_
  refine ok_mJ_fill_J7_L5 w0 n0 hw0 a1 x1 _ (fun S5 => ?_) kFU 0 S
  exact ok_return (kd_mJ_fill_J7.at 14 rfl) rfl
def f_m0_fewestDebtsBehind_L6   (k47 : Int32 → kSt → Option (Int32 × kSt)) (c2 : Int32) : Nat → Int32 → Int32 → kSt → Option (Int32 × kSt)
  | 0, _, _, _ => none
  | n + 1, v3, v4, S =>
    if (S.1 10 0) ≤ v4 then
      k47 v3 S
    else
      knx ((c2 * 5) + v4) fun x2 =>
      kgi x2 25 (
        knx (fun (x3 : Int32) (S4 : kSt) =>
          knx (v4 + 1) fun x5 =>
          f_m0_fewestDebtsBehind_L6 k47 c2 n x3 x5 S4
          ) fun j41 =>
        if (S.1 42 x2.toNatClampNeg) ≤ 0 then
          j41 v3 S
        else
          kgi v4 5 (
            knx (kmin v3 (S.1 52 v4.toNatClampNeg)) fun x7 =>
            j41 x7 S
          )
      )
theorem ok_m0_fewestDebtsBehind_L6 {l : Launch} {G : kG} {E : kE}    (c2 : Int32) (k47 : Int32 → kSt → Option (Int32 × kSt)) (hk47 : ∀ (v3 : Int32) (S : kSt), kOk l G E (kZ G E kjI) m0_fewestDebtsBehind (kdp (1)) (k47 v3 S) 47 [(3, .int v3)] [] S) : ∀ (n : Nat) (v3 : Int32) (v4 : Int32) (S : kSt), kOk l G E (kZ G E kjI) m0_fewestDebtsBehind (kdp (1)) (f_m0_fewestDebtsBehind_L6 k47 c2 n v3 v4 S) 6 [(0, .ref 10), (1, .ref 4), (2, .int c2), (3, .int v3), (4, .int v4)] [] S := by
  intro n
  induction n with
  | zero => intro v3 v4 S; exact ok_none
  | succ n ih =>
    intro v3 v4 S
    rw [f_m0_fewestDebtsBehind_L6]
    refine ok_iload 4 (kd_m0_fewestDebtsBehind.at 4 rfl) rfl ?_
    refine ok_aload_n 0 (kd_m0_fewestDebtsBehind.at 5 rfl) rfl rfl ?_
    refine ok_getI (kd_m0_fewestDebtsBehind.at 6 rfl) kf0_33 sh_10 rfl ?_
    refine ok_icmp_ge (tgt := 47) (kd_m0_fewestDebtsBehind.at 7 rfl) (by decide) (fun h1 => ?_) (fun h1 => ?_)
    · refine ok_sub (lv' := [(3, .int v3)]) [3] rfl ?_
      exact hk47 v3 S
    · refine ok_aload_n 1 (kd_m0_fewestDebtsBehind.at 8 rfl) rfl rfl ?_
      refine ok_getR (kd_m0_fewestDebtsBehind.at 9 rfl) kf0_37 sh_4 rfl (kr_4_3 _) ?_
      refine ok_iload_n 2 (kd_m0_fewestDebtsBehind.at 10 rfl) rfl rfl ?_
      refine ok_iconst (v := 5) (kd_m0_fewestDebtsBehind.at 11 rfl) (by decide) ?_
      refine ok_imul (kd_m0_fewestDebtsBehind.at 12 rfl) ?_
      refine ok_iload 4 (kd_m0_fewestDebtsBehind.at 13 rfl) rfl ?_
      refine ok_iadd (kd_m0_fewestDebtsBehind.at 14 rfl) ?_
      refine ok_topi (fun x2 hx2 => ?_)
      refine ok_iald (kd_m0_fewestDebtsBehind.at 15 rfl) sh_42 ?_
      refine ok_nx (fun j41 hj41 => ?_)
      have K41 : ∀ (x3 : Int32) (S4 : kSt), kOk l G E (kZ G E kjI) m0_fewestDebtsBehind (kdp (1)) (j41 x3 S4) 41 [(0, .ref 10), (1, .ref 4), (2, .int c2), (3, .int x3), (4, .int v4)] [] S4 := by
        subst hj41
        intro x3 S4
        refine ok_nx (fun x5 hx5 => ?_)
        refine ok_iinc (v := x5) (lv' := [(4, .int x5), (0, .ref 10), (1, .ref 4), (2, .int c2), (3, .int x3)]) 4 (kd_m0_fewestDebtsBehind.at 24 rfl) rfl hx5.symm (by decide) rfl ?_
        refine ok_goto (tgt := 6) (kd_m0_fewestDebtsBehind.at 25 rfl) (by decide) ?_
        refine ok_sub (lv' := [(0, .ref 10), (1, .ref 4), (2, .int c2), (3, .int x3), (4, .int x5)]) [1, 2, 3, 4, 0] rfl ?_
        exact ih x3 x5 S4
      clear hj41
      refine ok_if_le (tgt := 41) (kd_m0_fewestDebtsBehind.at 16 rfl) (by decide) (fun h6 => ?_) (fun h6 => ?_)
      · exact K41 v3 S
      · refine ok_iload_n 3 (kd_m0_fewestDebtsBehind.at 17 rfl) rfl rfl ?_
        refine ok_aload_n 0 (kd_m0_fewestDebtsBehind.at 18 rfl) rfl rfl ?_
        refine ok_getR (kd_m0_fewestDebtsBehind.at 19 rfl) kf0_21 sh_10 rfl (kr_10_4 _) ?_
        refine ok_iload 4 (kd_m0_fewestDebtsBehind.at 20 rfl) rfl ?_
        refine ok_iald (kd_m0_fewestDebtsBehind.at 21 rfl) sh_52 ?_
        refine ok_mmin (kd_m0_fewestDebtsBehind.at 22 rfl) kc0_27 (kfit_of (by decide)) (Nat.le_of_ble_eq_true rfl) ?_
        refine ok_topi (fun x7 hx7 => ?_)
        refine ok_istore_n (lv' := [(3, .int x7), (0, .ref 10), (1, .ref 4), (2, .int c2), (4, .int v4)]) (kd_m0_fewestDebtsBehind.at 23 rfl) rfl (by decide) rfl ?_
        refine ok_sub (lv' := [(0, .ref 10), (1, .ref 4), (2, .int c2), (3, .int x7), (4, .int v4)]) [1, 2, 3, 0, 4] rfl ?_
        exact K41 x7 S
def f_m0_fewestDebtsBehind (a2 : Int32) (S : kSt) : Option (Int32 × kSt) :=
  f_m0_fewestDebtsBehind_L6 
    (fun (x8 : Int32) (S9 : kSt) =>
      some (x8, S9)
    )
    a2 kFU 6 0 S
theorem ok_m0_fewestDebtsBehind {l : Launch} {G : kG} {E : kE} (a2 : Int32)  (S : kSt) : kFn l G E E kjI m0_fewestDebtsBehind 1 [.ref 10, .ref 4, .int a2] S (f_m0_fewestDebtsBehind a2 S) := by
  unfold f_m0_fewestDebtsBehind
  refine kFn_of (by decide +kernel) (fun hG => Nat.le_of_ble_eq_true rfl) ?_
  show kOk _ _ _ _ _ _ _ _ [(0, .ref 10), (1, .ref 4), (2, .int a2)] _ _
  refine ok_bipush (v := 6) (kd_m0_fewestDebtsBehind.at 0 rfl) (by decide) ?_
  refine ok_istore_n (lv' := [(3, .int 6), (0, .ref 10), (1, .ref 4), (2, .int a2)]) (kd_m0_fewestDebtsBehind.at 1 rfl) rfl (by decide) rfl ?_
  refine ok_iconst (v := 0) (kd_m0_fewestDebtsBehind.at 2 rfl) (by decide) ?_
  refine ok_istore (lv' := [(4, .int 0), (3, .int 6), (0, .ref 10), (1, .ref 4), (2, .int a2)]) (kd_m0_fewestDebtsBehind.at 3 rfl) (by decide) rfl ?_
  refine ok_sub (lv' := [(0, .ref 10), (1, .ref 4), (2, .int a2), (3, .int 6), (4, .int 0)]) [2, 3, 4, 1, 0] rfl ?_
  refine ok_m0_fewestDebtsBehind_L6 a2 _ (fun x8 S9 => ?_) kFU 6 0 S
  refine ok_iload_n 0 (kd_m0_fewestDebtsBehind.at 26 rfl) rfl rfl ?_
  exact ok_ireturn (kd_m0_fewestDebtsBehind.at 27 rfl) rfl
def f_m0_countDebtsHome_L29   (k76 : kSt → Option kSt) (c2 : Int32) (c3 : Int32) : Nat → Int32 → kSt → Option kSt
  | 0, _, _ => none
  | n + 1, v4, S =>
    if (S.1 10 0) ≤ v4 then
      k76  S
    else
      knx (fun  (S5 : kSt) =>
        knx (v4 + 1) fun x6 =>
        f_m0_countDebtsHome_L29 k76 c2 c3 n x6 S5
        ) fun j70 =>
      if v4 = c2 then
        j70  S
      else
        kgi v4 5 (
          (f_m0_fewestDebtsBehind v4 S).bind fun q8 =>
          kgi v4 5 (
            knx (kuI q8.2 52 v4.toNatClampNeg (kmin (S.1 52 v4.toNatClampNeg) (q8.1 + 1))) fun S9 =>
            j70  S9
          )
        )
theorem ok_m0_countDebtsHome_L29 {l : Launch} {G : kG} {E : kE}    (c2 : Int32) (c3 : Int32) (k76 : kSt → Option kSt) (hk76 : ∀  (S : kSt), kOk l G E (kZ G E kjV) m0_countDebtsHome (kdp (2)) (k76  S) 76 [(0, .ref 10), (1, .ref 4), (2, .int c2), (3, .int c3)] [] S) : ∀ (n : Nat) (v4 : Int32) (S : kSt), kOk l G E (kZ G E kjV) m0_countDebtsHome (kdp (2)) (f_m0_countDebtsHome_L29 k76 c2 c3 n v4 S) 29 [(0, .ref 10), (1, .ref 4), (2, .int c2), (3, .int c3), (4, .int v4)] [] S := by
  intro n
  induction n with
  | zero => intro v4 S; exact ok_none
  | succ n ih =>
    intro v4 S
    rw [f_m0_countDebtsHome_L29]
    refine ok_iload 4 (kd_m0_countDebtsHome.at 17 rfl) rfl ?_
    refine ok_aload_n 0 (kd_m0_countDebtsHome.at 18 rfl) rfl rfl ?_
    refine ok_getI (kd_m0_countDebtsHome.at 19 rfl) kf0_33 sh_10 rfl ?_
    refine ok_icmp_ge (tgt := 76) (kd_m0_countDebtsHome.at 20 rfl) (by decide) (fun h4 => ?_) (fun h4 => ?_)
    · refine ok_sub (lv' := [(0, .ref 10), (1, .ref 4), (2, .int c2), (3, .int c3)]) [0, 1, 2, 3] rfl ?_
      exact hk76  S
    · refine ok_iload 4 (kd_m0_countDebtsHome.at 21 rfl) rfl ?_
      refine ok_iload_n 2 (kd_m0_countDebtsHome.at 22 rfl) rfl rfl ?_
      refine ok_nx (fun j70 hj70 => ?_)
      have K70 : ∀  (S5 : kSt), kOk l G E (kZ G E kjV) m0_countDebtsHome (kdp (2)) (j70  S5) 70 [(0, .ref 10), (1, .ref 4), (2, .int c2), (3, .int c3), (4, .int v4)] [] S5 := by
        subst hj70
        intro  S5
        refine ok_nx (fun x6 hx6 => ?_)
        refine ok_iinc (v := x6) (lv' := [(4, .int x6), (0, .ref 10), (1, .ref 4), (2, .int c2), (3, .int c3)]) 4 (kd_m0_countDebtsHome.at 39 rfl) rfl hx6.symm (by decide) rfl ?_
        refine ok_goto (tgt := 29) (kd_m0_countDebtsHome.at 40 rfl) (by decide) ?_
        refine ok_sub (lv' := [(0, .ref 10), (1, .ref 4), (2, .int c2), (3, .int c3), (4, .int x6)]) [1, 2, 3, 4, 0] rfl ?_
        exact ih x6 S5
      clear hj70
      refine ok_icmp_eq (tgt := 70) (kd_m0_countDebtsHome.at 23 rfl) (by decide) (fun h7 => ?_) (fun h7 => ?_)
      · exact K70  S
      · refine ok_aload_n 0 (kd_m0_countDebtsHome.at 24 rfl) rfl rfl ?_
        refine ok_getR (kd_m0_countDebtsHome.at 25 rfl) kf0_21 sh_10 rfl (kr_10_4 _) ?_
        refine ok_iload 4 (kd_m0_countDebtsHome.at 26 rfl) rfl ?_
        refine ok_aload_n 0 (kd_m0_countDebtsHome.at 27 rfl) rfl rfl ?_
        refine ok_getR (kd_m0_countDebtsHome.at 28 rfl) kf0_21 sh_10 rfl (kr_10_4 _) ?_
        refine ok_iload 4 (kd_m0_countDebtsHome.at 29 rfl) rfl ?_
        refine ok_iald (kd_m0_countDebtsHome.at 30 rfl) sh_52 ?_
        refine ok_aload_n 0 (kd_m0_countDebtsHome.at 31 rfl) rfl rfl ?_
        refine ok_aload_n 1 (kd_m0_countDebtsHome.at 32 rfl) rfl rfl ?_
        refine ok_iload 4 (kd_m0_countDebtsHome.at 33 rfl) rfl ?_
        refine ok_callVI (M' := m0_fewestDebtsBehind) (as := [.ref 4, .int v4]) (st := [.int (S.1 52 v4.toNatClampNeg), .int v4, .ref 52]) (kd_m0_countDebtsHome.at 34 rfl) kc0_52 sh_10 rfl rfl (by decide) (ok_m0_fewestDebtsBehind v4 S) (kfit_of (by decide)) rfl (Nat.le_of_ble_eq_true rfl) (fun q8 hq8 => ?_)
        refine ok_iconst (v := 1) (kd_m0_countDebtsHome.at 35 rfl) (by decide) ?_
        refine ok_iadd (kd_m0_countDebtsHome.at 36 rfl) ?_
        refine ok_mmin (kd_m0_countDebtsHome.at 37 rfl) kc0_27 (kfit_of (by decide)) (Nat.le_of_ble_eq_true rfl) ?_
        refine ok_iast (kd_m0_countDebtsHome.at 38 rfl) sh_52 ?_
        refine ok_nS (fun S9 hS9 => ?_)
        exact K70  S9
def f_m0_countDebtsHome_L18   (k82 : kSt → Option kSt) (c2 : Int32) : Nat → Int32 → kSt → Option kSt
  | 0, _, _ => none
  | n + 1, v3, S =>
    if (S.1 10 0) ≤ v3 then
      k82  S
    else
      f_m0_countDebtsHome_L29 
        (fun  (S10 : kSt) =>
          knx (v3 + 1) fun x11 =>
          f_m0_countDebtsHome_L18 k82 c2 n x11 S10
        )
        c2 v3 kFU 0 S
theorem ok_m0_countDebtsHome_L18 {l : Launch} {G : kG} {E : kE}    (c2 : Int32) (k82 : kSt → Option kSt) (hk82 : ∀  (S : kSt), kOk l G E (kZ G E kjV) m0_countDebtsHome (kdp (2)) (k82  S) 82 [] [] S) : ∀ (n : Nat) (v3 : Int32) (S : kSt), kOk l G E (kZ G E kjV) m0_countDebtsHome (kdp (2)) (f_m0_countDebtsHome_L18 k82 c2 n v3 S) 18 [(0, .ref 10), (1, .ref 4), (2, .int c2), (3, .int v3)] [] S := by
  intro n
  induction n with
  | zero => intro v3 S; exact ok_none
  | succ n ih =>
    intro v3 S
    rw [f_m0_countDebtsHome_L18]
    refine ok_iload_n 3 (kd_m0_countDebtsHome.at 11 rfl) rfl rfl ?_
    refine ok_aload_n 0 (kd_m0_countDebtsHome.at 12 rfl) rfl rfl ?_
    refine ok_getI (kd_m0_countDebtsHome.at 13 rfl) kf0_33 sh_10 rfl ?_
    refine ok_icmp_ge (tgt := 82) (kd_m0_countDebtsHome.at 14 rfl) (by decide) (fun h3 => ?_) (fun h3 => ?_)
    · refine ok_sub (lv' := []) [] rfl ?_
      exact hk82  S
    · refine ok_iconst (v := 0) (kd_m0_countDebtsHome.at 15 rfl) (by decide) ?_
      refine ok_istore (lv' := [(4, .int 0), (0, .ref 10), (1, .ref 4), (2, .int c2), (3, .int v3)]) (kd_m0_countDebtsHome.at 16 rfl) (by decide) rfl ?_
      refine ok_sub (lv' := [(0, .ref 10), (1, .ref 4), (2, .int c2), (3, .int v3), (4, .int 0)]) [1, 2, 3, 4, 0] rfl ?_
      refine ok_m0_countDebtsHome_L29 c2 v3 _ (fun S10 => ?_) kFU 0 S
      refine ok_nx (fun x11 hx11 => ?_)
      refine ok_iinc (v := x11) (lv' := [(3, .int x11), (0, .ref 10), (1, .ref 4), (2, .int c2)]) 3 (kd_m0_countDebtsHome.at 41 rfl) rfl hx11.symm (by decide) rfl ?_
      refine ok_goto (tgt := 18) (kd_m0_countDebtsHome.at 42 rfl) (by decide) ?_
      refine ok_sub (lv' := [(0, .ref 10), (1, .ref 4), (2, .int c2), (3, .int x11)]) [1, 2, 3, 0] rfl ?_
      exact ih x11 S10
def f_m0_countDebtsHome (a2 : Int32) (S : kSt) : Option kSt :=
  (f_mJ_fill_J7 52 5 6 S).bind fun q1 =>
  kgi a2 5 (
    knx (kuI q1 52 a2.toNatClampNeg 0) fun S2 =>
    f_m0_countDebtsHome_L18 
      (fun  (S12 : kSt) =>
        some S12
      )
      a2 kFU 0 S2
  )
theorem ok_m0_countDebtsHome {l : Launch} {G : kG} {E : kE} (a2 : Int32)  (S : kSt) : kFn l G E E kjV m0_countDebtsHome 2 [.ref 10, .ref 4, .int a2] S (f_m0_countDebtsHome a2 S) := by
  unfold f_m0_countDebtsHome
  refine kFn_of (by decide +kernel) (fun hG => Nat.le_of_ble_eq_true rfl) ?_
  show kOk _ _ _ _ _ _ _ _ [(0, .ref 10), (1, .ref 4), (2, .int a2)] _ _
  refine ok_aload_n 0 (kd_m0_countDebtsHome.at 0 rfl) rfl rfl ?_
  refine ok_getR (kd_m0_countDebtsHome.at 1 rfl) kf0_21 sh_10 rfl (kr_10_4 _) ?_
  refine ok_bipush (v := 6) (kd_m0_countDebtsHome.at 2 rfl) (by decide) ?_
  refine ok_callSV (M' := mJ_fill_J7) (as := [.ref 52, .int 6]) (st := []) (kd_m0_countDebtsHome.at 3 rfl) kc0_60  rfl (by decide) (ok_mJ_fill_J7 52 5 6 sh_52 S) (kfit_of (by decide)) rfl (Nat.le_of_ble_eq_true rfl) (fun q1 hq1 => ?_)
  refine ok_aload_n 0 (kd_m0_countDebtsHome.at 4 rfl) rfl rfl ?_
  refine ok_getR (kd_m0_countDebtsHome.at 5 rfl) kf0_21 sh_10 rfl (kr_10_4 _) ?_
  refine ok_iload_n 2 (kd_m0_countDebtsHome.at 6 rfl) rfl rfl ?_
  refine ok_iconst (v := 0) (kd_m0_countDebtsHome.at 7 rfl) (by decide) ?_
  refine ok_iast (kd_m0_countDebtsHome.at 8 rfl) sh_52 ?_
  refine ok_nS (fun S2 hS2 => ?_)
  refine ok_iconst (v := 0) (kd_m0_countDebtsHome.at 9 rfl) (by decide) ?_
  refine ok_istore_n (lv' := [(3, .int 0), (0, .ref 10), (1, .ref 4), (2, .int a2)]) (kd_m0_countDebtsHome.at 10 rfl) rfl (by decide) rfl ?_
  refine ok_sub (lv' := [(0, .ref 10), (1, .ref 4), (2, .int a2), (3, .int 0)]) [1, 2, 3, 0] rfl ?_
  refine ok_m0_countDebtsHome_L18 a2 _ (fun S12 => ?_) kFU 0 S2
  exact ok_return (kd_m0_countDebtsHome.at 43 rfl) rfl
def f_m0_firstNext_L3   (k37 : Int32 → kSt → Option (Int32 × kSt)) (k46 : kSt → Option (Int32 × kSt)) (c2 : Int32) (c3 : Int32) : Nat → Int32 → kSt → Option (Int32 × kSt)
  | 0, _, _ => none
  | n + 1, v4, S =>
    if (S.1 10 0) ≤ v4 then
      k46  S
    else
      knx ((c2 * 5) + v4) fun x2 =>
      kgi x2 25 (
        knx (fun  (S3 : kSt) =>
          knx (v4 + 1) fun x4 =>
          f_m0_firstNext_L3 k37 k46 c2 c3 n x4 S3
          ) fun j40 =>
        if (S.1 42 x2.toNatClampNeg) ≤ 0 then
          j40  S
        else
          kgi v4 5 (
            if (S.1 52 v4.toNatClampNeg) = c3 then
              k37 v4 S
            else
              j40  S
          )
      )
theorem ok_m0_firstNext_L3 {l : Launch} {G : kG} {E : kE}    (c2 : Int32) (c3 : Int32) (k37 : Int32 → kSt → Option (Int32 × kSt)) (k46 : kSt → Option (Int32 × kSt)) (hk37 : ∀ (v4 : Int32) (S : kSt), kOk l G E (kZ G E kjI) m0_firstNext (kdp (1)) (k37 v4 S) 37 [(4, .int v4)] [] S) (hk46 : ∀  (S : kSt), kOk l G E (kZ G E kjI) m0_firstNext (kdp (1)) (k46  S) 46 [(2, .int c2)] [] S) : ∀ (n : Nat) (v4 : Int32) (S : kSt), kOk l G E (kZ G E kjI) m0_firstNext (kdp (1)) (f_m0_firstNext_L3 k37 k46 c2 c3 n v4 S) 3 [(0, .ref 10), (1, .ref 4), (2, .int c2), (3, .int c3), (4, .int v4)] [] S := by
  intro n
  induction n with
  | zero => intro v4 S; exact ok_none
  | succ n ih =>
    intro v4 S
    rw [f_m0_firstNext_L3]
    refine ok_iload 4 (kd_m0_firstNext.at 2 rfl) rfl ?_
    refine ok_aload_n 0 (kd_m0_firstNext.at 3 rfl) rfl rfl ?_
    refine ok_getI (kd_m0_firstNext.at 4 rfl) kf0_33 sh_10 rfl ?_
    refine ok_icmp_ge (tgt := 46) (kd_m0_firstNext.at 5 rfl) (by decide) (fun h1 => ?_) (fun h1 => ?_)
    · refine ok_sub (lv' := [(2, .int c2)]) [2] rfl ?_
      exact hk46  S
    · refine ok_aload_n 1 (kd_m0_firstNext.at 6 rfl) rfl rfl ?_
      refine ok_getR (kd_m0_firstNext.at 7 rfl) kf0_37 sh_4 rfl (kr_4_3 _) ?_
      refine ok_iload_n 2 (kd_m0_firstNext.at 8 rfl) rfl rfl ?_
      refine ok_iconst (v := 5) (kd_m0_firstNext.at 9 rfl) (by decide) ?_
      refine ok_imul (kd_m0_firstNext.at 10 rfl) ?_
      refine ok_iload 4 (kd_m0_firstNext.at 11 rfl) rfl ?_
      refine ok_iadd (kd_m0_firstNext.at 12 rfl) ?_
      refine ok_topi (fun x2 hx2 => ?_)
      refine ok_iald (kd_m0_firstNext.at 13 rfl) sh_42 ?_
      refine ok_nx (fun j40 hj40 => ?_)
      have K40 : ∀  (S3 : kSt), kOk l G E (kZ G E kjI) m0_firstNext (kdp (1)) (j40  S3) 40 [(0, .ref 10), (1, .ref 4), (2, .int c2), (3, .int c3), (4, .int v4)] [] S3 := by
        subst hj40
        intro  S3
        refine ok_nx (fun x4 hx4 => ?_)
        refine ok_iinc (v := x4) (lv' := [(4, .int x4), (0, .ref 10), (1, .ref 4), (2, .int c2), (3, .int c3)]) 4 (kd_m0_firstNext.at 23 rfl) rfl hx4.symm (by decide) rfl ?_
        refine ok_goto (tgt := 3) (kd_m0_firstNext.at 24 rfl) (by decide) ?_
        refine ok_sub (lv' := [(0, .ref 10), (1, .ref 4), (2, .int c2), (3, .int c3), (4, .int x4)]) [1, 2, 3, 4, 0] rfl ?_
        exact ih x4 S3
      clear hj40
      refine ok_if_le (tgt := 40) (kd_m0_firstNext.at 14 rfl) (by decide) (fun h5 => ?_) (fun h5 => ?_)
      · exact K40  S
      · refine ok_aload_n 0 (kd_m0_firstNext.at 15 rfl) rfl rfl ?_
        refine ok_getR (kd_m0_firstNext.at 16 rfl) kf0_21 sh_10 rfl (kr_10_4 _) ?_
        refine ok_iload 4 (kd_m0_firstNext.at 17 rfl) rfl ?_
        refine ok_iald (kd_m0_firstNext.at 18 rfl) sh_52 ?_
        refine ok_iload_n 3 (kd_m0_firstNext.at 19 rfl) rfl rfl ?_
        refine ok_icmp_ne (tgt := 40) (kd_m0_firstNext.at 20 rfl) (by decide) (fun h6 => ?_) (fun h6 => ?_)
        · exact K40  S
        · refine ok_sub (lv' := [(4, .int v4)]) [4] rfl ?_
          exact hk37 v4 S
def f_m0_firstNext (a2 : Int32) (a3 : Int32) (S : kSt) : Option (Int32 × kSt) :=
  f_m0_firstNext_L3 
    (fun (x7 : Int32) (S8 : kSt) =>
      some (x7, S8)
    )
    (fun  (S9 : kSt) =>
      some (a2, S9)
    )
    a2 a3 kFU 0 S
theorem ok_m0_firstNext {l : Launch} {G : kG} {E : kE} (a2 : Int32) (a3 : Int32)  (S : kSt) : kFn l G E E kjI m0_firstNext 1 [.ref 10, .ref 4, .int a2, .int a3] S (f_m0_firstNext a2 a3 S) := by
  unfold f_m0_firstNext
  refine kFn_of (by decide +kernel) (fun hG => Nat.le_of_ble_eq_true rfl) ?_
  show kOk _ _ _ _ _ _ _ _ [(0, .ref 10), (1, .ref 4), (2, .int a2), (3, .int a3)] _ _
  refine ok_iconst (v := 0) (kd_m0_firstNext.at 0 rfl) (by decide) ?_
  refine ok_istore (lv' := [(4, .int 0), (0, .ref 10), (1, .ref 4), (2, .int a2), (3, .int a3)]) (kd_m0_firstNext.at 1 rfl) (by decide) rfl ?_
  refine ok_sub (lv' := [(0, .ref 10), (1, .ref 4), (2, .int a2), (3, .int a3), (4, .int 0)]) [1, 2, 3, 4, 0] rfl ?_
  refine ok_m0_firstNext_L3 a2 a3 _ _ (fun x7 S8 => ?_) (fun S9 => ?_) kFU 0 S
  · refine ok_iload 0 (kd_m0_firstNext.at 21 rfl) rfl ?_
    exact ok_ireturn (kd_m0_firstNext.at 22 rfl) rfl
  · refine ok_iload_n 0 (kd_m0_firstNext.at 25 rfl) rfl rfl ?_
    exact ok_ireturn (kd_m0_firstNext.at 26 rfl) rfl
def f_m0_findRing_L53   (k104 : kSt → Option kSt)  : Nat → Int32 → Int32 → kSt → Option kSt
  | 0, _, _, _ => none
  | n + 1, v4, v5, S =>
    if v4 ≤ 0 then
      k104  S
    else
      if 5 ≤ (S.1 10 6) then
        k104  S
      else
        (f_m0_firstNext v5 v4 S).bind fun q10 =>
        knx (q10.2.1 10 6) fun x12 =>
        kgi x12 5 (
          knx (kuI q10.2 53 x12.toNatClampNeg q10.1) fun S11 =>
          knx (kuI S11 10 6 ((S11.1 10 6) + 1)) fun S13 =>
          knx (v4 + (-1)) fun x14 =>
          f_m0_findRing_L53 k104 n x14 q10.1 S13
        )
theorem ok_m0_findRing_L53 {l : Launch} {G : kG} {E : kE}     (k104 : kSt → Option kSt) (hk104 : ∀  (S : kSt), kOk l G E (kZ G E kjV) m0_findRing (kdp (3)) (k104  S) 104 [] [] S) : ∀ (n : Nat) (v4 : Int32) (v5 : Int32) (S : kSt), kOk l G E (kZ G E kjV) m0_findRing (kdp (3)) (f_m0_findRing_L53 k104 n v4 v5 S) 53 [(0, .ref 10), (1, .ref 4), (4, .int v4), (5, .int v5)] [] S := by
  intro n
  induction n with
  | zero => intro v4 v5 S; exact ok_none
  | succ n ih =>
    intro v4 v5 S
    rw [f_m0_findRing_L53]
    refine ok_iload 2 (kd_m0_findRing.at 32 rfl) rfl ?_
    refine ok_if_le (tgt := 104) (kd_m0_findRing.at 33 rfl) (by decide) (fun h8 => ?_) (fun h8 => ?_)
    · refine ok_sub (lv' := []) [] rfl ?_
      exact hk104  S
    · refine ok_aload_n 0 (kd_m0_findRing.at 34 rfl) rfl rfl ?_
      refine ok_getI (kd_m0_findRing.at 35 rfl) kf0_45 sh_10 rfl ?_
      refine ok_iconst (v := 5) (kd_m0_findRing.at 36 rfl) (by decide) ?_
      refine ok_icmp_ge (tgt := 104) (kd_m0_findRing.at 37 rfl) (by decide) (fun h9 => ?_) (fun h9 => ?_)
      · refine ok_sub (lv' := []) [] rfl ?_
        exact hk104  S
      · refine ok_aload_n 0 (kd_m0_findRing.at 38 rfl) rfl rfl ?_
        refine ok_aload_n 1 (kd_m0_findRing.at 39 rfl) rfl rfl ?_
        refine ok_iload 3 (kd_m0_findRing.at 40 rfl) rfl ?_
        refine ok_iload 2 (kd_m0_findRing.at 41 rfl) rfl ?_
        refine ok_callVI (M' := m0_firstNext) (as := [.ref 4, .int v5, .int v4]) (st := []) (kd_m0_findRing.at 42 rfl) kc0_56 sh_10 rfl rfl (by decide) (ok_m0_firstNext v5 v4 S) (kfit_of (by decide)) rfl (Nat.le_of_ble_eq_true rfl) (fun q10 hq10 => ?_)
        refine ok_istore (lv' := [(5, .int q10.1), (0, .ref 10), (1, .ref 4), (4, .int v4)]) (kd_m0_findRing.at 43 rfl) (by decide) rfl ?_
        refine ok_aload_n 1 (kd_m0_findRing.at 44 rfl) rfl rfl ?_
        refine ok_getR (kd_m0_findRing.at 45 rfl) kf0_24 sh_10 rfl (kr_10_5 _) ?_
        refine ok_aload_n 1 (kd_m0_findRing.at 46 rfl) rfl rfl ?_
        refine ok_getI (kd_m0_findRing.at 47 rfl) kf0_45 sh_10 rfl ?_
        refine ok_iload 0 (kd_m0_findRing.at 48 rfl) rfl ?_
        refine ok_sndi (fun x12 hx12 => ?_)
        refine ok_iast (kd_m0_findRing.at 49 rfl) sh_53 ?_
        refine ok_nS (fun S11 hS11 => ?_)
        refine ok_aload_n 1 (kd_m0_findRing.at 50 rfl) rfl rfl ?_
        refine ok_dup (kd_m0_findRing.at 51 rfl) rfl ?_
        refine ok_getI (kd_m0_findRing.at 52 rfl) kf0_45 sh_10 rfl ?_
        refine ok_iconst (v := 1) (kd_m0_findRing.at 53 rfl) (by decide) ?_
        refine ok_iadd (kd_m0_findRing.at 54 rfl) ?_
        refine ok_putI (kd_m0_findRing.at 55 rfl) kf0_45 sh_10 rfl rfl ?_
        refine ok_nS (fun S13 hS13 => ?_)
        refine ok_nx (fun x14 hx14 => ?_)
        refine ok_iinc (v := x14) (lv' := [(4, .int x14), (5, .int q10.1), (0, .ref 10), (1, .ref 4)]) 3 (kd_m0_findRing.at 56 rfl) rfl hx14.symm (by decide) rfl ?_
        refine ok_goto (tgt := 53) (kd_m0_findRing.at 57 rfl) (by decide) ?_
        refine ok_sub (lv' := [(0, .ref 10), (1, .ref 4), (4, .int x14), (5, .int q10.1)]) [2, 3, 0, 1] rfl ?_
        exact ih x14 q10.1 S13
def f_m0_findRing (a2 : Int32) (a3 : Int32) (S : kSt) : Option kSt :=
  knx (kuI S 10 0 (kmin a2 5)) fun S1 =>
  knx (kuI S1 10 6 0) fun S2 =>
  (f_m0_countDebtsHome a3 S2).bind fun q3 =>
  (f_m0_fewestDebtsBehind a3 q3).bind fun q4 =>
  if q4.1 ≤ (q4.2.1 10 0) then
    knx (kuI q4.2 53 0 a3) fun S6 =>
    knx (kuI S6 10 6 1) fun S7 =>
    f_m0_findRing_L53 
      (fun  (S15 : kSt) =>
        some S15
      )
      kFU q4.1 a3 S7
  else
    some q4.2
theorem ok_m0_findRing {l : Launch} {G : kG} {E : kE} (a2 : Int32) (a3 : Int32)  (S : kSt) : kFn l G E E kjV m0_findRing 3 [.ref 10, .ref 4, .int a2, .int a3] S (f_m0_findRing a2 a3 S) := by
  unfold f_m0_findRing
  refine kFn_of (by decide +kernel) (fun hG => Nat.le_of_ble_eq_true rfl) ?_
  show kOk _ _ _ _ _ _ _ _ [(0, .ref 10), (1, .ref 4), (2, .int a2), (3, .int a3)] _ _
  refine ok_aload_n 0 (kd_m0_findRing.at 0 rfl) rfl rfl ?_
  refine ok_iload_n 2 (kd_m0_findRing.at 1 rfl) rfl rfl ?_
  refine ok_iconst (v := 5) (kd_m0_findRing.at 2 rfl) (by decide) ?_
  refine ok_mmin (kd_m0_findRing.at 3 rfl) kc0_27 (kfit_of (by decide)) (Nat.le_of_ble_eq_true rfl) ?_
  refine ok_putI (kd_m0_findRing.at 4 rfl) kf0_33 sh_10 rfl rfl ?_
  refine ok_nS (fun S1 hS1 => ?_)
  refine ok_aload_n 0 (kd_m0_findRing.at 5 rfl) rfl rfl ?_
  refine ok_iconst (v := 0) (kd_m0_findRing.at 6 rfl) (by decide) ?_
  refine ok_putI (kd_m0_findRing.at 7 rfl) kf0_45 sh_10 rfl rfl ?_
  refine ok_nS (fun S2 hS2 => ?_)
  refine ok_aload_n 0 (kd_m0_findRing.at 8 rfl) rfl rfl ?_
  refine ok_aload_n 1 (kd_m0_findRing.at 9 rfl) rfl rfl ?_
  refine ok_iload_n 3 (kd_m0_findRing.at 10 rfl) rfl rfl ?_
  refine ok_callVV (M' := m0_countDebtsHome) (as := [.ref 4, .int a3]) (st := []) (kd_m0_findRing.at 11 rfl) kc0_48 sh_10 rfl rfl (by decide) (ok_m0_countDebtsHome a3 S2) (kfit_of (by decide)) rfl (Nat.le_of_ble_eq_true rfl) (fun q3 hq3 => ?_)
  refine ok_aload_n 0 (kd_m0_findRing.at 12 rfl) rfl rfl ?_
  refine ok_aload_n 1 (kd_m0_findRing.at 13 rfl) rfl rfl ?_
  refine ok_iload_n 3 (kd_m0_findRing.at 14 rfl) rfl rfl ?_
  refine ok_callVI (M' := m0_fewestDebtsBehind) (as := [.ref 4, .int a3]) (st := []) (kd_m0_findRing.at 15 rfl) kc0_52 sh_10 rfl rfl (by decide) (ok_m0_fewestDebtsBehind a3 q3) (kfit_of (by decide)) rfl (Nat.le_of_ble_eq_true rfl) (fun q4 hq4 => ?_)
  refine ok_istore (lv' := [(4, .int q4.1), (0, .ref 10), (1, .ref 4), (2, .int a2), (3, .int a3)]) (kd_m0_findRing.at 16 rfl) (by decide) rfl ?_
  refine ok_iload 0 (kd_m0_findRing.at 17 rfl) rfl ?_
  refine ok_aload_n 1 (kd_m0_findRing.at 18 rfl) rfl rfl ?_
  refine ok_getI (kd_m0_findRing.at 19 rfl) kf0_33 sh_10 rfl ?_
  refine ok_icmp_le (tgt := 38) (kd_m0_findRing.at 20 rfl) (by decide) (fun h5 => ?_) (fun h5 => ?_)
  · refine ok_iload_n 4 (kd_m0_findRing.at 22 rfl) rfl rfl ?_
    refine ok_istore (lv' := [(5, .int a3), (4, .int q4.1), (0, .ref 10), (1, .ref 4), (2, .int a2), (3, .int a3)]) (kd_m0_findRing.at 23 rfl) (by decide) rfl ?_
    refine ok_aload_n 2 (kd_m0_findRing.at 24 rfl) rfl rfl ?_
    refine ok_getR (kd_m0_findRing.at 25 rfl) kf0_24 sh_10 rfl (kr_10_5 _) ?_
    refine ok_iconst (v := 0) (kd_m0_findRing.at 26 rfl) (by decide) ?_
    refine ok_iload_n 5 (kd_m0_findRing.at 27 rfl) rfl rfl ?_
    refine ok_iastK (j := 0) (kd_m0_findRing.at 28 rfl) sh_53 (by decide) (by decide) ?_
    refine ok_nS (fun S6 hS6 => ?_)
    refine ok_aload_n 2 (kd_m0_findRing.at 29 rfl) rfl rfl ?_
    refine ok_iconst (v := 1) (kd_m0_findRing.at 30 rfl) (by decide) ?_
    refine ok_putI (kd_m0_findRing.at 31 rfl) kf0_45 sh_10 rfl rfl ?_
    refine ok_nS (fun S7 hS7 => ?_)
    refine ok_sub (lv' := [(0, .ref 10), (1, .ref 4), (4, .int q4.1), (5, .int a3)]) [2, 3, 1, 0] rfl ?_
    refine ok_m0_findRing_L53 _ (fun S15 => ?_) kFU q4.1 a3 S7
    exact ok_return (kd_m0_findRing.at 58 rfl) rfl
  · exact ok_return (kd_m0_findRing.at 21 rfl) rfl
def f_m5_isUnsure_t_L2   (k20 : kSt → Option (Bool × kSt)) (k28 : kSt → Option (Bool × kSt)) (c1 : Int32) : Nat → Int32 → kSt → Option (Bool × kSt)
  | 0, _, _ => none
  | n + 1, v2, S =>
    if (S.1 1 5) ≤ v2 then
      k28  S
    else
      kgi v2 4 (
        if (S.1 23 v2.toNatClampNeg) = c1 then
          k20  S
        else
          knx (v2 + 1) fun x3 =>
          f_m5_isUnsure_t_L2 k20 k28 c1 n x3 S
      )
theorem ok_m5_isUnsure_t_L2 {l : Launch} {G : kG} {E : kE}    (c1 : Int32) (k20 : kSt → Option (Bool × kSt)) (k28 : kSt → Option (Bool × kSt)) (hk20 : ∀  (S : kSt), kOk l G E (kZ G E kjB) m5_isUnsure (kdp (1)) (k20  S) 20 [] [] S) (hk28 : ∀  (S : kSt), kOk l G E (kZ G E kjB) m5_isUnsure (kdp (1)) (k28  S) 28 [] [] S) : ∀ (n : Nat) (v2 : Int32) (S : kSt), kOk l G E (kZ G E kjB) m5_isUnsure (kdp (1)) (f_m5_isUnsure_t_L2 k20 k28 c1 n v2 S) 2 [(0, .ref 1), (1, .int c1), (2, .int v2)] [] S := by
  intro n
  induction n with
  | zero => intro v2 S; exact ok_none
  | succ n ih =>
    intro v2 S
    rw [f_m5_isUnsure_t_L2]
    refine ok_iload_n 2 (kd_m5_isUnsure.at 2 rfl) rfl rfl ?_
    refine ok_aload_n 0 (kd_m5_isUnsure.at 3 rfl) rfl rfl ?_
    refine ok_getI (kd_m5_isUnsure.at 4 rfl) kf5_58 sh_1 rfl ?_
    refine ok_icmp_ge (tgt := 28) (kd_m5_isUnsure.at 5 rfl) (by decide) (fun h1 => ?_) (fun h1 => ?_)
    · refine ok_sub (lv' := []) [] rfl ?_
      exact hk28  S
    · refine ok_aload_n 0 (kd_m5_isUnsure.at 6 rfl) rfl rfl ?_
      refine ok_getR (kd_m5_isUnsure.at 7 rfl) kf5_27 sh_1 rfl (kr_1_12 _) ?_
      refine ok_iload_n 2 (kd_m5_isUnsure.at 8 rfl) rfl rfl ?_
      refine ok_iald (kd_m5_isUnsure.at 9 rfl) sh_23 ?_
      refine ok_iload_n 1 (kd_m5_isUnsure.at 10 rfl) rfl rfl ?_
      refine ok_icmp_ne (tgt := 22) (kd_m5_isUnsure.at 11 rfl) (by decide) (fun h2 => ?_) (fun h2 => ?_)
      · refine ok_nx (fun x3 hx3 => ?_)
        refine ok_iinc (v := x3) (lv' := [(2, .int x3), (0, .ref 1), (1, .int c1)]) 2 (kd_m5_isUnsure.at 14 rfl) rfl hx3.symm (by decide) rfl ?_
        refine ok_goto (tgt := 2) (kd_m5_isUnsure.at 15 rfl) (by decide) ?_
        refine ok_sub (lv' := [(0, .ref 1), (1, .int c1), (2, .int x3)]) [1, 2, 0] rfl ?_
        exact ih x3 S
      · refine ok_sub (lv' := []) [] rfl ?_
        exact hk20  S
def f_m5_isUnsure_t (a1 : Int32) (S : kSt) : Option (Bool × kSt) :=
  f_m5_isUnsure_t_L2 
    (fun  (S4 : kSt) =>
      some (true, S4)
    )
    (fun  (S5 : kSt) =>
      some (false, S5)
    )
    a1 kFU 0 S
theorem ok_m5_isUnsure_t {l : Launch} {G : kG} {E : kE} (a1 : Int32)  (S : kSt) : kFn l G E E kjB m5_isUnsure 1 [.ref 1, .int a1] S (f_m5_isUnsure_t a1 S) := by
  unfold f_m5_isUnsure_t
  refine kFn_of (by decide +kernel) (fun hG => Nat.le_of_ble_eq_true rfl) ?_
  show kOk _ _ _ _ _ _ _ _ [(0, .ref 1), (1, .int a1)] _ _
  refine ok_iconst (v := 0) (kd_m5_isUnsure.at 0 rfl) (by decide) ?_
  refine ok_istore_n (lv' := [(2, .int 0), (0, .ref 1), (1, .int a1)]) (kd_m5_isUnsure.at 1 rfl) rfl (by decide) rfl ?_
  refine ok_sub (lv' := [(0, .ref 1), (1, .int a1), (2, .int 0)]) [1, 2, 0] rfl ?_
  refine ok_m5_isUnsure_t_L2 a1 _ _ (fun S4 => ?_) (fun S5 => ?_) kFU 0 S
  · refine ok_iconst (v := 1) (kd_m5_isUnsure.at 12 rfl) (by decide) ?_
    exact ok_zreturn (x := true) (kd_m5_isUnsure.at 13 rfl) rfl
  · refine ok_iconst (v := 0) (kd_m5_isUnsure.at 16 rfl) (by decide) ?_
    exact ok_zreturn (x := false) (kd_m5_isUnsure.at 17 rfl) rfl
def f_m9_beginAsTold (w0 : Nat) (a2 : Int32) (S : kSt) : Option kSt :=
  knx (kuI S w0 0 (S.1 1 0)) fun S1 =>
  kgi a2 5 (
    knx (kuI S1 w0 1 (S1.1 18 a2.toNatClampNeg)) fun S2 =>
    kgi a2 5 (
      knx (kuI S2 w0 2 (S2.1 20 a2.toNatClampNeg)) fun S3 =>
      kgi a2 5 (
        knx (kuI S3 w0 3 (S3.1 21 a2.toNatClampNeg)) fun S4 =>
        kgi a2 5 (
          knx (kuI S4 w0 4 (S4.1 19 a2.toNatClampNeg)) fun S5 =>
          knx (kuI S5 w0 5 0) fun S6 =>
          some S6
        )
      )
    )
  )
theorem ok_m9_beginAsTold {l : Launch} {G : kG} {E : kE} (w0 : Nat) (a2 : Int32) (hw0 : kSH[w0]? = some (0, 9, 6)) (S : kSt) : kFn l G E E kjV m9_beginAsTold 1 [.ref w0, .ref 1, .int a2] S (f_m9_beginAsTold w0 a2 S) := by
  unfold f_m9_beginAsTold
  refine kFn_of (by decide +kernel) (fun hG => Nat.le_of_ble_eq_true rfl) ?_
  show kOk _ _ _ _ _ _ _ _ [(0, .ref w0), (1, .ref 1), (2, .int a2)] _ _
  refine ok_aload_n 0 (kd_m9_beginAsTold.at 0 rfl) rfl rfl ?_
  refine ok_aload_n 1 (kd_m9_beginAsTold.at 1 rfl) rfl rfl ?_
  refine ok_getI (kd_m9_beginAsTold.at 2 rfl) kf9_33 sh_1 rfl ?_
  refine ok_putI (kd_m9_beginAsTold.at 3 rfl) kf9_38 hw0 rfl rfl ?_
  refine ok_nS (fun S1 hS1 => ?_)
  refine ok_aload_n 0 (kd_m9_beginAsTold.at 4 rfl) rfl rfl ?_
  refine ok_aload_n 1 (kd_m9_beginAsTold.at 5 rfl) rfl rfl ?_
  refine ok_getR (kd_m9_beginAsTold.at 6 rfl) kf9_39 sh_1 rfl (kr_1_7 _) ?_
  refine ok_iload_n 2 (kd_m9_beginAsTold.at 7 rfl) rfl rfl ?_
  refine ok_iald (kd_m9_beginAsTold.at 8 rfl) sh_18 ?_
  refine ok_putI (kd_m9_beginAsTold.at 9 rfl) kf9_42 hw0 rfl rfl ?_
  refine ok_nS (fun S2 hS2 => ?_)
  refine ok_aload_n 0 (kd_m9_beginAsTold.at 10 rfl) rfl rfl ?_
  refine ok_aload_n 1 (kd_m9_beginAsTold.at 11 rfl) rfl rfl ?_
  refine ok_getR (kd_m9_beginAsTold.at 12 rfl) kf9_45 sh_1 rfl (kr_1_9 _) ?_
  refine ok_iload_n 2 (kd_m9_beginAsTold.at 13 rfl) rfl rfl ?_
  refine ok_iald (kd_m9_beginAsTold.at 14 rfl) sh_20 ?_
  refine ok_putI (kd_m9_beginAsTold.at 15 rfl) kf9_19 hw0 rfl rfl ?_
  refine ok_nS (fun S3 hS3 => ?_)
  refine ok_aload_n 0 (kd_m9_beginAsTold.at 16 rfl) rfl rfl ?_
  refine ok_aload_n 1 (kd_m9_beginAsTold.at 17 rfl) rfl rfl ?_
  refine ok_getR (kd_m9_beginAsTold.at 18 rfl) kf9_46 sh_1 rfl (kr_1_10 _) ?_
  refine ok_iload_n 2 (kd_m9_beginAsTold.at 19 rfl) rfl rfl ?_
  refine ok_iald (kd_m9_beginAsTold.at 20 rfl) sh_21 ?_
  refine ok_putI (kd_m9_beginAsTold.at 21 rfl) kf9_49 hw0 rfl rfl ?_
  refine ok_nS (fun S4 hS4 => ?_)
  refine ok_aload_n 0 (kd_m9_beginAsTold.at 22 rfl) rfl rfl ?_
  refine ok_aload_n 1 (kd_m9_beginAsTold.at 23 rfl) rfl rfl ?_
  refine ok_getR (kd_m9_beginAsTold.at 24 rfl) kf9_52 sh_1 rfl (kr_1_8 _) ?_
  refine ok_iload_n 2 (kd_m9_beginAsTold.at 25 rfl) rfl rfl ?_
  refine ok_iald (kd_m9_beginAsTold.at 26 rfl) sh_19 ?_
  refine ok_putI (kd_m9_beginAsTold.at 27 rfl) kf9_26 hw0 rfl rfl ?_
  refine ok_nS (fun S5 hS5 => ?_)
  refine ok_aload_n 0 (kd_m9_beginAsTold.at 28 rfl) rfl rfl ?_
  refine ok_iconst (v := 0) (kd_m9_beginAsTold.at 29 rfl) (by decide) ?_
  refine ok_putI (kd_m9_beginAsTold.at 30 rfl) kf9_32 hw0 rfl rfl ?_
  refine ok_nS (fun S6 hS6 => ?_)
  exact ok_return (kd_m9_beginAsTold.at 31 rfl) rfl
def f_m9_byLaw (w0 : Nat) (S : kSt) : Option (Int32 × kSt) :=
  kcase3 (ksw 0 2 (S.1 w0 1))
    (
      some ((S.1 w0 4) + (S.1 w0 2), S)
    )
    (
      some ((2 * (S.1 w0 4)) + (S.1 w0 2), S)
    )
    (
      some ((S.1 w0 4) - (S.1 w0 2), S)
    )
    (
      some (((S.1 w0 0) - (S.1 w0 4)) + (S.1 w0 2), S)
    )
theorem ok_m9_byLaw {l : Launch} {G : kG} {E : kE} (w0 : Nat) (hw0 : kSH[w0]? = some (0, 9, 6)) (S : kSt) : kFn l G E E kjI m9_byLaw 1 [.ref w0] S (f_m9_byLaw w0 S) := by
  unfold f_m9_byLaw
  refine kFn_of (by decide +kernel) (fun hG => Nat.le_of_ble_eq_true rfl) ?_
  show kOk _ _ _ _ _ _ _ _ [(0, .ref w0)] _ _
  refine ok_aload_n 0 (kd_m9_byLaw.at 0 rfl) rfl rfl ?_
  refine ok_getI (kd_m9_byLaw.at 1 rfl) kf9_42 hw0 rfl ?_
  refine ok_table3 64 32 42 54 (kd_m9_byLaw.at 2 rfl) (by decide) (by decide) (by decide) (by decide) (by decide) ?_ ?_ ?_ ?_
  · refine ok_aload_n 0 (kd_m9_byLaw.at 23 rfl) rfl rfl ?_
    refine ok_getI (kd_m9_byLaw.at 24 rfl) kf9_38 hw0 rfl ?_
    refine ok_aload_n 0 (kd_m9_byLaw.at 25 rfl) rfl rfl ?_
    refine ok_getI (kd_m9_byLaw.at 26 rfl) kf9_26 hw0 rfl ?_
    refine ok_isub (kd_m9_byLaw.at 27 rfl) ?_
    refine ok_aload_n 0 (kd_m9_byLaw.at 28 rfl) rfl rfl ?_
    refine ok_getI (kd_m9_byLaw.at 29 rfl) kf9_19 hw0 rfl ?_
    refine ok_iadd (kd_m9_byLaw.at 30 rfl) ?_
    exact ok_ireturn (kd_m9_byLaw.at 31 rfl) rfl
  · refine ok_aload_n 0 (kd_m9_byLaw.at 3 rfl) rfl rfl ?_
    refine ok_getI (kd_m9_byLaw.at 4 rfl) kf9_26 hw0 rfl ?_
    refine ok_aload_n 0 (kd_m9_byLaw.at 5 rfl) rfl rfl ?_
    refine ok_getI (kd_m9_byLaw.at 6 rfl) kf9_19 hw0 rfl ?_
    refine ok_iadd (kd_m9_byLaw.at 7 rfl) ?_
    exact ok_ireturn (kd_m9_byLaw.at 8 rfl) rfl
  · refine ok_iconst (v := 2) (kd_m9_byLaw.at 9 rfl) (by decide) ?_
    refine ok_aload_n 0 (kd_m9_byLaw.at 10 rfl) rfl rfl ?_
    refine ok_getI (kd_m9_byLaw.at 11 rfl) kf9_26 hw0 rfl ?_
    refine ok_imul (kd_m9_byLaw.at 12 rfl) ?_
    refine ok_aload_n 0 (kd_m9_byLaw.at 13 rfl) rfl rfl ?_
    refine ok_getI (kd_m9_byLaw.at 14 rfl) kf9_19 hw0 rfl ?_
    refine ok_iadd (kd_m9_byLaw.at 15 rfl) ?_
    exact ok_ireturn (kd_m9_byLaw.at 16 rfl) rfl
  · refine ok_aload_n 0 (kd_m9_byLaw.at 17 rfl) rfl rfl ?_
    refine ok_getI (kd_m9_byLaw.at 18 rfl) kf9_26 hw0 rfl ?_
    refine ok_aload_n 0 (kd_m9_byLaw.at 19 rfl) rfl rfl ?_
    refine ok_getI (kd_m9_byLaw.at 20 rfl) kf9_19 hw0 rfl ?_
    refine ok_isub (kd_m9_byLaw.at 21 rfl) ?_
    exact ok_ireturn (kd_m9_byLaw.at 22 rfl) rfl
def f_m9_goDumb (w0 : Nat) (S : kSt) : Option kSt :=
  knx (kuI S w0 5 ((S.1 w0 5) + 1)) fun S1 =>
  if (S1.1 w0 3) ≤ 0 then
    some S1
  else
    knx (S1.1 w0 3) fun x3 =>
    kgz x3 (
      if (krem (S1.1 w0 5) x3) = 0 then
        knx (kuI S1 w0 4 ((S1.1 w0 0) - (S1.1 w0 4))) fun S5 =>
        some S5
      else
        some S1
    )
theorem ok_m9_goDumb {l : Launch} {G : kG} {E : kE} (w0 : Nat) (hw0 : kSH[w0]? = some (0, 9, 6)) (S : kSt) : kFn l G E E kjV m9_goDumb 1 [.ref w0] S (f_m9_goDumb w0 S) := by
  unfold f_m9_goDumb
  refine kFn_of (by decide +kernel) (fun hG => Nat.le_of_ble_eq_true rfl) ?_
  show kOk _ _ _ _ _ _ _ _ [(0, .ref w0)] _ _
  refine ok_aload_n 0 (kd_m9_goDumb.at 0 rfl) rfl rfl ?_
  refine ok_dup (kd_m9_goDumb.at 1 rfl) rfl ?_
  refine ok_getI (kd_m9_goDumb.at 2 rfl) kf9_32 hw0 rfl ?_
  refine ok_iconst (v := 1) (kd_m9_goDumb.at 3 rfl) (by decide) ?_
  refine ok_iadd (kd_m9_goDumb.at 4 rfl) ?_
  refine ok_putI (kd_m9_goDumb.at 5 rfl) kf9_32 hw0 rfl rfl ?_
  refine ok_nS (fun S1 hS1 => ?_)
  refine ok_aload_n 0 (kd_m9_goDumb.at 6 rfl) rfl rfl ?_
  refine ok_getI (kd_m9_goDumb.at 7 rfl) kf9_49 hw0 rfl ?_
  refine ok_if_le (tgt := 42) (kd_m9_goDumb.at 8 rfl) (by decide) (fun h2 => ?_) (fun h2 => ?_)
  · exact ok_return (kd_m9_goDumb.at 22 rfl) rfl
  · refine ok_aload_n 0 (kd_m9_goDumb.at 9 rfl) rfl rfl ?_
    refine ok_getI (kd_m9_goDumb.at 10 rfl) kf9_32 hw0 rfl ?_
    refine ok_aload_n 0 (kd_m9_goDumb.at 11 rfl) rfl rfl ?_
    refine ok_getI (kd_m9_goDumb.at 12 rfl) kf9_49 hw0 rfl ?_
    refine ok_topi (fun x3 hx3 => ?_)
    refine ok_iremG (kd_m9_goDumb.at 13 rfl) ?_
    refine ok_if_ne (tgt := 42) (kd_m9_goDumb.at 14 rfl) (by decide) (fun h4 => ?_) (fun h4 => ?_)
    · exact ok_return (kd_m9_goDumb.at 22 rfl) rfl
    · refine ok_aload_n 0 (kd_m9_goDumb.at 15 rfl) rfl rfl ?_
      refine ok_aload_n 0 (kd_m9_goDumb.at 16 rfl) rfl rfl ?_
      refine ok_getI (kd_m9_goDumb.at 17 rfl) kf9_38 hw0 rfl ?_
      refine ok_aload_n 0 (kd_m9_goDumb.at 18 rfl) rfl rfl ?_
      refine ok_getI (kd_m9_goDumb.at 19 rfl) kf9_26 hw0 rfl ?_
      refine ok_isub (kd_m9_goDumb.at 20 rfl) ?_
      refine ok_putI (kd_m9_goDumb.at 21 rfl) kf9_26 hw0 rfl rfl ?_
      refine ok_nS (fun S5 hS5 => ?_)
      exact ok_return (kd_m9_goDumb.at 22 rfl) rfl
def f_m9_go (w0 : Nat) (S : kSt) : Option kSt :=
  (f_m9_byLaw w0 S).bind fun q1 =>
  knx (kuI q1.2 w0 4 (kmax 0 (kmin (S.1 w0 0) q1.1))) fun S2 =>
  (f_m9_goDumb w0 S2).bind fun q3 =>
  some q3
theorem ok_m9_go {l : Launch} {G : kG} {E : kE} (w0 : Nat) (hw0 : kSH[w0]? = some (0, 9, 6)) (S : kSt) : kFn l G E E kjV m9_go 2 [.ref w0] S (f_m9_go w0 S) := by
  unfold f_m9_go
  refine kFn_of (by decide +kernel) (fun hG => Nat.le_of_ble_eq_true rfl) ?_
  show kOk _ _ _ _ _ _ _ _ [(0, .ref w0)] _ _
  refine ok_aload_n 0 (kd_m9_go.at 0 rfl) rfl rfl ?_
  refine ok_iconst (v := 0) (kd_m9_go.at 1 rfl) (by decide) ?_
  refine ok_aload_n 0 (kd_m9_go.at 2 rfl) rfl rfl ?_
  refine ok_getI (kd_m9_go.at 3 rfl) kf9_38 hw0 rfl ?_
  refine ok_aload_n 0 (kd_m9_go.at 4 rfl) rfl rfl ?_
  refine ok_callVI (M' := m9_byLaw) (as := []) (st := [.int (S.1 w0 0), .int 0, .ref w0]) (kd_m9_go.at 5 rfl) kc9_53 hw0 rfl rfl (by decide) (ok_m9_byLaw w0 hw0 S) (kfit_of (by decide)) rfl (Nat.le_of_ble_eq_true rfl) (fun q1 hq1 => ?_)
  refine ok_mmin (kd_m9_go.at 6 rfl) kc9_57 (kfit_of (by decide)) (Nat.le_of_ble_eq_true rfl) ?_
  refine ok_mmax (kd_m9_go.at 7 rfl) kc9_63 (kfit_of (by decide)) (Nat.le_of_ble_eq_true rfl) ?_
  refine ok_putI (kd_m9_go.at 8 rfl) kf9_26 hw0 rfl rfl ?_
  refine ok_nS (fun S2 hS2 => ?_)
  refine ok_aload_n 0 (kd_m9_go.at 9 rfl) rfl rfl ?_
  refine ok_callVV (M' := m9_goDumb) (as := []) (st := []) (kd_m9_go.at 10 rfl) kc9_66 hw0 rfl rfl (by decide) (ok_m9_goDumb w0 hw0 S2) (kfit_of (by decide)) rfl (Nat.le_of_ble_eq_true rfl) (fun q3 hq3 => ?_)
  exact ok_return (kd_m9_go.at 11 rfl) rfl
def f_m9_goOn_L2 (w0 : Nat)  (k17 : kSt → Option kSt) (c1 : Int32) : Nat → Int32 → kSt → Option kSt
  | 0, _, _ => none
  | n + 1, v2, S =>
    if c1 ≤ v2 then
      k17  S
    else
      (f_m9_go w0 S).bind fun q2 =>
      knx (v2 + 1) fun x3 =>
      f_m9_goOn_L2 w0 k17 c1 n x3 q2
theorem ok_m9_goOn_L2 {l : Launch} {G : kG} {E : kE} (w0 : Nat) (hw0 : kSH[w0]? = some (0, 9, 6))  (c1 : Int32) (k17 : kSt → Option kSt) (hk17 : ∀  (S : kSt), kOk l G E (kZ G E kjV) m9_goOn (kdp (3)) (k17  S) 17 [] [] S) : ∀ (n : Nat) (v2 : Int32) (S : kSt), kOk l G E (kZ G E kjV) m9_goOn (kdp (3)) (f_m9_goOn_L2 w0 k17 c1 n v2 S) 2 [(0, .ref w0), (1, .int c1), (2, .int v2)] [] S := by
  intro n
  induction n with
  | zero => intro v2 S; exact ok_none
  | succ n ih =>
    intro v2 S
    rw [f_m9_goOn_L2]
    refine ok_iload_n 2 (kd_m9_goOn.at 2 rfl) rfl rfl ?_
    refine ok_iload_n 1 (kd_m9_goOn.at 3 rfl) rfl rfl ?_
    refine ok_icmp_ge (tgt := 17) (kd_m9_goOn.at 4 rfl) (by decide) (fun h1 => ?_) (fun h1 => ?_)
    · refine ok_sub (lv' := []) [] rfl ?_
      exact hk17  S
    · refine ok_aload_n 0 (kd_m9_goOn.at 5 rfl) rfl rfl ?_
      refine ok_callVV (M' := m9_go) (as := []) (st := []) (kd_m9_goOn.at 6 rfl) kc9_69 hw0 rfl rfl (by decide) (ok_m9_go w0 hw0 S) (kfit_of (by decide)) rfl (Nat.le_of_ble_eq_true rfl) (fun q2 hq2 => ?_)
      refine ok_nx (fun x3 hx3 => ?_)
      refine ok_iinc (v := x3) (lv' := [(2, .int x3), (0, .ref w0), (1, .int c1)]) 2 (kd_m9_goOn.at 7 rfl) rfl hx3.symm (by decide) rfl ?_
      refine ok_goto (tgt := 2) (kd_m9_goOn.at 8 rfl) (by decide) ?_
      refine ok_sub (lv' := [(0, .ref w0), (1, .int c1), (2, .int x3)]) [1, 2, 0] rfl ?_
      exact ih x3 q2
def f_m9_goOn (w0 : Nat) (a1 : Int32) (S : kSt) : Option kSt :=
  f_m9_goOn_L2 w0
    (fun  (S4 : kSt) =>
      some S4
    )
    a1 kFU 0 S
theorem ok_m9_goOn {l : Launch} {G : kG} {E : kE} (w0 : Nat) (a1 : Int32) (hw0 : kSH[w0]? = some (0, 9, 6)) (S : kSt) : kFn l G E E kjV m9_goOn 3 [.ref w0, .int a1] S (f_m9_goOn w0 a1 S) := by
  unfold f_m9_goOn
  refine kFn_of (by decide +kernel) (fun hG => Nat.le_of_ble_eq_true rfl) ?_
  show kOk _ _ _ _ _ _ _ _ [(0, .ref w0), (1, .int a1)] _ _
  refine ok_iconst (v := 0) (kd_m9_goOn.at 0 rfl) (by decide) ?_
  refine ok_istore_n (lv' := [(2, .int 0), (0, .ref w0), (1, .int a1)]) (kd_m9_goOn.at 1 rfl) rfl (by decide) rfl ?_
  refine ok_sub (lv' := [(0, .ref w0), (1, .int a1), (2, .int 0)]) [1, 2, 0] rfl ?_
  refine ok_m9_goOn_L2 w0 hw0 a1 _ (fun S4 => ?_) kFU 0 S
  exact ok_return (kd_m9_goOn.at 9 rfl) rfl
def f_m1_fitsHeard_L3   (k71 : kSt → Option (Bool × kSt)) (k79 : kSt → Option (Bool × kSt)) (c2 : Int32) (c3 : Int32) : Nat → Int32 → kSt → Option (Bool × kSt)
  | 0, _, _ => none
  | n + 1, v4, S =>
    if (S.1 1 6) ≤ v4 then
      k79  S
    else
      kgi v4 8 (
        knx (fun  (S2 : kSt) =>
          knx (v4 + 1) fun x3 =>
          f_m1_fitsHeard_L3 k71 k79 c2 c3 n x3 S2
          ) fun j73 =>
        if (S.1 25 v4.toNatClampNeg) = c2 then
          (f_m9_beginAsTold 13 c2 S).bind fun q5 =>
          knx (kuI q5 13 2 c3) fun S6 =>
          kgi v4 8 (
            (f_m9_goOn 13 (S6.1 26 v4.toNatClampNeg) S6).bind fun q7 =>
            kgi v4 8 (
              if (q7.1 13 4) = (q7.1 27 v4.toNatClampNeg) then
                j73  q7
              else
                k71  q7
            )
          )
        else
          j73  S
      )
theorem ok_m1_fitsHeard_L3 {l : Launch} {G : kG} {E : kE}    (c2 : Int32) (c3 : Int32) (k71 : kSt → Option (Bool × kSt)) (k79 : kSt → Option (Bool × kSt)) (hk71 : ∀  (S : kSt), kOk l G E (kZ G E kjB) m1_fitsHeard (kdp (4)) (k71  S) 71 [] [] S) (hk79 : ∀  (S : kSt), kOk l G E (kZ G E kjB) m1_fitsHeard (kdp (4)) (k79  S) 79 [] [] S) : ∀ (n : Nat) (v4 : Int32) (S : kSt), kOk l G E (kZ G E kjB) m1_fitsHeard (kdp (4)) (f_m1_fitsHeard_L3 k71 k79 c2 c3 n v4 S) 3 [(0, .ref 9), (1, .ref 1), (2, .int c2), (3, .int c3), (4, .int v4)] [] S := by
  intro n
  induction n with
  | zero => intro v4 S; exact ok_none
  | succ n ih =>
    intro v4 S
    rw [f_m1_fitsHeard_L3]
    refine ok_iload 4 (kd_m1_fitsHeard.at 2 rfl) rfl ?_
    refine ok_aload_n 1 (kd_m1_fitsHeard.at 3 rfl) rfl rfl ?_
    refine ok_getI (kd_m1_fitsHeard.at 4 rfl) kf1_61 sh_1 rfl ?_
    refine ok_icmp_ge (tgt := 79) (kd_m1_fitsHeard.at 5 rfl) (by decide) (fun h1 => ?_) (fun h1 => ?_)
    · refine ok_sub (lv' := []) [] rfl ?_
      exact hk79  S
    · refine ok_aload_n 1 (kd_m1_fitsHeard.at 6 rfl) rfl rfl ?_
      refine ok_getR (kd_m1_fitsHeard.at 7 rfl) kf1_64 sh_1 rfl (kr_1_14 _) ?_
      refine ok_iload 4 (kd_m1_fitsHeard.at 8 rfl) rfl ?_
      refine ok_iald (kd_m1_fitsHeard.at 9 rfl) sh_25 ?_
      refine ok_iload_n 2 (kd_m1_fitsHeard.at 10 rfl) rfl rfl ?_
      refine ok_nx (fun j73 hj73 => ?_)
      have K73 : ∀  (S2 : kSt), kOk l G E (kZ G E kjB) m1_fitsHeard (kdp (4)) (j73  S2) 73 [(0, .ref 9), (1, .ref 1), (2, .int c2), (3, .int c3), (4, .int v4)] [] S2 := by
        subst hj73
        intro  S2
        refine ok_nx (fun x3 hx3 => ?_)
        refine ok_iinc (v := x3) (lv' := [(4, .int x3), (0, .ref 9), (1, .ref 1), (2, .int c2), (3, .int c3)]) 4 (kd_m1_fitsHeard.at 38 rfl) rfl hx3.symm (by decide) rfl ?_
        refine ok_goto (tgt := 3) (kd_m1_fitsHeard.at 39 rfl) (by decide) ?_
        refine ok_sub (lv' := [(0, .ref 9), (1, .ref 1), (2, .int c2), (3, .int c3), (4, .int x3)]) [1, 2, 3, 4, 0] rfl ?_
        exact ih x3 S2
      clear hj73
      refine ok_icmp_ne (tgt := 73) (kd_m1_fitsHeard.at 11 rfl) (by decide) (fun h4 => ?_) (fun h4 => ?_)
      · exact K73  S
      · refine ok_aload_n 0 (kd_m1_fitsHeard.at 12 rfl) rfl rfl ?_
        refine ok_getR (kd_m1_fitsHeard.at 13 rfl) kf1_12 sh_9 rfl (kr_9_0 _) ?_
        refine ok_aload_n 1 (kd_m1_fitsHeard.at 14 rfl) rfl rfl ?_
        refine ok_iload_n 2 (kd_m1_fitsHeard.at 15 rfl) rfl rfl ?_
        refine ok_callVV (M' := m9_beginAsTold) (as := [.ref 1, .int c2]) (st := []) (kd_m1_fitsHeard.at 16 rfl) kc1_67 sh_13 rfl rfl (by decide) (ok_m9_beginAsTold 13 c2 sh_13 S) (kfit_of (by decide)) rfl (Nat.le_of_ble_eq_true rfl) (fun q5 hq5 => ?_)
        refine ok_aload_n 0 (kd_m1_fitsHeard.at 17 rfl) rfl rfl ?_
        refine ok_getR (kd_m1_fitsHeard.at 18 rfl) kf1_12 sh_9 rfl (kr_9_0 _) ?_
        refine ok_iload_n 3 (kd_m1_fitsHeard.at 19 rfl) rfl rfl ?_
        refine ok_putI (kd_m1_fitsHeard.at 20 rfl) kf1_71 sh_13 rfl rfl ?_
        refine ok_nS (fun S6 hS6 => ?_)
        refine ok_aload_n 0 (kd_m1_fitsHeard.at 21 rfl) rfl rfl ?_
        refine ok_getR (kd_m1_fitsHeard.at 22 rfl) kf1_12 sh_9 rfl (kr_9_0 _) ?_
        refine ok_aload_n 1 (kd_m1_fitsHeard.at 23 rfl) rfl rfl ?_
        refine ok_getR (kd_m1_fitsHeard.at 24 rfl) kf1_74 sh_1 rfl (kr_1_15 _) ?_
        refine ok_iload 4 (kd_m1_fitsHeard.at 25 rfl) rfl ?_
        refine ok_iald (kd_m1_fitsHeard.at 26 rfl) sh_26 ?_
        refine ok_callVV (M' := m9_goOn) (as := [.int (S6.1 26 v4.toNatClampNeg)]) (st := []) (kd_m1_fitsHeard.at 27 rfl) kc1_77 sh_13 rfl rfl (by decide) (ok_m9_goOn 13 (S6.1 26 v4.toNatClampNeg) sh_13 S6) (kfit_of (by decide)) rfl (Nat.le_of_ble_eq_true rfl) (fun q7 hq7 => ?_)
        refine ok_aload_n 0 (kd_m1_fitsHeard.at 28 rfl) rfl rfl ?_
        refine ok_getR (kd_m1_fitsHeard.at 29 rfl) kf1_12 sh_9 rfl (kr_9_0 _) ?_
        refine ok_getI (kd_m1_fitsHeard.at 30 rfl) kf1_81 sh_13 rfl ?_
        refine ok_aload_n 1 (kd_m1_fitsHeard.at 31 rfl) rfl rfl ?_
        refine ok_getR (kd_m1_fitsHeard.at 32 rfl) kf1_84 sh_1 rfl (kr_1_16 _) ?_
        refine ok_iload 4 (kd_m1_fitsHeard.at 33 rfl) rfl ?_
        refine ok_iald (kd_m1_fitsHeard.at 34 rfl) sh_27 ?_
        refine ok_icmp_eq (tgt := 73) (kd_m1_fitsHeard.at 35 rfl) (by decide) (fun h8 => ?_) (fun h8 => ?_)
        · exact K73  q7
        · refine ok_sub (lv' := []) [] rfl ?_
          exact hk71  q7
def f_m1_fitsHeard (a2 : Int32) (a3 : Int32) (S : kSt) : Option (Bool × kSt) :=
  f_m1_fitsHeard_L3 
    (fun  (S9 : kSt) =>
      some (false, S9)
    )
    (fun  (S10 : kSt) =>
      some (true, S10)
    )
    a2 a3 kFU 0 S
theorem ok_m1_fitsHeard {l : Launch} {G : kG} {E : kE} (a2 : Int32) (a3 : Int32)  (S : kSt) : kFn l G E E kjB m1_fitsHeard 4 [.ref 9, .ref 1, .int a2, .int a3] S (f_m1_fitsHeard a2 a3 S) := by
  unfold f_m1_fitsHeard
  refine kFn_of (by decide +kernel) (fun hG => Nat.le_of_ble_eq_true rfl) ?_
  show kOk _ _ _ _ _ _ _ _ [(0, .ref 9), (1, .ref 1), (2, .int a2), (3, .int a3)] _ _
  refine ok_iconst (v := 0) (kd_m1_fitsHeard.at 0 rfl) (by decide) ?_
  refine ok_istore (lv' := [(4, .int 0), (0, .ref 9), (1, .ref 1), (2, .int a2), (3, .int a3)]) (kd_m1_fitsHeard.at 1 rfl) (by decide) rfl ?_
  refine ok_sub (lv' := [(0, .ref 9), (1, .ref 1), (2, .int a2), (3, .int a3), (4, .int 0)]) [1, 2, 3, 4, 0] rfl ?_
  refine ok_m1_fitsHeard_L3 a2 a3 _ _ (fun S9 => ?_) (fun S10 => ?_) kFU 0 S
  · refine ok_iconst (v := 0) (kd_m1_fitsHeard.at 36 rfl) (by decide) ?_
    exact ok_zreturn (x := false) (kd_m1_fitsHeard.at 37 rfl) rfl
  · refine ok_iconst (v := 1) (kd_m1_fitsHeard.at 40 rfl) (by decide) ?_
    exact ok_zreturn (x := true) (kd_m1_fitsHeard.at 41 rfl) rfl
def f_m1_isFit_L2   (k37 : kSt → Option (Bool × kSt)) (k45 : kSt → Option (Bool × kSt)) (c1 : Int32) (c2 : Int32) : Nat → Int32 → kSt → Option (Bool × kSt)
  | 0, _, _ => none
  | n + 1, v3, S =>
    if c2 ≤ v3 then
      k45  S
    else
      knx (fun (x2 : Int32) (S3 : kSt) =>
        if x2 = 0 then
          k37  S3
        else
          knx (v3 + 1) fun x5 =>
          f_m1_isFit_L2 k37 k45 c1 c2 n x5 S3
        ) fun j30 =>
      if ((c1 >>> (v3 &&& 31)) &&& 1) = 0 then
        kgi v3 4 (
          j30 (S.1 46 v3.toNatClampNeg) S
        )
      else
        kgi v3 4 (
          j30 (S.1 47 v3.toNatClampNeg) S
        )
theorem ok_m1_isFit_L2 {l : Launch} {G : kG} {E : kE}    (c1 : Int32) (c2 : Int32) (k37 : kSt → Option (Bool × kSt)) (k45 : kSt → Option (Bool × kSt)) (hk37 : ∀  (S : kSt), kOk l G E (kZ G E kjB) m1_isFit (kdp (1)) (k37  S) 37 [] [] S) (hk45 : ∀  (S : kSt), kOk l G E (kZ G E kjB) m1_isFit (kdp (1)) (k45  S) 45 [] [] S) : ∀ (n : Nat) (v3 : Int32) (S : kSt), kOk l G E (kZ G E kjB) m1_isFit (kdp (1)) (f_m1_isFit_L2 k37 k45 c1 c2 n v3 S) 2 [(0, .ref 9), (1, .int c1), (2, .int c2), (3, .int v3)] [] S := by
  intro n
  induction n with
  | zero => intro v3 S; exact ok_none
  | succ n ih =>
    intro v3 S
    rw [f_m1_isFit_L2]
    refine ok_iload_n 3 (kd_m1_isFit.at 2 rfl) rfl rfl ?_
    refine ok_iload_n 2 (kd_m1_isFit.at 3 rfl) rfl rfl ?_
    refine ok_icmp_ge (tgt := 45) (kd_m1_isFit.at 4 rfl) (by decide) (fun h1 => ?_) (fun h1 => ?_)
    · refine ok_sub (lv' := []) [] rfl ?_
      exact hk45  S
    · refine ok_iload_n 1 (kd_m1_isFit.at 5 rfl) rfl rfl ?_
      refine ok_iload_n 3 (kd_m1_isFit.at 6 rfl) rfl rfl ?_
      refine ok_ishr (kd_m1_isFit.at 7 rfl) ?_
      refine ok_iconst (v := 1) (kd_m1_isFit.at 8 rfl) (by decide) ?_
      refine ok_iand (kd_m1_isFit.at 9 rfl) ?_
      refine ok_nx (fun j30 hj30 => ?_)
      have K30 : ∀ (x2 : Int32) (S3 : kSt), kOk l G E (kZ G E kjB) m1_isFit (kdp (1)) (j30 x2 S3) 30 [(0, .ref 9), (1, .int c1), (2, .int c2), (3, .int v3)] [.int x2] S3 := by
        subst hj30
        intro x2 S3
        refine ok_istore (lv' := [(4, .int x2), (0, .ref 9), (1, .int c1), (2, .int c2), (3, .int v3)]) (kd_m1_isFit.at 20 rfl) (by decide) rfl ?_
        refine ok_iload 0 (kd_m1_isFit.at 21 rfl) rfl ?_
        refine ok_if_ne (tgt := 39) (kd_m1_isFit.at 22 rfl) (by decide) (fun h4 => ?_) (fun h4 => ?_)
        · refine ok_nx (fun x5 hx5 => ?_)
          refine ok_iinc (v := x5) (lv' := [(3, .int x5), (4, .int x2), (0, .ref 9), (1, .int c1), (2, .int c2)]) 4 (kd_m1_isFit.at 25 rfl) rfl hx5.symm (by decide) rfl ?_
          refine ok_goto (tgt := 2) (kd_m1_isFit.at 26 rfl) (by decide) ?_
          refine ok_sub (lv' := [(0, .ref 9), (1, .int c1), (2, .int c2), (3, .int x5)]) [2, 3, 4, 0] rfl ?_
          exact ih x5 S3
        · refine ok_sub (lv' := []) [] rfl ?_
          exact hk37  S3
      clear hj30
      refine ok_if_eq (tgt := 24) (kd_m1_isFit.at 10 rfl) (by decide) (fun h6 => ?_) (fun h6 => ?_)
      · refine ok_aload_n 0 (kd_m1_isFit.at 16 rfl) rfl rfl ?_
        refine ok_getR (kd_m1_isFit.at 17 rfl) kf1_18 sh_9 rfl (kr_9_1 _) ?_
        refine ok_iload_n 3 (kd_m1_isFit.at 18 rfl) rfl rfl ?_
        refine ok_iald (kd_m1_isFit.at 19 rfl) sh_46 ?_
        exact K30 (S.1 46 v3.toNatClampNeg) S
      · refine ok_aload_n 0 (kd_m1_isFit.at 11 rfl) rfl rfl ?_
        refine ok_getR (kd_m1_isFit.at 12 rfl) kf1_22 sh_9 rfl (kr_9_2 _) ?_
        refine ok_iload_n 3 (kd_m1_isFit.at 13 rfl) rfl rfl ?_
        refine ok_iald (kd_m1_isFit.at 14 rfl) sh_47 ?_
        refine ok_goto (tgt := 30) (kd_m1_isFit.at 15 rfl) (by decide) ?_
        exact K30 (S.1 47 v3.toNatClampNeg) S
def f_m1_isFit (a1 : Int32) (a2 : Int32) (S : kSt) : Option (Bool × kSt) :=
  f_m1_isFit_L2 
    (fun  (S7 : kSt) =>
      some (false, S7)
    )
    (fun  (S8 : kSt) =>
      some (true, S8)
    )
    a1 a2 kFU 0 S
theorem ok_m1_isFit {l : Launch} {G : kG} {E : kE} (a1 : Int32) (a2 : Int32)  (S : kSt) : kFn l G E E kjB m1_isFit 1 [.ref 9, .int a1, .int a2] S (f_m1_isFit a1 a2 S) := by
  unfold f_m1_isFit
  refine kFn_of (by decide +kernel) (fun hG => Nat.le_of_ble_eq_true rfl) ?_
  show kOk _ _ _ _ _ _ _ _ [(0, .ref 9), (1, .int a1), (2, .int a2)] _ _
  refine ok_iconst (v := 0) (kd_m1_isFit.at 0 rfl) (by decide) ?_
  refine ok_istore_n (lv' := [(3, .int 0), (0, .ref 9), (1, .int a1), (2, .int a2)]) (kd_m1_isFit.at 1 rfl) rfl (by decide) rfl ?_
  refine ok_sub (lv' := [(0, .ref 9), (1, .int a1), (2, .int a2), (3, .int 0)]) [1, 2, 3, 0] rfl ?_
  refine ok_m1_isFit_L2 a1 a2 _ _ (fun S7 => ?_) (fun S8 => ?_) kFU 0 S
  · refine ok_iconst (v := 0) (kd_m1_isFit.at 23 rfl) (by decide) ?_
    exact ok_zreturn (x := false) (kd_m1_isFit.at 24 rfl) rfl
  · refine ok_iconst (v := 1) (kd_m1_isFit.at 27 rfl) (by decide) ?_
    exact ok_zreturn (x := true) (kd_m1_isFit.at 28 rfl) rfl
def f_m1_find_L7   (k38 : kSt → Option kSt) (k45 : kSt → Option kSt)  : Nat → Int32 → kSt → Option kSt
  | 0, _, _ => none
  | n + 1, v2, S =>
    if (S.1 1 2) ≤ v2 then
      k45  S
    else
      (f_m5_isUnsure_t v2 S).bind fun q3 =>
      knx (fun  (S4 : kSt) =>
        knx (v2 + 1) fun x5 =>
        f_m1_find_L7 k38 k45 n x5 S4
        ) fun j39 =>
      if q3.1 then
        j39  q3.2
      else
        kgi v2 5 (
          (f_m1_fitsHeard v2 (q3.2.1 20 v2.toNatClampNeg) q3.2).bind fun q7 =>
          if q7.1 then
            j39  q7.2
          else
            k38  q7.2
        )
theorem ok_m1_find_L7 {l : Launch} {G : kG} {E : kE}     (k38 : kSt → Option kSt) (k45 : kSt → Option kSt) (hk38 : ∀  (S : kSt), kOk l G E (kZ G E kjV) m1_find (kdp (5)) (k38  S) 38 [] [] S) (hk45 : ∀  (S : kSt), kOk l G E (kZ G E kjV) m1_find (kdp (5)) (k45  S) 45 [(0, .ref 9), (1, .ref 1)] [] S) : ∀ (n : Nat) (v2 : Int32) (S : kSt), kOk l G E (kZ G E kjV) m1_find (kdp (5)) (f_m1_find_L7 k38 k45 n v2 S) 7 [(0, .ref 9), (1, .ref 1), (2, .int v2)] [] S := by
  intro n
  induction n with
  | zero => intro v2 S; exact ok_none
  | succ n ih =>
    intro v2 S
    rw [f_m1_find_L7]
    refine ok_iload_n 2 (kd_m1_find.at 5 rfl) rfl rfl ?_
    refine ok_aload_n 1 (kd_m1_find.at 6 rfl) rfl rfl ?_
    refine ok_getI (kd_m1_find.at 7 rfl) kf1_32 sh_1 rfl ?_
    refine ok_icmp_ge (tgt := 45) (kd_m1_find.at 8 rfl) (by decide) (fun h2 => ?_) (fun h2 => ?_)
    · refine ok_sub (lv' := [(0, .ref 9), (1, .ref 1)]) [0, 1] rfl ?_
      exact hk45  S
    · refine ok_aload_n 1 (kd_m1_find.at 9 rfl) rfl rfl ?_
      refine ok_iload_n 2 (kd_m1_find.at 10 rfl) rfl rfl ?_
      refine ok_callVB (M' := m5_isUnsure) (as := [.int v2]) (st := []) (kd_m1_find.at 11 rfl) kc1_37 sh_1 rfl rfl (by decide) (ok_m5_isUnsure_t v2 S) (kfit_of (by decide)) rfl (Nat.le_of_ble_eq_true rfl) (fun q3 hq3 => ?_)
      refine ok_nx (fun j39 hj39 => ?_)
      have K39 : ∀  (S4 : kSt), kOk l G E (kZ G E kjV) m1_find (kdp (5)) (j39  S4) 39 [(0, .ref 9), (1, .ref 1), (2, .int v2)] [] S4 := by
        subst hj39
        intro  S4
        refine ok_nx (fun x5 hx5 => ?_)
        refine ok_iinc (v := x5) (lv' := [(2, .int x5), (0, .ref 9), (1, .ref 1)]) 2 (kd_m1_find.at 23 rfl) rfl hx5.symm (by decide) rfl ?_
        refine ok_goto (tgt := 7) (kd_m1_find.at 24 rfl) (by decide) ?_
        refine ok_sub (lv' := [(0, .ref 9), (1, .ref 1), (2, .int x5)]) [1, 2, 0] rfl ?_
        exact ih x5 S4
      clear hj39
      refine ok_ifb_ne (tgt := 39) (kd_m1_find.at 12 rfl) (by decide) (fun h6 => ?_) (fun h6 => ?_)
      · exact K39  q3.2
      · refine ok_aload_n 0 (kd_m1_find.at 13 rfl) rfl rfl ?_
        refine ok_aload_n 1 (kd_m1_find.at 14 rfl) rfl rfl ?_
        refine ok_iload_n 2 (kd_m1_find.at 15 rfl) rfl rfl ?_
        refine ok_aload_n 1 (kd_m1_find.at 16 rfl) rfl rfl ?_
        refine ok_getR (kd_m1_find.at 17 rfl) kf1_41 sh_1 rfl (kr_1_9 _) ?_
        refine ok_iload_n 2 (kd_m1_find.at 18 rfl) rfl rfl ?_
        refine ok_iald (kd_m1_find.at 19 rfl) sh_20 ?_
        refine ok_callVB (M' := m1_fitsHeard) (as := [.ref 1, .int v2, .int (q3.2.1 20 v2.toNatClampNeg)]) (st := []) (kd_m1_find.at 20 rfl) kc1_44 sh_9 rfl rfl (by decide) (ok_m1_fitsHeard v2 (q3.2.1 20 v2.toNatClampNeg) q3.2) (kfit_of (by decide)) rfl (Nat.le_of_ble_eq_true rfl) (fun q7 hq7 => ?_)
        refine ok_ifb_ne (tgt := 39) (kd_m1_find.at 21 rfl) (by decide) (fun h8 => ?_) (fun h8 => ?_)
        · exact K39  q7.2
        · refine ok_sub (lv' := []) [] rfl ?_
          exact hk38  q7.2
def f_m1_find_L47   (k120 : kSt → Option kSt)  : Nat → Int32 → kSt → Option kSt
  | 0, _, _ => none
  | n + 1, v2, S =>
    if (S.1 1 5) ≤ v2 then
      k120  S
    else
      kgi v2 4 (
        knx (S.1 23 v2.toNatClampNeg) fun x12 =>
        kgi x12 5 (
          (f_m1_fitsHeard x12 (S.1 20 x12.toNatClampNeg) S).bind fun q13 =>
          knx (if q13.1 then true else false) fun x15 =>
          kgi v2 4 (
            knx (kuI q13.2 46 v2.toNatClampNeg (kb x15)) fun S16 =>
            kgi v2 4 (
              (f_m1_fitsHeard x12 (S16.1 24 v2.toNatClampNeg) S16).bind fun q17 =>
              knx (if q17.1 then true else false) fun x19 =>
              kgi v2 4 (
                knx (kuI q17.2 47 v2.toNatClampNeg (kb x19)) fun S20 =>
                knx (v2 + 1) fun x21 =>
                f_m1_find_L47 k120 n x21 S20
              )
            )
          )
        )
      )
theorem ok_m1_find_L47 {l : Launch} {G : kG} {E : kE}     (k120 : kSt → Option kSt) (hk120 : ∀  (S : kSt), kOk l G E (kZ G E kjV) m1_find (kdp (5)) (k120  S) 120 [(0, .ref 9), (1, .ref 1)] [] S) : ∀ (n : Nat) (v2 : Int32) (S : kSt), kOk l G E (kZ G E kjV) m1_find (kdp (5)) (f_m1_find_L47 k120 n v2 S) 47 [(0, .ref 9), (1, .ref 1), (2, .int v2)] [] S := by
  intro n
  induction n with
  | zero => intro v2 S; exact ok_none
  | succ n ih =>
    intro v2 S
    rw [f_m1_find_L47]
    refine ok_iload_n 2 (kd_m1_find.at 27 rfl) rfl rfl ?_
    refine ok_aload_n 1 (kd_m1_find.at 28 rfl) rfl rfl ?_
    refine ok_getI (kd_m1_find.at 29 rfl) kf1_48 sh_1 rfl ?_
    refine ok_icmp_ge (tgt := 120) (kd_m1_find.at 30 rfl) (by decide) (fun h11 => ?_) (fun h11 => ?_)
    · refine ok_sub (lv' := [(0, .ref 9), (1, .ref 1)]) [0, 1] rfl ?_
      exact hk120  S
    · refine ok_aload_n 1 (kd_m1_find.at 31 rfl) rfl rfl ?_
      refine ok_getR (kd_m1_find.at 32 rfl) kf1_51 sh_1 rfl (kr_1_12 _) ?_
      refine ok_iload_n 2 (kd_m1_find.at 33 rfl) rfl rfl ?_
      refine ok_iald (kd_m1_find.at 34 rfl) sh_23 ?_
      refine ok_topi (fun x12 hx12 => ?_)
      refine ok_istore_n (lv' := [(3, .int x12), (0, .ref 9), (1, .ref 1), (2, .int v2)]) (kd_m1_find.at 35 rfl) rfl (by decide) rfl ?_
      refine ok_aload_n 1 (kd_m1_find.at 36 rfl) rfl rfl ?_
      refine ok_getR (kd_m1_find.at 37 rfl) kf1_18 sh_9 rfl (kr_9_1 _) ?_
      refine ok_iload_n 3 (kd_m1_find.at 38 rfl) rfl rfl ?_
      refine ok_aload_n 1 (kd_m1_find.at 39 rfl) rfl rfl ?_
      refine ok_aload_n 2 (kd_m1_find.at 40 rfl) rfl rfl ?_
      refine ok_iload_n 0 (kd_m1_find.at 41 rfl) rfl rfl ?_
      refine ok_aload_n 2 (kd_m1_find.at 42 rfl) rfl rfl ?_
      refine ok_getR (kd_m1_find.at 43 rfl) kf1_41 sh_1 rfl (kr_1_9 _) ?_
      refine ok_iload_n 0 (kd_m1_find.at 44 rfl) rfl rfl ?_
      refine ok_iald (kd_m1_find.at 45 rfl) sh_20 ?_
      refine ok_callVB (M' := m1_fitsHeard) (as := [.ref 1, .int x12, .int (S.1 20 x12.toNatClampNeg)]) (st := [.int v2, .ref 46]) (kd_m1_find.at 46 rfl) kc1_44 sh_9 rfl rfl (by decide) (ok_m1_fitsHeard x12 (S.1 20 x12.toNatClampNeg) S) (kfit_of (by decide)) rfl (Nat.le_of_ble_eq_true rfl) (fun q13 hq13 => ?_)
      refine ok_fold (α := Bool) (pcJ := 87) (lvJ := [(3, .int x12), (0, .ref 9), (1, .ref 1), (2, .int v2)]) (stJ := [.int v2, .ref 46]) (mk := fun v => .int (kb v)) (fun K => ?_) (fun x15 => ?_)
      · refine ok_ap ?_
        refine ok_ifb_eq (tgt := 86) (kd_m1_find.at 47 rfl) (by decide) (fun h14 => ?_) (fun h14 => ?_)
        · refine ok_iconst (v := 0) (kd_m1_find.at 50 rfl) (by decide) ?_
          exact K false
        · refine ok_iconst (v := 1) (kd_m1_find.at 48 rfl) (by decide) ?_
          refine ok_goto (tgt := 87) (kd_m1_find.at 49 rfl) (by decide) ?_
          exact K true
      · refine ok_iast (kd_m1_find.at 51 rfl) sh_46 ?_
        refine ok_nS (fun S16 hS16 => ?_)
        refine ok_aload_n 1 (kd_m1_find.at 52 rfl) rfl rfl ?_
        refine ok_getR (kd_m1_find.at 53 rfl) kf1_22 sh_9 rfl (kr_9_2 _) ?_
        refine ok_iload_n 3 (kd_m1_find.at 54 rfl) rfl rfl ?_
        refine ok_aload_n 1 (kd_m1_find.at 55 rfl) rfl rfl ?_
        refine ok_aload_n 2 (kd_m1_find.at 56 rfl) rfl rfl ?_
        refine ok_iload_n 0 (kd_m1_find.at 57 rfl) rfl rfl ?_
        refine ok_aload_n 2 (kd_m1_find.at 58 rfl) rfl rfl ?_
        refine ok_getR (kd_m1_find.at 59 rfl) kf1_54 sh_1 rfl (kr_1_13 _) ?_
        refine ok_iload_n 3 (kd_m1_find.at 60 rfl) rfl rfl ?_
        refine ok_iald (kd_m1_find.at 61 rfl) sh_24 ?_
        refine ok_callVB (M' := m1_fitsHeard) (as := [.ref 1, .int x12, .int (S16.1 24 v2.toNatClampNeg)]) (st := [.int v2, .ref 47]) (kd_m1_find.at 62 rfl) kc1_44 sh_9 rfl rfl (by decide) (ok_m1_fitsHeard x12 (S16.1 24 v2.toNatClampNeg) S16) (kfit_of (by decide)) rfl (Nat.le_of_ble_eq_true rfl) (fun q17 hq17 => ?_)
        refine ok_fold (α := Bool) (pcJ := 113) (lvJ := [(3, .int x12), (0, .ref 9), (1, .ref 1), (2, .int v2)]) (stJ := [.int v2, .ref 47]) (mk := fun v => .int (kb v)) (fun K => ?_) (fun x19 => ?_)
        · refine ok_ap ?_
          refine ok_ifb_eq (tgt := 112) (kd_m1_find.at 63 rfl) (by decide) (fun h18 => ?_) (fun h18 => ?_)
          · refine ok_iconst (v := 0) (kd_m1_find.at 66 rfl) (by decide) ?_
            exact K false
          · refine ok_iconst (v := 1) (kd_m1_find.at 64 rfl) (by decide) ?_
            refine ok_goto (tgt := 113) (kd_m1_find.at 65 rfl) (by decide) ?_
            exact K true
        · refine ok_iast (kd_m1_find.at 67 rfl) sh_47 ?_
          refine ok_nS (fun S20 hS20 => ?_)
          refine ok_nx (fun x21 hx21 => ?_)
          refine ok_iinc (v := x21) (lv' := [(2, .int x21), (3, .int x12), (0, .ref 9), (1, .ref 1)]) 3 (kd_m1_find.at 68 rfl) rfl hx21.symm (by decide) rfl ?_
          refine ok_goto (tgt := 47) (kd_m1_find.at 69 rfl) (by decide) ?_
          refine ok_sub (lv' := [(0, .ref 9), (1, .ref 1), (2, .int x21)]) [2, 3, 0] rfl ?_
          exact ih x21 S20
def f_m1_find_L122   (k170 : kSt → Option kSt)  : Nat → Int32 → kSt → Option kSt
  | 0, _, _ => none
  | n + 1, v2, S =>
    if (1 <<< ((S.1 1 5) &&& 31)) ≤ v2 then
      k170  S
    else
      (f_m1_isFit v2 (S.1 1 5) S).bind fun q24 =>
      knx (fun  (S25 : kSt) =>
        knx (v2 + 1) fun x26 =>
        f_m1_find_L122 k170 n x26 S25
        ) fun j164 =>
      if q24.1 then
        knx (q24.2.1 9 4) fun x29 =>
        kgi x29 16 (
          knx (kuI q24.2 48 x29.toNatClampNeg v2) fun S28 =>
          knx (kuI S28 9 4 ((S28.1 9 4) + 1)) fun S30 =>
          j164  S30
        )
      else
        j164  q24.2
theorem ok_m1_find_L122 {l : Launch} {G : kG} {E : kE}     (k170 : kSt → Option kSt) (hk170 : ∀  (S : kSt), kOk l G E (kZ G E kjV) m1_find (kdp (5)) (k170  S) 170 [] [] S) : ∀ (n : Nat) (v2 : Int32) (S : kSt), kOk l G E (kZ G E kjV) m1_find (kdp (5)) (f_m1_find_L122 k170 n v2 S) 122 [(0, .ref 9), (1, .ref 1), (2, .int v2)] [] S := by
  intro n
  induction n with
  | zero => intro v2 S; exact ok_none
  | succ n ih =>
    intro v2 S
    rw [f_m1_find_L122]
    refine ok_iload_n 2 (kd_m1_find.at 72 rfl) rfl rfl ?_
    refine ok_iconst (v := 1) (kd_m1_find.at 73 rfl) (by decide) ?_
    refine ok_aload_n 1 (kd_m1_find.at 74 rfl) rfl rfl ?_
    refine ok_getI (kd_m1_find.at 75 rfl) kf1_48 sh_1 rfl ?_
    refine ok_ishl (kd_m1_find.at 76 rfl) ?_
    refine ok_icmp_ge (tgt := 170) (kd_m1_find.at 77 rfl) (by decide) (fun h23 => ?_) (fun h23 => ?_)
    · refine ok_sub (lv' := []) [] rfl ?_
      exact hk170  S
    · refine ok_aload_n 0 (kd_m1_find.at 78 rfl) rfl rfl ?_
      refine ok_iload_n 2 (kd_m1_find.at 79 rfl) rfl rfl ?_
      refine ok_aload_n 1 (kd_m1_find.at 80 rfl) rfl rfl ?_
      refine ok_getI (kd_m1_find.at 81 rfl) kf1_48 sh_1 rfl ?_
      refine ok_callVB (M' := m1_isFit) (as := [.int v2, .int (S.1 1 5)]) (st := []) (kd_m1_find.at 82 rfl) kc1_57 sh_9 rfl rfl (by decide) (ok_m1_isFit v2 (S.1 1 5) S) (kfit_of (by decide)) rfl (Nat.le_of_ble_eq_true rfl) (fun q24 hq24 => ?_)
      refine ok_nx (fun j164 hj164 => ?_)
      have K164 : ∀  (S25 : kSt), kOk l G E (kZ G E kjV) m1_find (kdp (5)) (j164  S25) 164 [(0, .ref 9), (1, .ref 1), (2, .int v2)] [] S25 := by
        subst hj164
        intro  S25
        refine ok_nx (fun x26 hx26 => ?_)
        refine ok_iinc (v := x26) (lv' := [(2, .int x26), (0, .ref 9), (1, .ref 1)]) 2 (kd_m1_find.at 96 rfl) rfl hx26.symm (by decide) rfl ?_
        refine ok_goto (tgt := 122) (kd_m1_find.at 97 rfl) (by decide) ?_
        refine ok_sub (lv' := [(0, .ref 9), (1, .ref 1), (2, .int x26)]) [1, 2, 0] rfl ?_
        exact ih x26 S25
      clear hj164
      refine ok_ifb_eq (tgt := 164) (kd_m1_find.at 83 rfl) (by decide) (fun h27 => ?_) (fun h27 => ?_)
      · exact K164  q24.2
      · refine ok_aload_n 0 (kd_m1_find.at 84 rfl) rfl rfl ?_
        refine ok_getR (kd_m1_find.at 85 rfl) kf1_25 sh_9 rfl (kr_9_3 _) ?_
        refine ok_aload_n 0 (kd_m1_find.at 86 rfl) rfl rfl ?_
        refine ok_getI (kd_m1_find.at 87 rfl) kf1_28 sh_9 rfl ?_
        refine ok_iload_n 2 (kd_m1_find.at 88 rfl) rfl rfl ?_
        refine ok_sndi (fun x29 hx29 => ?_)
        refine ok_iast (kd_m1_find.at 89 rfl) sh_48 ?_
        refine ok_nS (fun S28 hS28 => ?_)
        refine ok_aload_n 0 (kd_m1_find.at 90 rfl) rfl rfl ?_
        refine ok_dup (kd_m1_find.at 91 rfl) rfl ?_
        refine ok_getI (kd_m1_find.at 92 rfl) kf1_28 sh_9 rfl ?_
        refine ok_iconst (v := 1) (kd_m1_find.at 93 rfl) (by decide) ?_
        refine ok_iadd (kd_m1_find.at 94 rfl) ?_
        refine ok_putI (kd_m1_find.at 95 rfl) kf1_28 sh_9 rfl rfl ?_
        refine ok_nS (fun S30 hS30 => ?_)
        exact K164  S30
def f_m1_find  (S : kSt) : Option kSt :=
  knx (kuI S 9 4 0) fun S1 =>
  f_m1_find_L7 
    (fun  (S9 : kSt) =>
      some S9
    )
    (fun  (S10 : kSt) =>
      f_m1_find_L47 
        (fun  (S22 : kSt) =>
          f_m1_find_L122 
            (fun  (S31 : kSt) =>
              some S31
            )
            kFU 0 S22
        )
        kFU 0 S10
    )
    kFU 0 S1
theorem ok_m1_find {l : Launch} {G : kG} {E : kE}   (S : kSt) : kFn l G E E kjV m1_find 5 [.ref 9, .ref 1] S (f_m1_find  S) := by
  unfold f_m1_find
  refine kFn_of (by decide +kernel) (fun hG => Nat.le_of_ble_eq_true rfl) ?_
  show kOk _ _ _ _ _ _ _ _ [(0, .ref 9), (1, .ref 1)] _ _
  refine ok_aload_n 0 (kd_m1_find.at 0 rfl) rfl rfl ?_
  refine ok_iconst (v := 0) (kd_m1_find.at 1 rfl) (by decide) ?_
  refine ok_putI (kd_m1_find.at 2 rfl) kf1_28 sh_9 rfl rfl ?_
  refine ok_nS (fun S1 hS1 => ?_)
  refine ok_iconst (v := 0) (kd_m1_find.at 3 rfl) (by decide) ?_
  refine ok_istore_n (lv' := [(2, .int 0), (0, .ref 9), (1, .ref 1)]) (kd_m1_find.at 4 rfl) rfl (by decide) rfl ?_
  refine ok_sub (lv' := [(0, .ref 9), (1, .ref 1), (2, .int 0)]) [1, 2, 0] rfl ?_
  refine ok_m1_find_L7 _ _ (fun S9 => ?_) (fun S10 => ?_) kFU 0 S1
  · exact ok_return (kd_m1_find.at 22 rfl) rfl
  · refine ok_iconst (v := 0) (kd_m1_find.at 25 rfl) (by decide) ?_
    refine ok_istore_n (lv' := [(2, .int 0), (0, .ref 9), (1, .ref 1)]) (kd_m1_find.at 26 rfl) rfl (by decide) rfl ?_
    refine ok_sub (lv' := [(0, .ref 9), (1, .ref 1), (2, .int 0)]) [1, 2, 0] rfl ?_
    refine ok_m1_find_L47 _ (fun S22 => ?_) kFU 0 S10
    refine ok_iconst (v := 0) (kd_m1_find.at 70 rfl) (by decide) ?_
    refine ok_istore_n (lv' := [(2, .int 0), (0, .ref 9), (1, .ref 1)]) (kd_m1_find.at 71 rfl) rfl (by decide) rfl ?_
    refine ok_sub (lv' := [(0, .ref 9), (1, .ref 1), (2, .int 0)]) [1, 2, 0] rfl ?_
    refine ok_m1_find_L122 _ (fun S31 => ?_) kFU 0 S22
    exact ok_return (kd_m1_find.at 98 rfl) rfl
def f_m1_inSome_L4   (k27 : Int32 → kSt → Option (Int32 × kSt))  : Nat → Int32 → Int32 → kSt → Option (Int32 × kSt)
  | 0, _, _, _ => none
  | n + 1, v1, v2, S =>
    if (S.1 9 4) ≤ v2 then
      k27 v1 S
    else
      kgi v2 16 (
        knx (v1 ||| (S.1 48 v2.toNatClampNeg)) fun x2 =>
        knx (v2 + 1) fun x3 =>
        f_m1_inSome_L4 k27 n x2 x3 S
      )
theorem ok_m1_inSome_L4 {l : Launch} {G : kG} {E : kE}     (k27 : Int32 → kSt → Option (Int32 × kSt)) (hk27 : ∀ (v1 : Int32) (S : kSt), kOk l G E (kZ G E kjI) m1_inSome (kdp (1)) (k27 v1 S) 27 [(1, .int v1)] [] S) : ∀ (n : Nat) (v1 : Int32) (v2 : Int32) (S : kSt), kOk l G E (kZ G E kjI) m1_inSome (kdp (1)) (f_m1_inSome_L4 k27 n v1 v2 S) 4 [(0, .ref 9), (1, .int v1), (2, .int v2)] [] S := by
  intro n
  induction n with
  | zero => intro v1 v2 S; exact ok_none
  | succ n ih =>
    intro v1 v2 S
    rw [f_m1_inSome_L4]
    refine ok_iload_n 2 (kd_m1_inSome.at 4 rfl) rfl rfl ?_
    refine ok_aload_n 0 (kd_m1_inSome.at 5 rfl) rfl rfl ?_
    refine ok_getI (kd_m1_inSome.at 6 rfl) kf1_28 sh_9 rfl ?_
    refine ok_icmp_ge (tgt := 27) (kd_m1_inSome.at 7 rfl) (by decide) (fun h1 => ?_) (fun h1 => ?_)
    · refine ok_sub (lv' := [(1, .int v1)]) [1] rfl ?_
      exact hk27 v1 S
    · refine ok_iload_n 1 (kd_m1_inSome.at 8 rfl) rfl rfl ?_
      refine ok_aload_n 0 (kd_m1_inSome.at 9 rfl) rfl rfl ?_
      refine ok_getR (kd_m1_inSome.at 10 rfl) kf1_25 sh_9 rfl (kr_9_3 _) ?_
      refine ok_iload_n 2 (kd_m1_inSome.at 11 rfl) rfl rfl ?_
      refine ok_iald (kd_m1_inSome.at 12 rfl) sh_48 ?_
      refine ok_ior (kd_m1_inSome.at 13 rfl) ?_
      refine ok_topi (fun x2 hx2 => ?_)
      refine ok_istore_n (lv' := [(1, .int x2), (0, .ref 9), (2, .int v2)]) (kd_m1_inSome.at 14 rfl) rfl (by decide) rfl ?_
      refine ok_nx (fun x3 hx3 => ?_)
      refine ok_iinc (v := x3) (lv' := [(2, .int x3), (1, .int x2), (0, .ref 9)]) 2 (kd_m1_inSome.at 15 rfl) rfl hx3.symm (by decide) rfl ?_
      refine ok_goto (tgt := 4) (kd_m1_inSome.at 16 rfl) (by decide) ?_
      refine ok_sub (lv' := [(0, .ref 9), (1, .int x2), (2, .int x3)]) [2, 1, 0] rfl ?_
      exact ih x2 x3 S
def f_m1_inSome  (S : kSt) : Option (Int32 × kSt) :=
  f_m1_inSome_L4 
    (fun (x4 : Int32) (S5 : kSt) =>
      some (x4, S5)
    )
    kFU 0 0 S
theorem ok_m1_inSome {l : Launch} {G : kG} {E : kE}   (S : kSt) : kFn l G E E kjI m1_inSome 1 [.ref 9] S (f_m1_inSome  S) := by
  unfold f_m1_inSome
  refine kFn_of (by decide +kernel) (fun hG => Nat.le_of_ble_eq_true rfl) ?_
  show kOk _ _ _ _ _ _ _ _ [(0, .ref 9)] _ _
  refine ok_iconst (v := 0) (kd_m1_inSome.at 0 rfl) (by decide) ?_
  refine ok_istore_n (lv' := [(1, .int 0), (0, .ref 9)]) (kd_m1_inSome.at 1 rfl) rfl (by decide) rfl ?_
  refine ok_iconst (v := 0) (kd_m1_inSome.at 2 rfl) (by decide) ?_
  refine ok_istore_n (lv' := [(2, .int 0), (1, .int 0), (0, .ref 9)]) (kd_m1_inSome.at 3 rfl) rfl (by decide) rfl ?_
  refine ok_sub (lv' := [(0, .ref 9), (1, .int 0), (2, .int 0)]) [2, 1, 0] rfl ?_
  refine ok_m1_inSome_L4 _ (fun x4 S5 => ?_) kFU 0 0 S
  refine ok_iload_n 0 (kd_m1_inSome.at 17 rfl) rfl rfl ?_
  exact ok_ireturn (kd_m1_inSome.at 18 rfl) rfl
def f_m1_inAll_L20   (k43 : Int32 → kSt → Option (Int32 × kSt))  : Nat → Int32 → Int32 → kSt → Option (Int32 × kSt)
  | 0, _, _, _ => none
  | n + 1, v1, v2, S =>
    if (S.1 9 4) ≤ v2 then
      k43 v1 S
    else
      kgi v2 16 (
        knx (v1 &&& (S.1 48 v2.toNatClampNeg)) fun x4 =>
        knx (v2 + 1) fun x5 =>
        f_m1_inAll_L20 k43 n x4 x5 S
      )
theorem ok_m1_inAll_L20 {l : Launch} {G : kG} {E : kE}     (k43 : Int32 → kSt → Option (Int32 × kSt)) (hk43 : ∀ (v1 : Int32) (S : kSt), kOk l G E (kZ G E kjI) m1_inAll (kdp (1)) (k43 v1 S) 43 [(1, .int v1)] [] S) : ∀ (n : Nat) (v1 : Int32) (v2 : Int32) (S : kSt), kOk l G E (kZ G E kjI) m1_inAll (kdp (1)) (f_m1_inAll_L20 k43 n v1 v2 S) 20 [(0, .ref 9), (1, .int v1), (2, .int v2)] [] S := by
  intro n
  induction n with
  | zero => intro v1 v2 S; exact ok_none
  | succ n ih =>
    intro v1 v2 S
    rw [f_m1_inAll_L20]
    refine ok_iload_n 2 (kd_m1_inAll.at 12 rfl) rfl rfl ?_
    refine ok_aload_n 0 (kd_m1_inAll.at 13 rfl) rfl rfl ?_
    refine ok_getI (kd_m1_inAll.at 14 rfl) kf1_28 sh_9 rfl ?_
    refine ok_icmp_ge (tgt := 43) (kd_m1_inAll.at 15 rfl) (by decide) (fun h3 => ?_) (fun h3 => ?_)
    · refine ok_sub (lv' := [(1, .int v1)]) [1] rfl ?_
      exact hk43 v1 S
    · refine ok_iload_n 1 (kd_m1_inAll.at 16 rfl) rfl rfl ?_
      refine ok_aload_n 0 (kd_m1_inAll.at 17 rfl) rfl rfl ?_
      refine ok_getR (kd_m1_inAll.at 18 rfl) kf1_25 sh_9 rfl (kr_9_3 _) ?_
      refine ok_iload_n 2 (kd_m1_inAll.at 19 rfl) rfl rfl ?_
      refine ok_iald (kd_m1_inAll.at 20 rfl) sh_48 ?_
      refine ok_iand (kd_m1_inAll.at 21 rfl) ?_
      refine ok_topi (fun x4 hx4 => ?_)
      refine ok_istore_n (lv' := [(1, .int x4), (0, .ref 9), (2, .int v2)]) (kd_m1_inAll.at 22 rfl) rfl (by decide) rfl ?_
      refine ok_nx (fun x5 hx5 => ?_)
      refine ok_iinc (v := x5) (lv' := [(2, .int x5), (1, .int x4), (0, .ref 9)]) 2 (kd_m1_inAll.at 23 rfl) rfl hx5.symm (by decide) rfl ?_
      refine ok_goto (tgt := 20) (kd_m1_inAll.at 24 rfl) (by decide) ?_
      refine ok_sub (lv' := [(0, .ref 9), (1, .int x4), (2, .int x5)]) [2, 1, 0] rfl ?_
      exact ih x4 x5 S
def f_m1_inAll  (S : kSt) : Option (Int32 × kSt) :=
  knx (if (S.1 9 4) = 0 then 0 else S.1 48 0) fun x2 =>
  f_m1_inAll_L20 
    (fun (x6 : Int32) (S7 : kSt) =>
      some (x6, S7)
    )
    kFU x2 1 S
theorem ok_m1_inAll {l : Launch} {G : kG} {E : kE}   (S : kSt) : kFn l G E E kjI m1_inAll 1 [.ref 9] S (f_m1_inAll  S) := by
  unfold f_m1_inAll
  refine kFn_of (by decide +kernel) (fun hG => Nat.le_of_ble_eq_true rfl) ?_
  show kOk _ _ _ _ _ _ _ _ [(0, .ref 9)] _ _
  refine ok_aload_n 0 (kd_m1_inAll.at 0 rfl) rfl rfl ?_
  refine ok_getI (kd_m1_inAll.at 1 rfl) kf1_28 sh_9 rfl ?_
  refine ok_fold (α := Int32) (pcJ := 17) (lvJ := [(0, .ref 9)]) (stJ := []) (mk := fun v => .int v) (fun K => ?_) (fun x2 => ?_)
  · refine ok_ap ?_
    refine ok_if_ne (tgt := 11) (kd_m1_inAll.at 2 rfl) (by decide) (fun h1 => ?_) (fun h1 => ?_)
    · refine ok_aload_n 0 (kd_m1_inAll.at 5 rfl) rfl rfl ?_
      refine ok_getR (kd_m1_inAll.at 6 rfl) kf1_25 sh_9 rfl (kr_9_3 _) ?_
      refine ok_iconst (v := 0) (kd_m1_inAll.at 7 rfl) (by decide) ?_
      refine ok_ialdK (j := 0) (kd_m1_inAll.at 8 rfl) sh_48 (by decide) (by decide) ?_
      exact K (S.1 48 0)
    · refine ok_iconst (v := 0) (kd_m1_inAll.at 3 rfl) (by decide) ?_
      refine ok_goto (tgt := 17) (kd_m1_inAll.at 4 rfl) (by decide) ?_
      exact K 0
  · refine ok_istore_n (lv' := [(1, .int x2), (0, .ref 9)]) (kd_m1_inAll.at 9 rfl) rfl (by decide) rfl ?_
    refine ok_iconst (v := 1) (kd_m1_inAll.at 10 rfl) (by decide) ?_
    refine ok_istore_n (lv' := [(2, .int 1), (1, .int x2), (0, .ref 9)]) (kd_m1_inAll.at 11 rfl) rfl (by decide) rfl ?_
    refine ok_sub (lv' := [(0, .ref 9), (1, .int x2), (2, .int 1)]) [2, 1, 0] rfl ?_
    refine ok_m1_inAll_L20 _ (fun x6 S7 => ?_) kFU x2 1 S
    refine ok_iload_n 0 (kd_m1_inAll.at 25 rfl) rfl rfl ?_
    exact ok_ireturn (kd_m1_inAll.at 26 rfl) rfl
def f_m1_leftAtMost_L4   (k31 : Int32 → kSt → Option (Int32 × kSt)) (c1 : Int32) : Nat → Int32 → Int32 → kSt → Option (Int32 × kSt)
  | 0, _, _, _ => none
  | n + 1, v2, v3, S =>
    if (S.1 9 4) ≤ v3 then
      k31 v2 S
    else
      kgi v3 16 (
        knx (v2 + (((S.1 48 v3.toNatClampNeg) >>> (c1 &&& 31)) &&& 1)) fun x2 =>
        knx (v3 + 1) fun x3 =>
        f_m1_leftAtMost_L4 k31 c1 n x2 x3 S
      )
theorem ok_m1_leftAtMost_L4 {l : Launch} {G : kG} {E : kE}    (c1 : Int32) (k31 : Int32 → kSt → Option (Int32 × kSt)) (hk31 : ∀ (v2 : Int32) (S : kSt), kOk l G E (kZ G E kjI) m1_leftAtMost (kdp (1)) (k31 v2 S) 31 [(0, .ref 9), (2, .int v2)] [] S) : ∀ (n : Nat) (v2 : Int32) (v3 : Int32) (S : kSt), kOk l G E (kZ G E kjI) m1_leftAtMost (kdp (1)) (f_m1_leftAtMost_L4 k31 c1 n v2 v3 S) 4 [(0, .ref 9), (1, .int c1), (2, .int v2), (3, .int v3)] [] S := by
  intro n
  induction n with
  | zero => intro v2 v3 S; exact ok_none
  | succ n ih =>
    intro v2 v3 S
    rw [f_m1_leftAtMost_L4]
    refine ok_iload_n 3 (kd_m1_leftAtMost.at 4 rfl) rfl rfl ?_
    refine ok_aload_n 0 (kd_m1_leftAtMost.at 5 rfl) rfl rfl ?_
    refine ok_getI (kd_m1_leftAtMost.at 6 rfl) kf1_28 sh_9 rfl ?_
    refine ok_icmp_ge (tgt := 31) (kd_m1_leftAtMost.at 7 rfl) (by decide) (fun h1 => ?_) (fun h1 => ?_)
    · refine ok_sub (lv' := [(0, .ref 9), (2, .int v2)]) [0, 2] rfl ?_
      exact hk31 v2 S
    · refine ok_iload_n 2 (kd_m1_leftAtMost.at 8 rfl) rfl rfl ?_
      refine ok_aload_n 0 (kd_m1_leftAtMost.at 9 rfl) rfl rfl ?_
      refine ok_getR (kd_m1_leftAtMost.at 10 rfl) kf1_25 sh_9 rfl (kr_9_3 _) ?_
      refine ok_iload_n 3 (kd_m1_leftAtMost.at 11 rfl) rfl rfl ?_
      refine ok_iald (kd_m1_leftAtMost.at 12 rfl) sh_48 ?_
      refine ok_iload_n 1 (kd_m1_leftAtMost.at 13 rfl) rfl rfl ?_
      refine ok_ishr (kd_m1_leftAtMost.at 14 rfl) ?_
      refine ok_iconst (v := 1) (kd_m1_leftAtMost.at 15 rfl) (by decide) ?_
      refine ok_iand (kd_m1_leftAtMost.at 16 rfl) ?_
      refine ok_iadd (kd_m1_leftAtMost.at 17 rfl) ?_
      refine ok_topi (fun x2 hx2 => ?_)
      refine ok_istore_n (lv' := [(2, .int x2), (0, .ref 9), (1, .int c1), (3, .int v3)]) (kd_m1_leftAtMost.at 18 rfl) rfl (by decide) rfl ?_
      refine ok_nx (fun x3 hx3 => ?_)
      refine ok_iinc (v := x3) (lv' := [(3, .int x3), (2, .int x2), (0, .ref 9), (1, .int c1)]) 3 (kd_m1_leftAtMost.at 19 rfl) rfl hx3.symm (by decide) rfl ?_
      refine ok_goto (tgt := 4) (kd_m1_leftAtMost.at 20 rfl) (by decide) ?_
      refine ok_sub (lv' := [(0, .ref 9), (1, .int c1), (2, .int x2), (3, .int x3)]) [2, 3, 1, 0] rfl ?_
      exact ih x2 x3 S
def f_m1_leftAtMost (a1 : Int32) (S : kSt) : Option (Int32 × kSt) :=
  f_m1_leftAtMost_L4 
    (fun (x4 : Int32) (S5 : kSt) =>
      some (kmax x4 ((S5.1 9 4) - x4), S5)
    )
    a1 kFU 0 0 S
theorem ok_m1_leftAtMost {l : Launch} {G : kG} {E : kE} (a1 : Int32)  (S : kSt) : kFn l G E E kjI m1_leftAtMost 1 [.ref 9, .int a1] S (f_m1_leftAtMost a1 S) := by
  unfold f_m1_leftAtMost
  refine kFn_of (by decide +kernel) (fun hG => Nat.le_of_ble_eq_true rfl) ?_
  show kOk _ _ _ _ _ _ _ _ [(0, .ref 9), (1, .int a1)] _ _
  refine ok_iconst (v := 0) (kd_m1_leftAtMost.at 0 rfl) (by decide) ?_
  refine ok_istore_n (lv' := [(2, .int 0), (0, .ref 9), (1, .int a1)]) (kd_m1_leftAtMost.at 1 rfl) rfl (by decide) rfl ?_
  refine ok_iconst (v := 0) (kd_m1_leftAtMost.at 2 rfl) (by decide) ?_
  refine ok_istore_n (lv' := [(3, .int 0), (2, .int 0), (0, .ref 9), (1, .int a1)]) (kd_m1_leftAtMost.at 3 rfl) rfl (by decide) rfl ?_
  refine ok_sub (lv' := [(0, .ref 9), (1, .int a1), (2, .int 0), (3, .int 0)]) [2, 3, 1, 0] rfl ?_
  refine ok_m1_leftAtMost_L4 a1 _ (fun x4 S5 => ?_) kFU 0 0 S
  refine ok_iload_n 1 (kd_m1_leftAtMost.at 21 rfl) rfl rfl ?_
  refine ok_aload_n 0 (kd_m1_leftAtMost.at 22 rfl) rfl rfl ?_
  refine ok_getI (kd_m1_leftAtMost.at 23 rfl) kf1_28 sh_9 rfl ?_
  refine ok_iload_n 1 (kd_m1_leftAtMost.at 24 rfl) rfl rfl ?_
  refine ok_isub (kd_m1_leftAtMost.at 25 rfl) ?_
  refine ok_mmax (kd_m1_leftAtMost.at 26 rfl) kc1_87 (kfit_of (by decide)) (Nat.le_of_ble_eq_true rfl) ?_
  exact ok_ireturn (kd_m1_leftAtMost.at 27 rfl) rfl
def f_m1_bestQuestion_L11   (k54 : Int32 → kSt → Option (Int32 × kSt)) (c1 : Int32) : Nat → Int32 → Int32 → Int32 → kSt → Option (Int32 × kSt)
  | 0, _, _, _, _ => none
  | n + 1, v2, v3, v4, S =>
    if (S.1 9 4) ≤ 0 then
      k54 v2 S
    else
      if c1 ≤ v4 then
        k54 v2 S
      else
        (f_m1_leftAtMost v4 S).bind fun q4 =>
        knx (fun (x5 : Int32) (x6 : Int32) (S7 : kSt) =>
          knx (v4 + 1) fun x8 =>
          f_m1_bestQuestion_L11 k54 c1 n x5 x6 x8 S7
          ) fun j48 =>
        knx (fun  (S9 : kSt) =>
          j48 v4 q4.1 S9
          ) fun j42 =>
        if v2 < 0 then
          j42  q4.2
        else
          if v3 ≤ q4.1 then
            j48 v2 v3 q4.2
          else
            j42  q4.2
theorem ok_m1_bestQuestion_L11 {l : Launch} {G : kG} {E : kE}    (c1 : Int32) (k54 : Int32 → kSt → Option (Int32 × kSt)) (hk54 : ∀ (v2 : Int32) (S : kSt), kOk l G E (kZ G E kjI) m1_bestQuestion (kdp (2)) (k54 v2 S) 54 [(2, .int v2)] [] S) : ∀ (n : Nat) (v2 : Int32) (v3 : Int32) (v4 : Int32) (S : kSt), kOk l G E (kZ G E kjI) m1_bestQuestion (kdp (2)) (f_m1_bestQuestion_L11 k54 c1 n v2 v3 v4 S) 11 [(0, .ref 9), (1, .int c1), (2, .int v2), (3, .int v3), (4, .int v4)] [] S := by
  intro n
  induction n with
  | zero => intro v2 v3 v4 S; exact ok_none
  | succ n ih =>
    intro v2 v3 v4 S
    rw [f_m1_bestQuestion_L11]
    refine ok_aload_n 0 (kd_m1_bestQuestion.at 7 rfl) rfl rfl ?_
    refine ok_getI (kd_m1_bestQuestion.at 8 rfl) kf1_28 sh_9 rfl ?_
    refine ok_if_le (tgt := 54) (kd_m1_bestQuestion.at 9 rfl) (by decide) (fun h2 => ?_) (fun h2 => ?_)
    · refine ok_sub (lv' := [(2, .int v2)]) [2] rfl ?_
      exact hk54 v2 S
    · refine ok_iload 4 (kd_m1_bestQuestion.at 10 rfl) rfl ?_
      refine ok_iload_n 1 (kd_m1_bestQuestion.at 11 rfl) rfl rfl ?_
      refine ok_icmp_ge (tgt := 54) (kd_m1_bestQuestion.at 12 rfl) (by decide) (fun h3 => ?_) (fun h3 => ?_)
      · refine ok_sub (lv' := [(2, .int v2)]) [2] rfl ?_
        exact hk54 v2 S
      · refine ok_aload_n 0 (kd_m1_bestQuestion.at 13 rfl) rfl rfl ?_
        refine ok_iload 4 (kd_m1_bestQuestion.at 14 rfl) rfl ?_
        refine ok_callVI (M' := m1_leftAtMost) (as := [.int v4]) (st := []) (kd_m1_bestQuestion.at 15 rfl) kc1_93 sh_9 rfl rfl (by decide) (ok_m1_leftAtMost v4 S) (kfit_of (by decide)) rfl (Nat.le_of_ble_eq_true rfl) (fun q4 hq4 => ?_)
        refine ok_istore (lv' := [(5, .int q4.1), (0, .ref 9), (1, .int c1), (2, .int v2), (3, .int v3), (4, .int v4)]) (kd_m1_bestQuestion.at 16 rfl) (by decide) rfl ?_
        refine ok_iload_n 3 (kd_m1_bestQuestion.at 17 rfl) rfl rfl ?_
        refine ok_nx (fun j48 hj48 => ?_)
        have K48 : ∀ (x5 : Int32) (x6 : Int32) (S7 : kSt), kOk l G E (kZ G E kjI) m1_bestQuestion (kdp (2)) (j48 x5 x6 S7) 48 [(0, .ref 9), (1, .int c1), (2, .int x5), (3, .int x6), (4, .int v4)] [] S7 := by
          subst hj48
          intro x5 x6 S7
          refine ok_nx (fun x8 hx8 => ?_)
          refine ok_iinc (v := x8) (lv' := [(4, .int x8), (0, .ref 9), (1, .int c1), (2, .int x5), (3, .int x6)]) 4 (kd_m1_bestQuestion.at 26 rfl) rfl hx8.symm (by decide) rfl ?_
          refine ok_goto (tgt := 11) (kd_m1_bestQuestion.at 27 rfl) (by decide) ?_
          refine ok_sub (lv' := [(0, .ref 9), (1, .int c1), (2, .int x5), (3, .int x6), (4, .int x8)]) [1, 2, 3, 4, 0] rfl ?_
          exact ih x5 x6 x8 S7
        clear hj48
        refine ok_nx (fun j42 hj42 => ?_)
        have K42 : ∀  (S9 : kSt), kOk l G E (kZ G E kjI) m1_bestQuestion (kdp (2)) (j42  S9) 42 [(0, .ref 9), (1, .int c1), (4, .int v4), (5, .int q4.1)] [] S9 := by
          subst hj42
          intro  S9
          refine ok_iload 3 (kd_m1_bestQuestion.at 22 rfl) rfl ?_
          refine ok_istore_n (lv' := [(3, .int q4.1), (0, .ref 9), (1, .int c1), (4, .int v4), (5, .int q4.1)]) (kd_m1_bestQuestion.at 23 rfl) rfl (by decide) rfl ?_
          refine ok_iload 3 (kd_m1_bestQuestion.at 24 rfl) rfl ?_
          refine ok_istore_n (lv' := [(2, .int v4), (3, .int q4.1), (0, .ref 9), (1, .int c1), (4, .int v4), (5, .int q4.1)]) (kd_m1_bestQuestion.at 25 rfl) rfl (by decide) rfl ?_
          refine ok_sub (lv' := [(0, .ref 9), (1, .int c1), (2, .int v4), (3, .int q4.1), (4, .int v4)]) [2, 3, 0, 1, 4] rfl ?_
          exact K48 v4 q4.1 S9
        clear hj42
        refine ok_if_lt (tgt := 42) (kd_m1_bestQuestion.at 18 rfl) (by decide) (fun h10 => ?_) (fun h10 => ?_)
        · refine ok_sub (lv' := [(0, .ref 9), (1, .int c1), (4, .int v4), (5, .int q4.1)]) [1, 2, 5, 0] rfl ?_
          exact K42  q4.2
        · refine ok_iload 0 (kd_m1_bestQuestion.at 19 rfl) rfl ?_
          refine ok_iload_n 4 (kd_m1_bestQuestion.at 20 rfl) rfl rfl ?_
          refine ok_icmp_ge (tgt := 48) (kd_m1_bestQuestion.at 21 rfl) (by decide) (fun h11 => ?_) (fun h11 => ?_)
          · refine ok_sub (lv' := [(0, .ref 9), (1, .int c1), (2, .int v2), (3, .int v3), (4, .int v4)]) [1, 2, 3, 4, 5] rfl ?_
            exact K48 v2 v3 q4.2
          · refine ok_sub (lv' := [(0, .ref 9), (1, .int c1), (4, .int v4), (5, .int q4.1)]) [1, 2, 5, 0] rfl ?_
            exact K42  q4.2
def f_m1_bestQuestion (a1 : Int32) (S : kSt) : Option (Int32 × kSt) :=
  knx (S.1 9 4) fun x1 =>
  f_m1_bestQuestion_L11 
    (fun (x12 : Int32) (S13 : kSt) =>
      some (x12, S13)
    )
    a1 kFU (-2) x1 0 S
theorem ok_m1_bestQuestion {l : Launch} {G : kG} {E : kE} (a1 : Int32)  (S : kSt) : kFn l G E E kjI m1_bestQuestion 2 [.ref 9, .int a1] S (f_m1_bestQuestion a1 S) := by
  unfold f_m1_bestQuestion
  refine kFn_of (by decide +kernel) (fun hG => Nat.le_of_ble_eq_true rfl) ?_
  show kOk _ _ _ _ _ _ _ _ [(0, .ref 9), (1, .int a1)] _ _
  refine ok_bipush (v := (-2)) (kd_m1_bestQuestion.at 0 rfl) (by decide) ?_
  refine ok_istore_n (lv' := [(2, .int (-2)), (0, .ref 9), (1, .int a1)]) (kd_m1_bestQuestion.at 1 rfl) rfl (by decide) rfl ?_
  refine ok_aload_n 1 (kd_m1_bestQuestion.at 2 rfl) rfl rfl ?_
  refine ok_getI (kd_m1_bestQuestion.at 3 rfl) kf1_28 sh_9 rfl ?_
  refine ok_topi (fun x1 hx1 => ?_)
  refine ok_istore_n (lv' := [(3, .int x1), (2, .int (-2)), (0, .ref 9), (1, .int a1)]) (kd_m1_bestQuestion.at 4 rfl) rfl (by decide) rfl ?_
  refine ok_iconst (v := 0) (kd_m1_bestQuestion.at 5 rfl) (by decide) ?_
  refine ok_istore (lv' := [(4, .int 0), (3, .int x1), (2, .int (-2)), (0, .ref 9), (1, .int a1)]) (kd_m1_bestQuestion.at 6 rfl) (by decide) rfl ?_
  refine ok_sub (lv' := [(0, .ref 9), (1, .int a1), (2, .int (-2)), (3, .int x1), (4, .int 0)]) [3, 4, 2, 1, 0] rfl ?_
  refine ok_m1_bestQuestion_L11 a1 _ (fun x12 S13 => ?_) kFU (-2) x1 0 S
  refine ok_iload_n 0 (kd_m1_bestQuestion.at 28 rfl) rfl rfl ?_
  exact ok_ireturn (kd_m1_bestQuestion.at 29 rfl) rfl
def f_m2_lookBy_L14   (k49 : kSt → Option kSt) (c2 : Int32) (c3 : Int32) : Nat → Int32 → Int32 → kSt → Option kSt
  | 0, _, _, _ => none
  | n + 1, v4, v5, S =>
    if c3 ≤ v5 then
      k49  S
    else
      if c2 ≤ 0 then
        k49  S
      else
        kgz c2 (
          knx (krem v4 c2) fun x4 =>
          kgi x4 5 (
            kgi x4 5 (
              knx (kuI S 54 x4.toNatClampNeg ((S.1 54 x4.toNatClampNeg) + 1)) fun S5 =>
              kgz c2 (
                knx (v4 / c2) fun x6 =>
                knx (v5 + 1) fun x7 =>
                f_m2_lookBy_L14 k49 c2 c3 n x6 x7 S5
              )
            )
          )
        )
theorem ok_m2_lookBy_L14 {l : Launch} {G : kG} {E : kE}    (c2 : Int32) (c3 : Int32) (k49 : kSt → Option kSt) (hk49 : ∀  (S : kSt), kOk l G E (kZ G E kjV) m2_lookBy (kdp (2)) (k49  S) 49 [] [] S) : ∀ (n : Nat) (v4 : Int32) (v5 : Int32) (S : kSt), kOk l G E (kZ G E kjV) m2_lookBy (kdp (2)) (f_m2_lookBy_L14 k49 c2 c3 n v4 v5 S) 14 [(0, .ref 11), (2, .int c2), (3, .int c3), (4, .int v4), (5, .int v5)] [] S := by
  intro n
  induction n with
  | zero => intro v4 v5 S; exact ok_none
  | succ n ih =>
    intro v4 v5 S
    rw [f_m2_lookBy_L14]
    refine ok_iload 4 (kd_m2_lookBy.at 8 rfl) rfl ?_
    refine ok_iload_n 2 (kd_m2_lookBy.at 9 rfl) rfl rfl ?_
    refine ok_icmp_ge (tgt := 49) (kd_m2_lookBy.at 10 rfl) (by decide) (fun h2 => ?_) (fun h2 => ?_)
    · refine ok_sub (lv' := []) [] rfl ?_
      exact hk49  S
    · refine ok_iload_n 1 (kd_m2_lookBy.at 11 rfl) rfl rfl ?_
      refine ok_if_le (tgt := 49) (kd_m2_lookBy.at 12 rfl) (by decide) (fun h3 => ?_) (fun h3 => ?_)
      · refine ok_sub (lv' := []) [] rfl ?_
        exact hk49  S
      · refine ok_aload_n 0 (kd_m2_lookBy.at 13 rfl) rfl rfl ?_
        refine ok_getR (kd_m2_lookBy.at 14 rfl) kf2_9 sh_11 rfl (kr_11_0 _) ?_
        refine ok_iload 3 (kd_m2_lookBy.at 15 rfl) rfl ?_
        refine ok_iload_n 1 (kd_m2_lookBy.at 16 rfl) rfl rfl ?_
        refine ok_iremG (kd_m2_lookBy.at 17 rfl) ?_
        refine ok_topi (fun x4 hx4 => ?_)
        refine ok_dup2 (kd_m2_lookBy.at 18 rfl) rfl rfl ?_
        refine ok_iald (kd_m2_lookBy.at 19 rfl) sh_54 ?_
        refine ok_iconst (v := 1) (kd_m2_lookBy.at 20 rfl) (by decide) ?_
        refine ok_iadd (kd_m2_lookBy.at 21 rfl) ?_
        refine ok_iast (kd_m2_lookBy.at 22 rfl) sh_54 ?_
        refine ok_nS (fun S5 hS5 => ?_)
        refine ok_iload 3 (kd_m2_lookBy.at 23 rfl) rfl ?_
        refine ok_iload_n 1 (kd_m2_lookBy.at 24 rfl) rfl rfl ?_
        refine ok_idivG (kd_m2_lookBy.at 25 rfl) ?_
        refine ok_topi (fun x6 hx6 => ?_)
        refine ok_istore (lv' := [(4, .int x6), (0, .ref 11), (2, .int c2), (3, .int c3), (5, .int v5)]) (kd_m2_lookBy.at 26 rfl) (by decide) rfl ?_
        refine ok_nx (fun x7 hx7 => ?_)
        refine ok_iinc (v := x7) (lv' := [(5, .int x7), (4, .int x6), (0, .ref 11), (2, .int c2), (3, .int c3)]) 4 (kd_m2_lookBy.at 27 rfl) rfl hx7.symm (by decide) rfl ?_
        refine ok_goto (tgt := 14) (kd_m2_lookBy.at 28 rfl) (by decide) ?_
        refine ok_sub (lv' := [(0, .ref 11), (2, .int c2), (3, .int c3), (4, .int x6), (5, .int x7)]) [2, 3, 4, 1, 0] rfl ?_
        exact ih x6 x7 S5
def f_m2_lookBy (a1 : Int32) (a2 : Int32) (a3 : Int32) (S : kSt) : Option kSt :=
  (f_mJ_fill_J7 54 5 0 S).bind fun q1 =>
  f_m2_lookBy_L14 
    (fun  (S8 : kSt) =>
      some S8
    )
    a2 a3 kFU a1 0 q1
theorem ok_m2_lookBy {l : Launch} {G : kG} {E : kE} (a1 : Int32) (a2 : Int32) (a3 : Int32)  (S : kSt) : kFn l G E E kjV m2_lookBy 2 [.ref 11, .int a1, .int a2, .int a3] S (f_m2_lookBy a1 a2 a3 S) := by
  unfold f_m2_lookBy
  refine kFn_of (by decide +kernel) (fun hG => Nat.le_of_ble_eq_true rfl) ?_
  show kOk _ _ _ _ _ _ _ _ [(0, .ref 11), (1, .int a1), (2, .int a2), (3, .int a3)] _ _
  refine ok_aload_n 0 (kd_m2_lookBy.at 0 rfl) rfl rfl ?_
  refine ok_getR (kd_m2_lookBy.at 1 rfl) kf2_9 sh_11 rfl (kr_11_0 _) ?_
  refine ok_iconst (v := 0) (kd_m2_lookBy.at 2 rfl) (by decide) ?_
  refine ok_callSV (M' := mJ_fill_J7) (as := [.ref 54, .int 0]) (st := []) (kd_m2_lookBy.at 3 rfl) kc2_30  rfl (by decide) (ok_mJ_fill_J7 54 5 0 sh_54 S) (kfit_of (by decide)) rfl (Nat.le_of_ble_eq_true rfl) (fun q1 hq1 => ?_)
  refine ok_iload_n 1 (kd_m2_lookBy.at 4 rfl) rfl rfl ?_
  refine ok_istore (lv' := [(4, .int a1), (0, .ref 11), (1, .int a1), (2, .int a2), (3, .int a3)]) (kd_m2_lookBy.at 5 rfl) (by decide) rfl ?_
  refine ok_iconst (v := 0) (kd_m2_lookBy.at 6 rfl) (by decide) ?_
  refine ok_istore (lv' := [(5, .int 0), (4, .int a1), (0, .ref 11), (1, .int a1), (2, .int a2), (3, .int a3)]) (kd_m2_lookBy.at 7 rfl) (by decide) rfl ?_
  refine ok_sub (lv' := [(0, .ref 11), (2, .int a2), (3, .int a3), (4, .int a1), (5, .int 0)]) [2, 4, 5, 1, 0] rfl ?_
  refine ok_m2_lookBy_L14 a2 a3 _ (fun S8 => ?_) kFU a1 0 q1
  exact ok_return (kd_m2_lookBy.at 29 rfl) rfl
def f_m10_firstMost_L4 (w0 : Nat)  (k32 : Int32 → kSt → Option (Int32 × kSt)) (c1 : Int32) : Nat → Int32 → Int32 → kSt → Option (Int32 × kSt)
  | 0, _, _, _ => none
  | n + 1, v2, v3, S =>
    if c1 ≤ v3 then
      k32 v2 S
    else
      if (Int32.ofNat 5) ≤ v3 then
        k32 v2 S
      else
        kgi v3 5 (
          kgi v2 5 (
            knx (fun (x3 : Int32) (S4 : kSt) =>
              knx (v3 + 1) fun x5 =>
              f_m10_firstMost_L4 w0 k32 c1 n x3 x5 S4
              ) fun j26 =>
            if (S.1 w0 v3.toNatClampNeg) ≤ (S.1 w0 v2.toNatClampNeg) then
              j26 v2 S
            else
              j26 v3 S
          )
        )
theorem ok_m10_firstMost_L4 {l : Launch} {G : kG} {E : kE} (w0 : Nat) (hw0 : kSH[w0]? = some (1, 0, 5))  (c1 : Int32) (k32 : Int32 → kSt → Option (Int32 × kSt)) (hk32 : ∀ (v2 : Int32) (S : kSt), kOk l G E (kZ G E kjI) m10_firstMost (kdp (1)) (k32 v2 S) 32 [(2, .int v2)] [] S) : ∀ (n : Nat) (v2 : Int32) (v3 : Int32) (S : kSt), kOk l G E (kZ G E kjI) m10_firstMost (kdp (1)) (f_m10_firstMost_L4 w0 k32 c1 n v2 v3 S) 4 [(0, .ref w0), (1, .int c1), (2, .int v2), (3, .int v3)] [] S := by
  intro n
  induction n with
  | zero => intro v2 v3 S; exact ok_none
  | succ n ih =>
    intro v2 v3 S
    rw [f_m10_firstMost_L4]
    refine ok_iload_n 3 (kd_m10_firstMost.at 4 rfl) rfl rfl ?_
    refine ok_iload_n 1 (kd_m10_firstMost.at 5 rfl) rfl rfl ?_
    refine ok_icmp_ge (tgt := 32) (kd_m10_firstMost.at 6 rfl) (by decide) (fun h1 => ?_) (fun h1 => ?_)
    · refine ok_sub (lv' := [(2, .int v2)]) [2] rfl ?_
      exact hk32 v2 S
    · refine ok_iload_n 3 (kd_m10_firstMost.at 7 rfl) rfl rfl ?_
      refine ok_aload_n 0 (kd_m10_firstMost.at 8 rfl) rfl rfl ?_
      refine ok_alen (kd_m10_firstMost.at 9 rfl) hw0 ?_
      refine ok_icmp_ge (tgt := 32) (kd_m10_firstMost.at 10 rfl) (by decide) (fun h2 => ?_) (fun h2 => ?_)
      · refine ok_sub (lv' := [(2, .int v2)]) [2] rfl ?_
        exact hk32 v2 S
      · refine ok_aload_n 0 (kd_m10_firstMost.at 11 rfl) rfl rfl ?_
        refine ok_iload_n 3 (kd_m10_firstMost.at 12 rfl) rfl rfl ?_
        refine ok_iald (kd_m10_firstMost.at 13 rfl) hw0 ?_
        refine ok_aload_n 0 (kd_m10_firstMost.at 14 rfl) rfl rfl ?_
        refine ok_iload_n 2 (kd_m10_firstMost.at 15 rfl) rfl rfl ?_
        refine ok_iald (kd_m10_firstMost.at 16 rfl) hw0 ?_
        refine ok_nx (fun j26 hj26 => ?_)
        have K26 : ∀ (x3 : Int32) (S4 : kSt), kOk l G E (kZ G E kjI) m10_firstMost (kdp (1)) (j26 x3 S4) 26 [(0, .ref w0), (1, .int c1), (2, .int x3), (3, .int v3)] [] S4 := by
          subst hj26
          intro x3 S4
          refine ok_nx (fun x5 hx5 => ?_)
          refine ok_iinc (v := x5) (lv' := [(3, .int x5), (0, .ref w0), (1, .int c1), (2, .int x3)]) 3 (kd_m10_firstMost.at 20 rfl) rfl hx5.symm (by decide) rfl ?_
          refine ok_goto (tgt := 4) (kd_m10_firstMost.at 21 rfl) (by decide) ?_
          refine ok_sub (lv' := [(0, .ref w0), (1, .int c1), (2, .int x3), (3, .int x5)]) [1, 2, 3, 0] rfl ?_
          exact ih x3 x5 S4
        clear hj26
        refine ok_icmp_le (tgt := 26) (kd_m10_firstMost.at 17 rfl) (by decide) (fun h6 => ?_) (fun h6 => ?_)
        · exact K26 v2 S
        · refine ok_iload_n 3 (kd_m10_firstMost.at 18 rfl) rfl rfl ?_
          refine ok_istore_n (lv' := [(2, .int v3), (0, .ref w0), (1, .int c1), (3, .int v3)]) (kd_m10_firstMost.at 19 rfl) rfl (by decide) rfl ?_
          refine ok_sub (lv' := [(0, .ref w0), (1, .int c1), (2, .int v3), (3, .int v3)]) [1, 2, 0, 3] rfl ?_
          exact K26 v3 S
def f_m10_firstMost (w0 : Nat) (a1 : Int32) (S : kSt) : Option (Int32 × kSt) :=
  f_m10_firstMost_L4 w0
    (fun (x7 : Int32) (S8 : kSt) =>
      some (x7, S8)
    )
    a1 kFU 0 1 S
theorem ok_m10_firstMost {l : Launch} {G : kG} {E : kE} (w0 : Nat) (a1 : Int32) (hw0 : kSH[w0]? = some (1, 0, 5)) (S : kSt) : kFn l G E E kjI m10_firstMost 1 [.ref w0, .int a1] S (f_m10_firstMost w0 a1 S) := by
  unfold f_m10_firstMost
  refine kFn_of (by decide +kernel) (fun hG => Nat.le_of_ble_eq_true rfl) ?_
  show kOk _ _ _ _ _ _ _ _ [(0, .ref w0), (1, .int a1)] _ _
  refine ok_iconst (v := 0) (kd_m10_firstMost.at 0 rfl) (by decide) ?_
  refine ok_istore_n (lv' := [(2, .int 0), (0, .ref w0), (1, .int a1)]) (kd_m10_firstMost.at 1 rfl) rfl (by decide) rfl ?_
  refine ok_iconst (v := 1) (kd_m10_firstMost.at 2 rfl) (by decide) ?_
  refine ok_istore_n (lv' := [(3, .int 1), (2, .int 0), (0, .ref w0), (1, .int a1)]) (kd_m10_firstMost.at 3 rfl) rfl (by decide) rfl ?_
  refine ok_sub (lv' := [(0, .ref w0), (1, .int a1), (2, .int 0), (3, .int 1)]) [2, 3, 1, 0] rfl ?_
  refine ok_m10_firstMost_L4 w0 hw0 a1 _ (fun x7 S8 => ?_) kFU 0 1 S
  refine ok_iload_n 0 (kd_m10_firstMost.at 22 rfl) rfl rfl ?_
  exact ok_ireturn (kd_m10_firstMost.at 23 rfl) rfl
def f_m2_reckon_L8   (k30 : kSt → Option kSt) (c1 : Int32) (c2 : Int32) (c3 : Int32) : Nat → Int32 → kSt → Option kSt
  | 0, _, _ => none
  | n + 1, v4, S =>
    if c3 ≤ v4 then
      k30  S
    else
      knx (kuI S 11 2 ((S.1 11 2) * c1)) fun S3 =>
      knx (v4 + 1) fun x4 =>
      f_m2_reckon_L8 k30 c1 c2 c3 n x4 S3
theorem ok_m2_reckon_L8 {l : Launch} {G : kG} {E : kE}    (c1 : Int32) (c2 : Int32) (c3 : Int32) (k30 : kSt → Option kSt) (hk30 : ∀  (S : kSt), kOk l G E (kZ G E kjV) m2_reckon (kdp (3)) (k30  S) 30 [(0, .ref 11), (1, .int c1), (2, .int c2), (3, .int c3)] [] S) : ∀ (n : Nat) (v4 : Int32) (S : kSt), kOk l G E (kZ G E kjV) m2_reckon (kdp (3)) (f_m2_reckon_L8 k30 c1 c2 c3 n v4 S) 8 [(0, .ref 11), (1, .int c1), (2, .int c2), (3, .int c3), (4, .int v4)] [] S := by
  intro n
  induction n with
  | zero => intro v4 S; exact ok_none
  | succ n ih =>
    intro v4 S
    rw [f_m2_reckon_L8]
    refine ok_iload 4 (kd_m2_reckon.at 5 rfl) rfl ?_
    refine ok_iload_n 3 (kd_m2_reckon.at 6 rfl) rfl rfl ?_
    refine ok_icmp_ge (tgt := 30) (kd_m2_reckon.at 7 rfl) (by decide) (fun h2 => ?_) (fun h2 => ?_)
    · refine ok_sub (lv' := [(0, .ref 11), (1, .int c1), (2, .int c2), (3, .int c3)]) [0, 1, 2, 3] rfl ?_
      exact hk30  S
    · refine ok_aload_n 0 (kd_m2_reckon.at 8 rfl) rfl rfl ?_
      refine ok_dup (kd_m2_reckon.at 9 rfl) rfl ?_
      refine ok_getI (kd_m2_reckon.at 10 rfl) kf2_15 sh_11 rfl ?_
      refine ok_iload_n 1 (kd_m2_reckon.at 11 rfl) rfl rfl ?_
      refine ok_imul (kd_m2_reckon.at 12 rfl) ?_
      refine ok_putI (kd_m2_reckon.at 13 rfl) kf2_15 sh_11 rfl rfl ?_
      refine ok_nS (fun S3 hS3 => ?_)
      refine ok_nx (fun x4 hx4 => ?_)
      refine ok_iinc (v := x4) (lv' := [(4, .int x4), (0, .ref 11), (1, .int c1), (2, .int c2), (3, .int c3)]) 4 (kd_m2_reckon.at 14 rfl) rfl hx4.symm (by decide) rfl ?_
      refine ok_goto (tgt := 8) (kd_m2_reckon.at 15 rfl) (by decide) ?_
      refine ok_sub (lv' := [(0, .ref 11), (1, .int c1), (2, .int c2), (3, .int c3), (4, .int x4)]) [1, 2, 3, 4, 0] rfl ?_
      exact ih x4 S3
def f_m2_reckon_L38   (k83 : kSt → Option kSt) (c1 : Int32) (c2 : Int32) (c3 : Int32) : Nat → Int32 → kSt → Option kSt
  | 0, _, _ => none
  | n + 1, v4, S =>
    if (S.1 11 2) ≤ v4 then
      k83  S
    else
      (f_m2_lookBy v4 c1 c3 S).bind fun q8 =>
      (f_m10_firstMost 54 c1 q8).bind fun q9 =>
      knx (fun  (S10 : kSt) =>
        knx (v4 + 1) fun x11 =>
        f_m2_reckon_L38 k83 c1 c2 c3 n x11 S10
        ) fun j77 =>
      if q9.1 = c2 then
        knx (kuI q9.2 11 1 ((q9.2.1 11 1) + 1)) fun S13 =>
        j77  S13
      else
        j77  q9.2
theorem ok_m2_reckon_L38 {l : Launch} {G : kG} {E : kE}    (c1 : Int32) (c2 : Int32) (c3 : Int32) (k83 : kSt → Option kSt) (hk83 : ∀  (S : kSt), kOk l G E (kZ G E kjV) m2_reckon (kdp (3)) (k83  S) 83 [] [] S) : ∀ (n : Nat) (v4 : Int32) (S : kSt), kOk l G E (kZ G E kjV) m2_reckon (kdp (3)) (f_m2_reckon_L38 k83 c1 c2 c3 n v4 S) 38 [(0, .ref 11), (1, .int c1), (2, .int c2), (3, .int c3), (4, .int v4)] [] S := by
  intro n
  induction n with
  | zero => intro v4 S; exact ok_none
  | succ n ih =>
    intro v4 S
    rw [f_m2_reckon_L38]
    refine ok_iload 4 (kd_m2_reckon.at 21 rfl) rfl ?_
    refine ok_aload_n 0 (kd_m2_reckon.at 22 rfl) rfl rfl ?_
    refine ok_getI (kd_m2_reckon.at 23 rfl) kf2_15 sh_11 rfl ?_
    refine ok_icmp_ge (tgt := 83) (kd_m2_reckon.at 24 rfl) (by decide) (fun h7 => ?_) (fun h7 => ?_)
    · refine ok_sub (lv' := []) [] rfl ?_
      exact hk83  S
    · refine ok_aload_n 0 (kd_m2_reckon.at 25 rfl) rfl rfl ?_
      refine ok_iload 4 (kd_m2_reckon.at 26 rfl) rfl ?_
      refine ok_iload_n 1 (kd_m2_reckon.at 27 rfl) rfl rfl ?_
      refine ok_iload_n 3 (kd_m2_reckon.at 28 rfl) rfl rfl ?_
      refine ok_callVV (M' := m2_lookBy) (as := [.int v4, .int c1, .int c3]) (st := []) (kd_m2_reckon.at 29 rfl) kc2_22 sh_11 rfl rfl (by decide) (ok_m2_lookBy v4 c1 c3 S) (kfit_of (by decide)) rfl (Nat.le_of_ble_eq_true rfl) (fun q8 hq8 => ?_)
      refine ok_aload_n 0 (kd_m2_reckon.at 30 rfl) rfl rfl ?_
      refine ok_getR (kd_m2_reckon.at 31 rfl) kf2_9 sh_11 rfl (kr_11_0 _) ?_
      refine ok_iload_n 1 (kd_m2_reckon.at 32 rfl) rfl rfl ?_
      refine ok_callNI (M' := m10_firstMost) (as := [.ref 54, .int c1]) (st := []) (kd_m2_reckon.at 33 rfl) kc2_26  rfl (by decide) (ok_m10_firstMost 54 c1 sh_54 q8) (kfit_of (by decide)) rfl (Nat.le_of_ble_eq_true rfl) (fun q9 hq9 => ?_)
      refine ok_iload_n 2 (kd_m2_reckon.at 34 rfl) rfl rfl ?_
      refine ok_nx (fun j77 hj77 => ?_)
      have K77 : ∀  (S10 : kSt), kOk l G E (kZ G E kjV) m2_reckon (kdp (3)) (j77  S10) 77 [(0, .ref 11), (1, .int c1), (2, .int c2), (3, .int c3), (4, .int v4)] [] S10 := by
        subst hj77
        intro  S10
        refine ok_nx (fun x11 hx11 => ?_)
        refine ok_iinc (v := x11) (lv' := [(4, .int x11), (0, .ref 11), (1, .int c1), (2, .int c2), (3, .int c3)]) 4 (kd_m2_reckon.at 42 rfl) rfl hx11.symm (by decide) rfl ?_
        refine ok_goto (tgt := 38) (kd_m2_reckon.at 43 rfl) (by decide) ?_
        refine ok_sub (lv' := [(0, .ref 11), (1, .int c1), (2, .int c2), (3, .int c3), (4, .int x11)]) [1, 2, 3, 4, 0] rfl ?_
        exact ih x11 S10
      clear hj77
      refine ok_icmp_ne (tgt := 77) (kd_m2_reckon.at 35 rfl) (by decide) (fun h12 => ?_) (fun h12 => ?_)
      · exact K77  q9.2
      · refine ok_aload_n 0 (kd_m2_reckon.at 36 rfl) rfl rfl ?_
        refine ok_dup (kd_m2_reckon.at 37 rfl) rfl ?_
        refine ok_getI (kd_m2_reckon.at 38 rfl) kf2_19 sh_11 rfl ?_
        refine ok_iconst (v := 1) (kd_m2_reckon.at 39 rfl) (by decide) ?_
        refine ok_iadd (kd_m2_reckon.at 40 rfl) ?_
        refine ok_putI (kd_m2_reckon.at 41 rfl) kf2_19 sh_11 rfl rfl ?_
        refine ok_nS (fun S13 hS13 => ?_)
        exact K77  S13
def f_m2_reckon (a1 : Int32) (a2 : Int32) (a3 : Int32) (S : kSt) : Option kSt :=
  knx (kuI S 11 2 1) fun S1 =>
  f_m2_reckon_L8 
    (fun  (S5 : kSt) =>
      knx (kuI S5 11 1 0) fun S6 =>
      f_m2_reckon_L38 
        (fun  (S14 : kSt) =>
          some S14
        )
        a1 a2 a3 kFU 0 S6
    )
    a1 a2 a3 kFU 0 S1
theorem ok_m2_reckon {l : Launch} {G : kG} {E : kE} (a1 : Int32) (a2 : Int32) (a3 : Int32)  (S : kSt) : kFn l G E E kjV m2_reckon 3 [.ref 11, .int a1, .int a2, .int a3] S (f_m2_reckon a1 a2 a3 S) := by
  unfold f_m2_reckon
  refine kFn_of (by decide +kernel) (fun hG => Nat.le_of_ble_eq_true rfl) ?_
  show kOk _ _ _ _ _ _ _ _ [(0, .ref 11), (1, .int a1), (2, .int a2), (3, .int a3)] _ _
  refine ok_aload_n 0 (kd_m2_reckon.at 0 rfl) rfl rfl ?_
  refine ok_iconst (v := 1) (kd_m2_reckon.at 1 rfl) (by decide) ?_
  refine ok_putI (kd_m2_reckon.at 2 rfl) kf2_15 sh_11 rfl rfl ?_
  refine ok_nS (fun S1 hS1 => ?_)
  refine ok_iconst (v := 0) (kd_m2_reckon.at 3 rfl) (by decide) ?_
  refine ok_istore (lv' := [(4, .int 0), (0, .ref 11), (1, .int a1), (2, .int a2), (3, .int a3)]) (kd_m2_reckon.at 4 rfl) (by decide) rfl ?_
  refine ok_sub (lv' := [(0, .ref 11), (1, .int a1), (2, .int a2), (3, .int a3), (4, .int 0)]) [1, 2, 3, 4, 0] rfl ?_
  refine ok_m2_reckon_L8 a1 a2 a3 _ (fun S5 => ?_) kFU 0 S1
  refine ok_aload_n 0 (kd_m2_reckon.at 16 rfl) rfl rfl ?_
  refine ok_iconst (v := 0) (kd_m2_reckon.at 17 rfl) (by decide) ?_
  refine ok_putI (kd_m2_reckon.at 18 rfl) kf2_19 sh_11 rfl rfl ?_
  refine ok_nS (fun S6 hS6 => ?_)
  refine ok_iconst (v := 0) (kd_m2_reckon.at 19 rfl) (by decide) ?_
  refine ok_istore (lv' := [(4, .int 0), (0, .ref 11), (1, .int a1), (2, .int a2), (3, .int a3)]) (kd_m2_reckon.at 20 rfl) (by decide) rfl ?_
  refine ok_sub (lv' := [(0, .ref 11), (1, .int a1), (2, .int a2), (3, .int a3), (4, .int 0)]) [1, 2, 3, 4, 0] rfl ?_
  refine ok_m2_reckon_L38 a1 a2 a3 _ (fun S14 => ?_) kFU 0 S6
  exact ok_return (kd_m2_reckon.at 44 rfl) rfl
def f_m10_drawFrom (a0 : Int32) (S : kSt) : Option (Int32 × kSt) :=
  some (krem ((75 * a0) + 74) 65537, S)
theorem ok_m10_drawFrom {l : Launch} {G : kG} {E : kE} (a0 : Int32)  (S : kSt) : kFn l G E E kjI m10_drawFrom 1 [.int a0] S (f_m10_drawFrom a0 S) := by
  unfold f_m10_drawFrom
  refine kFn_of (by decide +kernel) (fun hG => Nat.le_of_ble_eq_true rfl) ?_
  show kOk _ _ _ _ _ _ _ _ [(0, .int a0)] _ _
  refine ok_bipush (v := 75) (kd_m10_drawFrom.at 0 rfl) (by decide) ?_
  refine ok_iload_n 0 (kd_m10_drawFrom.at 1 rfl) rfl rfl ?_
  refine ok_imul (kd_m10_drawFrom.at 2 rfl) ?_
  refine ok_bipush (v := 74) (kd_m10_drawFrom.at 3 rfl) (by decide) ?_
  refine ok_iadd (kd_m10_drawFrom.at 4 rfl) ?_
  refine ok_ldcw (kd_m10_drawFrom.at 5 rfl) kco_10_363 ?_
  refine ok_iremK (kd_m10_drawFrom.at 6 rfl) (by decide) ?_
  exact ok_ireturn (kd_m10_drawFrom.at 7 rfl) rfl
def f_m2_look_L14   (k50 : kSt → Option kSt) (c1 : Int32) (c3 : Int32) : Nat → Int32 → Int32 → kSt → Option kSt
  | 0, _, _, _ => none
  | n + 1, v4, v5, S =>
    if c3 ≤ v5 then
      k50  S
    else
      if c1 ≤ 0 then
        k50  S
      else
        (f_m10_drawFrom v4 S).bind fun q4 =>
        kgz c1 (
          knx (krem q4.1 c1) fun x5 =>
          kgi x5 5 (
            kgi x5 5 (
              knx (kuI q4.2 54 x5.toNatClampNeg ((q4.2.1 54 x5.toNatClampNeg) + 1)) fun S6 =>
              knx (v5 + 1) fun x7 =>
              f_m2_look_L14 k50 c1 c3 n q4.1 x7 S6
            )
          )
        )
theorem ok_m2_look_L14 {l : Launch} {G : kG} {E : kE}    (c1 : Int32) (c3 : Int32) (k50 : kSt → Option kSt) (hk50 : ∀  (S : kSt), kOk l G E (kZ G E kjV) m2_look (kdp (2)) (k50  S) 50 [] [] S) : ∀ (n : Nat) (v4 : Int32) (v5 : Int32) (S : kSt), kOk l G E (kZ G E kjV) m2_look (kdp (2)) (f_m2_look_L14 k50 c1 c3 n v4 v5 S) 14 [(0, .ref 11), (1, .int c1), (3, .int c3), (4, .int v4), (5, .int v5)] [] S := by
  intro n
  induction n with
  | zero => intro v4 v5 S; exact ok_none
  | succ n ih =>
    intro v4 v5 S
    rw [f_m2_look_L14]
    refine ok_iload 4 (kd_m2_look.at 8 rfl) rfl ?_
    refine ok_iload_n 2 (kd_m2_look.at 9 rfl) rfl rfl ?_
    refine ok_icmp_ge (tgt := 50) (kd_m2_look.at 10 rfl) (by decide) (fun h2 => ?_) (fun h2 => ?_)
    · refine ok_sub (lv' := []) [] rfl ?_
      exact hk50  S
    · refine ok_iload_n 1 (kd_m2_look.at 11 rfl) rfl rfl ?_
      refine ok_if_le (tgt := 50) (kd_m2_look.at 12 rfl) (by decide) (fun h3 => ?_) (fun h3 => ?_)
      · refine ok_sub (lv' := []) [] rfl ?_
        exact hk50  S
      · refine ok_iload 3 (kd_m2_look.at 13 rfl) rfl ?_
        refine ok_callNI (M' := m10_drawFrom) (as := [.int v4]) (st := []) (kd_m2_look.at 14 rfl) kc2_36  rfl (by decide) (ok_m10_drawFrom v4 S) (kfit_of (by decide)) rfl (Nat.le_of_ble_eq_true rfl) (fun q4 hq4 => ?_)
        refine ok_istore (lv' := [(4, .int q4.1), (0, .ref 11), (1, .int c1), (3, .int c3), (5, .int v5)]) (kd_m2_look.at 15 rfl) (by decide) rfl ?_
        refine ok_aload_n 1 (kd_m2_look.at 16 rfl) rfl rfl ?_
        refine ok_getR (kd_m2_look.at 17 rfl) kf2_9 sh_11 rfl (kr_11_0 _) ?_
        refine ok_iload 0 (kd_m2_look.at 18 rfl) rfl ?_
        refine ok_iload_n 2 (kd_m2_look.at 19 rfl) rfl rfl ?_
        refine ok_iremG (kd_m2_look.at 20 rfl) ?_
        refine ok_topi (fun x5 hx5 => ?_)
        refine ok_dup2 (kd_m2_look.at 21 rfl) rfl rfl ?_
        refine ok_iald (kd_m2_look.at 22 rfl) sh_54 ?_
        refine ok_iconst (v := 1) (kd_m2_look.at 23 rfl) (by decide) ?_
        refine ok_iadd (kd_m2_look.at 24 rfl) ?_
        refine ok_iast (kd_m2_look.at 25 rfl) sh_54 ?_
        refine ok_nS (fun S6 hS6 => ?_)
        refine ok_nx (fun x7 hx7 => ?_)
        refine ok_iinc (v := x7) (lv' := [(5, .int x7), (4, .int q4.1), (0, .ref 11), (1, .int c1), (3, .int c3)]) 4 (kd_m2_look.at 26 rfl) rfl hx7.symm (by decide) rfl ?_
        refine ok_goto (tgt := 14) (kd_m2_look.at 27 rfl) (by decide) ?_
        refine ok_sub (lv' := [(0, .ref 11), (1, .int c1), (3, .int c3), (4, .int q4.1), (5, .int x7)]) [2, 3, 4, 1, 0] rfl ?_
        exact ih q4.1 x7 S6
def f_m2_look (a1 : Int32) (a2 : Int32) (a3 : Int32) (S : kSt) : Option kSt :=
  (f_mJ_fill_J7 54 5 0 S).bind fun q1 =>
  f_m2_look_L14 
    (fun  (S8 : kSt) =>
      some S8
    )
    a1 a3 kFU a2 0 q1
theorem ok_m2_look {l : Launch} {G : kG} {E : kE} (a1 : Int32) (a2 : Int32) (a3 : Int32)  (S : kSt) : kFn l G E E kjV m2_look 2 [.ref 11, .int a1, .int a2, .int a3] S (f_m2_look a1 a2 a3 S) := by
  unfold f_m2_look
  refine kFn_of (by decide +kernel) (fun hG => Nat.le_of_ble_eq_true rfl) ?_
  show kOk _ _ _ _ _ _ _ _ [(0, .ref 11), (1, .int a1), (2, .int a2), (3, .int a3)] _ _
  refine ok_aload_n 0 (kd_m2_look.at 0 rfl) rfl rfl ?_
  refine ok_getR (kd_m2_look.at 1 rfl) kf2_9 sh_11 rfl (kr_11_0 _) ?_
  refine ok_iconst (v := 0) (kd_m2_look.at 2 rfl) (by decide) ?_
  refine ok_callSV (M' := mJ_fill_J7) (as := [.ref 54, .int 0]) (st := []) (kd_m2_look.at 3 rfl) kc2_30  rfl (by decide) (ok_mJ_fill_J7 54 5 0 sh_54 S) (kfit_of (by decide)) rfl (Nat.le_of_ble_eq_true rfl) (fun q1 hq1 => ?_)
  refine ok_iload_n 2 (kd_m2_look.at 4 rfl) rfl rfl ?_
  refine ok_istore (lv' := [(4, .int a2), (0, .ref 11), (1, .int a1), (2, .int a2), (3, .int a3)]) (kd_m2_look.at 5 rfl) (by decide) rfl ?_
  refine ok_iconst (v := 0) (kd_m2_look.at 6 rfl) (by decide) ?_
  refine ok_istore (lv' := [(5, .int 0), (4, .int a2), (0, .ref 11), (1, .int a1), (2, .int a2), (3, .int a3)]) (kd_m2_look.at 7 rfl) (by decide) rfl ?_
  refine ok_sub (lv' := [(0, .ref 11), (1, .int a1), (3, .int a3), (4, .int a2), (5, .int 0)]) [2, 3, 5, 1, 0] rfl ?_
  refine ok_m2_look_L14 a1 a3 _ (fun S8 => ?_) kFU a2 0 q1
  exact ok_return (kd_m2_look.at 28 rfl) rfl
