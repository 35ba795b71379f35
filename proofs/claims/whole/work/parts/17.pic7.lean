def f_m11_pair (a1 : Int32) (a2 : Int32) (S : kSt) : Option (Int32 × kSt) :=
  (f_m11_good  S).bind fun q1 =>
  (f_m11_isPair a1 q1).bind fun q2 =>
  knx (fun  (S3 : kSt) =>
    (f_m11_no 1 S3).bind fun q4 =>
    some (q4.1, q4.2)
    ) fun j21 =>
  if q2.1 then
    (f_m11_in a2 0 5 q2.2).bind fun q6 =>
    if q6.1 then
      kcase5 (ksw 0 4 a2)
        (
          knx (8 + a1) fun x8 =>
          kgi x8 95 (
            some (q6.2.1 57 x8.toNatClampNeg, q6.2)
          )
        )
        (
          kgi a1 36 (
            some (q6.2.1 61 a1.toNatClampNeg, q6.2)
          )
        )
        (
          kgi a1 36 (
            some ((q6.2.1 57 0) - (q6.2.1 61 a1.toNatClampNeg), q6.2)
          )
        )
        (
          knx (5 + a1) fun x9 =>
          kgi x9 36 (
            some (q6.2.1 61 x9.toNatClampNeg, q6.2)
          )
        )
        (
          knx (13 + a1) fun x10 =>
          kgi x10 95 (
            some (q6.2.1 57 x10.toNatClampNeg, q6.2)
          )
        )
        (
          kgi a1 36 (
            (f_m11_isMore (q6.2.1 61 a1.toNatClampNeg) q6.2).bind fun q11 =>
            if q11.1 then
              some (1, q11.2)
            else
              some (0, q11.2)
          )
        )
    else
      j21  q6.2
  else
    j21  q2.2
theorem ok_m11_pair {l : Launch} {G : kG} {E : kE} (a1 : Int32) (a2 : Int32)  (S : kSt) : kFn l G E E kjI m11_pair 3 [.ref 14, .int a1, .int a2] S (f_m11_pair a1 a2 S) := by
  unfold f_m11_pair
  refine kFn_of (by decide +kernel) (fun hG => Nat.le_of_ble_eq_true rfl) ?_
  show kOk _ _ _ _ _ _ _ _ [(0, .ref 14), (1, .int a1), (2, .int a2)] _ _
  refine ok_aload_n 0 (kd_m11_pair.at 0 rfl) rfl rfl ?_
  refine ok_callVV (M' := m11_good) (as := []) (st := []) (kd_m11_pair.at 1 rfl) kc11_164 sh_14 rfl rfl (by decide) (ok_m11_good  S) (kfit_of (by decide)) rfl (Nat.le_of_ble_eq_true rfl) (fun q1 hq1 => ?_)
  refine ok_aload_n 0 (kd_m11_pair.at 2 rfl) rfl rfl ?_
  refine ok_iload_n 1 (kd_m11_pair.at 3 rfl) rfl rfl ?_
  refine ok_callVB (M' := m11_isPair) (as := [.int a1]) (st := []) (kd_m11_pair.at 4 rfl) kc11_239 sh_14 rfl rfl (by decide) (ok_m11_isPair a1 q1) (kfit_of (by decide)) rfl (Nat.le_of_ble_eq_true rfl) (fun q2 hq2 => ?_)
  refine ok_nx (fun j21 hj21 => ?_)
  have K21 : ∀  (S3 : kSt), kOk l G E (kZ G E kjI) m11_pair (kdp (3)) (j21  S3) 21 [(0, .ref 14)] [] S3 := by
    subst hj21
    intro  S3
    refine ok_aload_n 0 (kd_m11_pair.at 11 rfl) rfl rfl ?_
    refine ok_iconst (v := 1) (kd_m11_pair.at 12 rfl) (by decide) ?_
    refine ok_callVI (M' := m11_no) (as := [.int 1]) (st := []) (kd_m11_pair.at 13 rfl) kc11_167 sh_14 rfl rfl (by decide) (ok_m11_no 1 S3) (kfit_of (by decide)) rfl (Nat.le_of_ble_eq_true rfl) (fun q4 hq4 => ?_)
    exact ok_ireturn (kd_m11_pair.at 14 rfl) rfl
  clear hj21
  refine ok_ifb_eq (tgt := 21) (kd_m11_pair.at 5 rfl) (by decide) (fun h5 => ?_) (fun h5 => ?_)
  · refine ok_sub (lv' := [(0, .ref 14)]) [0] rfl ?_
    exact K21  q2.2
  · refine ok_iload_n 2 (kd_m11_pair.at 6 rfl) rfl rfl ?_
    refine ok_iconst (v := 0) (kd_m11_pair.at 7 rfl) (by decide) ?_
    refine ok_iconst (v := 5) (kd_m11_pair.at 8 rfl) (by decide) ?_
    refine ok_callSB (M' := m11_in) (as := [.int a2, .int 0, .int 5]) (st := []) (kd_m11_pair.at 9 rfl) kc11_146  rfl (by decide) (ok_m11_in a2 0 5 q2.2) (kfit_of (by decide)) rfl (Nat.le_of_ble_eq_true rfl) (fun q6 hq6 => ?_)
    refine ok_ifb_ne (tgt := 27) (kd_m11_pair.at 10 rfl) (by decide) (fun h7 => ?_) (fun h7 => ?_)
    · refine ok_iload_n 2 (kd_m11_pair.at 15 rfl) rfl rfl ?_
      refine ok_table5 114 64 74 81 95 104 (kd_m11_pair.at 16 rfl) (by decide) (by decide) (by decide) (by decide) (by decide) (by decide) (by decide) ?_ ?_ ?_ ?_ ?_ ?_
      · refine ok_aload_n 0 (kd_m11_pair.at 53 rfl) rfl rfl ?_
        refine ok_aload_n 0 (kd_m11_pair.at 54 rfl) rfl rfl ?_
        refine ok_getR (kd_m11_pair.at 55 rfl) kf11_32 sh_14 rfl (kr_14_19 _) ?_
        refine ok_iload_n 1 (kd_m11_pair.at 56 rfl) rfl rfl ?_
        refine ok_iald (kd_m11_pair.at 57 rfl) sh_61 ?_
        refine ok_callVB (M' := m11_isMore) (as := [.int (q6.2.1 61 a1.toNatClampNeg)]) (st := []) (kd_m11_pair.at 58 rfl) kc11_272 sh_14 rfl rfl (by decide) (ok_m11_isMore (q6.2.1 61 a1.toNatClampNeg) q6.2) (kfit_of (by decide)) rfl (Nat.le_of_ble_eq_true rfl) (fun q11 hq11 => ?_)
        refine ok_ifb_eq (tgt := 131) (kd_m11_pair.at 59 rfl) (by decide) (fun h12 => ?_) (fun h12 => ?_)
        · refine ok_iconst (v := 0) (kd_m11_pair.at 62 rfl) (by decide) ?_
          exact ok_ireturn (kd_m11_pair.at 63 rfl) rfl
        · refine ok_iconst (v := 1) (kd_m11_pair.at 60 rfl) (by decide) ?_
          refine ok_goto (tgt := 132) (kd_m11_pair.at 61 rfl) (by decide) ?_
          exact ok_ireturn (kd_m11_pair.at 63 rfl) rfl
      · refine ok_aload_n 0 (kd_m11_pair.at 17 rfl) rfl rfl ?_
        refine ok_getR (kd_m11_pair.at 18 rfl) kf11_20 sh_14 rfl (kr_14_15 _) ?_
        refine ok_bipush (v := 8) (kd_m11_pair.at 19 rfl) (by decide) ?_
        refine ok_iload_n 1 (kd_m11_pair.at 20 rfl) rfl rfl ?_
        refine ok_iadd (kd_m11_pair.at 21 rfl) ?_
        refine ok_topi (fun x8 hx8 => ?_)
        refine ok_iald (kd_m11_pair.at 22 rfl) sh_57 ?_
        exact ok_ireturn (kd_m11_pair.at 23 rfl) rfl
      · refine ok_aload_n 0 (kd_m11_pair.at 24 rfl) rfl rfl ?_
        refine ok_getR (kd_m11_pair.at 25 rfl) kf11_32 sh_14 rfl (kr_14_19 _) ?_
        refine ok_iload_n 1 (kd_m11_pair.at 26 rfl) rfl rfl ?_
        refine ok_iald (kd_m11_pair.at 27 rfl) sh_61 ?_
        exact ok_ireturn (kd_m11_pair.at 28 rfl) rfl
      · refine ok_aload_n 0 (kd_m11_pair.at 29 rfl) rfl rfl ?_
        refine ok_getR (kd_m11_pair.at 30 rfl) kf11_20 sh_14 rfl (kr_14_15 _) ?_
        refine ok_iconst (v := 0) (kd_m11_pair.at 31 rfl) (by decide) ?_
        refine ok_ialdK (j := 0) (kd_m11_pair.at 32 rfl) sh_57 (by decide) (by decide) ?_
        refine ok_aload_n 0 (kd_m11_pair.at 33 rfl) rfl rfl ?_
        refine ok_getR (kd_m11_pair.at 34 rfl) kf11_32 sh_14 rfl (kr_14_19 _) ?_
        refine ok_iload_n 1 (kd_m11_pair.at 35 rfl) rfl rfl ?_
        refine ok_iald (kd_m11_pair.at 36 rfl) sh_61 ?_
        refine ok_isub (kd_m11_pair.at 37 rfl) ?_
        exact ok_ireturn (kd_m11_pair.at 38 rfl) rfl
      · refine ok_aload_n 0 (kd_m11_pair.at 39 rfl) rfl rfl ?_
        refine ok_getR (kd_m11_pair.at 40 rfl) kf11_32 sh_14 rfl (kr_14_19 _) ?_
        refine ok_iconst (v := 5) (kd_m11_pair.at 41 rfl) (by decide) ?_
        refine ok_iload_n 1 (kd_m11_pair.at 42 rfl) rfl rfl ?_
        refine ok_iadd (kd_m11_pair.at 43 rfl) ?_
        refine ok_topi (fun x9 hx9 => ?_)
        refine ok_iald (kd_m11_pair.at 44 rfl) sh_61 ?_
        exact ok_ireturn (kd_m11_pair.at 45 rfl) rfl
      · refine ok_aload_n 0 (kd_m11_pair.at 46 rfl) rfl rfl ?_
        refine ok_getR (kd_m11_pair.at 47 rfl) kf11_20 sh_14 rfl (kr_14_15 _) ?_
        refine ok_bipush (v := 13) (kd_m11_pair.at 48 rfl) (by decide) ?_
        refine ok_iload_n 1 (kd_m11_pair.at 49 rfl) rfl rfl ?_
        refine ok_iadd (kd_m11_pair.at 50 rfl) ?_
        refine ok_topi (fun x10 hx10 => ?_)
        refine ok_iald (kd_m11_pair.at 51 rfl) sh_57 ?_
        exact ok_ireturn (kd_m11_pair.at 52 rfl) rfl
    · refine ok_sub (lv' := [(0, .ref 14)]) [0] rfl ?_
      exact K21  q6.2
def f_m11_aheadWhy (a1 : Bool) (a2 : Int32) (S : kSt) : Option (Int32 × kSt) :=
  (f_m11_in a2 0 60 S).bind fun q1 =>
  (f_m11_why a1 q1.1 q1.2).bind fun q2 =>
  some (q2.1, q2.2)
theorem ok_m11_aheadWhy {l : Launch} {G : kG} {E : kE} (a1 : Bool) (a2 : Int32)  (S : kSt) : kFn l G E E kjI m11_aheadWhy 2 [.ref 14, .int (kb a1), .int a2] S (f_m11_aheadWhy a1 a2 S) := by
  unfold f_m11_aheadWhy
  refine kFn_of (by decide +kernel) (fun hG => Nat.le_of_ble_eq_true rfl) ?_
  show kOk _ _ _ _ _ _ _ _ [(0, .ref 14), (1, .int (kb a1)), (2, .int a2)] _ _
  refine ok_aload_n 0 (kd_m11_aheadWhy.at 0 rfl) rfl rfl ?_
  refine ok_iload_n 1 (kd_m11_aheadWhy.at 1 rfl) rfl rfl ?_
  refine ok_iload_n 2 (kd_m11_aheadWhy.at 2 rfl) rfl rfl ?_
  refine ok_iconst (v := 0) (kd_m11_aheadWhy.at 3 rfl) (by decide) ?_
  refine ok_bipush (v := 60) (kd_m11_aheadWhy.at 4 rfl) (by decide) ?_
  refine ok_callSB (M' := m11_in) (as := [.int a2, .int 0, .int 60]) (st := [.int (kb a1), .ref 14]) (kd_m11_aheadWhy.at 5 rfl) kc11_146  rfl (by decide) (ok_m11_in a2 0 60 S) (kfit_of (by decide)) rfl (Nat.le_of_ble_eq_true rfl) (fun q1 hq1 => ?_)
  refine ok_callVI (M' := m11_why) (as := [.int (kb a1), .int (kb q1.1)]) (st := []) (kd_m11_aheadWhy.at 6 rfl) kc11_275 sh_14 rfl rfl (by decide) (ok_m11_why a1 q1.1 q1.2) (kfit_of (by decide)) rfl (Nat.le_of_ble_eq_true rfl) (fun q2 hq2 => ?_)
  exact ok_ireturn (kd_m11_aheadWhy.at 7 rfl) rfl
def f_m11_says (a1 : Int32) (a2 : Int32) (S : kSt) : Option (Int32 × kSt) :=
  (f_m11_good  S).bind fun q1 =>
  (f_m11_isPair a1 q1).bind fun q2 =>
  (f_m11_aheadWhy q2.1 a2 q2.2).bind fun q3 =>
  if q3.1 = 0 then
    (f_m11_saysIn a1 a2 q3.2).bind fun q5 =>
    some (q5.1, q5.2)
  else
    (f_m11_no q3.1 q3.2).bind fun q6 =>
    some (q6.1, q6.2)
theorem ok_m11_says {l : Launch} {G : kG} {E : kE} (a1 : Int32) (a2 : Int32)  (S : kSt) : kFn l G E E kjI m11_says 6 [.ref 14, .int a1, .int a2] S (f_m11_says a1 a2 S) := by
  unfold f_m11_says
  refine kFn_of (by decide +kernel) (fun hG => Nat.le_of_ble_eq_true rfl) ?_
  show kOk _ _ _ _ _ _ _ _ [(0, .ref 14), (1, .int a1), (2, .int a2)] _ _
  refine ok_aload_n 0 (kd_m11_says.at 0 rfl) rfl rfl ?_
  refine ok_callVV (M' := m11_good) (as := []) (st := []) (kd_m11_says.at 1 rfl) kc11_164 sh_14 rfl rfl (by decide) (ok_m11_good  S) (kfit_of (by decide)) rfl (Nat.le_of_ble_eq_true rfl) (fun q1 hq1 => ?_)
  refine ok_aload_n 0 (kd_m11_says.at 2 rfl) rfl rfl ?_
  refine ok_aload_n 0 (kd_m11_says.at 3 rfl) rfl rfl ?_
  refine ok_iload_n 1 (kd_m11_says.at 4 rfl) rfl rfl ?_
  refine ok_callVB (M' := m11_isPair) (as := [.int a1]) (st := [.ref 14]) (kd_m11_says.at 5 rfl) kc11_239 sh_14 rfl rfl (by decide) (ok_m11_isPair a1 q1) (kfit_of (by decide)) rfl (Nat.le_of_ble_eq_true rfl) (fun q2 hq2 => ?_)
  refine ok_iload_n 2 (kd_m11_says.at 6 rfl) rfl rfl ?_
  refine ok_callVI (M' := m11_aheadWhy) (as := [.int (kb q2.1), .int a2]) (st := []) (kd_m11_says.at 7 rfl) kc11_279 sh_14 rfl rfl (by decide) (ok_m11_aheadWhy q2.1 a2 q2.2) (kfit_of (by decide)) rfl (Nat.le_of_ble_eq_true rfl) (fun q3 hq3 => ?_)
  refine ok_istore_n (lv' := [(3, .int q3.1), (0, .ref 14), (1, .int a1), (2, .int a2)]) (kd_m11_says.at 8 rfl) rfl (by decide) rfl ?_
  refine ok_iload_n 0 (kd_m11_says.at 9 rfl) rfl rfl ?_
  refine ok_if_eq (tgt := 27) (kd_m11_says.at 10 rfl) (by decide) (fun h4 => ?_) (fun h4 => ?_)
  · refine ok_aload_n 1 (kd_m11_says.at 15 rfl) rfl rfl ?_
    refine ok_iload_n 2 (kd_m11_says.at 16 rfl) rfl rfl ?_
    refine ok_iload_n 3 (kd_m11_says.at 17 rfl) rfl rfl ?_
    refine ok_callVI (M' := m11_saysIn) (as := [.int a1, .int a2]) (st := []) (kd_m11_says.at 18 rfl) kc11_283 sh_14 rfl rfl (by decide) (ok_m11_saysIn a1 a2 q3.2) (kfit_of (by decide)) rfl (Nat.le_of_ble_eq_true rfl) (fun q5 hq5 => ?_)
    exact ok_ireturn (kd_m11_says.at 19 rfl) rfl
  · refine ok_aload_n 1 (kd_m11_says.at 11 rfl) rfl rfl ?_
    refine ok_iload_n 0 (kd_m11_says.at 12 rfl) rfl rfl ?_
    refine ok_callVI (M' := m11_no) (as := [.int q3.1]) (st := []) (kd_m11_says.at 13 rfl) kc11_167 sh_14 rfl rfl (by decide) (ok_m11_no q3.1 q3.2) (kfit_of (by decide)) rfl (Nat.le_of_ble_eq_true rfl) (fun q6 hq6 => ?_)
    refine ok_goto (tgt := 33) (kd_m11_says.at 14 rfl) (by decide) ?_
    exact ok_ireturn (kd_m11_says.at 19 rfl) rfl
def f_m11_saysAll_L31   (k55 : Int32 → kSt → Option (Int32 × kSt)) (c1 : Int32) (c2 : Int32) : Nat → Int32 → Int32 → kSt → Option (Int32 × kSt)
  | 0, _, _, _ => none
  | n + 1, v4, v5, S =>
    if c2 < v5 then
      k55 v4 S
    else
      (f_m11_saysIn c1 v5 S).bind fun q6 =>
      knx (v4 + q6.1) fun x7 =>
      knx (v5 + 1) fun x8 =>
      f_m11_saysAll_L31 k55 c1 c2 n x7 x8 q6.2
theorem ok_m11_saysAll_L31 {l : Launch} {G : kG} {E : kE}    (c1 : Int32) (c2 : Int32) (k55 : Int32 → kSt → Option (Int32 × kSt)) (hk55 : ∀ (v4 : Int32) (S : kSt), kOk l G E (kZ G E kjI) m11_saysAll (kdp (6)) (k55 v4 S) 55 [(4, .int v4)] [] S) : ∀ (n : Nat) (v4 : Int32) (v5 : Int32) (S : kSt), kOk l G E (kZ G E kjI) m11_saysAll (kdp (6)) (f_m11_saysAll_L31 k55 c1 c2 n v4 v5 S) 31 [(0, .ref 14), (1, .int c1), (2, .int c2), (4, .int v4), (5, .int v5)] [] S := by
  intro n
  induction n with
  | zero => intro v4 v5 S; exact ok_none
  | succ n ih =>
    intro v4 v5 S
    rw [f_m11_saysAll_L31]
    refine ok_iload 4 (kd_m11_saysAll.at 19 rfl) rfl ?_
    refine ok_iload_n 2 (kd_m11_saysAll.at 20 rfl) rfl rfl ?_
    refine ok_icmp_gt (tgt := 55) (kd_m11_saysAll.at 21 rfl) (by decide) (fun h5 => ?_) (fun h5 => ?_)
    · refine ok_sub (lv' := [(4, .int v4)]) [3] rfl ?_
      exact hk55 v4 S
    · refine ok_iload 3 (kd_m11_saysAll.at 22 rfl) rfl ?_
      refine ok_aload_n 0 (kd_m11_saysAll.at 23 rfl) rfl rfl ?_
      refine ok_iload_n 1 (kd_m11_saysAll.at 24 rfl) rfl rfl ?_
      refine ok_iload 4 (kd_m11_saysAll.at 25 rfl) rfl ?_
      refine ok_callVI (M' := m11_saysIn) (as := [.int c1, .int v5]) (st := [.int v4]) (kd_m11_saysAll.at 26 rfl) kc11_283 sh_14 rfl rfl (by decide) (ok_m11_saysIn c1 v5 S) (kfit_of (by decide)) rfl (Nat.le_of_ble_eq_true rfl) (fun q6 hq6 => ?_)
      refine ok_iadd (kd_m11_saysAll.at 27 rfl) ?_
      refine ok_topi (fun x7 hx7 => ?_)
      refine ok_istore (lv' := [(4, .int x7), (0, .ref 14), (1, .int c1), (2, .int c2), (5, .int v5)]) (kd_m11_saysAll.at 28 rfl) (by decide) rfl ?_
      refine ok_nx (fun x8 hx8 => ?_)
      refine ok_iinc (v := x8) (lv' := [(5, .int x8), (4, .int x7), (0, .ref 14), (1, .int c1), (2, .int c2)]) 4 (kd_m11_saysAll.at 29 rfl) rfl hx8.symm (by decide) rfl ?_
      refine ok_goto (tgt := 31) (kd_m11_saysAll.at 30 rfl) (by decide) ?_
      refine ok_sub (lv' := [(0, .ref 14), (1, .int c1), (2, .int c2), (4, .int x7), (5, .int x8)]) [2, 3, 4, 1, 0] rfl ?_
      exact ih x7 x8 q6.2
def f_m11_saysAll (a1 : Int32) (a2 : Int32) (S : kSt) : Option (Int32 × kSt) :=
  (f_m11_good  S).bind fun q1 =>
  (f_m11_isPair a1 q1).bind fun q2 =>
  (f_m11_aheadWhy q2.1 a2 q2.2).bind fun q3 =>
  if q3.1 = 0 then
    f_m11_saysAll_L31 
      (fun (x9 : Int32) (S10 : kSt) =>
        some (x9, S10)
      )
      a1 a2 kFU 0 1 q3.2
  else
    (f_m11_no q3.1 q3.2).bind fun q11 =>
    some (q11.1, q11.2)
theorem ok_m11_saysAll {l : Launch} {G : kG} {E : kE} (a1 : Int32) (a2 : Int32)  (S : kSt) : kFn l G E E kjI m11_saysAll 6 [.ref 14, .int a1, .int a2] S (f_m11_saysAll a1 a2 S) := by
  unfold f_m11_saysAll
  refine kFn_of (by decide +kernel) (fun hG => Nat.le_of_ble_eq_true rfl) ?_
  show kOk _ _ _ _ _ _ _ _ [(0, .ref 14), (1, .int a1), (2, .int a2)] _ _
  refine ok_aload_n 0 (kd_m11_saysAll.at 0 rfl) rfl rfl ?_
  refine ok_callVV (M' := m11_good) (as := []) (st := []) (kd_m11_saysAll.at 1 rfl) kc11_164 sh_14 rfl rfl (by decide) (ok_m11_good  S) (kfit_of (by decide)) rfl (Nat.le_of_ble_eq_true rfl) (fun q1 hq1 => ?_)
  refine ok_aload_n 0 (kd_m11_saysAll.at 2 rfl) rfl rfl ?_
  refine ok_aload_n 0 (kd_m11_saysAll.at 3 rfl) rfl rfl ?_
  refine ok_iload_n 1 (kd_m11_saysAll.at 4 rfl) rfl rfl ?_
  refine ok_callVB (M' := m11_isPair) (as := [.int a1]) (st := [.ref 14]) (kd_m11_saysAll.at 5 rfl) kc11_239 sh_14 rfl rfl (by decide) (ok_m11_isPair a1 q1) (kfit_of (by decide)) rfl (Nat.le_of_ble_eq_true rfl) (fun q2 hq2 => ?_)
  refine ok_iload_n 2 (kd_m11_saysAll.at 6 rfl) rfl rfl ?_
  refine ok_callVI (M' := m11_aheadWhy) (as := [.int (kb q2.1), .int a2]) (st := []) (kd_m11_saysAll.at 7 rfl) kc11_279 sh_14 rfl rfl (by decide) (ok_m11_aheadWhy q2.1 a2 q2.2) (kfit_of (by decide)) rfl (Nat.le_of_ble_eq_true rfl) (fun q3 hq3 => ?_)
  refine ok_istore_n (lv' := [(3, .int q3.1), (0, .ref 14), (1, .int a1), (2, .int a2)]) (kd_m11_saysAll.at 8 rfl) rfl (by decide) rfl ?_
  refine ok_iload_n 0 (kd_m11_saysAll.at 9 rfl) rfl rfl ?_
  refine ok_if_eq (tgt := 25) (kd_m11_saysAll.at 10 rfl) (by decide) (fun h4 => ?_) (fun h4 => ?_)
  · refine ok_iconst (v := 0) (kd_m11_saysAll.at 15 rfl) (by decide) ?_
    refine ok_istore (lv' := [(4, .int 0), (3, .int q3.1), (0, .ref 14), (1, .int a1), (2, .int a2)]) (kd_m11_saysAll.at 16 rfl) (by decide) rfl ?_
    refine ok_iconst (v := 1) (kd_m11_saysAll.at 17 rfl) (by decide) ?_
    refine ok_istore (lv' := [(5, .int 1), (4, .int 0), (3, .int q3.1), (0, .ref 14), (1, .int a1), (2, .int a2)]) (kd_m11_saysAll.at 18 rfl) (by decide) rfl ?_
    refine ok_sub (lv' := [(0, .ref 14), (1, .int a1), (2, .int a2), (4, .int 0), (5, .int 1)]) [3, 4, 5, 1, 0] rfl ?_
    refine ok_m11_saysAll_L31 a1 a2 _ (fun x9 S10 => ?_) kFU 0 1 q3.2
    refine ok_iload 0 (kd_m11_saysAll.at 31 rfl) rfl ?_
    exact ok_ireturn (kd_m11_saysAll.at 32 rfl) rfl
  · refine ok_aload_n 1 (kd_m11_saysAll.at 11 rfl) rfl rfl ?_
    refine ok_iload_n 0 (kd_m11_saysAll.at 12 rfl) rfl rfl ?_
    refine ok_callVI (M' := m11_no) (as := [.int q3.1]) (st := []) (kd_m11_saysAll.at 13 rfl) kc11_167 sh_14 rfl rfl (by decide) (ok_m11_no q3.1 q3.2) (kfit_of (by decide)) rfl (Nat.le_of_ble_eq_true rfl) (fun q11 hq11 => ?_)
    exact ok_ireturn (kd_m11_saysAll.at 14 rfl) rfl
def f_m11_moreIn_L20   (k39 : Int32 → kSt → Option (Int32 × kSt)) (k47 : kSt → Option (Int32 × kSt)) (c1 : Int32) : Nat → Int32 → kSt → Option (Int32 × kSt)
  | 0, _, _ => none
  | n + 1, v2, S =>
    if 60 < v2 then
      k47  S
    else
      (f_m11_saysIn c1 v2 S).bind fun q5 =>
      (f_m11_isMore q5.1 q5.2).bind fun q6 =>
      if q6.1 then
        k39 v2 q6.2
      else
        knx (v2 + 1) fun x8 =>
        f_m11_moreIn_L20 k39 k47 c1 n x8 q6.2
theorem ok_m11_moreIn_L20 {l : Launch} {G : kG} {E : kE}    (c1 : Int32) (k39 : Int32 → kSt → Option (Int32 × kSt)) (k47 : kSt → Option (Int32 × kSt)) (hk39 : ∀ (v2 : Int32) (S : kSt), kOk l G E (kZ G E kjI) m11_moreIn (kdp (6)) (k39 v2 S) 39 [(2, .int v2)] [] S) (hk47 : ∀  (S : kSt), kOk l G E (kZ G E kjI) m11_moreIn (kdp (6)) (k47  S) 47 [] [] S) : ∀ (n : Nat) (v2 : Int32) (S : kSt), kOk l G E (kZ G E kjI) m11_moreIn (kdp (6)) (f_m11_moreIn_L20 k39 k47 c1 n v2 S) 20 [(0, .ref 14), (1, .int c1), (2, .int v2)] [] S := by
  intro n
  induction n with
  | zero => intro v2 S; exact ok_none
  | succ n ih =>
    intro v2 S
    rw [f_m11_moreIn_L20]
    refine ok_iload_n 2 (kd_m11_moreIn.at 12 rfl) rfl rfl ?_
    refine ok_bipush (v := 60) (kd_m11_moreIn.at 13 rfl) (by decide) ?_
    refine ok_icmp_gt (tgt := 47) (kd_m11_moreIn.at 14 rfl) (by decide) (fun h4 => ?_) (fun h4 => ?_)
    · refine ok_sub (lv' := []) [] rfl ?_
      exact hk47  S
    · refine ok_aload_n 0 (kd_m11_moreIn.at 15 rfl) rfl rfl ?_
      refine ok_aload_n 0 (kd_m11_moreIn.at 16 rfl) rfl rfl ?_
      refine ok_iload_n 1 (kd_m11_moreIn.at 17 rfl) rfl rfl ?_
      refine ok_iload_n 2 (kd_m11_moreIn.at 18 rfl) rfl rfl ?_
      refine ok_callVI (M' := m11_saysIn) (as := [.int c1, .int v2]) (st := [.ref 14]) (kd_m11_moreIn.at 19 rfl) kc11_283 sh_14 rfl rfl (by decide) (ok_m11_saysIn c1 v2 S) (kfit_of (by decide)) rfl (Nat.le_of_ble_eq_true rfl) (fun q5 hq5 => ?_)
      refine ok_callVB (M' := m11_isMore) (as := [.int q5.1]) (st := []) (kd_m11_moreIn.at 20 rfl) kc11_272 sh_14 rfl rfl (by decide) (ok_m11_isMore q5.1 q5.2) (kfit_of (by decide)) rfl (Nat.le_of_ble_eq_true rfl) (fun q6 hq6 => ?_)
      refine ok_ifb_eq (tgt := 41) (kd_m11_moreIn.at 21 rfl) (by decide) (fun h7 => ?_) (fun h7 => ?_)
      · refine ok_nx (fun x8 hx8 => ?_)
        refine ok_iinc (v := x8) (lv' := [(2, .int x8), (0, .ref 14), (1, .int c1)]) 2 (kd_m11_moreIn.at 24 rfl) rfl hx8.symm (by decide) rfl ?_
        refine ok_goto (tgt := 20) (kd_m11_moreIn.at 25 rfl) (by decide) ?_
        refine ok_sub (lv' := [(0, .ref 14), (1, .int c1), (2, .int x8)]) [1, 2, 0] rfl ?_
        exact ih x8 q6.2
      · refine ok_sub (lv' := [(2, .int v2)]) [2] rfl ?_
        exact hk39 v2 q6.2
def f_m11_moreIn (a1 : Int32) (S : kSt) : Option (Int32 × kSt) :=
  (f_m11_good  S).bind fun q1 =>
  (f_m11_isPair a1 q1).bind fun q2 =>
  if q2.1 then
    f_m11_moreIn_L20 
      (fun (x9 : Int32) (S10 : kSt) =>
        some (x9, S10)
      )
      (fun  (S11 : kSt) =>
        some ((-2), S11)
      )
      a1 kFU 0 q2.2
  else
    (f_m11_no 1 q2.2).bind fun q12 =>
    some (q12.1, q12.2)
theorem ok_m11_moreIn {l : Launch} {G : kG} {E : kE} (a1 : Int32)  (S : kSt) : kFn l G E E kjI m11_moreIn 6 [.ref 14, .int a1] S (f_m11_moreIn a1 S) := by
  unfold f_m11_moreIn
  refine kFn_of (by decide +kernel) (fun hG => Nat.le_of_ble_eq_true rfl) ?_
  show kOk _ _ _ _ _ _ _ _ [(0, .ref 14), (1, .int a1)] _ _
  refine ok_aload_n 0 (kd_m11_moreIn.at 0 rfl) rfl rfl ?_
  refine ok_callVV (M' := m11_good) (as := []) (st := []) (kd_m11_moreIn.at 1 rfl) kc11_164 sh_14 rfl rfl (by decide) (ok_m11_good  S) (kfit_of (by decide)) rfl (Nat.le_of_ble_eq_true rfl) (fun q1 hq1 => ?_)
  refine ok_aload_n 0 (kd_m11_moreIn.at 2 rfl) rfl rfl ?_
  refine ok_iload_n 1 (kd_m11_moreIn.at 3 rfl) rfl rfl ?_
  refine ok_callVB (M' := m11_isPair) (as := [.int a1]) (st := []) (kd_m11_moreIn.at 4 rfl) kc11_239 sh_14 rfl rfl (by decide) (ok_m11_isPair a1 q1) (kfit_of (by decide)) rfl (Nat.le_of_ble_eq_true rfl) (fun q2 hq2 => ?_)
  refine ok_ifb_ne (tgt := 18) (kd_m11_moreIn.at 5 rfl) (by decide) (fun h3 => ?_) (fun h3 => ?_)
  · refine ok_iconst (v := 0) (kd_m11_moreIn.at 10 rfl) (by decide) ?_
    refine ok_istore_n (lv' := [(2, .int 0), (0, .ref 14), (1, .int a1)]) (kd_m11_moreIn.at 11 rfl) rfl (by decide) rfl ?_
    refine ok_sub (lv' := [(0, .ref 14), (1, .int a1), (2, .int 0)]) [1, 2, 0] rfl ?_
    refine ok_m11_moreIn_L20 a1 _ _ (fun x9 S10 => ?_) (fun S11 => ?_) kFU 0 q2.2
    · refine ok_iload_n 0 (kd_m11_moreIn.at 22 rfl) rfl rfl ?_
      exact ok_ireturn (kd_m11_moreIn.at 23 rfl) rfl
    · refine ok_bipush (v := (-2)) (kd_m11_moreIn.at 26 rfl) (by decide) ?_
      exact ok_ireturn (kd_m11_moreIn.at 27 rfl) rfl
  · refine ok_aload_n 0 (kd_m11_moreIn.at 6 rfl) rfl rfl ?_
    refine ok_iconst (v := 1) (kd_m11_moreIn.at 7 rfl) (by decide) ?_
    refine ok_callVI (M' := m11_no) (as := [.int 1]) (st := []) (kd_m11_moreIn.at 8 rfl) kc11_167 sh_14 rfl rfl (by decide) (ok_m11_no 1 q2.2) (kfit_of (by decide)) rfl (Nat.le_of_ble_eq_true rfl) (fun q12 hq12 => ?_)
    exact ok_ireturn (kd_m11_moreIn.at 9 rfl) rfl
def f_m11_moreTimes_L31   (k67 : Int32 → kSt → Option (Int32 × kSt)) (c1 : Int32) (c2 : Int32) : Nat → Int32 → Int32 → kSt → Option (Int32 × kSt)
  | 0, _, _, _ => none
  | n + 1, v4, v5, S =>
    if c2 < v5 then
      k67 v4 S
    else
      (f_m11_saysIn c1 v5 S).bind fun q6 =>
      (f_m11_isMore q6.1 q6.2).bind fun q7 =>
      knx (if q7.1 then true else false) fun x9 =>
      knx (v4 + (kb x9)) fun x10 =>
      knx (v5 + 1) fun x11 =>
      f_m11_moreTimes_L31 k67 c1 c2 n x10 x11 q7.2
theorem ok_m11_moreTimes_L31 {l : Launch} {G : kG} {E : kE}    (c1 : Int32) (c2 : Int32) (k67 : Int32 → kSt → Option (Int32 × kSt)) (hk67 : ∀ (v4 : Int32) (S : kSt), kOk l G E (kZ G E kjI) m11_moreTimes (kdp (6)) (k67 v4 S) 67 [(4, .int v4)] [] S) : ∀ (n : Nat) (v4 : Int32) (v5 : Int32) (S : kSt), kOk l G E (kZ G E kjI) m11_moreTimes (kdp (6)) (f_m11_moreTimes_L31 k67 c1 c2 n v4 v5 S) 31 [(0, .ref 14), (1, .int c1), (2, .int c2), (4, .int v4), (5, .int v5)] [] S := by
  intro n
  induction n with
  | zero => intro v4 v5 S; exact ok_none
  | succ n ih =>
    intro v4 v5 S
    rw [f_m11_moreTimes_L31]
    refine ok_iload 4 (kd_m11_moreTimes.at 19 rfl) rfl ?_
    refine ok_iload_n 2 (kd_m11_moreTimes.at 20 rfl) rfl rfl ?_
    refine ok_icmp_gt (tgt := 67) (kd_m11_moreTimes.at 21 rfl) (by decide) (fun h5 => ?_) (fun h5 => ?_)
    · refine ok_sub (lv' := [(4, .int v4)]) [3] rfl ?_
      exact hk67 v4 S
    · refine ok_iload 3 (kd_m11_moreTimes.at 22 rfl) rfl ?_
      refine ok_aload_n 0 (kd_m11_moreTimes.at 23 rfl) rfl rfl ?_
      refine ok_aload_n 0 (kd_m11_moreTimes.at 24 rfl) rfl rfl ?_
      refine ok_iload_n 1 (kd_m11_moreTimes.at 25 rfl) rfl rfl ?_
      refine ok_iload 4 (kd_m11_moreTimes.at 26 rfl) rfl ?_
      refine ok_callVI (M' := m11_saysIn) (as := [.int c1, .int v5]) (st := [.ref 14, .int v4]) (kd_m11_moreTimes.at 27 rfl) kc11_283 sh_14 rfl rfl (by decide) (ok_m11_saysIn c1 v5 S) (kfit_of (by decide)) rfl (Nat.le_of_ble_eq_true rfl) (fun q6 hq6 => ?_)
      refine ok_callVB (M' := m11_isMore) (as := [.int q6.1]) (st := [.int v4]) (kd_m11_moreTimes.at 28 rfl) kc11_272 sh_14 rfl rfl (by decide) (ok_m11_isMore q6.1 q6.2) (kfit_of (by decide)) rfl (Nat.le_of_ble_eq_true rfl) (fun q7 hq7 => ?_)
      refine ok_fold (α := Bool) (pcJ := 58) (lvJ := [(0, .ref 14), (1, .int c1), (2, .int c2), (4, .int v4), (5, .int v5)]) (stJ := [.int v4]) (mk := fun v => .int (kb v)) (fun K => ?_) (fun x9 => ?_)
      · refine ok_ap ?_
        refine ok_ifb_eq (tgt := 57) (kd_m11_moreTimes.at 29 rfl) (by decide) (fun h8 => ?_) (fun h8 => ?_)
        · refine ok_iconst (v := 0) (kd_m11_moreTimes.at 32 rfl) (by decide) ?_
          exact K false
        · refine ok_iconst (v := 1) (kd_m11_moreTimes.at 30 rfl) (by decide) ?_
          refine ok_goto (tgt := 58) (kd_m11_moreTimes.at 31 rfl) (by decide) ?_
          exact K true
      · refine ok_iadd (kd_m11_moreTimes.at 33 rfl) ?_
        refine ok_topi (fun x10 hx10 => ?_)
        refine ok_istore (lv' := [(4, .int x10), (0, .ref 14), (1, .int c1), (2, .int c2), (5, .int v5)]) (kd_m11_moreTimes.at 34 rfl) (by decide) rfl ?_
        refine ok_nx (fun x11 hx11 => ?_)
        refine ok_iinc (v := x11) (lv' := [(5, .int x11), (4, .int x10), (0, .ref 14), (1, .int c1), (2, .int c2)]) 4 (kd_m11_moreTimes.at 35 rfl) rfl hx11.symm (by decide) rfl ?_
        refine ok_goto (tgt := 31) (kd_m11_moreTimes.at 36 rfl) (by decide) ?_
        refine ok_sub (lv' := [(0, .ref 14), (1, .int c1), (2, .int c2), (4, .int x10), (5, .int x11)]) [2, 3, 4, 1, 0] rfl ?_
        exact ih x10 x11 q7.2
def f_m11_moreTimes (a1 : Int32) (a2 : Int32) (S : kSt) : Option (Int32 × kSt) :=
  (f_m11_good  S).bind fun q1 =>
  (f_m11_isPair a1 q1).bind fun q2 =>
  (f_m11_aheadWhy q2.1 a2 q2.2).bind fun q3 =>
  if q3.1 = 0 then
    f_m11_moreTimes_L31 
      (fun (x12 : Int32) (S13 : kSt) =>
        some (x12, S13)
      )
      a1 a2 kFU 0 1 q3.2
  else
    (f_m11_no q3.1 q3.2).bind fun q14 =>
    some (q14.1, q14.2)
theorem ok_m11_moreTimes {l : Launch} {G : kG} {E : kE} (a1 : Int32) (a2 : Int32)  (S : kSt) : kFn l G E E kjI m11_moreTimes 6 [.ref 14, .int a1, .int a2] S (f_m11_moreTimes a1 a2 S) := by
  unfold f_m11_moreTimes
  refine kFn_of (by decide +kernel) (fun hG => Nat.le_of_ble_eq_true rfl) ?_
  show kOk _ _ _ _ _ _ _ _ [(0, .ref 14), (1, .int a1), (2, .int a2)] _ _
  refine ok_aload_n 0 (kd_m11_moreTimes.at 0 rfl) rfl rfl ?_
  refine ok_callVV (M' := m11_good) (as := []) (st := []) (kd_m11_moreTimes.at 1 rfl) kc11_164 sh_14 rfl rfl (by decide) (ok_m11_good  S) (kfit_of (by decide)) rfl (Nat.le_of_ble_eq_true rfl) (fun q1 hq1 => ?_)
  refine ok_aload_n 0 (kd_m11_moreTimes.at 2 rfl) rfl rfl ?_
  refine ok_aload_n 0 (kd_m11_moreTimes.at 3 rfl) rfl rfl ?_
  refine ok_iload_n 1 (kd_m11_moreTimes.at 4 rfl) rfl rfl ?_
  refine ok_callVB (M' := m11_isPair) (as := [.int a1]) (st := [.ref 14]) (kd_m11_moreTimes.at 5 rfl) kc11_239 sh_14 rfl rfl (by decide) (ok_m11_isPair a1 q1) (kfit_of (by decide)) rfl (Nat.le_of_ble_eq_true rfl) (fun q2 hq2 => ?_)
  refine ok_iload_n 2 (kd_m11_moreTimes.at 6 rfl) rfl rfl ?_
  refine ok_callVI (M' := m11_aheadWhy) (as := [.int (kb q2.1), .int a2]) (st := []) (kd_m11_moreTimes.at 7 rfl) kc11_279 sh_14 rfl rfl (by decide) (ok_m11_aheadWhy q2.1 a2 q2.2) (kfit_of (by decide)) rfl (Nat.le_of_ble_eq_true rfl) (fun q3 hq3 => ?_)
  refine ok_istore_n (lv' := [(3, .int q3.1), (0, .ref 14), (1, .int a1), (2, .int a2)]) (kd_m11_moreTimes.at 8 rfl) rfl (by decide) rfl ?_
  refine ok_iload_n 0 (kd_m11_moreTimes.at 9 rfl) rfl rfl ?_
  refine ok_if_eq (tgt := 25) (kd_m11_moreTimes.at 10 rfl) (by decide) (fun h4 => ?_) (fun h4 => ?_)
  · refine ok_iconst (v := 0) (kd_m11_moreTimes.at 15 rfl) (by decide) ?_
    refine ok_istore (lv' := [(4, .int 0), (3, .int q3.1), (0, .ref 14), (1, .int a1), (2, .int a2)]) (kd_m11_moreTimes.at 16 rfl) (by decide) rfl ?_
    refine ok_iconst (v := 1) (kd_m11_moreTimes.at 17 rfl) (by decide) ?_
    refine ok_istore (lv' := [(5, .int 1), (4, .int 0), (3, .int q3.1), (0, .ref 14), (1, .int a1), (2, .int a2)]) (kd_m11_moreTimes.at 18 rfl) (by decide) rfl ?_
    refine ok_sub (lv' := [(0, .ref 14), (1, .int a1), (2, .int a2), (4, .int 0), (5, .int 1)]) [3, 4, 5, 1, 0] rfl ?_
    refine ok_m11_moreTimes_L31 a1 a2 _ (fun x12 S13 => ?_) kFU 0 1 q3.2
    refine ok_iload 0 (kd_m11_moreTimes.at 37 rfl) rfl ?_
    exact ok_ireturn (kd_m11_moreTimes.at 38 rfl) rfl
  · refine ok_aload_n 1 (kd_m11_moreTimes.at 11 rfl) rfl rfl ?_
    refine ok_iload_n 0 (kd_m11_moreTimes.at 12 rfl) rfl rfl ?_
    refine ok_callVI (M' := m11_no) (as := [.int q3.1]) (st := []) (kd_m11_moreTimes.at 13 rfl) kc11_167 sh_14 rfl rfl (by decide) (ok_m11_no q3.1 q3.2) (kfit_of (by decide)) rfl (Nat.le_of_ble_eq_true rfl) (fun q14 hq14 => ?_)
    exact ok_ireturn (kd_m11_moreTimes.at 14 rfl) rfl
def f_m11_settles (a1 : Int32) (S : kSt) : Option (Int32 × kSt) :=
  (f_m11_good  S).bind fun q1 =>
  (f_m11_isPair a1 q1).bind fun q2 =>
  if q2.1 then
    (f_m11_goRound a1 q2.2).bind fun q4 =>
    some (q4.1 14 28, q4)
  else
    (f_m11_no 1 q2.2).bind fun q5 =>
    some (q5.1, q5.2)
theorem ok_m11_settles {l : Launch} {G : kG} {E : kE} (a1 : Int32)  (S : kSt) : kFn l G E E kjI m11_settles 5 [.ref 14, .int a1] S (f_m11_settles a1 S) := by
  unfold f_m11_settles
  refine kFn_of (by decide +kernel) (fun hG => Nat.le_of_ble_eq_true rfl) ?_
  show kOk _ _ _ _ _ _ _ _ [(0, .ref 14), (1, .int a1)] _ _
  refine ok_aload_n 0 (kd_m11_settles.at 0 rfl) rfl rfl ?_
  refine ok_callVV (M' := m11_good) (as := []) (st := []) (kd_m11_settles.at 1 rfl) kc11_164 sh_14 rfl rfl (by decide) (ok_m11_good  S) (kfit_of (by decide)) rfl (Nat.le_of_ble_eq_true rfl) (fun q1 hq1 => ?_)
  refine ok_aload_n 0 (kd_m11_settles.at 2 rfl) rfl rfl ?_
  refine ok_iload_n 1 (kd_m11_settles.at 3 rfl) rfl rfl ?_
  refine ok_callVB (M' := m11_isPair) (as := [.int a1]) (st := []) (kd_m11_settles.at 4 rfl) kc11_239 sh_14 rfl rfl (by decide) (ok_m11_isPair a1 q1) (kfit_of (by decide)) rfl (Nat.le_of_ble_eq_true rfl) (fun q2 hq2 => ?_)
  refine ok_ifb_ne (tgt := 18) (kd_m11_settles.at 5 rfl) (by decide) (fun h3 => ?_) (fun h3 => ?_)
  · refine ok_aload_n 0 (kd_m11_settles.at 10 rfl) rfl rfl ?_
    refine ok_iload_n 1 (kd_m11_settles.at 11 rfl) rfl rfl ?_
    refine ok_callVV (M' := m11_goRound) (as := [.int a1]) (st := []) (kd_m11_settles.at 12 rfl) kc11_286 sh_14 rfl rfl (by decide) (ok_m11_goRound a1 q2.2) (kfit_of (by decide)) rfl (Nat.le_of_ble_eq_true rfl) (fun q4 hq4 => ?_)
    refine ok_aload_n 0 (kd_m11_settles.at 13 rfl) rfl rfl ?_
    refine ok_getI (kd_m11_settles.at 14 rfl) kf11_269 sh_14 rfl ?_
    exact ok_ireturn (kd_m11_settles.at 15 rfl) rfl
  · refine ok_aload_n 0 (kd_m11_settles.at 6 rfl) rfl rfl ?_
    refine ok_iconst (v := 1) (kd_m11_settles.at 7 rfl) (by decide) ?_
    refine ok_callVI (M' := m11_no) (as := [.int 1]) (st := []) (kd_m11_settles.at 8 rfl) kc11_167 sh_14 rfl rfl (by decide) (ok_m11_no 1 q2.2) (kfit_of (by decide)) rfl (Nat.le_of_ble_eq_true rfl) (fun q5 hq5 => ?_)
    exact ok_ireturn (kd_m11_settles.at 9 rfl) rfl
def f_m11_round (a1 : Int32) (S : kSt) : Option (Int32 × kSt) :=
  (f_m11_good  S).bind fun q1 =>
  (f_m11_isPair a1 q1).bind fun q2 =>
  if q2.1 then
    (f_m11_goRound a1 q2.2).bind fun q4 =>
    some (q4.1 14 29, q4)
  else
    (f_m11_no 1 q2.2).bind fun q5 =>
    some (q5.1, q5.2)
theorem ok_m11_round {l : Launch} {G : kG} {E : kE} (a1 : Int32)  (S : kSt) : kFn l G E E kjI m11_round 5 [.ref 14, .int a1] S (f_m11_round a1 S) := by
  unfold f_m11_round
  refine kFn_of (by decide +kernel) (fun hG => Nat.le_of_ble_eq_true rfl) ?_
  show kOk _ _ _ _ _ _ _ _ [(0, .ref 14), (1, .int a1)] _ _
  refine ok_aload_n 0 (kd_m11_round.at 0 rfl) rfl rfl ?_
  refine ok_callVV (M' := m11_good) (as := []) (st := []) (kd_m11_round.at 1 rfl) kc11_164 sh_14 rfl rfl (by decide) (ok_m11_good  S) (kfit_of (by decide)) rfl (Nat.le_of_ble_eq_true rfl) (fun q1 hq1 => ?_)
  refine ok_aload_n 0 (kd_m11_round.at 2 rfl) rfl rfl ?_
  refine ok_iload_n 1 (kd_m11_round.at 3 rfl) rfl rfl ?_
  refine ok_callVB (M' := m11_isPair) (as := [.int a1]) (st := []) (kd_m11_round.at 4 rfl) kc11_239 sh_14 rfl rfl (by decide) (ok_m11_isPair a1 q1) (kfit_of (by decide)) rfl (Nat.le_of_ble_eq_true rfl) (fun q2 hq2 => ?_)
  refine ok_ifb_ne (tgt := 18) (kd_m11_round.at 5 rfl) (by decide) (fun h3 => ?_) (fun h3 => ?_)
  · refine ok_aload_n 0 (kd_m11_round.at 10 rfl) rfl rfl ?_
    refine ok_iload_n 1 (kd_m11_round.at 11 rfl) rfl rfl ?_
    refine ok_callVV (M' := m11_goRound) (as := [.int a1]) (st := []) (kd_m11_round.at 12 rfl) kc11_286 sh_14 rfl rfl (by decide) (ok_m11_goRound a1 q2.2) (kfit_of (by decide)) rfl (Nat.le_of_ble_eq_true rfl) (fun q4 hq4 => ?_)
    refine ok_aload_n 0 (kd_m11_round.at 13 rfl) rfl rfl ?_
    refine ok_getI (kd_m11_round.at 14 rfl) kf11_263 sh_14 rfl ?_
    exact ok_ireturn (kd_m11_round.at 15 rfl) rfl
  · refine ok_aload_n 0 (kd_m11_round.at 6 rfl) rfl rfl ?_
    refine ok_iconst (v := 1) (kd_m11_round.at 7 rfl) (by decide) ?_
    refine ok_callVI (M' := m11_no) (as := [.int 1]) (st := []) (kd_m11_round.at 8 rfl) kc11_167 sh_14 rfl rfl (by decide) (ok_m11_no 1 q2.2) (kfit_of (by decide)) rfl (Nat.le_of_ble_eq_true rfl) (fun q5 hq5 => ?_)
    exact ok_ireturn (kd_m11_round.at 9 rfl) rfl
def f_m11_saysLate (a1 : Int32) (a2 : Int32) (S : kSt) : Option (Int32 × kSt) :=
  (f_m11_good  S).bind fun q1 =>
  (f_m11_isPair a1 q1).bind fun q2 =>
  (f_m11_in a2 0 2000000000 q2.2).bind fun q3 =>
  (f_m11_why q2.1 q3.1 q3.2).bind fun q4 =>
  if q4.1 = 0 then
    (f_m11_goRound a1 q4.2).bind fun q6 =>
    if (q6.1 14 26) ≤ a2 then
      knx (q6.1 14 27) fun x8 =>
      kgz x8 (
        knx ((q6.1 14 26) + (krem (a2 - (q6.1 14 26)) x8)) fun x9 =>
        kgi x9 2600 (
          some (q6.1 64 x9.toNatClampNeg, q6)
        )
      )
    else
      kgi a2 2600 (
        some (q6.1 64 a2.toNatClampNeg, q6)
      )
  else
    (f_m11_no q4.1 q4.2).bind fun q10 =>
    some (q10.1, q10.2)
theorem ok_m11_saysLate {l : Launch} {G : kG} {E : kE} (a1 : Int32) (a2 : Int32)  (S : kSt) : kFn l G E E kjI m11_saysLate 5 [.ref 14, .int a1, .int a2] S (f_m11_saysLate a1 a2 S) := by
  unfold f_m11_saysLate
  refine kFn_of (by decide +kernel) (fun hG => Nat.le_of_ble_eq_true rfl) ?_
  show kOk _ _ _ _ _ _ _ _ [(0, .ref 14), (1, .int a1), (2, .int a2)] _ _
  refine ok_aload_n 0 (kd_m11_saysLate.at 0 rfl) rfl rfl ?_
  refine ok_callVV (M' := m11_good) (as := []) (st := []) (kd_m11_saysLate.at 1 rfl) kc11_164 sh_14 rfl rfl (by decide) (ok_m11_good  S) (kfit_of (by decide)) rfl (Nat.le_of_ble_eq_true rfl) (fun q1 hq1 => ?_)
  refine ok_aload_n 0 (kd_m11_saysLate.at 2 rfl) rfl rfl ?_
  refine ok_aload_n 0 (kd_m11_saysLate.at 3 rfl) rfl rfl ?_
  refine ok_iload_n 1 (kd_m11_saysLate.at 4 rfl) rfl rfl ?_
  refine ok_callVB (M' := m11_isPair) (as := [.int a1]) (st := [.ref 14]) (kd_m11_saysLate.at 5 rfl) kc11_239 sh_14 rfl rfl (by decide) (ok_m11_isPair a1 q1) (kfit_of (by decide)) rfl (Nat.le_of_ble_eq_true rfl) (fun q2 hq2 => ?_)
  refine ok_iload_n 2 (kd_m11_saysLate.at 6 rfl) rfl rfl ?_
  refine ok_iconst (v := 0) (kd_m11_saysLate.at 7 rfl) (by decide) ?_
  refine ok_ldcw (kd_m11_saysLate.at 8 rfl) kco_11_289 ?_
  refine ok_callSB (M' := m11_in) (as := [.int a2, .int 0, .int 2000000000]) (st := [.int (kb q2.1), .ref 14]) (kd_m11_saysLate.at 9 rfl) kc11_146  rfl (by decide) (ok_m11_in a2 0 2000000000 q2.2) (kfit_of (by decide)) rfl (Nat.le_of_ble_eq_true rfl) (fun q3 hq3 => ?_)
  refine ok_callVI (M' := m11_why) (as := [.int (kb q2.1), .int (kb q3.1)]) (st := []) (kd_m11_saysLate.at 10 rfl) kc11_275 sh_14 rfl rfl (by decide) (ok_m11_why q2.1 q3.1 q3.2) (kfit_of (by decide)) rfl (Nat.le_of_ble_eq_true rfl) (fun q4 hq4 => ?_)
  refine ok_istore_n (lv' := [(3, .int q4.1), (0, .ref 14), (1, .int a1), (2, .int a2)]) (kd_m11_saysLate.at 11 rfl) rfl (by decide) rfl ?_
  refine ok_iload_n 0 (kd_m11_saysLate.at 12 rfl) rfl rfl ?_
  refine ok_if_eq (tgt := 32) (kd_m11_saysLate.at 13 rfl) (by decide) (fun h5 => ?_) (fun h5 => ?_)
  · refine ok_aload_n 1 (kd_m11_saysLate.at 18 rfl) rfl rfl ?_
    refine ok_iload_n 2 (kd_m11_saysLate.at 19 rfl) rfl rfl ?_
    refine ok_callVV (M' := m11_goRound) (as := [.int a1]) (st := []) (kd_m11_saysLate.at 20 rfl) kc11_286 sh_14 rfl rfl (by decide) (ok_m11_goRound a1 q4.2) (kfit_of (by decide)) rfl (Nat.le_of_ble_eq_true rfl) (fun q6 hq6 => ?_)
    refine ok_iload_n 3 (kd_m11_saysLate.at 21 rfl) rfl rfl ?_
    refine ok_aload_n 1 (kd_m11_saysLate.at 22 rfl) rfl rfl ?_
    refine ok_getI (kd_m11_saysLate.at 23 rfl) kf11_257 sh_14 rfl ?_
    refine ok_icmp_ge (tgt := 54) (kd_m11_saysLate.at 24 rfl) (by decide) (fun h7 => ?_) (fun h7 => ?_)
    · refine ok_aload_n 1 (kd_m11_saysLate.at 30 rfl) rfl rfl ?_
      refine ok_getR (kd_m11_saysLate.at 31 rfl) kf11_41 sh_14 rfl (kr_14_24 _) ?_
      refine ok_aload_n 1 (kd_m11_saysLate.at 32 rfl) rfl rfl ?_
      refine ok_getI (kd_m11_saysLate.at 33 rfl) kf11_257 sh_14 rfl ?_
      refine ok_iload_n 3 (kd_m11_saysLate.at 34 rfl) rfl rfl ?_
      refine ok_aload_n 1 (kd_m11_saysLate.at 35 rfl) rfl rfl ?_
      refine ok_getI (kd_m11_saysLate.at 36 rfl) kf11_257 sh_14 rfl ?_
      refine ok_isub (kd_m11_saysLate.at 37 rfl) ?_
      refine ok_aload_n 1 (kd_m11_saysLate.at 38 rfl) rfl rfl ?_
      refine ok_getI (kd_m11_saysLate.at 39 rfl) kf11_260 sh_14 rfl ?_
      refine ok_topi (fun x8 hx8 => ?_)
      refine ok_iremG (kd_m11_saysLate.at 40 rfl) ?_
      refine ok_iadd (kd_m11_saysLate.at 41 rfl) ?_
      refine ok_topi (fun x9 hx9 => ?_)
      refine ok_iald (kd_m11_saysLate.at 42 rfl) sh_64 ?_
      exact ok_ireturn (kd_m11_saysLate.at 43 rfl) rfl
    · refine ok_aload_n 1 (kd_m11_saysLate.at 25 rfl) rfl rfl ?_
      refine ok_getR (kd_m11_saysLate.at 26 rfl) kf11_41 sh_14 rfl (kr_14_24 _) ?_
      refine ok_iload_n 3 (kd_m11_saysLate.at 27 rfl) rfl rfl ?_
      refine ok_iald (kd_m11_saysLate.at 28 rfl) sh_64 ?_
      refine ok_goto (tgt := 75) (kd_m11_saysLate.at 29 rfl) (by decide) ?_
      exact ok_ireturn (kd_m11_saysLate.at 43 rfl) rfl
  · refine ok_aload_n 1 (kd_m11_saysLate.at 14 rfl) rfl rfl ?_
    refine ok_iload_n 0 (kd_m11_saysLate.at 15 rfl) rfl rfl ?_
    refine ok_callVI (M' := m11_no) (as := [.int q4.1]) (st := []) (kd_m11_saysLate.at 16 rfl) kc11_167 sh_14 rfl rfl (by decide) (ok_m11_no q4.1 q4.2) (kfit_of (by decide)) rfl (Nat.le_of_ble_eq_true rfl) (fun q10 hq10 => ?_)
    exact ok_ireturn (kd_m11_saysLate.at 17 rfl) rfl
def f_m11_extremeOf_L18   (k70 : Int32 → kSt → Option (Int32 × kSt)) (c2 : Int32) : Nat → Int32 → Int32 → kSt → Option (Int32 × kSt)
  | 0, _, _, _ => none
  | n + 1, v3, v4, S =>
    if (S.1 14 29) ≤ v4 then
      k70 v3 S
    else
      knx ((S.1 14 28) + v4) fun x5 =>
      kgi x5 2600 (
        knx (fun (x6 : Int32) (S7 : kSt) =>
          knx (v4 + 1) fun x8 =>
          f_m11_extremeOf_L18 k70 c2 n x6 x8 S7
          ) fun j63 =>
        if (c2 * (S.1 64 x5.toNatClampNeg)) ≤ (c2 * v3) then
          j63 v3 S
        else
          knx ((S.1 14 28) + v4) fun x10 =>
          kgi x10 2600 (
            j63 (S.1 64 x10.toNatClampNeg) S
          )
      )
theorem ok_m11_extremeOf_L18 {l : Launch} {G : kG} {E : kE}    (c2 : Int32) (k70 : Int32 → kSt → Option (Int32 × kSt)) (hk70 : ∀ (v3 : Int32) (S : kSt), kOk l G E (kZ G E kjI) m11_extremeOf (kdp (5)) (k70 v3 S) 70 [(3, .int v3)] [] S) : ∀ (n : Nat) (v3 : Int32) (v4 : Int32) (S : kSt), kOk l G E (kZ G E kjI) m11_extremeOf (kdp (5)) (f_m11_extremeOf_L18 k70 c2 n v3 v4 S) 18 [(0, .ref 14), (2, .int c2), (3, .int v3), (4, .int v4)] [] S := by
  intro n
  induction n with
  | zero => intro v3 v4 S; exact ok_none
  | succ n ih =>
    intro v3 v4 S
    rw [f_m11_extremeOf_L18]
    refine ok_iload 3 (kd_m11_extremeOf.at 11 rfl) rfl ?_
    refine ok_aload_n 0 (kd_m11_extremeOf.at 12 rfl) rfl rfl ?_
    refine ok_getI (kd_m11_extremeOf.at 13 rfl) kf11_263 sh_14 rfl ?_
    refine ok_icmp_ge (tgt := 70) (kd_m11_extremeOf.at 14 rfl) (by decide) (fun h4 => ?_) (fun h4 => ?_)
    · refine ok_sub (lv' := [(3, .int v3)]) [2] rfl ?_
      exact hk70 v3 S
    · refine ok_iload_n 1 (kd_m11_extremeOf.at 15 rfl) rfl rfl ?_
      refine ok_aload_n 0 (kd_m11_extremeOf.at 16 rfl) rfl rfl ?_
      refine ok_getR (kd_m11_extremeOf.at 17 rfl) kf11_41 sh_14 rfl (kr_14_24 _) ?_
      refine ok_aload_n 0 (kd_m11_extremeOf.at 18 rfl) rfl rfl ?_
      refine ok_getI (kd_m11_extremeOf.at 19 rfl) kf11_269 sh_14 rfl ?_
      refine ok_iload 3 (kd_m11_extremeOf.at 20 rfl) rfl ?_
      refine ok_iadd (kd_m11_extremeOf.at 21 rfl) ?_
      refine ok_topi (fun x5 hx5 => ?_)
      refine ok_iald (kd_m11_extremeOf.at 22 rfl) sh_64 ?_
      refine ok_imul (kd_m11_extremeOf.at 23 rfl) ?_
      refine ok_iload_n 1 (kd_m11_extremeOf.at 24 rfl) rfl rfl ?_
      refine ok_iload_n 2 (kd_m11_extremeOf.at 25 rfl) rfl rfl ?_
      refine ok_imul (kd_m11_extremeOf.at 26 rfl) ?_
      refine ok_nx (fun j63 hj63 => ?_)
      have K63 : ∀ (x6 : Int32) (S7 : kSt), kOk l G E (kZ G E kjI) m11_extremeOf (kdp (5)) (j63 x6 S7) 63 [(0, .ref 14), (2, .int c2), (4, .int v4)] [.int x6] S7 := by
        subst hj63
        intro x6 S7
        refine ok_istore_n (lv' := [(3, .int x6), (0, .ref 14), (2, .int c2), (4, .int v4)]) (kd_m11_extremeOf.at 37 rfl) rfl (by decide) rfl ?_
        refine ok_nx (fun x8 hx8 => ?_)
        refine ok_iinc (v := x8) (lv' := [(4, .int x8), (3, .int x6), (0, .ref 14), (2, .int c2)]) 3 (kd_m11_extremeOf.at 38 rfl) rfl hx8.symm (by decide) rfl ?_
        refine ok_goto (tgt := 18) (kd_m11_extremeOf.at 39 rfl) (by decide) ?_
        refine ok_sub (lv' := [(0, .ref 14), (2, .int c2), (3, .int x6), (4, .int x8)]) [2, 3, 1, 0] rfl ?_
        exact ih x6 x8 S7
      clear hj63
      refine ok_icmp_le (tgt := 62) (kd_m11_extremeOf.at 27 rfl) (by decide) (fun h9 => ?_) (fun h9 => ?_)
      · refine ok_iload_n 2 (kd_m11_extremeOf.at 36 rfl) rfl rfl ?_
        refine ok_sub (lv' := [(0, .ref 14), (2, .int c2), (4, .int v4)]) [0, 1, 3] rfl ?_
        exact K63 v3 S
      · refine ok_aload_n 0 (kd_m11_extremeOf.at 28 rfl) rfl rfl ?_
        refine ok_getR (kd_m11_extremeOf.at 29 rfl) kf11_41 sh_14 rfl (kr_14_24 _) ?_
        refine ok_aload_n 0 (kd_m11_extremeOf.at 30 rfl) rfl rfl ?_
        refine ok_getI (kd_m11_extremeOf.at 31 rfl) kf11_269 sh_14 rfl ?_
        refine ok_iload 3 (kd_m11_extremeOf.at 32 rfl) rfl ?_
        refine ok_iadd (kd_m11_extremeOf.at 33 rfl) ?_
        refine ok_topi (fun x10 hx10 => ?_)
        refine ok_iald (kd_m11_extremeOf.at 34 rfl) sh_64 ?_
        refine ok_goto (tgt := 63) (kd_m11_extremeOf.at 35 rfl) (by decide) ?_
        refine ok_sub (lv' := [(0, .ref 14), (2, .int c2), (4, .int v4)]) [0, 1, 3] rfl ?_
        exact K63 (S.1 64 x10.toNatClampNeg) S
def f_m11_extremeOf (a1 : Int32) (a2 : Int32) (S : kSt) : Option (Int32 × kSt) :=
  (f_m11_goRound a1 S).bind fun q1 =>
  knx (q1.1 14 28) fun x2 =>
  kgi x2 2600 (
    knx (q1.1 64 x2.toNatClampNeg) fun x3 =>
    f_m11_extremeOf_L18 
      (fun (x11 : Int32) (S12 : kSt) =>
        some (x11, S12)
      )
      a2 kFU x3 0 q1
  )
theorem ok_m11_extremeOf {l : Launch} {G : kG} {E : kE} (a1 : Int32) (a2 : Int32)  (S : kSt) : kFn l G E E kjI m11_extremeOf 5 [.ref 14, .int a1, .int a2] S (f_m11_extremeOf a1 a2 S) := by
  unfold f_m11_extremeOf
  refine kFn_of (by decide +kernel) (fun hG => Nat.le_of_ble_eq_true rfl) ?_
  show kOk _ _ _ _ _ _ _ _ [(0, .ref 14), (1, .int a1), (2, .int a2)] _ _
  refine ok_aload_n 0 (kd_m11_extremeOf.at 0 rfl) rfl rfl ?_
  refine ok_iload_n 1 (kd_m11_extremeOf.at 1 rfl) rfl rfl ?_
  refine ok_callVV (M' := m11_goRound) (as := [.int a1]) (st := []) (kd_m11_extremeOf.at 2 rfl) kc11_286 sh_14 rfl rfl (by decide) (ok_m11_goRound a1 S) (kfit_of (by decide)) rfl (Nat.le_of_ble_eq_true rfl) (fun q1 hq1 => ?_)
  refine ok_aload_n 0 (kd_m11_extremeOf.at 3 rfl) rfl rfl ?_
  refine ok_getR (kd_m11_extremeOf.at 4 rfl) kf11_41 sh_14 rfl (kr_14_24 _) ?_
  refine ok_aload_n 0 (kd_m11_extremeOf.at 5 rfl) rfl rfl ?_
  refine ok_getI (kd_m11_extremeOf.at 6 rfl) kf11_269 sh_14 rfl ?_
  refine ok_topi (fun x2 hx2 => ?_)
  refine ok_iald (kd_m11_extremeOf.at 7 rfl) sh_64 ?_
  refine ok_topi (fun x3 hx3 => ?_)
  refine ok_istore_n (lv' := [(3, .int x3), (0, .ref 14), (1, .int a1), (2, .int a2)]) (kd_m11_extremeOf.at 8 rfl) rfl (by decide) rfl ?_
  refine ok_iconst (v := 0) (kd_m11_extremeOf.at 9 rfl) (by decide) ?_
  refine ok_istore (lv' := [(4, .int 0), (3, .int x3), (0, .ref 14), (1, .int a1), (2, .int a2)]) (kd_m11_extremeOf.at 10 rfl) (by decide) rfl ?_
  refine ok_sub (lv' := [(0, .ref 14), (2, .int a2), (3, .int x3), (4, .int 0)]) [2, 4, 1, 0] rfl ?_
  refine ok_m11_extremeOf_L18 a2 _ (fun x11 S12 => ?_) kFU x3 0 q1
  refine ok_iload_n 0 (kd_m11_extremeOf.at 40 rfl) rfl rfl ?_
  exact ok_ireturn (kd_m11_extremeOf.at 41 rfl) rfl
def f_m11_roundMost (a1 : Int32) (S : kSt) : Option (Int32 × kSt) :=
  (f_m11_good  S).bind fun q1 =>
  (f_m11_isPair a1 q1).bind fun q2 =>
  if q2.1 then
    (f_m11_extremeOf a1 1 q2.2).bind fun q5 =>
    some (q5.1, q5.2)
  else
    (f_m11_no 1 q2.2).bind fun q4 =>
    some (q4.1, q4.2)
theorem ok_m11_roundMost {l : Launch} {G : kG} {E : kE} (a1 : Int32)  (S : kSt) : kFn l G E E kjI m11_roundMost 6 [.ref 14, .int a1] S (f_m11_roundMost a1 S) := by
  unfold f_m11_roundMost
  refine kFn_of (by decide +kernel) (fun hG => Nat.le_of_ble_eq_true rfl) ?_
  show kOk _ _ _ _ _ _ _ _ [(0, .ref 14), (1, .int a1)] _ _
  refine ok_aload_n 0 (kd_m11_roundMost.at 0 rfl) rfl rfl ?_
  refine ok_callVV (M' := m11_good) (as := []) (st := []) (kd_m11_roundMost.at 1 rfl) kc11_164 sh_14 rfl rfl (by decide) (ok_m11_good  S) (kfit_of (by decide)) rfl (Nat.le_of_ble_eq_true rfl) (fun q1 hq1 => ?_)
  refine ok_aload_n 0 (kd_m11_roundMost.at 2 rfl) rfl rfl ?_
  refine ok_iload_n 1 (kd_m11_roundMost.at 3 rfl) rfl rfl ?_
  refine ok_callVB (M' := m11_isPair) (as := [.int a1]) (st := []) (kd_m11_roundMost.at 4 rfl) kc11_239 sh_14 rfl rfl (by decide) (ok_m11_isPair a1 q1) (kfit_of (by decide)) rfl (Nat.le_of_ble_eq_true rfl) (fun q2 hq2 => ?_)
  refine ok_ifb_eq (tgt := 21) (kd_m11_roundMost.at 5 rfl) (by decide) (fun h3 => ?_) (fun h3 => ?_)
  · refine ok_aload_n 0 (kd_m11_roundMost.at 11 rfl) rfl rfl ?_
    refine ok_iconst (v := 1) (kd_m11_roundMost.at 12 rfl) (by decide) ?_
    refine ok_callVI (M' := m11_no) (as := [.int 1]) (st := []) (kd_m11_roundMost.at 13 rfl) kc11_167 sh_14 rfl rfl (by decide) (ok_m11_no 1 q2.2) (kfit_of (by decide)) rfl (Nat.le_of_ble_eq_true rfl) (fun q4 hq4 => ?_)
    exact ok_ireturn (kd_m11_roundMost.at 14 rfl) rfl
  · refine ok_aload_n 0 (kd_m11_roundMost.at 6 rfl) rfl rfl ?_
    refine ok_iload_n 1 (kd_m11_roundMost.at 7 rfl) rfl rfl ?_
    refine ok_iconst (v := 1) (kd_m11_roundMost.at 8 rfl) (by decide) ?_
    refine ok_callVI (M' := m11_extremeOf) (as := [.int a1, .int 1]) (st := []) (kd_m11_roundMost.at 9 rfl) kc11_290 sh_14 rfl rfl (by decide) (ok_m11_extremeOf a1 1 q2.2) (kfit_of (by decide)) rfl (Nat.le_of_ble_eq_true rfl) (fun q5 hq5 => ?_)
    refine ok_goto (tgt := 26) (kd_m11_roundMost.at 10 rfl) (by decide) ?_
    exact ok_ireturn (kd_m11_roundMost.at 14 rfl) rfl
def f_m11_roundLeast (a1 : Int32) (S : kSt) : Option (Int32 × kSt) :=
  (f_m11_good  S).bind fun q1 =>
  (f_m11_isPair a1 q1).bind fun q2 =>
  if q2.1 then
    (f_m11_extremeOf a1 (-1) q2.2).bind fun q5 =>
    some (q5.1, q5.2)
  else
    (f_m11_no 1 q2.2).bind fun q4 =>
    some (q4.1, q4.2)
theorem ok_m11_roundLeast {l : Launch} {G : kG} {E : kE} (a1 : Int32)  (S : kSt) : kFn l G E E kjI m11_roundLeast 6 [.ref 14, .int a1] S (f_m11_roundLeast a1 S) := by
  unfold f_m11_roundLeast
  refine kFn_of (by decide +kernel) (fun hG => Nat.le_of_ble_eq_true rfl) ?_
  show kOk _ _ _ _ _ _ _ _ [(0, .ref 14), (1, .int a1)] _ _
  refine ok_aload_n 0 (kd_m11_roundLeast.at 0 rfl) rfl rfl ?_
  refine ok_callVV (M' := m11_good) (as := []) (st := []) (kd_m11_roundLeast.at 1 rfl) kc11_164 sh_14 rfl rfl (by decide) (ok_m11_good  S) (kfit_of (by decide)) rfl (Nat.le_of_ble_eq_true rfl) (fun q1 hq1 => ?_)
  refine ok_aload_n 0 (kd_m11_roundLeast.at 2 rfl) rfl rfl ?_
  refine ok_iload_n 1 (kd_m11_roundLeast.at 3 rfl) rfl rfl ?_
  refine ok_callVB (M' := m11_isPair) (as := [.int a1]) (st := []) (kd_m11_roundLeast.at 4 rfl) kc11_239 sh_14 rfl rfl (by decide) (ok_m11_isPair a1 q1) (kfit_of (by decide)) rfl (Nat.le_of_ble_eq_true rfl) (fun q2 hq2 => ?_)
  refine ok_ifb_eq (tgt := 21) (kd_m11_roundLeast.at 5 rfl) (by decide) (fun h3 => ?_) (fun h3 => ?_)
  · refine ok_aload_n 0 (kd_m11_roundLeast.at 11 rfl) rfl rfl ?_
    refine ok_iconst (v := 1) (kd_m11_roundLeast.at 12 rfl) (by decide) ?_
    refine ok_callVI (M' := m11_no) (as := [.int 1]) (st := []) (kd_m11_roundLeast.at 13 rfl) kc11_167 sh_14 rfl rfl (by decide) (ok_m11_no 1 q2.2) (kfit_of (by decide)) rfl (Nat.le_of_ble_eq_true rfl) (fun q4 hq4 => ?_)
    exact ok_ireturn (kd_m11_roundLeast.at 14 rfl) rfl
  · refine ok_aload_n 0 (kd_m11_roundLeast.at 6 rfl) rfl rfl ?_
    refine ok_iload_n 1 (kd_m11_roundLeast.at 7 rfl) rfl rfl ?_
    refine ok_iconst (v := (-1)) (kd_m11_roundLeast.at 8 rfl) (by decide) ?_
    refine ok_callVI (M' := m11_extremeOf) (as := [.int a1, .int (-1)]) (st := []) (kd_m11_roundLeast.at 9 rfl) kc11_290 sh_14 rfl rfl (by decide) (ok_m11_extremeOf a1 (-1) q2.2) (kfit_of (by decide)) rfl (Nat.le_of_ble_eq_true rfl) (fun q5 hq5 => ?_)
    refine ok_goto (tgt := 26) (kd_m11_roundLeast.at 10 rfl) (by decide) ?_
    exact ok_ireturn (kd_m11_roundLeast.at 14 rfl) rfl
def f_m11_turnsAbout_L22   (k67 : Int32 → kSt → Option (Int32 × kSt)) (c1 : Int32) : Nat → Int32 → Int32 → kSt → Option (Int32 × kSt)
  | 0, _, _, _ => none
  | n + 1, v2, v3, S =>
    if 60 ≤ v3 then
      k67 v2 S
    else
      (f_m11_saysIn c1 v3 S).bind fun q5 =>
      (f_m11_isMore q5.1 q5.2).bind fun q6 =>
      (f_m11_saysIn c1 (v3 + 1) q6.2).bind fun q7 =>
      (f_m11_isMore q7.1 q7.2).bind fun q8 =>
      knx (if (kb q6.1) = (kb q8.1) then false else true) fun x10 =>
      knx (v2 + (kb x10)) fun x11 =>
      knx (v3 + 1) fun x12 =>
      f_m11_turnsAbout_L22 k67 c1 n x11 x12 q8.2
theorem ok_m11_turnsAbout_L22 {l : Launch} {G : kG} {E : kE}    (c1 : Int32) (k67 : Int32 → kSt → Option (Int32 × kSt)) (hk67 : ∀ (v2 : Int32) (S : kSt), kOk l G E (kZ G E kjI) m11_turnsAbout (kdp (6)) (k67 v2 S) 67 [(2, .int v2)] [] S) : ∀ (n : Nat) (v2 : Int32) (v3 : Int32) (S : kSt), kOk l G E (kZ G E kjI) m11_turnsAbout (kdp (6)) (f_m11_turnsAbout_L22 k67 c1 n v2 v3 S) 22 [(0, .ref 14), (1, .int c1), (2, .int v2), (3, .int v3)] [] S := by
  intro n
  induction n with
  | zero => intro v2 v3 S; exact ok_none
  | succ n ih =>
    intro v2 v3 S
    rw [f_m11_turnsAbout_L22]
    refine ok_iload_n 3 (kd_m11_turnsAbout.at 14 rfl) rfl rfl ?_
    refine ok_bipush (v := 60) (kd_m11_turnsAbout.at 15 rfl) (by decide) ?_
    refine ok_icmp_ge (tgt := 67) (kd_m11_turnsAbout.at 16 rfl) (by decide) (fun h4 => ?_) (fun h4 => ?_)
    · refine ok_sub (lv' := [(2, .int v2)]) [2] rfl ?_
      exact hk67 v2 S
    · refine ok_iload_n 2 (kd_m11_turnsAbout.at 17 rfl) rfl rfl ?_
      refine ok_aload_n 0 (kd_m11_turnsAbout.at 18 rfl) rfl rfl ?_
      refine ok_aload_n 0 (kd_m11_turnsAbout.at 19 rfl) rfl rfl ?_
      refine ok_iload_n 1 (kd_m11_turnsAbout.at 20 rfl) rfl rfl ?_
      refine ok_iload_n 3 (kd_m11_turnsAbout.at 21 rfl) rfl rfl ?_
      refine ok_callVI (M' := m11_saysIn) (as := [.int c1, .int v3]) (st := [.ref 14, .int v2]) (kd_m11_turnsAbout.at 22 rfl) kc11_283 sh_14 rfl rfl (by decide) (ok_m11_saysIn c1 v3 S) (kfit_of (by decide)) rfl (Nat.le_of_ble_eq_true rfl) (fun q5 hq5 => ?_)
      refine ok_callVB (M' := m11_isMore) (as := [.int q5.1]) (st := [.int v2]) (kd_m11_turnsAbout.at 23 rfl) kc11_272 sh_14 rfl rfl (by decide) (ok_m11_isMore q5.1 q5.2) (kfit_of (by decide)) rfl (Nat.le_of_ble_eq_true rfl) (fun q6 hq6 => ?_)
      refine ok_aload_n 0 (kd_m11_turnsAbout.at 24 rfl) rfl rfl ?_
      refine ok_aload_n 0 (kd_m11_turnsAbout.at 25 rfl) rfl rfl ?_
      refine ok_iload_n 1 (kd_m11_turnsAbout.at 26 rfl) rfl rfl ?_
      refine ok_iload_n 3 (kd_m11_turnsAbout.at 27 rfl) rfl rfl ?_
      refine ok_iconst (v := 1) (kd_m11_turnsAbout.at 28 rfl) (by decide) ?_
      refine ok_iadd (kd_m11_turnsAbout.at 29 rfl) ?_
      refine ok_callVI (M' := m11_saysIn) (as := [.int c1, .int (v3 + 1)]) (st := [.ref 14, .int (kb q6.1), .int v2]) (kd_m11_turnsAbout.at 30 rfl) kc11_283 sh_14 rfl rfl (by decide) (ok_m11_saysIn c1 (v3 + 1) q6.2) (kfit_of (by decide)) rfl (Nat.le_of_ble_eq_true rfl) (fun q7 hq7 => ?_)
      refine ok_callVB (M' := m11_isMore) (as := [.int q7.1]) (st := [.int (kb q6.1), .int v2]) (kd_m11_turnsAbout.at 31 rfl) kc11_272 sh_14 rfl rfl (by decide) (ok_m11_isMore q7.1 q7.2) (kfit_of (by decide)) rfl (Nat.le_of_ble_eq_true rfl) (fun q8 hq8 => ?_)
      refine ok_fold (α := Bool) (pcJ := 59) (lvJ := [(0, .ref 14), (1, .int c1), (2, .int v2), (3, .int v3)]) (stJ := [.int v2]) (mk := fun v => .int (kb v)) (fun K => ?_) (fun x10 => ?_)
      · refine ok_ap ?_
        refine ok_icmp_ne (tgt := 58) (kd_m11_turnsAbout.at 32 rfl) (by decide) (fun h9 => ?_) (fun h9 => ?_)
        · refine ok_iconst (v := 1) (kd_m11_turnsAbout.at 35 rfl) (by decide) ?_
          exact K true
        · refine ok_iconst (v := 0) (kd_m11_turnsAbout.at 33 rfl) (by decide) ?_
          refine ok_goto (tgt := 59) (kd_m11_turnsAbout.at 34 rfl) (by decide) ?_
          exact K false
      · refine ok_iadd (kd_m11_turnsAbout.at 36 rfl) ?_
        refine ok_topi (fun x11 hx11 => ?_)
        refine ok_istore_n (lv' := [(2, .int x11), (0, .ref 14), (1, .int c1), (3, .int v3)]) (kd_m11_turnsAbout.at 37 rfl) rfl (by decide) rfl ?_
        refine ok_nx (fun x12 hx12 => ?_)
        refine ok_iinc (v := x12) (lv' := [(3, .int x12), (2, .int x11), (0, .ref 14), (1, .int c1)]) 3 (kd_m11_turnsAbout.at 38 rfl) rfl hx12.symm (by decide) rfl ?_
        refine ok_goto (tgt := 22) (kd_m11_turnsAbout.at 39 rfl) (by decide) ?_
        refine ok_sub (lv' := [(0, .ref 14), (1, .int c1), (2, .int x11), (3, .int x12)]) [2, 3, 1, 0] rfl ?_
        exact ih x11 x12 q8.2
def f_m11_turnsAbout (a1 : Int32) (S : kSt) : Option (Int32 × kSt) :=
  (f_m11_good  S).bind fun q1 =>
  (f_m11_isPair a1 q1).bind fun q2 =>
  if q2.1 then
    f_m11_turnsAbout_L22 
      (fun (x13 : Int32) (S14 : kSt) =>
        some (x13, S14)
      )
      a1 kFU 0 0 q2.2
  else
    (f_m11_no 1 q2.2).bind fun q15 =>
    some (q15.1, q15.2)
theorem ok_m11_turnsAbout {l : Launch} {G : kG} {E : kE} (a1 : Int32)  (S : kSt) : kFn l G E E kjI m11_turnsAbout 6 [.ref 14, .int a1] S (f_m11_turnsAbout a1 S) := by
  unfold f_m11_turnsAbout
  refine kFn_of (by decide +kernel) (fun hG => Nat.le_of_ble_eq_true rfl) ?_
  show kOk _ _ _ _ _ _ _ _ [(0, .ref 14), (1, .int a1)] _ _
  refine ok_aload_n 0 (kd_m11_turnsAbout.at 0 rfl) rfl rfl ?_
  refine ok_callVV (M' := m11_good) (as := []) (st := []) (kd_m11_turnsAbout.at 1 rfl) kc11_164 sh_14 rfl rfl (by decide) (ok_m11_good  S) (kfit_of (by decide)) rfl (Nat.le_of_ble_eq_true rfl) (fun q1 hq1 => ?_)
  refine ok_aload_n 0 (kd_m11_turnsAbout.at 2 rfl) rfl rfl ?_
  refine ok_iload_n 1 (kd_m11_turnsAbout.at 3 rfl) rfl rfl ?_
  refine ok_callVB (M' := m11_isPair) (as := [.int a1]) (st := []) (kd_m11_turnsAbout.at 4 rfl) kc11_239 sh_14 rfl rfl (by decide) (ok_m11_isPair a1 q1) (kfit_of (by decide)) rfl (Nat.le_of_ble_eq_true rfl) (fun q2 hq2 => ?_)
  refine ok_ifb_ne (tgt := 18) (kd_m11_turnsAbout.at 5 rfl) (by decide) (fun h3 => ?_) (fun h3 => ?_)
  · refine ok_iconst (v := 0) (kd_m11_turnsAbout.at 10 rfl) (by decide) ?_
    refine ok_istore_n (lv' := [(2, .int 0), (0, .ref 14), (1, .int a1)]) (kd_m11_turnsAbout.at 11 rfl) rfl (by decide) rfl ?_
    refine ok_iconst (v := 0) (kd_m11_turnsAbout.at 12 rfl) (by decide) ?_
    refine ok_istore_n (lv' := [(3, .int 0), (2, .int 0), (0, .ref 14), (1, .int a1)]) (kd_m11_turnsAbout.at 13 rfl) rfl (by decide) rfl ?_
    refine ok_sub (lv' := [(0, .ref 14), (1, .int a1), (2, .int 0), (3, .int 0)]) [2, 3, 1, 0] rfl ?_
    refine ok_m11_turnsAbout_L22 a1 _ (fun x13 S14 => ?_) kFU 0 0 q2.2
    refine ok_iload_n 0 (kd_m11_turnsAbout.at 40 rfl) rfl rfl ?_
    exact ok_ireturn (kd_m11_turnsAbout.at 41 rfl) rfl
  · refine ok_aload_n 0 (kd_m11_turnsAbout.at 6 rfl) rfl rfl ?_
    refine ok_iconst (v := 1) (kd_m11_turnsAbout.at 7 rfl) (by decide) ?_
    refine ok_callVI (M' := m11_no) (as := [.int 1]) (st := []) (kd_m11_turnsAbout.at 8 rfl) kc11_167 sh_14 rfl rfl (by decide) (ok_m11_no 1 q2.2) (kfit_of (by decide)) rfl (Nat.le_of_ble_eq_true rfl) (fun q15 hq15 => ?_)
    exact ok_ireturn (kd_m11_turnsAbout.at 9 rfl) rfl
def f_m11_alikeIn_L21   (k42 : Int32 → kSt → Option (Int32 × kSt)) (k50 : kSt → Option (Int32 × kSt)) (c1 : Int32) (c2 : Int32) : Nat → Int32 → kSt → Option (Int32 × kSt)
  | 0, _, _ => none
  | n + 1, v3, S =>
    if 60 < v3 then
      k50  S
    else
      (f_m11_saysIn c1 v3 S).bind fun q5 =>
      (f_m11_saysIn c2 v3 q5.2).bind fun q6 =>
      if q5.1 = q6.1 then
        k42 v3 q6.2
      else
        knx (v3 + 1) fun x8 =>
        f_m11_alikeIn_L21 k42 k50 c1 c2 n x8 q6.2
theorem ok_m11_alikeIn_L21 {l : Launch} {G : kG} {E : kE}    (c1 : Int32) (c2 : Int32) (k42 : Int32 → kSt → Option (Int32 × kSt)) (k50 : kSt → Option (Int32 × kSt)) (hk42 : ∀ (v3 : Int32) (S : kSt), kOk l G E (kZ G E kjI) m11_alikeIn (kdp (6)) (k42 v3 S) 42 [(3, .int v3)] [] S) (hk50 : ∀  (S : kSt), kOk l G E (kZ G E kjI) m11_alikeIn (kdp (6)) (k50  S) 50 [] [] S) : ∀ (n : Nat) (v3 : Int32) (S : kSt), kOk l G E (kZ G E kjI) m11_alikeIn (kdp (6)) (f_m11_alikeIn_L21 k42 k50 c1 c2 n v3 S) 21 [(0, .ref 14), (1, .int c1), (2, .int c2), (3, .int v3)] [] S := by
  intro n
  induction n with
  | zero => intro v3 S; exact ok_none
  | succ n ih =>
    intro v3 S
    rw [f_m11_alikeIn_L21]
    refine ok_iload_n 3 (kd_m11_alikeIn.at 13 rfl) rfl rfl ?_
    refine ok_bipush (v := 60) (kd_m11_alikeIn.at 14 rfl) (by decide) ?_
    refine ok_icmp_gt (tgt := 50) (kd_m11_alikeIn.at 15 rfl) (by decide) (fun h4 => ?_) (fun h4 => ?_)
    · refine ok_sub (lv' := []) [] rfl ?_
      exact hk50  S
    · refine ok_aload_n 0 (kd_m11_alikeIn.at 16 rfl) rfl rfl ?_
      refine ok_iload_n 1 (kd_m11_alikeIn.at 17 rfl) rfl rfl ?_
      refine ok_iload_n 3 (kd_m11_alikeIn.at 18 rfl) rfl rfl ?_
      refine ok_callVI (M' := m11_saysIn) (as := [.int c1, .int v3]) (st := []) (kd_m11_alikeIn.at 19 rfl) kc11_283 sh_14 rfl rfl (by decide) (ok_m11_saysIn c1 v3 S) (kfit_of (by decide)) rfl (Nat.le_of_ble_eq_true rfl) (fun q5 hq5 => ?_)
      refine ok_aload_n 0 (kd_m11_alikeIn.at 20 rfl) rfl rfl ?_
      refine ok_iload_n 2 (kd_m11_alikeIn.at 21 rfl) rfl rfl ?_
      refine ok_iload_n 3 (kd_m11_alikeIn.at 22 rfl) rfl rfl ?_
      refine ok_callVI (M' := m11_saysIn) (as := [.int c2, .int v3]) (st := [.int q5.1]) (kd_m11_alikeIn.at 23 rfl) kc11_283 sh_14 rfl rfl (by decide) (ok_m11_saysIn c2 v3 q5.2) (kfit_of (by decide)) rfl (Nat.le_of_ble_eq_true rfl) (fun q6 hq6 => ?_)
      refine ok_icmp_ne (tgt := 44) (kd_m11_alikeIn.at 24 rfl) (by decide) (fun h7 => ?_) (fun h7 => ?_)
      · refine ok_nx (fun x8 hx8 => ?_)
        refine ok_iinc (v := x8) (lv' := [(3, .int x8), (0, .ref 14), (1, .int c1), (2, .int c2)]) 3 (kd_m11_alikeIn.at 27 rfl) rfl hx8.symm (by decide) rfl ?_
        refine ok_goto (tgt := 21) (kd_m11_alikeIn.at 28 rfl) (by decide) ?_
        refine ok_sub (lv' := [(0, .ref 14), (1, .int c1), (2, .int c2), (3, .int x8)]) [1, 2, 3, 0] rfl ?_
        exact ih x8 q6.2
      · refine ok_sub (lv' := [(3, .int v3)]) [3] rfl ?_
        exact hk42 v3 q6.2
def f_m11_alikeIn (a1 : Int32) (a2 : Int32) (S : kSt) : Option (Int32 × kSt) :=
  (f_m11_good  S).bind fun q1 =>
  (f_m11_areTwo a1 a2 q1).bind fun q2 =>
  if q2.1 then
    f_m11_alikeIn_L21 
      (fun (x9 : Int32) (S10 : kSt) =>
        some (x9, S10)
      )
      (fun  (S11 : kSt) =>
        some ((-2), S11)
      )
      a1 a2 kFU 0 q2.2
  else
    (f_m11_no 1 q2.2).bind fun q12 =>
    some (q12.1, q12.2)
theorem ok_m11_alikeIn {l : Launch} {G : kG} {E : kE} (a1 : Int32) (a2 : Int32)  (S : kSt) : kFn l G E E kjI m11_alikeIn 6 [.ref 14, .int a1, .int a2] S (f_m11_alikeIn a1 a2 S) := by
  unfold f_m11_alikeIn
  refine kFn_of (by decide +kernel) (fun hG => Nat.le_of_ble_eq_true rfl) ?_
  show kOk _ _ _ _ _ _ _ _ [(0, .ref 14), (1, .int a1), (2, .int a2)] _ _
  refine ok_aload_n 0 (kd_m11_alikeIn.at 0 rfl) rfl rfl ?_
  refine ok_callVV (M' := m11_good) (as := []) (st := []) (kd_m11_alikeIn.at 1 rfl) kc11_164 sh_14 rfl rfl (by decide) (ok_m11_good  S) (kfit_of (by decide)) rfl (Nat.le_of_ble_eq_true rfl) (fun q1 hq1 => ?_)
  refine ok_aload_n 0 (kd_m11_alikeIn.at 2 rfl) rfl rfl ?_
  refine ok_iload_n 1 (kd_m11_alikeIn.at 3 rfl) rfl rfl ?_
  refine ok_iload_n 2 (kd_m11_alikeIn.at 4 rfl) rfl rfl ?_
  refine ok_callVB (M' := m11_areTwo) (as := [.int a1, .int a2]) (st := []) (kd_m11_alikeIn.at 5 rfl) kc11_293 sh_14 rfl rfl (by decide) (ok_m11_areTwo a1 a2 q1) (kfit_of (by decide)) rfl (Nat.le_of_ble_eq_true rfl) (fun q2 hq2 => ?_)
  refine ok_ifb_ne (tgt := 19) (kd_m11_alikeIn.at 6 rfl) (by decide) (fun h3 => ?_) (fun h3 => ?_)
  · refine ok_iconst (v := 0) (kd_m11_alikeIn.at 11 rfl) (by decide) ?_
    refine ok_istore_n (lv' := [(3, .int 0), (0, .ref 14), (1, .int a1), (2, .int a2)]) (kd_m11_alikeIn.at 12 rfl) rfl (by decide) rfl ?_
    refine ok_sub (lv' := [(0, .ref 14), (1, .int a1), (2, .int a2), (3, .int 0)]) [1, 2, 3, 0] rfl ?_
    refine ok_m11_alikeIn_L21 a1 a2 _ _ (fun x9 S10 => ?_) (fun S11 => ?_) kFU 0 q2.2
    · refine ok_iload_n 0 (kd_m11_alikeIn.at 25 rfl) rfl rfl ?_
      exact ok_ireturn (kd_m11_alikeIn.at 26 rfl) rfl
    · refine ok_bipush (v := (-2)) (kd_m11_alikeIn.at 29 rfl) (by decide) ?_
      exact ok_ireturn (kd_m11_alikeIn.at 30 rfl) rfl
  · refine ok_aload_n 0 (kd_m11_alikeIn.at 7 rfl) rfl rfl ?_
    refine ok_iconst (v := 1) (kd_m11_alikeIn.at 8 rfl) (by decide) ?_
    refine ok_callVI (M' := m11_no) (as := [.int 1]) (st := []) (kd_m11_alikeIn.at 9 rfl) kc11_167 sh_14 rfl rfl (by decide) (ok_m11_no 1 q2.2) (kfit_of (by decide)) rfl (Nat.le_of_ble_eq_true rfl) (fun q12 hq12 => ?_)
    exact ok_ireturn (kd_m11_alikeIn.at 10 rfl) rfl
def f_m11_loudest_L29   (k65 : Int32 → kSt → Option (Int32 × kSt)) (c1 : Int32) : Nat → Int32 → Int32 → kSt → Option (Int32 × kSt)
  | 0, _, _, _ => none
  | n + 1, v3, v4, S =>
    if (S.1 57 2) ≤ v4 then
      k65 v3 S
    else
      (f_m11_saysIn v4 c1 S).bind fun q6 =>
      (f_m11_saysIn v3 c1 q6.2).bind fun q7 =>
      knx (fun (x8 : Int32) (S9 : kSt) =>
        knx (v4 + 1) fun x10 =>
        f_m11_loudest_L29 k65 c1 n x8 x10 S9
        ) fun j59 =>
      if q6.1 ≤ q7.1 then
        j59 v3 q7.2
      else
        j59 v4 q7.2
theorem ok_m11_loudest_L29 {l : Launch} {G : kG} {E : kE}    (c1 : Int32) (k65 : Int32 → kSt → Option (Int32 × kSt)) (hk65 : ∀ (v3 : Int32) (S : kSt), kOk l G E (kZ G E kjI) m11_loudest (kdp (6)) (k65 v3 S) 65 [(3, .int v3)] [] S) : ∀ (n : Nat) (v3 : Int32) (v4 : Int32) (S : kSt), kOk l G E (kZ G E kjI) m11_loudest (kdp (6)) (f_m11_loudest_L29 k65 c1 n v3 v4 S) 29 [(0, .ref 14), (1, .int c1), (3, .int v3), (4, .int v4)] [] S := by
  intro n
  induction n with
  | zero => intro v3 v4 S; exact ok_none
  | succ n ih =>
    intro v3 v4 S
    rw [f_m11_loudest_L29]
    refine ok_iload 3 (kd_m11_loudest.at 18 rfl) rfl ?_
    refine ok_aload_n 0 (kd_m11_loudest.at 19 rfl) rfl rfl ?_
    refine ok_getR (kd_m11_loudest.at 20 rfl) kf11_20 sh_14 rfl (kr_14_15 _) ?_
    refine ok_iconst (v := 2) (kd_m11_loudest.at 21 rfl) (by decide) ?_
    refine ok_ialdK (j := 2) (kd_m11_loudest.at 22 rfl) sh_57 (by decide) (by decide) ?_
    refine ok_icmp_ge (tgt := 65) (kd_m11_loudest.at 23 rfl) (by decide) (fun h5 => ?_) (fun h5 => ?_)
    · refine ok_sub (lv' := [(3, .int v3)]) [2] rfl ?_
      exact hk65 v3 S
    · refine ok_aload_n 0 (kd_m11_loudest.at 24 rfl) rfl rfl ?_
      refine ok_iload 3 (kd_m11_loudest.at 25 rfl) rfl ?_
      refine ok_iload_n 1 (kd_m11_loudest.at 26 rfl) rfl rfl ?_
      refine ok_callVI (M' := m11_saysIn) (as := [.int v4, .int c1]) (st := []) (kd_m11_loudest.at 27 rfl) kc11_283 sh_14 rfl rfl (by decide) (ok_m11_saysIn v4 c1 S) (kfit_of (by decide)) rfl (Nat.le_of_ble_eq_true rfl) (fun q6 hq6 => ?_)
      refine ok_aload_n 0 (kd_m11_loudest.at 28 rfl) rfl rfl ?_
      refine ok_iload_n 2 (kd_m11_loudest.at 29 rfl) rfl rfl ?_
      refine ok_iload_n 1 (kd_m11_loudest.at 30 rfl) rfl rfl ?_
      refine ok_callVI (M' := m11_saysIn) (as := [.int v3, .int c1]) (st := [.int q6.1]) (kd_m11_loudest.at 31 rfl) kc11_283 sh_14 rfl rfl (by decide) (ok_m11_saysIn v3 c1 q6.2) (kfit_of (by decide)) rfl (Nat.le_of_ble_eq_true rfl) (fun q7 hq7 => ?_)
      refine ok_nx (fun j59 hj59 => ?_)
      have K59 : ∀ (x8 : Int32) (S9 : kSt), kOk l G E (kZ G E kjI) m11_loudest (kdp (6)) (j59 x8 S9) 59 [(0, .ref 14), (1, .int c1), (3, .int x8), (4, .int v4)] [] S9 := by
        subst hj59
        intro x8 S9
        refine ok_nx (fun x10 hx10 => ?_)
        refine ok_iinc (v := x10) (lv' := [(4, .int x10), (0, .ref 14), (1, .int c1), (3, .int x8)]) 3 (kd_m11_loudest.at 35 rfl) rfl hx10.symm (by decide) rfl ?_
        refine ok_goto (tgt := 29) (kd_m11_loudest.at 36 rfl) (by decide) ?_
        refine ok_sub (lv' := [(0, .ref 14), (1, .int c1), (3, .int x8), (4, .int x10)]) [1, 2, 3, 0] rfl ?_
        exact ih x8 x10 S9
      clear hj59
      refine ok_icmp_le (tgt := 59) (kd_m11_loudest.at 32 rfl) (by decide) (fun h11 => ?_) (fun h11 => ?_)
      · exact K59 v3 q7.2
      · refine ok_iload 3 (kd_m11_loudest.at 33 rfl) rfl ?_
        refine ok_istore_n (lv' := [(3, .int v4), (0, .ref 14), (1, .int c1), (4, .int v4)]) (kd_m11_loudest.at 34 rfl) rfl (by decide) rfl ?_
        refine ok_sub (lv' := [(0, .ref 14), (1, .int c1), (3, .int v4), (4, .int v4)]) [1, 2, 0, 3] rfl ?_
        exact K59 v4 q7.2
def f_m11_loudest (a1 : Int32) (S : kSt) : Option (Int32 × kSt) :=
  (f_m11_good  S).bind fun q1 =>
  kgb (q1.1 14 14) fun b2 =>
  (f_m11_aheadWhy b2 a1 q1).bind fun q3 =>
  if q3.1 = 0 then
    f_m11_loudest_L29 
      (fun (x12 : Int32) (S13 : kSt) =>
        some (x12, S13)
      )
      a1 kFU 0 1 q3.2
  else
    (f_m11_no q3.1 q3.2).bind fun q14 =>
    some (q14.1, q14.2)
theorem ok_m11_loudest {l : Launch} {G : kG} {E : kE} (a1 : Int32)  (S : kSt) : kFn l G E E kjI m11_loudest 6 [.ref 14, .int a1] S (f_m11_loudest a1 S) := by
  unfold f_m11_loudest
  refine kFn_of (by decide +kernel) (fun hG => Nat.le_of_ble_eq_true rfl) ?_
  show kOk _ _ _ _ _ _ _ _ [(0, .ref 14), (1, .int a1)] _ _
  refine ok_aload_n 0 (kd_m11_loudest.at 0 rfl) rfl rfl ?_
  refine ok_callVV (M' := m11_good) (as := []) (st := []) (kd_m11_loudest.at 1 rfl) kc11_164 sh_14 rfl rfl (by decide) (ok_m11_good  S) (kfit_of (by decide)) rfl (Nat.le_of_ble_eq_true rfl) (fun q1 hq1 => ?_)
  refine ok_aload_n 0 (kd_m11_loudest.at 2 rfl) rfl rfl ?_
  refine ok_aload_n 0 (kd_m11_loudest.at 3 rfl) rfl rfl ?_
  refine ok_getZ (kd_m11_loudest.at 4 rfl) kf11_177 sh_14 rfl (fun b2 => ?_)
  refine ok_iload_n 1 (kd_m11_loudest.at 5 rfl) rfl rfl ?_
  refine ok_callVI (M' := m11_aheadWhy) (as := [.int (kb b2), .int a1]) (st := []) (kd_m11_loudest.at 6 rfl) kc11_279 sh_14 rfl rfl (by decide) (ok_m11_aheadWhy b2 a1 q1) (kfit_of (by decide)) rfl (Nat.le_of_ble_eq_true rfl) (fun q3 hq3 => ?_)
  refine ok_istore_n (lv' := [(2, .int q3.1), (0, .ref 14), (1, .int a1)]) (kd_m11_loudest.at 7 rfl) rfl (by decide) rfl ?_
  refine ok_iload_n 0 (kd_m11_loudest.at 8 rfl) rfl rfl ?_
  refine ok_if_eq (tgt := 24) (kd_m11_loudest.at 9 rfl) (by decide) (fun h4 => ?_) (fun h4 => ?_)
  · refine ok_iconst (v := 0) (kd_m11_loudest.at 14 rfl) (by decide) ?_
    refine ok_istore_n (lv' := [(3, .int 0), (2, .int q3.1), (0, .ref 14), (1, .int a1)]) (kd_m11_loudest.at 15 rfl) rfl (by decide) rfl ?_
    refine ok_iconst (v := 1) (kd_m11_loudest.at 16 rfl) (by decide) ?_
    refine ok_istore (lv' := [(4, .int 1), (3, .int 0), (2, .int q3.1), (0, .ref 14), (1, .int a1)]) (kd_m11_loudest.at 17 rfl) (by decide) rfl ?_
    refine ok_sub (lv' := [(0, .ref 14), (1, .int a1), (3, .int 0), (4, .int 1)]) [3, 4, 1, 0] rfl ?_
    refine ok_m11_loudest_L29 a1 _ (fun x12 S13 => ?_) kFU 0 1 q3.2
    refine ok_iload_n 0 (kd_m11_loudest.at 37 rfl) rfl rfl ?_
    exact ok_ireturn (kd_m11_loudest.at 38 rfl) rfl
  · refine ok_aload_n 1 (kd_m11_loudest.at 10 rfl) rfl rfl ?_
    refine ok_iload_n 0 (kd_m11_loudest.at 11 rfl) rfl rfl ?_
    refine ok_callVI (M' := m11_no) (as := [.int q3.1]) (st := []) (kd_m11_loudest.at 12 rfl) kc11_167 sh_14 rfl rfl (by decide) (ok_m11_no q3.1 q3.2) (kfit_of (by decide)) rfl (Nat.le_of_ble_eq_true rfl) (fun q14 hq14 => ?_)
    exact ok_ireturn (kd_m11_loudest.at 13 rfl) rfl
def f_m11_mastersIn_L4   (k43 : Int32 → kSt → Option (Int32 × kSt)) (c1 : Int32) : Nat → Int32 → Int32 → kSt → Option (Int32 × kSt)
  | 0, _, _, _ => none
  | n + 1, v2, v3, S =>
    if (S.1 57 2) ≤ v3 then
      k43 v2 S
    else
      (f_m11_saysIn v3 c1 S).bind fun q2 =>
      (f_m11_isMore q2.1 q2.2).bind fun q3 =>
      knx (fun (x4 : Int32) (S5 : kSt) =>
        knx (v2 ||| x4) fun x6 =>
        knx (v3 + 1) fun x7 =>
        f_m11_mastersIn_L4 k43 c1 n x6 x7 S5
        ) fun j35 =>
      if q3.1 then
        j35 (1 <<< (v3 &&& 31)) q3.2
      else
        j35 0 q3.2
theorem ok_m11_mastersIn_L4 {l : Launch} {G : kG} {E : kE}    (c1 : Int32) (k43 : Int32 → kSt → Option (Int32 × kSt)) (hk43 : ∀ (v2 : Int32) (S : kSt), kOk l G E (kZ G E kjI) m11_mastersIn (kdp (6)) (k43 v2 S) 43 [(2, .int v2)] [] S) : ∀ (n : Nat) (v2 : Int32) (v3 : Int32) (S : kSt), kOk l G E (kZ G E kjI) m11_mastersIn (kdp (6)) (f_m11_mastersIn_L4 k43 c1 n v2 v3 S) 4 [(0, .ref 14), (1, .int c1), (2, .int v2), (3, .int v3)] [] S := by
  intro n
  induction n with
  | zero => intro v2 v3 S; exact ok_none
  | succ n ih =>
    intro v2 v3 S
    rw [f_m11_mastersIn_L4]
    refine ok_iload_n 3 (kd_m11_mastersIn.at 4 rfl) rfl rfl ?_
    refine ok_aload_n 0 (kd_m11_mastersIn.at 5 rfl) rfl rfl ?_
    refine ok_getR (kd_m11_mastersIn.at 6 rfl) kf11_20 sh_14 rfl (kr_14_15 _) ?_
    refine ok_iconst (v := 2) (kd_m11_mastersIn.at 7 rfl) (by decide) ?_
    refine ok_ialdK (j := 2) (kd_m11_mastersIn.at 8 rfl) sh_57 (by decide) (by decide) ?_
    refine ok_icmp_ge (tgt := 43) (kd_m11_mastersIn.at 9 rfl) (by decide) (fun h1 => ?_) (fun h1 => ?_)
    · refine ok_sub (lv' := [(2, .int v2)]) [2] rfl ?_
      exact hk43 v2 S
    · refine ok_iload_n 2 (kd_m11_mastersIn.at 10 rfl) rfl rfl ?_
      refine ok_aload_n 0 (kd_m11_mastersIn.at 11 rfl) rfl rfl ?_
      refine ok_aload_n 0 (kd_m11_mastersIn.at 12 rfl) rfl rfl ?_
      refine ok_iload_n 3 (kd_m11_mastersIn.at 13 rfl) rfl rfl ?_
      refine ok_iload_n 1 (kd_m11_mastersIn.at 14 rfl) rfl rfl ?_
      refine ok_callVI (M' := m11_saysIn) (as := [.int v3, .int c1]) (st := [.ref 14, .int v2]) (kd_m11_mastersIn.at 15 rfl) kc11_283 sh_14 rfl rfl (by decide) (ok_m11_saysIn v3 c1 S) (kfit_of (by decide)) rfl (Nat.le_of_ble_eq_true rfl) (fun q2 hq2 => ?_)
      refine ok_callVB (M' := m11_isMore) (as := [.int q2.1]) (st := [.int v2]) (kd_m11_mastersIn.at 16 rfl) kc11_272 sh_14 rfl rfl (by decide) (ok_m11_isMore q2.1 q2.2) (kfit_of (by decide)) rfl (Nat.le_of_ble_eq_true rfl) (fun q3 hq3 => ?_)
      refine ok_nx (fun j35 hj35 => ?_)
      have K35 : ∀ (x4 : Int32) (S5 : kSt), kOk l G E (kZ G E kjI) m11_mastersIn (kdp (6)) (j35 x4 S5) 35 [(0, .ref 14), (1, .int c1), (3, .int v3)] [.int x4, .int v2] S5 := by
        subst hj35
        intro x4 S5
        refine ok_ior (kd_m11_mastersIn.at 23 rfl) ?_
        refine ok_topi (fun x6 hx6 => ?_)
        refine ok_istore_n (lv' := [(2, .int x6), (0, .ref 14), (1, .int c1), (3, .int v3)]) (kd_m11_mastersIn.at 24 rfl) rfl (by decide) rfl ?_
        refine ok_nx (fun x7 hx7 => ?_)
        refine ok_iinc (v := x7) (lv' := [(3, .int x7), (2, .int x6), (0, .ref 14), (1, .int c1)]) 3 (kd_m11_mastersIn.at 25 rfl) rfl hx7.symm (by decide) rfl ?_
        refine ok_goto (tgt := 4) (kd_m11_mastersIn.at 26 rfl) (by decide) ?_
        refine ok_sub (lv' := [(0, .ref 14), (1, .int c1), (2, .int x6), (3, .int x7)]) [2, 3, 1, 0] rfl ?_
        exact ih x6 x7 S5
      clear hj35
      refine ok_ifb_eq (tgt := 34) (kd_m11_mastersIn.at 17 rfl) (by decide) (fun h8 => ?_) (fun h8 => ?_)
      · refine ok_iconst (v := 0) (kd_m11_mastersIn.at 22 rfl) (by decide) ?_
        refine ok_sub (lv' := [(0, .ref 14), (1, .int c1), (3, .int v3)]) [0, 1, 3] rfl ?_
        exact K35 0 q3.2
      · refine ok_iconst (v := 1) (kd_m11_mastersIn.at 18 rfl) (by decide) ?_
        refine ok_iload_n 3 (kd_m11_mastersIn.at 19 rfl) rfl rfl ?_
        refine ok_ishl (kd_m11_mastersIn.at 20 rfl) ?_
        refine ok_goto (tgt := 35) (kd_m11_mastersIn.at 21 rfl) (by decide) ?_
        refine ok_sub (lv' := [(0, .ref 14), (1, .int c1), (3, .int v3)]) [0, 1, 3] rfl ?_
        exact K35 (1 <<< (v3 &&& 31)) q3.2
def f_m11_mastersIn (a1 : Int32) (S : kSt) : Option (Int32 × kSt) :=
  f_m11_mastersIn_L4 
    (fun (x9 : Int32) (S10 : kSt) =>
      some (x9, S10)
    )
    a1 kFU 0 0 S
theorem ok_m11_mastersIn {l : Launch} {G : kG} {E : kE} (a1 : Int32)  (S : kSt) : kFn l G E E kjI m11_mastersIn 6 [.ref 14, .int a1] S (f_m11_mastersIn a1 S) := by
  unfold f_m11_mastersIn
  refine kFn_of (by decide +kernel) (fun hG => Nat.le_of_ble_eq_true rfl) ?_
  show kOk _ _ _ _ _ _ _ _ [(0, .ref 14), (1, .int a1)] _ _
  refine ok_iconst (v := 0) (kd_m11_mastersIn.at 0 rfl) (by decide) ?_
  refine ok_istore_n (lv' := [(2, .int 0), (0, .ref 14), (1, .int a1)]) (kd_m11_mastersIn.at 1 rfl) rfl (by decide) rfl ?_
  refine ok_iconst (v := 0) (kd_m11_mastersIn.at 2 rfl) (by decide) ?_
  refine ok_istore_n (lv' := [(3, .int 0), (2, .int 0), (0, .ref 14), (1, .int a1)]) (kd_m11_mastersIn.at 3 rfl) rfl (by decide) rfl ?_
  refine ok_sub (lv' := [(0, .ref 14), (1, .int a1), (2, .int 0), (3, .int 0)]) [2, 3, 1, 0] rfl ?_
  refine ok_m11_mastersIn_L4 a1 _ (fun x9 S10 => ?_) kFU 0 0 S
  refine ok_iload_n 0 (kd_m11_mastersIn.at 27 rfl) rfl rfl ?_
  exact ok_ireturn (kd_m11_mastersIn.at 28 rfl) rfl
def f_m11_masters (a1 : Int32) (S : kSt) : Option (Int32 × kSt) :=
  (f_m11_good  S).bind fun q1 =>
  kgb (q1.1 14 14) fun b2 =>
  (f_m11_aheadWhy b2 a1 q1).bind fun q3 =>
  if q3.1 = 0 then
    (f_m11_mastersIn a1 q3.2).bind fun q5 =>
    some (q5.1, q5.2)
  else
    (f_m11_no q3.1 q3.2).bind fun q6 =>
    some (q6.1, q6.2)
theorem ok_m11_masters {l : Launch} {G : kG} {E : kE} (a1 : Int32)  (S : kSt) : kFn l G E E kjI m11_masters 7 [.ref 14, .int a1] S (f_m11_masters a1 S) := by
  unfold f_m11_masters
  refine kFn_of (by decide +kernel) (fun hG => Nat.le_of_ble_eq_true rfl) ?_
  show kOk _ _ _ _ _ _ _ _ [(0, .ref 14), (1, .int a1)] _ _
  refine ok_aload_n 0 (kd_m11_masters.at 0 rfl) rfl rfl ?_
  refine ok_callVV (M' := m11_good) (as := []) (st := []) (kd_m11_masters.at 1 rfl) kc11_164 sh_14 rfl rfl (by decide) (ok_m11_good  S) (kfit_of (by decide)) rfl (Nat.le_of_ble_eq_true rfl) (fun q1 hq1 => ?_)
  refine ok_aload_n 0 (kd_m11_masters.at 2 rfl) rfl rfl ?_
  refine ok_aload_n 0 (kd_m11_masters.at 3 rfl) rfl rfl ?_
  refine ok_getZ (kd_m11_masters.at 4 rfl) kf11_177 sh_14 rfl (fun b2 => ?_)
  refine ok_iload_n 1 (kd_m11_masters.at 5 rfl) rfl rfl ?_
  refine ok_callVI (M' := m11_aheadWhy) (as := [.int (kb b2), .int a1]) (st := []) (kd_m11_masters.at 6 rfl) kc11_279 sh_14 rfl rfl (by decide) (ok_m11_aheadWhy b2 a1 q1) (kfit_of (by decide)) rfl (Nat.le_of_ble_eq_true rfl) (fun q3 hq3 => ?_)
  refine ok_istore_n (lv' := [(2, .int q3.1), (0, .ref 14), (1, .int a1)]) (kd_m11_masters.at 7 rfl) rfl (by decide) rfl ?_
  refine ok_iload_n 0 (kd_m11_masters.at 8 rfl) rfl rfl ?_
  refine ok_if_eq (tgt := 26) (kd_m11_masters.at 9 rfl) (by decide) (fun h4 => ?_) (fun h4 => ?_)
  · refine ok_aload_n 1 (kd_m11_masters.at 14 rfl) rfl rfl ?_
    refine ok_iload_n 2 (kd_m11_masters.at 15 rfl) rfl rfl ?_
    refine ok_callVI (M' := m11_mastersIn) (as := [.int a1]) (st := []) (kd_m11_masters.at 16 rfl) kc11_297 sh_14 rfl rfl (by decide) (ok_m11_mastersIn a1 q3.2) (kfit_of (by decide)) rfl (Nat.le_of_ble_eq_true rfl) (fun q5 hq5 => ?_)
    exact ok_ireturn (kd_m11_masters.at 17 rfl) rfl
  · refine ok_aload_n 1 (kd_m11_masters.at 10 rfl) rfl rfl ?_
    refine ok_iload_n 0 (kd_m11_masters.at 11 rfl) rfl rfl ?_
    refine ok_callVI (M' := m11_no) (as := [.int q3.1]) (st := []) (kd_m11_masters.at 12 rfl) kc11_167 sh_14 rfl rfl (by decide) (ok_m11_no q3.1 q3.2) (kfit_of (by decide)) rfl (Nat.le_of_ble_eq_true rfl) (fun q6 hq6 => ?_)
    refine ok_goto (tgt := 31) (kd_m11_masters.at 13 rfl) (by decide) ?_
    exact ok_ireturn (kd_m11_masters.at 17 rfl) rfl
def f_m11_overtakes_L21   (k42 : Int32 → kSt → Option (Int32 × kSt)) (k50 : kSt → Option (Int32 × kSt)) (c1 : Int32) (c2 : Int32) : Nat → Int32 → kSt → Option (Int32 × kSt)
  | 0, _, _ => none
  | n + 1, v3, S =>
    if 60 < v3 then
      k50  S
    else
      (f_m11_saysIn c1 v3 S).bind fun q5 =>
      (f_m11_saysIn c2 v3 q5.2).bind fun q6 =>
      if q5.1 ≤ q6.1 then
        knx (v3 + 1) fun x8 =>
        f_m11_overtakes_L21 k42 k50 c1 c2 n x8 q6.2
      else
        k42 v3 q6.2
theorem ok_m11_overtakes_L21 {l : Launch} {G : kG} {E : kE}    (c1 : Int32) (c2 : Int32) (k42 : Int32 → kSt → Option (Int32 × kSt)) (k50 : kSt → Option (Int32 × kSt)) (hk42 : ∀ (v3 : Int32) (S : kSt), kOk l G E (kZ G E kjI) m11_overtakes (kdp (6)) (k42 v3 S) 42 [(3, .int v3)] [] S) (hk50 : ∀  (S : kSt), kOk l G E (kZ G E kjI) m11_overtakes (kdp (6)) (k50  S) 50 [] [] S) : ∀ (n : Nat) (v3 : Int32) (S : kSt), kOk l G E (kZ G E kjI) m11_overtakes (kdp (6)) (f_m11_overtakes_L21 k42 k50 c1 c2 n v3 S) 21 [(0, .ref 14), (1, .int c1), (2, .int c2), (3, .int v3)] [] S := by
  intro n
  induction n with
  | zero => intro v3 S; exact ok_none
  | succ n ih =>
    intro v3 S
    rw [f_m11_overtakes_L21]
    refine ok_iload_n 3 (kd_m11_overtakes.at 13 rfl) rfl rfl ?_
    refine ok_bipush (v := 60) (kd_m11_overtakes.at 14 rfl) (by decide) ?_
    refine ok_icmp_gt (tgt := 50) (kd_m11_overtakes.at 15 rfl) (by decide) (fun h4 => ?_) (fun h4 => ?_)
    · refine ok_sub (lv' := []) [] rfl ?_
      exact hk50  S
    · refine ok_aload_n 0 (kd_m11_overtakes.at 16 rfl) rfl rfl ?_
      refine ok_iload_n 1 (kd_m11_overtakes.at 17 rfl) rfl rfl ?_
      refine ok_iload_n 3 (kd_m11_overtakes.at 18 rfl) rfl rfl ?_
      refine ok_callVI (M' := m11_saysIn) (as := [.int c1, .int v3]) (st := []) (kd_m11_overtakes.at 19 rfl) kc11_283 sh_14 rfl rfl (by decide) (ok_m11_saysIn c1 v3 S) (kfit_of (by decide)) rfl (Nat.le_of_ble_eq_true rfl) (fun q5 hq5 => ?_)
      refine ok_aload_n 0 (kd_m11_overtakes.at 20 rfl) rfl rfl ?_
      refine ok_iload_n 2 (kd_m11_overtakes.at 21 rfl) rfl rfl ?_
      refine ok_iload_n 3 (kd_m11_overtakes.at 22 rfl) rfl rfl ?_
      refine ok_callVI (M' := m11_saysIn) (as := [.int c2, .int v3]) (st := [.int q5.1]) (kd_m11_overtakes.at 23 rfl) kc11_283 sh_14 rfl rfl (by decide) (ok_m11_saysIn c2 v3 q5.2) (kfit_of (by decide)) rfl (Nat.le_of_ble_eq_true rfl) (fun q6 hq6 => ?_)
      refine ok_icmp_le (tgt := 44) (kd_m11_overtakes.at 24 rfl) (by decide) (fun h7 => ?_) (fun h7 => ?_)
      · refine ok_nx (fun x8 hx8 => ?_)
        refine ok_iinc (v := x8) (lv' := [(3, .int x8), (0, .ref 14), (1, .int c1), (2, .int c2)]) 3 (kd_m11_overtakes.at 27 rfl) rfl hx8.symm (by decide) rfl ?_
        refine ok_goto (tgt := 21) (kd_m11_overtakes.at 28 rfl) (by decide) ?_
        refine ok_sub (lv' := [(0, .ref 14), (1, .int c1), (2, .int c2), (3, .int x8)]) [1, 2, 3, 0] rfl ?_
        exact ih x8 q6.2
      · refine ok_sub (lv' := [(3, .int v3)]) [3] rfl ?_
        exact hk42 v3 q6.2
def f_m11_overtakes (a1 : Int32) (a2 : Int32) (S : kSt) : Option (Int32 × kSt) :=
  (f_m11_good  S).bind fun q1 =>
  (f_m11_areTwo a1 a2 q1).bind fun q2 =>
  if q2.1 then
    f_m11_overtakes_L21 
      (fun (x9 : Int32) (S10 : kSt) =>
        some (x9, S10)
      )
      (fun  (S11 : kSt) =>
        some ((-2), S11)
      )
      a1 a2 kFU 0 q2.2
  else
    (f_m11_no 1 q2.2).bind fun q12 =>
    some (q12.1, q12.2)
theorem ok_m11_overtakes {l : Launch} {G : kG} {E : kE} (a1 : Int32) (a2 : Int32)  (S : kSt) : kFn l G E E kjI m11_overtakes 6 [.ref 14, .int a1, .int a2] S (f_m11_overtakes a1 a2 S) := by
  unfold f_m11_overtakes
  refine kFn_of (by decide +kernel) (fun hG => Nat.le_of_ble_eq_true rfl) ?_
  show kOk _ _ _ _ _ _ _ _ [(0, .ref 14), (1, .int a1), (2, .int a2)] _ _
  refine ok_aload_n 0 (kd_m11_overtakes.at 0 rfl) rfl rfl ?_
  refine ok_callVV (M' := m11_good) (as := []) (st := []) (kd_m11_overtakes.at 1 rfl) kc11_164 sh_14 rfl rfl (by decide) (ok_m11_good  S) (kfit_of (by decide)) rfl (Nat.le_of_ble_eq_true rfl) (fun q1 hq1 => ?_)
  refine ok_aload_n 0 (kd_m11_overtakes.at 2 rfl) rfl rfl ?_
  refine ok_iload_n 1 (kd_m11_overtakes.at 3 rfl) rfl rfl ?_
  refine ok_iload_n 2 (kd_m11_overtakes.at 4 rfl) rfl rfl ?_
  refine ok_callVB (M' := m11_areTwo) (as := [.int a1, .int a2]) (st := []) (kd_m11_overtakes.at 5 rfl) kc11_293 sh_14 rfl rfl (by decide) (ok_m11_areTwo a1 a2 q1) (kfit_of (by decide)) rfl (Nat.le_of_ble_eq_true rfl) (fun q2 hq2 => ?_)
  refine ok_ifb_ne (tgt := 19) (kd_m11_overtakes.at 6 rfl) (by decide) (fun h3 => ?_) (fun h3 => ?_)
  · refine ok_iconst (v := 0) (kd_m11_overtakes.at 11 rfl) (by decide) ?_
    refine ok_istore_n (lv' := [(3, .int 0), (0, .ref 14), (1, .int a1), (2, .int a2)]) (kd_m11_overtakes.at 12 rfl) rfl (by decide) rfl ?_
    refine ok_sub (lv' := [(0, .ref 14), (1, .int a1), (2, .int a2), (3, .int 0)]) [1, 2, 3, 0] rfl ?_
    refine ok_m11_overtakes_L21 a1 a2 _ _ (fun x9 S10 => ?_) (fun S11 => ?_) kFU 0 q2.2
    · refine ok_iload_n 0 (kd_m11_overtakes.at 25 rfl) rfl rfl ?_
      exact ok_ireturn (kd_m11_overtakes.at 26 rfl) rfl
    · refine ok_bipush (v := (-2)) (kd_m11_overtakes.at 29 rfl) (by decide) ?_
      exact ok_ireturn (kd_m11_overtakes.at 30 rfl) rfl
  · refine ok_aload_n 0 (kd_m11_overtakes.at 7 rfl) rfl rfl ?_
    refine ok_iconst (v := 1) (kd_m11_overtakes.at 8 rfl) (by decide) ?_
    refine ok_callVI (M' := m11_no) (as := [.int 1]) (st := []) (kd_m11_overtakes.at 9 rfl) kc11_167 sh_14 rfl rfl (by decide) (ok_m11_no 1 q2.2) (kfit_of (by decide)) rfl (Nat.le_of_ble_eq_true rfl) (fun q12 hq12 => ?_)
    exact ok_ireturn (kd_m11_overtakes.at 10 rfl) rfl
def f_m11_widest_L50   (k117 : Int32 → Int32 → kSt → Option (Int32 × kSt)) (c1 : Int32) (c5 : Int32) : Nat → Int32 → Int32 → Int32 → kSt → Option (Int32 × kSt)
  | 0, _, _, _, _ => none
  | n + 1, v3, v4, v6, S =>
    if (S.1 57 2) ≤ v6 then
      k117 v3 v4 S
    else
      (f_m11_saysIn c5 c1 S).bind fun q8 =>
      (f_m11_saysIn v6 c1 q8.2).bind fun q9 =>
      knx (q8.1 - q9.1) fun x10 =>
      knx (fun (x11 : Int32) (S12 : kSt) =>
        knx (fun (x13 : Int32) (x14 : Int32) (S15 : kSt) =>
          knx (v6 + 1) fun x16 =>
          f_m11_widest_L50 k117 c1 c5 n x13 x14 x16 S15
          ) fun j111 =>
        if v4 < x11 then
          knx ((10 * c5) + v6) fun x18 =>
          j111 x18 x11 S12
        else
          j111 v3 v4 S12
        ) fun j88 =>
      if 0 ≤ x10 then
        j88 x10 q9.2
      else
        knx (-x10) fun x20 =>
        j88 x20 q9.2
theorem ok_m11_widest_L50 {l : Launch} {G : kG} {E : kE}    (c1 : Int32) (c5 : Int32) (k117 : Int32 → Int32 → kSt → Option (Int32 × kSt)) (hk117 : ∀ (v3 : Int32) (v4 : Int32) (S : kSt), kOk l G E (kZ G E kjI) m11_widest (kdp (6)) (k117 v3 v4 S) 117 [(0, .ref 14), (1, .int c1), (3, .int v3), (4, .int v4), (5, .int c5)] [] S) : ∀ (n : Nat) (v3 : Int32) (v4 : Int32) (v6 : Int32) (S : kSt), kOk l G E (kZ G E kjI) m11_widest (kdp (6)) (f_m11_widest_L50 k117 c1 c5 n v3 v4 v6 S) 50 [(0, .ref 14), (1, .int c1), (3, .int v3), (4, .int v4), (5, .int c5), (6, .int v6)] [] S := by
  intro n
  induction n with
  | zero => intro v3 v4 v6 S; exact ok_none
  | succ n ih =>
    intro v3 v4 v6 S
    rw [f_m11_widest_L50]
    refine ok_iload 5 (kd_m11_widest.at 30 rfl) rfl ?_
    refine ok_aload_n 0 (kd_m11_widest.at 31 rfl) rfl rfl ?_
    refine ok_getR (kd_m11_widest.at 32 rfl) kf11_20 sh_14 rfl (kr_14_15 _) ?_
    refine ok_iconst (v := 2) (kd_m11_widest.at 33 rfl) (by decide) ?_
    refine ok_ialdK (j := 2) (kd_m11_widest.at 34 rfl) sh_57 (by decide) (by decide) ?_
    refine ok_icmp_ge (tgt := 117) (kd_m11_widest.at 35 rfl) (by decide) (fun h7 => ?_) (fun h7 => ?_)
    · refine ok_sub (lv' := [(0, .ref 14), (1, .int c1), (3, .int v3), (4, .int v4), (5, .int c5)]) [0, 1, 2, 3, 4] rfl ?_
      exact hk117 v3 v4 S
    · refine ok_aload_n 0 (kd_m11_widest.at 36 rfl) rfl rfl ?_
      refine ok_iload 4 (kd_m11_widest.at 37 rfl) rfl ?_
      refine ok_iload_n 1 (kd_m11_widest.at 38 rfl) rfl rfl ?_
      refine ok_callVI (M' := m11_saysIn) (as := [.int c5, .int c1]) (st := []) (kd_m11_widest.at 39 rfl) kc11_283 sh_14 rfl rfl (by decide) (ok_m11_saysIn c5 c1 S) (kfit_of (by decide)) rfl (Nat.le_of_ble_eq_true rfl) (fun q8 hq8 => ?_)
      refine ok_aload_n 0 (kd_m11_widest.at 40 rfl) rfl rfl ?_
      refine ok_iload 5 (kd_m11_widest.at 41 rfl) rfl ?_
      refine ok_iload_n 1 (kd_m11_widest.at 42 rfl) rfl rfl ?_
      refine ok_callVI (M' := m11_saysIn) (as := [.int v6, .int c1]) (st := [.int q8.1]) (kd_m11_widest.at 43 rfl) kc11_283 sh_14 rfl rfl (by decide) (ok_m11_saysIn v6 c1 q8.2) (kfit_of (by decide)) rfl (Nat.le_of_ble_eq_true rfl) (fun q9 hq9 => ?_)
      refine ok_isub (kd_m11_widest.at 44 rfl) ?_
      refine ok_topi (fun x10 hx10 => ?_)
      refine ok_istore (lv' := [(7, .int x10), (0, .ref 14), (1, .int c1), (3, .int v3), (4, .int v4), (5, .int c5), (6, .int v6)]) (kd_m11_widest.at 45 rfl) (by decide) rfl ?_
      refine ok_iload 0 (kd_m11_widest.at 46 rfl) rfl ?_
      refine ok_nx (fun j88 hj88 => ?_)
      have K88 : ∀ (x11 : Int32) (S12 : kSt), kOk l G E (kZ G E kjI) m11_widest (kdp (6)) (j88 x11 S12) 88 [(0, .ref 14), (1, .int c1), (3, .int v3), (4, .int v4), (5, .int c5), (6, .int v6), (7, .int x11)] [] S12 := by
        subst hj88
        intro x11 S12
        refine ok_iload 6 (kd_m11_widest.at 51 rfl) rfl ?_
        refine ok_iload 3 (kd_m11_widest.at 52 rfl) rfl ?_
        refine ok_nx (fun j111 hj111 => ?_)
        have K111 : ∀ (x13 : Int32) (x14 : Int32) (S15 : kSt), kOk l G E (kZ G E kjI) m11_widest (kdp (6)) (j111 x13 x14 S15) 111 [(0, .ref 14), (1, .int c1), (3, .int x13), (4, .int x14), (5, .int c5), (6, .int v6)] [] S15 := by
          subst hj111
          intro x13 x14 S15
          refine ok_nx (fun x16 hx16 => ?_)
          refine ok_iinc (v := x16) (lv' := [(6, .int x16), (0, .ref 14), (1, .int c1), (3, .int x13), (4, .int x14), (5, .int c5)]) 5 (kd_m11_widest.at 63 rfl) rfl hx16.symm (by decide) rfl ?_
          refine ok_goto (tgt := 50) (kd_m11_widest.at 64 rfl) (by decide) ?_
          refine ok_sub (lv' := [(0, .ref 14), (1, .int c1), (3, .int x13), (4, .int x14), (5, .int c5), (6, .int x16)]) [1, 2, 3, 4, 5, 0] rfl ?_
          exact ih x13 x14 x16 S15
        clear hj111
        refine ok_icmp_gt (tgt := 98) (kd_m11_widest.at 53 rfl) (by decide) (fun h17 => ?_) (fun h17 => ?_)
        · refine ok_bipush (v := 10) (kd_m11_widest.at 55 rfl) (by decide) ?_
          refine ok_iload 4 (kd_m11_widest.at 56 rfl) rfl ?_
          refine ok_imul (kd_m11_widest.at 57 rfl) ?_
          refine ok_iload 5 (kd_m11_widest.at 58 rfl) rfl ?_
          refine ok_iadd (kd_m11_widest.at 59 rfl) ?_
          refine ok_topi (fun x18 hx18 => ?_)
          refine ok_istore_n (lv' := [(3, .int x18), (0, .ref 14), (1, .int c1), (4, .int v4), (5, .int c5), (6, .int v6), (7, .int x11)]) (kd_m11_widest.at 60 rfl) rfl (by decide) rfl ?_
          refine ok_iload 6 (kd_m11_widest.at 61 rfl) rfl ?_
          refine ok_istore (lv' := [(4, .int x11), (3, .int x18), (0, .ref 14), (1, .int c1), (5, .int c5), (6, .int v6), (7, .int x11)]) (kd_m11_widest.at 62 rfl) (by decide) rfl ?_
          refine ok_sub (lv' := [(0, .ref 14), (1, .int c1), (3, .int x18), (4, .int x11), (5, .int c5), (6, .int v6)]) [2, 3, 1, 0, 4, 5] rfl ?_
          exact K111 x18 x11 S12
        · refine ok_goto (tgt := 111) (kd_m11_widest.at 54 rfl) (by decide) ?_
          refine ok_sub (lv' := [(0, .ref 14), (1, .int c1), (3, .int v3), (4, .int v4), (5, .int c5), (6, .int v6)]) [0, 1, 2, 3, 4, 5] rfl ?_
          exact K111 v3 v4 S12
      clear hj88
      refine ok_if_ge (tgt := 88) (kd_m11_widest.at 47 rfl) (by decide) (fun h19 => ?_) (fun h19 => ?_)
      · refine ok_sub (lv' := [(0, .ref 14), (1, .int c1), (3, .int v3), (4, .int v4), (5, .int c5), (6, .int v6), (7, .int x10)]) [1, 2, 3, 4, 5, 6, 0] rfl ?_
        exact K88 x10 q9.2
      · refine ok_iload 0 (kd_m11_widest.at 48 rfl) rfl ?_
        refine ok_ineg (kd_m11_widest.at 49 rfl) ?_
        refine ok_topi (fun x20 hx20 => ?_)
        refine ok_istore (lv' := [(7, .int x20), (0, .ref 14), (1, .int c1), (3, .int v3), (4, .int v4), (5, .int c5), (6, .int v6)]) (kd_m11_widest.at 50 rfl) (by decide) rfl ?_
        refine ok_sub (lv' := [(0, .ref 14), (1, .int c1), (3, .int v3), (4, .int v4), (5, .int c5), (6, .int v6), (7, .int x20)]) [1, 2, 3, 4, 5, 6, 0] rfl ?_
        exact K88 x20 q9.2
def f_m11_widest_L33   (k123 : Int32 → kSt → Option (Int32 × kSt)) (c1 : Int32) : Nat → Int32 → Int32 → Int32 → kSt → Option (Int32 × kSt)
  | 0, _, _, _, _ => none
  | n + 1, v3, v4, v5, S =>
    if (S.1 57 2) ≤ v5 then
      k123 v3 S
    else
      knx (v5 + 1) fun x6 =>
      f_m11_widest_L50 
        (fun (x21 : Int32) (x22 : Int32) (S23 : kSt) =>
          knx (v5 + 1) fun x24 =>
          f_m11_widest_L33 k123 c1 n x21 x22 x24 S23
        )
        c1 v5 kFU v3 v4 x6 S
theorem ok_m11_widest_L33 {l : Launch} {G : kG} {E : kE}    (c1 : Int32) (k123 : Int32 → kSt → Option (Int32 × kSt)) (hk123 : ∀ (v3 : Int32) (S : kSt), kOk l G E (kZ G E kjI) m11_widest (kdp (6)) (k123 v3 S) 123 [(3, .int v3)] [] S) : ∀ (n : Nat) (v3 : Int32) (v4 : Int32) (v5 : Int32) (S : kSt), kOk l G E (kZ G E kjI) m11_widest (kdp (6)) (f_m11_widest_L33 k123 c1 n v3 v4 v5 S) 33 [(0, .ref 14), (1, .int c1), (3, .int v3), (4, .int v4), (5, .int v5)] [] S := by
  intro n
  induction n with
  | zero => intro v3 v4 v5 S; exact ok_none
  | succ n ih =>
    intro v3 v4 v5 S
    rw [f_m11_widest_L33]
    refine ok_iload 4 (kd_m11_widest.at 20 rfl) rfl ?_
    refine ok_aload_n 0 (kd_m11_widest.at 21 rfl) rfl rfl ?_
    refine ok_getR (kd_m11_widest.at 22 rfl) kf11_20 sh_14 rfl (kr_14_15 _) ?_
    refine ok_iconst (v := 2) (kd_m11_widest.at 23 rfl) (by decide) ?_
    refine ok_ialdK (j := 2) (kd_m11_widest.at 24 rfl) sh_57 (by decide) (by decide) ?_
    refine ok_icmp_ge (tgt := 123) (kd_m11_widest.at 25 rfl) (by decide) (fun h5 => ?_) (fun h5 => ?_)
    · refine ok_sub (lv' := [(3, .int v3)]) [2] rfl ?_
      exact hk123 v3 S
    · refine ok_iload 4 (kd_m11_widest.at 26 rfl) rfl ?_
      refine ok_iconst (v := 1) (kd_m11_widest.at 27 rfl) (by decide) ?_
      refine ok_iadd (kd_m11_widest.at 28 rfl) ?_
      refine ok_topi (fun x6 hx6 => ?_)
      refine ok_istore (lv' := [(6, .int x6), (0, .ref 14), (1, .int c1), (3, .int v3), (4, .int v4), (5, .int v5)]) (kd_m11_widest.at 29 rfl) (by decide) rfl ?_
      refine ok_sub (lv' := [(0, .ref 14), (1, .int c1), (3, .int v3), (4, .int v4), (5, .int v5), (6, .int x6)]) [1, 2, 3, 4, 5, 0] rfl ?_
      refine ok_m11_widest_L50 c1 v5 _ (fun x21 x22 S23 => ?_) kFU v3 v4 x6 S
      refine ok_nx (fun x24 hx24 => ?_)
      refine ok_iinc (v := x24) (lv' := [(5, .int x24), (0, .ref 14), (1, .int c1), (3, .int x21), (4, .int x22)]) 4 (kd_m11_widest.at 65 rfl) rfl hx24.symm (by decide) rfl ?_
      refine ok_goto (tgt := 33) (kd_m11_widest.at 66 rfl) (by decide) ?_
      refine ok_sub (lv' := [(0, .ref 14), (1, .int c1), (3, .int x21), (4, .int x22), (5, .int x24)]) [1, 2, 3, 4, 0] rfl ?_
      exact ih x21 x22 x24 S23
def f_m11_widest (a1 : Int32) (S : kSt) : Option (Int32 × kSt) :=
  (f_m11_good  S).bind fun q1 =>
  kgb (q1.1 14 14) fun b2 =>
  (f_m11_aheadWhy b2 a1 q1).bind fun q3 =>
  if q3.1 = 0 then
    f_m11_widest_L33 
      (fun (x25 : Int32) (S26 : kSt) =>
        some (x25, S26)
      )
      a1 kFU (-2) (-1) 0 q3.2
  else
    (f_m11_no q3.1 q3.2).bind fun q27 =>
    some (q27.1, q27.2)
theorem ok_m11_widest {l : Launch} {G : kG} {E : kE} (a1 : Int32)  (S : kSt) : kFn l G E E kjI m11_widest 6 [.ref 14, .int a1] S (f_m11_widest a1 S) := by
  unfold f_m11_widest
  refine kFn_of (by decide +kernel) (fun hG => Nat.le_of_ble_eq_true rfl) ?_
  show kOk _ _ _ _ _ _ _ _ [(0, .ref 14), (1, .int a1)] _ _
  refine ok_aload_n 0 (kd_m11_widest.at 0 rfl) rfl rfl ?_
  refine ok_callVV (M' := m11_good) (as := []) (st := []) (kd_m11_widest.at 1 rfl) kc11_164 sh_14 rfl rfl (by decide) (ok_m11_good  S) (kfit_of (by decide)) rfl (Nat.le_of_ble_eq_true rfl) (fun q1 hq1 => ?_)
  refine ok_aload_n 0 (kd_m11_widest.at 2 rfl) rfl rfl ?_
  refine ok_aload_n 0 (kd_m11_widest.at 3 rfl) rfl rfl ?_
  refine ok_getZ (kd_m11_widest.at 4 rfl) kf11_177 sh_14 rfl (fun b2 => ?_)
  refine ok_iload_n 1 (kd_m11_widest.at 5 rfl) rfl rfl ?_
  refine ok_callVI (M' := m11_aheadWhy) (as := [.int (kb b2), .int a1]) (st := []) (kd_m11_widest.at 6 rfl) kc11_279 sh_14 rfl rfl (by decide) (ok_m11_aheadWhy b2 a1 q1) (kfit_of (by decide)) rfl (Nat.le_of_ble_eq_true rfl) (fun q3 hq3 => ?_)
  refine ok_istore_n (lv' := [(2, .int q3.1), (0, .ref 14), (1, .int a1)]) (kd_m11_widest.at 7 rfl) rfl (by decide) rfl ?_
  refine ok_iload_n 0 (kd_m11_widest.at 8 rfl) rfl rfl ?_
  refine ok_if_eq (tgt := 24) (kd_m11_widest.at 9 rfl) (by decide) (fun h4 => ?_) (fun h4 => ?_)
  · refine ok_bipush (v := (-2)) (kd_m11_widest.at 14 rfl) (by decide) ?_
    refine ok_istore_n (lv' := [(3, .int (-2)), (2, .int q3.1), (0, .ref 14), (1, .int a1)]) (kd_m11_widest.at 15 rfl) rfl (by decide) rfl ?_
    refine ok_iconst (v := (-1)) (kd_m11_widest.at 16 rfl) (by decide) ?_
    refine ok_istore (lv' := [(4, .int (-1)), (3, .int (-2)), (2, .int q3.1), (0, .ref 14), (1, .int a1)]) (kd_m11_widest.at 17 rfl) (by decide) rfl ?_
    refine ok_iconst (v := 0) (kd_m11_widest.at 18 rfl) (by decide) ?_
    refine ok_istore (lv' := [(5, .int 0), (4, .int (-1)), (3, .int (-2)), (2, .int q3.1), (0, .ref 14), (1, .int a1)]) (kd_m11_widest.at 19 rfl) (by decide) rfl ?_
    refine ok_sub (lv' := [(0, .ref 14), (1, .int a1), (3, .int (-2)), (4, .int (-1)), (5, .int 0)]) [4, 5, 2, 1, 0] rfl ?_
    refine ok_m11_widest_L33 a1 _ (fun x25 S26 => ?_) kFU (-2) (-1) 0 q3.2
    refine ok_iload_n 0 (kd_m11_widest.at 67 rfl) rfl rfl ?_
    exact ok_ireturn (kd_m11_widest.at 68 rfl) rfl
  · refine ok_aload_n 1 (kd_m11_widest.at 10 rfl) rfl rfl ?_
    refine ok_iload_n 0 (kd_m11_widest.at 11 rfl) rfl rfl ?_
    refine ok_callVI (M' := m11_no) (as := [.int q3.1]) (st := []) (kd_m11_widest.at 12 rfl) kc11_167 sh_14 rfl rfl (by decide) (ok_m11_no q3.1 q3.2) (kfit_of (by decide)) rfl (Nat.le_of_ble_eq_true rfl) (fun q27 hq27 => ?_)
    exact ok_ireturn (kd_m11_widest.at 13 rfl) rfl
def f_m11_sumAll_L29   (k56 : Int32 → kSt → Option (Int32 × kSt)) (c1 : Int32) : Nat → Int32 → Int32 → kSt → Option (Int32 × kSt)
  | 0, _, _, _ => none
  | n + 1, v3, v4, S =>
    if (S.1 57 2) ≤ v4 then
      k56 v3 S
    else
      (f_m11_saysIn v4 c1 S).bind fun q6 =>
      knx (v3 + q6.1) fun x7 =>
      knx (v4 + 1) fun x8 =>
      f_m11_sumAll_L29 k56 c1 n x7 x8 q6.2
theorem ok_m11_sumAll_L29 {l : Launch} {G : kG} {E : kE}    (c1 : Int32) (k56 : Int32 → kSt → Option (Int32 × kSt)) (hk56 : ∀ (v3 : Int32) (S : kSt), kOk l G E (kZ G E kjI) m11_sumAll (kdp (6)) (k56 v3 S) 56 [(3, .int v3)] [] S) : ∀ (n : Nat) (v3 : Int32) (v4 : Int32) (S : kSt), kOk l G E (kZ G E kjI) m11_sumAll (kdp (6)) (f_m11_sumAll_L29 k56 c1 n v3 v4 S) 29 [(0, .ref 14), (1, .int c1), (3, .int v3), (4, .int v4)] [] S := by
  intro n
  induction n with
  | zero => intro v3 v4 S; exact ok_none
  | succ n ih =>
    intro v3 v4 S
    rw [f_m11_sumAll_L29]
    refine ok_iload 3 (kd_m11_sumAll.at 18 rfl) rfl ?_
    refine ok_aload_n 0 (kd_m11_sumAll.at 19 rfl) rfl rfl ?_
    refine ok_getR (kd_m11_sumAll.at 20 rfl) kf11_20 sh_14 rfl (kr_14_15 _) ?_
    refine ok_iconst (v := 2) (kd_m11_sumAll.at 21 rfl) (by decide) ?_
    refine ok_ialdK (j := 2) (kd_m11_sumAll.at 22 rfl) sh_57 (by decide) (by decide) ?_
    refine ok_icmp_ge (tgt := 56) (kd_m11_sumAll.at 23 rfl) (by decide) (fun h5 => ?_) (fun h5 => ?_)
    · refine ok_sub (lv' := [(3, .int v3)]) [2] rfl ?_
      exact hk56 v3 S
    · refine ok_iload_n 2 (kd_m11_sumAll.at 24 rfl) rfl rfl ?_
      refine ok_aload_n 0 (kd_m11_sumAll.at 25 rfl) rfl rfl ?_
      refine ok_iload 3 (kd_m11_sumAll.at 26 rfl) rfl ?_
      refine ok_iload_n 1 (kd_m11_sumAll.at 27 rfl) rfl rfl ?_
      refine ok_callVI (M' := m11_saysIn) (as := [.int v4, .int c1]) (st := [.int v3]) (kd_m11_sumAll.at 28 rfl) kc11_283 sh_14 rfl rfl (by decide) (ok_m11_saysIn v4 c1 S) (kfit_of (by decide)) rfl (Nat.le_of_ble_eq_true rfl) (fun q6 hq6 => ?_)
      refine ok_iadd (kd_m11_sumAll.at 29 rfl) ?_
      refine ok_topi (fun x7 hx7 => ?_)
      refine ok_istore_n (lv' := [(3, .int x7), (0, .ref 14), (1, .int c1), (4, .int v4)]) (kd_m11_sumAll.at 30 rfl) rfl (by decide) rfl ?_
      refine ok_nx (fun x8 hx8 => ?_)
      refine ok_iinc (v := x8) (lv' := [(4, .int x8), (3, .int x7), (0, .ref 14), (1, .int c1)]) 3 (kd_m11_sumAll.at 31 rfl) rfl hx8.symm (by decide) rfl ?_
      refine ok_goto (tgt := 29) (kd_m11_sumAll.at 32 rfl) (by decide) ?_
      refine ok_sub (lv' := [(0, .ref 14), (1, .int c1), (3, .int x7), (4, .int x8)]) [2, 3, 1, 0] rfl ?_
      exact ih x7 x8 q6.2
def f_m11_sumAll (a1 : Int32) (S : kSt) : Option (Int32 × kSt) :=
  (f_m11_good  S).bind fun q1 =>
  kgb (q1.1 14 14) fun b2 =>
  (f_m11_aheadWhy b2 a1 q1).bind fun q3 =>
  if q3.1 = 0 then
    f_m11_sumAll_L29 
      (fun (x9 : Int32) (S10 : kSt) =>
        some (x9, S10)
      )
      a1 kFU 0 0 q3.2
  else
    (f_m11_no q3.1 q3.2).bind fun q11 =>
    some (q11.1, q11.2)
theorem ok_m11_sumAll {l : Launch} {G : kG} {E : kE} (a1 : Int32)  (S : kSt) : kFn l G E E kjI m11_sumAll 6 [.ref 14, .int a1] S (f_m11_sumAll a1 S) := by
  unfold f_m11_sumAll
  refine kFn_of (by decide +kernel) (fun hG => Nat.le_of_ble_eq_true rfl) ?_
  show kOk _ _ _ _ _ _ _ _ [(0, .ref 14), (1, .int a1)] _ _
  refine ok_aload_n 0 (kd_m11_sumAll.at 0 rfl) rfl rfl ?_
  refine ok_callVV (M' := m11_good) (as := []) (st := []) (kd_m11_sumAll.at 1 rfl) kc11_164 sh_14 rfl rfl (by decide) (ok_m11_good  S) (kfit_of (by decide)) rfl (Nat.le_of_ble_eq_true rfl) (fun q1 hq1 => ?_)
  refine ok_aload_n 0 (kd_m11_sumAll.at 2 rfl) rfl rfl ?_
  refine ok_aload_n 0 (kd_m11_sumAll.at 3 rfl) rfl rfl ?_
  refine ok_getZ (kd_m11_sumAll.at 4 rfl) kf11_177 sh_14 rfl (fun b2 => ?_)
  refine ok_iload_n 1 (kd_m11_sumAll.at 5 rfl) rfl rfl ?_
  refine ok_callVI (M' := m11_aheadWhy) (as := [.int (kb b2), .int a1]) (st := []) (kd_m11_sumAll.at 6 rfl) kc11_279 sh_14 rfl rfl (by decide) (ok_m11_aheadWhy b2 a1 q1) (kfit_of (by decide)) rfl (Nat.le_of_ble_eq_true rfl) (fun q3 hq3 => ?_)
  refine ok_istore_n (lv' := [(2, .int q3.1), (0, .ref 14), (1, .int a1)]) (kd_m11_sumAll.at 7 rfl) rfl (by decide) rfl ?_
  refine ok_iload_n 0 (kd_m11_sumAll.at 8 rfl) rfl rfl ?_
  refine ok_if_eq (tgt := 24) (kd_m11_sumAll.at 9 rfl) (by decide) (fun h4 => ?_) (fun h4 => ?_)
  · refine ok_iconst (v := 0) (kd_m11_sumAll.at 14 rfl) (by decide) ?_
    refine ok_istore_n (lv' := [(3, .int 0), (2, .int q3.1), (0, .ref 14), (1, .int a1)]) (kd_m11_sumAll.at 15 rfl) rfl (by decide) rfl ?_
    refine ok_iconst (v := 0) (kd_m11_sumAll.at 16 rfl) (by decide) ?_
    refine ok_istore (lv' := [(4, .int 0), (3, .int 0), (2, .int q3.1), (0, .ref 14), (1, .int a1)]) (kd_m11_sumAll.at 17 rfl) (by decide) rfl ?_
    refine ok_sub (lv' := [(0, .ref 14), (1, .int a1), (3, .int 0), (4, .int 0)]) [3, 4, 1, 0] rfl ?_
    refine ok_m11_sumAll_L29 a1 _ (fun x9 S10 => ?_) kFU 0 0 q3.2
    refine ok_iload_n 0 (kd_m11_sumAll.at 33 rfl) rfl rfl ?_
    exact ok_ireturn (kd_m11_sumAll.at 34 rfl) rfl
  · refine ok_aload_n 1 (kd_m11_sumAll.at 10 rfl) rfl rfl ?_
    refine ok_iload_n 0 (kd_m11_sumAll.at 11 rfl) rfl rfl ?_
    refine ok_callVI (M' := m11_no) (as := [.int q3.1]) (st := []) (kd_m11_sumAll.at 12 rfl) kc11_167 sh_14 rfl rfl (by decide) (ok_m11_no q3.1 q3.2) (kfit_of (by decide)) rfl (Nat.le_of_ble_eq_true rfl) (fun q11 hq11 => ?_)
    exact ok_ireturn (kd_m11_sumAll.at 13 rfl) rfl
def f_m11_bestEvery_L5   (k55 : Int32 → kSt → Option (Int32 × kSt)) (c1 : Int32) (c2 : Int32) : Nat → Int32 → Int32 → kSt → Option (Int32 × kSt)
  | 0, _, _, _ => none
  | n + 1, v3, v4, S =>
    if 9 < v4 then
      k55 v3 S
    else
      knx (5 + c1) fun x2 =>
      kgi x2 36 (
        (f_m11_saysBy c1 c2 (S.1 61 x2.toNatClampNeg) v4 S).bind fun q3 =>
        knx (5 + c1) fun x4 =>
        kgi x4 36 (
          (f_m11_saysBy c1 c2 (q3.2.1 61 x4.toNatClampNeg) v3 q3.2).bind fun q5 =>
          knx (fun (x6 : Int32) (S7 : kSt) =>
            knx (v4 + 1) fun x8 =>
            f_m11_bestEvery_L5 k55 c1 c2 n x6 x8 S7
            ) fun j49 =>
          if q3.1 ≤ q5.1 then
            j49 v3 q5.2
          else
            j49 v4 q5.2
        )
      )
theorem ok_m11_bestEvery_L5 {l : Launch} {G : kG} {E : kE}    (c1 : Int32) (c2 : Int32) (k55 : Int32 → kSt → Option (Int32 × kSt)) (hk55 : ∀ (v3 : Int32) (S : kSt), kOk l G E (kZ G E kjI) m11_bestEvery (kdp (5)) (k55 v3 S) 55 [(3, .int v3)] [] S) : ∀ (n : Nat) (v3 : Int32) (v4 : Int32) (S : kSt), kOk l G E (kZ G E kjI) m11_bestEvery (kdp (5)) (f_m11_bestEvery_L5 k55 c1 c2 n v3 v4 S) 5 [(0, .ref 14), (1, .int c1), (2, .int c2), (3, .int v3), (4, .int v4)] [] S := by
  intro n
  induction n with
  | zero => intro v3 v4 S; exact ok_none
  | succ n ih =>
    intro v3 v4 S
    rw [f_m11_bestEvery_L5]
    refine ok_iload 4 (kd_m11_bestEvery.at 4 rfl) rfl ?_
    refine ok_bipush (v := 9) (kd_m11_bestEvery.at 5 rfl) (by decide) ?_
    refine ok_icmp_gt (tgt := 55) (kd_m11_bestEvery.at 6 rfl) (by decide) (fun h1 => ?_) (fun h1 => ?_)
    · refine ok_sub (lv' := [(3, .int v3)]) [3] rfl ?_
      exact hk55 v3 S
    · refine ok_aload_n 0 (kd_m11_bestEvery.at 7 rfl) rfl rfl ?_
      refine ok_iload_n 1 (kd_m11_bestEvery.at 8 rfl) rfl rfl ?_
      refine ok_iload_n 2 (kd_m11_bestEvery.at 9 rfl) rfl rfl ?_
      refine ok_aload_n 0 (kd_m11_bestEvery.at 10 rfl) rfl rfl ?_
      refine ok_getR (kd_m11_bestEvery.at 11 rfl) kf11_32 sh_14 rfl (kr_14_19 _) ?_
      refine ok_iconst (v := 5) (kd_m11_bestEvery.at 12 rfl) (by decide) ?_
      refine ok_iload_n 1 (kd_m11_bestEvery.at 13 rfl) rfl rfl ?_
      refine ok_iadd (kd_m11_bestEvery.at 14 rfl) ?_
      refine ok_topi (fun x2 hx2 => ?_)
      refine ok_iald (kd_m11_bestEvery.at 15 rfl) sh_61 ?_
      refine ok_iload 4 (kd_m11_bestEvery.at 16 rfl) rfl ?_
      refine ok_callVI (M' := m11_saysBy) (as := [.int c1, .int c2, .int (S.1 61 x2.toNatClampNeg), .int v4]) (st := []) (kd_m11_bestEvery.at 17 rfl) kc11_253 sh_14 rfl rfl (by decide) (ok_m11_saysBy c1 c2 (S.1 61 x2.toNatClampNeg) v4 S) (kfit_of (by decide)) rfl (Nat.le_of_ble_eq_true rfl) (fun q3 hq3 => ?_)
      refine ok_aload_n 0 (kd_m11_bestEvery.at 18 rfl) rfl rfl ?_
      refine ok_iload_n 1 (kd_m11_bestEvery.at 19 rfl) rfl rfl ?_
      refine ok_iload_n 2 (kd_m11_bestEvery.at 20 rfl) rfl rfl ?_
      refine ok_aload_n 0 (kd_m11_bestEvery.at 21 rfl) rfl rfl ?_
      refine ok_getR (kd_m11_bestEvery.at 22 rfl) kf11_32 sh_14 rfl (kr_14_19 _) ?_
      refine ok_iconst (v := 5) (kd_m11_bestEvery.at 23 rfl) (by decide) ?_
      refine ok_iload_n 1 (kd_m11_bestEvery.at 24 rfl) rfl rfl ?_
      refine ok_iadd (kd_m11_bestEvery.at 25 rfl) ?_
      refine ok_topi (fun x4 hx4 => ?_)
      refine ok_iald (kd_m11_bestEvery.at 26 rfl) sh_61 ?_
      refine ok_iload_n 3 (kd_m11_bestEvery.at 27 rfl) rfl rfl ?_
      refine ok_callVI (M' := m11_saysBy) (as := [.int c1, .int c2, .int (q3.2.1 61 x4.toNatClampNeg), .int v3]) (st := [.int q3.1]) (kd_m11_bestEvery.at 28 rfl) kc11_253 sh_14 rfl rfl (by decide) (ok_m11_saysBy c1 c2 (q3.2.1 61 x4.toNatClampNeg) v3 q3.2) (kfit_of (by decide)) rfl (Nat.le_of_ble_eq_true rfl) (fun q5 hq5 => ?_)
      refine ok_nx (fun j49 hj49 => ?_)
      have K49 : ∀ (x6 : Int32) (S7 : kSt), kOk l G E (kZ G E kjI) m11_bestEvery (kdp (5)) (j49 x6 S7) 49 [(0, .ref 14), (1, .int c1), (2, .int c2), (3, .int x6), (4, .int v4)] [] S7 := by
        subst hj49
        intro x6 S7
        refine ok_nx (fun x8 hx8 => ?_)
        refine ok_iinc (v := x8) (lv' := [(4, .int x8), (0, .ref 14), (1, .int c1), (2, .int c2), (3, .int x6)]) 4 (kd_m11_bestEvery.at 32 rfl) rfl hx8.symm (by decide) rfl ?_
        refine ok_goto (tgt := 5) (kd_m11_bestEvery.at 33 rfl) (by decide) ?_
        refine ok_sub (lv' := [(0, .ref 14), (1, .int c1), (2, .int c2), (3, .int x6), (4, .int x8)]) [1, 2, 3, 4, 0] rfl ?_
        exact ih x6 x8 S7
      clear hj49
      refine ok_icmp_le (tgt := 49) (kd_m11_bestEvery.at 29 rfl) (by decide) (fun h9 => ?_) (fun h9 => ?_)
      · exact K49 v3 q5.2
      · refine ok_iload 4 (kd_m11_bestEvery.at 30 rfl) rfl ?_
        refine ok_istore_n (lv' := [(3, .int v4), (0, .ref 14), (1, .int c1), (2, .int c2), (4, .int v4)]) (kd_m11_bestEvery.at 31 rfl) rfl (by decide) rfl ?_
        refine ok_sub (lv' := [(0, .ref 14), (1, .int c1), (2, .int c2), (3, .int v4), (4, .int v4)]) [1, 2, 3, 0, 4] rfl ?_
        exact K49 v4 q5.2
def f_m11_bestEvery (a1 : Int32) (a2 : Int32) (S : kSt) : Option (Int32 × kSt) :=
  f_m11_bestEvery_L5 
    (fun (x10 : Int32) (S11 : kSt) =>
      some (x10, S11)
    )
    a1 a2 kFU 0 1 S
theorem ok_m11_bestEvery {l : Launch} {G : kG} {E : kE} (a1 : Int32) (a2 : Int32)  (S : kSt) : kFn l G E E kjI m11_bestEvery 5 [.ref 14, .int a1, .int a2] S (f_m11_bestEvery a1 a2 S) := by
  unfold f_m11_bestEvery
  refine kFn_of (by decide +kernel) (fun hG => Nat.le_of_ble_eq_true rfl) ?_
  show kOk _ _ _ _ _ _ _ _ [(0, .ref 14), (1, .int a1), (2, .int a2)] _ _
  refine ok_iconst (v := 0) (kd_m11_bestEvery.at 0 rfl) (by decide) ?_
  refine ok_istore_n (lv' := [(3, .int 0), (0, .ref 14), (1, .int a1), (2, .int a2)]) (kd_m11_bestEvery.at 1 rfl) rfl (by decide) rfl ?_
  refine ok_iconst (v := 1) (kd_m11_bestEvery.at 2 rfl) (by decide) ?_
  refine ok_istore (lv' := [(4, .int 1), (3, .int 0), (0, .ref 14), (1, .int a1), (2, .int a2)]) (kd_m11_bestEvery.at 3 rfl) (by decide) rfl ?_
  refine ok_sub (lv' := [(0, .ref 14), (1, .int a1), (2, .int a2), (3, .int 0), (4, .int 1)]) [2, 3, 4, 1, 0] rfl ?_
  refine ok_m11_bestEvery_L5 a1 a2 _ (fun x10 S11 => ?_) kFU 0 1 S
  refine ok_iload_n 0 (kd_m11_bestEvery.at 34 rfl) rfl rfl ?_
  exact ok_ireturn (kd_m11_bestEvery.at 35 rfl) rfl
def f_m11_everyFor (a1 : Int32) (a2 : Int32) (S : kSt) : Option (Int32 × kSt) :=
  (f_m11_good  S).bind fun q1 =>
  (f_m11_isPair a1 q1).bind fun q2 =>
  (f_m11_aheadWhy q2.1 a2 q2.2).bind fun q3 =>
  if q3.1 = 0 then
    (f_m11_bestEvery a1 a2 q3.2).bind fun q5 =>
    some (q5.1, q5.2)
  else
    (f_m11_no q3.1 q3.2).bind fun q6 =>
    some (q6.1, q6.2)
theorem ok_m11_everyFor {l : Launch} {G : kG} {E : kE} (a1 : Int32) (a2 : Int32)  (S : kSt) : kFn l G E E kjI m11_everyFor 6 [.ref 14, .int a1, .int a2] S (f_m11_everyFor a1 a2 S) := by
  unfold f_m11_everyFor
  refine kFn_of (by decide +kernel) (fun hG => Nat.le_of_ble_eq_true rfl) ?_
  show kOk _ _ _ _ _ _ _ _ [(0, .ref 14), (1, .int a1), (2, .int a2)] _ _
  refine ok_aload_n 0 (kd_m11_everyFor.at 0 rfl) rfl rfl ?_
  refine ok_callVV (M' := m11_good) (as := []) (st := []) (kd_m11_everyFor.at 1 rfl) kc11_164 sh_14 rfl rfl (by decide) (ok_m11_good  S) (kfit_of (by decide)) rfl (Nat.le_of_ble_eq_true rfl) (fun q1 hq1 => ?_)
  refine ok_aload_n 0 (kd_m11_everyFor.at 2 rfl) rfl rfl ?_
  refine ok_aload_n 0 (kd_m11_everyFor.at 3 rfl) rfl rfl ?_
  refine ok_iload_n 1 (kd_m11_everyFor.at 4 rfl) rfl rfl ?_
  refine ok_callVB (M' := m11_isPair) (as := [.int a1]) (st := [.ref 14]) (kd_m11_everyFor.at 5 rfl) kc11_239 sh_14 rfl rfl (by decide) (ok_m11_isPair a1 q1) (kfit_of (by decide)) rfl (Nat.le_of_ble_eq_true rfl) (fun q2 hq2 => ?_)
  refine ok_iload_n 2 (kd_m11_everyFor.at 6 rfl) rfl rfl ?_
  refine ok_callVI (M' := m11_aheadWhy) (as := [.int (kb q2.1), .int a2]) (st := []) (kd_m11_everyFor.at 7 rfl) kc11_279 sh_14 rfl rfl (by decide) (ok_m11_aheadWhy q2.1 a2 q2.2) (kfit_of (by decide)) rfl (Nat.le_of_ble_eq_true rfl) (fun q3 hq3 => ?_)
  refine ok_istore_n (lv' := [(3, .int q3.1), (0, .ref 14), (1, .int a1), (2, .int a2)]) (kd_m11_everyFor.at 8 rfl) rfl (by decide) rfl ?_
  refine ok_iload_n 0 (kd_m11_everyFor.at 9 rfl) rfl rfl ?_
  refine ok_if_eq (tgt := 27) (kd_m11_everyFor.at 10 rfl) (by decide) (fun h4 => ?_) (fun h4 => ?_)
  · refine ok_aload_n 1 (kd_m11_everyFor.at 15 rfl) rfl rfl ?_
    refine ok_iload_n 2 (kd_m11_everyFor.at 16 rfl) rfl rfl ?_
    refine ok_iload_n 3 (kd_m11_everyFor.at 17 rfl) rfl rfl ?_
    refine ok_callVI (M' := m11_bestEvery) (as := [.int a1, .int a2]) (st := []) (kd_m11_everyFor.at 18 rfl) kc11_300 sh_14 rfl rfl (by decide) (ok_m11_bestEvery a1 a2 q3.2) (kfit_of (by decide)) rfl (Nat.le_of_ble_eq_true rfl) (fun q5 hq5 => ?_)
    exact ok_ireturn (kd_m11_everyFor.at 19 rfl) rfl
  · refine ok_aload_n 1 (kd_m11_everyFor.at 11 rfl) rfl rfl ?_
    refine ok_iload_n 0 (kd_m11_everyFor.at 12 rfl) rfl rfl ?_
    refine ok_callVI (M' := m11_no) (as := [.int q3.1]) (st := []) (kd_m11_everyFor.at 13 rfl) kc11_167 sh_14 rfl rfl (by decide) (ok_m11_no q3.1 q3.2) (kfit_of (by decide)) rfl (Nat.le_of_ble_eq_true rfl) (fun q6 hq6 => ?_)
    refine ok_goto (tgt := 33) (kd_m11_everyFor.at 14 rfl) (by decide) ?_
    exact ok_ireturn (kd_m11_everyFor.at 19 rfl) rfl
def f_m11_everySays (a1 : Int32) (a2 : Int32) (S : kSt) : Option (Int32 × kSt) :=
  (f_m11_good  S).bind fun q1 =>
  (f_m11_isPair a1 q1).bind fun q2 =>
  (f_m11_aheadWhy q2.1 a2 q2.2).bind fun q3 =>
  if q3.1 = 0 then
    knx (5 + a1) fun x5 =>
    kgi x5 36 (
      (f_m11_bestEvery a1 a2 q3.2).bind fun q6 =>
      (f_m11_saysBy a1 a2 (q3.2.1 61 x5.toNatClampNeg) q6.1 q6.2).bind fun q7 =>
      some (q7.1, q7.2)
    )
  else
    (f_m11_no q3.1 q3.2).bind fun q8 =>
    some (q8.1, q8.2)
theorem ok_m11_everySays {l : Launch} {G : kG} {E : kE} (a1 : Int32) (a2 : Int32)  (S : kSt) : kFn l G E E kjI m11_everySays 6 [.ref 14, .int a1, .int a2] S (f_m11_everySays a1 a2 S) := by
  unfold f_m11_everySays
  refine kFn_of (by decide +kernel) (fun hG => Nat.le_of_ble_eq_true rfl) ?_
  show kOk _ _ _ _ _ _ _ _ [(0, .ref 14), (1, .int a1), (2, .int a2)] _ _
  refine ok_aload_n 0 (kd_m11_everySays.at 0 rfl) rfl rfl ?_
  refine ok_callVV (M' := m11_good) (as := []) (st := []) (kd_m11_everySays.at 1 rfl) kc11_164 sh_14 rfl rfl (by decide) (ok_m11_good  S) (kfit_of (by decide)) rfl (Nat.le_of_ble_eq_true rfl) (fun q1 hq1 => ?_)
  refine ok_aload_n 0 (kd_m11_everySays.at 2 rfl) rfl rfl ?_
  refine ok_aload_n 0 (kd_m11_everySays.at 3 rfl) rfl rfl ?_
  refine ok_iload_n 1 (kd_m11_everySays.at 4 rfl) rfl rfl ?_
  refine ok_callVB (M' := m11_isPair) (as := [.int a1]) (st := [.ref 14]) (kd_m11_everySays.at 5 rfl) kc11_239 sh_14 rfl rfl (by decide) (ok_m11_isPair a1 q1) (kfit_of (by decide)) rfl (Nat.le_of_ble_eq_true rfl) (fun q2 hq2 => ?_)
  refine ok_iload_n 2 (kd_m11_everySays.at 6 rfl) rfl rfl ?_
  refine ok_callVI (M' := m11_aheadWhy) (as := [.int (kb q2.1), .int a2]) (st := []) (kd_m11_everySays.at 7 rfl) kc11_279 sh_14 rfl rfl (by decide) (ok_m11_aheadWhy q2.1 a2 q2.2) (kfit_of (by decide)) rfl (Nat.le_of_ble_eq_true rfl) (fun q3 hq3 => ?_)
  refine ok_istore_n (lv' := [(3, .int q3.1), (0, .ref 14), (1, .int a1), (2, .int a2)]) (kd_m11_everySays.at 8 rfl) rfl (by decide) rfl ?_
  refine ok_iload_n 0 (kd_m11_everySays.at 9 rfl) rfl rfl ?_
  refine ok_if_eq (tgt := 27) (kd_m11_everySays.at 10 rfl) (by decide) (fun h4 => ?_) (fun h4 => ?_)
  · refine ok_aload_n 1 (kd_m11_everySays.at 15 rfl) rfl rfl ?_
    refine ok_iload_n 2 (kd_m11_everySays.at 16 rfl) rfl rfl ?_
    refine ok_iload_n 3 (kd_m11_everySays.at 17 rfl) rfl rfl ?_
    refine ok_aload_n 1 (kd_m11_everySays.at 18 rfl) rfl rfl ?_
    refine ok_getR (kd_m11_everySays.at 19 rfl) kf11_32 sh_14 rfl (kr_14_19 _) ?_
    refine ok_iconst (v := 5) (kd_m11_everySays.at 20 rfl) (by decide) ?_
    refine ok_iload_n 2 (kd_m11_everySays.at 21 rfl) rfl rfl ?_
    refine ok_iadd (kd_m11_everySays.at 22 rfl) ?_
    refine ok_topi (fun x5 hx5 => ?_)
    refine ok_iald (kd_m11_everySays.at 23 rfl) sh_61 ?_
    refine ok_aload_n 1 (kd_m11_everySays.at 24 rfl) rfl rfl ?_
    refine ok_iload_n 2 (kd_m11_everySays.at 25 rfl) rfl rfl ?_
    refine ok_iload_n 3 (kd_m11_everySays.at 26 rfl) rfl rfl ?_
    refine ok_callVI (M' := m11_bestEvery) (as := [.int a1, .int a2]) (st := [.int (q3.2.1 61 x5.toNatClampNeg), .int a2, .int a1, .ref 14]) (kd_m11_everySays.at 27 rfl) kc11_300 sh_14 rfl rfl (by decide) (ok_m11_bestEvery a1 a2 q3.2) (kfit_of (by decide)) rfl (Nat.le_of_ble_eq_true rfl) (fun q6 hq6 => ?_)
    refine ok_callVI (M' := m11_saysBy) (as := [.int a1, .int a2, .int (q3.2.1 61 x5.toNatClampNeg), .int q6.1]) (st := []) (kd_m11_everySays.at 28 rfl) kc11_253 sh_14 rfl rfl (by decide) (ok_m11_saysBy a1 a2 (q3.2.1 61 x5.toNatClampNeg) q6.1 q6.2) (kfit_of (by decide)) rfl (Nat.le_of_ble_eq_true rfl) (fun q7 hq7 => ?_)
    exact ok_ireturn (kd_m11_everySays.at 29 rfl) rfl
  · refine ok_aload_n 1 (kd_m11_everySays.at 11 rfl) rfl rfl ?_
    refine ok_iload_n 0 (kd_m11_everySays.at 12 rfl) rfl rfl ?_
    refine ok_callVI (M' := m11_no) (as := [.int q3.1]) (st := []) (kd_m11_everySays.at 13 rfl) kc11_167 sh_14 rfl rfl (by decide) (ok_m11_no q3.1 q3.2) (kfit_of (by decide)) rfl (Nat.le_of_ble_eq_true rfl) (fun q8 hq8 => ?_)
    refine ok_goto (tgt := 47) (kd_m11_everySays.at 14 rfl) (by decide) ?_
    exact ok_ireturn (kd_m11_everySays.at 29 rfl) rfl
def f_m11_isNeverMore_L2   (k30 : kSt → Option (Bool × kSt)) (k38 : kSt → Option (Bool × kSt)) (c1 : Int32) (c2 : Int32) : Nat → Int32 → kSt → Option (Bool × kSt)
  | 0, _, _ => none
  | n + 1, v3, S =>
    if 60 < v3 then
      k38  S
    else
      knx (5 + c1) fun x2 =>
      kgi x2 36 (
        (f_m11_saysBy c1 v3 (S.1 61 x2.toNatClampNeg) c2 S).bind fun q3 =>
        (f_m11_isMore q3.1 q3.2).bind fun q4 =>
        if q4.1 then
          k30  q4.2
        else
          knx (v3 + 1) fun x6 =>
          f_m11_isNeverMore_L2 k30 k38 c1 c2 n x6 q4.2
      )
theorem ok_m11_isNeverMore_L2 {l : Launch} {G : kG} {E : kE}    (c1 : Int32) (c2 : Int32) (k30 : kSt → Option (Bool × kSt)) (k38 : kSt → Option (Bool × kSt)) (hk30 : ∀  (S : kSt), kOk l G E (kZ G E kjB) m11_isNeverMore (kdp (5)) (k30  S) 30 [] [] S) (hk38 : ∀  (S : kSt), kOk l G E (kZ G E kjB) m11_isNeverMore (kdp (5)) (k38  S) 38 [] [] S) : ∀ (n : Nat) (v3 : Int32) (S : kSt), kOk l G E (kZ G E kjB) m11_isNeverMore (kdp (5)) (f_m11_isNeverMore_L2 k30 k38 c1 c2 n v3 S) 2 [(0, .ref 14), (1, .int c1), (2, .int c2), (3, .int v3)] [] S := by
  intro n
  induction n with
  | zero => intro v3 S; exact ok_none
  | succ n ih =>
    intro v3 S
    rw [f_m11_isNeverMore_L2]
    refine ok_iload_n 3 (kd_m11_isNeverMore.at 2 rfl) rfl rfl ?_
    refine ok_bipush (v := 60) (kd_m11_isNeverMore.at 3 rfl) (by decide) ?_
    refine ok_icmp_gt (tgt := 38) (kd_m11_isNeverMore.at 4 rfl) (by decide) (fun h1 => ?_) (fun h1 => ?_)
    · refine ok_sub (lv' := []) [] rfl ?_
      exact hk38  S
    · refine ok_aload_n 0 (kd_m11_isNeverMore.at 5 rfl) rfl rfl ?_
      refine ok_aload_n 0 (kd_m11_isNeverMore.at 6 rfl) rfl rfl ?_
      refine ok_iload_n 1 (kd_m11_isNeverMore.at 7 rfl) rfl rfl ?_
      refine ok_iload_n 3 (kd_m11_isNeverMore.at 8 rfl) rfl rfl ?_
      refine ok_aload_n 0 (kd_m11_isNeverMore.at 9 rfl) rfl rfl ?_
      refine ok_getR (kd_m11_isNeverMore.at 10 rfl) kf11_32 sh_14 rfl (kr_14_19 _) ?_
      refine ok_iconst (v := 5) (kd_m11_isNeverMore.at 11 rfl) (by decide) ?_
      refine ok_iload_n 1 (kd_m11_isNeverMore.at 12 rfl) rfl rfl ?_
      refine ok_iadd (kd_m11_isNeverMore.at 13 rfl) ?_
      refine ok_topi (fun x2 hx2 => ?_)
      refine ok_iald (kd_m11_isNeverMore.at 14 rfl) sh_61 ?_
      refine ok_iload_n 2 (kd_m11_isNeverMore.at 15 rfl) rfl rfl ?_
      refine ok_callVI (M' := m11_saysBy) (as := [.int c1, .int v3, .int (S.1 61 x2.toNatClampNeg), .int c2]) (st := [.ref 14]) (kd_m11_isNeverMore.at 16 rfl) kc11_253 sh_14 rfl rfl (by decide) (ok_m11_saysBy c1 v3 (S.1 61 x2.toNatClampNeg) c2 S) (kfit_of (by decide)) rfl (Nat.le_of_ble_eq_true rfl) (fun q3 hq3 => ?_)
      refine ok_callVB (M' := m11_isMore) (as := [.int q3.1]) (st := []) (kd_m11_isNeverMore.at 17 rfl) kc11_272 sh_14 rfl rfl (by decide) (ok_m11_isMore q3.1 q3.2) (kfit_of (by decide)) rfl (Nat.le_of_ble_eq_true rfl) (fun q4 hq4 => ?_)
      refine ok_ifb_eq (tgt := 32) (kd_m11_isNeverMore.at 18 rfl) (by decide) (fun h5 => ?_) (fun h5 => ?_)
      · refine ok_nx (fun x6 hx6 => ?_)
        refine ok_iinc (v := x6) (lv' := [(3, .int x6), (0, .ref 14), (1, .int c1), (2, .int c2)]) 3 (kd_m11_isNeverMore.at 21 rfl) rfl hx6.symm (by decide) rfl ?_
        refine ok_goto (tgt := 2) (kd_m11_isNeverMore.at 22 rfl) (by decide) ?_
        refine ok_sub (lv' := [(0, .ref 14), (1, .int c1), (2, .int c2), (3, .int x6)]) [1, 2, 3, 0] rfl ?_
        exact ih x6 q4.2
      · refine ok_sub (lv' := []) [] rfl ?_
        exact hk30  q4.2
def f_m11_isNeverMore (a1 : Int32) (a2 : Int32) (S : kSt) : Option (Bool × kSt) :=
  f_m11_isNeverMore_L2 
    (fun  (S7 : kSt) =>
      some (false, S7)
    )
    (fun  (S8 : kSt) =>
      some (true, S8)
    )
    a1 a2 kFU 1 S
theorem ok_m11_isNeverMore {l : Launch} {G : kG} {E : kE} (a1 : Int32) (a2 : Int32)  (S : kSt) : kFn l G E E kjB m11_isNeverMore 5 [.ref 14, .int a1, .int a2] S (f_m11_isNeverMore a1 a2 S) := by
  unfold f_m11_isNeverMore
  refine kFn_of (by decide +kernel) (fun hG => Nat.le_of_ble_eq_true rfl) ?_
  show kOk _ _ _ _ _ _ _ _ [(0, .ref 14), (1, .int a1), (2, .int a2)] _ _
  refine ok_iconst (v := 1) (kd_m11_isNeverMore.at 0 rfl) (by decide) ?_
  refine ok_istore_n (lv' := [(3, .int 1), (0, .ref 14), (1, .int a1), (2, .int a2)]) (kd_m11_isNeverMore.at 1 rfl) rfl (by decide) rfl ?_
  refine ok_sub (lv' := [(0, .ref 14), (1, .int a1), (2, .int a2), (3, .int 1)]) [1, 2, 3, 0] rfl ?_
  refine ok_m11_isNeverMore_L2 a1 a2 _ _ (fun S7 => ?_) (fun S8 => ?_) kFU 1 S
  · refine ok_iconst (v := 0) (kd_m11_isNeverMore.at 19 rfl) (by decide) ?_
    exact ok_zreturn (x := false) (kd_m11_isNeverMore.at 20 rfl) rfl
  · refine ok_iconst (v := 1) (kd_m11_isNeverMore.at 23 rfl) (by decide) ?_
    exact ok_zreturn (x := true) (kd_m11_isNeverMore.at 24 rfl) rfl
def f_m11_everyNever_L20   (k35 : Int32 → kSt → Option (Int32 × kSt)) (k43 : kSt → Option (Int32 × kSt)) (c1 : Int32) : Nat → Int32 → kSt → Option (Int32 × kSt)
  | 0, _, _ => none
  | n + 1, v2, S =>
    if 9 < v2 then
      k43  S
    else
      (f_m11_isNeverMore c1 v2 S).bind fun q5 =>
      if q5.1 then
        k35 v2 q5.2
      else
        knx (v2 + 1) fun x7 =>
        f_m11_everyNever_L20 k35 k43 c1 n x7 q5.2
theorem ok_m11_everyNever_L20 {l : Launch} {G : kG} {E : kE}    (c1 : Int32) (k35 : Int32 → kSt → Option (Int32 × kSt)) (k43 : kSt → Option (Int32 × kSt)) (hk35 : ∀ (v2 : Int32) (S : kSt), kOk l G E (kZ G E kjI) m11_everyNever (kdp (6)) (k35 v2 S) 35 [(2, .int v2)] [] S) (hk43 : ∀  (S : kSt), kOk l G E (kZ G E kjI) m11_everyNever (kdp (6)) (k43  S) 43 [] [] S) : ∀ (n : Nat) (v2 : Int32) (S : kSt), kOk l G E (kZ G E kjI) m11_everyNever (kdp (6)) (f_m11_everyNever_L20 k35 k43 c1 n v2 S) 20 [(0, .ref 14), (1, .int c1), (2, .int v2)] [] S := by
  intro n
  induction n with
  | zero => intro v2 S; exact ok_none
  | succ n ih =>
    intro v2 S
    rw [f_m11_everyNever_L20]
    refine ok_iload_n 2 (kd_m11_everyNever.at 12 rfl) rfl rfl ?_
    refine ok_bipush (v := 9) (kd_m11_everyNever.at 13 rfl) (by decide) ?_
    refine ok_icmp_gt (tgt := 43) (kd_m11_everyNever.at 14 rfl) (by decide) (fun h4 => ?_) (fun h4 => ?_)
    · refine ok_sub (lv' := []) [] rfl ?_
      exact hk43  S
    · refine ok_aload_n 0 (kd_m11_everyNever.at 15 rfl) rfl rfl ?_
      refine ok_iload_n 1 (kd_m11_everyNever.at 16 rfl) rfl rfl ?_
      refine ok_iload_n 2 (kd_m11_everyNever.at 17 rfl) rfl rfl ?_
      refine ok_callVB (M' := m11_isNeverMore) (as := [.int c1, .int v2]) (st := []) (kd_m11_everyNever.at 18 rfl) kc11_303 sh_14 rfl rfl (by decide) (ok_m11_isNeverMore c1 v2 S) (kfit_of (by decide)) rfl (Nat.le_of_ble_eq_true rfl) (fun q5 hq5 => ?_)
      refine ok_ifb_eq (tgt := 37) (kd_m11_everyNever.at 19 rfl) (by decide) (fun h6 => ?_) (fun h6 => ?_)
      · refine ok_nx (fun x7 hx7 => ?_)
        refine ok_iinc (v := x7) (lv' := [(2, .int x7), (0, .ref 14), (1, .int c1)]) 2 (kd_m11_everyNever.at 22 rfl) rfl hx7.symm (by decide) rfl ?_
        refine ok_goto (tgt := 20) (kd_m11_everyNever.at 23 rfl) (by decide) ?_
        refine ok_sub (lv' := [(0, .ref 14), (1, .int c1), (2, .int x7)]) [1, 2, 0] rfl ?_
        exact ih x7 q5.2
      · refine ok_sub (lv' := [(2, .int v2)]) [2] rfl ?_
        exact hk35 v2 q5.2
def f_m11_everyNever (a1 : Int32) (S : kSt) : Option (Int32 × kSt) :=
  (f_m11_good  S).bind fun q1 =>
  (f_m11_isPair a1 q1).bind fun q2 =>
  if q2.1 then
    f_m11_everyNever_L20 
      (fun (x8 : Int32) (S9 : kSt) =>
        some (x8, S9)
      )
      (fun  (S10 : kSt) =>
        some ((-2), S10)
      )
      a1 kFU 0 q2.2
  else
    (f_m11_no 1 q2.2).bind fun q11 =>
    some (q11.1, q11.2)
theorem ok_m11_everyNever {l : Launch} {G : kG} {E : kE} (a1 : Int32)  (S : kSt) : kFn l G E E kjI m11_everyNever 6 [.ref 14, .int a1] S (f_m11_everyNever a1 S) := by
  unfold f_m11_everyNever
  refine kFn_of (by decide +kernel) (fun hG => Nat.le_of_ble_eq_true rfl) ?_
  show kOk _ _ _ _ _ _ _ _ [(0, .ref 14), (1, .int a1)] _ _
  refine ok_aload_n 0 (kd_m11_everyNever.at 0 rfl) rfl rfl ?_
  refine ok_callVV (M' := m11_good) (as := []) (st := []) (kd_m11_everyNever.at 1 rfl) kc11_164 sh_14 rfl rfl (by decide) (ok_m11_good  S) (kfit_of (by decide)) rfl (Nat.le_of_ble_eq_true rfl) (fun q1 hq1 => ?_)
  refine ok_aload_n 0 (kd_m11_everyNever.at 2 rfl) rfl rfl ?_
  refine ok_iload_n 1 (kd_m11_everyNever.at 3 rfl) rfl rfl ?_
  refine ok_callVB (M' := m11_isPair) (as := [.int a1]) (st := []) (kd_m11_everyNever.at 4 rfl) kc11_239 sh_14 rfl rfl (by decide) (ok_m11_isPair a1 q1) (kfit_of (by decide)) rfl (Nat.le_of_ble_eq_true rfl) (fun q2 hq2 => ?_)
  refine ok_ifb_ne (tgt := 18) (kd_m11_everyNever.at 5 rfl) (by decide) (fun h3 => ?_) (fun h3 => ?_)
  · refine ok_iconst (v := 0) (kd_m11_everyNever.at 10 rfl) (by decide) ?_
    refine ok_istore_n (lv' := [(2, .int 0), (0, .ref 14), (1, .int a1)]) (kd_m11_everyNever.at 11 rfl) rfl (by decide) rfl ?_
    refine ok_sub (lv' := [(0, .ref 14), (1, .int a1), (2, .int 0)]) [1, 2, 0] rfl ?_
    refine ok_m11_everyNever_L20 a1 _ _ (fun x8 S9 => ?_) (fun S10 => ?_) kFU 0 q2.2
    · refine ok_iload_n 0 (kd_m11_everyNever.at 20 rfl) rfl rfl ?_
      exact ok_ireturn (kd_m11_everyNever.at 21 rfl) rfl
    · refine ok_bipush (v := (-2)) (kd_m11_everyNever.at 24 rfl) (by decide) ?_
      exact ok_ireturn (kd_m11_everyNever.at 25 rfl) rfl
  · refine ok_aload_n 0 (kd_m11_everyNever.at 6 rfl) rfl rfl ?_
    refine ok_iconst (v := 1) (kd_m11_everyNever.at 7 rfl) (by decide) ?_
    refine ok_callVI (M' := m11_no) (as := [.int 1]) (st := []) (kd_m11_everyNever.at 8 rfl) kc11_167 sh_14 rfl rfl (by decide) (ok_m11_no 1 q2.2) (kfit_of (by decide)) rfl (Nat.le_of_ble_eq_true rfl) (fun q11 hq11 => ?_)
    exact ok_ireturn (kd_m11_everyNever.at 9 rfl) rfl
def f_m11_stepFor_L28   (k59 : Int32 → kSt → Option (Int32 × kSt)) (k68 : kSt → Option (Int32 × kSt)) (c1 : Int32) (c2 : Int32) : Nat → Int32 → kSt → Option (Int32 × kSt)
  | 0, _, _ => none
  | n + 1, v4, S =>
    if 20 < v4 then
      k68  S
    else
      knx (13 + c1) fun x6 =>
      kgi x6 95 (
        (f_m11_saysBy c1 c2 v4 (S.1 57 x6.toNatClampNeg) S).bind fun q7 =>
        (f_m11_isMore q7.1 q7.2).bind fun q8 =>
        if q8.1 then
          k59 v4 q8.2
        else
          knx (v4 + 1) fun x10 =>
          f_m11_stepFor_L28 k59 k68 c1 c2 n x10 q8.2
      )
theorem ok_m11_stepFor_L28 {l : Launch} {G : kG} {E : kE}    (c1 : Int32) (c2 : Int32) (k59 : Int32 → kSt → Option (Int32 × kSt)) (k68 : kSt → Option (Int32 × kSt)) (hk59 : ∀ (v4 : Int32) (S : kSt), kOk l G E (kZ G E kjI) m11_stepFor (kdp (5)) (k59 v4 S) 59 [(4, .int v4)] [] S) (hk68 : ∀  (S : kSt), kOk l G E (kZ G E kjI) m11_stepFor (kdp (5)) (k68  S) 68 [] [] S) : ∀ (n : Nat) (v4 : Int32) (S : kSt), kOk l G E (kZ G E kjI) m11_stepFor (kdp (5)) (f_m11_stepFor_L28 k59 k68 c1 c2 n v4 S) 28 [(0, .ref 14), (1, .int c1), (2, .int c2), (4, .int v4)] [] S := by
  intro n
  induction n with
  | zero => intro v4 S; exact ok_none
  | succ n ih =>
    intro v4 S
    rw [f_m11_stepFor_L28]
    refine ok_iload 3 (kd_m11_stepFor.at 17 rfl) rfl ?_
    refine ok_bipush (v := 20) (kd_m11_stepFor.at 18 rfl) (by decide) ?_
    refine ok_icmp_gt (tgt := 68) (kd_m11_stepFor.at 19 rfl) (by decide) (fun h5 => ?_) (fun h5 => ?_)
    · refine ok_sub (lv' := []) [] rfl ?_
      exact hk68  S
    · refine ok_aload_n 0 (kd_m11_stepFor.at 20 rfl) rfl rfl ?_
      refine ok_aload_n 0 (kd_m11_stepFor.at 21 rfl) rfl rfl ?_
      refine ok_iload_n 1 (kd_m11_stepFor.at 22 rfl) rfl rfl ?_
      refine ok_iload_n 2 (kd_m11_stepFor.at 23 rfl) rfl rfl ?_
      refine ok_iload 3 (kd_m11_stepFor.at 24 rfl) rfl ?_
      refine ok_aload_n 0 (kd_m11_stepFor.at 25 rfl) rfl rfl ?_
      refine ok_getR (kd_m11_stepFor.at 26 rfl) kf11_20 sh_14 rfl (kr_14_15 _) ?_
      refine ok_bipush (v := 13) (kd_m11_stepFor.at 27 rfl) (by decide) ?_
      refine ok_iload_n 1 (kd_m11_stepFor.at 28 rfl) rfl rfl ?_
      refine ok_iadd (kd_m11_stepFor.at 29 rfl) ?_
      refine ok_topi (fun x6 hx6 => ?_)
      refine ok_iald (kd_m11_stepFor.at 30 rfl) sh_57 ?_
      refine ok_callVI (M' := m11_saysBy) (as := [.int c1, .int c2, .int v4, .int (S.1 57 x6.toNatClampNeg)]) (st := [.ref 14]) (kd_m11_stepFor.at 31 rfl) kc11_253 sh_14 rfl rfl (by decide) (ok_m11_saysBy c1 c2 v4 (S.1 57 x6.toNatClampNeg) S) (kfit_of (by decide)) rfl (Nat.le_of_ble_eq_true rfl) (fun q7 hq7 => ?_)
      refine ok_callVB (M' := m11_isMore) (as := [.int q7.1]) (st := []) (kd_m11_stepFor.at 32 rfl) kc11_272 sh_14 rfl rfl (by decide) (ok_m11_isMore q7.1 q7.2) (kfit_of (by decide)) rfl (Nat.le_of_ble_eq_true rfl) (fun q8 hq8 => ?_)
      refine ok_ifb_eq (tgt := 62) (kd_m11_stepFor.at 33 rfl) (by decide) (fun h9 => ?_) (fun h9 => ?_)
      · refine ok_nx (fun x10 hx10 => ?_)
        refine ok_iinc (v := x10) (lv' := [(4, .int x10), (0, .ref 14), (1, .int c1), (2, .int c2)]) 3 (kd_m11_stepFor.at 36 rfl) rfl hx10.symm (by decide) rfl ?_
        refine ok_goto (tgt := 28) (kd_m11_stepFor.at 37 rfl) (by decide) ?_
        refine ok_sub (lv' := [(0, .ref 14), (1, .int c1), (2, .int c2), (4, .int x10)]) [1, 2, 3, 0] rfl ?_
        exact ih x10 q8.2
      · refine ok_sub (lv' := [(4, .int v4)]) [3] rfl ?_
        exact hk59 v4 q8.2
def f_m11_stepFor (a1 : Int32) (a2 : Int32) (S : kSt) : Option (Int32 × kSt) :=
  (f_m11_good  S).bind fun q1 =>
  (f_m11_isPair a1 q1).bind fun q2 =>
  (f_m11_aheadWhy q2.1 a2 q2.2).bind fun q3 =>
  if q3.1 = 0 then
    f_m11_stepFor_L28 
      (fun (x11 : Int32) (S12 : kSt) =>
        some (x11, S12)
      )
      (fun  (S13 : kSt) =>
        some ((-2), S13)
      )
      a1 a2 kFU 0 q3.2
  else
    (f_m11_no q3.1 q3.2).bind fun q14 =>
    some (q14.1, q14.2)
theorem ok_m11_stepFor {l : Launch} {G : kG} {E : kE} (a1 : Int32) (a2 : Int32)  (S : kSt) : kFn l G E E kjI m11_stepFor 5 [.ref 14, .int a1, .int a2] S (f_m11_stepFor a1 a2 S) := by
  unfold f_m11_stepFor
  refine kFn_of (by decide +kernel) (fun hG => Nat.le_of_ble_eq_true rfl) ?_
  show kOk _ _ _ _ _ _ _ _ [(0, .ref 14), (1, .int a1), (2, .int a2)] _ _
  refine ok_aload_n 0 (kd_m11_stepFor.at 0 rfl) rfl rfl ?_
  refine ok_callVV (M' := m11_good) (as := []) (st := []) (kd_m11_stepFor.at 1 rfl) kc11_164 sh_14 rfl rfl (by decide) (ok_m11_good  S) (kfit_of (by decide)) rfl (Nat.le_of_ble_eq_true rfl) (fun q1 hq1 => ?_)
  refine ok_aload_n 0 (kd_m11_stepFor.at 2 rfl) rfl rfl ?_
  refine ok_aload_n 0 (kd_m11_stepFor.at 3 rfl) rfl rfl ?_
  refine ok_iload_n 1 (kd_m11_stepFor.at 4 rfl) rfl rfl ?_
  refine ok_callVB (M' := m11_isPair) (as := [.int a1]) (st := [.ref 14]) (kd_m11_stepFor.at 5 rfl) kc11_239 sh_14 rfl rfl (by decide) (ok_m11_isPair a1 q1) (kfit_of (by decide)) rfl (Nat.le_of_ble_eq_true rfl) (fun q2 hq2 => ?_)
  refine ok_iload_n 2 (kd_m11_stepFor.at 6 rfl) rfl rfl ?_
  refine ok_callVI (M' := m11_aheadWhy) (as := [.int (kb q2.1), .int a2]) (st := []) (kd_m11_stepFor.at 7 rfl) kc11_279 sh_14 rfl rfl (by decide) (ok_m11_aheadWhy q2.1 a2 q2.2) (kfit_of (by decide)) rfl (Nat.le_of_ble_eq_true rfl) (fun q3 hq3 => ?_)
  refine ok_istore_n (lv' := [(3, .int q3.1), (0, .ref 14), (1, .int a1), (2, .int a2)]) (kd_m11_stepFor.at 8 rfl) rfl (by decide) rfl ?_
  refine ok_iload_n 0 (kd_m11_stepFor.at 9 rfl) rfl rfl ?_
  refine ok_if_eq (tgt := 25) (kd_m11_stepFor.at 10 rfl) (by decide) (fun h4 => ?_) (fun h4 => ?_)
  · refine ok_iconst (v := 0) (kd_m11_stepFor.at 15 rfl) (by decide) ?_
    refine ok_istore (lv' := [(4, .int 0), (3, .int q3.1), (0, .ref 14), (1, .int a1), (2, .int a2)]) (kd_m11_stepFor.at 16 rfl) (by decide) rfl ?_
    refine ok_sub (lv' := [(0, .ref 14), (1, .int a1), (2, .int a2), (4, .int 0)]) [2, 3, 4, 0] rfl ?_
    refine ok_m11_stepFor_L28 a1 a2 _ _ (fun x11 S12 => ?_) (fun S13 => ?_) kFU 0 q3.2
    · refine ok_iload 0 (kd_m11_stepFor.at 34 rfl) rfl ?_
      exact ok_ireturn (kd_m11_stepFor.at 35 rfl) rfl
    · refine ok_bipush (v := (-2)) (kd_m11_stepFor.at 38 rfl) (by decide) ?_
      exact ok_ireturn (kd_m11_stepFor.at 39 rfl) rfl
  · refine ok_aload_n 1 (kd_m11_stepFor.at 11 rfl) rfl rfl ?_
    refine ok_iload_n 0 (kd_m11_stepFor.at 12 rfl) rfl rfl ?_
    refine ok_callVI (M' := m11_no) (as := [.int q3.1]) (st := []) (kd_m11_stepFor.at 13 rfl) kc11_167 sh_14 rfl rfl (by decide) (ok_m11_no q3.1 q3.2) (kfit_of (by decide)) rfl (Nat.le_of_ble_eq_true rfl) (fun q14 hq14 => ?_)
    exact ok_ireturn (kd_m11_stepFor.at 14 rfl) rfl
def f_m11_stepBy_L12   (k69 : Int32 → kSt → Option (Int32 × kSt)) (c1 : Int32) (c2 : Int32) : Nat → Int32 → Int32 → kSt → Option (Int32 × kSt)
  | 0, _, _, _ => none
  | n + 1, v3, v4, S =>
    if (S.1 57 5) ≤ v4 then
      k69 v3 S
    else
      knx (18 + (2 * v4)) fun x4 =>
      kgi x4 95 (
        knx (fun (x5 : Int32) (S6 : kSt) =>
          knx (v4 + 1) fun x7 =>
          f_m11_stepBy_L12 k69 c1 c2 n x5 x7 S6
          ) fun j63 =>
        if (S.1 57 x4.toNatClampNeg) = c1 then
          (f_m11_hasBit c2 v4 S).bind fun q9 =>
          if q9.1 then
            knx ((18 + (2 * v4)) + 1) fun x11 =>
            kgi x11 95 (
              knx (q9.2.1 57 x11.toNatClampNeg) fun x12 =>
              j63 x12 q9.2
            )
          else
            j63 v3 q9.2
        else
          j63 v3 S
      )
theorem ok_m11_stepBy_L12 {l : Launch} {G : kG} {E : kE}    (c1 : Int32) (c2 : Int32) (k69 : Int32 → kSt → Option (Int32 × kSt)) (hk69 : ∀ (v3 : Int32) (S : kSt), kOk l G E (kZ G E kjI) m11_stepBy (kdp (2)) (k69 v3 S) 69 [(3, .int v3)] [] S) : ∀ (n : Nat) (v3 : Int32) (v4 : Int32) (S : kSt), kOk l G E (kZ G E kjI) m11_stepBy (kdp (2)) (f_m11_stepBy_L12 k69 c1 c2 n v3 v4 S) 12 [(0, .ref 14), (1, .int c1), (2, .int c2), (3, .int v3), (4, .int v4)] [] S := by
  intro n
  induction n with
  | zero => intro v3 v4 S; exact ok_none
  | succ n ih =>
    intro v3 v4 S
    rw [f_m11_stepBy_L12]
    refine ok_iload 4 (kd_m11_stepBy.at 9 rfl) rfl ?_
    refine ok_aload_n 0 (kd_m11_stepBy.at 10 rfl) rfl rfl ?_
    refine ok_getR (kd_m11_stepBy.at 11 rfl) kf11_20 sh_14 rfl (kr_14_15 _) ?_
    refine ok_iconst (v := 5) (kd_m11_stepBy.at 12 rfl) (by decide) ?_
    refine ok_ialdK (j := 5) (kd_m11_stepBy.at 13 rfl) sh_57 (by decide) (by decide) ?_
    refine ok_icmp_ge (tgt := 69) (kd_m11_stepBy.at 14 rfl) (by decide) (fun h3 => ?_) (fun h3 => ?_)
    · refine ok_sub (lv' := [(3, .int v3)]) [3] rfl ?_
      exact hk69 v3 S
    · refine ok_aload_n 0 (kd_m11_stepBy.at 15 rfl) rfl rfl ?_
      refine ok_getR (kd_m11_stepBy.at 16 rfl) kf11_20 sh_14 rfl (kr_14_15 _) ?_
      refine ok_bipush (v := 18) (kd_m11_stepBy.at 17 rfl) (by decide) ?_
      refine ok_iconst (v := 2) (kd_m11_stepBy.at 18 rfl) (by decide) ?_
      refine ok_iload 4 (kd_m11_stepBy.at 19 rfl) rfl ?_
      refine ok_imul (kd_m11_stepBy.at 20 rfl) ?_
      refine ok_iadd (kd_m11_stepBy.at 21 rfl) ?_
      refine ok_topi (fun x4 hx4 => ?_)
      refine ok_iald (kd_m11_stepBy.at 22 rfl) sh_57 ?_
      refine ok_iload_n 1 (kd_m11_stepBy.at 23 rfl) rfl rfl ?_
      refine ok_nx (fun j63 hj63 => ?_)
      have K63 : ∀ (x5 : Int32) (S6 : kSt), kOk l G E (kZ G E kjI) m11_stepBy (kdp (2)) (j63 x5 S6) 63 [(0, .ref 14), (1, .int c1), (2, .int c2), (3, .int x5), (4, .int v4)] [] S6 := by
        subst hj63
        intro x5 S6
        refine ok_nx (fun x7 hx7 => ?_)
        refine ok_iinc (v := x7) (lv' := [(4, .int x7), (0, .ref 14), (1, .int c1), (2, .int c2), (3, .int x5)]) 4 (kd_m11_stepBy.at 40 rfl) rfl hx7.symm (by decide) rfl ?_
        refine ok_goto (tgt := 12) (kd_m11_stepBy.at 41 rfl) (by decide) ?_
        refine ok_sub (lv' := [(0, .ref 14), (1, .int c1), (2, .int c2), (3, .int x5), (4, .int x7)]) [1, 2, 3, 4, 0] rfl ?_
        exact ih x5 x7 S6
      clear hj63
      refine ok_icmp_ne (tgt := 63) (kd_m11_stepBy.at 24 rfl) (by decide) (fun h8 => ?_) (fun h8 => ?_)
      · exact K63 v3 S
      · refine ok_iload_n 2 (kd_m11_stepBy.at 25 rfl) rfl rfl ?_
        refine ok_iload 4 (kd_m11_stepBy.at 26 rfl) rfl ?_
        refine ok_callSB (M' := m11_hasBit) (as := [.int c2, .int v4]) (st := []) (kd_m11_stepBy.at 27 rfl) kc11_306  rfl (by decide) (ok_m11_hasBit c2 v4 S) (kfit_of (by decide)) rfl (Nat.le_of_ble_eq_true rfl) (fun q9 hq9 => ?_)
        refine ok_ifb_eq (tgt := 63) (kd_m11_stepBy.at 28 rfl) (by decide) (fun h10 => ?_) (fun h10 => ?_)
        · exact K63 v3 q9.2
        · refine ok_aload_n 0 (kd_m11_stepBy.at 29 rfl) rfl rfl ?_
          refine ok_getR (kd_m11_stepBy.at 30 rfl) kf11_20 sh_14 rfl (kr_14_15 _) ?_
          refine ok_bipush (v := 18) (kd_m11_stepBy.at 31 rfl) (by decide) ?_
          refine ok_iconst (v := 2) (kd_m11_stepBy.at 32 rfl) (by decide) ?_
          refine ok_iload 4 (kd_m11_stepBy.at 33 rfl) rfl ?_
          refine ok_imul (kd_m11_stepBy.at 34 rfl) ?_
          refine ok_iadd (kd_m11_stepBy.at 35 rfl) ?_
          refine ok_iconst (v := 1) (kd_m11_stepBy.at 36 rfl) (by decide) ?_
          refine ok_iadd (kd_m11_stepBy.at 37 rfl) ?_
          refine ok_topi (fun x11 hx11 => ?_)
          refine ok_iald (kd_m11_stepBy.at 38 rfl) sh_57 ?_
          refine ok_topi (fun x12 hx12 => ?_)
          refine ok_istore_n (lv' := [(3, .int x12), (0, .ref 14), (1, .int c1), (2, .int c2), (4, .int v4)]) (kd_m11_stepBy.at 39 rfl) rfl (by decide) rfl ?_
          refine ok_sub (lv' := [(0, .ref 14), (1, .int c1), (2, .int c2), (3, .int x12), (4, .int v4)]) [1, 2, 3, 0, 4] rfl ?_
          exact K63 x12 q9.2
def f_m11_stepBy (a1 : Int32) (a2 : Int32) (S : kSt) : Option (Int32 × kSt) :=
  knx (5 + a1) fun x1 =>
  kgi x1 36 (
    knx (S.1 59 x1.toNatClampNeg) fun x2 =>
    f_m11_stepBy_L12 
      (fun (x13 : Int32) (S14 : kSt) =>
        some (x13, S14)
      )
      a1 a2 kFU x2 0 S
  )
theorem ok_m11_stepBy {l : Launch} {G : kG} {E : kE} (a1 : Int32) (a2 : Int32)  (S : kSt) : kFn l G E E kjI m11_stepBy 2 [.ref 14, .int a1, .int a2] S (f_m11_stepBy a1 a2 S) := by
  unfold f_m11_stepBy
  refine kFn_of (by decide +kernel) (fun hG => Nat.le_of_ble_eq_true rfl) ?_
  show kOk _ _ _ _ _ _ _ _ [(0, .ref 14), (1, .int a1), (2, .int a2)] _ _
  refine ok_aload_n 0 (kd_m11_stepBy.at 0 rfl) rfl rfl ?_
  refine ok_getR (kd_m11_stepBy.at 1 rfl) kf11_26 sh_14 rfl (kr_14_17 _) ?_
  refine ok_iconst (v := 5) (kd_m11_stepBy.at 2 rfl) (by decide) ?_
  refine ok_iload_n 1 (kd_m11_stepBy.at 3 rfl) rfl rfl ?_
  refine ok_iadd (kd_m11_stepBy.at 4 rfl) ?_
  refine ok_topi (fun x1 hx1 => ?_)
  refine ok_iald (kd_m11_stepBy.at 5 rfl) sh_59 ?_
  refine ok_topi (fun x2 hx2 => ?_)
  refine ok_istore_n (lv' := [(3, .int x2), (0, .ref 14), (1, .int a1), (2, .int a2)]) (kd_m11_stepBy.at 6 rfl) rfl (by decide) rfl ?_
  refine ok_iconst (v := 0) (kd_m11_stepBy.at 7 rfl) (by decide) ?_
  refine ok_istore (lv' := [(4, .int 0), (3, .int x2), (0, .ref 14), (1, .int a1), (2, .int a2)]) (kd_m11_stepBy.at 8 rfl) (by decide) rfl ?_
  refine ok_sub (lv' := [(0, .ref 14), (1, .int a1), (2, .int a2), (3, .int x2), (4, .int 0)]) [2, 3, 4, 1, 0] rfl ?_
  refine ok_m11_stepBy_L12 a1 a2 _ (fun x13 S14 => ?_) kFU x2 0 S
  refine ok_iload_n 0 (kd_m11_stepBy.at 42 rfl) rfl rfl ?_
  exact ok_ireturn (kd_m11_stepBy.at 43 rfl) rfl
def f_m11_saidThen_L11   (k50 : Int32 → kSt → Option (Int32 × kSt)) (c1 : Int32) (c2 : Int32) (c3 : Int32) : Nat → Int32 → Int32 → kSt → Option (Int32 × kSt)
  | 0, _, _, _ => none
  | n + 1, v4, v5, S =>
    if c2 < v5 then
      k50 v4 S
    else
      (f_m11_stepBy c1 c3 S).bind fun q3 =>
      knx (13 + c1) fun x4 =>
      kgi x4 95 (
        (f_m11_behind c1 v4 q3.1 (q3.2.1 57 x4.toNatClampNeg) v5 false q3.2).bind fun q5 =>
        knx (v5 + 1) fun x6 =>
        f_m11_saidThen_L11 k50 c1 c2 c3 n q5.1 x6 q5.2
      )
theorem ok_m11_saidThen_L11 {l : Launch} {G : kG} {E : kE}    (c1 : Int32) (c2 : Int32) (c3 : Int32) (k50 : Int32 → kSt → Option (Int32 × kSt)) (hk50 : ∀ (v4 : Int32) (S : kSt), kOk l G E (kZ G E kjI) m11_saidThen (kdp (4)) (k50 v4 S) 50 [(4, .int v4)] [] S) : ∀ (n : Nat) (v4 : Int32) (v5 : Int32) (S : kSt), kOk l G E (kZ G E kjI) m11_saidThen (kdp (4)) (f_m11_saidThen_L11 k50 c1 c2 c3 n v4 v5 S) 11 [(0, .ref 14), (1, .int c1), (2, .int c2), (3, .int c3), (4, .int v4), (5, .int v5)] [] S := by
  intro n
  induction n with
  | zero => intro v4 v5 S; exact ok_none
  | succ n ih =>
    intro v4 v5 S
    rw [f_m11_saidThen_L11]
    refine ok_iload 5 (kd_m11_saidThen.at 7 rfl) rfl ?_
    refine ok_iload_n 2 (kd_m11_saidThen.at 8 rfl) rfl rfl ?_
    refine ok_icmp_gt (tgt := 50) (kd_m11_saidThen.at 9 rfl) (by decide) (fun h2 => ?_) (fun h2 => ?_)
    · refine ok_sub (lv' := [(4, .int v4)]) [4] rfl ?_
      exact hk50 v4 S
    · refine ok_aload_n 0 (kd_m11_saidThen.at 10 rfl) rfl rfl ?_
      refine ok_iload_n 1 (kd_m11_saidThen.at 11 rfl) rfl rfl ?_
      refine ok_iload 4 (kd_m11_saidThen.at 12 rfl) rfl ?_
      refine ok_aload_n 0 (kd_m11_saidThen.at 13 rfl) rfl rfl ?_
      refine ok_iload_n 1 (kd_m11_saidThen.at 14 rfl) rfl rfl ?_
      refine ok_iload_n 3 (kd_m11_saidThen.at 15 rfl) rfl rfl ?_
      refine ok_callVI (M' := m11_stepBy) (as := [.int c1, .int c3]) (st := [.int v4, .int c1, .ref 14]) (kd_m11_saidThen.at 16 rfl) kc11_309 sh_14 rfl rfl (by decide) (ok_m11_stepBy c1 c3 S) (kfit_of (by decide)) rfl (Nat.le_of_ble_eq_true rfl) (fun q3 hq3 => ?_)
      refine ok_aload_n 0 (kd_m11_saidThen.at 17 rfl) rfl rfl ?_
      refine ok_getR (kd_m11_saidThen.at 18 rfl) kf11_20 sh_14 rfl (kr_14_15 _) ?_
      refine ok_bipush (v := 13) (kd_m11_saidThen.at 19 rfl) (by decide) ?_
      refine ok_iload_n 1 (kd_m11_saidThen.at 20 rfl) rfl rfl ?_
      refine ok_iadd (kd_m11_saidThen.at 21 rfl) ?_
      refine ok_topi (fun x4 hx4 => ?_)
      refine ok_iald (kd_m11_saidThen.at 22 rfl) sh_57 ?_
      refine ok_iload 5 (kd_m11_saidThen.at 23 rfl) rfl ?_
      refine ok_iconst (v := 0) (kd_m11_saidThen.at 24 rfl) (by decide) ?_
      refine ok_callVI (M' := m11_behind) (as := [.int c1, .int v4, .int q3.1, .int (q3.2.1 57 x4.toNatClampNeg), .int v5, .int (kb false)]) (st := []) (kd_m11_saidThen.at 25 rfl) kc11_249 sh_14 rfl rfl (by decide) (ok_m11_behind c1 v4 q3.1 (q3.2.1 57 x4.toNatClampNeg) v5 false q3.2) (kfit_of (by decide)) rfl (Nat.le_of_ble_eq_true rfl) (fun q5 hq5 => ?_)
      refine ok_istore (lv' := [(4, .int q5.1), (0, .ref 14), (1, .int c1), (2, .int c2), (3, .int c3), (5, .int v5)]) (kd_m11_saidThen.at 26 rfl) (by decide) rfl ?_
      refine ok_nx (fun x6 hx6 => ?_)
      refine ok_iinc (v := x6) (lv' := [(5, .int x6), (4, .int q5.1), (0, .ref 14), (1, .int c1), (2, .int c2), (3, .int c3)]) 5 (kd_m11_saidThen.at 27 rfl) rfl hx6.symm (by decide) rfl ?_
      refine ok_goto (tgt := 11) (kd_m11_saidThen.at 28 rfl) (by decide) ?_
      refine ok_sub (lv' := [(0, .ref 14), (1, .int c1), (2, .int c2), (3, .int c3), (4, .int q5.1), (5, .int x6)]) [2, 3, 4, 5, 1, 0] rfl ?_
      exact ih q5.1 x6 q5.2
def f_m11_saidThen (a1 : Int32) (a2 : Int32) (a3 : Int32) (S : kSt) : Option (Int32 × kSt) :=
  kgi a1 36 (
    knx (S.1 59 a1.toNatClampNeg) fun x1 =>
    f_m11_saidThen_L11 
      (fun (x7 : Int32) (S8 : kSt) =>
        some (x7, S8)
      )
      a1 a2 a3 kFU x1 1 S
  )
theorem ok_m11_saidThen {l : Launch} {G : kG} {E : kE} (a1 : Int32) (a2 : Int32) (a3 : Int32)  (S : kSt) : kFn l G E E kjI m11_saidThen 4 [.ref 14, .int a1, .int a2, .int a3] S (f_m11_saidThen a1 a2 a3 S) := by
  unfold f_m11_saidThen
  refine kFn_of (by decide +kernel) (fun hG => Nat.le_of_ble_eq_true rfl) ?_
  show kOk _ _ _ _ _ _ _ _ [(0, .ref 14), (1, .int a1), (2, .int a2), (3, .int a3)] _ _
  refine ok_aload_n 0 (kd_m11_saidThen.at 0 rfl) rfl rfl ?_
  refine ok_getR (kd_m11_saidThen.at 1 rfl) kf11_26 sh_14 rfl (kr_14_17 _) ?_
  refine ok_iload_n 1 (kd_m11_saidThen.at 2 rfl) rfl rfl ?_
  refine ok_iald (kd_m11_saidThen.at 3 rfl) sh_59 ?_
  refine ok_topi (fun x1 hx1 => ?_)
  refine ok_istore (lv' := [(4, .int x1), (0, .ref 14), (1, .int a1), (2, .int a2), (3, .int a3)]) (kd_m11_saidThen.at 4 rfl) (by decide) rfl ?_
  refine ok_iconst (v := 1) (kd_m11_saidThen.at 5 rfl) (by decide) ?_
  refine ok_istore (lv' := [(5, .int 1), (4, .int x1), (0, .ref 14), (1, .int a1), (2, .int a2), (3, .int a3)]) (kd_m11_saidThen.at 6 rfl) (by decide) rfl ?_
  refine ok_sub (lv' := [(0, .ref 14), (1, .int a1), (2, .int a2), (3, .int a3), (4, .int x1), (5, .int 1)]) [2, 3, 4, 5, 1, 0] rfl ?_
  refine ok_m11_saidThen_L11 a1 a2 a3 _ (fun x7 S8 => ?_) kFU x1 1 S
  refine ok_iload 0 (kd_m11_saidThen.at 29 rfl) rfl ?_
  exact ok_ireturn (kd_m11_saidThen.at 30 rfl) rfl
def f_m11_wrongBy_L2   (k58 : Int32 → kSt → Option (Int32 × kSt)) (k66 : kSt → Option (Int32 × kSt)) (c1 : Int32) : Nat → Int32 → kSt → Option (Int32 × kSt)
  | 0, _, _ => none
  | n + 1, v2, S =>
    if (S.1 57 6) ≤ v2 then
      k66  S
    else
      knx (26 + (3 * v2)) fun x2 =>
      kgi x2 95 (
        knx ((26 + (3 * v2)) + 1) fun x3 =>
        kgi x3 95 (
          (f_m11_saidThen (S.1 57 x2.toNatClampNeg) (S.1 57 x3.toNatClampNeg) c1 S).bind fun q4 =>
          knx ((26 + (3 * v2)) + 2) fun x5 =>
          kgi x5 95 (
            if q4.1 = (q4.2.1 57 x5.toNatClampNeg) then
              knx (v2 + 1) fun x7 =>
              f_m11_wrongBy_L2 k58 k66 c1 n x7 q4.2
            else
              k58 v2 q4.2
          )
        )
      )
theorem ok_m11_wrongBy_L2 {l : Launch} {G : kG} {E : kE}    (c1 : Int32) (k58 : Int32 → kSt → Option (Int32 × kSt)) (k66 : kSt → Option (Int32 × kSt)) (hk58 : ∀ (v2 : Int32) (S : kSt), kOk l G E (kZ G E kjI) m11_wrongBy (kdp (5)) (k58 v2 S) 58 [(2, .int v2)] [] S) (hk66 : ∀  (S : kSt), kOk l G E (kZ G E kjI) m11_wrongBy (kdp (5)) (k66  S) 66 [] [] S) : ∀ (n : Nat) (v2 : Int32) (S : kSt), kOk l G E (kZ G E kjI) m11_wrongBy (kdp (5)) (f_m11_wrongBy_L2 k58 k66 c1 n v2 S) 2 [(0, .ref 14), (1, .int c1), (2, .int v2)] [] S := by
  intro n
  induction n with
  | zero => intro v2 S; exact ok_none
  | succ n ih =>
    intro v2 S
    rw [f_m11_wrongBy_L2]
    refine ok_iload_n 2 (kd_m11_wrongBy.at 2 rfl) rfl rfl ?_
    refine ok_aload_n 0 (kd_m11_wrongBy.at 3 rfl) rfl rfl ?_
    refine ok_getR (kd_m11_wrongBy.at 4 rfl) kf11_20 sh_14 rfl (kr_14_15 _) ?_
    refine ok_bipush (v := 6) (kd_m11_wrongBy.at 5 rfl) (by decide) ?_
    refine ok_ialdK (j := 6) (kd_m11_wrongBy.at 6 rfl) sh_57 (by decide) (by decide) ?_
    refine ok_icmp_ge (tgt := 66) (kd_m11_wrongBy.at 7 rfl) (by decide) (fun h1 => ?_) (fun h1 => ?_)
    · refine ok_sub (lv' := []) [] rfl ?_
      exact hk66  S
    · refine ok_aload_n 0 (kd_m11_wrongBy.at 8 rfl) rfl rfl ?_
      refine ok_aload_n 0 (kd_m11_wrongBy.at 9 rfl) rfl rfl ?_
      refine ok_getR (kd_m11_wrongBy.at 10 rfl) kf11_20 sh_14 rfl (kr_14_15 _) ?_
      refine ok_bipush (v := 26) (kd_m11_wrongBy.at 11 rfl) (by decide) ?_
      refine ok_iconst (v := 3) (kd_m11_wrongBy.at 12 rfl) (by decide) ?_
      refine ok_iload_n 2 (kd_m11_wrongBy.at 13 rfl) rfl rfl ?_
      refine ok_imul (kd_m11_wrongBy.at 14 rfl) ?_
      refine ok_iadd (kd_m11_wrongBy.at 15 rfl) ?_
      refine ok_topi (fun x2 hx2 => ?_)
      refine ok_iald (kd_m11_wrongBy.at 16 rfl) sh_57 ?_
      refine ok_aload_n 0 (kd_m11_wrongBy.at 17 rfl) rfl rfl ?_
      refine ok_getR (kd_m11_wrongBy.at 18 rfl) kf11_20 sh_14 rfl (kr_14_15 _) ?_
      refine ok_bipush (v := 26) (kd_m11_wrongBy.at 19 rfl) (by decide) ?_
      refine ok_iconst (v := 3) (kd_m11_wrongBy.at 20 rfl) (by decide) ?_
      refine ok_iload_n 2 (kd_m11_wrongBy.at 21 rfl) rfl rfl ?_
      refine ok_imul (kd_m11_wrongBy.at 22 rfl) ?_
      refine ok_iadd (kd_m11_wrongBy.at 23 rfl) ?_
      refine ok_iconst (v := 1) (kd_m11_wrongBy.at 24 rfl) (by decide) ?_
      refine ok_iadd (kd_m11_wrongBy.at 25 rfl) ?_
      refine ok_topi (fun x3 hx3 => ?_)
      refine ok_iald (kd_m11_wrongBy.at 26 rfl) sh_57 ?_
      refine ok_iload_n 1 (kd_m11_wrongBy.at 27 rfl) rfl rfl ?_
      refine ok_callVI (M' := m11_saidThen) (as := [.int (S.1 57 x2.toNatClampNeg), .int (S.1 57 x3.toNatClampNeg), .int c1]) (st := []) (kd_m11_wrongBy.at 28 rfl) kc11_312 sh_14 rfl rfl (by decide) (ok_m11_saidThen (S.1 57 x2.toNatClampNeg) (S.1 57 x3.toNatClampNeg) c1 S) (kfit_of (by decide)) rfl (Nat.le_of_ble_eq_true rfl) (fun q4 hq4 => ?_)
      refine ok_aload_n 0 (kd_m11_wrongBy.at 29 rfl) rfl rfl ?_
      refine ok_getR (kd_m11_wrongBy.at 30 rfl) kf11_20 sh_14 rfl (kr_14_15 _) ?_
      refine ok_bipush (v := 26) (kd_m11_wrongBy.at 31 rfl) (by decide) ?_
      refine ok_iconst (v := 3) (kd_m11_wrongBy.at 32 rfl) (by decide) ?_
      refine ok_iload_n 2 (kd_m11_wrongBy.at 33 rfl) rfl rfl ?_
      refine ok_imul (kd_m11_wrongBy.at 34 rfl) ?_
      refine ok_iadd (kd_m11_wrongBy.at 35 rfl) ?_
      refine ok_iconst (v := 2) (kd_m11_wrongBy.at 36 rfl) (by decide) ?_
      refine ok_iadd (kd_m11_wrongBy.at 37 rfl) ?_
      refine ok_topi (fun x5 hx5 => ?_)
      refine ok_iald (kd_m11_wrongBy.at 38 rfl) sh_57 ?_
      refine ok_icmp_eq (tgt := 60) (kd_m11_wrongBy.at 39 rfl) (by decide) (fun h6 => ?_) (fun h6 => ?_)
      · refine ok_nx (fun x7 hx7 => ?_)
        refine ok_iinc (v := x7) (lv' := [(2, .int x7), (0, .ref 14), (1, .int c1)]) 2 (kd_m11_wrongBy.at 42 rfl) rfl hx7.symm (by decide) rfl ?_
        refine ok_goto (tgt := 2) (kd_m11_wrongBy.at 43 rfl) (by decide) ?_
        refine ok_sub (lv' := [(0, .ref 14), (1, .int c1), (2, .int x7)]) [1, 2, 0] rfl ?_
        exact ih x7 q4.2
      · refine ok_sub (lv' := [(2, .int v2)]) [2] rfl ?_
        exact hk58 v2 q4.2
def f_m11_wrongBy (a1 : Int32) (S : kSt) : Option (Int32 × kSt) :=
  f_m11_wrongBy_L2 
    (fun (x8 : Int32) (S9 : kSt) =>
      some (x8, S9)
    )
    (fun  (S10 : kSt) =>
      some ((-2), S10)
    )
    a1 kFU 0 S
theorem ok_m11_wrongBy {l : Launch} {G : kG} {E : kE} (a1 : Int32)  (S : kSt) : kFn l G E E kjI m11_wrongBy 5 [.ref 14, .int a1] S (f_m11_wrongBy a1 S) := by
  unfold f_m11_wrongBy
  refine kFn_of (by decide +kernel) (fun hG => Nat.le_of_ble_eq_true rfl) ?_
  show kOk _ _ _ _ _ _ _ _ [(0, .ref 14), (1, .int a1)] _ _
  refine ok_iconst (v := 0) (kd_m11_wrongBy.at 0 rfl) (by decide) ?_
  refine ok_istore_n (lv' := [(2, .int 0), (0, .ref 14), (1, .int a1)]) (kd_m11_wrongBy.at 1 rfl) rfl (by decide) rfl ?_
  refine ok_sub (lv' := [(0, .ref 14), (1, .int a1), (2, .int 0)]) [1, 2, 0] rfl ?_
  refine ok_m11_wrongBy_L2 a1 _ _ (fun x8 S9 => ?_) (fun S10 => ?_) kFU 0 S
  · refine ok_iload_n 0 (kd_m11_wrongBy.at 40 rfl) rfl rfl ?_
    exact ok_ireturn (kd_m11_wrongBy.at 41 rfl) rfl
  · refine ok_bipush (v := (-2)) (kd_m11_wrongBy.at 44 rfl) (by decide) ?_
    exact ok_ireturn (kd_m11_wrongBy.at 45 rfl) rfl
def f_m11_seekSets_L28   (k46 : kSt → Option (Int32 × kSt)) (c1 : Int32) (c2 : Int32) : Nat → Int32 → kSt → Option (Int32 × kSt)
  | 0, _, _ => none
  | n + 1, v3, S =>
    if 4 ≤ v3 then
      k46  S
    else
      kgi v3 4 (
        knx (kuI S 66 v3.toNatClampNeg 0) fun S5 =>
        knx (v3 + 1) fun x6 =>
        f_m11_seekSets_L28 k46 c1 c2 n x6 S5
      )
theorem ok_m11_seekSets_L28 {l : Launch} {G : kG} {E : kE}    (c1 : Int32) (c2 : Int32) (k46 : kSt → Option (Int32 × kSt)) (hk46 : ∀  (S : kSt), kOk l G E (kZ G E kjI) m11_seekSets (kdp (6)) (k46  S) 46 [(0, .ref 14), (1, .int c1), (2, .int c2)] [] S) : ∀ (n : Nat) (v3 : Int32) (S : kSt), kOk l G E (kZ G E kjI) m11_seekSets (kdp (6)) (f_m11_seekSets_L28 k46 c1 c2 n v3 S) 28 [(0, .ref 14), (1, .int c1), (2, .int c2), (3, .int v3)] [] S := by
  intro n
  induction n with
  | zero => intro v3 S; exact ok_none
  | succ n ih =>
    intro v3 S
    rw [f_m11_seekSets_L28]
    refine ok_iload_n 3 (kd_m11_seekSets.at 20 rfl) rfl rfl ?_
    refine ok_iconst (v := 4) (kd_m11_seekSets.at 21 rfl) (by decide) ?_
    refine ok_icmp_ge (tgt := 46) (kd_m11_seekSets.at 22 rfl) (by decide) (fun h4 => ?_) (fun h4 => ?_)
    · refine ok_sub (lv' := [(0, .ref 14), (1, .int c1), (2, .int c2)]) [0, 1, 2] rfl ?_
      exact hk46  S
    · refine ok_aload_n 0 (kd_m11_seekSets.at 23 rfl) rfl rfl ?_
      refine ok_getR (kd_m11_seekSets.at 24 rfl) kf11_47 sh_14 rfl (kr_14_30 _) ?_
      refine ok_iload_n 3 (kd_m11_seekSets.at 25 rfl) rfl rfl ?_
      refine ok_iconst (v := 0) (kd_m11_seekSets.at 26 rfl) (by decide) ?_
      refine ok_iast (kd_m11_seekSets.at 27 rfl) sh_66 ?_
      refine ok_nS (fun S5 hS5 => ?_)
      refine ok_nx (fun x6 hx6 => ?_)
      refine ok_iinc (v := x6) (lv' := [(3, .int x6), (0, .ref 14), (1, .int c1), (2, .int c2)]) 3 (kd_m11_seekSets.at 28 rfl) rfl hx6.symm (by decide) rfl ?_
      refine ok_goto (tgt := 28) (kd_m11_seekSets.at 29 rfl) (by decide) ?_
      refine ok_sub (lv' := [(0, .ref 14), (1, .int c1), (2, .int c2), (3, .int x6)]) [1, 2, 3, 0] rfl ?_
      exact ih x6 S5
def f_m11_seekSets_L116   (k149 : kSt → Option (Int32 × kSt)) (c1 : Int32) (c2 : Int32) (c3 : Int32) : Nat → Int32 → kSt → Option (Int32 × kSt)
  | 0, _, _ => none
  | n + 1, v4, S =>
    if (S.1 57 5) ≤ v4 then
      k149  S
    else
      kgi v4 4 (
        kgi v4 4 (
          knx (kuI S 66 v4.toNatClampNeg ((S.1 66 v4.toNatClampNeg) + ((c3 >>> (v4 &&& 31)) &&& 1))) fun S20 =>
          knx (v4 + 1) fun x21 =>
          f_m11_seekSets_L116 k149 c1 c2 c3 n x21 S20
        )
      )
theorem ok_m11_seekSets_L116 {l : Launch} {G : kG} {E : kE}    (c1 : Int32) (c2 : Int32) (c3 : Int32) (k149 : kSt → Option (Int32 × kSt)) (hk149 : ∀  (S : kSt), kOk l G E (kZ G E kjI) m11_seekSets (kdp (6)) (k149  S) 149 [(0, .ref 14), (1, .int c1), (2, .int c2), (3, .int c3)] [] S) : ∀ (n : Nat) (v4 : Int32) (S : kSt), kOk l G E (kZ G E kjI) m11_seekSets (kdp (6)) (f_m11_seekSets_L116 k149 c1 c2 c3 n v4 S) 116 [(0, .ref 14), (1, .int c1), (2, .int c2), (3, .int c3), (4, .int v4)] [] S := by
  intro n
  induction n with
  | zero => intro v4 S; exact ok_none
  | succ n ih =>
    intro v4 S
    rw [f_m11_seekSets_L116]
    refine ok_iload 4 (kd_m11_seekSets.at 72 rfl) rfl ?_
    refine ok_aload_n 0 (kd_m11_seekSets.at 73 rfl) rfl rfl ?_
    refine ok_getR (kd_m11_seekSets.at 74 rfl) kf11_20 sh_14 rfl (kr_14_15 _) ?_
    refine ok_iconst (v := 5) (kd_m11_seekSets.at 75 rfl) (by decide) ?_
    refine ok_ialdK (j := 5) (kd_m11_seekSets.at 76 rfl) sh_57 (by decide) (by decide) ?_
    refine ok_icmp_ge (tgt := 149) (kd_m11_seekSets.at 77 rfl) (by decide) (fun h19 => ?_) (fun h19 => ?_)
    · refine ok_sub (lv' := [(0, .ref 14), (1, .int c1), (2, .int c2), (3, .int c3)]) [0, 1, 2, 3] rfl ?_
      exact hk149  S
    · refine ok_aload_n 0 (kd_m11_seekSets.at 78 rfl) rfl rfl ?_
      refine ok_getR (kd_m11_seekSets.at 79 rfl) kf11_47 sh_14 rfl (kr_14_30 _) ?_
      refine ok_iload 4 (kd_m11_seekSets.at 80 rfl) rfl ?_
      refine ok_dup2 (kd_m11_seekSets.at 81 rfl) rfl rfl ?_
      refine ok_iald (kd_m11_seekSets.at 82 rfl) sh_66 ?_
      refine ok_iload_n 3 (kd_m11_seekSets.at 83 rfl) rfl rfl ?_
      refine ok_iload 4 (kd_m11_seekSets.at 84 rfl) rfl ?_
      refine ok_ishr (kd_m11_seekSets.at 85 rfl) ?_
      refine ok_iconst (v := 1) (kd_m11_seekSets.at 86 rfl) (by decide) ?_
      refine ok_iand (kd_m11_seekSets.at 87 rfl) ?_
      refine ok_iadd (kd_m11_seekSets.at 88 rfl) ?_
      refine ok_iast (kd_m11_seekSets.at 89 rfl) sh_66 ?_
      refine ok_nS (fun S20 hS20 => ?_)
      refine ok_nx (fun x21 hx21 => ?_)
      refine ok_iinc (v := x21) (lv' := [(4, .int x21), (0, .ref 14), (1, .int c1), (2, .int c2), (3, .int c3)]) 4 (kd_m11_seekSets.at 90 rfl) rfl hx21.symm (by decide) rfl ?_
      refine ok_goto (tgt := 116) (kd_m11_seekSets.at 91 rfl) (by decide) ?_
      refine ok_sub (lv' := [(0, .ref 14), (1, .int c1), (2, .int c2), (3, .int c3), (4, .int x21)]) [1, 2, 3, 4, 0] rfl ?_
      exact ih x21 S20
def f_m11_seekSets_L48   (k155 : Int32 → kSt → Option (Int32 × kSt)) (c1 : Int32) : Nat → Int32 → Int32 → kSt → Option (Int32 × kSt)
  | 0, _, _, _ => none
  | n + 1, v2, v3, S =>
    if (1 <<< ((S.1 57 5) &&& 31)) ≤ v3 then
      k155 v2 S
    else
      (f_m11_wrongBy v3 S).bind fun q9 =>
      knx (fun (x10 : Int32) (S11 : kSt) =>
        knx (v3 + 1) fun x12 =>
        f_m11_seekSets_L48 k155 c1 n x10 x12 S11
        ) fun j149 =>
      if q9.1 = (-2) then
        knx (fun (x14 : Int32) (S15 : kSt) =>
          knx (kuI S15 14 31 ((S15.1 14 31) + 1)) fun S16 =>
          knx (kuI S16 14 32 ((S16.1 14 32) ||| v3)) fun S17 =>
          knx (kuI S17 14 33 ((S17.1 14 33) &&& v3)) fun S18 =>
          f_m11_seekSets_L116 
            (fun  (S22 : kSt) =>
              j149 x14 S22
            )
            c1 x14 v3 kFU 0 S18
          ) fun j83 =>
        if (q9.2.1 14 31) = c1 then
          j83 v3 q9.2
        else
          j83 v2 q9.2
      else
        j149 v2 q9.2
theorem ok_m11_seekSets_L48 {l : Launch} {G : kG} {E : kE}    (c1 : Int32) (k155 : Int32 → kSt → Option (Int32 × kSt)) (hk155 : ∀ (v2 : Int32) (S : kSt), kOk l G E (kZ G E kjI) m11_seekSets (kdp (6)) (k155 v2 S) 155 [(0, .ref 14), (2, .int v2)] [] S) : ∀ (n : Nat) (v2 : Int32) (v3 : Int32) (S : kSt), kOk l G E (kZ G E kjI) m11_seekSets (kdp (6)) (f_m11_seekSets_L48 k155 c1 n v2 v3 S) 48 [(0, .ref 14), (1, .int c1), (2, .int v2), (3, .int v3)] [] S := by
  intro n
  induction n with
  | zero => intro v2 v3 S; exact ok_none
  | succ n ih =>
    intro v2 v3 S
    rw [f_m11_seekSets_L48]
    refine ok_iload_n 3 (kd_m11_seekSets.at 32 rfl) rfl rfl ?_
    refine ok_iconst (v := 1) (kd_m11_seekSets.at 33 rfl) (by decide) ?_
    refine ok_aload_n 0 (kd_m11_seekSets.at 34 rfl) rfl rfl ?_
    refine ok_getR (kd_m11_seekSets.at 35 rfl) kf11_20 sh_14 rfl (kr_14_15 _) ?_
    refine ok_iconst (v := 5) (kd_m11_seekSets.at 36 rfl) (by decide) ?_
    refine ok_ialdK (j := 5) (kd_m11_seekSets.at 37 rfl) sh_57 (by decide) (by decide) ?_
    refine ok_ishl (kd_m11_seekSets.at 38 rfl) ?_
    refine ok_icmp_ge (tgt := 155) (kd_m11_seekSets.at 39 rfl) (by decide) (fun h8 => ?_) (fun h8 => ?_)
    · refine ok_sub (lv' := [(0, .ref 14), (2, .int v2)]) [0, 2] rfl ?_
      exact hk155 v2 S
    · refine ok_aload_n 0 (kd_m11_seekSets.at 40 rfl) rfl rfl ?_
      refine ok_iload_n 3 (kd_m11_seekSets.at 41 rfl) rfl rfl ?_
      refine ok_callVI (M' := m11_wrongBy) (as := [.int v3]) (st := []) (kd_m11_seekSets.at 42 rfl) kc11_324 sh_14 rfl rfl (by decide) (ok_m11_wrongBy v3 S) (kfit_of (by decide)) rfl (Nat.le_of_ble_eq_true rfl) (fun q9 hq9 => ?_)
      refine ok_bipush (v := (-2)) (kd_m11_seekSets.at 43 rfl) (by decide) ?_
      refine ok_nx (fun j149 hj149 => ?_)
      have K149 : ∀ (x10 : Int32) (S11 : kSt), kOk l G E (kZ G E kjI) m11_seekSets (kdp (6)) (j149 x10 S11) 149 [(0, .ref 14), (1, .int c1), (2, .int x10), (3, .int v3)] [] S11 := by
        subst hj149
        intro x10 S11
        refine ok_nx (fun x12 hx12 => ?_)
        refine ok_iinc (v := x12) (lv' := [(3, .int x12), (0, .ref 14), (1, .int c1), (2, .int x10)]) 3 (kd_m11_seekSets.at 92 rfl) rfl hx12.symm (by decide) rfl ?_
        refine ok_goto (tgt := 48) (kd_m11_seekSets.at 93 rfl) (by decide) ?_
        refine ok_sub (lv' := [(0, .ref 14), (1, .int c1), (2, .int x10), (3, .int x12)]) [1, 2, 3, 0] rfl ?_
        exact ih x10 x12 S11
      clear hj149
      refine ok_icmp_eq (tgt := 73) (kd_m11_seekSets.at 44 rfl) (by decide) (fun h13 => ?_) (fun h13 => ?_)
      · refine ok_aload_n 0 (kd_m11_seekSets.at 46 rfl) rfl rfl ?_
        refine ok_getI (kd_m11_seekSets.at 47 rfl) kf11_315 sh_14 rfl ?_
        refine ok_iload_n 1 (kd_m11_seekSets.at 48 rfl) rfl rfl ?_
        refine ok_nx (fun j83 hj83 => ?_)
        have K83 : ∀ (x14 : Int32) (S15 : kSt), kOk l G E (kZ G E kjI) m11_seekSets (kdp (6)) (j83 x14 S15) 83 [(0, .ref 14), (1, .int c1), (2, .int x14), (3, .int v3)] [] S15 := by
          subst hj83
          intro x14 S15
          refine ok_aload_n 0 (kd_m11_seekSets.at 52 rfl) rfl rfl ?_
          refine ok_dup (kd_m11_seekSets.at 53 rfl) rfl ?_
          refine ok_getI (kd_m11_seekSets.at 54 rfl) kf11_315 sh_14 rfl ?_
          refine ok_iconst (v := 1) (kd_m11_seekSets.at 55 rfl) (by decide) ?_
          refine ok_iadd (kd_m11_seekSets.at 56 rfl) ?_
          refine ok_putI (kd_m11_seekSets.at 57 rfl) kf11_315 sh_14 rfl rfl ?_
          refine ok_nS (fun S16 hS16 => ?_)
          refine ok_aload_n 0 (kd_m11_seekSets.at 58 rfl) rfl rfl ?_
          refine ok_dup (kd_m11_seekSets.at 59 rfl) rfl ?_
          refine ok_getI (kd_m11_seekSets.at 60 rfl) kf11_318 sh_14 rfl ?_
          refine ok_iload_n 3 (kd_m11_seekSets.at 61 rfl) rfl rfl ?_
          refine ok_ior (kd_m11_seekSets.at 62 rfl) ?_
          refine ok_putI (kd_m11_seekSets.at 63 rfl) kf11_318 sh_14 rfl rfl ?_
          refine ok_nS (fun S17 hS17 => ?_)
          refine ok_aload_n 0 (kd_m11_seekSets.at 64 rfl) rfl rfl ?_
          refine ok_dup (kd_m11_seekSets.at 65 rfl) rfl ?_
          refine ok_getI (kd_m11_seekSets.at 66 rfl) kf11_321 sh_14 rfl ?_
          refine ok_iload_n 3 (kd_m11_seekSets.at 67 rfl) rfl rfl ?_
          refine ok_iand (kd_m11_seekSets.at 68 rfl) ?_
          refine ok_putI (kd_m11_seekSets.at 69 rfl) kf11_321 sh_14 rfl rfl ?_
          refine ok_nS (fun S18 hS18 => ?_)
          refine ok_iconst (v := 0) (kd_m11_seekSets.at 70 rfl) (by decide) ?_
          refine ok_istore (lv' := [(4, .int 0), (0, .ref 14), (1, .int c1), (2, .int x14), (3, .int v3)]) (kd_m11_seekSets.at 71 rfl) (by decide) rfl ?_
          refine ok_sub (lv' := [(0, .ref 14), (1, .int c1), (2, .int x14), (3, .int v3), (4, .int 0)]) [1, 2, 3, 4, 0] rfl ?_
          refine ok_m11_seekSets_L116 c1 x14 v3 _ (fun S22 => ?_) kFU 0 S18
          exact K149 x14 S22
        clear hj83
        refine ok_icmp_ne (tgt := 83) (kd_m11_seekSets.at 49 rfl) (by decide) (fun h23 => ?_) (fun h23 => ?_)
        · exact K83 v2 q9.2
        · refine ok_iload_n 3 (kd_m11_seekSets.at 50 rfl) rfl rfl ?_
          refine ok_istore_n (lv' := [(2, .int v3), (0, .ref 14), (1, .int c1), (3, .int v3)]) (kd_m11_seekSets.at 51 rfl) rfl (by decide) rfl ?_
          refine ok_sub (lv' := [(0, .ref 14), (1, .int c1), (2, .int v3), (3, .int v3)]) [1, 2, 0, 3] rfl ?_
          exact K83 v3 q9.2
      · refine ok_goto (tgt := 149) (kd_m11_seekSets.at 45 rfl) (by decide) ?_
        exact K149 v2 q9.2
def f_m11_seekSets (a1 : Int32) (S : kSt) : Option (Int32 × kSt) :=
  knx (kuI S 14 31 0) fun S1 =>
  knx (kuI S1 14 32 0) fun S2 =>
  knx (kuI S2 14 33 ((1 <<< ((S2.1 57 5) &&& 31)) - 1)) fun S3 =>
  f_m11_seekSets_L28 
    (fun  (S7 : kSt) =>
      f_m11_seekSets_L48 
        (fun (x24 : Int32) (S25 : kSt) =>
          if (S25.1 14 31) = 0 then
            knx (kuI S25 14 33 0) fun S27 =>
            some (x24, S27)
          else
            some (x24, S25)
        )
        a1 kFU (-1) 0 S7
    )
    a1 (-1) kFU 0 S3
theorem ok_m11_seekSets {l : Launch} {G : kG} {E : kE} (a1 : Int32)  (S : kSt) : kFn l G E E kjI m11_seekSets 6 [.ref 14, .int a1] S (f_m11_seekSets a1 S) := by
  unfold f_m11_seekSets
  refine kFn_of (by decide +kernel) (fun hG => Nat.le_of_ble_eq_true rfl) ?_
  show kOk _ _ _ _ _ _ _ _ [(0, .ref 14), (1, .int a1)] _ _
  refine ok_iconst (v := (-1)) (kd_m11_seekSets.at 0 rfl) (by decide) ?_
  refine ok_istore_n (lv' := [(2, .int (-1)), (0, .ref 14), (1, .int a1)]) (kd_m11_seekSets.at 1 rfl) rfl (by decide) rfl ?_
  refine ok_aload_n 1 (kd_m11_seekSets.at 2 rfl) rfl rfl ?_
  refine ok_iconst (v := 0) (kd_m11_seekSets.at 3 rfl) (by decide) ?_
  refine ok_putI (kd_m11_seekSets.at 4 rfl) kf11_315 sh_14 rfl rfl ?_
  refine ok_nS (fun S1 hS1 => ?_)
  refine ok_aload_n 1 (kd_m11_seekSets.at 5 rfl) rfl rfl ?_
  refine ok_iconst (v := 0) (kd_m11_seekSets.at 6 rfl) (by decide) ?_
  refine ok_putI (kd_m11_seekSets.at 7 rfl) kf11_318 sh_14 rfl rfl ?_
  refine ok_nS (fun S2 hS2 => ?_)
  refine ok_aload_n 1 (kd_m11_seekSets.at 8 rfl) rfl rfl ?_
  refine ok_iconst (v := 1) (kd_m11_seekSets.at 9 rfl) (by decide) ?_
  refine ok_aload_n 1 (kd_m11_seekSets.at 10 rfl) rfl rfl ?_
  refine ok_getR (kd_m11_seekSets.at 11 rfl) kf11_20 sh_14 rfl (kr_14_15 _) ?_
  refine ok_iconst (v := 5) (kd_m11_seekSets.at 12 rfl) (by decide) ?_
  refine ok_ialdK (j := 5) (kd_m11_seekSets.at 13 rfl) sh_57 (by decide) (by decide) ?_
  refine ok_ishl (kd_m11_seekSets.at 14 rfl) ?_
  refine ok_iconst (v := 1) (kd_m11_seekSets.at 15 rfl) (by decide) ?_
  refine ok_isub (kd_m11_seekSets.at 16 rfl) ?_
  refine ok_putI (kd_m11_seekSets.at 17 rfl) kf11_321 sh_14 rfl rfl ?_
  refine ok_nS (fun S3 hS3 => ?_)
  refine ok_iconst (v := 0) (kd_m11_seekSets.at 18 rfl) (by decide) ?_
  refine ok_istore_n (lv' := [(3, .int 0), (2, .int (-1)), (0, .ref 14), (1, .int a1)]) (kd_m11_seekSets.at 19 rfl) rfl (by decide) rfl ?_
  refine ok_sub (lv' := [(0, .ref 14), (1, .int a1), (2, .int (-1)), (3, .int 0)]) [2, 3, 1, 0] rfl ?_
  refine ok_m11_seekSets_L28 a1 (-1) _ (fun S7 => ?_) kFU 0 S3
  refine ok_iconst (v := 0) (kd_m11_seekSets.at 30 rfl) (by decide) ?_
  refine ok_istore_n (lv' := [(3, .int 0), (0, .ref 14), (1, .int a1), (2, .int (-1))]) (kd_m11_seekSets.at 31 rfl) rfl (by decide) rfl ?_
  refine ok_sub (lv' := [(0, .ref 14), (1, .int a1), (2, .int (-1)), (3, .int 0)]) [1, 2, 3, 0] rfl ?_
  refine ok_m11_seekSets_L48 a1 _ (fun x24 S25 => ?_) kFU (-1) 0 S7
  refine ok_aload_n 0 (kd_m11_seekSets.at 94 rfl) rfl rfl ?_
  refine ok_getI (kd_m11_seekSets.at 95 rfl) kf11_315 sh_14 rfl ?_
  refine ok_if_ne (tgt := 167) (kd_m11_seekSets.at 96 rfl) (by decide) (fun h26 => ?_) (fun h26 => ?_)
  · refine ok_iload_n 1 (kd_m11_seekSets.at 100 rfl) rfl rfl ?_
    exact ok_ireturn (kd_m11_seekSets.at 101 rfl) rfl
  · refine ok_aload_n 0 (kd_m11_seekSets.at 97 rfl) rfl rfl ?_
    refine ok_iconst (v := 0) (kd_m11_seekSets.at 98 rfl) (by decide) ?_
    refine ok_putI (kd_m11_seekSets.at 99 rfl) kf11_321 sh_14 rfl rfl ?_
    refine ok_nS (fun S27 hS27 => ?_)
    refine ok_iload_n 1 (kd_m11_seekSets.at 100 rfl) rfl rfl ?_
    exact ok_ireturn (kd_m11_seekSets.at 101 rfl) rfl
