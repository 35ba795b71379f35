def f_m11_fits  (S : kSt) : Option (Int32 × kSt) :=
  (f_m11_good  S).bind fun q1 =>
  kgb (q1.1 14 14) fun b2 =>
  if b2 then
    (f_m11_seekSets (-1) q1).bind fun q4 =>
    some (q4.2.1 14 31, q4.2)
  else
    (f_m11_no 1 q1).bind fun q5 =>
    some (q5.1, q5.2)
theorem ok_m11_fits {l : Launch} {G : kG} {E : kE}   (S : kSt) : kFn l G E E kjI m11_fits 7 [.ref 14] S (f_m11_fits  S) := by
  unfold f_m11_fits
  refine kFn_of (by decide +kernel) (fun hG => Nat.le_of_ble_eq_true rfl) ?_
  show kOk _ _ _ _ _ _ _ _ [(0, .ref 14)] _ _
  refine ok_aload_n 0 (kd_m11_fits.at 0 rfl) rfl rfl ?_
  refine ok_callVV (M' := m11_good) (as := []) (st := []) (kd_m11_fits.at 1 rfl) kc11_164 sh_14 rfl rfl (by decide) (ok_m11_good  S) (kfit_of (by decide)) rfl (Nat.le_of_ble_eq_true rfl) (fun q1 hq1 => ?_)
  refine ok_aload_n 0 (kd_m11_fits.at 2 rfl) rfl rfl ?_
  refine ok_getZ (kd_m11_fits.at 3 rfl) kf11_177 sh_14 rfl (fun b2 => ?_)
  refine ok_ifb_ne (tgt := 17) (kd_m11_fits.at 4 rfl) (by decide) (fun h3 => ?_) (fun h3 => ?_)
  · refine ok_aload_n 0 (kd_m11_fits.at 9 rfl) rfl rfl ?_
    refine ok_iconst (v := (-1)) (kd_m11_fits.at 10 rfl) (by decide) ?_
    refine ok_callVI (M' := m11_seekSets) (as := [.int (-1)]) (st := []) (kd_m11_fits.at 11 rfl) kc11_327 sh_14 rfl rfl (by decide) (ok_m11_seekSets (-1) q1) (kfit_of (by decide)) rfl (Nat.le_of_ble_eq_true rfl) (fun q4 hq4 => ?_)
    refine ok_pop (kd_m11_fits.at 12 rfl) rfl ?_
    refine ok_aload_n 0 (kd_m11_fits.at 13 rfl) rfl rfl ?_
    refine ok_getI (kd_m11_fits.at 14 rfl) kf11_315 sh_14 rfl ?_
    exact ok_ireturn (kd_m11_fits.at 15 rfl) rfl
  · refine ok_aload_n 0 (kd_m11_fits.at 5 rfl) rfl rfl ?_
    refine ok_iconst (v := 1) (kd_m11_fits.at 6 rfl) (by decide) ?_
    refine ok_callVI (M' := m11_no) (as := [.int 1]) (st := []) (kd_m11_fits.at 7 rfl) kc11_167 sh_14 rfl rfl (by decide) (ok_m11_no 1 q1) (kfit_of (by decide)) rfl (Nat.le_of_ble_eq_true rfl) (fun q5 hq5 => ?_)
    exact ok_ireturn (kd_m11_fits.at 8 rfl) rfl
def f_m11_fitAt (a1 : Int32) (S : kSt) : Option (Int32 × kSt) :=
  (f_m11_good  S).bind fun q1 =>
  kgb (q1.1 14 14) fun b2 =>
  knx (fun  (S3 : kSt) =>
    (f_m11_no 1 S3).bind fun q4 =>
    some (q4.1, q4.2)
    ) fun j15 =>
  if b2 then
    if 0 ≤ a1 then
      (f_m11_seekSets a1 q1).bind fun q7 =>
      if 0 ≤ q7.1 then
        some (q7.1, q7.2)
      else
        (f_m11_no 1 q7.2).bind fun q9 =>
        some (q9.1, q9.2)
    else
      j15  q1
  else
    j15  q1
theorem ok_m11_fitAt {l : Launch} {G : kG} {E : kE} (a1 : Int32)  (S : kSt) : kFn l G E E kjI m11_fitAt 7 [.ref 14, .int a1] S (f_m11_fitAt a1 S) := by
  unfold f_m11_fitAt
  refine kFn_of (by decide +kernel) (fun hG => Nat.le_of_ble_eq_true rfl) ?_
  show kOk _ _ _ _ _ _ _ _ [(0, .ref 14), (1, .int a1)] _ _
  refine ok_aload_n 0 (kd_m11_fitAt.at 0 rfl) rfl rfl ?_
  refine ok_callVV (M' := m11_good) (as := []) (st := []) (kd_m11_fitAt.at 1 rfl) kc11_164 sh_14 rfl rfl (by decide) (ok_m11_good  S) (kfit_of (by decide)) rfl (Nat.le_of_ble_eq_true rfl) (fun q1 hq1 => ?_)
  refine ok_aload_n 0 (kd_m11_fitAt.at 2 rfl) rfl rfl ?_
  refine ok_getZ (kd_m11_fitAt.at 3 rfl) kf11_177 sh_14 rfl (fun b2 => ?_)
  refine ok_nx (fun j15 hj15 => ?_)
  have K15 : ∀  (S3 : kSt), kOk l G E (kZ G E kjI) m11_fitAt (kdp (7)) (j15  S3) 15 [(0, .ref 14)] [] S3 := by
    subst hj15
    intro  S3
    refine ok_aload_n 0 (kd_m11_fitAt.at 7 rfl) rfl rfl ?_
    refine ok_iconst (v := 1) (kd_m11_fitAt.at 8 rfl) (by decide) ?_
    refine ok_callVI (M' := m11_no) (as := [.int 1]) (st := []) (kd_m11_fitAt.at 9 rfl) kc11_167 sh_14 rfl rfl (by decide) (ok_m11_no 1 S3) (kfit_of (by decide)) rfl (Nat.le_of_ble_eq_true rfl) (fun q4 hq4 => ?_)
    exact ok_ireturn (kd_m11_fitAt.at 10 rfl) rfl
  clear hj15
  refine ok_ifb_eq (tgt := 15) (kd_m11_fitAt.at 4 rfl) (by decide) (fun h5 => ?_) (fun h5 => ?_)
  · refine ok_sub (lv' := [(0, .ref 14)]) [0] rfl ?_
    exact K15  q1
  · refine ok_iload_n 1 (kd_m11_fitAt.at 5 rfl) rfl rfl ?_
    refine ok_if_ge (tgt := 21) (kd_m11_fitAt.at 6 rfl) (by decide) (fun h6 => ?_) (fun h6 => ?_)
    · refine ok_aload_n 0 (kd_m11_fitAt.at 11 rfl) rfl rfl ?_
      refine ok_iload_n 1 (kd_m11_fitAt.at 12 rfl) rfl rfl ?_
      refine ok_callVI (M' := m11_seekSets) (as := [.int a1]) (st := []) (kd_m11_fitAt.at 13 rfl) kc11_327 sh_14 rfl rfl (by decide) (ok_m11_seekSets a1 q1) (kfit_of (by decide)) rfl (Nat.le_of_ble_eq_true rfl) (fun q7 hq7 => ?_)
      refine ok_istore_n (lv' := [(2, .int q7.1), (0, .ref 14), (1, .int a1)]) (kd_m11_fitAt.at 14 rfl) rfl (by decide) rfl ?_
      refine ok_iload_n 0 (kd_m11_fitAt.at 15 rfl) rfl rfl ?_
      refine ok_if_ge (tgt := 39) (kd_m11_fitAt.at 16 rfl) (by decide) (fun h8 => ?_) (fun h8 => ?_)
      · refine ok_iload_n 0 (kd_m11_fitAt.at 21 rfl) rfl rfl ?_
        exact ok_ireturn (kd_m11_fitAt.at 22 rfl) rfl
      · refine ok_aload_n 1 (kd_m11_fitAt.at 17 rfl) rfl rfl ?_
        refine ok_iconst (v := 1) (kd_m11_fitAt.at 18 rfl) (by decide) ?_
        refine ok_callVI (M' := m11_no) (as := [.int 1]) (st := []) (kd_m11_fitAt.at 19 rfl) kc11_167 sh_14 rfl rfl (by decide) (ok_m11_no 1 q7.2) (kfit_of (by decide)) rfl (Nat.le_of_ble_eq_true rfl) (fun q9 hq9 => ?_)
        refine ok_goto (tgt := 40) (kd_m11_fitAt.at 20 rfl) (by decide) ?_
        exact ok_ireturn (kd_m11_fitAt.at 22 rfl) rfl
    · refine ok_sub (lv' := [(0, .ref 14)]) [0] rfl ?_
      exact K15  q1
def f_m11_could  (S : kSt) : Option (Int32 × kSt) :=
  (f_m11_good  S).bind fun q1 =>
  kgb (q1.1 14 14) fun b2 =>
  if b2 then
    (f_m11_seekSets (-1) q1).bind fun q4 =>
    some (q4.2.1 14 32, q4.2)
  else
    (f_m11_no 1 q1).bind fun q5 =>
    some (q5.1, q5.2)
theorem ok_m11_could {l : Launch} {G : kG} {E : kE}   (S : kSt) : kFn l G E E kjI m11_could 7 [.ref 14] S (f_m11_could  S) := by
  unfold f_m11_could
  refine kFn_of (by decide +kernel) (fun hG => Nat.le_of_ble_eq_true rfl) ?_
  show kOk _ _ _ _ _ _ _ _ [(0, .ref 14)] _ _
  refine ok_aload_n 0 (kd_m11_could.at 0 rfl) rfl rfl ?_
  refine ok_callVV (M' := m11_good) (as := []) (st := []) (kd_m11_could.at 1 rfl) kc11_164 sh_14 rfl rfl (by decide) (ok_m11_good  S) (kfit_of (by decide)) rfl (Nat.le_of_ble_eq_true rfl) (fun q1 hq1 => ?_)
  refine ok_aload_n 0 (kd_m11_could.at 2 rfl) rfl rfl ?_
  refine ok_getZ (kd_m11_could.at 3 rfl) kf11_177 sh_14 rfl (fun b2 => ?_)
  refine ok_ifb_ne (tgt := 17) (kd_m11_could.at 4 rfl) (by decide) (fun h3 => ?_) (fun h3 => ?_)
  · refine ok_aload_n 0 (kd_m11_could.at 9 rfl) rfl rfl ?_
    refine ok_iconst (v := (-1)) (kd_m11_could.at 10 rfl) (by decide) ?_
    refine ok_callVI (M' := m11_seekSets) (as := [.int (-1)]) (st := []) (kd_m11_could.at 11 rfl) kc11_327 sh_14 rfl rfl (by decide) (ok_m11_seekSets (-1) q1) (kfit_of (by decide)) rfl (Nat.le_of_ble_eq_true rfl) (fun q4 hq4 => ?_)
    refine ok_pop (kd_m11_could.at 12 rfl) rfl ?_
    refine ok_aload_n 0 (kd_m11_could.at 13 rfl) rfl rfl ?_
    refine ok_getI (kd_m11_could.at 14 rfl) kf11_318 sh_14 rfl ?_
    exact ok_ireturn (kd_m11_could.at 15 rfl) rfl
  · refine ok_aload_n 0 (kd_m11_could.at 5 rfl) rfl rfl ?_
    refine ok_iconst (v := 1) (kd_m11_could.at 6 rfl) (by decide) ?_
    refine ok_callVI (M' := m11_no) (as := [.int 1]) (st := []) (kd_m11_could.at 7 rfl) kc11_167 sh_14 rfl rfl (by decide) (ok_m11_no 1 q1) (kfit_of (by decide)) rfl (Nat.le_of_ble_eq_true rfl) (fun q5 hq5 => ?_)
    exact ok_ireturn (kd_m11_could.at 8 rfl) rfl
def f_m11_surely  (S : kSt) : Option (Int32 × kSt) :=
  (f_m11_good  S).bind fun q1 =>
  kgb (q1.1 14 14) fun b2 =>
  if b2 then
    (f_m11_seekSets (-1) q1).bind fun q4 =>
    some (q4.2.1 14 33, q4.2)
  else
    (f_m11_no 1 q1).bind fun q5 =>
    some (q5.1, q5.2)
theorem ok_m11_surely {l : Launch} {G : kG} {E : kE}   (S : kSt) : kFn l G E E kjI m11_surely 7 [.ref 14] S (f_m11_surely  S) := by
  unfold f_m11_surely
  refine kFn_of (by decide +kernel) (fun hG => Nat.le_of_ble_eq_true rfl) ?_
  show kOk _ _ _ _ _ _ _ _ [(0, .ref 14)] _ _
  refine ok_aload_n 0 (kd_m11_surely.at 0 rfl) rfl rfl ?_
  refine ok_callVV (M' := m11_good) (as := []) (st := []) (kd_m11_surely.at 1 rfl) kc11_164 sh_14 rfl rfl (by decide) (ok_m11_good  S) (kfit_of (by decide)) rfl (Nat.le_of_ble_eq_true rfl) (fun q1 hq1 => ?_)
  refine ok_aload_n 0 (kd_m11_surely.at 2 rfl) rfl rfl ?_
  refine ok_getZ (kd_m11_surely.at 3 rfl) kf11_177 sh_14 rfl (fun b2 => ?_)
  refine ok_ifb_ne (tgt := 17) (kd_m11_surely.at 4 rfl) (by decide) (fun h3 => ?_) (fun h3 => ?_)
  · refine ok_aload_n 0 (kd_m11_surely.at 9 rfl) rfl rfl ?_
    refine ok_iconst (v := (-1)) (kd_m11_surely.at 10 rfl) (by decide) ?_
    refine ok_callVI (M' := m11_seekSets) (as := [.int (-1)]) (st := []) (kd_m11_surely.at 11 rfl) kc11_327 sh_14 rfl rfl (by decide) (ok_m11_seekSets (-1) q1) (kfit_of (by decide)) rfl (Nat.le_of_ble_eq_true rfl) (fun q4 hq4 => ?_)
    refine ok_pop (kd_m11_surely.at 12 rfl) rfl ?_
    refine ok_aload_n 0 (kd_m11_surely.at 13 rfl) rfl rfl ?_
    refine ok_getI (kd_m11_surely.at 14 rfl) kf11_321 sh_14 rfl ?_
    exact ok_ireturn (kd_m11_surely.at 15 rfl) rfl
  · refine ok_aload_n 0 (kd_m11_surely.at 5 rfl) rfl rfl ?_
    refine ok_iconst (v := 1) (kd_m11_surely.at 6 rfl) (by decide) ?_
    refine ok_callVI (M' := m11_no) (as := [.int 1]) (st := []) (kd_m11_surely.at 7 rfl) kc11_167 sh_14 rfl rfl (by decide) (ok_m11_no 1 q1) (kfit_of (by decide)) rfl (Nat.le_of_ble_eq_true rfl) (fun q5 hq5 => ?_)
    exact ok_ireturn (kd_m11_surely.at 8 rfl) rfl
def f_m11_leavesOf (a1 : Int32) (S : kSt) : Option (Int32 × kSt) :=
  kgi a1 4 (
    kgi a1 4 (
      if (S.1 66 a1.toNatClampNeg) ≤ ((S.1 14 31) - (S.1 66 a1.toNatClampNeg)) then
        kgi a1 4 (
          some ((S.1 14 31) - (S.1 66 a1.toNatClampNeg), S)
        )
      else
        kgi a1 4 (
          some (S.1 66 a1.toNatClampNeg, S)
        )
    )
  )
theorem ok_m11_leavesOf {l : Launch} {G : kG} {E : kE} (a1 : Int32)  (S : kSt) : kFn l G E E kjI m11_leavesOf 1 [.ref 14, .int a1] S (f_m11_leavesOf a1 S) := by
  unfold f_m11_leavesOf
  refine kFn_of (by decide +kernel) (fun hG => Nat.le_of_ble_eq_true rfl) ?_
  show kOk _ _ _ _ _ _ _ _ [(0, .ref 14), (1, .int a1)] _ _
  refine ok_aload_n 0 (kd_m11_leavesOf.at 0 rfl) rfl rfl ?_
  refine ok_getR (kd_m11_leavesOf.at 1 rfl) kf11_47 sh_14 rfl (kr_14_30 _) ?_
  refine ok_iload_n 1 (kd_m11_leavesOf.at 2 rfl) rfl rfl ?_
  refine ok_iald (kd_m11_leavesOf.at 3 rfl) sh_66 ?_
  refine ok_aload_n 0 (kd_m11_leavesOf.at 4 rfl) rfl rfl ?_
  refine ok_getI (kd_m11_leavesOf.at 5 rfl) kf11_315 sh_14 rfl ?_
  refine ok_aload_n 0 (kd_m11_leavesOf.at 6 rfl) rfl rfl ?_
  refine ok_getR (kd_m11_leavesOf.at 7 rfl) kf11_47 sh_14 rfl (kr_14_30 _) ?_
  refine ok_iload_n 1 (kd_m11_leavesOf.at 8 rfl) rfl rfl ?_
  refine ok_iald (kd_m11_leavesOf.at 9 rfl) sh_66 ?_
  refine ok_isub (kd_m11_leavesOf.at 10 rfl) ?_
  refine ok_icmp_le (tgt := 29) (kd_m11_leavesOf.at 11 rfl) (by decide) (fun h1 => ?_) (fun h1 => ?_)
  · refine ok_aload_n 0 (kd_m11_leavesOf.at 17 rfl) rfl rfl ?_
    refine ok_getI (kd_m11_leavesOf.at 18 rfl) kf11_315 sh_14 rfl ?_
    refine ok_aload_n 0 (kd_m11_leavesOf.at 19 rfl) rfl rfl ?_
    refine ok_getR (kd_m11_leavesOf.at 20 rfl) kf11_47 sh_14 rfl (kr_14_30 _) ?_
    refine ok_iload_n 1 (kd_m11_leavesOf.at 21 rfl) rfl rfl ?_
    refine ok_iald (kd_m11_leavesOf.at 22 rfl) sh_66 ?_
    refine ok_isub (kd_m11_leavesOf.at 23 rfl) ?_
    exact ok_ireturn (kd_m11_leavesOf.at 24 rfl) rfl
  · refine ok_aload_n 0 (kd_m11_leavesOf.at 12 rfl) rfl rfl ?_
    refine ok_getR (kd_m11_leavesOf.at 13 rfl) kf11_47 sh_14 rfl (kr_14_30 _) ?_
    refine ok_iload_n 1 (kd_m11_leavesOf.at 14 rfl) rfl rfl ?_
    refine ok_iald (kd_m11_leavesOf.at 15 rfl) sh_66 ?_
    refine ok_goto (tgt := 40) (kd_m11_leavesOf.at 16 rfl) (by decide) ?_
    exact ok_ireturn (kd_m11_leavesOf.at 24 rfl) rfl
def f_m11_askOf_L11   (k53 : Int32 → kSt → Option (Int32 × kSt))  : Nat → Int32 → Int32 → kSt → Option (Int32 × kSt)
  | 0, _, _, _ => none
  | n + 1, v1, v2, S =>
    if (S.1 57 5) ≤ v2 then
      k53 v1 S
    else
      if (S.1 14 31) ≤ 0 then
        k53 v1 S
      else
        knx (fun (x4 : Int32) (S5 : kSt) =>
          knx (v2 + 1) fun x6 =>
          f_m11_askOf_L11 k53 n x4 x6 S5
          ) fun j47 =>
        knx (fun  (S7 : kSt) =>
          j47 v2 S7
          ) fun j45 =>
        if v1 < 0 then
          j45  S
        else
          (f_m11_leavesOf v2 S).bind fun q9 =>
          (f_m11_leavesOf v1 q9.2).bind fun q10 =>
          if q10.1 ≤ q9.1 then
            j47 v1 q10.2
          else
            j45  q10.2
theorem ok_m11_askOf_L11 {l : Launch} {G : kG} {E : kE}     (k53 : Int32 → kSt → Option (Int32 × kSt)) (hk53 : ∀ (v1 : Int32) (S : kSt), kOk l G E (kZ G E kjI) m11_askOf (kdp (7)) (k53 v1 S) 53 [(1, .int v1)] [] S) : ∀ (n : Nat) (v1 : Int32) (v2 : Int32) (S : kSt), kOk l G E (kZ G E kjI) m11_askOf (kdp (7)) (f_m11_askOf_L11 k53 n v1 v2 S) 11 [(0, .ref 14), (1, .int v1), (2, .int v2)] [] S := by
  intro n
  induction n with
  | zero => intro v1 v2 S; exact ok_none
  | succ n ih =>
    intro v1 v2 S
    rw [f_m11_askOf_L11]
    refine ok_iload_n 2 (kd_m11_askOf.at 8 rfl) rfl rfl ?_
    refine ok_aload_n 0 (kd_m11_askOf.at 9 rfl) rfl rfl ?_
    refine ok_getR (kd_m11_askOf.at 10 rfl) kf11_20 sh_14 rfl (kr_14_15 _) ?_
    refine ok_iconst (v := 5) (kd_m11_askOf.at 11 rfl) (by decide) ?_
    refine ok_ialdK (j := 5) (kd_m11_askOf.at 12 rfl) sh_57 (by decide) (by decide) ?_
    refine ok_icmp_ge (tgt := 53) (kd_m11_askOf.at 13 rfl) (by decide) (fun h2 => ?_) (fun h2 => ?_)
    · refine ok_sub (lv' := [(1, .int v1)]) [1] rfl ?_
      exact hk53 v1 S
    · refine ok_aload_n 0 (kd_m11_askOf.at 14 rfl) rfl rfl ?_
      refine ok_getI (kd_m11_askOf.at 15 rfl) kf11_315 sh_14 rfl ?_
      refine ok_if_le (tgt := 53) (kd_m11_askOf.at 16 rfl) (by decide) (fun h3 => ?_) (fun h3 => ?_)
      · refine ok_sub (lv' := [(1, .int v1)]) [1] rfl ?_
        exact hk53 v1 S
      · refine ok_iload_n 1 (kd_m11_askOf.at 17 rfl) rfl rfl ?_
        refine ok_nx (fun j47 hj47 => ?_)
        have K47 : ∀ (x4 : Int32) (S5 : kSt), kOk l G E (kZ G E kjI) m11_askOf (kdp (7)) (j47 x4 S5) 47 [(0, .ref 14), (1, .int x4), (2, .int v2)] [] S5 := by
          subst hj47
          intro x4 S5
          refine ok_nx (fun x6 hx6 => ?_)
          refine ok_iinc (v := x6) (lv' := [(2, .int x6), (0, .ref 14), (1, .int x4)]) 2 (kd_m11_askOf.at 28 rfl) rfl hx6.symm (by decide) rfl ?_
          refine ok_goto (tgt := 11) (kd_m11_askOf.at 29 rfl) (by decide) ?_
          refine ok_sub (lv' := [(0, .ref 14), (1, .int x4), (2, .int x6)]) [1, 2, 0] rfl ?_
          exact ih x4 x6 S5
        clear hj47
        refine ok_nx (fun j45 hj45 => ?_)
        have K45 : ∀  (S7 : kSt), kOk l G E (kZ G E kjI) m11_askOf (kdp (7)) (j45  S7) 45 [(0, .ref 14), (2, .int v2)] [] S7 := by
          subst hj45
          intro  S7
          refine ok_iload_n 1 (kd_m11_askOf.at 26 rfl) rfl rfl ?_
          refine ok_istore_n (lv' := [(1, .int v2), (0, .ref 14), (2, .int v2)]) (kd_m11_askOf.at 27 rfl) rfl (by decide) rfl ?_
          refine ok_sub (lv' := [(0, .ref 14), (1, .int v2), (2, .int v2)]) [1, 0, 2] rfl ?_
          exact K47 v2 S7
        clear hj45
        refine ok_if_lt (tgt := 45) (kd_m11_askOf.at 18 rfl) (by decide) (fun h8 => ?_) (fun h8 => ?_)
        · refine ok_sub (lv' := [(0, .ref 14), (2, .int v2)]) [0, 2] rfl ?_
          exact K45  S
        · refine ok_aload_n 0 (kd_m11_askOf.at 19 rfl) rfl rfl ?_
          refine ok_iload_n 2 (kd_m11_askOf.at 20 rfl) rfl rfl ?_
          refine ok_callVI (M' := m11_leavesOf) (as := [.int v2]) (st := []) (kd_m11_askOf.at 21 rfl) kc11_330 sh_14 rfl rfl (by decide) (ok_m11_leavesOf v2 S) (kfit_of (by decide)) rfl (Nat.le_of_ble_eq_true rfl) (fun q9 hq9 => ?_)
          refine ok_aload_n 0 (kd_m11_askOf.at 22 rfl) rfl rfl ?_
          refine ok_iload_n 1 (kd_m11_askOf.at 23 rfl) rfl rfl ?_
          refine ok_callVI (M' := m11_leavesOf) (as := [.int v1]) (st := [.int q9.1]) (kd_m11_askOf.at 24 rfl) kc11_330 sh_14 rfl rfl (by decide) (ok_m11_leavesOf v1 q9.2) (kfit_of (by decide)) rfl (Nat.le_of_ble_eq_true rfl) (fun q10 hq10 => ?_)
          refine ok_icmp_ge (tgt := 47) (kd_m11_askOf.at 25 rfl) (by decide) (fun h11 => ?_) (fun h11 => ?_)
          · exact K47 v1 q10.2
          · refine ok_sub (lv' := [(0, .ref 14), (2, .int v2)]) [0, 2] rfl ?_
            exact K45  q10.2
def f_m11_askOf  (S : kSt) : Option (Int32 × kSt) :=
  (f_m11_seekSets (-1) S).bind fun q1 =>
  f_m11_askOf_L11 
    (fun (x12 : Int32) (S13 : kSt) =>
      some (x12, S13)
    )
    kFU (-2) 0 q1.2
theorem ok_m11_askOf {l : Launch} {G : kG} {E : kE}   (S : kSt) : kFn l G E E kjI m11_askOf 7 [.ref 14] S (f_m11_askOf  S) := by
  unfold f_m11_askOf
  refine kFn_of (by decide +kernel) (fun hG => Nat.le_of_ble_eq_true rfl) ?_
  show kOk _ _ _ _ _ _ _ _ [(0, .ref 14)] _ _
  refine ok_aload_n 0 (kd_m11_askOf.at 0 rfl) rfl rfl ?_
  refine ok_iconst (v := (-1)) (kd_m11_askOf.at 1 rfl) (by decide) ?_
  refine ok_callVI (M' := m11_seekSets) (as := [.int (-1)]) (st := []) (kd_m11_askOf.at 2 rfl) kc11_327 sh_14 rfl rfl (by decide) (ok_m11_seekSets (-1) S) (kfit_of (by decide)) rfl (Nat.le_of_ble_eq_true rfl) (fun q1 hq1 => ?_)
  refine ok_pop (kd_m11_askOf.at 3 rfl) rfl ?_
  refine ok_bipush (v := (-2)) (kd_m11_askOf.at 4 rfl) (by decide) ?_
  refine ok_istore_n (lv' := [(1, .int (-2)), (0, .ref 14)]) (kd_m11_askOf.at 5 rfl) rfl (by decide) rfl ?_
  refine ok_iconst (v := 0) (kd_m11_askOf.at 6 rfl) (by decide) ?_
  refine ok_istore_n (lv' := [(2, .int 0), (1, .int (-2)), (0, .ref 14)]) (kd_m11_askOf.at 7 rfl) rfl (by decide) rfl ?_
  refine ok_sub (lv' := [(0, .ref 14), (1, .int (-2)), (2, .int 0)]) [2, 1, 0] rfl ?_
  refine ok_m11_askOf_L11 _ (fun x12 S13 => ?_) kFU (-2) 0 q1.2
  refine ok_iload_n 0 (kd_m11_askOf.at 30 rfl) rfl rfl ?_
  exact ok_ireturn (kd_m11_askOf.at 31 rfl) rfl
def f_m11_ask  (S : kSt) : Option (Int32 × kSt) :=
  (f_m11_good  S).bind fun q1 =>
  kgb (q1.1 14 14) fun b2 =>
  if b2 then
    (f_m11_askOf  q1).bind fun q5 =>
    some (q5.1, q5.2)
  else
    (f_m11_no 1 q1).bind fun q4 =>
    some (q4.1, q4.2)
theorem ok_m11_ask {l : Launch} {G : kG} {E : kE}   (S : kSt) : kFn l G E E kjI m11_ask 8 [.ref 14] S (f_m11_ask  S) := by
  unfold f_m11_ask
  refine kFn_of (by decide +kernel) (fun hG => Nat.le_of_ble_eq_true rfl) ?_
  show kOk _ _ _ _ _ _ _ _ [(0, .ref 14)] _ _
  refine ok_aload_n 0 (kd_m11_ask.at 0 rfl) rfl rfl ?_
  refine ok_callVV (M' := m11_good) (as := []) (st := []) (kd_m11_ask.at 1 rfl) kc11_164 sh_14 rfl rfl (by decide) (ok_m11_good  S) (kfit_of (by decide)) rfl (Nat.le_of_ble_eq_true rfl) (fun q1 hq1 => ?_)
  refine ok_aload_n 0 (kd_m11_ask.at 2 rfl) rfl rfl ?_
  refine ok_getZ (kd_m11_ask.at 3 rfl) kf11_177 sh_14 rfl (fun b2 => ?_)
  refine ok_ifb_eq (tgt := 18) (kd_m11_ask.at 4 rfl) (by decide) (fun h3 => ?_) (fun h3 => ?_)
  · refine ok_aload_n 0 (kd_m11_ask.at 8 rfl) rfl rfl ?_
    refine ok_iconst (v := 1) (kd_m11_ask.at 9 rfl) (by decide) ?_
    refine ok_callVI (M' := m11_no) (as := [.int 1]) (st := []) (kd_m11_ask.at 10 rfl) kc11_167 sh_14 rfl rfl (by decide) (ok_m11_no 1 q1) (kfit_of (by decide)) rfl (Nat.le_of_ble_eq_true rfl) (fun q4 hq4 => ?_)
    exact ok_ireturn (kd_m11_ask.at 11 rfl) rfl
  · refine ok_aload_n 0 (kd_m11_ask.at 5 rfl) rfl rfl ?_
    refine ok_callVI (M' := m11_askOf) (as := []) (st := []) (kd_m11_ask.at 6 rfl) kc11_333 sh_14 rfl rfl (by decide) (ok_m11_askOf  q1) (kfit_of (by decide)) rfl (Nat.le_of_ble_eq_true rfl) (fun q5 hq5 => ?_)
    refine ok_goto (tgt := 23) (kd_m11_ask.at 7 rfl) (by decide) ?_
    exact ok_ireturn (kd_m11_ask.at 11 rfl) rfl
def f_m11_askLeaves  (S : kSt) : Option (Int32 × kSt) :=
  (f_m11_good  S).bind fun q1 =>
  kgb (q1.1 14 14) fun b2 =>
  if b2 then
    (f_m11_askOf  q1).bind fun q4 =>
    if 0 ≤ q4.1 then
      (f_m11_leavesOf q4.1 q4.2).bind fun q6 =>
      some (q6.1, q6.2)
    else
      some ((-2), q4.2)
  else
    (f_m11_no 1 q1).bind fun q7 =>
    some (q7.1, q7.2)
theorem ok_m11_askLeaves {l : Launch} {G : kG} {E : kE}   (S : kSt) : kFn l G E E kjI m11_askLeaves 8 [.ref 14] S (f_m11_askLeaves  S) := by
  unfold f_m11_askLeaves
  refine kFn_of (by decide +kernel) (fun hG => Nat.le_of_ble_eq_true rfl) ?_
  show kOk _ _ _ _ _ _ _ _ [(0, .ref 14)] _ _
  refine ok_aload_n 0 (kd_m11_askLeaves.at 0 rfl) rfl rfl ?_
  refine ok_callVV (M' := m11_good) (as := []) (st := []) (kd_m11_askLeaves.at 1 rfl) kc11_164 sh_14 rfl rfl (by decide) (ok_m11_good  S) (kfit_of (by decide)) rfl (Nat.le_of_ble_eq_true rfl) (fun q1 hq1 => ?_)
  refine ok_aload_n 0 (kd_m11_askLeaves.at 2 rfl) rfl rfl ?_
  refine ok_getZ (kd_m11_askLeaves.at 3 rfl) kf11_177 sh_14 rfl (fun b2 => ?_)
  refine ok_ifb_ne (tgt := 17) (kd_m11_askLeaves.at 4 rfl) (by decide) (fun h3 => ?_) (fun h3 => ?_)
  · refine ok_aload_n 0 (kd_m11_askLeaves.at 9 rfl) rfl rfl ?_
    refine ok_callVI (M' := m11_askOf) (as := []) (st := []) (kd_m11_askLeaves.at 10 rfl) kc11_333 sh_14 rfl rfl (by decide) (ok_m11_askOf  q1) (kfit_of (by decide)) rfl (Nat.le_of_ble_eq_true rfl) (fun q4 hq4 => ?_)
    refine ok_istore_n (lv' := [(1, .int q4.1), (0, .ref 14)]) (kd_m11_askLeaves.at 11 rfl) rfl (by decide) rfl ?_
    refine ok_iload_n 0 (kd_m11_askLeaves.at 12 rfl) rfl rfl ?_
    refine ok_if_ge (tgt := 31) (kd_m11_askLeaves.at 13 rfl) (by decide) (fun h5 => ?_) (fun h5 => ?_)
    · refine ok_aload_n 1 (kd_m11_askLeaves.at 16 rfl) rfl rfl ?_
      refine ok_iload_n 0 (kd_m11_askLeaves.at 17 rfl) rfl rfl ?_
      refine ok_callVI (M' := m11_leavesOf) (as := [.int q4.1]) (st := []) (kd_m11_askLeaves.at 18 rfl) kc11_330 sh_14 rfl rfl (by decide) (ok_m11_leavesOf q4.1 q4.2) (kfit_of (by decide)) rfl (Nat.le_of_ble_eq_true rfl) (fun q6 hq6 => ?_)
      exact ok_ireturn (kd_m11_askLeaves.at 19 rfl) rfl
    · refine ok_bipush (v := (-2)) (kd_m11_askLeaves.at 14 rfl) (by decide) ?_
      refine ok_goto (tgt := 36) (kd_m11_askLeaves.at 15 rfl) (by decide) ?_
      exact ok_ireturn (kd_m11_askLeaves.at 19 rfl) rfl
  · refine ok_aload_n 0 (kd_m11_askLeaves.at 5 rfl) rfl rfl ?_
    refine ok_iconst (v := 1) (kd_m11_askLeaves.at 6 rfl) (by decide) ?_
    refine ok_callVI (M' := m11_no) (as := [.int 1]) (st := []) (kd_m11_askLeaves.at 7 rfl) kc11_167 sh_14 rfl rfl (by decide) (ok_m11_no 1 q1) (kfit_of (by decide)) rfl (Nat.le_of_ble_eq_true rfl) (fun q7 hq7 => ?_)
    exact ok_ireturn (kd_m11_askLeaves.at 8 rfl) rfl
def f_m11_judge  (S : kSt) : Option (Int32 × kSt) :=
  (f_m11_good  S).bind fun q1 =>
  kgb (q1.1 14 14) fun b2 =>
  if b2 then
    (f_m11_wrongBy 0 q1).bind fun q5 =>
    some (q5.1, q5.2)
  else
    (f_m11_no 1 q1).bind fun q4 =>
    some (q4.1, q4.2)
theorem ok_m11_judge {l : Launch} {G : kG} {E : kE}   (S : kSt) : kFn l G E E kjI m11_judge 6 [.ref 14] S (f_m11_judge  S) := by
  unfold f_m11_judge
  refine kFn_of (by decide +kernel) (fun hG => Nat.le_of_ble_eq_true rfl) ?_
  show kOk _ _ _ _ _ _ _ _ [(0, .ref 14)] _ _
  refine ok_aload_n 0 (kd_m11_judge.at 0 rfl) rfl rfl ?_
  refine ok_callVV (M' := m11_good) (as := []) (st := []) (kd_m11_judge.at 1 rfl) kc11_164 sh_14 rfl rfl (by decide) (ok_m11_good  S) (kfit_of (by decide)) rfl (Nat.le_of_ble_eq_true rfl) (fun q1 hq1 => ?_)
  refine ok_aload_n 0 (kd_m11_judge.at 2 rfl) rfl rfl ?_
  refine ok_getZ (kd_m11_judge.at 3 rfl) kf11_177 sh_14 rfl (fun b2 => ?_)
  refine ok_ifb_eq (tgt := 19) (kd_m11_judge.at 4 rfl) (by decide) (fun h3 => ?_) (fun h3 => ?_)
  · refine ok_aload_n 0 (kd_m11_judge.at 9 rfl) rfl rfl ?_
    refine ok_iconst (v := 1) (kd_m11_judge.at 10 rfl) (by decide) ?_
    refine ok_callVI (M' := m11_no) (as := [.int 1]) (st := []) (kd_m11_judge.at 11 rfl) kc11_167 sh_14 rfl rfl (by decide) (ok_m11_no 1 q1) (kfit_of (by decide)) rfl (Nat.le_of_ble_eq_true rfl) (fun q4 hq4 => ?_)
    exact ok_ireturn (kd_m11_judge.at 12 rfl) rfl
  · refine ok_aload_n 0 (kd_m11_judge.at 5 rfl) rfl rfl ?_
    refine ok_iconst (v := 0) (kd_m11_judge.at 6 rfl) (by decide) ?_
    refine ok_callVI (M' := m11_wrongBy) (as := [.int 0]) (st := []) (kd_m11_judge.at 7 rfl) kc11_324 sh_14 rfl rfl (by decide) (ok_m11_wrongBy 0 q1) (kfit_of (by decide)) rfl (Nat.le_of_ble_eq_true rfl) (fun q5 hq5 => ?_)
    refine ok_goto (tgt := 24) (kd_m11_judge.at 8 rfl) (by decide) ?_
    exact ok_ireturn (kd_m11_judge.at 12 rfl) rfl
def f_m11_third_L22   (k108 : Int32 → kSt → Option (Int32 × kSt)) (c1 : Int32) : Nat → Int32 → Int32 → kSt → Option (Int32 × kSt)
  | 0, _, _, _ => none
  | n + 1, v2, v3, S =>
    if (S.1 57 6) ≤ v3 then
      k108 v2 S
    else
      knx (26 + (3 * v3)) fun x5 =>
      kgi x5 95 (
        knx (fun (x6 : Int32) (S7 : kSt) =>
          knx (v3 + 1) fun x8 =>
          f_m11_third_L22 k108 c1 n x6 x8 S7
          ) fun j102 =>
        if (S.1 57 x5.toNatClampNeg) = c1 then
          knx ((26 + (3 * v3)) + 2) fun x10 =>
          kgi x10 95 (
            knx ((26 + (3 * v3)) + 1) fun x11 =>
            kgi x11 95 (
              (f_m11_saidThen c1 (S.1 57 x11.toNatClampNeg) 0 S).bind fun q12 =>
              knx ((S.1 57 x10.toNatClampNeg) - q12.1) fun x13 =>
              knx (if 0 ≤ x13 then x13 else -x13) fun x15 =>
              knx (v2 + x15) fun x16 =>
              j102 x16 q12.2
            )
          )
        else
          j102 v2 S
      )
theorem ok_m11_third_L22 {l : Launch} {G : kG} {E : kE}    (c1 : Int32) (k108 : Int32 → kSt → Option (Int32 × kSt)) (hk108 : ∀ (v2 : Int32) (S : kSt), kOk l G E (kZ G E kjI) m11_third (kdp (5)) (k108 v2 S) 108 [(2, .int v2)] [] S) : ∀ (n : Nat) (v2 : Int32) (v3 : Int32) (S : kSt), kOk l G E (kZ G E kjI) m11_third (kdp (5)) (f_m11_third_L22 k108 c1 n v2 v3 S) 22 [(0, .ref 14), (1, .int c1), (2, .int v2), (3, .int v3)] [] S := by
  intro n
  induction n with
  | zero => intro v2 v3 S; exact ok_none
  | succ n ih =>
    intro v2 v3 S
    rw [f_m11_third_L22]
    refine ok_iload_n 3 (kd_m11_third.at 14 rfl) rfl rfl ?_
    refine ok_aload_n 0 (kd_m11_third.at 15 rfl) rfl rfl ?_
    refine ok_getR (kd_m11_third.at 16 rfl) kf11_20 sh_14 rfl (kr_14_15 _) ?_
    refine ok_bipush (v := 6) (kd_m11_third.at 17 rfl) (by decide) ?_
    refine ok_ialdK (j := 6) (kd_m11_third.at 18 rfl) sh_57 (by decide) (by decide) ?_
    refine ok_icmp_ge (tgt := 108) (kd_m11_third.at 19 rfl) (by decide) (fun h4 => ?_) (fun h4 => ?_)
    · refine ok_sub (lv' := [(2, .int v2)]) [2] rfl ?_
      exact hk108 v2 S
    · refine ok_aload_n 0 (kd_m11_third.at 20 rfl) rfl rfl ?_
      refine ok_getR (kd_m11_third.at 21 rfl) kf11_20 sh_14 rfl (kr_14_15 _) ?_
      refine ok_bipush (v := 26) (kd_m11_third.at 22 rfl) (by decide) ?_
      refine ok_iconst (v := 3) (kd_m11_third.at 23 rfl) (by decide) ?_
      refine ok_iload_n 3 (kd_m11_third.at 24 rfl) rfl rfl ?_
      refine ok_imul (kd_m11_third.at 25 rfl) ?_
      refine ok_iadd (kd_m11_third.at 26 rfl) ?_
      refine ok_topi (fun x5 hx5 => ?_)
      refine ok_iald (kd_m11_third.at 27 rfl) sh_57 ?_
      refine ok_iload_n 1 (kd_m11_third.at 28 rfl) rfl rfl ?_
      refine ok_nx (fun j102 hj102 => ?_)
      have K102 : ∀ (x6 : Int32) (S7 : kSt), kOk l G E (kZ G E kjI) m11_third (kdp (5)) (j102 x6 S7) 102 [(0, .ref 14), (1, .int c1), (2, .int x6), (3, .int v3)] [] S7 := by
        subst hj102
        intro x6 S7
        refine ok_nx (fun x8 hx8 => ?_)
        refine ok_iinc (v := x8) (lv' := [(3, .int x8), (0, .ref 14), (1, .int c1), (2, .int x6)]) 3 (kd_m11_third.at 66 rfl) rfl hx8.symm (by decide) rfl ?_
        refine ok_goto (tgt := 22) (kd_m11_third.at 67 rfl) (by decide) ?_
        refine ok_sub (lv' := [(0, .ref 14), (1, .int c1), (2, .int x6), (3, .int x8)]) [1, 2, 3, 0] rfl ?_
        exact ih x6 x8 S7
      clear hj102
      refine ok_icmp_eq (tgt := 51) (kd_m11_third.at 29 rfl) (by decide) (fun h9 => ?_) (fun h9 => ?_)
      · refine ok_aload_n 0 (kd_m11_third.at 31 rfl) rfl rfl ?_
        refine ok_getR (kd_m11_third.at 32 rfl) kf11_20 sh_14 rfl (kr_14_15 _) ?_
        refine ok_bipush (v := 26) (kd_m11_third.at 33 rfl) (by decide) ?_
        refine ok_iconst (v := 3) (kd_m11_third.at 34 rfl) (by decide) ?_
        refine ok_iload_n 3 (kd_m11_third.at 35 rfl) rfl rfl ?_
        refine ok_imul (kd_m11_third.at 36 rfl) ?_
        refine ok_iadd (kd_m11_third.at 37 rfl) ?_
        refine ok_iconst (v := 2) (kd_m11_third.at 38 rfl) (by decide) ?_
        refine ok_iadd (kd_m11_third.at 39 rfl) ?_
        refine ok_topi (fun x10 hx10 => ?_)
        refine ok_iald (kd_m11_third.at 40 rfl) sh_57 ?_
        refine ok_aload_n 0 (kd_m11_third.at 41 rfl) rfl rfl ?_
        refine ok_iload_n 1 (kd_m11_third.at 42 rfl) rfl rfl ?_
        refine ok_aload_n 0 (kd_m11_third.at 43 rfl) rfl rfl ?_
        refine ok_getR (kd_m11_third.at 44 rfl) kf11_20 sh_14 rfl (kr_14_15 _) ?_
        refine ok_bipush (v := 26) (kd_m11_third.at 45 rfl) (by decide) ?_
        refine ok_iconst (v := 3) (kd_m11_third.at 46 rfl) (by decide) ?_
        refine ok_iload_n 3 (kd_m11_third.at 47 rfl) rfl rfl ?_
        refine ok_imul (kd_m11_third.at 48 rfl) ?_
        refine ok_iadd (kd_m11_third.at 49 rfl) ?_
        refine ok_iconst (v := 1) (kd_m11_third.at 50 rfl) (by decide) ?_
        refine ok_iadd (kd_m11_third.at 51 rfl) ?_
        refine ok_topi (fun x11 hx11 => ?_)
        refine ok_iald (kd_m11_third.at 52 rfl) sh_57 ?_
        refine ok_iconst (v := 0) (kd_m11_third.at 53 rfl) (by decide) ?_
        refine ok_callVI (M' := m11_saidThen) (as := [.int c1, .int (S.1 57 x11.toNatClampNeg), .int 0]) (st := [.int (S.1 57 x10.toNatClampNeg)]) (kd_m11_third.at 54 rfl) kc11_312 sh_14 rfl rfl (by decide) (ok_m11_saidThen c1 (S.1 57 x11.toNatClampNeg) 0 S) (kfit_of (by decide)) rfl (Nat.le_of_ble_eq_true rfl) (fun q12 hq12 => ?_)
        refine ok_isub (kd_m11_third.at 55 rfl) ?_
        refine ok_topi (fun x13 hx13 => ?_)
        refine ok_istore (lv' := [(4, .int x13), (0, .ref 14), (1, .int c1), (2, .int v2), (3, .int v3)]) (kd_m11_third.at 56 rfl) (by decide) rfl ?_
        refine ok_iload_n 3 (kd_m11_third.at 57 rfl) rfl rfl ?_
        refine ok_iload 0 (kd_m11_third.at 58 rfl) rfl ?_
        refine ok_fold (α := Int32) (pcJ := 100) (lvJ := [(4, .int x13), (0, .ref 14), (1, .int c1), (2, .int v2), (3, .int v3)]) (stJ := [.int v2]) (mk := fun v => .int v) (fun K => ?_) (fun x15 => ?_)
        · refine ok_ap ?_
          refine ok_if_ge (tgt := 98) (kd_m11_third.at 59 rfl) (by decide) (fun h14 => ?_) (fun h14 => ?_)
          · refine ok_iload 0 (kd_m11_third.at 63 rfl) rfl ?_
            exact K x13
          · refine ok_iload 0 (kd_m11_third.at 60 rfl) rfl ?_
            refine ok_ineg (kd_m11_third.at 61 rfl) ?_
            refine ok_goto (tgt := 100) (kd_m11_third.at 62 rfl) (by decide) ?_
            exact K (-x13)
        · refine ok_iadd (kd_m11_third.at 64 rfl) ?_
          refine ok_topi (fun x16 hx16 => ?_)
          refine ok_istore_n (lv' := [(2, .int x16), (4, .int x13), (0, .ref 14), (1, .int c1), (3, .int v3)]) (kd_m11_third.at 65 rfl) rfl (by decide) rfl ?_
          refine ok_sub (lv' := [(0, .ref 14), (1, .int c1), (2, .int x16), (3, .int v3)]) [2, 3, 0, 4] rfl ?_
          exact K102 x16 q12.2
      · refine ok_goto (tgt := 102) (kd_m11_third.at 30 rfl) (by decide) ?_
        exact K102 v2 S
def f_m11_third (a1 : Int32) (S : kSt) : Option (Int32 × kSt) :=
  (f_m11_good  S).bind fun q1 =>
  (f_m11_isPair a1 q1).bind fun q2 =>
  if q2.1 then
    f_m11_third_L22 
      (fun (x17 : Int32) (S18 : kSt) =>
        some (x17, S18)
      )
      a1 kFU 0 0 q2.2
  else
    (f_m11_no 1 q2.2).bind fun q19 =>
    some (q19.1, q19.2)
theorem ok_m11_third {l : Launch} {G : kG} {E : kE} (a1 : Int32)  (S : kSt) : kFn l G E E kjI m11_third 5 [.ref 14, .int a1] S (f_m11_third a1 S) := by
  unfold f_m11_third
  refine kFn_of (by decide +kernel) (fun hG => Nat.le_of_ble_eq_true rfl) ?_
  show kOk _ _ _ _ _ _ _ _ [(0, .ref 14), (1, .int a1)] _ _
  refine ok_aload_n 0 (kd_m11_third.at 0 rfl) rfl rfl ?_
  refine ok_callVV (M' := m11_good) (as := []) (st := []) (kd_m11_third.at 1 rfl) kc11_164 sh_14 rfl rfl (by decide) (ok_m11_good  S) (kfit_of (by decide)) rfl (Nat.le_of_ble_eq_true rfl) (fun q1 hq1 => ?_)
  refine ok_aload_n 0 (kd_m11_third.at 2 rfl) rfl rfl ?_
  refine ok_iload_n 1 (kd_m11_third.at 3 rfl) rfl rfl ?_
  refine ok_callVB (M' := m11_isPair) (as := [.int a1]) (st := []) (kd_m11_third.at 4 rfl) kc11_239 sh_14 rfl rfl (by decide) (ok_m11_isPair a1 q1) (kfit_of (by decide)) rfl (Nat.le_of_ble_eq_true rfl) (fun q2 hq2 => ?_)
  refine ok_ifb_ne (tgt := 18) (kd_m11_third.at 5 rfl) (by decide) (fun h3 => ?_) (fun h3 => ?_)
  · refine ok_iconst (v := 0) (kd_m11_third.at 10 rfl) (by decide) ?_
    refine ok_istore_n (lv' := [(2, .int 0), (0, .ref 14), (1, .int a1)]) (kd_m11_third.at 11 rfl) rfl (by decide) rfl ?_
    refine ok_iconst (v := 0) (kd_m11_third.at 12 rfl) (by decide) ?_
    refine ok_istore_n (lv' := [(3, .int 0), (2, .int 0), (0, .ref 14), (1, .int a1)]) (kd_m11_third.at 13 rfl) rfl (by decide) rfl ?_
    refine ok_sub (lv' := [(0, .ref 14), (1, .int a1), (2, .int 0), (3, .int 0)]) [2, 3, 1, 0] rfl ?_
    refine ok_m11_third_L22 a1 _ (fun x17 S18 => ?_) kFU 0 0 q2.2
    refine ok_iload_n 0 (kd_m11_third.at 68 rfl) rfl rfl ?_
    exact ok_ireturn (kd_m11_third.at 69 rfl) rfl
  · refine ok_aload_n 0 (kd_m11_third.at 6 rfl) rfl rfl ?_
    refine ok_iconst (v := 1) (kd_m11_third.at 7 rfl) (by decide) ?_
    refine ok_callVI (M' := m11_no) (as := [.int 1]) (st := []) (kd_m11_third.at 8 rfl) kc11_167 sh_14 rfl rfl (by decide) (ok_m11_no 1 q2.2) (kfit_of (by decide)) rfl (Nat.le_of_ble_eq_true rfl) (fun q19 hq19 => ?_)
    exact ok_ireturn (kd_m11_third.at 9 rfl) rfl
def f_m11_debtOf (a1 : Int32) (a2 : Int32) (S : kSt) : Option (Int32 × kSt) :=
  knx ((10 + (5 * a1)) + a2) fun x1 =>
  kgi x1 36 (
    some (S.1 61 x1.toNatClampNeg, S)
  )
theorem ok_m11_debtOf {l : Launch} {G : kG} {E : kE} (a1 : Int32) (a2 : Int32)  (S : kSt) : kFn l G E E kjI m11_debtOf 1 [.ref 14, .int a1, .int a2] S (f_m11_debtOf a1 a2 S) := by
  unfold f_m11_debtOf
  refine kFn_of (by decide +kernel) (fun hG => Nat.le_of_ble_eq_true rfl) ?_
  show kOk _ _ _ _ _ _ _ _ [(0, .ref 14), (1, .int a1), (2, .int a2)] _ _
  refine ok_aload_n 0 (kd_m11_debtOf.at 0 rfl) rfl rfl ?_
  refine ok_getR (kd_m11_debtOf.at 1 rfl) kf11_32 sh_14 rfl (kr_14_19 _) ?_
  refine ok_bipush (v := 10) (kd_m11_debtOf.at 2 rfl) (by decide) ?_
  refine ok_iconst (v := 5) (kd_m11_debtOf.at 3 rfl) (by decide) ?_
  refine ok_iload_n 1 (kd_m11_debtOf.at 4 rfl) rfl rfl ?_
  refine ok_imul (kd_m11_debtOf.at 5 rfl) ?_
  refine ok_iadd (kd_m11_debtOf.at 6 rfl) ?_
  refine ok_iload_n 2 (kd_m11_debtOf.at 7 rfl) rfl rfl ?_
  refine ok_iadd (kd_m11_debtOf.at 8 rfl) ?_
  refine ok_topi (fun x1 hx1 => ?_)
  refine ok_iald (kd_m11_debtOf.at 9 rfl) sh_61 ?_
  exact ok_ireturn (kd_m11_debtOf.at 10 rfl) rfl
def f_m11_netOf_L4   (k36 : Int32 → kSt → Option (Int32 × kSt)) (c1 : Int32) : Nat → Int32 → Int32 → kSt → Option (Int32 × kSt)
  | 0, _, _, _ => none
  | n + 1, v2, v3, S =>
    if (S.1 57 2) ≤ v3 then
      k36 v2 S
    else
      (f_m11_debtOf v3 c1 S).bind fun q2 =>
      (f_m11_debtOf c1 v3 q2.2).bind fun q3 =>
      knx (v2 + (q2.1 - q3.1)) fun x4 =>
      knx (v3 + 1) fun x5 =>
      f_m11_netOf_L4 k36 c1 n x4 x5 q3.2
theorem ok_m11_netOf_L4 {l : Launch} {G : kG} {E : kE}    (c1 : Int32) (k36 : Int32 → kSt → Option (Int32 × kSt)) (hk36 : ∀ (v2 : Int32) (S : kSt), kOk l G E (kZ G E kjI) m11_netOf (kdp (2)) (k36 v2 S) 36 [(2, .int v2)] [] S) : ∀ (n : Nat) (v2 : Int32) (v3 : Int32) (S : kSt), kOk l G E (kZ G E kjI) m11_netOf (kdp (2)) (f_m11_netOf_L4 k36 c1 n v2 v3 S) 4 [(0, .ref 14), (1, .int c1), (2, .int v2), (3, .int v3)] [] S := by
  intro n
  induction n with
  | zero => intro v2 v3 S; exact ok_none
  | succ n ih =>
    intro v2 v3 S
    rw [f_m11_netOf_L4]
    refine ok_iload_n 3 (kd_m11_netOf.at 4 rfl) rfl rfl ?_
    refine ok_aload_n 0 (kd_m11_netOf.at 5 rfl) rfl rfl ?_
    refine ok_getR (kd_m11_netOf.at 6 rfl) kf11_20 sh_14 rfl (kr_14_15 _) ?_
    refine ok_iconst (v := 2) (kd_m11_netOf.at 7 rfl) (by decide) ?_
    refine ok_ialdK (j := 2) (kd_m11_netOf.at 8 rfl) sh_57 (by decide) (by decide) ?_
    refine ok_icmp_ge (tgt := 36) (kd_m11_netOf.at 9 rfl) (by decide) (fun h1 => ?_) (fun h1 => ?_)
    · refine ok_sub (lv' := [(2, .int v2)]) [2] rfl ?_
      exact hk36 v2 S
    · refine ok_iload_n 2 (kd_m11_netOf.at 10 rfl) rfl rfl ?_
      refine ok_aload_n 0 (kd_m11_netOf.at 11 rfl) rfl rfl ?_
      refine ok_iload_n 3 (kd_m11_netOf.at 12 rfl) rfl rfl ?_
      refine ok_iload_n 1 (kd_m11_netOf.at 13 rfl) rfl rfl ?_
      refine ok_callVI (M' := m11_debtOf) (as := [.int v3, .int c1]) (st := [.int v2]) (kd_m11_netOf.at 14 rfl) kc11_336 sh_14 rfl rfl (by decide) (ok_m11_debtOf v3 c1 S) (kfit_of (by decide)) rfl (Nat.le_of_ble_eq_true rfl) (fun q2 hq2 => ?_)
      refine ok_aload_n 0 (kd_m11_netOf.at 15 rfl) rfl rfl ?_
      refine ok_iload_n 1 (kd_m11_netOf.at 16 rfl) rfl rfl ?_
      refine ok_iload_n 3 (kd_m11_netOf.at 17 rfl) rfl rfl ?_
      refine ok_callVI (M' := m11_debtOf) (as := [.int c1, .int v3]) (st := [.int q2.1, .int v2]) (kd_m11_netOf.at 18 rfl) kc11_336 sh_14 rfl rfl (by decide) (ok_m11_debtOf c1 v3 q2.2) (kfit_of (by decide)) rfl (Nat.le_of_ble_eq_true rfl) (fun q3 hq3 => ?_)
      refine ok_isub (kd_m11_netOf.at 19 rfl) ?_
      refine ok_iadd (kd_m11_netOf.at 20 rfl) ?_
      refine ok_topi (fun x4 hx4 => ?_)
      refine ok_istore_n (lv' := [(2, .int x4), (0, .ref 14), (1, .int c1), (3, .int v3)]) (kd_m11_netOf.at 21 rfl) rfl (by decide) rfl ?_
      refine ok_nx (fun x5 hx5 => ?_)
      refine ok_iinc (v := x5) (lv' := [(3, .int x5), (2, .int x4), (0, .ref 14), (1, .int c1)]) 3 (kd_m11_netOf.at 22 rfl) rfl hx5.symm (by decide) rfl ?_
      refine ok_goto (tgt := 4) (kd_m11_netOf.at 23 rfl) (by decide) ?_
      refine ok_sub (lv' := [(0, .ref 14), (1, .int c1), (2, .int x4), (3, .int x5)]) [2, 3, 1, 0] rfl ?_
      exact ih x4 x5 q3.2
def f_m11_netOf (a1 : Int32) (S : kSt) : Option (Int32 × kSt) :=
  f_m11_netOf_L4 
    (fun (x6 : Int32) (S7 : kSt) =>
      some (x6, S7)
    )
    a1 kFU 0 0 S
theorem ok_m11_netOf {l : Launch} {G : kG} {E : kE} (a1 : Int32)  (S : kSt) : kFn l G E E kjI m11_netOf 2 [.ref 14, .int a1] S (f_m11_netOf a1 S) := by
  unfold f_m11_netOf
  refine kFn_of (by decide +kernel) (fun hG => Nat.le_of_ble_eq_true rfl) ?_
  show kOk _ _ _ _ _ _ _ _ [(0, .ref 14), (1, .int a1)] _ _
  refine ok_iconst (v := 0) (kd_m11_netOf.at 0 rfl) (by decide) ?_
  refine ok_istore_n (lv' := [(2, .int 0), (0, .ref 14), (1, .int a1)]) (kd_m11_netOf.at 1 rfl) rfl (by decide) rfl ?_
  refine ok_iconst (v := 0) (kd_m11_netOf.at 2 rfl) (by decide) ?_
  refine ok_istore_n (lv' := [(3, .int 0), (2, .int 0), (0, .ref 14), (1, .int a1)]) (kd_m11_netOf.at 3 rfl) rfl (by decide) rfl ?_
  refine ok_sub (lv' := [(0, .ref 14), (1, .int a1), (2, .int 0), (3, .int 0)]) [2, 3, 1, 0] rfl ?_
  refine ok_m11_netOf_L4 a1 _ (fun x6 S7 => ?_) kFU 0 0 S
  refine ok_iload_n 0 (kd_m11_netOf.at 24 rfl) rfl rfl ?_
  exact ok_ireturn (kd_m11_netOf.at 25 rfl) rfl
def f_m11_owes (a1 : Int32) (a2 : Int32) (S : kSt) : Option (Int32 × kSt) :=
  (f_m11_good  S).bind fun q1 =>
  (f_m11_areTwo a1 a2 q1).bind fun q2 =>
  if q2.1 then
    (f_m11_debtOf a1 a2 q2.2).bind fun q5 =>
    some (q5.1, q5.2)
  else
    (f_m11_no 1 q2.2).bind fun q4 =>
    some (q4.1, q4.2)
theorem ok_m11_owes {l : Launch} {G : kG} {E : kE} (a1 : Int32) (a2 : Int32)  (S : kSt) : kFn l G E E kjI m11_owes 4 [.ref 14, .int a1, .int a2] S (f_m11_owes a1 a2 S) := by
  unfold f_m11_owes
  refine kFn_of (by decide +kernel) (fun hG => Nat.le_of_ble_eq_true rfl) ?_
  show kOk _ _ _ _ _ _ _ _ [(0, .ref 14), (1, .int a1), (2, .int a2)] _ _
  refine ok_aload_n 0 (kd_m11_owes.at 0 rfl) rfl rfl ?_
  refine ok_callVV (M' := m11_good) (as := []) (st := []) (kd_m11_owes.at 1 rfl) kc11_164 sh_14 rfl rfl (by decide) (ok_m11_good  S) (kfit_of (by decide)) rfl (Nat.le_of_ble_eq_true rfl) (fun q1 hq1 => ?_)
  refine ok_aload_n 0 (kd_m11_owes.at 2 rfl) rfl rfl ?_
  refine ok_iload_n 1 (kd_m11_owes.at 3 rfl) rfl rfl ?_
  refine ok_iload_n 2 (kd_m11_owes.at 4 rfl) rfl rfl ?_
  refine ok_callVB (M' := m11_areTwo) (as := [.int a1, .int a2]) (st := []) (kd_m11_owes.at 5 rfl) kc11_293 sh_14 rfl rfl (by decide) (ok_m11_areTwo a1 a2 q1) (kfit_of (by decide)) rfl (Nat.le_of_ble_eq_true rfl) (fun q2 hq2 => ?_)
  refine ok_ifb_eq (tgt := 22) (kd_m11_owes.at 6 rfl) (by decide) (fun h3 => ?_) (fun h3 => ?_)
  · refine ok_aload_n 0 (kd_m11_owes.at 12 rfl) rfl rfl ?_
    refine ok_iconst (v := 1) (kd_m11_owes.at 13 rfl) (by decide) ?_
    refine ok_callVI (M' := m11_no) (as := [.int 1]) (st := []) (kd_m11_owes.at 14 rfl) kc11_167 sh_14 rfl rfl (by decide) (ok_m11_no 1 q2.2) (kfit_of (by decide)) rfl (Nat.le_of_ble_eq_true rfl) (fun q4 hq4 => ?_)
    exact ok_ireturn (kd_m11_owes.at 15 rfl) rfl
  · refine ok_aload_n 0 (kd_m11_owes.at 7 rfl) rfl rfl ?_
    refine ok_iload_n 1 (kd_m11_owes.at 8 rfl) rfl rfl ?_
    refine ok_iload_n 2 (kd_m11_owes.at 9 rfl) rfl rfl ?_
    refine ok_callVI (M' := m11_debtOf) (as := [.int a1, .int a2]) (st := []) (kd_m11_owes.at 10 rfl) kc11_336 sh_14 rfl rfl (by decide) (ok_m11_debtOf a1 a2 q2.2) (kfit_of (by decide)) rfl (Nat.le_of_ble_eq_true rfl) (fun q5 hq5 => ?_)
    refine ok_goto (tgt := 27) (kd_m11_owes.at 11 rfl) (by decide) ?_
    exact ok_ireturn (kd_m11_owes.at 15 rfl) rfl
def f_m11_net (a1 : Int32) (S : kSt) : Option (Int32 × kSt) :=
  (f_m11_good  S).bind fun q1 =>
  (f_m11_isPair a1 q1).bind fun q2 =>
  if q2.1 then
    (f_m11_netOf a1 q2.2).bind fun q5 =>
    some (q5.1, q5.2)
  else
    knx (kuI q2.2 14 11 1) fun S4 =>
    some ((-1000000), S4)
theorem ok_m11_net {l : Launch} {G : kG} {E : kE} (a1 : Int32)  (S : kSt) : kFn l G E E kjI m11_net 3 [.ref 14, .int a1] S (f_m11_net a1 S) := by
  unfold f_m11_net
  refine kFn_of (by decide +kernel) (fun hG => Nat.le_of_ble_eq_true rfl) ?_
  show kOk _ _ _ _ _ _ _ _ [(0, .ref 14), (1, .int a1)] _ _
  refine ok_aload_n 0 (kd_m11_net.at 0 rfl) rfl rfl ?_
  refine ok_callVV (M' := m11_good) (as := []) (st := []) (kd_m11_net.at 1 rfl) kc11_164 sh_14 rfl rfl (by decide) (ok_m11_good  S) (kfit_of (by decide)) rfl (Nat.le_of_ble_eq_true rfl) (fun q1 hq1 => ?_)
  refine ok_aload_n 0 (kd_m11_net.at 2 rfl) rfl rfl ?_
  refine ok_iload_n 1 (kd_m11_net.at 3 rfl) rfl rfl ?_
  refine ok_callVB (M' := m11_isPair) (as := [.int a1]) (st := []) (kd_m11_net.at 4 rfl) kc11_239 sh_14 rfl rfl (by decide) (ok_m11_isPair a1 q1) (kfit_of (by decide)) rfl (Nat.le_of_ble_eq_true rfl) (fun q2 hq2 => ?_)
  refine ok_ifb_eq (tgt := 18) (kd_m11_net.at 5 rfl) (by decide) (fun h3 => ?_) (fun h3 => ?_)
  · refine ok_aload_n 0 (kd_m11_net.at 10 rfl) rfl rfl ?_
    refine ok_iconst (v := 1) (kd_m11_net.at 11 rfl) (by decide) ?_
    refine ok_putI (kd_m11_net.at 12 rfl) kf11_62 sh_14 rfl rfl ?_
    refine ok_nS (fun S4 hS4 => ?_)
    refine ok_ldcw (kd_m11_net.at 13 rfl) kco_11_342 ?_
    exact ok_ireturn (kd_m11_net.at 14 rfl) rfl
  · refine ok_aload_n 0 (kd_m11_net.at 6 rfl) rfl rfl ?_
    refine ok_iload_n 1 (kd_m11_net.at 7 rfl) rfl rfl ?_
    refine ok_callVI (M' := m11_netOf) (as := [.int a1]) (st := []) (kd_m11_net.at 8 rfl) kc11_339 sh_14 rfl rfl (by decide) (ok_m11_netOf a1 q2.2) (kfit_of (by decide)) rfl (Nat.le_of_ble_eq_true rfl) (fun q5 hq5 => ?_)
    exact ok_ireturn (kd_m11_net.at 9 rfl) rfl
def f_m11_due_L21   (k57 : Int32 → kSt → Option (Int32 × kSt))  : Nat → Int32 → Int32 → kSt → Option (Int32 × kSt)
  | 0, _, _, _ => none
  | n + 1, v1, v2, S =>
    if (S.1 57 2) ≤ v2 then
      k57 v1 S
    else
      (f_m11_netOf v2 S).bind fun q5 =>
      knx (fun (x6 : Int32) (S7 : kSt) =>
        knx (v1 + x6) fun x8 =>
        knx (v2 + 1) fun x9 =>
        f_m11_due_L21 k57 n x8 x9 S7
        ) fun j49 =>
      if q5.1 ≤ 0 then
        j49 0 q5.2
      else
        (f_m11_netOf v2 q5.2).bind fun q11 =>
        j49 q11.1 q11.2
theorem ok_m11_due_L21 {l : Launch} {G : kG} {E : kE}     (k57 : Int32 → kSt → Option (Int32 × kSt)) (hk57 : ∀ (v1 : Int32) (S : kSt), kOk l G E (kZ G E kjI) m11_due (kdp (3)) (k57 v1 S) 57 [(1, .int v1)] [] S) : ∀ (n : Nat) (v1 : Int32) (v2 : Int32) (S : kSt), kOk l G E (kZ G E kjI) m11_due (kdp (3)) (f_m11_due_L21 k57 n v1 v2 S) 21 [(0, .ref 14), (1, .int v1), (2, .int v2)] [] S := by
  intro n
  induction n with
  | zero => intro v1 v2 S; exact ok_none
  | succ n ih =>
    intro v1 v2 S
    rw [f_m11_due_L21]
    refine ok_iload_n 2 (kd_m11_due.at 13 rfl) rfl rfl ?_
    refine ok_aload_n 0 (kd_m11_due.at 14 rfl) rfl rfl ?_
    refine ok_getR (kd_m11_due.at 15 rfl) kf11_20 sh_14 rfl (kr_14_15 _) ?_
    refine ok_iconst (v := 2) (kd_m11_due.at 16 rfl) (by decide) ?_
    refine ok_ialdK (j := 2) (kd_m11_due.at 17 rfl) sh_57 (by decide) (by decide) ?_
    refine ok_icmp_ge (tgt := 57) (kd_m11_due.at 18 rfl) (by decide) (fun h4 => ?_) (fun h4 => ?_)
    · refine ok_sub (lv' := [(1, .int v1)]) [1] rfl ?_
      exact hk57 v1 S
    · refine ok_iload_n 1 (kd_m11_due.at 19 rfl) rfl rfl ?_
      refine ok_aload_n 0 (kd_m11_due.at 20 rfl) rfl rfl ?_
      refine ok_iload_n 2 (kd_m11_due.at 21 rfl) rfl rfl ?_
      refine ok_callVI (M' := m11_netOf) (as := [.int v2]) (st := [.int v1]) (kd_m11_due.at 22 rfl) kc11_339 sh_14 rfl rfl (by decide) (ok_m11_netOf v2 S) (kfit_of (by decide)) rfl (Nat.le_of_ble_eq_true rfl) (fun q5 hq5 => ?_)
      refine ok_nx (fun j49 hj49 => ?_)
      have K49 : ∀ (x6 : Int32) (S7 : kSt), kOk l G E (kZ G E kjI) m11_due (kdp (3)) (j49 x6 S7) 49 [(0, .ref 14), (2, .int v2)] [.int x6, .int v1] S7 := by
        subst hj49
        intro x6 S7
        refine ok_iadd (kd_m11_due.at 29 rfl) ?_
        refine ok_topi (fun x8 hx8 => ?_)
        refine ok_istore_n (lv' := [(1, .int x8), (0, .ref 14), (2, .int v2)]) (kd_m11_due.at 30 rfl) rfl (by decide) rfl ?_
        refine ok_nx (fun x9 hx9 => ?_)
        refine ok_iinc (v := x9) (lv' := [(2, .int x9), (1, .int x8), (0, .ref 14)]) 2 (kd_m11_due.at 31 rfl) rfl hx9.symm (by decide) rfl ?_
        refine ok_goto (tgt := 21) (kd_m11_due.at 32 rfl) (by decide) ?_
        refine ok_sub (lv' := [(0, .ref 14), (1, .int x8), (2, .int x9)]) [2, 1, 0] rfl ?_
        exact ih x8 x9 S7
      clear hj49
      refine ok_if_le (tgt := 48) (kd_m11_due.at 23 rfl) (by decide) (fun h10 => ?_) (fun h10 => ?_)
      · refine ok_iconst (v := 0) (kd_m11_due.at 28 rfl) (by decide) ?_
        refine ok_sub (lv' := [(0, .ref 14), (2, .int v2)]) [0, 2] rfl ?_
        exact K49 0 q5.2
      · refine ok_aload_n 0 (kd_m11_due.at 24 rfl) rfl rfl ?_
        refine ok_iload_n 2 (kd_m11_due.at 25 rfl) rfl rfl ?_
        refine ok_callVI (M' := m11_netOf) (as := [.int v2]) (st := [.int v1]) (kd_m11_due.at 26 rfl) kc11_339 sh_14 rfl rfl (by decide) (ok_m11_netOf v2 q5.2) (kfit_of (by decide)) rfl (Nat.le_of_ble_eq_true rfl) (fun q11 hq11 => ?_)
        refine ok_goto (tgt := 49) (kd_m11_due.at 27 rfl) (by decide) ?_
        refine ok_sub (lv' := [(0, .ref 14), (2, .int v2)]) [0, 2] rfl ?_
        exact K49 q11.1 q11.2
def f_m11_due  (S : kSt) : Option (Int32 × kSt) :=
  (f_m11_good  S).bind fun q1 =>
  kgb (q1.1 14 14) fun b2 =>
  if b2 then
    f_m11_due_L21 
      (fun (x12 : Int32) (S13 : kSt) =>
        some (x12, S13)
      )
      kFU 0 0 q1
  else
    (f_m11_no 1 q1).bind fun q14 =>
    some (q14.1, q14.2)
theorem ok_m11_due {l : Launch} {G : kG} {E : kE}   (S : kSt) : kFn l G E E kjI m11_due 3 [.ref 14] S (f_m11_due  S) := by
  unfold f_m11_due
  refine kFn_of (by decide +kernel) (fun hG => Nat.le_of_ble_eq_true rfl) ?_
  show kOk _ _ _ _ _ _ _ _ [(0, .ref 14)] _ _
  refine ok_aload_n 0 (kd_m11_due.at 0 rfl) rfl rfl ?_
  refine ok_callVV (M' := m11_good) (as := []) (st := []) (kd_m11_due.at 1 rfl) kc11_164 sh_14 rfl rfl (by decide) (ok_m11_good  S) (kfit_of (by decide)) rfl (Nat.le_of_ble_eq_true rfl) (fun q1 hq1 => ?_)
  refine ok_aload_n 0 (kd_m11_due.at 2 rfl) rfl rfl ?_
  refine ok_getZ (kd_m11_due.at 3 rfl) kf11_177 sh_14 rfl (fun b2 => ?_)
  refine ok_ifb_ne (tgt := 17) (kd_m11_due.at 4 rfl) (by decide) (fun h3 => ?_) (fun h3 => ?_)
  · refine ok_iconst (v := 0) (kd_m11_due.at 9 rfl) (by decide) ?_
    refine ok_istore_n (lv' := [(1, .int 0), (0, .ref 14)]) (kd_m11_due.at 10 rfl) rfl (by decide) rfl ?_
    refine ok_iconst (v := 0) (kd_m11_due.at 11 rfl) (by decide) ?_
    refine ok_istore_n (lv' := [(2, .int 0), (1, .int 0), (0, .ref 14)]) (kd_m11_due.at 12 rfl) rfl (by decide) rfl ?_
    refine ok_sub (lv' := [(0, .ref 14), (1, .int 0), (2, .int 0)]) [2, 1, 0] rfl ?_
    refine ok_m11_due_L21 _ (fun x12 S13 => ?_) kFU 0 0 q1
    refine ok_iload_n 0 (kd_m11_due.at 33 rfl) rfl rfl ?_
    exact ok_ireturn (kd_m11_due.at 34 rfl) rfl
  · refine ok_aload_n 0 (kd_m11_due.at 5 rfl) rfl rfl ?_
    refine ok_iconst (v := 1) (kd_m11_due.at 6 rfl) (by decide) ?_
    refine ok_callVI (M' := m11_no) (as := [.int 1]) (st := []) (kd_m11_due.at 7 rfl) kc11_167 sh_14 rfl rfl (by decide) (ok_m11_no 1 q1) (kfit_of (by decide)) rfl (Nat.le_of_ble_eq_true rfl) (fun q14 hq14 => ?_)
    exact ok_ireturn (kd_m11_due.at 8 rfl) rfl
def f_m11_creditor_L21   (k52 : Int32 → kSt → Option (Int32 × kSt))  : Nat → Int32 → Int32 → kSt → Option (Int32 × kSt)
  | 0, _, _, _ => none
  | n + 1, v1, v2, S =>
    if (S.1 57 2) ≤ v2 then
      k52 v1 S
    else
      (f_m11_netOf v2 S).bind fun q5 =>
      (f_m11_netOf v1 q5.2).bind fun q6 =>
      knx (fun (x7 : Int32) (S8 : kSt) =>
        knx (v2 + 1) fun x9 =>
        f_m11_creditor_L21 k52 n x7 x9 S8
        ) fun j46 =>
      if q5.1 ≤ q6.1 then
        j46 v1 q6.2
      else
        j46 v2 q6.2
theorem ok_m11_creditor_L21 {l : Launch} {G : kG} {E : kE}     (k52 : Int32 → kSt → Option (Int32 × kSt)) (hk52 : ∀ (v1 : Int32) (S : kSt), kOk l G E (kZ G E kjI) m11_creditor (kdp (3)) (k52 v1 S) 52 [(1, .int v1)] [] S) : ∀ (n : Nat) (v1 : Int32) (v2 : Int32) (S : kSt), kOk l G E (kZ G E kjI) m11_creditor (kdp (3)) (f_m11_creditor_L21 k52 n v1 v2 S) 21 [(0, .ref 14), (1, .int v1), (2, .int v2)] [] S := by
  intro n
  induction n with
  | zero => intro v1 v2 S; exact ok_none
  | succ n ih =>
    intro v1 v2 S
    rw [f_m11_creditor_L21]
    refine ok_iload_n 2 (kd_m11_creditor.at 13 rfl) rfl rfl ?_
    refine ok_aload_n 0 (kd_m11_creditor.at 14 rfl) rfl rfl ?_
    refine ok_getR (kd_m11_creditor.at 15 rfl) kf11_20 sh_14 rfl (kr_14_15 _) ?_
    refine ok_iconst (v := 2) (kd_m11_creditor.at 16 rfl) (by decide) ?_
    refine ok_ialdK (j := 2) (kd_m11_creditor.at 17 rfl) sh_57 (by decide) (by decide) ?_
    refine ok_icmp_ge (tgt := 52) (kd_m11_creditor.at 18 rfl) (by decide) (fun h4 => ?_) (fun h4 => ?_)
    · refine ok_sub (lv' := [(1, .int v1)]) [1] rfl ?_
      exact hk52 v1 S
    · refine ok_aload_n 0 (kd_m11_creditor.at 19 rfl) rfl rfl ?_
      refine ok_iload_n 2 (kd_m11_creditor.at 20 rfl) rfl rfl ?_
      refine ok_callVI (M' := m11_netOf) (as := [.int v2]) (st := []) (kd_m11_creditor.at 21 rfl) kc11_339 sh_14 rfl rfl (by decide) (ok_m11_netOf v2 S) (kfit_of (by decide)) rfl (Nat.le_of_ble_eq_true rfl) (fun q5 hq5 => ?_)
      refine ok_aload_n 0 (kd_m11_creditor.at 22 rfl) rfl rfl ?_
      refine ok_iload_n 1 (kd_m11_creditor.at 23 rfl) rfl rfl ?_
      refine ok_callVI (M' := m11_netOf) (as := [.int v1]) (st := [.int q5.1]) (kd_m11_creditor.at 24 rfl) kc11_339 sh_14 rfl rfl (by decide) (ok_m11_netOf v1 q5.2) (kfit_of (by decide)) rfl (Nat.le_of_ble_eq_true rfl) (fun q6 hq6 => ?_)
      refine ok_nx (fun j46 hj46 => ?_)
      have K46 : ∀ (x7 : Int32) (S8 : kSt), kOk l G E (kZ G E kjI) m11_creditor (kdp (3)) (j46 x7 S8) 46 [(0, .ref 14), (1, .int x7), (2, .int v2)] [] S8 := by
        subst hj46
        intro x7 S8
        refine ok_nx (fun x9 hx9 => ?_)
        refine ok_iinc (v := x9) (lv' := [(2, .int x9), (0, .ref 14), (1, .int x7)]) 2 (kd_m11_creditor.at 28 rfl) rfl hx9.symm (by decide) rfl ?_
        refine ok_goto (tgt := 21) (kd_m11_creditor.at 29 rfl) (by decide) ?_
        refine ok_sub (lv' := [(0, .ref 14), (1, .int x7), (2, .int x9)]) [1, 2, 0] rfl ?_
        exact ih x7 x9 S8
      clear hj46
      refine ok_icmp_le (tgt := 46) (kd_m11_creditor.at 25 rfl) (by decide) (fun h10 => ?_) (fun h10 => ?_)
      · exact K46 v1 q6.2
      · refine ok_iload_n 2 (kd_m11_creditor.at 26 rfl) rfl rfl ?_
        refine ok_istore_n (lv' := [(1, .int v2), (0, .ref 14), (2, .int v2)]) (kd_m11_creditor.at 27 rfl) rfl (by decide) rfl ?_
        refine ok_sub (lv' := [(0, .ref 14), (1, .int v2), (2, .int v2)]) [1, 0, 2] rfl ?_
        exact K46 v2 q6.2
def f_m11_creditor  (S : kSt) : Option (Int32 × kSt) :=
  (f_m11_good  S).bind fun q1 =>
  kgb (q1.1 14 14) fun b2 =>
  if b2 then
    f_m11_creditor_L21 
      (fun (x11 : Int32) (S12 : kSt) =>
        some (x11, S12)
      )
      kFU 0 1 q1
  else
    (f_m11_no 1 q1).bind fun q13 =>
    some (q13.1, q13.2)
theorem ok_m11_creditor {l : Launch} {G : kG} {E : kE}   (S : kSt) : kFn l G E E kjI m11_creditor 3 [.ref 14] S (f_m11_creditor  S) := by
  unfold f_m11_creditor
  refine kFn_of (by decide +kernel) (fun hG => Nat.le_of_ble_eq_true rfl) ?_
  show kOk _ _ _ _ _ _ _ _ [(0, .ref 14)] _ _
  refine ok_aload_n 0 (kd_m11_creditor.at 0 rfl) rfl rfl ?_
  refine ok_callVV (M' := m11_good) (as := []) (st := []) (kd_m11_creditor.at 1 rfl) kc11_164 sh_14 rfl rfl (by decide) (ok_m11_good  S) (kfit_of (by decide)) rfl (Nat.le_of_ble_eq_true rfl) (fun q1 hq1 => ?_)
  refine ok_aload_n 0 (kd_m11_creditor.at 2 rfl) rfl rfl ?_
  refine ok_getZ (kd_m11_creditor.at 3 rfl) kf11_177 sh_14 rfl (fun b2 => ?_)
  refine ok_ifb_ne (tgt := 17) (kd_m11_creditor.at 4 rfl) (by decide) (fun h3 => ?_) (fun h3 => ?_)
  · refine ok_iconst (v := 0) (kd_m11_creditor.at 9 rfl) (by decide) ?_
    refine ok_istore_n (lv' := [(1, .int 0), (0, .ref 14)]) (kd_m11_creditor.at 10 rfl) rfl (by decide) rfl ?_
    refine ok_iconst (v := 1) (kd_m11_creditor.at 11 rfl) (by decide) ?_
    refine ok_istore_n (lv' := [(2, .int 1), (1, .int 0), (0, .ref 14)]) (kd_m11_creditor.at 12 rfl) rfl (by decide) rfl ?_
    refine ok_sub (lv' := [(0, .ref 14), (1, .int 0), (2, .int 1)]) [2, 1, 0] rfl ?_
    refine ok_m11_creditor_L21 _ (fun x11 S12 => ?_) kFU 0 1 q1
    refine ok_iload_n 0 (kd_m11_creditor.at 30 rfl) rfl rfl ?_
    exact ok_ireturn (kd_m11_creditor.at 31 rfl) rfl
  · refine ok_aload_n 0 (kd_m11_creditor.at 5 rfl) rfl rfl ?_
    refine ok_iconst (v := 1) (kd_m11_creditor.at 6 rfl) (by decide) ?_
    refine ok_callVI (M' := m11_no) (as := [.int 1]) (st := []) (kd_m11_creditor.at 7 rfl) kc11_167 sh_14 rfl rfl (by decide) (ok_m11_no 1 q1) (kfit_of (by decide)) rfl (Nat.le_of_ble_eq_true rfl) (fun q13 hq13 => ?_)
    exact ok_ireturn (kd_m11_creditor.at 8 rfl) rfl
def f_m11_netsOf_L4   (k40 : Int32 → kSt → Option (Int32 × kSt)) (c1 : Int32) : Nat → Int32 → Int32 → kSt → Option (Int32 × kSt)
  | 0, _, _, _ => none
  | n + 1, v2, v3, S =>
    if (S.1 57 2) ≤ v3 then
      k40 v2 S
    else
      (f_m11_hasBit c1 v3 S).bind fun q2 =>
      knx (fun (x3 : Int32) (S4 : kSt) =>
        knx (v2 + x3) fun x5 =>
        knx (v3 + 1) fun x6 =>
        f_m11_netsOf_L4 k40 c1 n x5 x6 S4
        ) fun j32 =>
      if q2.1 then
        (f_m11_netOf v3 q2.2).bind fun q8 =>
        j32 q8.1 q8.2
      else
        j32 0 q2.2
theorem ok_m11_netsOf_L4 {l : Launch} {G : kG} {E : kE}    (c1 : Int32) (k40 : Int32 → kSt → Option (Int32 × kSt)) (hk40 : ∀ (v2 : Int32) (S : kSt), kOk l G E (kZ G E kjI) m11_netsOf (kdp (3)) (k40 v2 S) 40 [(2, .int v2)] [] S) : ∀ (n : Nat) (v2 : Int32) (v3 : Int32) (S : kSt), kOk l G E (kZ G E kjI) m11_netsOf (kdp (3)) (f_m11_netsOf_L4 k40 c1 n v2 v3 S) 4 [(0, .ref 14), (1, .int c1), (2, .int v2), (3, .int v3)] [] S := by
  intro n
  induction n with
  | zero => intro v2 v3 S; exact ok_none
  | succ n ih =>
    intro v2 v3 S
    rw [f_m11_netsOf_L4]
    refine ok_iload_n 3 (kd_m11_netsOf.at 4 rfl) rfl rfl ?_
    refine ok_aload_n 0 (kd_m11_netsOf.at 5 rfl) rfl rfl ?_
    refine ok_getR (kd_m11_netsOf.at 6 rfl) kf11_20 sh_14 rfl (kr_14_15 _) ?_
    refine ok_iconst (v := 2) (kd_m11_netsOf.at 7 rfl) (by decide) ?_
    refine ok_ialdK (j := 2) (kd_m11_netsOf.at 8 rfl) sh_57 (by decide) (by decide) ?_
    refine ok_icmp_ge (tgt := 40) (kd_m11_netsOf.at 9 rfl) (by decide) (fun h1 => ?_) (fun h1 => ?_)
    · refine ok_sub (lv' := [(2, .int v2)]) [2] rfl ?_
      exact hk40 v2 S
    · refine ok_iload_n 2 (kd_m11_netsOf.at 10 rfl) rfl rfl ?_
      refine ok_iload_n 1 (kd_m11_netsOf.at 11 rfl) rfl rfl ?_
      refine ok_iload_n 3 (kd_m11_netsOf.at 12 rfl) rfl rfl ?_
      refine ok_callSB (M' := m11_hasBit) (as := [.int c1, .int v3]) (st := [.int v2]) (kd_m11_netsOf.at 13 rfl) kc11_306  rfl (by decide) (ok_m11_hasBit c1 v3 S) (kfit_of (by decide)) rfl (Nat.le_of_ble_eq_true rfl) (fun q2 hq2 => ?_)
      refine ok_nx (fun j32 hj32 => ?_)
      have K32 : ∀ (x3 : Int32) (S4 : kSt), kOk l G E (kZ G E kjI) m11_netsOf (kdp (3)) (j32 x3 S4) 32 [(0, .ref 14), (1, .int c1), (3, .int v3)] [.int x3, .int v2] S4 := by
        subst hj32
        intro x3 S4
        refine ok_iadd (kd_m11_netsOf.at 20 rfl) ?_
        refine ok_topi (fun x5 hx5 => ?_)
        refine ok_istore_n (lv' := [(2, .int x5), (0, .ref 14), (1, .int c1), (3, .int v3)]) (kd_m11_netsOf.at 21 rfl) rfl (by decide) rfl ?_
        refine ok_nx (fun x6 hx6 => ?_)
        refine ok_iinc (v := x6) (lv' := [(3, .int x6), (2, .int x5), (0, .ref 14), (1, .int c1)]) 3 (kd_m11_netsOf.at 22 rfl) rfl hx6.symm (by decide) rfl ?_
        refine ok_goto (tgt := 4) (kd_m11_netsOf.at 23 rfl) (by decide) ?_
        refine ok_sub (lv' := [(0, .ref 14), (1, .int c1), (2, .int x5), (3, .int x6)]) [2, 3, 1, 0] rfl ?_
        exact ih x5 x6 S4
      clear hj32
      refine ok_ifb_eq (tgt := 31) (kd_m11_netsOf.at 14 rfl) (by decide) (fun h7 => ?_) (fun h7 => ?_)
      · refine ok_iconst (v := 0) (kd_m11_netsOf.at 19 rfl) (by decide) ?_
        refine ok_sub (lv' := [(0, .ref 14), (1, .int c1), (3, .int v3)]) [0, 1, 3] rfl ?_
        exact K32 0 q2.2
      · refine ok_aload_n 0 (kd_m11_netsOf.at 15 rfl) rfl rfl ?_
        refine ok_iload_n 3 (kd_m11_netsOf.at 16 rfl) rfl rfl ?_
        refine ok_callVI (M' := m11_netOf) (as := [.int v3]) (st := [.int v2]) (kd_m11_netsOf.at 17 rfl) kc11_339 sh_14 rfl rfl (by decide) (ok_m11_netOf v3 q2.2) (kfit_of (by decide)) rfl (Nat.le_of_ble_eq_true rfl) (fun q8 hq8 => ?_)
        refine ok_goto (tgt := 32) (kd_m11_netsOf.at 18 rfl) (by decide) ?_
        refine ok_sub (lv' := [(0, .ref 14), (1, .int c1), (3, .int v3)]) [0, 1, 3] rfl ?_
        exact K32 q8.1 q8.2
def f_m11_netsOf (a1 : Int32) (S : kSt) : Option (Int32 × kSt) :=
  f_m11_netsOf_L4 
    (fun (x9 : Int32) (S10 : kSt) =>
      some (x9, S10)
    )
    a1 kFU 0 0 S
theorem ok_m11_netsOf {l : Launch} {G : kG} {E : kE} (a1 : Int32)  (S : kSt) : kFn l G E E kjI m11_netsOf 3 [.ref 14, .int a1] S (f_m11_netsOf a1 S) := by
  unfold f_m11_netsOf
  refine kFn_of (by decide +kernel) (fun hG => Nat.le_of_ble_eq_true rfl) ?_
  show kOk _ _ _ _ _ _ _ _ [(0, .ref 14), (1, .int a1)] _ _
  refine ok_iconst (v := 0) (kd_m11_netsOf.at 0 rfl) (by decide) ?_
  refine ok_istore_n (lv' := [(2, .int 0), (0, .ref 14), (1, .int a1)]) (kd_m11_netsOf.at 1 rfl) rfl (by decide) rfl ?_
  refine ok_iconst (v := 0) (kd_m11_netsOf.at 2 rfl) (by decide) ?_
  refine ok_istore_n (lv' := [(3, .int 0), (2, .int 0), (0, .ref 14), (1, .int a1)]) (kd_m11_netsOf.at 3 rfl) rfl (by decide) rfl ?_
  refine ok_sub (lv' := [(0, .ref 14), (1, .int a1), (2, .int 0), (3, .int 0)]) [2, 3, 1, 0] rfl ?_
  refine ok_m11_netsOf_L4 a1 _ (fun x9 S10 => ?_) kFU 0 0 S
  refine ok_iload_n 0 (kd_m11_netsOf.at 24 rfl) rfl rfl ?_
  exact ok_ireturn (kd_m11_netsOf.at 25 rfl) rfl
def f_m11_groupsOf_L10  (rf : Int32 → kSt → Option (Int32 × kSt)) (k66 : Int32 → kSt → Option (Int32 × kSt)) (c1 : Int32) : Nat → Int32 → Int32 → kSt → Option (Int32 × kSt)
  | 0, _, _, _ => none
  | n + 1, v2, v3, S =>
    if c1 ≤ v3 then
      k66 v2 S
    else
      knx (fun (x3 : Int32) (S4 : kSt) =>
        knx (v3 + 1) fun x5 =>
        f_m11_groupsOf_L10 rf k66 c1 n x3 x5 S4
        ) fun j60 =>
      if (v3 &&& (c1 ^^^ (-1))) = 0 then
        (f_m11_netsOf v3 S).bind fun q7 =>
        if q7.1 = 0 then
          (rf (c1 &&& (v3 ^^^ (-1))) q7.2).bind fun q9 =>
          knx (1 + q9.1) fun x10 =>
          knx (if x10 ≤ v2 then v2 else x10) fun x12 =>
          j60 x12 q9.2
        else
          j60 v2 q7.2
      else
        j60 v2 S
theorem ok_m11_groupsOf_L10 {l : Launch} {G : kG} (dd : Nat) (hdd : 4 ≤ dd) {E : kE}   (rf : Int32 → kSt → Option (Int32 × kSt)) (hrf : ∀ (a1 : Int32) (S : kSt), kFn l G E E kjI m11_groupsOf (dd) [.ref 14, .int a1] S (rf a1 S)) (c1 : Int32) (k66 : Int32 → kSt → Option (Int32 × kSt)) (hk66 : ∀ (v2 : Int32) (S : kSt), kOk l G E (kZ G E kjI) m11_groupsOf (kdp ((dd + 1))) (k66 v2 S) 66 [(2, .int v2)] [] S) : ∀ (n : Nat) (v2 : Int32) (v3 : Int32) (S : kSt), kOk l G E (kZ G E kjI) m11_groupsOf (kdp ((dd + 1))) (f_m11_groupsOf_L10 rf k66 c1 n v2 v3 S) 10 [(0, .ref 14), (1, .int c1), (2, .int v2), (3, .int v3)] [] S := by
  intro n
  induction n with
  | zero => intro v2 v3 S; exact ok_none
  | succ n ih =>
    intro v2 v3 S
    rw [f_m11_groupsOf_L10]
    refine ok_iload_n 3 (kd_m11_groupsOf.at 8 rfl) rfl rfl ?_
    refine ok_iload_n 1 (kd_m11_groupsOf.at 9 rfl) rfl rfl ?_
    refine ok_icmp_ge (tgt := 66) (kd_m11_groupsOf.at 10 rfl) (by decide) (fun h2 => ?_) (fun h2 => ?_)
    · refine ok_sub (lv' := [(2, .int v2)]) [2] rfl ?_
      exact hk66 v2 S
    · refine ok_iload_n 3 (kd_m11_groupsOf.at 11 rfl) rfl rfl ?_
      refine ok_iload_n 1 (kd_m11_groupsOf.at 12 rfl) rfl rfl ?_
      refine ok_iconst (v := (-1)) (kd_m11_groupsOf.at 13 rfl) (by decide) ?_
      refine ok_ixor (kd_m11_groupsOf.at 14 rfl) ?_
      refine ok_iand (kd_m11_groupsOf.at 15 rfl) ?_
      refine ok_nx (fun j60 hj60 => ?_)
      have K60 : ∀ (x3 : Int32) (S4 : kSt), kOk l G E (kZ G E kjI) m11_groupsOf (kdp ((dd + 1))) (j60 x3 S4) 60 [(0, .ref 14), (1, .int c1), (2, .int x3), (3, .int v3)] [] S4 := by
        subst hj60
        intro x3 S4
        refine ok_nx (fun x5 hx5 => ?_)
        refine ok_iinc (v := x5) (lv' := [(3, .int x5), (0, .ref 14), (1, .int c1), (2, .int x3)]) 3 (kd_m11_groupsOf.at 39 rfl) rfl hx5.symm (by decide) rfl ?_
        refine ok_goto (tgt := 10) (kd_m11_groupsOf.at 40 rfl) (by decide) ?_
        refine ok_sub (lv' := [(0, .ref 14), (1, .int c1), (2, .int x3), (3, .int x5)]) [1, 2, 3, 0] rfl ?_
        exact ih x3 x5 S4
      clear hj60
      refine ok_if_ne (tgt := 60) (kd_m11_groupsOf.at 16 rfl) (by decide) (fun h6 => ?_) (fun h6 => ?_)
      · exact K60 v2 S
      · refine ok_aload_n 0 (kd_m11_groupsOf.at 17 rfl) rfl rfl ?_
        refine ok_iload_n 3 (kd_m11_groupsOf.at 18 rfl) rfl rfl ?_
        refine ok_callVI (M' := m11_netsOf) (as := [.int v3]) (st := []) (kd_m11_groupsOf.at 19 rfl) kc11_343 sh_14 rfl rfl (by decide) (ok_m11_netsOf v3 S) (kfit_of (by omega)) rfl (Nat.le_of_ble_eq_true rfl) (fun q7 hq7 => ?_)
        refine ok_if_eq (tgt := 34) (kd_m11_groupsOf.at 20 rfl) (by decide) (fun h8 => ?_) (fun h8 => ?_)
        · refine ok_iconst (v := 1) (kd_m11_groupsOf.at 22 rfl) (by decide) ?_
          refine ok_aload_n 0 (kd_m11_groupsOf.at 23 rfl) rfl rfl ?_
          refine ok_iload_n 1 (kd_m11_groupsOf.at 24 rfl) rfl rfl ?_
          refine ok_iload_n 3 (kd_m11_groupsOf.at 25 rfl) rfl rfl ?_
          refine ok_iconst (v := (-1)) (kd_m11_groupsOf.at 26 rfl) (by decide) ?_
          refine ok_ixor (kd_m11_groupsOf.at 27 rfl) ?_
          refine ok_iand (kd_m11_groupsOf.at 28 rfl) ?_
          refine ok_callVI (M' := m11_groupsOf) (as := [.int (c1 &&& (v3 ^^^ (-1)))]) (st := [.int 1]) (kd_m11_groupsOf.at 29 rfl) kc11_346 sh_14 rfl rfl (by decide) (hrf (c1 &&& (v3 ^^^ (-1))) q7.2) (kfit_of (by omega)) rfl (Nat.le_of_ble_eq_true rfl) (fun q9 hq9 => ?_)
          refine ok_iadd (kd_m11_groupsOf.at 30 rfl) ?_
          refine ok_topi (fun x10 hx10 => ?_)
          refine ok_istore (lv' := [(4, .int x10), (0, .ref 14), (1, .int c1), (2, .int v2), (3, .int v3)]) (kd_m11_groupsOf.at 31 rfl) (by decide) rfl ?_
          refine ok_iload 0 (kd_m11_groupsOf.at 32 rfl) rfl ?_
          refine ok_iload_n 3 (kd_m11_groupsOf.at 33 rfl) rfl rfl ?_
          refine ok_fold (α := Int32) (pcJ := 59) (lvJ := [(4, .int x10), (0, .ref 14), (1, .int c1), (2, .int v2), (3, .int v3)]) (stJ := []) (mk := fun v => .int v) (fun K => ?_) (fun x12 => ?_)
          · refine ok_ap ?_
            refine ok_icmp_le (tgt := 58) (kd_m11_groupsOf.at 34 rfl) (by decide) (fun h11 => ?_) (fun h11 => ?_)
            · refine ok_iload_n 3 (kd_m11_groupsOf.at 37 rfl) rfl rfl ?_
              exact K v2
            · refine ok_iload 0 (kd_m11_groupsOf.at 35 rfl) rfl ?_
              refine ok_goto (tgt := 59) (kd_m11_groupsOf.at 36 rfl) (by decide) ?_
              exact K x10
          · refine ok_istore_n (lv' := [(2, .int x12), (4, .int x10), (0, .ref 14), (1, .int c1), (3, .int v3)]) (kd_m11_groupsOf.at 38 rfl) rfl (by decide) rfl ?_
            refine ok_sub (lv' := [(0, .ref 14), (1, .int c1), (2, .int x12), (3, .int v3)]) [2, 3, 0, 4] rfl ?_
            exact K60 x12 q9.2
        · refine ok_goto (tgt := 60) (kd_m11_groupsOf.at 21 rfl) (by decide) ?_
          exact K60 v2 q7.2
def f_m11_groupsOf : Nat → Int32 → kSt → Option (Int32 × kSt)
  | 0, _, _ => none
  | rn + 1, a1, S =>
    knx (fun (a1 : Int32) (S : kSt) => f_m11_groupsOf rn a1 S) fun rf =>
    if a1 = 0 then
      some (0, S)
    else
      f_m11_groupsOf_L10 rf
        (fun (x13 : Int32) (S14 : kSt) =>
          some (x13, S14)
        )
        a1 kFU 1 1 S
theorem ok_m11_groupsOf {l : Launch} {G : kG} {E : kE} : ∀ (rn : Nat) (a1 : Int32) (S : kSt), kFn l G E E kjI m11_groupsOf (4 + rn) [.ref 14, .int a1] S (f_m11_groupsOf rn a1 S) := by
  intro rn
  induction rn with
  | zero => intro a1 S q hq; cases hq
  | succ rn ih =>
    intro a1 S
    rw [f_m11_groupsOf]
    refine kFn_of (by decide +kernel) (fun _ => Nat.le_of_ble_eq_true rfl) ?_
    show kOk _ _ _ _ _ (kdp (4 + rn + 1)) _ _ [(0, .ref 14), (1, .int a1)] _ _
    refine ok_nx (fun rf hrf0 => ?_)
    have hrf : ∀ (a1 : Int32) (S : kSt), kFn l G E E kjI m11_groupsOf (4 + rn) [.ref 14, .int a1] S (rf a1 S) := by
      subst hrf0
      exact ih
    clear hrf0 ih
    refine ok_iload_n 1 (kd_m11_groupsOf.at 0 rfl) rfl rfl ?_
    refine ok_if_ne (tgt := 6) (kd_m11_groupsOf.at 1 rfl) (by decide) (fun h1 => ?_) (fun h1 => ?_)
    · refine ok_iconst (v := 1) (kd_m11_groupsOf.at 4 rfl) (by decide) ?_
      refine ok_istore_n (lv' := [(2, .int 1), (0, .ref 14), (1, .int a1)]) (kd_m11_groupsOf.at 5 rfl) rfl (by decide) rfl ?_
      refine ok_iconst (v := 1) (kd_m11_groupsOf.at 6 rfl) (by decide) ?_
      refine ok_istore_n (lv' := [(3, .int 1), (2, .int 1), (0, .ref 14), (1, .int a1)]) (kd_m11_groupsOf.at 7 rfl) rfl (by decide) rfl ?_
      refine ok_sub (lv' := [(0, .ref 14), (1, .int a1), (2, .int 1), (3, .int 1)]) [2, 3, 1, 0] rfl ?_
      refine ok_m11_groupsOf_L10 (4 + rn) (by omega) rf hrf a1 _ (fun x13 S14 => ?_) kFU 1 1 S
      refine ok_iload_n 0 (kd_m11_groupsOf.at 41 rfl) rfl rfl ?_
      exact ok_ireturn (kd_m11_groupsOf.at 42 rfl) rfl
    · refine ok_iconst (v := 0) (kd_m11_groupsOf.at 2 rfl) (by decide) ?_
      exact ok_ireturn (kd_m11_groupsOf.at 3 rfl) rfl
def f_m11_payments_L21   (k55 : Int32 → kSt → Option (Int32 × kSt))  : Nat → Int32 → Int32 → kSt → Option (Int32 × kSt)
  | 0, _, _, _ => none
  | n + 1, v1, v2, S =>
    if (S.1 57 2) ≤ v2 then
      k55 v1 S
    else
      (f_m11_netOf v2 S).bind fun q5 =>
      knx (fun (x6 : Int32) (S7 : kSt) =>
        knx (v1 ||| x6) fun x8 =>
        knx (v2 + 1) fun x9 =>
        f_m11_payments_L21 k55 n x8 x9 S7
        ) fun j47 =>
      if q5.1 = 0 then
        j47 0 q5.2
      else
        j47 (1 <<< (v2 &&& 31)) q5.2
theorem ok_m11_payments_L21 {l : Launch} {G : kG} {E : kE}     (k55 : Int32 → kSt → Option (Int32 × kSt)) (hk55 : ∀ (v1 : Int32) (S : kSt), kOk l G E (kZ G E kjI) m11_payments (kdp (14)) (k55 v1 S) 55 [(0, .ref 14), (1, .int v1)] [] S) : ∀ (n : Nat) (v1 : Int32) (v2 : Int32) (S : kSt), kOk l G E (kZ G E kjI) m11_payments (kdp (14)) (f_m11_payments_L21 k55 n v1 v2 S) 21 [(0, .ref 14), (1, .int v1), (2, .int v2)] [] S := by
  intro n
  induction n with
  | zero => intro v1 v2 S; exact ok_none
  | succ n ih =>
    intro v1 v2 S
    rw [f_m11_payments_L21]
    refine ok_iload_n 2 (kd_m11_payments.at 13 rfl) rfl rfl ?_
    refine ok_aload_n 0 (kd_m11_payments.at 14 rfl) rfl rfl ?_
    refine ok_getR (kd_m11_payments.at 15 rfl) kf11_20 sh_14 rfl (kr_14_15 _) ?_
    refine ok_iconst (v := 2) (kd_m11_payments.at 16 rfl) (by decide) ?_
    refine ok_ialdK (j := 2) (kd_m11_payments.at 17 rfl) sh_57 (by decide) (by decide) ?_
    refine ok_icmp_ge (tgt := 55) (kd_m11_payments.at 18 rfl) (by decide) (fun h4 => ?_) (fun h4 => ?_)
    · refine ok_sub (lv' := [(0, .ref 14), (1, .int v1)]) [0, 1] rfl ?_
      exact hk55 v1 S
    · refine ok_iload_n 1 (kd_m11_payments.at 19 rfl) rfl rfl ?_
      refine ok_aload_n 0 (kd_m11_payments.at 20 rfl) rfl rfl ?_
      refine ok_iload_n 2 (kd_m11_payments.at 21 rfl) rfl rfl ?_
      refine ok_callVI (M' := m11_netOf) (as := [.int v2]) (st := [.int v1]) (kd_m11_payments.at 22 rfl) kc11_339 sh_14 rfl rfl (by decide) (ok_m11_netOf v2 S) (kfit_of (by decide)) rfl (Nat.le_of_ble_eq_true rfl) (fun q5 hq5 => ?_)
      refine ok_nx (fun j47 hj47 => ?_)
      have K47 : ∀ (x6 : Int32) (S7 : kSt), kOk l G E (kZ G E kjI) m11_payments (kdp (14)) (j47 x6 S7) 47 [(0, .ref 14), (2, .int v2)] [.int x6, .int v1] S7 := by
        subst hj47
        intro x6 S7
        refine ok_ior (kd_m11_payments.at 29 rfl) ?_
        refine ok_topi (fun x8 hx8 => ?_)
        refine ok_istore_n (lv' := [(1, .int x8), (0, .ref 14), (2, .int v2)]) (kd_m11_payments.at 30 rfl) rfl (by decide) rfl ?_
        refine ok_nx (fun x9 hx9 => ?_)
        refine ok_iinc (v := x9) (lv' := [(2, .int x9), (1, .int x8), (0, .ref 14)]) 2 (kd_m11_payments.at 31 rfl) rfl hx9.symm (by decide) rfl ?_
        refine ok_goto (tgt := 21) (kd_m11_payments.at 32 rfl) (by decide) ?_
        refine ok_sub (lv' := [(0, .ref 14), (1, .int x8), (2, .int x9)]) [2, 1, 0] rfl ?_
        exact ih x8 x9 S7
      clear hj47
      refine ok_if_ne (tgt := 44) (kd_m11_payments.at 23 rfl) (by decide) (fun h10 => ?_) (fun h10 => ?_)
      · refine ok_iconst (v := 1) (kd_m11_payments.at 26 rfl) (by decide) ?_
        refine ok_iload_n 2 (kd_m11_payments.at 27 rfl) rfl rfl ?_
        refine ok_ishl (kd_m11_payments.at 28 rfl) ?_
        refine ok_sub (lv' := [(0, .ref 14), (2, .int v2)]) [0, 2] rfl ?_
        exact K47 (1 <<< (v2 &&& 31)) q5.2
      · refine ok_iconst (v := 0) (kd_m11_payments.at 24 rfl) (by decide) ?_
        refine ok_goto (tgt := 47) (kd_m11_payments.at 25 rfl) (by decide) ?_
        refine ok_sub (lv' := [(0, .ref 14), (2, .int v2)]) [0, 2] rfl ?_
        exact K47 0 q5.2
def f_m11_payments  (S : kSt) : Option (Int32 × kSt) :=
  (f_m11_good  S).bind fun q1 =>
  kgb (q1.1 14 14) fun b2 =>
  if b2 then
    f_m11_payments_L21 
      (fun (x11 : Int32) (S12 : kSt) =>
        (f_m11_ones x11 S12).bind fun q13 =>
        (f_m11_groupsOf 9 x11 q13.2).bind fun q14 =>
        some (q13.1 - q14.1, q14.2)
      )
      kFU 0 0 q1
  else
    (f_m11_no 1 q1).bind fun q15 =>
    some (q15.1, q15.2)
theorem ok_m11_payments {l : Launch} {G : kG} {E : kE}   (S : kSt) : kFn l G E E kjI m11_payments 14 [.ref 14] S (f_m11_payments  S) := by
  unfold f_m11_payments
  refine kFn_of (by decide +kernel) (fun hG => Nat.le_of_ble_eq_true rfl) ?_
  show kOk _ _ _ _ _ _ _ _ [(0, .ref 14)] _ _
  refine ok_aload_n 0 (kd_m11_payments.at 0 rfl) rfl rfl ?_
  refine ok_callVV (M' := m11_good) (as := []) (st := []) (kd_m11_payments.at 1 rfl) kc11_164 sh_14 rfl rfl (by decide) (ok_m11_good  S) (kfit_of (by decide)) rfl (Nat.le_of_ble_eq_true rfl) (fun q1 hq1 => ?_)
  refine ok_aload_n 0 (kd_m11_payments.at 2 rfl) rfl rfl ?_
  refine ok_getZ (kd_m11_payments.at 3 rfl) kf11_177 sh_14 rfl (fun b2 => ?_)
  refine ok_ifb_ne (tgt := 17) (kd_m11_payments.at 4 rfl) (by decide) (fun h3 => ?_) (fun h3 => ?_)
  · refine ok_iconst (v := 0) (kd_m11_payments.at 9 rfl) (by decide) ?_
    refine ok_istore_n (lv' := [(1, .int 0), (0, .ref 14)]) (kd_m11_payments.at 10 rfl) rfl (by decide) rfl ?_
    refine ok_iconst (v := 0) (kd_m11_payments.at 11 rfl) (by decide) ?_
    refine ok_istore_n (lv' := [(2, .int 0), (1, .int 0), (0, .ref 14)]) (kd_m11_payments.at 12 rfl) rfl (by decide) rfl ?_
    refine ok_sub (lv' := [(0, .ref 14), (1, .int 0), (2, .int 0)]) [2, 1, 0] rfl ?_
    refine ok_m11_payments_L21 _ (fun x11 S12 => ?_) kFU 0 0 q1
    refine ok_iload_n 1 (kd_m11_payments.at 33 rfl) rfl rfl ?_
    refine ok_callSI (M' := m11_ones) (as := [.int x11]) (st := []) (kd_m11_payments.at 34 rfl) kc11_349  rfl (by decide) (ok_m11_ones x11 S12) (kfit_of (by decide)) rfl (Nat.le_of_ble_eq_true rfl) (fun q13 hq13 => ?_)
    refine ok_aload_n 0 (kd_m11_payments.at 35 rfl) rfl rfl ?_
    refine ok_iload_n 1 (kd_m11_payments.at 36 rfl) rfl rfl ?_
    refine ok_callVI (M' := m11_groupsOf) (as := [.int x11]) (st := [.int q13.1]) (kd_m11_payments.at 37 rfl) kc11_346 sh_14 rfl rfl (by decide) (ok_m11_groupsOf 9 x11 q13.2) (kfit_of (by decide)) rfl (Nat.le_of_ble_eq_true rfl) (fun q14 hq14 => ?_)
    refine ok_isub (kd_m11_payments.at 38 rfl) ?_
    exact ok_ireturn (kd_m11_payments.at 39 rfl) rfl
  · refine ok_aload_n 0 (kd_m11_payments.at 5 rfl) rfl rfl ?_
    refine ok_iconst (v := 1) (kd_m11_payments.at 6 rfl) (by decide) ?_
    refine ok_callVI (M' := m11_no) (as := [.int 1]) (st := []) (kd_m11_payments.at 7 rfl) kc11_167 sh_14 rfl rfl (by decide) (ok_m11_no 1 q1) (kfit_of (by decide)) rfl (Nat.le_of_ble_eq_true rfl) (fun q15 hq15 => ?_)
    exact ok_ireturn (kd_m11_payments.at 8 rfl) rfl
def f_m11_tryRing_L57  (rf : Int32 → Int32 → kSt → Option kSt) (k119 : kSt → Option kSt) (c1 : Int32) (c2 : Int32) : Nat → Int32 → kSt → Option kSt
  | 0, _, _ => none
  | n + 1, v3, S =>
    if (S.1 57 2) ≤ v3 then
      k119  S
    else
      (f_m11_hasBit c2 v3 S).bind fun q4 =>
      knx (fun  (S5 : kSt) =>
        knx (v3 + 1) fun x6 =>
        f_m11_tryRing_L57 rf k119 c1 c2 n x6 S5
        ) fun j113 =>
      if q4.1 then
        j113  q4.2
      else
        knx (c1 - 1) fun x8 =>
        kgi x8 5 (
          (f_m11_debtOf (q4.2.1 67 x8.toNatClampNeg) v3 q4.2).bind fun q9 =>
          if q9.1 = 0 then
            j113  q9.2
          else
            kgi c1 5 (
              knx (kuI q9.2 67 c1.toNatClampNeg v3) fun S11 =>
              (rf (c1 + 1) (c2 ||| (1 <<< (v3 &&& 31))) S11).bind fun q12 =>
              j113  q12
            )
        )
theorem ok_m11_tryRing_L57 {l : Launch} {G : kG} (dd : Nat) (hdd : 2 ≤ dd) {E : kE}   (rf : Int32 → Int32 → kSt → Option kSt) (hrf : ∀ (a1 : Int32) (a2 : Int32) (S : kSt), kFn l G E E kjV m11_tryRing (dd) [.ref 14, .int a1, .int a2] S (rf a1 a2 S)) (c1 : Int32) (c2 : Int32) (k119 : kSt → Option kSt) (hk119 : ∀  (S : kSt), kOk l G E (kZ G E kjV) m11_tryRing (kdp ((dd + 1))) (k119  S) 119 [] [] S) : ∀ (n : Nat) (v3 : Int32) (S : kSt), kOk l G E (kZ G E kjV) m11_tryRing (kdp ((dd + 1))) (f_m11_tryRing_L57 rf k119 c1 c2 n v3 S) 57 [(0, .ref 14), (1, .int c1), (2, .int c2), (3, .int v3)] [] S := by
  intro n
  induction n with
  | zero => intro v3 S; exact ok_none
  | succ n ih =>
    intro v3 S
    rw [f_m11_tryRing_L57]
    refine ok_iload_n 3 (kd_m11_tryRing.at 35 rfl) rfl rfl ?_
    refine ok_aload_n 0 (kd_m11_tryRing.at 36 rfl) rfl rfl ?_
    refine ok_getR (kd_m11_tryRing.at 37 rfl) kf11_20 sh_14 rfl (kr_14_15 _) ?_
    refine ok_iconst (v := 2) (kd_m11_tryRing.at 38 rfl) (by decide) ?_
    refine ok_ialdK (j := 2) (kd_m11_tryRing.at 39 rfl) sh_57 (by decide) (by decide) ?_
    refine ok_icmp_ge (tgt := 119) (kd_m11_tryRing.at 40 rfl) (by decide) (fun h3 => ?_) (fun h3 => ?_)
    · refine ok_sub (lv' := []) [] rfl ?_
      exact hk119  S
    · refine ok_iload_n 2 (kd_m11_tryRing.at 41 rfl) rfl rfl ?_
      refine ok_iload_n 3 (kd_m11_tryRing.at 42 rfl) rfl rfl ?_
      refine ok_callSB (M' := m11_hasBit) (as := [.int c2, .int v3]) (st := []) (kd_m11_tryRing.at 43 rfl) kc11_306  rfl (by decide) (ok_m11_hasBit c2 v3 S) (kfit_of (by omega)) rfl (Nat.le_of_ble_eq_true rfl) (fun q4 hq4 => ?_)
      refine ok_nx (fun j113 hj113 => ?_)
      have K113 : ∀  (S5 : kSt), kOk l G E (kZ G E kjV) m11_tryRing (kdp ((dd + 1))) (j113  S5) 113 [(0, .ref 14), (1, .int c1), (2, .int c2), (3, .int v3)] [] S5 := by
        subst hj113
        intro  S5
        refine ok_nx (fun x6 hx6 => ?_)
        refine ok_iinc (v := x6) (lv' := [(3, .int x6), (0, .ref 14), (1, .int c1), (2, .int c2)]) 3 (kd_m11_tryRing.at 71 rfl) rfl hx6.symm (by decide) rfl ?_
        refine ok_goto (tgt := 57) (kd_m11_tryRing.at 72 rfl) (by decide) ?_
        refine ok_sub (lv' := [(0, .ref 14), (1, .int c1), (2, .int c2), (3, .int x6)]) [1, 2, 3, 0] rfl ?_
        exact ih x6 S5
      clear hj113
      refine ok_ifb_ne (tgt := 113) (kd_m11_tryRing.at 44 rfl) (by decide) (fun h7 => ?_) (fun h7 => ?_)
      · exact K113  q4.2
      · refine ok_aload_n 0 (kd_m11_tryRing.at 45 rfl) rfl rfl ?_
        refine ok_aload_n 0 (kd_m11_tryRing.at 46 rfl) rfl rfl ?_
        refine ok_getR (kd_m11_tryRing.at 47 rfl) kf11_50 sh_14 rfl (kr_14_34 _) ?_
        refine ok_iload_n 1 (kd_m11_tryRing.at 48 rfl) rfl rfl ?_
        refine ok_iconst (v := 1) (kd_m11_tryRing.at 49 rfl) (by decide) ?_
        refine ok_isub (kd_m11_tryRing.at 50 rfl) ?_
        refine ok_topi (fun x8 hx8 => ?_)
        refine ok_iald (kd_m11_tryRing.at 51 rfl) sh_67 ?_
        refine ok_iload_n 3 (kd_m11_tryRing.at 52 rfl) rfl rfl ?_
        refine ok_callVI (M' := m11_debtOf) (as := [.int (q4.2.1 67 x8.toNatClampNeg), .int v3]) (st := []) (kd_m11_tryRing.at 53 rfl) kc11_336 sh_14 rfl rfl (by decide) (ok_m11_debtOf (q4.2.1 67 x8.toNatClampNeg) v3 q4.2) (kfit_of (by omega)) rfl (Nat.le_of_ble_eq_true rfl) (fun q9 hq9 => ?_)
        refine ok_if_ne (tgt := 94) (kd_m11_tryRing.at 54 rfl) (by decide) (fun h10 => ?_) (fun h10 => ?_)
        · refine ok_aload_n 0 (kd_m11_tryRing.at 56 rfl) rfl rfl ?_
          refine ok_getR (kd_m11_tryRing.at 57 rfl) kf11_50 sh_14 rfl (kr_14_34 _) ?_
          refine ok_iload_n 1 (kd_m11_tryRing.at 58 rfl) rfl rfl ?_
          refine ok_iload_n 3 (kd_m11_tryRing.at 59 rfl) rfl rfl ?_
          refine ok_iast (kd_m11_tryRing.at 60 rfl) sh_67 ?_
          refine ok_nS (fun S11 hS11 => ?_)
          refine ok_aload_n 0 (kd_m11_tryRing.at 61 rfl) rfl rfl ?_
          refine ok_iload_n 1 (kd_m11_tryRing.at 62 rfl) rfl rfl ?_
          refine ok_iconst (v := 1) (kd_m11_tryRing.at 63 rfl) (by decide) ?_
          refine ok_iadd (kd_m11_tryRing.at 64 rfl) ?_
          refine ok_iload_n 2 (kd_m11_tryRing.at 65 rfl) rfl rfl ?_
          refine ok_iconst (v := 1) (kd_m11_tryRing.at 66 rfl) (by decide) ?_
          refine ok_iload_n 3 (kd_m11_tryRing.at 67 rfl) rfl rfl ?_
          refine ok_ishl (kd_m11_tryRing.at 68 rfl) ?_
          refine ok_ior (kd_m11_tryRing.at 69 rfl) ?_
          refine ok_callVV (M' := m11_tryRing) (as := [.int (c1 + 1), .int (c2 ||| (1 <<< (v3 &&& 31)))]) (st := []) (kd_m11_tryRing.at 70 rfl) kc11_355 sh_14 rfl rfl (by decide) (hrf (c1 + 1) (c2 ||| (1 <<< (v3 &&& 31))) S11) (kfit_of (by omega)) rfl (Nat.le_of_ble_eq_true rfl) (fun q12 hq12 => ?_)
          exact K113  q12
        · refine ok_goto (tgt := 113) (kd_m11_tryRing.at 55 rfl) (by decide) ?_
          exact K113  q9.2
def f_m11_tryRing : Nat → Int32 → Int32 → kSt → Option kSt
  | 0, _, _, _ => none
  | rn + 1, a1, a2, S =>
    knx (fun (a1 : Int32) (a2 : Int32) (S : kSt) => f_m11_tryRing rn a1 a2 S) fun rf =>
    if a1 < (S.1 14 36) then
      knx (fun  (S2 : kSt) =>
        f_m11_tryRing_L57 rf
          (fun  (S13 : kSt) =>
            some S13
          )
          a1 a2 kFU 0 S2
        ) fun j55 =>
      if a1 ≤ 1 then
        j55  S
      else
        knx (a1 - 1) fun x15 =>
        kgi x15 5 (
          (f_m11_debtOf (S.1 67 x15.toNatClampNeg) (S.1 67 0) S).bind fun q16 =>
          if q16.1 ≤ 0 then
            j55  q16.2
          else
            knx (kuI q16.2 14 36 a1) fun S18 =>
            (f_m11_copy 67 5 0 68 5 0 5 S18).bind fun q19 =>
            some q19
        )
    else
      some S
theorem ok_m11_tryRing {l : Launch} {G : kG} {E : kE} : ∀ (rn : Nat) (a1 : Int32) (a2 : Int32) (S : kSt), kFn l G E E kjV m11_tryRing (2 + rn) [.ref 14, .int a1, .int a2] S (f_m11_tryRing rn a1 a2 S) := by
  intro rn
  induction rn with
  | zero => intro a1 a2 S q hq; cases hq
  | succ rn ih =>
    intro a1 a2 S
    rw [f_m11_tryRing]
    refine kFn_of (by decide +kernel) (fun _ => Nat.le_of_ble_eq_true rfl) ?_
    show kOk _ _ _ _ _ (kdp (2 + rn + 1)) _ _ [(0, .ref 14), (1, .int a1), (2, .int a2)] _ _
    refine ok_nx (fun rf hrf0 => ?_)
    have hrf : ∀ (a1 : Int32) (a2 : Int32) (S : kSt), kFn l G E E kjV m11_tryRing (2 + rn) [.ref 14, .int a1, .int a2] S (rf a1 a2 S) := by
      subst hrf0
      exact ih
    clear hrf0 ih
    refine ok_iload_n 1 (kd_m11_tryRing.at 0 rfl) rfl rfl ?_
    refine ok_aload_n 0 (kd_m11_tryRing.at 1 rfl) rfl rfl ?_
    refine ok_getI (kd_m11_tryRing.at 2 rfl) kf11_352 sh_14 rfl ?_
    refine ok_icmp_lt (tgt := 9) (kd_m11_tryRing.at 3 rfl) (by decide) (fun h1 => ?_) (fun h1 => ?_)
    · refine ok_iload_n 1 (kd_m11_tryRing.at 5 rfl) rfl rfl ?_
      refine ok_iconst (v := 1) (kd_m11_tryRing.at 6 rfl) (by decide) ?_
      refine ok_nx (fun j55 hj55 => ?_)
      have K55 : ∀  (S2 : kSt), kOk l G E (kZ G E kjV) m11_tryRing (kdp ((2 + rn + 1))) (j55  S2) 55 [(0, .ref 14), (1, .int a1), (2, .int a2)] [] S2 := by
        subst hj55
        intro  S2
        refine ok_iconst (v := 0) (kd_m11_tryRing.at 33 rfl) (by decide) ?_
        refine ok_istore_n (lv' := [(3, .int 0), (0, .ref 14), (1, .int a1), (2, .int a2)]) (kd_m11_tryRing.at 34 rfl) rfl (by decide) rfl ?_
        refine ok_sub (lv' := [(0, .ref 14), (1, .int a1), (2, .int a2), (3, .int 0)]) [1, 2, 3, 0] rfl ?_
        refine ok_m11_tryRing_L57 (2 + rn) (by omega) rf hrf a1 a2 _ (fun S13 => ?_) kFU 0 S2
        exact ok_return (kd_m11_tryRing.at 73 rfl) rfl
      clear hj55
      refine ok_icmp_le (tgt := 55) (kd_m11_tryRing.at 7 rfl) (by decide) (fun h14 => ?_) (fun h14 => ?_)
      · exact K55  S
      · refine ok_aload_n 0 (kd_m11_tryRing.at 8 rfl) rfl rfl ?_
        refine ok_aload_n 0 (kd_m11_tryRing.at 9 rfl) rfl rfl ?_
        refine ok_getR (kd_m11_tryRing.at 10 rfl) kf11_50 sh_14 rfl (kr_14_34 _) ?_
        refine ok_iload_n 1 (kd_m11_tryRing.at 11 rfl) rfl rfl ?_
        refine ok_iconst (v := 1) (kd_m11_tryRing.at 12 rfl) (by decide) ?_
        refine ok_isub (kd_m11_tryRing.at 13 rfl) ?_
        refine ok_topi (fun x15 hx15 => ?_)
        refine ok_iald (kd_m11_tryRing.at 14 rfl) sh_67 ?_
        refine ok_aload_n 0 (kd_m11_tryRing.at 15 rfl) rfl rfl ?_
        refine ok_getR (kd_m11_tryRing.at 16 rfl) kf11_50 sh_14 rfl (kr_14_34 _) ?_
        refine ok_iconst (v := 0) (kd_m11_tryRing.at 17 rfl) (by decide) ?_
        refine ok_ialdK (j := 0) (kd_m11_tryRing.at 18 rfl) sh_67 (by decide) (by decide) ?_
        refine ok_callVI (M' := m11_debtOf) (as := [.int (S.1 67 x15.toNatClampNeg), .int (S.1 67 0)]) (st := []) (kd_m11_tryRing.at 19 rfl) kc11_336 sh_14 rfl rfl (by decide) (ok_m11_debtOf (S.1 67 x15.toNatClampNeg) (S.1 67 0) S) (kfit_of (by omega)) rfl (Nat.le_of_ble_eq_true rfl) (fun q16 hq16 => ?_)
        refine ok_if_le (tgt := 55) (kd_m11_tryRing.at 20 rfl) (by decide) (fun h17 => ?_) (fun h17 => ?_)
        · exact K55  q16.2
        · refine ok_aload_n 0 (kd_m11_tryRing.at 21 rfl) rfl rfl ?_
          refine ok_iload_n 1 (kd_m11_tryRing.at 22 rfl) rfl rfl ?_
          refine ok_putI (kd_m11_tryRing.at 23 rfl) kf11_352 sh_14 rfl rfl ?_
          refine ok_nS (fun S18 hS18 => ?_)
          refine ok_aload_n 0 (kd_m11_tryRing.at 24 rfl) rfl rfl ?_
          refine ok_getR (kd_m11_tryRing.at 25 rfl) kf11_50 sh_14 rfl (kr_14_34 _) ?_
          refine ok_iconst (v := 0) (kd_m11_tryRing.at 26 rfl) (by decide) ?_
          refine ok_aload_n 0 (kd_m11_tryRing.at 27 rfl) rfl rfl ?_
          refine ok_getR (kd_m11_tryRing.at 28 rfl) kf11_53 sh_14 rfl (kr_14_35 _) ?_
          refine ok_iconst (v := 0) (kd_m11_tryRing.at 29 rfl) (by decide) ?_
          refine ok_iconst (v := 5) (kd_m11_tryRing.at 30 rfl) (by decide) ?_
          refine ok_callSV (M' := m11_copy) (as := [.ref 67, .int 0, .ref 68, .int 0, .int 5]) (st := []) (kd_m11_tryRing.at 31 rfl) kc11_173  rfl (by decide) (ok_m11_copy 67 5 0 68 5 0 5 sh_67 sh_68 S18) (kfit_of (by omega)) rfl (Nat.le_of_ble_eq_true rfl) (fun q19 hq19 => ?_)
          exact ok_return (kd_m11_tryRing.at 32 rfl) rfl
    · exact ok_return (kd_m11_tryRing.at 4 rfl) rfl
def f_m11_seekRing (a1 : Int32) (S : kSt) : Option (Bool × kSt) :=
  knx (kuI S 14 36 100000000) fun S1 =>
  knx (kuI S1 67 0 a1) fun S2 =>
  (f_m11_tryRing 9 1 (1 <<< (a1 &&& 31)) S2).bind fun q3 =>
  if 100000000 ≤ (q3.1 14 36) then
    some (false, q3)
  else
    some (true, q3)
theorem ok_m11_seekRing {l : Launch} {G : kG} {E : kE} (a1 : Int32)  (S : kSt) : kFn l G E E kjB m11_seekRing 12 [.ref 14, .int a1] S (f_m11_seekRing a1 S) := by
  unfold f_m11_seekRing
  refine kFn_of (by decide +kernel) (fun hG => Nat.le_of_ble_eq_true rfl) ?_
  show kOk _ _ _ _ _ _ _ _ [(0, .ref 14), (1, .int a1)] _ _
  refine ok_aload_n 0 (kd_m11_seekRing.at 0 rfl) rfl rfl ?_
  refine ok_ldcw (kd_m11_seekRing.at 1 rfl) kco_11_358 ?_
  refine ok_putI (kd_m11_seekRing.at 2 rfl) kf11_352 sh_14 rfl rfl ?_
  refine ok_nS (fun S1 hS1 => ?_)
  refine ok_aload_n 0 (kd_m11_seekRing.at 3 rfl) rfl rfl ?_
  refine ok_getR (kd_m11_seekRing.at 4 rfl) kf11_50 sh_14 rfl (kr_14_34 _) ?_
  refine ok_iconst (v := 0) (kd_m11_seekRing.at 5 rfl) (by decide) ?_
  refine ok_iload_n 1 (kd_m11_seekRing.at 6 rfl) rfl rfl ?_
  refine ok_iastK (j := 0) (kd_m11_seekRing.at 7 rfl) sh_67 (by decide) (by decide) ?_
  refine ok_nS (fun S2 hS2 => ?_)
  refine ok_aload_n 0 (kd_m11_seekRing.at 8 rfl) rfl rfl ?_
  refine ok_iconst (v := 1) (kd_m11_seekRing.at 9 rfl) (by decide) ?_
  refine ok_iconst (v := 1) (kd_m11_seekRing.at 10 rfl) (by decide) ?_
  refine ok_iload_n 1 (kd_m11_seekRing.at 11 rfl) rfl rfl ?_
  refine ok_ishl (kd_m11_seekRing.at 12 rfl) ?_
  refine ok_callVV (M' := m11_tryRing) (as := [.int 1, .int (1 <<< (a1 &&& 31))]) (st := []) (kd_m11_seekRing.at 13 rfl) kc11_355 sh_14 rfl rfl (by decide) (ok_m11_tryRing 9 1 (1 <<< (a1 &&& 31)) S2) (kfit_of (by decide)) rfl (Nat.le_of_ble_eq_true rfl) (fun q3 hq3 => ?_)
  refine ok_aload_n 0 (kd_m11_seekRing.at 14 rfl) rfl rfl ?_
  refine ok_getI (kd_m11_seekRing.at 15 rfl) kf11_352 sh_14 rfl ?_
  refine ok_ldcw (kd_m11_seekRing.at 16 rfl) kco_11_358 ?_
  refine ok_icmp_ge (tgt := 36) (kd_m11_seekRing.at 17 rfl) (by decide) (fun h4 => ?_) (fun h4 => ?_)
  · refine ok_iconst (v := 0) (kd_m11_seekRing.at 20 rfl) (by decide) ?_
    exact ok_zreturn (x := false) (kd_m11_seekRing.at 21 rfl) rfl
  · refine ok_iconst (v := 1) (kd_m11_seekRing.at 18 rfl) (by decide) ?_
    refine ok_goto (tgt := 37) (kd_m11_seekRing.at 19 rfl) (by decide) ?_
    exact ok_zreturn (x := true) (kd_m11_seekRing.at 21 rfl) rfl
def f_m11_ring (a1 : Int32) (S : kSt) : Option (Int32 × kSt) :=
  (f_m11_good  S).bind fun q1 =>
  (f_m11_isPair a1 q1).bind fun q2 =>
  if q2.1 then
    (f_m11_seekRing a1 q2.2).bind fun q4 =>
    if q4.1 then
      some (q4.2.1 14 36, q4.2)
    else
      some ((-2), q4.2)
  else
    (f_m11_no 1 q2.2).bind fun q6 =>
    some (q6.1, q6.2)
theorem ok_m11_ring {l : Launch} {G : kG} {E : kE} (a1 : Int32)  (S : kSt) : kFn l G E E kjI m11_ring 13 [.ref 14, .int a1] S (f_m11_ring a1 S) := by
  unfold f_m11_ring
  refine kFn_of (by decide +kernel) (fun hG => Nat.le_of_ble_eq_true rfl) ?_
  show kOk _ _ _ _ _ _ _ _ [(0, .ref 14), (1, .int a1)] _ _
  refine ok_aload_n 0 (kd_m11_ring.at 0 rfl) rfl rfl ?_
  refine ok_callVV (M' := m11_good) (as := []) (st := []) (kd_m11_ring.at 1 rfl) kc11_164 sh_14 rfl rfl (by decide) (ok_m11_good  S) (kfit_of (by decide)) rfl (Nat.le_of_ble_eq_true rfl) (fun q1 hq1 => ?_)
  refine ok_aload_n 0 (kd_m11_ring.at 2 rfl) rfl rfl ?_
  refine ok_iload_n 1 (kd_m11_ring.at 3 rfl) rfl rfl ?_
  refine ok_callVB (M' := m11_isPair) (as := [.int a1]) (st := []) (kd_m11_ring.at 4 rfl) kc11_239 sh_14 rfl rfl (by decide) (ok_m11_isPair a1 q1) (kfit_of (by decide)) rfl (Nat.le_of_ble_eq_true rfl) (fun q2 hq2 => ?_)
  refine ok_ifb_ne (tgt := 18) (kd_m11_ring.at 5 rfl) (by decide) (fun h3 => ?_) (fun h3 => ?_)
  · refine ok_aload_n 0 (kd_m11_ring.at 10 rfl) rfl rfl ?_
    refine ok_iload_n 1 (kd_m11_ring.at 11 rfl) rfl rfl ?_
    refine ok_callVB (M' := m11_seekRing) (as := [.int a1]) (st := []) (kd_m11_ring.at 12 rfl) kc11_359 sh_14 rfl rfl (by decide) (ok_m11_seekRing a1 q2.2) (kfit_of (by decide)) rfl (Nat.le_of_ble_eq_true rfl) (fun q4 hq4 => ?_)
    refine ok_ifb_eq (tgt := 33) (kd_m11_ring.at 13 rfl) (by decide) (fun h5 => ?_) (fun h5 => ?_)
    · refine ok_bipush (v := (-2)) (kd_m11_ring.at 17 rfl) (by decide) ?_
      exact ok_ireturn (kd_m11_ring.at 18 rfl) rfl
    · refine ok_aload_n 0 (kd_m11_ring.at 14 rfl) rfl rfl ?_
      refine ok_getI (kd_m11_ring.at 15 rfl) kf11_352 sh_14 rfl ?_
      refine ok_goto (tgt := 35) (kd_m11_ring.at 16 rfl) (by decide) ?_
      exact ok_ireturn (kd_m11_ring.at 18 rfl) rfl
  · refine ok_aload_n 0 (kd_m11_ring.at 6 rfl) rfl rfl ?_
    refine ok_iconst (v := 1) (kd_m11_ring.at 7 rfl) (by decide) ?_
    refine ok_callVI (M' := m11_no) (as := [.int 1]) (st := []) (kd_m11_ring.at 8 rfl) kc11_167 sh_14 rfl rfl (by decide) (ok_m11_no 1 q2.2) (kfit_of (by decide)) rfl (Nat.le_of_ble_eq_true rfl) (fun q6 hq6 => ?_)
    exact ok_ireturn (kd_m11_ring.at 9 rfl) rfl
def f_m11_ringAt (a1 : Int32) (a2 : Int32) (S : kSt) : Option (Int32 × kSt) :=
  (f_m11_good  S).bind fun q1 =>
  (f_m11_isPair a1 q1).bind fun q2 =>
  knx (fun  (S3 : kSt) =>
    (f_m11_no 1 S3).bind fun q4 =>
    some (q4.1, q4.2)
    ) fun j34 =>
  if q2.1 then
    (f_m11_seekRing a1 q2.2).bind fun q6 =>
    if q6.1 then
      (f_m11_in a2 0 ((q6.2.1 14 36) - 1) q6.2).bind fun q8 =>
      if q8.1 then
        kgi a2 5 (
          some (q8.2.1 68 a2.toNatClampNeg, q8.2)
        )
      else
        j34  q8.2
    else
      j34  q6.2
  else
    j34  q2.2
theorem ok_m11_ringAt {l : Launch} {G : kG} {E : kE} (a1 : Int32) (a2 : Int32)  (S : kSt) : kFn l G E E kjI m11_ringAt 13 [.ref 14, .int a1, .int a2] S (f_m11_ringAt a1 a2 S) := by
  unfold f_m11_ringAt
  refine kFn_of (by decide +kernel) (fun hG => Nat.le_of_ble_eq_true rfl) ?_
  show kOk _ _ _ _ _ _ _ _ [(0, .ref 14), (1, .int a1), (2, .int a2)] _ _
  refine ok_aload_n 0 (kd_m11_ringAt.at 0 rfl) rfl rfl ?_
  refine ok_callVV (M' := m11_good) (as := []) (st := []) (kd_m11_ringAt.at 1 rfl) kc11_164 sh_14 rfl rfl (by decide) (ok_m11_good  S) (kfit_of (by decide)) rfl (Nat.le_of_ble_eq_true rfl) (fun q1 hq1 => ?_)
  refine ok_aload_n 0 (kd_m11_ringAt.at 2 rfl) rfl rfl ?_
  refine ok_iload_n 1 (kd_m11_ringAt.at 3 rfl) rfl rfl ?_
  refine ok_callVB (M' := m11_isPair) (as := [.int a1]) (st := []) (kd_m11_ringAt.at 4 rfl) kc11_239 sh_14 rfl rfl (by decide) (ok_m11_isPair a1 q1) (kfit_of (by decide)) rfl (Nat.le_of_ble_eq_true rfl) (fun q2 hq2 => ?_)
  refine ok_nx (fun j34 hj34 => ?_)
  have K34 : ∀  (S3 : kSt), kOk l G E (kZ G E kjI) m11_ringAt (kdp (13)) (j34  S3) 34 [(0, .ref 14)] [] S3 := by
    subst hj34
    intro  S3
    refine ok_aload_n 0 (kd_m11_ringAt.at 18 rfl) rfl rfl ?_
    refine ok_iconst (v := 1) (kd_m11_ringAt.at 19 rfl) (by decide) ?_
    refine ok_callVI (M' := m11_no) (as := [.int 1]) (st := []) (kd_m11_ringAt.at 20 rfl) kc11_167 sh_14 rfl rfl (by decide) (ok_m11_no 1 S3) (kfit_of (by decide)) rfl (Nat.le_of_ble_eq_true rfl) (fun q4 hq4 => ?_)
    exact ok_ireturn (kd_m11_ringAt.at 21 rfl) rfl
  clear hj34
  refine ok_ifb_eq (tgt := 34) (kd_m11_ringAt.at 5 rfl) (by decide) (fun h5 => ?_) (fun h5 => ?_)
  · refine ok_sub (lv' := [(0, .ref 14)]) [0] rfl ?_
    exact K34  q2.2
  · refine ok_aload_n 0 (kd_m11_ringAt.at 6 rfl) rfl rfl ?_
    refine ok_iload_n 1 (kd_m11_ringAt.at 7 rfl) rfl rfl ?_
    refine ok_callVB (M' := m11_seekRing) (as := [.int a1]) (st := []) (kd_m11_ringAt.at 8 rfl) kc11_359 sh_14 rfl rfl (by decide) (ok_m11_seekRing a1 q2.2) (kfit_of (by decide)) rfl (Nat.le_of_ble_eq_true rfl) (fun q6 hq6 => ?_)
    refine ok_ifb_eq (tgt := 34) (kd_m11_ringAt.at 9 rfl) (by decide) (fun h7 => ?_) (fun h7 => ?_)
    · refine ok_sub (lv' := [(0, .ref 14)]) [0] rfl ?_
      exact K34  q6.2
    · refine ok_iload_n 2 (kd_m11_ringAt.at 10 rfl) rfl rfl ?_
      refine ok_iconst (v := 0) (kd_m11_ringAt.at 11 rfl) (by decide) ?_
      refine ok_aload_n 0 (kd_m11_ringAt.at 12 rfl) rfl rfl ?_
      refine ok_getI (kd_m11_ringAt.at 13 rfl) kf11_352 sh_14 rfl ?_
      refine ok_iconst (v := 1) (kd_m11_ringAt.at 14 rfl) (by decide) ?_
      refine ok_isub (kd_m11_ringAt.at 15 rfl) ?_
      refine ok_callSB (M' := m11_in) (as := [.int a2, .int 0, .int ((q6.2.1 14 36) - 1)]) (st := []) (kd_m11_ringAt.at 16 rfl) kc11_146  rfl (by decide) (ok_m11_in a2 0 ((q6.2.1 14 36) - 1) q6.2) (kfit_of (by decide)) rfl (Nat.le_of_ble_eq_true rfl) (fun q8 hq8 => ?_)
      refine ok_ifb_ne (tgt := 40) (kd_m11_ringAt.at 17 rfl) (by decide) (fun h9 => ?_) (fun h9 => ?_)
      · refine ok_aload_n 0 (kd_m11_ringAt.at 22 rfl) rfl rfl ?_
        refine ok_getR (kd_m11_ringAt.at 23 rfl) kf11_53 sh_14 rfl (kr_14_35 _) ?_
        refine ok_iload_n 2 (kd_m11_ringAt.at 24 rfl) rfl rfl ?_
        refine ok_iald (kd_m11_ringAt.at 25 rfl) sh_68 ?_
        exact ok_ireturn (kd_m11_ringAt.at 26 rfl) rfl
      · refine ok_sub (lv' := [(0, .ref 14)]) [0] rfl ?_
        exact K34  q8.2
def f_m11_talksOf (a0 : Int32) (a1 : Bool) (a2 : Bool) (S : kSt) : Option (Int32 × kSt) :=
  if a1 then
    if a2 then
      some (1 - a0, S)
    else
      some (4, S)
  else
    if a2 then
      some ((-1), S)
    else
      some (0, S)
theorem ok_m11_talksOf {l : Launch} {G : kG} {E : kE} (a0 : Int32) (a1 : Bool) (a2 : Bool)  (S : kSt) : kFn l G E E kjI m11_talksOf 1 [.int a0, .int (kb a1), .int (kb a2)] S (f_m11_talksOf a0 a1 a2 S) := by
  unfold f_m11_talksOf
  refine kFn_of (by decide +kernel) (fun hG => Nat.le_of_ble_eq_true rfl) ?_
  show kOk _ _ _ _ _ _ _ _ [(0, .int a0), (1, .int (kb a1)), (2, .int (kb a2))] _ _
  refine ok_iload_n 1 (kd_m11_talksOf.at 0 rfl) rfl rfl ?_
  refine ok_ifb_eq (tgt := 18) (kd_m11_talksOf.at 1 rfl) (by decide) (fun h1 => ?_) (fun h1 => ?_)
  · refine ok_iload_n 2 (kd_m11_talksOf.at 10 rfl) rfl rfl ?_
    refine ok_ifb_eq (tgt := 26) (kd_m11_talksOf.at 11 rfl) (by decide) (fun h2 => ?_) (fun h2 => ?_)
    · refine ok_iconst (v := 0) (kd_m11_talksOf.at 14 rfl) (by decide) ?_
      exact ok_ireturn (kd_m11_talksOf.at 15 rfl) rfl
    · refine ok_iconst (v := (-1)) (kd_m11_talksOf.at 12 rfl) (by decide) ?_
      refine ok_goto (tgt := 27) (kd_m11_talksOf.at 13 rfl) (by decide) ?_
      exact ok_ireturn (kd_m11_talksOf.at 15 rfl) rfl
  · refine ok_iload_n 2 (kd_m11_talksOf.at 2 rfl) rfl rfl ?_
    refine ok_ifb_eq (tgt := 14) (kd_m11_talksOf.at 3 rfl) (by decide) (fun h3 => ?_) (fun h3 => ?_)
    · refine ok_iconst (v := 4) (kd_m11_talksOf.at 8 rfl) (by decide) ?_
      refine ok_goto (tgt := 27) (kd_m11_talksOf.at 9 rfl) (by decide) ?_
      exact ok_ireturn (kd_m11_talksOf.at 15 rfl) rfl
    · refine ok_iconst (v := 1) (kd_m11_talksOf.at 4 rfl) (by decide) ?_
      refine ok_iload_n 0 (kd_m11_talksOf.at 5 rfl) rfl rfl ?_
      refine ok_isub (kd_m11_talksOf.at 6 rfl) ?_
      refine ok_goto (tgt := 27) (kd_m11_talksOf.at 7 rfl) (by decide) ?_
      exact ok_ireturn (kd_m11_talksOf.at 15 rfl) rfl
def f_m11_talks (a1 : Int32) (a2 : Bool) (a3 : Bool) (a4 : Bool) (S : kSt) : Option (Int32 × kSt) :=
  (f_m11_good  S).bind fun q1 =>
  kgb (q1.1 14 14) fun b2 =>
  (f_m11_in a1 0 9 q1).bind fun q3 =>
  (f_m11_why b2 q3.1 q3.2).bind fun q4 =>
  if q4.1 = 0 then
    if a4 then
      (f_m11_talksOf a1 a3 a2 q4.2).bind fun q9 =>
      some (q9.1, q9.2)
    else
      (f_m11_talksOf a1 a2 a3 q4.2).bind fun q8 =>
      some (q8.1, q8.2)
  else
    knx (kuI q4.2 14 11 q4.1) fun S6 =>
    some ((-100), S6)
theorem ok_m11_talks {l : Launch} {G : kG} {E : kE} (a1 : Int32) (a2 : Bool) (a3 : Bool) (a4 : Bool)  (S : kSt) : kFn l G E E kjI m11_talks 2 [.ref 14, .int a1, .int (kb a2), .int (kb a3), .int (kb a4)] S (f_m11_talks a1 a2 a3 a4 S) := by
  unfold f_m11_talks
  refine kFn_of (by decide +kernel) (fun hG => Nat.le_of_ble_eq_true rfl) ?_
  show kOk _ _ _ _ _ _ _ _ [(0, .ref 14), (1, .int a1), (2, .int (kb a2)), (3, .int (kb a3)), (4, .int (kb a4))] _ _
  refine ok_aload_n 0 (kd_m11_talks.at 0 rfl) rfl rfl ?_
  refine ok_callVV (M' := m11_good) (as := []) (st := []) (kd_m11_talks.at 1 rfl) kc11_164 sh_14 rfl rfl (by decide) (ok_m11_good  S) (kfit_of (by decide)) rfl (Nat.le_of_ble_eq_true rfl) (fun q1 hq1 => ?_)
  refine ok_aload_n 0 (kd_m11_talks.at 2 rfl) rfl rfl ?_
  refine ok_aload_n 0 (kd_m11_talks.at 3 rfl) rfl rfl ?_
  refine ok_getZ (kd_m11_talks.at 4 rfl) kf11_177 sh_14 rfl (fun b2 => ?_)
  refine ok_iload_n 1 (kd_m11_talks.at 5 rfl) rfl rfl ?_
  refine ok_iconst (v := 0) (kd_m11_talks.at 6 rfl) (by decide) ?_
  refine ok_bipush (v := 9) (kd_m11_talks.at 7 rfl) (by decide) ?_
  refine ok_callSB (M' := m11_in) (as := [.int a1, .int 0, .int 9]) (st := [.int (kb b2), .ref 14]) (kd_m11_talks.at 8 rfl) kc11_146  rfl (by decide) (ok_m11_in a1 0 9 q1) (kfit_of (by decide)) rfl (Nat.le_of_ble_eq_true rfl) (fun q3 hq3 => ?_)
  refine ok_callVI (M' := m11_why) (as := [.int (kb b2), .int (kb q3.1)]) (st := []) (kd_m11_talks.at 9 rfl) kc11_275 sh_14 rfl rfl (by decide) (ok_m11_why b2 q3.1 q3.2) (kfit_of (by decide)) rfl (Nat.le_of_ble_eq_true rfl) (fun q4 hq4 => ?_)
  refine ok_istore (lv' := [(5, .int q4.1), (0, .ref 14), (1, .int a1), (2, .int (kb a2)), (3, .int (kb a3)), (4, .int (kb a4))]) (kd_m11_talks.at 10 rfl) (by decide) rfl ?_
  refine ok_iload 0 (kd_m11_talks.at 11 rfl) rfl ?_
  refine ok_if_ne (tgt := 47) (kd_m11_talks.at 12 rfl) (by decide) (fun h5 => ?_) (fun h5 => ?_)
  · refine ok_aload_n 1 (kd_m11_talks.at 25 rfl) rfl rfl ?_
    refine ok_iload 0 (kd_m11_talks.at 26 rfl) rfl ?_
    refine ok_putI (kd_m11_talks.at 27 rfl) kf11_62 sh_14 rfl rfl ?_
    refine ok_nS (fun S6 hS6 => ?_)
    refine ok_bipush (v := (-100)) (kd_m11_talks.at 28 rfl) (by decide) ?_
    exact ok_ireturn (kd_m11_talks.at 29 rfl) rfl
  · refine ok_iload 5 (kd_m11_talks.at 13 rfl) rfl ?_
    refine ok_ifb_eq (tgt := 40) (kd_m11_talks.at 14 rfl) (by decide) (fun h7 => ?_) (fun h7 => ?_)
    · refine ok_iload_n 2 (kd_m11_talks.at 20 rfl) rfl rfl ?_
      refine ok_iload_n 3 (kd_m11_talks.at 21 rfl) rfl rfl ?_
      refine ok_iload_n 4 (kd_m11_talks.at 22 rfl) rfl rfl ?_
      refine ok_callSI (M' := m11_talksOf) (as := [.int a1, .int (kb a2), .int (kb a3)]) (st := []) (kd_m11_talks.at 23 rfl) kc11_362  rfl (by decide) (ok_m11_talksOf a1 a2 a3 q4.2) (kfit_of (by decide)) rfl (Nat.le_of_ble_eq_true rfl) (fun q8 hq8 => ?_)
      exact ok_ireturn (kd_m11_talks.at 24 rfl) rfl
    · refine ok_iload_n 2 (kd_m11_talks.at 15 rfl) rfl rfl ?_
      refine ok_iload_n 4 (kd_m11_talks.at 16 rfl) rfl rfl ?_
      refine ok_iload_n 3 (kd_m11_talks.at 17 rfl) rfl rfl ?_
      refine ok_callSI (M' := m11_talksOf) (as := [.int a1, .int (kb a3), .int (kb a2)]) (st := []) (kd_m11_talks.at 18 rfl) kc11_362  rfl (by decide) (ok_m11_talksOf a1 a3 a2 q4.2) (kfit_of (by decide)) rfl (Nat.le_of_ble_eq_true rfl) (fun q9 hq9 => ?_)
      refine ok_goto (tgt := 46) (kd_m11_talks.at 19 rfl) (by decide) ?_
      exact ok_ireturn (kd_m11_talks.at 24 rfl) rfl
def f_m11_seekRests_L10   (k125 : Int32 → kSt → Option (Int32 × kSt)) (c1 : Int32) : Nat → Int32 → Int32 → kSt → Option (Int32 × kSt)
  | 0, _, _, _ => none
  | n + 1, v2, v3, S =>
    if 4 ≤ v3 then
      k125 v2 S
    else
      knx (if v3 ≤ 1 then false else true) fun x4 =>
      knx (if (krem v3 2) = 1 then true else false) fun x6 =>
      knx (if x4 then false else true) fun x8 =>
      (f_m11_talksOf c1 x8 x6 S).bind fun q9 =>
      (f_m11_talksOf c1 x4 x6 q9.2).bind fun q10 =>
      knx (fun (x11 : Int32) (S12 : kSt) =>
        knx (v3 + 1) fun x13 =>
        f_m11_seekRests_L10 k125 c1 n x11 x13 S12
        ) fun j119 =>
      if q10.1 < q9.1 then
        j119 v2 q10.2
      else
        knx (if x6 then false else true) fun x16 =>
        (f_m11_talksOf c1 x16 x4 q10.2).bind fun q17 =>
        (f_m11_talksOf c1 x6 x4 q17.2).bind fun q18 =>
        if q17.1 ≤ q18.1 then
          knx (fun  (S20 : kSt) =>
            knx (v2 + 1) fun x21 =>
            j119 x21 S20
            ) fun j116 =>
          if v2 = 0 then
            knx (kuI q18.2 14 37 ((10 * (v3 / 2)) + (krem v3 2))) fun S23 =>
            j116  S23
          else
            j116  q18.2
        else
          j119 v2 q18.2
theorem ok_m11_seekRests_L10 {l : Launch} {G : kG} {E : kE}    (c1 : Int32) (k125 : Int32 → kSt → Option (Int32 × kSt)) (hk125 : ∀ (v2 : Int32) (S : kSt), kOk l G E (kZ G E kjI) m11_seekRests (kdp (2)) (k125 v2 S) 125 [(2, .int v2)] [] S) : ∀ (n : Nat) (v2 : Int32) (v3 : Int32) (S : kSt), kOk l G E (kZ G E kjI) m11_seekRests (kdp (2)) (f_m11_seekRests_L10 k125 c1 n v2 v3 S) 10 [(0, .ref 14), (1, .int c1), (2, .int v2), (3, .int v3)] [] S := by
  intro n
  induction n with
  | zero => intro v2 v3 S; exact ok_none
  | succ n ih =>
    intro v2 v3 S
    rw [f_m11_seekRests_L10]
    refine ok_iload_n 3 (kd_m11_seekRests.at 7 rfl) rfl rfl ?_
    refine ok_iconst (v := 4) (kd_m11_seekRests.at 8 rfl) (by decide) ?_
    refine ok_icmp_ge (tgt := 125) (kd_m11_seekRests.at 9 rfl) (by decide) (fun h2 => ?_) (fun h2 => ?_)
    · refine ok_sub (lv' := [(2, .int v2)]) [2] rfl ?_
      exact hk125 v2 S
    · refine ok_iload_n 3 (kd_m11_seekRests.at 10 rfl) rfl rfl ?_
      refine ok_iconst (v := 1) (kd_m11_seekRests.at 11 rfl) (by decide) ?_
      refine ok_fold (α := Bool) (pcJ := 25) (lvJ := [(0, .ref 14), (1, .int c1), (2, .int v2), (3, .int v3)]) (stJ := []) (mk := fun v => .int (kb v)) (fun K => ?_) (fun x4 => ?_)
      · refine ok_ap ?_
        refine ok_icmp_le (tgt := 24) (kd_m11_seekRests.at 12 rfl) (by decide) (fun h3 => ?_) (fun h3 => ?_)
        · refine ok_iconst (v := 0) (kd_m11_seekRests.at 15 rfl) (by decide) ?_
          exact K false
        · refine ok_iconst (v := 1) (kd_m11_seekRests.at 13 rfl) (by decide) ?_
          refine ok_goto (tgt := 25) (kd_m11_seekRests.at 14 rfl) (by decide) ?_
          exact K true
      · refine ok_istore (lv' := [(4, .int (kb x4)), (0, .ref 14), (1, .int c1), (2, .int v2), (3, .int v3)]) (kd_m11_seekRests.at 16 rfl) (by decide) rfl ?_
        refine ok_iload_n 4 (kd_m11_seekRests.at 17 rfl) rfl rfl ?_
        refine ok_iconst (v := 2) (kd_m11_seekRests.at 18 rfl) (by decide) ?_
        refine ok_iremK (kd_m11_seekRests.at 19 rfl) (by decide) ?_
        refine ok_iconst (v := 1) (kd_m11_seekRests.at 20 rfl) (by decide) ?_
        refine ok_fold (α := Bool) (pcJ := 39) (lvJ := [(4, .int (kb x4)), (0, .ref 14), (1, .int c1), (2, .int v2), (3, .int v3)]) (stJ := []) (mk := fun v => .int (kb v)) (fun K => ?_) (fun x6 => ?_)
        · refine ok_ap ?_
          refine ok_icmp_ne (tgt := 38) (kd_m11_seekRests.at 21 rfl) (by decide) (fun h5 => ?_) (fun h5 => ?_)
          · refine ok_iconst (v := 0) (kd_m11_seekRests.at 24 rfl) (by decide) ?_
            exact K false
          · refine ok_iconst (v := 1) (kd_m11_seekRests.at 22 rfl) (by decide) ?_
            refine ok_goto (tgt := 39) (kd_m11_seekRests.at 23 rfl) (by decide) ?_
            exact K true
        · refine ok_istore (lv' := [(5, .int (kb x6)), (4, .int (kb x4)), (0, .ref 14), (1, .int c1), (2, .int v2), (3, .int v3)]) (kd_m11_seekRests.at 25 rfl) (by decide) rfl ?_
          refine ok_iload_n 3 (kd_m11_seekRests.at 26 rfl) rfl rfl ?_
          refine ok_iload 1 (kd_m11_seekRests.at 27 rfl) rfl ?_
          refine ok_fold (α := Bool) (pcJ := 52) (lvJ := [(5, .int (kb x6)), (4, .int (kb x4)), (0, .ref 14), (1, .int c1), (2, .int v2), (3, .int v3)]) (stJ := [.int c1]) (mk := fun v => .int (kb v)) (fun K => ?_) (fun x8 => ?_)
          · refine ok_ap ?_
            refine ok_ifb_ne (tgt := 51) (kd_m11_seekRests.at 28 rfl) (by decide) (fun h7 => ?_) (fun h7 => ?_)
            · refine ok_iconst (v := 0) (kd_m11_seekRests.at 31 rfl) (by decide) ?_
              exact K false
            · refine ok_iconst (v := 1) (kd_m11_seekRests.at 29 rfl) (by decide) ?_
              refine ok_goto (tgt := 52) (kd_m11_seekRests.at 30 rfl) (by decide) ?_
              exact K true
          · refine ok_iload 0 (kd_m11_seekRests.at 32 rfl) rfl ?_
            refine ok_callSI (M' := m11_talksOf) (as := [.int c1, .int (kb x8), .int (kb x6)]) (st := []) (kd_m11_seekRests.at 33 rfl) kc11_362  rfl (by decide) (ok_m11_talksOf c1 x8 x6 S) (kfit_of (by decide)) rfl (Nat.le_of_ble_eq_true rfl) (fun q9 hq9 => ?_)
            refine ok_iload_n 3 (kd_m11_seekRests.at 34 rfl) rfl rfl ?_
            refine ok_iload 1 (kd_m11_seekRests.at 35 rfl) rfl ?_
            refine ok_iload 0 (kd_m11_seekRests.at 36 rfl) rfl ?_
            refine ok_callSI (M' := m11_talksOf) (as := [.int c1, .int (kb x4), .int (kb x6)]) (st := [.int q9.1]) (kd_m11_seekRests.at 37 rfl) kc11_362  rfl (by decide) (ok_m11_talksOf c1 x4 x6 q9.2) (kfit_of (by decide)) rfl (Nat.le_of_ble_eq_true rfl) (fun q10 hq10 => ?_)
            refine ok_nx (fun j119 hj119 => ?_)
            have K119 : ∀ (x11 : Int32) (S12 : kSt), kOk l G E (kZ G E kjI) m11_seekRests (kdp (2)) (j119 x11 S12) 119 [(0, .ref 14), (1, .int c1), (2, .int x11), (3, .int v3)] [] S12 := by
              subst hj119
              intro x11 S12
              refine ok_nx (fun x13 hx13 => ?_)
              refine ok_iinc (v := x13) (lv' := [(3, .int x13), (0, .ref 14), (1, .int c1), (2, .int x11)]) 3 (kd_m11_seekRests.at 67 rfl) rfl hx13.symm (by decide) rfl ?_
              refine ok_goto (tgt := 10) (kd_m11_seekRests.at 68 rfl) (by decide) ?_
              refine ok_sub (lv' := [(0, .ref 14), (1, .int c1), (2, .int x11), (3, .int x13)]) [1, 2, 3, 0] rfl ?_
              exact ih x11 x13 S12
            clear hj119
            refine ok_icmp_gt (tgt := 119) (kd_m11_seekRests.at 38 rfl) (by decide) (fun h14 => ?_) (fun h14 => ?_)
            · refine ok_sub (lv' := [(0, .ref 14), (1, .int c1), (2, .int v2), (3, .int v3)]) [2, 3, 4, 5] rfl ?_
              exact K119 v2 q10.2
            · refine ok_iload_n 3 (kd_m11_seekRests.at 39 rfl) rfl rfl ?_
              refine ok_iload 0 (kd_m11_seekRests.at 40 rfl) rfl ?_
              refine ok_fold (α := Bool) (pcJ := 79) (lvJ := [(5, .int (kb x6)), (4, .int (kb x4)), (0, .ref 14), (1, .int c1), (2, .int v2), (3, .int v3)]) (stJ := [.int c1]) (mk := fun v => .int (kb v)) (fun K => ?_) (fun x16 => ?_)
              · refine ok_ap ?_
                refine ok_ifb_ne (tgt := 78) (kd_m11_seekRests.at 41 rfl) (by decide) (fun h15 => ?_) (fun h15 => ?_)
                · refine ok_iconst (v := 0) (kd_m11_seekRests.at 44 rfl) (by decide) ?_
                  exact K false
                · refine ok_iconst (v := 1) (kd_m11_seekRests.at 42 rfl) (by decide) ?_
                  refine ok_goto (tgt := 79) (kd_m11_seekRests.at 43 rfl) (by decide) ?_
                  exact K true
              · refine ok_iload 1 (kd_m11_seekRests.at 45 rfl) rfl ?_
                refine ok_callSI (M' := m11_talksOf) (as := [.int c1, .int (kb x16), .int (kb x4)]) (st := []) (kd_m11_seekRests.at 46 rfl) kc11_362  rfl (by decide) (ok_m11_talksOf c1 x16 x4 q10.2) (kfit_of (by decide)) rfl (Nat.le_of_ble_eq_true rfl) (fun q17 hq17 => ?_)
                refine ok_iload_n 3 (kd_m11_seekRests.at 47 rfl) rfl rfl ?_
                refine ok_iload 0 (kd_m11_seekRests.at 48 rfl) rfl ?_
                refine ok_iload 1 (kd_m11_seekRests.at 49 rfl) rfl ?_
                refine ok_callSI (M' := m11_talksOf) (as := [.int c1, .int (kb x6), .int (kb x4)]) (st := [.int q17.1]) (kd_m11_seekRests.at 50 rfl) kc11_362  rfl (by decide) (ok_m11_talksOf c1 x6 x4 q17.2) (kfit_of (by decide)) rfl (Nat.le_of_ble_eq_true rfl) (fun q18 hq18 => ?_)
                refine ok_icmp_le (tgt := 98) (kd_m11_seekRests.at 51 rfl) (by decide) (fun h19 => ?_) (fun h19 => ?_)
                · refine ok_iload_n 4 (kd_m11_seekRests.at 53 rfl) rfl rfl ?_
                  refine ok_nx (fun j116 hj116 => ?_)
                  have K116 : ∀  (S20 : kSt), kOk l G E (kZ G E kjI) m11_seekRests (kdp (2)) (j116  S20) 116 [(0, .ref 14), (1, .int c1), (2, .int v2), (3, .int v3)] [] S20 := by
                    subst hj116
                    intro  S20
                    refine ok_nx (fun x21 hx21 => ?_)
                    refine ok_iinc (v := x21) (lv' := [(2, .int x21), (0, .ref 14), (1, .int c1), (3, .int v3)]) 2 (kd_m11_seekRests.at 66 rfl) rfl hx21.symm (by decide) rfl ?_
                    refine ok_sub (lv' := [(0, .ref 14), (1, .int c1), (2, .int x21), (3, .int v3)]) [1, 2, 0, 3] rfl ?_
                    exact K119 x21 S20
                  clear hj116
                  refine ok_if_ne (tgt := 116) (kd_m11_seekRests.at 54 rfl) (by decide) (fun h22 => ?_) (fun h22 => ?_)
                  · refine ok_sub (lv' := [(0, .ref 14), (1, .int c1), (2, .int v2), (3, .int v3)]) [2, 3, 4, 5] rfl ?_
                    exact K116  q18.2
                  · refine ok_aload_n 2 (kd_m11_seekRests.at 55 rfl) rfl rfl ?_
                    refine ok_bipush (v := 10) (kd_m11_seekRests.at 56 rfl) (by decide) ?_
                    refine ok_iload_n 5 (kd_m11_seekRests.at 57 rfl) rfl rfl ?_
                    refine ok_iconst (v := 2) (kd_m11_seekRests.at 58 rfl) (by decide) ?_
                    refine ok_idivK (kd_m11_seekRests.at 59 rfl) (by decide) ?_
                    refine ok_imul (kd_m11_seekRests.at 60 rfl) ?_
                    refine ok_iload_n 5 (kd_m11_seekRests.at 61 rfl) rfl rfl ?_
                    refine ok_iconst (v := 2) (kd_m11_seekRests.at 62 rfl) (by decide) ?_
                    refine ok_iremK (kd_m11_seekRests.at 63 rfl) (by decide) ?_
                    refine ok_iadd (kd_m11_seekRests.at 64 rfl) ?_
                    refine ok_putI (kd_m11_seekRests.at 65 rfl) kf11_366 sh_14 rfl rfl ?_
                    refine ok_nS (fun S23 hS23 => ?_)
                    refine ok_sub (lv' := [(0, .ref 14), (1, .int c1), (2, .int v2), (3, .int v3)]) [2, 3, 4, 5] rfl ?_
                    exact K116  S23
                · refine ok_goto (tgt := 119) (kd_m11_seekRests.at 52 rfl) (by decide) ?_
                  refine ok_sub (lv' := [(0, .ref 14), (1, .int c1), (2, .int v2), (3, .int v3)]) [2, 3, 4, 5] rfl ?_
                  exact K119 v2 q18.2
def f_m11_seekRests (a1 : Int32) (S : kSt) : Option (Int32 × kSt) :=
  knx (kuI S 14 37 (-2)) fun S1 =>
  f_m11_seekRests_L10 
    (fun (x24 : Int32) (S25 : kSt) =>
      some (x24, S25)
    )
    a1 kFU 0 0 S1
theorem ok_m11_seekRests {l : Launch} {G : kG} {E : kE} (a1 : Int32)  (S : kSt) : kFn l G E E kjI m11_seekRests 2 [.ref 14, .int a1] S (f_m11_seekRests a1 S) := by
  unfold f_m11_seekRests
  refine kFn_of (by decide +kernel) (fun hG => Nat.le_of_ble_eq_true rfl) ?_
  show kOk _ _ _ _ _ _ _ _ [(0, .ref 14), (1, .int a1)] _ _
  refine ok_iconst (v := 0) (kd_m11_seekRests.at 0 rfl) (by decide) ?_
  refine ok_istore_n (lv' := [(2, .int 0), (0, .ref 14), (1, .int a1)]) (kd_m11_seekRests.at 1 rfl) rfl (by decide) rfl ?_
  refine ok_aload_n 1 (kd_m11_seekRests.at 2 rfl) rfl rfl ?_
  refine ok_bipush (v := (-2)) (kd_m11_seekRests.at 3 rfl) (by decide) ?_
  refine ok_putI (kd_m11_seekRests.at 4 rfl) kf11_366 sh_14 rfl rfl ?_
  refine ok_nS (fun S1 hS1 => ?_)
  refine ok_iconst (v := 0) (kd_m11_seekRests.at 5 rfl) (by decide) ?_
  refine ok_istore_n (lv' := [(3, .int 0), (2, .int 0), (0, .ref 14), (1, .int a1)]) (kd_m11_seekRests.at 6 rfl) rfl (by decide) rfl ?_
  refine ok_sub (lv' := [(0, .ref 14), (1, .int a1), (2, .int 0), (3, .int 0)]) [2, 3, 1, 0] rfl ?_
  refine ok_m11_seekRests_L10 a1 _ (fun x24 S25 => ?_) kFU 0 0 S1
  refine ok_iload_n 0 (kd_m11_seekRests.at 69 rfl) rfl rfl ?_
  exact ok_ireturn (kd_m11_seekRests.at 70 rfl) rfl
def f_m11_rests (a1 : Int32) (S : kSt) : Option (Int32 × kSt) :=
  (f_m11_good  S).bind fun q1 =>
  kgb (q1.1 14 14) fun b2 =>
  (f_m11_in a1 0 9 q1).bind fun q3 =>
  (f_m11_why b2 q3.1 q3.2).bind fun q4 =>
  if q4.1 = 0 then
    (f_m11_seekRests a1 q4.2).bind fun q6 =>
    some (q6.1, q6.2)
  else
    (f_m11_no q4.1 q4.2).bind fun q7 =>
    some (q7.1, q7.2)
theorem ok_m11_rests {l : Launch} {G : kG} {E : kE} (a1 : Int32)  (S : kSt) : kFn l G E E kjI m11_rests 3 [.ref 14, .int a1] S (f_m11_rests a1 S) := by
  unfold f_m11_rests
  refine kFn_of (by decide +kernel) (fun hG => Nat.le_of_ble_eq_true rfl) ?_
  show kOk _ _ _ _ _ _ _ _ [(0, .ref 14), (1, .int a1)] _ _
  refine ok_aload_n 0 (kd_m11_rests.at 0 rfl) rfl rfl ?_
  refine ok_callVV (M' := m11_good) (as := []) (st := []) (kd_m11_rests.at 1 rfl) kc11_164 sh_14 rfl rfl (by decide) (ok_m11_good  S) (kfit_of (by decide)) rfl (Nat.le_of_ble_eq_true rfl) (fun q1 hq1 => ?_)
  refine ok_aload_n 0 (kd_m11_rests.at 2 rfl) rfl rfl ?_
  refine ok_aload_n 0 (kd_m11_rests.at 3 rfl) rfl rfl ?_
  refine ok_getZ (kd_m11_rests.at 4 rfl) kf11_177 sh_14 rfl (fun b2 => ?_)
  refine ok_iload_n 1 (kd_m11_rests.at 5 rfl) rfl rfl ?_
  refine ok_iconst (v := 0) (kd_m11_rests.at 6 rfl) (by decide) ?_
  refine ok_bipush (v := 9) (kd_m11_rests.at 7 rfl) (by decide) ?_
  refine ok_callSB (M' := m11_in) (as := [.int a1, .int 0, .int 9]) (st := [.int (kb b2), .ref 14]) (kd_m11_rests.at 8 rfl) kc11_146  rfl (by decide) (ok_m11_in a1 0 9 q1) (kfit_of (by decide)) rfl (Nat.le_of_ble_eq_true rfl) (fun q3 hq3 => ?_)
  refine ok_callVI (M' := m11_why) (as := [.int (kb b2), .int (kb q3.1)]) (st := []) (kd_m11_rests.at 9 rfl) kc11_275 sh_14 rfl rfl (by decide) (ok_m11_why b2 q3.1 q3.2) (kfit_of (by decide)) rfl (Nat.le_of_ble_eq_true rfl) (fun q4 hq4 => ?_)
  refine ok_istore_n (lv' := [(2, .int q4.1), (0, .ref 14), (1, .int a1)]) (kd_m11_rests.at 10 rfl) rfl (by decide) rfl ?_
  refine ok_iload_n 0 (kd_m11_rests.at 11 rfl) rfl rfl ?_
  refine ok_if_eq (tgt := 32) (kd_m11_rests.at 12 rfl) (by decide) (fun h5 => ?_) (fun h5 => ?_)
  · refine ok_aload_n 1 (kd_m11_rests.at 17 rfl) rfl rfl ?_
    refine ok_iload_n 2 (kd_m11_rests.at 18 rfl) rfl rfl ?_
    refine ok_callVI (M' := m11_seekRests) (as := [.int a1]) (st := []) (kd_m11_rests.at 19 rfl) kc11_369 sh_14 rfl rfl (by decide) (ok_m11_seekRests a1 q4.2) (kfit_of (by decide)) rfl (Nat.le_of_ble_eq_true rfl) (fun q6 hq6 => ?_)
    exact ok_ireturn (kd_m11_rests.at 20 rfl) rfl
  · refine ok_aload_n 1 (kd_m11_rests.at 13 rfl) rfl rfl ?_
    refine ok_iload_n 0 (kd_m11_rests.at 14 rfl) rfl rfl ?_
    refine ok_callVI (M' := m11_no) (as := [.int q4.1]) (st := []) (kd_m11_rests.at 15 rfl) kc11_167 sh_14 rfl rfl (by decide) (ok_m11_no q4.1 q4.2) (kfit_of (by decide)) rfl (Nat.le_of_ble_eq_true rfl) (fun q7 hq7 => ?_)
    refine ok_goto (tgt := 37) (kd_m11_rests.at 16 rfl) (by decide) ?_
    exact ok_ireturn (kd_m11_rests.at 20 rfl) rfl
def f_m11_rest (a1 : Int32) (S : kSt) : Option (Int32 × kSt) :=
  (f_m11_good  S).bind fun q1 =>
  kgb (q1.1 14 14) fun b2 =>
  (f_m11_in a1 0 9 q1).bind fun q3 =>
  (f_m11_why b2 q3.1 q3.2).bind fun q4 =>
  if q4.1 = 0 then
    (f_m11_seekRests a1 q4.2).bind fun q6 =>
    some (q6.2.1 14 37, q6.2)
  else
    (f_m11_no q4.1 q4.2).bind fun q7 =>
    some (q7.1, q7.2)
theorem ok_m11_rest {l : Launch} {G : kG} {E : kE} (a1 : Int32)  (S : kSt) : kFn l G E E kjI m11_rest 3 [.ref 14, .int a1] S (f_m11_rest a1 S) := by
  unfold f_m11_rest
  refine kFn_of (by decide +kernel) (fun hG => Nat.le_of_ble_eq_true rfl) ?_
  show kOk _ _ _ _ _ _ _ _ [(0, .ref 14), (1, .int a1)] _ _
  refine ok_aload_n 0 (kd_m11_rest.at 0 rfl) rfl rfl ?_
  refine ok_callVV (M' := m11_good) (as := []) (st := []) (kd_m11_rest.at 1 rfl) kc11_164 sh_14 rfl rfl (by decide) (ok_m11_good  S) (kfit_of (by decide)) rfl (Nat.le_of_ble_eq_true rfl) (fun q1 hq1 => ?_)
  refine ok_aload_n 0 (kd_m11_rest.at 2 rfl) rfl rfl ?_
  refine ok_aload_n 0 (kd_m11_rest.at 3 rfl) rfl rfl ?_
  refine ok_getZ (kd_m11_rest.at 4 rfl) kf11_177 sh_14 rfl (fun b2 => ?_)
  refine ok_iload_n 1 (kd_m11_rest.at 5 rfl) rfl rfl ?_
  refine ok_iconst (v := 0) (kd_m11_rest.at 6 rfl) (by decide) ?_
  refine ok_bipush (v := 9) (kd_m11_rest.at 7 rfl) (by decide) ?_
  refine ok_callSB (M' := m11_in) (as := [.int a1, .int 0, .int 9]) (st := [.int (kb b2), .ref 14]) (kd_m11_rest.at 8 rfl) kc11_146  rfl (by decide) (ok_m11_in a1 0 9 q1) (kfit_of (by decide)) rfl (Nat.le_of_ble_eq_true rfl) (fun q3 hq3 => ?_)
  refine ok_callVI (M' := m11_why) (as := [.int (kb b2), .int (kb q3.1)]) (st := []) (kd_m11_rest.at 9 rfl) kc11_275 sh_14 rfl rfl (by decide) (ok_m11_why b2 q3.1 q3.2) (kfit_of (by decide)) rfl (Nat.le_of_ble_eq_true rfl) (fun q4 hq4 => ?_)
  refine ok_istore_n (lv' := [(2, .int q4.1), (0, .ref 14), (1, .int a1)]) (kd_m11_rest.at 10 rfl) rfl (by decide) rfl ?_
  refine ok_iload_n 0 (kd_m11_rest.at 11 rfl) rfl rfl ?_
  refine ok_if_eq (tgt := 30) (kd_m11_rest.at 12 rfl) (by decide) (fun h5 => ?_) (fun h5 => ?_)
  · refine ok_aload_n 1 (kd_m11_rest.at 17 rfl) rfl rfl ?_
    refine ok_iload_n 2 (kd_m11_rest.at 18 rfl) rfl rfl ?_
    refine ok_callVI (M' := m11_seekRests) (as := [.int a1]) (st := []) (kd_m11_rest.at 19 rfl) kc11_369 sh_14 rfl rfl (by decide) (ok_m11_seekRests a1 q4.2) (kfit_of (by decide)) rfl (Nat.le_of_ble_eq_true rfl) (fun q6 hq6 => ?_)
    refine ok_pop (kd_m11_rest.at 20 rfl) rfl ?_
    refine ok_aload_n 1 (kd_m11_rest.at 21 rfl) rfl rfl ?_
    refine ok_getI (kd_m11_rest.at 22 rfl) kf11_366 sh_14 rfl ?_
    exact ok_ireturn (kd_m11_rest.at 23 rfl) rfl
  · refine ok_aload_n 1 (kd_m11_rest.at 13 rfl) rfl rfl ?_
    refine ok_iload_n 0 (kd_m11_rest.at 14 rfl) rfl rfl ?_
    refine ok_callVI (M' := m11_no) (as := [.int q4.1]) (st := []) (kd_m11_rest.at 15 rfl) kc11_167 sh_14 rfl rfl (by decide) (ok_m11_no q4.1 q4.2) (kfit_of (by decide)) rfl (Nat.le_of_ble_eq_true rfl) (fun q7 hq7 => ?_)
    exact ok_ireturn (kd_m11_rest.at 16 rfl) rfl
def f_m11_verdictOf_L4   (k37 : Int32 → kSt → Option (Int32 × kSt))  : Nat → Int32 → Int32 → kSt → Option (Int32 × kSt)
  | 0, _, _, _ => none
  | n + 1, v1, v2, S =>
    if (S.1 57 2) ≤ v2 then
      k37 v1 S
    else
      kgi v2 5 (
        kgi v1 5 (
          knx (fun (x2 : Int32) (S3 : kSt) =>
            knx (v2 + 1) fun x4 =>
            f_m11_verdictOf_L4 k37 n x2 x4 S3
            ) fun j31 =>
          if (S.1 69 v2.toNatClampNeg) ≤ (S.1 69 v1.toNatClampNeg) then
            j31 v1 S
          else
            j31 v2 S
        )
      )
theorem ok_m11_verdictOf_L4 {l : Launch} {G : kG} {E : kE}     (k37 : Int32 → kSt → Option (Int32 × kSt)) (hk37 : ∀ (v1 : Int32) (S : kSt), kOk l G E (kZ G E kjI) m11_verdictOf (kdp (1)) (k37 v1 S) 37 [(1, .int v1)] [] S) : ∀ (n : Nat) (v1 : Int32) (v2 : Int32) (S : kSt), kOk l G E (kZ G E kjI) m11_verdictOf (kdp (1)) (f_m11_verdictOf_L4 k37 n v1 v2 S) 4 [(0, .ref 14), (1, .int v1), (2, .int v2)] [] S := by
  intro n
  induction n with
  | zero => intro v1 v2 S; exact ok_none
  | succ n ih =>
    intro v1 v2 S
    rw [f_m11_verdictOf_L4]
    refine ok_iload_n 2 (kd_m11_verdictOf.at 4 rfl) rfl rfl ?_
    refine ok_aload_n 0 (kd_m11_verdictOf.at 5 rfl) rfl rfl ?_
    refine ok_getR (kd_m11_verdictOf.at 6 rfl) kf11_20 sh_14 rfl (kr_14_15 _) ?_
    refine ok_iconst (v := 2) (kd_m11_verdictOf.at 7 rfl) (by decide) ?_
    refine ok_ialdK (j := 2) (kd_m11_verdictOf.at 8 rfl) sh_57 (by decide) (by decide) ?_
    refine ok_icmp_ge (tgt := 37) (kd_m11_verdictOf.at 9 rfl) (by decide) (fun h1 => ?_) (fun h1 => ?_)
    · refine ok_sub (lv' := [(1, .int v1)]) [1] rfl ?_
      exact hk37 v1 S
    · refine ok_aload_n 0 (kd_m11_verdictOf.at 10 rfl) rfl rfl ?_
      refine ok_getR (kd_m11_verdictOf.at 11 rfl) kf11_56 sh_14 rfl (kr_14_38 _) ?_
      refine ok_iload_n 2 (kd_m11_verdictOf.at 12 rfl) rfl rfl ?_
      refine ok_iald (kd_m11_verdictOf.at 13 rfl) sh_69 ?_
      refine ok_aload_n 0 (kd_m11_verdictOf.at 14 rfl) rfl rfl ?_
      refine ok_getR (kd_m11_verdictOf.at 15 rfl) kf11_56 sh_14 rfl (kr_14_38 _) ?_
      refine ok_iload_n 1 (kd_m11_verdictOf.at 16 rfl) rfl rfl ?_
      refine ok_iald (kd_m11_verdictOf.at 17 rfl) sh_69 ?_
      refine ok_nx (fun j31 hj31 => ?_)
      have K31 : ∀ (x2 : Int32) (S3 : kSt), kOk l G E (kZ G E kjI) m11_verdictOf (kdp (1)) (j31 x2 S3) 31 [(0, .ref 14), (1, .int x2), (2, .int v2)] [] S3 := by
        subst hj31
        intro x2 S3
        refine ok_nx (fun x4 hx4 => ?_)
        refine ok_iinc (v := x4) (lv' := [(2, .int x4), (0, .ref 14), (1, .int x2)]) 2 (kd_m11_verdictOf.at 21 rfl) rfl hx4.symm (by decide) rfl ?_
        refine ok_goto (tgt := 4) (kd_m11_verdictOf.at 22 rfl) (by decide) ?_
        refine ok_sub (lv' := [(0, .ref 14), (1, .int x2), (2, .int x4)]) [1, 2, 0] rfl ?_
        exact ih x2 x4 S3
      clear hj31
      refine ok_icmp_le (tgt := 31) (kd_m11_verdictOf.at 18 rfl) (by decide) (fun h5 => ?_) (fun h5 => ?_)
      · exact K31 v1 S
      · refine ok_iload_n 2 (kd_m11_verdictOf.at 19 rfl) rfl rfl ?_
        refine ok_istore_n (lv' := [(1, .int v2), (0, .ref 14), (2, .int v2)]) (kd_m11_verdictOf.at 20 rfl) rfl (by decide) rfl ?_
        refine ok_sub (lv' := [(0, .ref 14), (1, .int v2), (2, .int v2)]) [1, 0, 2] rfl ?_
        exact K31 v2 S
def f_m11_verdictOf  (S : kSt) : Option (Int32 × kSt) :=
  f_m11_verdictOf_L4 
    (fun (x6 : Int32) (S7 : kSt) =>
      some (x6, S7)
    )
    kFU 0 1 S
theorem ok_m11_verdictOf {l : Launch} {G : kG} {E : kE}   (S : kSt) : kFn l G E E kjI m11_verdictOf 1 [.ref 14] S (f_m11_verdictOf  S) := by
  unfold f_m11_verdictOf
  refine kFn_of (by decide +kernel) (fun hG => Nat.le_of_ble_eq_true rfl) ?_
  show kOk _ _ _ _ _ _ _ _ [(0, .ref 14)] _ _
  refine ok_iconst (v := 0) (kd_m11_verdictOf.at 0 rfl) (by decide) ?_
  refine ok_istore_n (lv' := [(1, .int 0), (0, .ref 14)]) (kd_m11_verdictOf.at 1 rfl) rfl (by decide) rfl ?_
  refine ok_iconst (v := 1) (kd_m11_verdictOf.at 2 rfl) (by decide) ?_
  refine ok_istore_n (lv' := [(2, .int 1), (1, .int 0), (0, .ref 14)]) (kd_m11_verdictOf.at 3 rfl) rfl (by decide) rfl ?_
  refine ok_sub (lv' := [(0, .ref 14), (1, .int 0), (2, .int 1)]) [2, 1, 0] rfl ?_
  refine ok_m11_verdictOf_L4 _ (fun x6 S7 => ?_) kFU 0 1 S
  refine ok_iload_n 0 (kd_m11_verdictOf.at 23 rfl) rfl rfl ?_
  exact ok_ireturn (kd_m11_verdictOf.at 24 rfl) rfl
def f_m11_verdictOdds_L40   (k63 : Int32 → kSt → Option (Int64 × kSt)) (c1 : Int32) (c2 : Int32) (c3 : Bool) : Nat → Int32 → Int32 → kSt → Option (Int64 × kSt)
  | 0, _, _, _ => none
  | n + 1, v5, v6, S =>
    if c2 ≤ v6 then
      k63 v5 S
    else
      knx (v5 * (S.1 57 2)) fun x7 =>
      knx (v6 + 1) fun x8 =>
      f_m11_verdictOdds_L40 k63 c1 c2 c3 n x7 x8 S
theorem ok_m11_verdictOdds_L40 {l : Launch} {G : kG} {E : kE}    (c1 : Int32) (c2 : Int32) (c3 : Bool) (k63 : Int32 → kSt → Option (Int64 × kSt)) (hk63 : ∀ (v5 : Int32) (S : kSt), kOk l G E (kZ G E kjL) m11_verdictOdds (kdp (3)) (k63 v5 S) 63 [(0, .ref 14), (1, .int c1), (2, .int c2), (3, .int (kb c3)), (5, .int v5)] [] S) : ∀ (n : Nat) (v5 : Int32) (v6 : Int32) (S : kSt), kOk l G E (kZ G E kjL) m11_verdictOdds (kdp (3)) (f_m11_verdictOdds_L40 k63 c1 c2 c3 n v5 v6 S) 40 [(0, .ref 14), (1, .int c1), (2, .int c2), (3, .int (kb c3)), (5, .int v5), (6, .int v6)] [] S := by
  intro n
  induction n with
  | zero => intro v5 v6 S; exact ok_none
  | succ n ih =>
    intro v5 v6 S
    rw [f_m11_verdictOdds_L40]
    refine ok_iload 5 (kd_m11_verdictOdds.at 23 rfl) rfl ?_
    refine ok_iload_n 2 (kd_m11_verdictOdds.at 24 rfl) rfl rfl ?_
    refine ok_icmp_ge (tgt := 63) (kd_m11_verdictOdds.at 25 rfl) (by decide) (fun h6 => ?_) (fun h6 => ?_)
    · refine ok_sub (lv' := [(0, .ref 14), (1, .int c1), (2, .int c2), (3, .int (kb c3)), (5, .int v5)]) [0, 1, 2, 3, 4] rfl ?_
      exact hk63 v5 S
    · refine ok_iload 4 (kd_m11_verdictOdds.at 26 rfl) rfl ?_
      refine ok_aload_n 0 (kd_m11_verdictOdds.at 27 rfl) rfl rfl ?_
      refine ok_getR (kd_m11_verdictOdds.at 28 rfl) kf11_20 sh_14 rfl (kr_14_15 _) ?_
      refine ok_iconst (v := 2) (kd_m11_verdictOdds.at 29 rfl) (by decide) ?_
      refine ok_ialdK (j := 2) (kd_m11_verdictOdds.at 30 rfl) sh_57 (by decide) (by decide) ?_
      refine ok_imul (kd_m11_verdictOdds.at 31 rfl) ?_
      refine ok_topi (fun x7 hx7 => ?_)
      refine ok_istore (lv' := [(5, .int x7), (0, .ref 14), (1, .int c1), (2, .int c2), (3, .int (kb c3)), (6, .int v6)]) (kd_m11_verdictOdds.at 32 rfl) (by decide) rfl ?_
      refine ok_nx (fun x8 hx8 => ?_)
      refine ok_iinc (v := x8) (lv' := [(6, .int x8), (5, .int x7), (0, .ref 14), (1, .int c1), (2, .int c2), (3, .int (kb c3))]) 5 (kd_m11_verdictOdds.at 33 rfl) rfl hx8.symm (by decide) rfl ?_
      refine ok_goto (tgt := 40) (kd_m11_verdictOdds.at 34 rfl) (by decide) ?_
      refine ok_sub (lv' := [(0, .ref 14), (1, .int c1), (2, .int c2), (3, .int (kb c3)), (5, .int x7), (6, .int x8)]) [2, 3, 4, 5, 1, 0] rfl ?_
      exact ih x7 x8 S
def f_m11_verdictOdds_L79   (k99 : kSt → Option (Int64 × kSt)) (c1 : Int32) (c2 : Int32) (c3 : Bool) (c5 : Int32) (c6 : Int32) (c7 : Int32) : Nat → Int32 → kSt → Option (Int64 × kSt)
  | 0, _, _ => none
  | n + 1, v8, S =>
    if 5 ≤ v8 then
      k99  S
    else
      kgi v8 5 (
        knx (kuI S 69 v8.toNatClampNeg 0) fun S13 =>
        knx (v8 + 1) fun x14 =>
        f_m11_verdictOdds_L79 k99 c1 c2 c3 c5 c6 c7 n x14 S13
      )
theorem ok_m11_verdictOdds_L79 {l : Launch} {G : kG} {E : kE}    (c1 : Int32) (c2 : Int32) (c3 : Bool) (c5 : Int32) (c6 : Int32) (c7 : Int32) (k99 : kSt → Option (Int64 × kSt)) (hk99 : ∀  (S : kSt), kOk l G E (kZ G E kjL) m11_verdictOdds (kdp (3)) (k99  S) 99 [(0, .ref 14), (1, .int c1), (2, .int c2), (3, .int (kb c3)), (5, .int c5), (6, .int c6), (7, .int c7)] [] S) : ∀ (n : Nat) (v8 : Int32) (S : kSt), kOk l G E (kZ G E kjL) m11_verdictOdds (kdp (3)) (f_m11_verdictOdds_L79 k99 c1 c2 c3 c5 c6 c7 n v8 S) 79 [(0, .ref 14), (1, .int c1), (2, .int c2), (3, .int (kb c3)), (5, .int c5), (6, .int c6), (7, .int c7), (8, .int v8)] [] S := by
  intro n
  induction n with
  | zero => intro v8 S; exact ok_none
  | succ n ih =>
    intro v8 S
    rw [f_m11_verdictOdds_L79]
    refine ok_iload 7 (kd_m11_verdictOdds.at 44 rfl) rfl ?_
    refine ok_iconst (v := 5) (kd_m11_verdictOdds.at 45 rfl) (by decide) ?_
    refine ok_icmp_ge (tgt := 99) (kd_m11_verdictOdds.at 46 rfl) (by decide) (fun h12 => ?_) (fun h12 => ?_)
    · refine ok_sub (lv' := [(0, .ref 14), (1, .int c1), (2, .int c2), (3, .int (kb c3)), (5, .int c5), (6, .int c6), (7, .int c7)]) [0, 1, 2, 3, 4, 5, 6] rfl ?_
      exact hk99  S
    · refine ok_aload_n 0 (kd_m11_verdictOdds.at 47 rfl) rfl rfl ?_
      refine ok_getR (kd_m11_verdictOdds.at 48 rfl) kf11_56 sh_14 rfl (kr_14_38 _) ?_
      refine ok_iload 7 (kd_m11_verdictOdds.at 49 rfl) rfl ?_
      refine ok_iconst (v := 0) (kd_m11_verdictOdds.at 50 rfl) (by decide) ?_
      refine ok_iast (kd_m11_verdictOdds.at 51 rfl) sh_69 ?_
      refine ok_nS (fun S13 hS13 => ?_)
      refine ok_nx (fun x14 hx14 => ?_)
      refine ok_iinc (v := x14) (lv' := [(8, .int x14), (0, .ref 14), (1, .int c1), (2, .int c2), (3, .int (kb c3)), (5, .int c5), (6, .int c6), (7, .int c7)]) 7 (kd_m11_verdictOdds.at 52 rfl) rfl hx14.symm (by decide) rfl ?_
      refine ok_goto (tgt := 79) (kd_m11_verdictOdds.at 53 rfl) (by decide) ?_
      refine ok_sub (lv' := [(0, .ref 14), (1, .int c1), (2, .int c2), (3, .int (kb c3)), (5, .int c5), (6, .int c6), (7, .int c7), (8, .int x14)]) [1, 2, 3, 4, 5, 6, 7, 0] rfl ?_
      exact ih x14 S13
def f_m11_verdictOdds_L106   (k147 : kSt → Option (Int64 × kSt)) (c1 : Int32) (c2 : Int32) (c3 : Bool) (c5 : Int32) (c6 : Int32) (c7 : Int32) : Nat → Int32 → Int32 → kSt → Option (Int64 × kSt)
  | 0, _, _, _ => none
  | n + 1, v8, v9, S =>
    if c2 ≤ v9 then
      k147  S
    else
      knx (S.1 57 2) fun x17 =>
      kgz x17 (
        knx (krem v8 x17) fun x18 =>
        kgi x18 5 (
          kgi x18 5 (
            knx (kuI S 69 x18.toNatClampNeg ((S.1 69 x18.toNatClampNeg) + 1)) fun S19 =>
            knx (S19.1 57 2) fun x20 =>
            kgz x20 (
              knx (v8 / x20) fun x21 =>
              knx (v9 + 1) fun x22 =>
              f_m11_verdictOdds_L106 k147 c1 c2 c3 c5 c6 c7 n x21 x22 S19
            )
          )
        )
      )
theorem ok_m11_verdictOdds_L106 {l : Launch} {G : kG} {E : kE}    (c1 : Int32) (c2 : Int32) (c3 : Bool) (c5 : Int32) (c6 : Int32) (c7 : Int32) (k147 : kSt → Option (Int64 × kSt)) (hk147 : ∀  (S : kSt), kOk l G E (kZ G E kjL) m11_verdictOdds (kdp (3)) (k147  S) 147 [(0, .ref 14), (1, .int c1), (2, .int c2), (3, .int (kb c3)), (5, .int c5), (6, .int c6), (7, .int c7)] [] S) : ∀ (n : Nat) (v8 : Int32) (v9 : Int32) (S : kSt), kOk l G E (kZ G E kjL) m11_verdictOdds (kdp (3)) (f_m11_verdictOdds_L106 k147 c1 c2 c3 c5 c6 c7 n v8 v9 S) 106 [(0, .ref 14), (1, .int c1), (2, .int c2), (3, .int (kb c3)), (5, .int c5), (6, .int c6), (7, .int c7), (8, .int v8), (9, .int v9)] [] S := by
  intro n
  induction n with
  | zero => intro v8 v9 S; exact ok_none
  | succ n ih =>
    intro v8 v9 S
    rw [f_m11_verdictOdds_L106]
    refine ok_iload 8 (kd_m11_verdictOdds.at 58 rfl) rfl ?_
    refine ok_iload_n 2 (kd_m11_verdictOdds.at 59 rfl) rfl rfl ?_
    refine ok_icmp_ge (tgt := 147) (kd_m11_verdictOdds.at 60 rfl) (by decide) (fun h16 => ?_) (fun h16 => ?_)
    · refine ok_sub (lv' := [(0, .ref 14), (1, .int c1), (2, .int c2), (3, .int (kb c3)), (5, .int c5), (6, .int c6), (7, .int c7)]) [0, 1, 2, 3, 4, 5, 6] rfl ?_
      exact hk147  S
    · refine ok_aload_n 0 (kd_m11_verdictOdds.at 61 rfl) rfl rfl ?_
      refine ok_getR (kd_m11_verdictOdds.at 62 rfl) kf11_56 sh_14 rfl (kr_14_38 _) ?_
      refine ok_iload 7 (kd_m11_verdictOdds.at 63 rfl) rfl ?_
      refine ok_aload_n 0 (kd_m11_verdictOdds.at 64 rfl) rfl rfl ?_
      refine ok_getR (kd_m11_verdictOdds.at 65 rfl) kf11_20 sh_14 rfl (kr_14_15 _) ?_
      refine ok_iconst (v := 2) (kd_m11_verdictOdds.at 66 rfl) (by decide) ?_
      refine ok_ialdK (j := 2) (kd_m11_verdictOdds.at 67 rfl) sh_57 (by decide) (by decide) ?_
      refine ok_topi (fun x17 hx17 => ?_)
      refine ok_iremG (kd_m11_verdictOdds.at 68 rfl) ?_
      refine ok_topi (fun x18 hx18 => ?_)
      refine ok_dup2 (kd_m11_verdictOdds.at 69 rfl) rfl rfl ?_
      refine ok_iald (kd_m11_verdictOdds.at 70 rfl) sh_69 ?_
      refine ok_iconst (v := 1) (kd_m11_verdictOdds.at 71 rfl) (by decide) ?_
      refine ok_iadd (kd_m11_verdictOdds.at 72 rfl) ?_
      refine ok_iast (kd_m11_verdictOdds.at 73 rfl) sh_69 ?_
      refine ok_nS (fun S19 hS19 => ?_)
      refine ok_iload 7 (kd_m11_verdictOdds.at 74 rfl) rfl ?_
      refine ok_aload_n 0 (kd_m11_verdictOdds.at 75 rfl) rfl rfl ?_
      refine ok_getR (kd_m11_verdictOdds.at 76 rfl) kf11_20 sh_14 rfl (kr_14_15 _) ?_
      refine ok_iconst (v := 2) (kd_m11_verdictOdds.at 77 rfl) (by decide) ?_
      refine ok_ialdK (j := 2) (kd_m11_verdictOdds.at 78 rfl) sh_57 (by decide) (by decide) ?_
      refine ok_topi (fun x20 hx20 => ?_)
      refine ok_idivG (kd_m11_verdictOdds.at 79 rfl) ?_
      refine ok_topi (fun x21 hx21 => ?_)
      refine ok_istore (lv' := [(8, .int x21), (0, .ref 14), (1, .int c1), (2, .int c2), (3, .int (kb c3)), (5, .int c5), (6, .int c6), (7, .int c7), (9, .int v9)]) (kd_m11_verdictOdds.at 80 rfl) (by decide) rfl ?_
      refine ok_nx (fun x22 hx22 => ?_)
      refine ok_iinc (v := x22) (lv' := [(9, .int x22), (8, .int x21), (0, .ref 14), (1, .int c1), (2, .int c2), (3, .int (kb c3)), (5, .int c5), (6, .int c6), (7, .int c7)]) 8 (kd_m11_verdictOdds.at 81 rfl) rfl hx22.symm (by decide) rfl ?_
      refine ok_goto (tgt := 106) (kd_m11_verdictOdds.at 82 rfl) (by decide) ?_
      refine ok_sub (lv' := [(0, .ref 14), (1, .int c1), (2, .int c2), (3, .int (kb c3)), (5, .int c5), (6, .int c6), (7, .int c7), (8, .int x21), (9, .int x22)]) [2, 3, 4, 5, 6, 7, 8, 1, 0] rfl ?_
      exact ih x21 x22 S19
def f_m11_verdictOdds_L69   (k171 : Int32 → kSt → Option (Int64 × kSt)) (c1 : Int32) (c2 : Int32) (c3 : Bool) (c5 : Int32) : Nat → Int32 → Int32 → kSt → Option (Int64 × kSt)
  | 0, _, _, _ => none
  | n + 1, v6, v7, S =>
    if c5 ≤ v7 then
      k171 v6 S
    else
      f_m11_verdictOdds_L79 
        (fun  (S15 : kSt) =>
          f_m11_verdictOdds_L106 
            (fun  (S23 : kSt) =>
              (f_m11_verdictOf  S23).bind fun q24 =>
              knx (if q24.1 = c1 then true else false) fun x26 =>
              knx (v6 + (kb x26)) fun x27 =>
              knx (v7 + 1) fun x28 =>
              f_m11_verdictOdds_L69 k171 c1 c2 c3 c5 n x27 x28 q24.2
            )
            c1 c2 c3 c5 v6 v7 kFU v7 0 S15
        )
        c1 c2 c3 c5 v6 v7 kFU 0 S
theorem ok_m11_verdictOdds_L69 {l : Launch} {G : kG} {E : kE}    (c1 : Int32) (c2 : Int32) (c3 : Bool) (c5 : Int32) (k171 : Int32 → kSt → Option (Int64 × kSt)) (hk171 : ∀ (v6 : Int32) (S : kSt), kOk l G E (kZ G E kjL) m11_verdictOdds (kdp (3)) (k171 v6 S) 171 [(3, .int (kb c3)), (5, .int c5), (6, .int v6)] [] S) : ∀ (n : Nat) (v6 : Int32) (v7 : Int32) (S : kSt), kOk l G E (kZ G E kjL) m11_verdictOdds (kdp (3)) (f_m11_verdictOdds_L69 k171 c1 c2 c3 c5 n v6 v7 S) 69 [(0, .ref 14), (1, .int c1), (2, .int c2), (3, .int (kb c3)), (5, .int c5), (6, .int v6), (7, .int v7)] [] S := by
  intro n
  induction n with
  | zero => intro v6 v7 S; exact ok_none
  | succ n ih =>
    intro v6 v7 S
    rw [f_m11_verdictOdds_L69]
    refine ok_iload 6 (kd_m11_verdictOdds.at 39 rfl) rfl ?_
    refine ok_iload 4 (kd_m11_verdictOdds.at 40 rfl) rfl ?_
    refine ok_icmp_ge (tgt := 171) (kd_m11_verdictOdds.at 41 rfl) (by decide) (fun h11 => ?_) (fun h11 => ?_)
    · refine ok_sub (lv' := [(3, .int (kb c3)), (5, .int c5), (6, .int v6)]) [3, 4, 5] rfl ?_
      exact hk171 v6 S
    · refine ok_iconst (v := 0) (kd_m11_verdictOdds.at 42 rfl) (by decide) ?_
      refine ok_istore (lv' := [(8, .int 0), (0, .ref 14), (1, .int c1), (2, .int c2), (3, .int (kb c3)), (5, .int c5), (6, .int v6), (7, .int v7)]) (kd_m11_verdictOdds.at 43 rfl) (by decide) rfl ?_
      refine ok_sub (lv' := [(0, .ref 14), (1, .int c1), (2, .int c2), (3, .int (kb c3)), (5, .int c5), (6, .int v6), (7, .int v7), (8, .int 0)]) [1, 2, 3, 4, 5, 6, 7, 0] rfl ?_
      refine ok_m11_verdictOdds_L79 c1 c2 c3 c5 v6 v7 _ (fun S15 => ?_) kFU 0 S
      refine ok_iload 6 (kd_m11_verdictOdds.at 54 rfl) rfl ?_
      refine ok_istore (lv' := [(8, .int v7), (0, .ref 14), (1, .int c1), (2, .int c2), (3, .int (kb c3)), (5, .int c5), (6, .int v6), (7, .int v7)]) (kd_m11_verdictOdds.at 55 rfl) (by decide) rfl ?_
      refine ok_iconst (v := 0) (kd_m11_verdictOdds.at 56 rfl) (by decide) ?_
      refine ok_istore (lv' := [(9, .int 0), (8, .int v7), (0, .ref 14), (1, .int c1), (2, .int c2), (3, .int (kb c3)), (5, .int c5), (6, .int v6), (7, .int v7)]) (kd_m11_verdictOdds.at 57 rfl) (by decide) rfl ?_
      refine ok_sub (lv' := [(0, .ref 14), (1, .int c1), (2, .int c2), (3, .int (kb c3)), (5, .int c5), (6, .int v6), (7, .int v7), (8, .int v7), (9, .int 0)]) [2, 3, 4, 5, 6, 7, 8, 1, 0] rfl ?_
      refine ok_m11_verdictOdds_L106 c1 c2 c3 c5 v6 v7 _ (fun S23 => ?_) kFU v7 0 S15
      refine ok_iload 5 (kd_m11_verdictOdds.at 83 rfl) rfl ?_
      refine ok_aload_n 0 (kd_m11_verdictOdds.at 84 rfl) rfl rfl ?_
      refine ok_callVI (M' := m11_verdictOf) (as := []) (st := [.int v6]) (kd_m11_verdictOdds.at 85 rfl) kc11_372 sh_14 rfl rfl (by decide) (ok_m11_verdictOf  S23) (kfit_of (by decide)) rfl (Nat.le_of_ble_eq_true rfl) (fun q24 hq24 => ?_)
      refine ok_iload_n 1 (kd_m11_verdictOdds.at 86 rfl) rfl rfl ?_
      refine ok_fold (α := Bool) (pcJ := 162) (lvJ := [(0, .ref 14), (1, .int c1), (2, .int c2), (3, .int (kb c3)), (5, .int c5), (6, .int v6), (7, .int v7)]) (stJ := [.int v6]) (mk := fun v => .int (kb v)) (fun K => ?_) (fun x26 => ?_)
      · refine ok_ap ?_
        refine ok_icmp_ne (tgt := 161) (kd_m11_verdictOdds.at 87 rfl) (by decide) (fun h25 => ?_) (fun h25 => ?_)
        · refine ok_iconst (v := 0) (kd_m11_verdictOdds.at 90 rfl) (by decide) ?_
          exact K false
        · refine ok_iconst (v := 1) (kd_m11_verdictOdds.at 88 rfl) (by decide) ?_
          refine ok_goto (tgt := 162) (kd_m11_verdictOdds.at 89 rfl) (by decide) ?_
          exact K true
      · refine ok_iadd (kd_m11_verdictOdds.at 91 rfl) ?_
        refine ok_topi (fun x27 hx27 => ?_)
        refine ok_istore (lv' := [(6, .int x27), (0, .ref 14), (1, .int c1), (2, .int c2), (3, .int (kb c3)), (5, .int c5), (7, .int v7)]) (kd_m11_verdictOdds.at 92 rfl) (by decide) rfl ?_
        refine ok_nx (fun x28 hx28 => ?_)
        refine ok_iinc (v := x28) (lv' := [(7, .int x28), (6, .int x27), (0, .ref 14), (1, .int c1), (2, .int c2), (3, .int (kb c3)), (5, .int c5)]) 6 (kd_m11_verdictOdds.at 93 rfl) rfl hx28.symm (by decide) rfl ?_
        refine ok_goto (tgt := 69) (kd_m11_verdictOdds.at 94 rfl) (by decide) ?_
        refine ok_sub (lv' := [(0, .ref 14), (1, .int c1), (2, .int c2), (3, .int (kb c3)), (5, .int c5), (6, .int x27), (7, .int x28)]) [2, 3, 4, 5, 6, 1, 0] rfl ?_
        exact ih x27 x28 q24.2
def f_m11_verdictOdds (a1 : Int32) (a2 : Int32) (a3 : Bool) (S : kSt) : Option (Int64 × kSt) :=
  (f_m11_good  S).bind fun q1 =>
  (f_m11_isPair a1 q1).bind fun q2 =>
  (f_m11_in a2 0 4 q2.2).bind fun q3 =>
  (f_m11_why q2.1 q3.1 q3.2).bind fun q4 =>
  if q4.1 = 0 then
    f_m11_verdictOdds_L40 
      (fun (x9 : Int32) (S10 : kSt) =>
        f_m11_verdictOdds_L69 
          (fun (x29 : Int32) (S30 : kSt) =>
            (f_m11_lowest (x29.toInt64) (x9.toInt64) a3 S30).bind fun q31 =>
            some (q31.1, q31.2)
          )
          a1 a2 a3 x9 kFU 0 0 S10
      )
      a1 a2 a3 kFU 1 0 q4.2
  else
    (f_m11_no q4.1 q4.2).bind fun q32 =>
    some (q32.1.toInt64, q32.2)
theorem ok_m11_verdictOdds {l : Launch} {G : kG} {E : kE} (a1 : Int32) (a2 : Int32) (a3 : Bool)  (S : kSt) : kFn l G E E kjL m11_verdictOdds 3 [.ref 14, .int a1, .int a2, .int (kb a3)] S (f_m11_verdictOdds a1 a2 a3 S) := by
  unfold f_m11_verdictOdds
  refine kFn_of (by decide +kernel) (fun hG => Nat.le_of_ble_eq_true rfl) ?_
  show kOk _ _ _ _ _ _ _ _ [(0, .ref 14), (1, .int a1), (2, .int a2), (3, .int (kb a3))] _ _
  refine ok_aload_n 0 (kd_m11_verdictOdds.at 0 rfl) rfl rfl ?_
  refine ok_callVV (M' := m11_good) (as := []) (st := []) (kd_m11_verdictOdds.at 1 rfl) kc11_164 sh_14 rfl rfl (by decide) (ok_m11_good  S) (kfit_of (by decide)) rfl (Nat.le_of_ble_eq_true rfl) (fun q1 hq1 => ?_)
  refine ok_aload_n 0 (kd_m11_verdictOdds.at 2 rfl) rfl rfl ?_
  refine ok_aload_n 0 (kd_m11_verdictOdds.at 3 rfl) rfl rfl ?_
  refine ok_iload_n 1 (kd_m11_verdictOdds.at 4 rfl) rfl rfl ?_
  refine ok_callVB (M' := m11_isPair) (as := [.int a1]) (st := [.ref 14]) (kd_m11_verdictOdds.at 5 rfl) kc11_239 sh_14 rfl rfl (by decide) (ok_m11_isPair a1 q1) (kfit_of (by decide)) rfl (Nat.le_of_ble_eq_true rfl) (fun q2 hq2 => ?_)
  refine ok_iload_n 2 (kd_m11_verdictOdds.at 6 rfl) rfl rfl ?_
  refine ok_iconst (v := 0) (kd_m11_verdictOdds.at 7 rfl) (by decide) ?_
  refine ok_iconst (v := 4) (kd_m11_verdictOdds.at 8 rfl) (by decide) ?_
  refine ok_callSB (M' := m11_in) (as := [.int a2, .int 0, .int 4]) (st := [.int (kb q2.1), .ref 14]) (kd_m11_verdictOdds.at 9 rfl) kc11_146  rfl (by decide) (ok_m11_in a2 0 4 q2.2) (kfit_of (by decide)) rfl (Nat.le_of_ble_eq_true rfl) (fun q3 hq3 => ?_)
  refine ok_callVI (M' := m11_why) (as := [.int (kb q2.1), .int (kb q3.1)]) (st := []) (kd_m11_verdictOdds.at 10 rfl) kc11_275 sh_14 rfl rfl (by decide) (ok_m11_why q2.1 q3.1 q3.2) (kfit_of (by decide)) rfl (Nat.le_of_ble_eq_true rfl) (fun q4 hq4 => ?_)
  refine ok_istore (lv' := [(4, .int q4.1), (0, .ref 14), (1, .int a1), (2, .int a2), (3, .int (kb a3))]) (kd_m11_verdictOdds.at 11 rfl) (by decide) rfl ?_
  refine ok_iload 0 (kd_m11_verdictOdds.at 12 rfl) rfl ?_
  refine ok_if_eq (tgt := 34) (kd_m11_verdictOdds.at 13 rfl) (by decide) (fun h5 => ?_) (fun h5 => ?_)
  · refine ok_iconst (v := 1) (kd_m11_verdictOdds.at 19 rfl) (by decide) ?_
    refine ok_istore (lv' := [(5, .int 1), (4, .int q4.1), (0, .ref 14), (1, .int a1), (2, .int a2), (3, .int (kb a3))]) (kd_m11_verdictOdds.at 20 rfl) (by decide) rfl ?_
    refine ok_iconst (v := 0) (kd_m11_verdictOdds.at 21 rfl) (by decide) ?_
    refine ok_istore (lv' := [(6, .int 0), (5, .int 1), (4, .int q4.1), (0, .ref 14), (1, .int a1), (2, .int a2), (3, .int (kb a3))]) (kd_m11_verdictOdds.at 22 rfl) (by decide) rfl ?_
    refine ok_sub (lv' := [(0, .ref 14), (1, .int a1), (2, .int a2), (3, .int (kb a3)), (5, .int 1), (6, .int 0)]) [3, 4, 5, 6, 1, 0] rfl ?_
    refine ok_m11_verdictOdds_L40 a1 a2 a3 _ (fun x9 S10 => ?_) kFU 1 0 q4.2
    refine ok_iconst (v := 0) (kd_m11_verdictOdds.at 35 rfl) (by decide) ?_
    refine ok_istore (lv' := [(6, .int 0), (0, .ref 14), (1, .int a1), (2, .int a2), (3, .int (kb a3)), (5, .int x9)]) (kd_m11_verdictOdds.at 36 rfl) (by decide) rfl ?_
    refine ok_iconst (v := 0) (kd_m11_verdictOdds.at 37 rfl) (by decide) ?_
    refine ok_istore (lv' := [(7, .int 0), (6, .int 0), (0, .ref 14), (1, .int a1), (2, .int a2), (3, .int (kb a3)), (5, .int x9)]) (kd_m11_verdictOdds.at 38 rfl) (by decide) rfl ?_
    refine ok_sub (lv' := [(0, .ref 14), (1, .int a1), (2, .int a2), (3, .int (kb a3)), (5, .int x9), (6, .int 0), (7, .int 0)]) [2, 3, 4, 5, 6, 1, 0] rfl ?_
    refine ok_m11_verdictOdds_L69 a1 a2 a3 x9 _ (fun x29 S30 => ?_) kFU 0 0 S10
    refine ok_iload 2 (kd_m11_verdictOdds.at 95 rfl) rfl ?_
    refine ok_i2l (kd_m11_verdictOdds.at 96 rfl) ?_
    refine ok_iload 1 (kd_m11_verdictOdds.at 97 rfl) rfl ?_
    refine ok_i2l (kd_m11_verdictOdds.at 98 rfl) ?_
    refine ok_iload_n 0 (kd_m11_verdictOdds.at 99 rfl) rfl rfl ?_
    refine ok_callSL (M' := m11_lowest) (as := [.long (x29.toInt64), .long (x9.toInt64), .int (kb a3)]) (st := []) (kd_m11_verdictOdds.at 100 rfl) kc11_375  rfl (by decide) (ok_m11_lowest (x29.toInt64) (x9.toInt64) a3 S30) (kfit_of (by decide)) rfl (Nat.le_of_ble_eq_true rfl) (fun q31 hq31 => ?_)
    exact ok_lreturn (kd_m11_verdictOdds.at 101 rfl) rfl
  · refine ok_aload_n 1 (kd_m11_verdictOdds.at 14 rfl) rfl rfl ?_
    refine ok_iload 0 (kd_m11_verdictOdds.at 15 rfl) rfl ?_
    refine ok_callVI (M' := m11_no) (as := [.int q4.1]) (st := []) (kd_m11_verdictOdds.at 16 rfl) kc11_167 sh_14 rfl rfl (by decide) (ok_m11_no q4.1 q4.2) (kfit_of (by decide)) rfl (Nat.le_of_ble_eq_true rfl) (fun q32 hq32 => ?_)
    refine ok_i2l (kd_m11_verdictOdds.at 17 rfl) ?_
    exact ok_lreturn (kd_m11_verdictOdds.at 18 rfl) rfl
def f_m11_lookWhy_L33   (k53 : kSt → Option (Int32 × kSt)) (c2 : Int32) (c3 : Int32) : Nat → Int32 → kSt → Option (Int32 × kSt)
  | 0, _, _ => none
  | n + 1, v4, S =>
    if 5 ≤ v4 then
      k53  S
    else
      kgi v4 5 (
        knx (kuI S 69 v4.toNatClampNeg 0) fun S7 =>
        knx (v4 + 1) fun x8 =>
        f_m11_lookWhy_L33 k53 c2 c3 n x8 S7
      )
theorem ok_m11_lookWhy_L33 {l : Launch} {G : kG} {E : kE}    (c2 : Int32) (c3 : Int32) (k53 : kSt → Option (Int32 × kSt)) (hk53 : ∀  (S : kSt), kOk l G E (kZ G E kjI) m11_lookWhy (kdp (2)) (k53  S) 53 [(0, .ref 14), (2, .int c2), (3, .int c3)] [] S) : ∀ (n : Nat) (v4 : Int32) (S : kSt), kOk l G E (kZ G E kjI) m11_lookWhy (kdp (2)) (f_m11_lookWhy_L33 k53 c2 c3 n v4 S) 33 [(0, .ref 14), (2, .int c2), (3, .int c3), (4, .int v4)] [] S := by
  intro n
  induction n with
  | zero => intro v4 S; exact ok_none
  | succ n ih =>
    intro v4 S
    rw [f_m11_lookWhy_L33]
    refine ok_iload 3 (kd_m11_lookWhy.at 18 rfl) rfl ?_
    refine ok_iconst (v := 5) (kd_m11_lookWhy.at 19 rfl) (by decide) ?_
    refine ok_icmp_ge (tgt := 53) (kd_m11_lookWhy.at 20 rfl) (by decide) (fun h6 => ?_) (fun h6 => ?_)
    · refine ok_sub (lv' := [(0, .ref 14), (2, .int c2), (3, .int c3)]) [0, 1, 2] rfl ?_
      exact hk53  S
    · refine ok_aload_n 0 (kd_m11_lookWhy.at 21 rfl) rfl rfl ?_
      refine ok_getR (kd_m11_lookWhy.at 22 rfl) kf11_56 sh_14 rfl (kr_14_38 _) ?_
      refine ok_iload 3 (kd_m11_lookWhy.at 23 rfl) rfl ?_
      refine ok_iconst (v := 0) (kd_m11_lookWhy.at 24 rfl) (by decide) ?_
      refine ok_iast (kd_m11_lookWhy.at 25 rfl) sh_69 ?_
      refine ok_nS (fun S7 hS7 => ?_)
      refine ok_nx (fun x8 hx8 => ?_)
      refine ok_iinc (v := x8) (lv' := [(4, .int x8), (0, .ref 14), (2, .int c2), (3, .int c3)]) 3 (kd_m11_lookWhy.at 26 rfl) rfl hx8.symm (by decide) rfl ?_
      refine ok_goto (tgt := 33) (kd_m11_lookWhy.at 27 rfl) (by decide) ?_
      refine ok_sub (lv' := [(0, .ref 14), (2, .int c2), (3, .int c3), (4, .int x8)]) [1, 2, 3, 0] rfl ?_
      exact ih x8 S7
def f_m11_lookWhy_L59   (k103 : kSt → Option (Int32 × kSt)) (c3 : Int32) : Nat → Int32 → Int32 → kSt → Option (Int32 × kSt)
  | 0, _, _, _ => none
  | n + 1, v4, v5, S =>
    if c3 ≤ v5 then
      k103  S
    else
      knx (krem ((75 * v4) + 74) 65537) fun x11 =>
      knx (S.1 57 2) fun x12 =>
      kgz x12 (
        knx (krem x11 x12) fun x13 =>
        kgi x13 5 (
          kgi x13 5 (
            knx (kuI S 69 x13.toNatClampNeg ((S.1 69 x13.toNatClampNeg) + 1)) fun S14 =>
            knx (v5 + 1) fun x15 =>
            f_m11_lookWhy_L59 k103 c3 n x11 x15 S14
          )
        )
      )
theorem ok_m11_lookWhy_L59 {l : Launch} {G : kG} {E : kE}    (c3 : Int32) (k103 : kSt → Option (Int32 × kSt)) (hk103 : ∀  (S : kSt), kOk l G E (kZ G E kjI) m11_lookWhy (kdp (2)) (k103  S) 103 [] [] S) : ∀ (n : Nat) (v4 : Int32) (v5 : Int32) (S : kSt), kOk l G E (kZ G E kjI) m11_lookWhy (kdp (2)) (f_m11_lookWhy_L59 k103 c3 n v4 v5 S) 59 [(0, .ref 14), (3, .int c3), (4, .int v4), (5, .int v5)] [] S := by
  intro n
  induction n with
  | zero => intro v4 v5 S; exact ok_none
  | succ n ih =>
    intro v4 v5 S
    rw [f_m11_lookWhy_L59]
    refine ok_iload 3 (kd_m11_lookWhy.at 32 rfl) rfl ?_
    refine ok_iload_n 1 (kd_m11_lookWhy.at 33 rfl) rfl rfl ?_
    refine ok_icmp_ge (tgt := 103) (kd_m11_lookWhy.at 34 rfl) (by decide) (fun h10 => ?_) (fun h10 => ?_)
    · refine ok_sub (lv' := []) [] rfl ?_
      exact hk103  S
    · refine ok_bipush (v := 75) (kd_m11_lookWhy.at 35 rfl) (by decide) ?_
      refine ok_iload 2 (kd_m11_lookWhy.at 36 rfl) rfl ?_
      refine ok_imul (kd_m11_lookWhy.at 37 rfl) ?_
      refine ok_bipush (v := 74) (kd_m11_lookWhy.at 38 rfl) (by decide) ?_
      refine ok_iadd (kd_m11_lookWhy.at 39 rfl) ?_
      refine ok_ldcw (kd_m11_lookWhy.at 40 rfl) kco_11_380 ?_
      refine ok_iremK (kd_m11_lookWhy.at 41 rfl) (by decide) ?_
      refine ok_topi (fun x11 hx11 => ?_)
      refine ok_istore (lv' := [(4, .int x11), (0, .ref 14), (3, .int c3), (5, .int v5)]) (kd_m11_lookWhy.at 42 rfl) (by decide) rfl ?_
      refine ok_aload_n 1 (kd_m11_lookWhy.at 43 rfl) rfl rfl ?_
      refine ok_getR (kd_m11_lookWhy.at 44 rfl) kf11_56 sh_14 rfl (kr_14_38 _) ?_
      refine ok_iload 0 (kd_m11_lookWhy.at 45 rfl) rfl ?_
      refine ok_aload_n 1 (kd_m11_lookWhy.at 46 rfl) rfl rfl ?_
      refine ok_getR (kd_m11_lookWhy.at 47 rfl) kf11_20 sh_14 rfl (kr_14_15 _) ?_
      refine ok_iconst (v := 2) (kd_m11_lookWhy.at 48 rfl) (by decide) ?_
      refine ok_ialdK (j := 2) (kd_m11_lookWhy.at 49 rfl) sh_57 (by decide) (by decide) ?_
      refine ok_topi (fun x12 hx12 => ?_)
      refine ok_iremG (kd_m11_lookWhy.at 50 rfl) ?_
      refine ok_topi (fun x13 hx13 => ?_)
      refine ok_dup2 (kd_m11_lookWhy.at 51 rfl) rfl rfl ?_
      refine ok_iald (kd_m11_lookWhy.at 52 rfl) sh_69 ?_
      refine ok_iconst (v := 1) (kd_m11_lookWhy.at 53 rfl) (by decide) ?_
      refine ok_iadd (kd_m11_lookWhy.at 54 rfl) ?_
      refine ok_iast (kd_m11_lookWhy.at 55 rfl) sh_69 ?_
      refine ok_nS (fun S14 hS14 => ?_)
      refine ok_nx (fun x15 hx15 => ?_)
      refine ok_iinc (v := x15) (lv' := [(5, .int x15), (4, .int x11), (0, .ref 14), (3, .int c3)]) 3 (kd_m11_lookWhy.at 56 rfl) rfl hx15.symm (by decide) rfl ?_
      refine ok_goto (tgt := 59) (kd_m11_lookWhy.at 57 rfl) (by decide) ?_
      refine ok_sub (lv' := [(0, .ref 14), (3, .int c3), (4, .int x11), (5, .int x15)]) [2, 3, 1, 0] rfl ?_
      exact ih x11 x15 S14
def f_m11_lookWhy (a1 : Bool) (a2 : Int32) (a3 : Int32) (S : kSt) : Option (Int32 × kSt) :=
  if a1 then
    (f_m11_in a2 0 65536 S).bind fun q2 =>
    if q2.1 then
      (f_m11_in a3 0 200 q2.2).bind fun q4 =>
      if q4.1 then
        f_m11_lookWhy_L33 
          (fun  (S9 : kSt) =>
            f_m11_lookWhy_L59 
              (fun  (S16 : kSt) =>
                some (0, S16)
              )
              a3 kFU a2 0 S9
          )
          a2 a3 kFU 0 q4.2
      else
        some (2, q4.2)
    else
      some (2, q2.2)
  else
    some (1, S)
theorem ok_m11_lookWhy {l : Launch} {G : kG} {E : kE} (a1 : Bool) (a2 : Int32) (a3 : Int32)  (S : kSt) : kFn l G E E kjI m11_lookWhy 2 [.ref 14, .int (kb a1), .int a2, .int a3] S (f_m11_lookWhy a1 a2 a3 S) := by
  unfold f_m11_lookWhy
  refine kFn_of (by decide +kernel) (fun hG => Nat.le_of_ble_eq_true rfl) ?_
  show kOk _ _ _ _ _ _ _ _ [(0, .ref 14), (1, .int (kb a1)), (2, .int a2), (3, .int a3)] _ _
  refine ok_iload_n 1 (kd_m11_lookWhy.at 0 rfl) rfl rfl ?_
  refine ok_ifb_ne (tgt := 6) (kd_m11_lookWhy.at 1 rfl) (by decide) (fun h1 => ?_) (fun h1 => ?_)
  · refine ok_iload_n 2 (kd_m11_lookWhy.at 4 rfl) rfl rfl ?_
    refine ok_iconst (v := 0) (kd_m11_lookWhy.at 5 rfl) (by decide) ?_
    refine ok_ldcw (kd_m11_lookWhy.at 6 rfl) kco_11_379 ?_
    refine ok_callSB (M' := m11_in) (as := [.int a2, .int 0, .int 65536]) (st := []) (kd_m11_lookWhy.at 7 rfl) kc11_146  rfl (by decide) (ok_m11_in a2 0 65536 S) (kfit_of (by decide)) rfl (Nat.le_of_ble_eq_true rfl) (fun q2 hq2 => ?_)
    refine ok_ifb_eq (tgt := 28) (kd_m11_lookWhy.at 8 rfl) (by decide) (fun h3 => ?_) (fun h3 => ?_)
    · refine ok_iconst (v := 2) (kd_m11_lookWhy.at 14 rfl) (by decide) ?_
      exact ok_ireturn (kd_m11_lookWhy.at 15 rfl) rfl
    · refine ok_iload_n 3 (kd_m11_lookWhy.at 9 rfl) rfl rfl ?_
      refine ok_iconst (v := 0) (kd_m11_lookWhy.at 10 rfl) (by decide) ?_
      refine ok_sipush (v := 200) (kd_m11_lookWhy.at 11 rfl) (by decide) ?_
      refine ok_callSB (M' := m11_in) (as := [.int a3, .int 0, .int 200]) (st := []) (kd_m11_lookWhy.at 12 rfl) kc11_146  rfl (by decide) (ok_m11_in a3 0 200 q2.2) (kfit_of (by decide)) rfl (Nat.le_of_ble_eq_true rfl) (fun q4 hq4 => ?_)
      refine ok_ifb_ne (tgt := 30) (kd_m11_lookWhy.at 13 rfl) (by decide) (fun h5 => ?_) (fun h5 => ?_)
      · refine ok_iconst (v := 0) (kd_m11_lookWhy.at 16 rfl) (by decide) ?_
        refine ok_istore (lv' := [(4, .int 0), (0, .ref 14), (1, .int (kb a1)), (2, .int a2), (3, .int a3)]) (kd_m11_lookWhy.at 17 rfl) (by decide) rfl ?_
        refine ok_sub (lv' := [(0, .ref 14), (2, .int a2), (3, .int a3), (4, .int 0)]) [1, 3, 4, 0] rfl ?_
        refine ok_m11_lookWhy_L33 a2 a3 _ (fun S9 => ?_) kFU 0 q4.2
        refine ok_iload_n 1 (kd_m11_lookWhy.at 28 rfl) rfl rfl ?_
        refine ok_istore (lv' := [(4, .int a2), (0, .ref 14), (2, .int a2), (3, .int a3)]) (kd_m11_lookWhy.at 29 rfl) (by decide) rfl ?_
        refine ok_iconst (v := 0) (kd_m11_lookWhy.at 30 rfl) (by decide) ?_
        refine ok_istore (lv' := [(5, .int 0), (4, .int a2), (0, .ref 14), (2, .int a2), (3, .int a3)]) (kd_m11_lookWhy.at 31 rfl) (by decide) rfl ?_
        refine ok_sub (lv' := [(0, .ref 14), (3, .int a3), (4, .int a2), (5, .int 0)]) [2, 4, 1, 0] rfl ?_
        refine ok_m11_lookWhy_L59 a3 _ (fun S16 => ?_) kFU a2 0 S9
        refine ok_iconst (v := 0) (kd_m11_lookWhy.at 58 rfl) (by decide) ?_
        exact ok_ireturn (kd_m11_lookWhy.at 59 rfl) rfl
      · refine ok_iconst (v := 2) (kd_m11_lookWhy.at 14 rfl) (by decide) ?_
        exact ok_ireturn (kd_m11_lookWhy.at 15 rfl) rfl
  · refine ok_iconst (v := 1) (kd_m11_lookWhy.at 2 rfl) (by decide) ?_
    exact ok_ireturn (kd_m11_lookWhy.at 3 rfl) rfl
