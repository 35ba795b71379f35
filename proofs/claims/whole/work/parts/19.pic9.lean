def f_m11_looks (a1 : Int32) (a2 : Int32) (a3 : Int32) (S : kSt) : Option (Int32 × kSt) :=
  (f_m11_good  S).bind fun q1 =>
  (f_m11_isPair a1 q1).bind fun q2 =>
  (f_m11_lookWhy q2.1 a2 a3 q2.2).bind fun q3 =>
  if q3.1 = 0 then
    kgi a1 5 (
      some (q3.2.1 69 a1.toNatClampNeg, q3.2)
    )
  else
    (f_m11_no q3.1 q3.2).bind fun q5 =>
    some (q5.1, q5.2)
theorem ok_m11_looks {l : Launch} {G : kG} {E : kE} (a1 : Int32) (a2 : Int32) (a3 : Int32)  (S : kSt) : kFn l G E E kjI m11_looks 3 [.ref 14, .int a1, .int a2, .int a3] S (f_m11_looks a1 a2 a3 S) := by
  unfold f_m11_looks
  refine kFn_of (by decide +kernel) (fun hG => Nat.le_of_ble_eq_true rfl) ?_
  show kOk _ _ _ _ _ _ _ _ [(0, .ref 14), (1, .int a1), (2, .int a2), (3, .int a3)] _ _
  refine ok_aload_n 0 (kd_m11_looks.at 0 rfl) rfl rfl ?_
  refine ok_callVV (M' := m11_good) (as := []) (st := []) (kd_m11_looks.at 1 rfl) kc11_164 sh_14 rfl rfl (by decide) (ok_m11_good  S) (kfit_of (by decide)) rfl (Nat.le_of_ble_eq_true rfl) (fun q1 hq1 => ?_)
  refine ok_aload_n 0 (kd_m11_looks.at 2 rfl) rfl rfl ?_
  refine ok_aload_n 0 (kd_m11_looks.at 3 rfl) rfl rfl ?_
  refine ok_iload_n 1 (kd_m11_looks.at 4 rfl) rfl rfl ?_
  refine ok_callVB (M' := m11_isPair) (as := [.int a1]) (st := [.ref 14]) (kd_m11_looks.at 5 rfl) kc11_239 sh_14 rfl rfl (by decide) (ok_m11_isPair a1 q1) (kfit_of (by decide)) rfl (Nat.le_of_ble_eq_true rfl) (fun q2 hq2 => ?_)
  refine ok_iload_n 2 (kd_m11_looks.at 6 rfl) rfl rfl ?_
  refine ok_iload_n 3 (kd_m11_looks.at 7 rfl) rfl rfl ?_
  refine ok_callVI (M' := m11_lookWhy) (as := [.int (kb q2.1), .int a2, .int a3]) (st := []) (kd_m11_looks.at 8 rfl) kc11_381 sh_14 rfl rfl (by decide) (ok_m11_lookWhy q2.1 a2 a3 q2.2) (kfit_of (by decide)) rfl (Nat.le_of_ble_eq_true rfl) (fun q3 hq3 => ?_)
  refine ok_istore (lv' := [(4, .int q3.1), (0, .ref 14), (1, .int a1), (2, .int a2), (3, .int a3)]) (kd_m11_looks.at 9 rfl) (by decide) rfl ?_
  refine ok_iload 0 (kd_m11_looks.at 10 rfl) rfl ?_
  refine ok_if_eq (tgt := 31) (kd_m11_looks.at 11 rfl) (by decide) (fun h4 => ?_) (fun h4 => ?_)
  · refine ok_aload_n 1 (kd_m11_looks.at 16 rfl) rfl rfl ?_
    refine ok_getR (kd_m11_looks.at 17 rfl) kf11_56 sh_14 rfl (kr_14_38 _) ?_
    refine ok_iload_n 2 (kd_m11_looks.at 18 rfl) rfl rfl ?_
    refine ok_iald (kd_m11_looks.at 19 rfl) sh_69 ?_
    exact ok_ireturn (kd_m11_looks.at 20 rfl) rfl
  · refine ok_aload_n 1 (kd_m11_looks.at 12 rfl) rfl rfl ?_
    refine ok_iload 0 (kd_m11_looks.at 13 rfl) rfl ?_
    refine ok_callVI (M' := m11_no) (as := [.int q3.1]) (st := []) (kd_m11_looks.at 14 rfl) kc11_167 sh_14 rfl rfl (by decide) (ok_m11_no q3.1 q3.2) (kfit_of (by decide)) rfl (Nat.le_of_ble_eq_true rfl) (fun q5 hq5 => ?_)
    refine ok_goto (tgt := 37) (kd_m11_looks.at 15 rfl) (by decide) ?_
    exact ok_ireturn (kd_m11_looks.at 20 rfl) rfl
def f_m11_verdict (a1 : Int32) (a2 : Int32) (S : kSt) : Option (Int32 × kSt) :=
  (f_m11_good  S).bind fun q1 =>
  kgb (q1.1 14 14) fun b2 =>
  (f_m11_lookWhy b2 a1 a2 q1).bind fun q3 =>
  if q3.1 = 0 then
    (f_m11_verdictOf  q3.2).bind fun q5 =>
    some (q5.1, q5.2)
  else
    (f_m11_no q3.1 q3.2).bind fun q6 =>
    some (q6.1, q6.2)
theorem ok_m11_verdict {l : Launch} {G : kG} {E : kE} (a1 : Int32) (a2 : Int32)  (S : kSt) : kFn l G E E kjI m11_verdict 3 [.ref 14, .int a1, .int a2] S (f_m11_verdict a1 a2 S) := by
  unfold f_m11_verdict
  refine kFn_of (by decide +kernel) (fun hG => Nat.le_of_ble_eq_true rfl) ?_
  show kOk _ _ _ _ _ _ _ _ [(0, .ref 14), (1, .int a1), (2, .int a2)] _ _
  refine ok_aload_n 0 (kd_m11_verdict.at 0 rfl) rfl rfl ?_
  refine ok_callVV (M' := m11_good) (as := []) (st := []) (kd_m11_verdict.at 1 rfl) kc11_164 sh_14 rfl rfl (by decide) (ok_m11_good  S) (kfit_of (by decide)) rfl (Nat.le_of_ble_eq_true rfl) (fun q1 hq1 => ?_)
  refine ok_aload_n 0 (kd_m11_verdict.at 2 rfl) rfl rfl ?_
  refine ok_aload_n 0 (kd_m11_verdict.at 3 rfl) rfl rfl ?_
  refine ok_getZ (kd_m11_verdict.at 4 rfl) kf11_177 sh_14 rfl (fun b2 => ?_)
  refine ok_iload_n 1 (kd_m11_verdict.at 5 rfl) rfl rfl ?_
  refine ok_iload_n 2 (kd_m11_verdict.at 6 rfl) rfl rfl ?_
  refine ok_callVI (M' := m11_lookWhy) (as := [.int (kb b2), .int a1, .int a2]) (st := []) (kd_m11_verdict.at 7 rfl) kc11_381 sh_14 rfl rfl (by decide) (ok_m11_lookWhy b2 a1 a2 q1) (kfit_of (by decide)) rfl (Nat.le_of_ble_eq_true rfl) (fun q3 hq3 => ?_)
  refine ok_istore_n (lv' := [(3, .int q3.1), (0, .ref 14), (1, .int a1), (2, .int a2)]) (kd_m11_verdict.at 8 rfl) rfl (by decide) rfl ?_
  refine ok_iload_n 0 (kd_m11_verdict.at 9 rfl) rfl rfl ?_
  refine ok_if_eq (tgt := 27) (kd_m11_verdict.at 10 rfl) (by decide) (fun h4 => ?_) (fun h4 => ?_)
  · refine ok_aload_n 1 (kd_m11_verdict.at 15 rfl) rfl rfl ?_
    refine ok_callVI (M' := m11_verdictOf) (as := []) (st := []) (kd_m11_verdict.at 16 rfl) kc11_372 sh_14 rfl rfl (by decide) (ok_m11_verdictOf  q3.2) (kfit_of (by decide)) rfl (Nat.le_of_ble_eq_true rfl) (fun q5 hq5 => ?_)
    exact ok_ireturn (kd_m11_verdict.at 17 rfl) rfl
  · refine ok_aload_n 1 (kd_m11_verdict.at 11 rfl) rfl rfl ?_
    refine ok_iload_n 0 (kd_m11_verdict.at 12 rfl) rfl rfl ?_
    refine ok_callVI (M' := m11_no) (as := [.int q3.1]) (st := []) (kd_m11_verdict.at 13 rfl) kc11_167 sh_14 rfl rfl (by decide) (ok_m11_no q3.1 q3.2) (kfit_of (by decide)) rfl (Nat.le_of_ble_eq_true rfl) (fun q6 hq6 => ?_)
    refine ok_goto (tgt := 31) (kd_m11_verdict.at 14 rfl) (by decide) ?_
    exact ok_ireturn (kd_m11_verdict.at 17 rfl) rfl
def f_m11_tryDumb_L40   (k132 : Int64 → Int32 → kSt → Option kSt) (c1 : Int32) (c2 : Int32) (c3 : Int32) (c4 : Int32) : Nat → Int64 → Int32 → Int32 → kSt → Option kSt
  | 0, _, _, _, _ => none
  | n + 1, v5, v7, v8, S =>
    if c2 ≤ v8 then
      k132 v5 v7 S
    else
      (f_m11_hasBit c4 v8 S).bind fun q7 =>
      knx (if q7.1 then (q7.2.1 57 1).toInt64 else (100 - (q7.2.1 57 1)).toInt64) fun x9 =>
      knx (v5 * x9) fun x10 =>
      knx (5 + c1) fun x11 =>
      kgi x11 36 (
        knx (13 + c1) fun x12 =>
        kgi x12 95 (
          (f_m11_hasBit c4 v8 q7.2).bind fun q13 =>
          (f_m11_behind c1 v7 (q7.2.1 61 x11.toNatClampNeg) (q7.2.1 57 x12.toNatClampNeg) (((q7.2.1 61 35) + v8) + 1) q13.1 q13.2).bind fun q14 =>
          knx (v8 + 1) fun x15 =>
          f_m11_tryDumb_L40 k132 c1 c2 c3 c4 n x10 q14.1 x15 q14.2
        )
      )
theorem ok_m11_tryDumb_L40 {l : Launch} {G : kG} {E : kE}    (c1 : Int32) (c2 : Int32) (c3 : Int32) (c4 : Int32) (k132 : Int64 → Int32 → kSt → Option kSt) (hk132 : ∀ (v5 : Int64) (v7 : Int32) (S : kSt), kOk l G E (kZ G E kjV) m11_tryDumb (kdp (4)) (k132 v5 v7 S) 132 [(0, .ref 14), (1, .int c1), (2, .int c2), (3, .int c3), (4, .int c4), (5, .long v5), (7, .int v7)] [] S) : ∀ (n : Nat) (v5 : Int64) (v7 : Int32) (v8 : Int32) (S : kSt), kOk l G E (kZ G E kjV) m11_tryDumb (kdp (4)) (f_m11_tryDumb_L40 k132 c1 c2 c3 c4 n v5 v7 v8 S) 40 [(0, .ref 14), (1, .int c1), (2, .int c2), (3, .int c3), (4, .int c4), (5, .long v5), (7, .int v7), (8, .int v8)] [] S := by
  intro n
  induction n with
  | zero => intro v5 v7 v8 S; exact ok_none
  | succ n ih =>
    intro v5 v7 v8 S
    rw [f_m11_tryDumb_L40]
    refine ok_iload 7 (kd_m11_tryDumb.at 25 rfl) rfl ?_
    refine ok_iload_n 2 (kd_m11_tryDumb.at 26 rfl) rfl rfl ?_
    refine ok_icmp_ge (tgt := 132) (kd_m11_tryDumb.at 27 rfl) (by decide) (fun h6 => ?_) (fun h6 => ?_)
    · refine ok_sub (lv' := [(0, .ref 14), (1, .int c1), (2, .int c2), (3, .int c3), (4, .int c4), (5, .long v5), (7, .int v7)]) [0, 1, 2, 3, 4, 5, 6] rfl ?_
      exact hk132 v5 v7 S
    · refine ok_lload 5 (kd_m11_tryDumb.at 28 rfl) rfl ?_
      refine ok_iload 4 (kd_m11_tryDumb.at 29 rfl) rfl ?_
      refine ok_iload 7 (kd_m11_tryDumb.at 30 rfl) rfl ?_
      refine ok_callSB (M' := m11_hasBit) (as := [.int c4, .int v8]) (st := [.long v5]) (kd_m11_tryDumb.at 31 rfl) kc11_306  rfl (by decide) (ok_m11_hasBit c4 v8 S) (kfit_of (by decide)) rfl (Nat.le_of_ble_eq_true rfl) (fun q7 hq7 => ?_)
      refine ok_fold (α := Int64) (pcJ := 78) (lvJ := [(0, .ref 14), (1, .int c1), (2, .int c2), (3, .int c3), (4, .int c4), (5, .long v5), (7, .int v7), (8, .int v8)]) (stJ := [.long v5]) (mk := fun v => .long v) (fun K => ?_) (fun x9 => ?_)
      · refine ok_ap ?_
        refine ok_ifb_eq (tgt := 68) (kd_m11_tryDumb.at 32 rfl) (by decide) (fun h8 => ?_) (fun h8 => ?_)
        · refine ok_bipush (v := 100) (kd_m11_tryDumb.at 39 rfl) (by decide) ?_
          refine ok_aload_n 0 (kd_m11_tryDumb.at 40 rfl) rfl rfl ?_
          refine ok_getR (kd_m11_tryDumb.at 41 rfl) kf11_20 sh_14 rfl (kr_14_15 _) ?_
          refine ok_iconst (v := 1) (kd_m11_tryDumb.at 42 rfl) (by decide) ?_
          refine ok_ialdK (j := 1) (kd_m11_tryDumb.at 43 rfl) sh_57 (by decide) (by decide) ?_
          refine ok_isub (kd_m11_tryDumb.at 44 rfl) ?_
          refine ok_i2l (kd_m11_tryDumb.at 45 rfl) ?_
          exact K ((100 - (q7.2.1 57 1)).toInt64)
        · refine ok_aload_n 0 (kd_m11_tryDumb.at 33 rfl) rfl rfl ?_
          refine ok_getR (kd_m11_tryDumb.at 34 rfl) kf11_20 sh_14 rfl (kr_14_15 _) ?_
          refine ok_iconst (v := 1) (kd_m11_tryDumb.at 35 rfl) (by decide) ?_
          refine ok_ialdK (j := 1) (kd_m11_tryDumb.at 36 rfl) sh_57 (by decide) (by decide) ?_
          refine ok_i2l (kd_m11_tryDumb.at 37 rfl) ?_
          refine ok_goto (tgt := 78) (kd_m11_tryDumb.at 38 rfl) (by decide) ?_
          exact K ((q7.2.1 57 1).toInt64)
      · refine ok_lmul (kd_m11_tryDumb.at 46 rfl) ?_
        refine ok_topl (fun x10 hx10 => ?_)
        refine ok_lstore (lv' := [(5, .long x10), (0, .ref 14), (1, .int c1), (2, .int c2), (3, .int c3), (4, .int c4), (7, .int v7), (8, .int v8)]) (kd_m11_tryDumb.at 47 rfl) (by decide) rfl ?_
        refine ok_aload_n 1 (kd_m11_tryDumb.at 48 rfl) rfl rfl ?_
        refine ok_iload_n 2 (kd_m11_tryDumb.at 49 rfl) rfl rfl ?_
        refine ok_iload 6 (kd_m11_tryDumb.at 50 rfl) rfl ?_
        refine ok_aload_n 1 (kd_m11_tryDumb.at 51 rfl) rfl rfl ?_
        refine ok_getR (kd_m11_tryDumb.at 52 rfl) kf11_32 sh_14 rfl (kr_14_19 _) ?_
        refine ok_iconst (v := 5) (kd_m11_tryDumb.at 53 rfl) (by decide) ?_
        refine ok_iload_n 2 (kd_m11_tryDumb.at 54 rfl) rfl rfl ?_
        refine ok_iadd (kd_m11_tryDumb.at 55 rfl) ?_
        refine ok_topi (fun x11 hx11 => ?_)
        refine ok_iald (kd_m11_tryDumb.at 56 rfl) sh_61 ?_
        refine ok_aload_n 1 (kd_m11_tryDumb.at 57 rfl) rfl rfl ?_
        refine ok_getR (kd_m11_tryDumb.at 58 rfl) kf11_20 sh_14 rfl (kr_14_15 _) ?_
        refine ok_bipush (v := 13) (kd_m11_tryDumb.at 59 rfl) (by decide) ?_
        refine ok_iload_n 2 (kd_m11_tryDumb.at 60 rfl) rfl rfl ?_
        refine ok_iadd (kd_m11_tryDumb.at 61 rfl) ?_
        refine ok_topi (fun x12 hx12 => ?_)
        refine ok_iald (kd_m11_tryDumb.at 62 rfl) sh_57 ?_
        refine ok_aload_n 1 (kd_m11_tryDumb.at 63 rfl) rfl rfl ?_
        refine ok_getR (kd_m11_tryDumb.at 64 rfl) kf11_32 sh_14 rfl (kr_14_19 _) ?_
        refine ok_bipush (v := 35) (kd_m11_tryDumb.at 65 rfl) (by decide) ?_
        refine ok_ialdK (j := 35) (kd_m11_tryDumb.at 66 rfl) sh_61 (by decide) (by decide) ?_
        refine ok_iload 7 (kd_m11_tryDumb.at 67 rfl) rfl ?_
        refine ok_iadd (kd_m11_tryDumb.at 68 rfl) ?_
        refine ok_iconst (v := 1) (kd_m11_tryDumb.at 69 rfl) (by decide) ?_
        refine ok_iadd (kd_m11_tryDumb.at 70 rfl) ?_
        refine ok_iload 5 (kd_m11_tryDumb.at 71 rfl) rfl ?_
        refine ok_iload 7 (kd_m11_tryDumb.at 72 rfl) rfl ?_
        refine ok_callSB (M' := m11_hasBit) (as := [.int c4, .int v8]) (st := [.int (((q7.2.1 61 35) + v8) + 1), .int (q7.2.1 57 x12.toNatClampNeg), .int (q7.2.1 61 x11.toNatClampNeg), .int v7, .int c1, .ref 14]) (kd_m11_tryDumb.at 73 rfl) kc11_306  rfl (by decide) (ok_m11_hasBit c4 v8 q7.2) (kfit_of (by decide)) rfl (Nat.le_of_ble_eq_true rfl) (fun q13 hq13 => ?_)
        refine ok_callVI (M' := m11_behind) (as := [.int c1, .int v7, .int (q7.2.1 61 x11.toNatClampNeg), .int (q7.2.1 57 x12.toNatClampNeg), .int (((q7.2.1 61 35) + v8) + 1), .int (kb q13.1)]) (st := []) (kd_m11_tryDumb.at 74 rfl) kc11_249 sh_14 rfl rfl (by decide) (ok_m11_behind c1 v7 (q7.2.1 61 x11.toNatClampNeg) (q7.2.1 57 x12.toNatClampNeg) (((q7.2.1 61 35) + v8) + 1) q13.1 q13.2) (kfit_of (by decide)) rfl (Nat.le_of_ble_eq_true rfl) (fun q14 hq14 => ?_)
        refine ok_istore (lv' := [(7, .int q14.1), (5, .long x10), (0, .ref 14), (1, .int c1), (2, .int c2), (3, .int c3), (4, .int c4), (8, .int v8)]) (kd_m11_tryDumb.at 75 rfl) (by decide) rfl ?_
        refine ok_nx (fun x15 hx15 => ?_)
        refine ok_iinc (v := x15) (lv' := [(8, .int x15), (7, .int q14.1), (5, .long x10), (0, .ref 14), (1, .int c1), (2, .int c2), (3, .int c3), (4, .int c4)]) 7 (kd_m11_tryDumb.at 76 rfl) rfl hx15.symm (by decide) rfl ?_
        refine ok_goto (tgt := 40) (kd_m11_tryDumb.at 77 rfl) (by decide) ?_
        refine ok_sub (lv' := [(0, .ref 14), (1, .int c1), (2, .int c2), (3, .int c3), (4, .int c4), (5, .long x10), (7, .int q14.1), (8, .int x15)]) [3, 4, 5, 6, 7, 2, 1, 0] rfl ?_
        exact ih x10 q14.1 x15 q14.2
def f_m11_tryDumb_L18   (k185 : kSt → Option kSt) (c1 : Int32) (c2 : Int32) (c3 : Int32) : Nat → Int32 → kSt → Option kSt
  | 0, _, _ => none
  | n + 1, v4, S =>
    if (1 <<< (c2 &&& 31)) ≤ v4 then
      k185  S
    else
      kgi c1 36 (
        knx (S.1 61 c1.toNatClampNeg) fun x5 =>
        f_m11_tryDumb_L40 
          (fun (x16 : Int64) (x17 : Int32) (S18 : kSt) =>
            knx (kuL S18 14 39 ((S18.2 14 39) + x16)) fun S19 =>
            knx (if x17 < c3 then 0 else x16) fun x21 =>
            knx (kuL S19 14 40 ((S19.2 14 40) + x21)) fun S22 =>
            knx (kuL S22 14 41 ((S22.2 14 41) + (x16 * (x17.toInt64)))) fun S23 =>
            knx (v4 + 1) fun x24 =>
            f_m11_tryDumb_L18 k185 c1 c2 c3 n x24 S23
          )
          c1 c2 c3 v4 kFU 1 x5 0 S
      )
theorem ok_m11_tryDumb_L18 {l : Launch} {G : kG} {E : kE}    (c1 : Int32) (c2 : Int32) (c3 : Int32) (k185 : kSt → Option kSt) (hk185 : ∀  (S : kSt), kOk l G E (kZ G E kjV) m11_tryDumb (kdp (4)) (k185  S) 185 [] [] S) : ∀ (n : Nat) (v4 : Int32) (S : kSt), kOk l G E (kZ G E kjV) m11_tryDumb (kdp (4)) (f_m11_tryDumb_L18 k185 c1 c2 c3 n v4 S) 18 [(0, .ref 14), (1, .int c1), (2, .int c2), (3, .int c3), (4, .int v4)] [] S := by
  intro n
  induction n with
  | zero => intro v4 S; exact ok_none
  | succ n ih =>
    intro v4 S
    rw [f_m11_tryDumb_L18]
    refine ok_iload 4 (kd_m11_tryDumb.at 11 rfl) rfl ?_
    refine ok_iconst (v := 1) (kd_m11_tryDumb.at 12 rfl) (by decide) ?_
    refine ok_iload_n 2 (kd_m11_tryDumb.at 13 rfl) rfl rfl ?_
    refine ok_ishl (kd_m11_tryDumb.at 14 rfl) ?_
    refine ok_icmp_ge (tgt := 185) (kd_m11_tryDumb.at 15 rfl) (by decide) (fun h4 => ?_) (fun h4 => ?_)
    · refine ok_sub (lv' := []) [] rfl ?_
      exact hk185  S
    · refine ok_lconst (v := 1) (kd_m11_tryDumb.at 16 rfl) (by decide) ?_
      refine ok_lstore (lv' := [(5, .long 1), (0, .ref 14), (1, .int c1), (2, .int c2), (3, .int c3), (4, .int v4)]) (kd_m11_tryDumb.at 17 rfl) (by decide) rfl ?_
      refine ok_aload_n 1 (kd_m11_tryDumb.at 18 rfl) rfl rfl ?_
      refine ok_getR (kd_m11_tryDumb.at 19 rfl) kf11_32 sh_14 rfl (kr_14_19 _) ?_
      refine ok_iload_n 2 (kd_m11_tryDumb.at 20 rfl) rfl rfl ?_
      refine ok_iald (kd_m11_tryDumb.at 21 rfl) sh_61 ?_
      refine ok_topi (fun x5 hx5 => ?_)
      refine ok_istore (lv' := [(7, .int x5), (5, .long 1), (0, .ref 14), (1, .int c1), (2, .int c2), (3, .int c3), (4, .int v4)]) (kd_m11_tryDumb.at 22 rfl) (by decide) rfl ?_
      refine ok_iconst (v := 0) (kd_m11_tryDumb.at 23 rfl) (by decide) ?_
      refine ok_istore (lv' := [(8, .int 0), (7, .int x5), (5, .long 1), (0, .ref 14), (1, .int c1), (2, .int c2), (3, .int c3), (4, .int v4)]) (kd_m11_tryDumb.at 24 rfl) (by decide) rfl ?_
      refine ok_sub (lv' := [(0, .ref 14), (1, .int c1), (2, .int c2), (3, .int c3), (4, .int v4), (5, .long 1), (7, .int x5), (8, .int 0)]) [3, 4, 5, 6, 7, 2, 1, 0] rfl ?_
      refine ok_m11_tryDumb_L40 c1 c2 c3 v4 _ (fun x16 x17 S18 => ?_) kFU 1 x5 0 S
      refine ok_aload_n 0 (kd_m11_tryDumb.at 78 rfl) rfl rfl ?_
      refine ok_dup (kd_m11_tryDumb.at 79 rfl) rfl ?_
      refine ok_getL (kd_m11_tryDumb.at 80 rfl) kf11_385 sh_14 rfl ?_
      refine ok_lload 5 (kd_m11_tryDumb.at 81 rfl) rfl ?_
      refine ok_ladd (kd_m11_tryDumb.at 82 rfl) ?_
      refine ok_putL (kd_m11_tryDumb.at 83 rfl) kf11_385 sh_14 rfl rfl ?_
      refine ok_nS (fun S19 hS19 => ?_)
      refine ok_aload_n 0 (kd_m11_tryDumb.at 84 rfl) rfl rfl ?_
      refine ok_dup (kd_m11_tryDumb.at 85 rfl) rfl ?_
      refine ok_getL (kd_m11_tryDumb.at 86 rfl) kf11_389 sh_14 rfl ?_
      refine ok_iload 6 (kd_m11_tryDumb.at 87 rfl) rfl ?_
      refine ok_iload_n 3 (kd_m11_tryDumb.at 88 rfl) rfl rfl ?_
      refine ok_fold (α := Int64) (pcJ := 160) (lvJ := [(0, .ref 14), (1, .int c1), (2, .int c2), (3, .int c3), (4, .int v4), (5, .long x16), (7, .int x17)]) (stJ := [.long (S19.2 14 40), .ref 14]) (mk := fun v => .long v) (fun K => ?_) (fun x21 => ?_)
      · refine ok_ap ?_
        refine ok_icmp_lt (tgt := 159) (kd_m11_tryDumb.at 89 rfl) (by decide) (fun h20 => ?_) (fun h20 => ?_)
        · refine ok_lconst (v := 0) (kd_m11_tryDumb.at 92 rfl) (by decide) ?_
          exact K 0
        · refine ok_lload 5 (kd_m11_tryDumb.at 90 rfl) rfl ?_
          refine ok_goto (tgt := 160) (kd_m11_tryDumb.at 91 rfl) (by decide) ?_
          exact K x16
      · refine ok_ladd (kd_m11_tryDumb.at 93 rfl) ?_
        refine ok_putL (kd_m11_tryDumb.at 94 rfl) kf11_389 sh_14 rfl rfl ?_
        refine ok_nS (fun S22 hS22 => ?_)
        refine ok_aload_n 0 (kd_m11_tryDumb.at 95 rfl) rfl rfl ?_
        refine ok_dup (kd_m11_tryDumb.at 96 rfl) rfl ?_
        refine ok_getL (kd_m11_tryDumb.at 97 rfl) kf11_392 sh_14 rfl ?_
        refine ok_lload 5 (kd_m11_tryDumb.at 98 rfl) rfl ?_
        refine ok_iload 6 (kd_m11_tryDumb.at 99 rfl) rfl ?_
        refine ok_i2l (kd_m11_tryDumb.at 100 rfl) ?_
        refine ok_lmul (kd_m11_tryDumb.at 101 rfl) ?_
        refine ok_ladd (kd_m11_tryDumb.at 102 rfl) ?_
        refine ok_putL (kd_m11_tryDumb.at 103 rfl) kf11_392 sh_14 rfl rfl ?_
        refine ok_nS (fun S23 hS23 => ?_)
        refine ok_nx (fun x24 hx24 => ?_)
        refine ok_iinc (v := x24) (lv' := [(4, .int x24), (0, .ref 14), (1, .int c1), (2, .int c2), (3, .int c3), (5, .long x16), (7, .int x17)]) 4 (kd_m11_tryDumb.at 104 rfl) rfl hx24.symm (by decide) rfl ?_
        refine ok_goto (tgt := 18) (kd_m11_tryDumb.at 105 rfl) (by decide) ?_
        refine ok_sub (lv' := [(0, .ref 14), (1, .int c1), (2, .int c2), (3, .int c3), (4, .int x24)]) [1, 2, 3, 4, 0] rfl ?_
        exact ih x24 S23
def f_m11_tryDumb (a1 : Int32) (a2 : Int32) (a3 : Int32) (S : kSt) : Option kSt :=
  knx (kuL S 14 39 0) fun S1 =>
  knx (kuL S1 14 40 0) fun S2 =>
  knx (kuL S2 14 41 0) fun S3 =>
  f_m11_tryDumb_L18 
    (fun  (S25 : kSt) =>
      some S25
    )
    a1 a2 a3 kFU 0 S3
theorem ok_m11_tryDumb {l : Launch} {G : kG} {E : kE} (a1 : Int32) (a2 : Int32) (a3 : Int32)  (S : kSt) : kFn l G E E kjV m11_tryDumb 4 [.ref 14, .int a1, .int a2, .int a3] S (f_m11_tryDumb a1 a2 a3 S) := by
  unfold f_m11_tryDumb
  refine kFn_of (by decide +kernel) (fun hG => Nat.le_of_ble_eq_true rfl) ?_
  show kOk _ _ _ _ _ _ _ _ [(0, .ref 14), (1, .int a1), (2, .int a2), (3, .int a3)] _ _
  refine ok_aload_n 0 (kd_m11_tryDumb.at 0 rfl) rfl rfl ?_
  refine ok_lconst (v := 0) (kd_m11_tryDumb.at 1 rfl) (by decide) ?_
  refine ok_putL (kd_m11_tryDumb.at 2 rfl) kf11_385 sh_14 rfl rfl ?_
  refine ok_nS (fun S1 hS1 => ?_)
  refine ok_aload_n 0 (kd_m11_tryDumb.at 3 rfl) rfl rfl ?_
  refine ok_lconst (v := 0) (kd_m11_tryDumb.at 4 rfl) (by decide) ?_
  refine ok_putL (kd_m11_tryDumb.at 5 rfl) kf11_389 sh_14 rfl rfl ?_
  refine ok_nS (fun S2 hS2 => ?_)
  refine ok_aload_n 0 (kd_m11_tryDumb.at 6 rfl) rfl rfl ?_
  refine ok_lconst (v := 0) (kd_m11_tryDumb.at 7 rfl) (by decide) ?_
  refine ok_putL (kd_m11_tryDumb.at 8 rfl) kf11_392 sh_14 rfl rfl ?_
  refine ok_nS (fun S3 hS3 => ?_)
  refine ok_iconst (v := 0) (kd_m11_tryDumb.at 9 rfl) (by decide) ?_
  refine ok_istore (lv' := [(4, .int 0), (0, .ref 14), (1, .int a1), (2, .int a2), (3, .int a3)]) (kd_m11_tryDumb.at 10 rfl) (by decide) rfl ?_
  refine ok_sub (lv' := [(0, .ref 14), (1, .int a1), (2, .int a2), (3, .int a3), (4, .int 0)]) [1, 2, 3, 4, 0] rfl ?_
  refine ok_m11_tryDumb_L18 a1 a2 a3 _ (fun S25 => ?_) kFU 0 S3
  exact ok_return (kd_m11_tryDumb.at 106 rfl) rfl
def f_m11_odds (a1 : Int32) (a2 : Int32) (a3 : Int32) (a4 : Bool) (S : kSt) : Option (Int64 × kSt) :=
  (f_m11_good  S).bind fun q1 =>
  (f_m11_isPair a1 q1).bind fun q2 =>
  (f_m11_in a2 0 5 q2.2).bind fun q3 =>
  knx (fun (x4 : Bool) (S5 : kSt) =>
    (f_m11_why q2.1 x4 S5).bind fun q6 =>
    if q6.1 = 0 then
      (f_m11_tryDumb a1 a2 a3 q6.2).bind fun q8 =>
      (f_m11_lowest (q8.2 14 40) (q8.2 14 39) a4 q8).bind fun q9 =>
      some (q9.1, q9.2)
    else
      (f_m11_no q6.1 q6.2).bind fun q10 =>
      some (q10.1.toInt64, q10.2)
    ) fun j34 =>
  knx (fun  (S11 : kSt) =>
    j34 false S11
    ) fun j33 =>
  if q3.1 then
    (f_m11_in a3 0 99 q3.2).bind fun q13 =>
    if q13.1 then
      j34 true q13.2
    else
      j33  q13.2
  else
    j33  q3.2
theorem ok_m11_odds {l : Launch} {G : kG} {E : kE} (a1 : Int32) (a2 : Int32) (a3 : Int32) (a4 : Bool)  (S : kSt) : kFn l G E E kjL m11_odds 5 [.ref 14, .int a1, .int a2, .int a3, .int (kb a4)] S (f_m11_odds a1 a2 a3 a4 S) := by
  unfold f_m11_odds
  refine kFn_of (by decide +kernel) (fun hG => Nat.le_of_ble_eq_true rfl) ?_
  show kOk _ _ _ _ _ _ _ _ [(0, .ref 14), (1, .int a1), (2, .int a2), (3, .int a3), (4, .int (kb a4))] _ _
  refine ok_aload_n 0 (kd_m11_odds.at 0 rfl) rfl rfl ?_
  refine ok_callVV (M' := m11_good) (as := []) (st := []) (kd_m11_odds.at 1 rfl) kc11_164 sh_14 rfl rfl (by decide) (ok_m11_good  S) (kfit_of (by decide)) rfl (Nat.le_of_ble_eq_true rfl) (fun q1 hq1 => ?_)
  refine ok_aload_n 0 (kd_m11_odds.at 2 rfl) rfl rfl ?_
  refine ok_aload_n 0 (kd_m11_odds.at 3 rfl) rfl rfl ?_
  refine ok_iload_n 1 (kd_m11_odds.at 4 rfl) rfl rfl ?_
  refine ok_callVB (M' := m11_isPair) (as := [.int a1]) (st := [.ref 14]) (kd_m11_odds.at 5 rfl) kc11_239 sh_14 rfl rfl (by decide) (ok_m11_isPair a1 q1) (kfit_of (by decide)) rfl (Nat.le_of_ble_eq_true rfl) (fun q2 hq2 => ?_)
  refine ok_iload_n 2 (kd_m11_odds.at 6 rfl) rfl rfl ?_
  refine ok_iconst (v := 0) (kd_m11_odds.at 7 rfl) (by decide) ?_
  refine ok_iconst (v := 5) (kd_m11_odds.at 8 rfl) (by decide) ?_
  refine ok_callSB (M' := m11_in) (as := [.int a2, .int 0, .int 5]) (st := [.int (kb q2.1), .ref 14]) (kd_m11_odds.at 9 rfl) kc11_146  rfl (by decide) (ok_m11_in a2 0 5 q2.2) (kfit_of (by decide)) rfl (Nat.le_of_ble_eq_true rfl) (fun q3 hq3 => ?_)
  refine ok_nx (fun j34 hj34 => ?_)
  have K34 : ∀ (x4 : Bool) (S5 : kSt), kOk l G E (kZ G E kjL) m11_odds (kdp (5)) (j34 x4 S5) 34 [(0, .ref 14), (1, .int a1), (2, .int a2), (3, .int a3), (4, .int (kb a4))] [.int (kb x4), .int (kb q2.1), .ref 14] S5 := by
    subst hj34
    intro x4 S5
    refine ok_callVI (M' := m11_why) (as := [.int (kb q2.1), .int (kb x4)]) (st := []) (kd_m11_odds.at 19 rfl) kc11_275 sh_14 rfl rfl (by decide) (ok_m11_why q2.1 x4 S5) (kfit_of (by decide)) rfl (Nat.le_of_ble_eq_true rfl) (fun q6 hq6 => ?_)
    refine ok_istore (lv' := [(5, .int q6.1), (0, .ref 14), (1, .int a1), (2, .int a2), (3, .int a3), (4, .int (kb a4))]) (kd_m11_odds.at 20 rfl) (by decide) rfl ?_
    refine ok_iload 0 (kd_m11_odds.at 21 rfl) rfl ?_
    refine ok_if_eq (tgt := 52) (kd_m11_odds.at 22 rfl) (by decide) (fun h7 => ?_) (fun h7 => ?_)
    · refine ok_aload_n 1 (kd_m11_odds.at 28 rfl) rfl rfl ?_
      refine ok_iload_n 2 (kd_m11_odds.at 29 rfl) rfl rfl ?_
      refine ok_iload_n 3 (kd_m11_odds.at 30 rfl) rfl rfl ?_
      refine ok_iload_n 4 (kd_m11_odds.at 31 rfl) rfl rfl ?_
      refine ok_callVV (M' := m11_tryDumb) (as := [.int a1, .int a2, .int a3]) (st := []) (kd_m11_odds.at 32 rfl) kc11_395 sh_14 rfl rfl (by decide) (ok_m11_tryDumb a1 a2 a3 q6.2) (kfit_of (by decide)) rfl (Nat.le_of_ble_eq_true rfl) (fun q8 hq8 => ?_)
      refine ok_aload_n 1 (kd_m11_odds.at 33 rfl) rfl rfl ?_
      refine ok_getL (kd_m11_odds.at 34 rfl) kf11_389 sh_14 rfl ?_
      refine ok_aload_n 1 (kd_m11_odds.at 35 rfl) rfl rfl ?_
      refine ok_getL (kd_m11_odds.at 36 rfl) kf11_385 sh_14 rfl ?_
      refine ok_iload 5 (kd_m11_odds.at 37 rfl) rfl ?_
      refine ok_callSL (M' := m11_lowest) (as := [.long (q8.2 14 40), .long (q8.2 14 39), .int (kb a4)]) (st := []) (kd_m11_odds.at 38 rfl) kc11_375  rfl (by decide) (ok_m11_lowest (q8.2 14 40) (q8.2 14 39) a4 q8) (kfit_of (by decide)) rfl (Nat.le_of_ble_eq_true rfl) (fun q9 hq9 => ?_)
      exact ok_lreturn (kd_m11_odds.at 39 rfl) rfl
    · refine ok_aload_n 1 (kd_m11_odds.at 23 rfl) rfl rfl ?_
      refine ok_iload 0 (kd_m11_odds.at 24 rfl) rfl ?_
      refine ok_callVI (M' := m11_no) (as := [.int q6.1]) (st := []) (kd_m11_odds.at 25 rfl) kc11_167 sh_14 rfl rfl (by decide) (ok_m11_no q6.1 q6.2) (kfit_of (by decide)) rfl (Nat.le_of_ble_eq_true rfl) (fun q10 hq10 => ?_)
      refine ok_i2l (kd_m11_odds.at 26 rfl) ?_
      exact ok_lreturn (kd_m11_odds.at 27 rfl) rfl
  clear hj34
  refine ok_nx (fun j33 hj33 => ?_)
  have K33 : ∀  (S11 : kSt), kOk l G E (kZ G E kjL) m11_odds (kdp (5)) (j33  S11) 33 [(0, .ref 14), (1, .int a1), (2, .int a2), (3, .int a3), (4, .int (kb a4))] [.int (kb q2.1), .ref 14] S11 := by
    subst hj33
    intro  S11
    refine ok_iconst (v := 0) (kd_m11_odds.at 18 rfl) (by decide) ?_
    exact K34 false S11
  clear hj33
  refine ok_ifb_eq (tgt := 33) (kd_m11_odds.at 10 rfl) (by decide) (fun h12 => ?_) (fun h12 => ?_)
  · exact K33  q3.2
  · refine ok_iload_n 3 (kd_m11_odds.at 11 rfl) rfl rfl ?_
    refine ok_iconst (v := 0) (kd_m11_odds.at 12 rfl) (by decide) ?_
    refine ok_bipush (v := 99) (kd_m11_odds.at 13 rfl) (by decide) ?_
    refine ok_callSB (M' := m11_in) (as := [.int a3, .int 0, .int 99]) (st := [.int (kb q2.1), .ref 14]) (kd_m11_odds.at 14 rfl) kc11_146  rfl (by decide) (ok_m11_in a3 0 99 q3.2) (kfit_of (by decide)) rfl (Nat.le_of_ble_eq_true rfl) (fun q13 hq13 => ?_)
    refine ok_ifb_eq (tgt := 33) (kd_m11_odds.at 15 rfl) (by decide) (fun h14 => ?_) (fun h14 => ?_)
    · exact K33  q13.2
    · refine ok_iconst (v := 1) (kd_m11_odds.at 16 rfl) (by decide) ?_
      refine ok_goto (tgt := 34) (kd_m11_odds.at 17 rfl) (by decide) ?_
      exact K34 true q13.2
def f_m11_mean (a1 : Int32) (a2 : Int32) (a3 : Bool) (S : kSt) : Option (Int64 × kSt) :=
  (f_m11_good  S).bind fun q1 =>
  (f_m11_isPair a1 q1).bind fun q2 =>
  (f_m11_in a2 0 5 q2.2).bind fun q3 =>
  (f_m11_why q2.1 q3.1 q3.2).bind fun q4 =>
  if q4.1 = 0 then
    (f_m11_tryDumb a1 a2 0 q4.2).bind fun q6 =>
    (f_m11_lowest (q6.2 14 41) (q6.2 14 39) a3 q6).bind fun q7 =>
    some (q7.1, q7.2)
  else
    (f_m11_no q4.1 q4.2).bind fun q8 =>
    some (q8.1.toInt64, q8.2)
theorem ok_m11_mean {l : Launch} {G : kG} {E : kE} (a1 : Int32) (a2 : Int32) (a3 : Bool)  (S : kSt) : kFn l G E E kjL m11_mean 5 [.ref 14, .int a1, .int a2, .int (kb a3)] S (f_m11_mean a1 a2 a3 S) := by
  unfold f_m11_mean
  refine kFn_of (by decide +kernel) (fun hG => Nat.le_of_ble_eq_true rfl) ?_
  show kOk _ _ _ _ _ _ _ _ [(0, .ref 14), (1, .int a1), (2, .int a2), (3, .int (kb a3))] _ _
  refine ok_aload_n 0 (kd_m11_mean.at 0 rfl) rfl rfl ?_
  refine ok_callVV (M' := m11_good) (as := []) (st := []) (kd_m11_mean.at 1 rfl) kc11_164 sh_14 rfl rfl (by decide) (ok_m11_good  S) (kfit_of (by decide)) rfl (Nat.le_of_ble_eq_true rfl) (fun q1 hq1 => ?_)
  refine ok_aload_n 0 (kd_m11_mean.at 2 rfl) rfl rfl ?_
  refine ok_aload_n 0 (kd_m11_mean.at 3 rfl) rfl rfl ?_
  refine ok_iload_n 1 (kd_m11_mean.at 4 rfl) rfl rfl ?_
  refine ok_callVB (M' := m11_isPair) (as := [.int a1]) (st := [.ref 14]) (kd_m11_mean.at 5 rfl) kc11_239 sh_14 rfl rfl (by decide) (ok_m11_isPair a1 q1) (kfit_of (by decide)) rfl (Nat.le_of_ble_eq_true rfl) (fun q2 hq2 => ?_)
  refine ok_iload_n 2 (kd_m11_mean.at 6 rfl) rfl rfl ?_
  refine ok_iconst (v := 0) (kd_m11_mean.at 7 rfl) (by decide) ?_
  refine ok_iconst (v := 5) (kd_m11_mean.at 8 rfl) (by decide) ?_
  refine ok_callSB (M' := m11_in) (as := [.int a2, .int 0, .int 5]) (st := [.int (kb q2.1), .ref 14]) (kd_m11_mean.at 9 rfl) kc11_146  rfl (by decide) (ok_m11_in a2 0 5 q2.2) (kfit_of (by decide)) rfl (Nat.le_of_ble_eq_true rfl) (fun q3 hq3 => ?_)
  refine ok_callVI (M' := m11_why) (as := [.int (kb q2.1), .int (kb q3.1)]) (st := []) (kd_m11_mean.at 10 rfl) kc11_275 sh_14 rfl rfl (by decide) (ok_m11_why q2.1 q3.1 q3.2) (kfit_of (by decide)) rfl (Nat.le_of_ble_eq_true rfl) (fun q4 hq4 => ?_)
  refine ok_istore (lv' := [(4, .int q4.1), (0, .ref 14), (1, .int a1), (2, .int a2), (3, .int (kb a3))]) (kd_m11_mean.at 11 rfl) (by decide) rfl ?_
  refine ok_iload 0 (kd_m11_mean.at 12 rfl) rfl ?_
  refine ok_if_eq (tgt := 34) (kd_m11_mean.at 13 rfl) (by decide) (fun h5 => ?_) (fun h5 => ?_)
  · refine ok_aload_n 1 (kd_m11_mean.at 19 rfl) rfl rfl ?_
    refine ok_iload_n 2 (kd_m11_mean.at 20 rfl) rfl rfl ?_
    refine ok_iload_n 3 (kd_m11_mean.at 21 rfl) rfl rfl ?_
    refine ok_iconst (v := 0) (kd_m11_mean.at 22 rfl) (by decide) ?_
    refine ok_callVV (M' := m11_tryDumb) (as := [.int a1, .int a2, .int 0]) (st := []) (kd_m11_mean.at 23 rfl) kc11_395 sh_14 rfl rfl (by decide) (ok_m11_tryDumb a1 a2 0 q4.2) (kfit_of (by decide)) rfl (Nat.le_of_ble_eq_true rfl) (fun q6 hq6 => ?_)
    refine ok_aload_n 1 (kd_m11_mean.at 24 rfl) rfl rfl ?_
    refine ok_getL (kd_m11_mean.at 25 rfl) kf11_392 sh_14 rfl ?_
    refine ok_aload_n 1 (kd_m11_mean.at 26 rfl) rfl rfl ?_
    refine ok_getL (kd_m11_mean.at 27 rfl) kf11_385 sh_14 rfl ?_
    refine ok_iload_n 4 (kd_m11_mean.at 28 rfl) rfl rfl ?_
    refine ok_callSL (M' := m11_lowest) (as := [.long (q6.2 14 41), .long (q6.2 14 39), .int (kb a3)]) (st := []) (kd_m11_mean.at 29 rfl) kc11_375  rfl (by decide) (ok_m11_lowest (q6.2 14 41) (q6.2 14 39) a3 q6) (kfit_of (by decide)) rfl (Nat.le_of_ble_eq_true rfl) (fun q7 hq7 => ?_)
    exact ok_lreturn (kd_m11_mean.at 30 rfl) rfl
  · refine ok_aload_n 1 (kd_m11_mean.at 14 rfl) rfl rfl ?_
    refine ok_iload 0 (kd_m11_mean.at 15 rfl) rfl ?_
    refine ok_callVI (M' := m11_no) (as := [.int q4.1]) (st := []) (kd_m11_mean.at 16 rfl) kc11_167 sh_14 rfl rfl (by decide) (ok_m11_no q4.1 q4.2) (kfit_of (by decide)) rfl (Nat.le_of_ble_eq_true rfl) (fun q8 hq8 => ?_)
    refine ok_i2l (kd_m11_mean.at 17 rfl) ?_
    exact ok_lreturn (kd_m11_mean.at 18 rfl) rfl
def f_m11_drawn_L67   (k148 : Int32 → kSt → Option (Int32 × kSt)) (c1 : Int32) (c3 : Int32) : Nat → Int32 → Int32 → Int32 → kSt → Option (Int32 × kSt)
  | 0, _, _, _, _ => none
  | n + 1, v5, v6, v7, S =>
    if c3 < v7 then
      k148 v6 S
    else
      knx (krem ((75 * v5) + 74) 65537) fun x10 =>
      knx (5 + c1) fun x11 =>
      kgi x11 36 (
        knx (13 + c1) fun x12 =>
        kgi x12 95 (
          knx (if (S.1 57 1) ≤ (krem x10 100) then false else true) fun x14 =>
          (f_m11_behind c1 v6 (S.1 61 x11.toNatClampNeg) (S.1 57 x12.toNatClampNeg) ((S.1 61 35) + v7) x14 S).bind fun q15 =>
          knx (v7 + 1) fun x16 =>
          f_m11_drawn_L67 k148 c1 c3 n x10 q15.1 x16 q15.2
        )
      )
theorem ok_m11_drawn_L67 {l : Launch} {G : kG} {E : kE}    (c1 : Int32) (c3 : Int32) (k148 : Int32 → kSt → Option (Int32 × kSt)) (hk148 : ∀ (v6 : Int32) (S : kSt), kOk l G E (kZ G E kjI) m11_drawn (kdp (4)) (k148 v6 S) 148 [(6, .int v6)] [] S) : ∀ (n : Nat) (v5 : Int32) (v6 : Int32) (v7 : Int32) (S : kSt), kOk l G E (kZ G E kjI) m11_drawn (kdp (4)) (f_m11_drawn_L67 k148 c1 c3 n v5 v6 v7 S) 67 [(0, .ref 14), (1, .int c1), (3, .int c3), (5, .int v5), (6, .int v6), (7, .int v7)] [] S := by
  intro n
  induction n with
  | zero => intro v5 v6 v7 S; exact ok_none
  | succ n ih =>
    intro v5 v6 v7 S
    rw [f_m11_drawn_L67]
    refine ok_iload 5 (kd_m11_drawn.at 36 rfl) rfl ?_
    refine ok_iload_n 2 (kd_m11_drawn.at 37 rfl) rfl rfl ?_
    refine ok_icmp_gt (tgt := 148) (kd_m11_drawn.at 38 rfl) (by decide) (fun h9 => ?_) (fun h9 => ?_)
    · refine ok_sub (lv' := [(6, .int v6)]) [4] rfl ?_
      exact hk148 v6 S
    · refine ok_bipush (v := 75) (kd_m11_drawn.at 39 rfl) (by decide) ?_
      refine ok_iload 3 (kd_m11_drawn.at 40 rfl) rfl ?_
      refine ok_imul (kd_m11_drawn.at 41 rfl) ?_
      refine ok_bipush (v := 74) (kd_m11_drawn.at 42 rfl) (by decide) ?_
      refine ok_iadd (kd_m11_drawn.at 43 rfl) ?_
      refine ok_ldcw (kd_m11_drawn.at 44 rfl) kco_11_380 ?_
      refine ok_iremK (kd_m11_drawn.at 45 rfl) (by decide) ?_
      refine ok_topi (fun x10 hx10 => ?_)
      refine ok_istore (lv' := [(5, .int x10), (0, .ref 14), (1, .int c1), (3, .int c3), (6, .int v6), (7, .int v7)]) (kd_m11_drawn.at 46 rfl) (by decide) rfl ?_
      refine ok_aload_n 1 (kd_m11_drawn.at 47 rfl) rfl rfl ?_
      refine ok_iload_n 2 (kd_m11_drawn.at 48 rfl) rfl rfl ?_
      refine ok_iload 4 (kd_m11_drawn.at 49 rfl) rfl ?_
      refine ok_aload_n 1 (kd_m11_drawn.at 50 rfl) rfl rfl ?_
      refine ok_getR (kd_m11_drawn.at 51 rfl) kf11_32 sh_14 rfl (kr_14_19 _) ?_
      refine ok_iconst (v := 5) (kd_m11_drawn.at 52 rfl) (by decide) ?_
      refine ok_iload_n 2 (kd_m11_drawn.at 53 rfl) rfl rfl ?_
      refine ok_iadd (kd_m11_drawn.at 54 rfl) ?_
      refine ok_topi (fun x11 hx11 => ?_)
      refine ok_iald (kd_m11_drawn.at 55 rfl) sh_61 ?_
      refine ok_aload_n 1 (kd_m11_drawn.at 56 rfl) rfl rfl ?_
      refine ok_getR (kd_m11_drawn.at 57 rfl) kf11_20 sh_14 rfl (kr_14_15 _) ?_
      refine ok_bipush (v := 13) (kd_m11_drawn.at 58 rfl) (by decide) ?_
      refine ok_iload_n 2 (kd_m11_drawn.at 59 rfl) rfl rfl ?_
      refine ok_iadd (kd_m11_drawn.at 60 rfl) ?_
      refine ok_topi (fun x12 hx12 => ?_)
      refine ok_iald (kd_m11_drawn.at 61 rfl) sh_57 ?_
      refine ok_aload_n 1 (kd_m11_drawn.at 62 rfl) rfl rfl ?_
      refine ok_getR (kd_m11_drawn.at 63 rfl) kf11_32 sh_14 rfl (kr_14_19 _) ?_
      refine ok_bipush (v := 35) (kd_m11_drawn.at 64 rfl) (by decide) ?_
      refine ok_ialdK (j := 35) (kd_m11_drawn.at 65 rfl) sh_61 (by decide) (by decide) ?_
      refine ok_iload 5 (kd_m11_drawn.at 66 rfl) rfl ?_
      refine ok_iadd (kd_m11_drawn.at 67 rfl) ?_
      refine ok_iload 0 (kd_m11_drawn.at 68 rfl) rfl ?_
      refine ok_bipush (v := 100) (kd_m11_drawn.at 69 rfl) (by decide) ?_
      refine ok_iremK (kd_m11_drawn.at 70 rfl) (by decide) ?_
      refine ok_aload_n 1 (kd_m11_drawn.at 71 rfl) rfl rfl ?_
      refine ok_getR (kd_m11_drawn.at 72 rfl) kf11_20 sh_14 rfl (kr_14_15 _) ?_
      refine ok_iconst (v := 1) (kd_m11_drawn.at 73 rfl) (by decide) ?_
      refine ok_ialdK (j := 1) (kd_m11_drawn.at 74 rfl) sh_57 (by decide) (by decide) ?_
      refine ok_fold (α := Bool) (pcJ := 137) (lvJ := [(5, .int x10), (0, .ref 14), (1, .int c1), (3, .int c3), (6, .int v6), (7, .int v7)]) (stJ := [.int ((S.1 61 35) + v7), .int (S.1 57 x12.toNatClampNeg), .int (S.1 61 x11.toNatClampNeg), .int v6, .int c1, .ref 14]) (mk := fun v => .int (kb v)) (fun K => ?_) (fun x14 => ?_)
      · refine ok_ap ?_
        refine ok_icmp_ge (tgt := 136) (kd_m11_drawn.at 75 rfl) (by decide) (fun h13 => ?_) (fun h13 => ?_)
        · refine ok_iconst (v := 0) (kd_m11_drawn.at 78 rfl) (by decide) ?_
          exact K false
        · refine ok_iconst (v := 1) (kd_m11_drawn.at 76 rfl) (by decide) ?_
          refine ok_goto (tgt := 137) (kd_m11_drawn.at 77 rfl) (by decide) ?_
          exact K true
      · refine ok_callVI (M' := m11_behind) (as := [.int c1, .int v6, .int (S.1 61 x11.toNatClampNeg), .int (S.1 57 x12.toNatClampNeg), .int ((S.1 61 35) + v7), .int (kb x14)]) (st := []) (kd_m11_drawn.at 79 rfl) kc11_249 sh_14 rfl rfl (by decide) (ok_m11_behind c1 v6 (S.1 61 x11.toNatClampNeg) (S.1 57 x12.toNatClampNeg) ((S.1 61 35) + v7) x14 S) (kfit_of (by decide)) rfl (Nat.le_of_ble_eq_true rfl) (fun q15 hq15 => ?_)
        refine ok_istore (lv' := [(6, .int q15.1), (5, .int x10), (0, .ref 14), (1, .int c1), (3, .int c3), (7, .int v7)]) (kd_m11_drawn.at 80 rfl) (by decide) rfl ?_
        refine ok_nx (fun x16 hx16 => ?_)
        refine ok_iinc (v := x16) (lv' := [(7, .int x16), (6, .int q15.1), (5, .int x10), (0, .ref 14), (1, .int c1), (3, .int c3)]) 5 (kd_m11_drawn.at 81 rfl) rfl hx16.symm (by decide) rfl ?_
        refine ok_goto (tgt := 67) (kd_m11_drawn.at 82 rfl) (by decide) ?_
        refine ok_sub (lv' := [(0, .ref 14), (1, .int c1), (3, .int c3), (5, .int x10), (6, .int q15.1), (7, .int x16)]) [3, 4, 5, 2, 1, 0] rfl ?_
        exact ih x10 q15.1 x16 q15.2
def f_m11_drawn (a1 : Int32) (a2 : Int32) (a3 : Int32) (S : kSt) : Option (Int32 × kSt) :=
  (f_m11_good  S).bind fun q1 =>
  (f_m11_isPair a1 q1).bind fun q2 =>
  (f_m11_in a2 0 65536 q2.2).bind fun q3 =>
  knx (fun (x4 : Bool) (S5 : kSt) =>
    (f_m11_why q2.1 x4 S5).bind fun q6 =>
    if q6.1 = 0 then
      kgi a1 36 (
        knx (q6.2.1 61 a1.toNatClampNeg) fun x8 =>
        f_m11_drawn_L67 
          (fun (x17 : Int32) (S18 : kSt) =>
            some (x17, S18)
          )
          a1 a3 kFU a2 x8 1 q6.2
      )
    else
      (f_m11_no q6.1 q6.2).bind fun q19 =>
      some (q19.1, q19.2)
    ) fun j36 =>
  knx (fun  (S20 : kSt) =>
    j36 false S20
    ) fun j35 =>
  if q3.1 then
    (f_m11_in a3 0 60 q3.2).bind fun q22 =>
    if q22.1 then
      j36 true q22.2
    else
      j35  q22.2
  else
    j35  q3.2
theorem ok_m11_drawn {l : Launch} {G : kG} {E : kE} (a1 : Int32) (a2 : Int32) (a3 : Int32)  (S : kSt) : kFn l G E E kjI m11_drawn 4 [.ref 14, .int a1, .int a2, .int a3] S (f_m11_drawn a1 a2 a3 S) := by
  unfold f_m11_drawn
  refine kFn_of (by decide +kernel) (fun hG => Nat.le_of_ble_eq_true rfl) ?_
  show kOk _ _ _ _ _ _ _ _ [(0, .ref 14), (1, .int a1), (2, .int a2), (3, .int a3)] _ _
  refine ok_aload_n 0 (kd_m11_drawn.at 0 rfl) rfl rfl ?_
  refine ok_callVV (M' := m11_good) (as := []) (st := []) (kd_m11_drawn.at 1 rfl) kc11_164 sh_14 rfl rfl (by decide) (ok_m11_good  S) (kfit_of (by decide)) rfl (Nat.le_of_ble_eq_true rfl) (fun q1 hq1 => ?_)
  refine ok_aload_n 0 (kd_m11_drawn.at 2 rfl) rfl rfl ?_
  refine ok_aload_n 0 (kd_m11_drawn.at 3 rfl) rfl rfl ?_
  refine ok_iload_n 1 (kd_m11_drawn.at 4 rfl) rfl rfl ?_
  refine ok_callVB (M' := m11_isPair) (as := [.int a1]) (st := [.ref 14]) (kd_m11_drawn.at 5 rfl) kc11_239 sh_14 rfl rfl (by decide) (ok_m11_isPair a1 q1) (kfit_of (by decide)) rfl (Nat.le_of_ble_eq_true rfl) (fun q2 hq2 => ?_)
  refine ok_iload_n 2 (kd_m11_drawn.at 6 rfl) rfl rfl ?_
  refine ok_iconst (v := 0) (kd_m11_drawn.at 7 rfl) (by decide) ?_
  refine ok_ldcw (kd_m11_drawn.at 8 rfl) kco_11_379 ?_
  refine ok_callSB (M' := m11_in) (as := [.int a2, .int 0, .int 65536]) (st := [.int (kb q2.1), .ref 14]) (kd_m11_drawn.at 9 rfl) kc11_146  rfl (by decide) (ok_m11_in a2 0 65536 q2.2) (kfit_of (by decide)) rfl (Nat.le_of_ble_eq_true rfl) (fun q3 hq3 => ?_)
  refine ok_nx (fun j36 hj36 => ?_)
  have K36 : ∀ (x4 : Bool) (S5 : kSt), kOk l G E (kZ G E kjI) m11_drawn (kdp (4)) (j36 x4 S5) 36 [(0, .ref 14), (1, .int a1), (2, .int a2), (3, .int a3)] [.int (kb x4), .int (kb q2.1), .ref 14] S5 := by
    subst hj36
    intro x4 S5
    refine ok_callVI (M' := m11_why) (as := [.int (kb q2.1), .int (kb x4)]) (st := []) (kd_m11_drawn.at 19 rfl) kc11_275 sh_14 rfl rfl (by decide) (ok_m11_why q2.1 x4 S5) (kfit_of (by decide)) rfl (Nat.le_of_ble_eq_true rfl) (fun q6 hq6 => ?_)
    refine ok_istore (lv' := [(4, .int q6.1), (0, .ref 14), (1, .int a1), (2, .int a2), (3, .int a3)]) (kd_m11_drawn.at 20 rfl) (by decide) rfl ?_
    refine ok_iload 0 (kd_m11_drawn.at 21 rfl) rfl ?_
    refine ok_if_eq (tgt := 53) (kd_m11_drawn.at 22 rfl) (by decide) (fun h7 => ?_) (fun h7 => ?_)
    · refine ok_iload_n 3 (kd_m11_drawn.at 27 rfl) rfl rfl ?_
      refine ok_istore (lv' := [(5, .int a2), (4, .int q6.1), (0, .ref 14), (1, .int a1), (2, .int a2), (3, .int a3)]) (kd_m11_drawn.at 28 rfl) (by decide) rfl ?_
      refine ok_aload_n 2 (kd_m11_drawn.at 29 rfl) rfl rfl ?_
      refine ok_getR (kd_m11_drawn.at 30 rfl) kf11_32 sh_14 rfl (kr_14_19 _) ?_
      refine ok_iload_n 3 (kd_m11_drawn.at 31 rfl) rfl rfl ?_
      refine ok_iald (kd_m11_drawn.at 32 rfl) sh_61 ?_
      refine ok_topi (fun x8 hx8 => ?_)
      refine ok_istore (lv' := [(6, .int x8), (5, .int a2), (4, .int q6.1), (0, .ref 14), (1, .int a1), (2, .int a2), (3, .int a3)]) (kd_m11_drawn.at 33 rfl) (by decide) rfl ?_
      refine ok_iconst (v := 1) (kd_m11_drawn.at 34 rfl) (by decide) ?_
      refine ok_istore (lv' := [(7, .int 1), (6, .int x8), (5, .int a2), (4, .int q6.1), (0, .ref 14), (1, .int a1), (2, .int a2), (3, .int a3)]) (kd_m11_drawn.at 35 rfl) (by decide) rfl ?_
      refine ok_sub (lv' := [(0, .ref 14), (1, .int a1), (3, .int a3), (5, .int a2), (6, .int x8), (7, .int 1)]) [4, 5, 7, 2, 1, 0] rfl ?_
      refine ok_m11_drawn_L67 a1 a3 _ (fun x17 S18 => ?_) kFU a2 x8 1 q6.2
      refine ok_iload 0 (kd_m11_drawn.at 83 rfl) rfl ?_
      exact ok_ireturn (kd_m11_drawn.at 84 rfl) rfl
    · refine ok_aload_n 1 (kd_m11_drawn.at 23 rfl) rfl rfl ?_
      refine ok_iload 0 (kd_m11_drawn.at 24 rfl) rfl ?_
      refine ok_callVI (M' := m11_no) (as := [.int q6.1]) (st := []) (kd_m11_drawn.at 25 rfl) kc11_167 sh_14 rfl rfl (by decide) (ok_m11_no q6.1 q6.2) (kfit_of (by decide)) rfl (Nat.le_of_ble_eq_true rfl) (fun q19 hq19 => ?_)
      exact ok_ireturn (kd_m11_drawn.at 26 rfl) rfl
  clear hj36
  refine ok_nx (fun j35 hj35 => ?_)
  have K35 : ∀  (S20 : kSt), kOk l G E (kZ G E kjI) m11_drawn (kdp (4)) (j35  S20) 35 [(0, .ref 14), (1, .int a1), (2, .int a2), (3, .int a3)] [.int (kb q2.1), .ref 14] S20 := by
    subst hj35
    intro  S20
    refine ok_iconst (v := 0) (kd_m11_drawn.at 18 rfl) (by decide) ?_
    exact K36 false S20
  clear hj35
  refine ok_ifb_eq (tgt := 35) (kd_m11_drawn.at 10 rfl) (by decide) (fun h21 => ?_) (fun h21 => ?_)
  · exact K35  q3.2
  · refine ok_iload_n 3 (kd_m11_drawn.at 11 rfl) rfl rfl ?_
    refine ok_iconst (v := 0) (kd_m11_drawn.at 12 rfl) (by decide) ?_
    refine ok_bipush (v := 60) (kd_m11_drawn.at 13 rfl) (by decide) ?_
    refine ok_callSB (M' := m11_in) (as := [.int a3, .int 0, .int 60]) (st := [.int (kb q2.1), .ref 14]) (kd_m11_drawn.at 14 rfl) kc11_146  rfl (by decide) (ok_m11_in a3 0 60 q3.2) (kfit_of (by decide)) rfl (Nat.le_of_ble_eq_true rfl) (fun q22 hq22 => ?_)
    refine ok_ifb_eq (tgt := 35) (kd_m11_drawn.at 15 rfl) (by decide) (fun h23 => ?_) (fun h23 => ?_)
    · exact K35  q22.2
    · refine ok_iconst (v := 1) (kd_m11_drawn.at 16 rfl) (by decide) ?_
      refine ok_goto (tgt := 36) (kd_m11_drawn.at 17 rfl) (by decide) ?_
      exact K36 true q22.2
def f_m11_note_L11   (k39 : kSt → Option kSt)  : Nat → Int32 → kSt → Option kSt
  | 0, _, _ => none
  | n + 1, v1, S =>
    if 540 ≤ v1 then
      k39  S
    else
      knx (v1 + 36) fun x6 =>
      kgi x6 576 (
        kgi v1 576 (
          knx (kuI S 62 v1.toNatClampNeg (S.1 62 x6.toNatClampNeg)) fun S7 =>
          knx (v1 + 1) fun x8 =>
          f_m11_note_L11 k39 n x8 S7
        )
      )
theorem ok_m11_note_L11 {l : Launch} {G : kG} {E : kE}     (k39 : kSt → Option kSt) (hk39 : ∀  (S : kSt), kOk l G E (kZ G E kjV) m11_note (kdp (2)) (k39  S) 39 [(0, .ref 14)] [] S) : ∀ (n : Nat) (v1 : Int32) (S : kSt), kOk l G E (kZ G E kjV) m11_note (kdp (2)) (f_m11_note_L11 k39 n v1 S) 11 [(0, .ref 14), (1, .int v1)] [] S := by
  intro n
  induction n with
  | zero => intro v1 S; exact ok_none
  | succ n ih =>
    intro v1 S
    rw [f_m11_note_L11]
    refine ok_iload_n 1 (kd_m11_note.at 6 rfl) rfl rfl ?_
    refine ok_sipush (v := 540) (kd_m11_note.at 7 rfl) (by decide) ?_
    refine ok_icmp_ge (tgt := 39) (kd_m11_note.at 8 rfl) (by decide) (fun h5 => ?_) (fun h5 => ?_)
    · refine ok_sub (lv' := [(0, .ref 14)]) [0] rfl ?_
      exact hk39  S
    · refine ok_aload_n 0 (kd_m11_note.at 9 rfl) rfl rfl ?_
      refine ok_getR (kd_m11_note.at 10 rfl) kf11_35 sh_14 rfl (kr_14_20 _) ?_
      refine ok_iload_n 1 (kd_m11_note.at 11 rfl) rfl rfl ?_
      refine ok_aload_n 0 (kd_m11_note.at 12 rfl) rfl rfl ?_
      refine ok_getR (kd_m11_note.at 13 rfl) kf11_35 sh_14 rfl (kr_14_20 _) ?_
      refine ok_iload_n 1 (kd_m11_note.at 14 rfl) rfl rfl ?_
      refine ok_bipush (v := 36) (kd_m11_note.at 15 rfl) (by decide) ?_
      refine ok_iadd (kd_m11_note.at 16 rfl) ?_
      refine ok_topi (fun x6 hx6 => ?_)
      refine ok_iald (kd_m11_note.at 17 rfl) sh_62 ?_
      refine ok_iast (kd_m11_note.at 18 rfl) sh_62 ?_
      refine ok_nS (fun S7 hS7 => ?_)
      refine ok_nx (fun x8 hx8 => ?_)
      refine ok_iinc (v := x8) (lv' := [(1, .int x8), (0, .ref 14)]) 1 (kd_m11_note.at 19 rfl) rfl hx8.symm (by decide) rfl ?_
      refine ok_goto (tgt := 11) (kd_m11_note.at 20 rfl) (by decide) ?_
      refine ok_sub (lv' := [(0, .ref 14), (1, .int x8)]) [1, 0] rfl ?_
      exact ih x8 S7
def f_m11_note  (S : kSt) : Option kSt :=
  knx (fun  (S1 : kSt) =>
    (f_m11_copy 61 36 0 62 576 (36 * (S1.1 14 22)) 36 S1).bind fun q2 =>
    knx (kuI q2 14 22 ((q2.1 14 22) + 1)) fun S3 =>
    some S3
    ) fun j49 =>
  if (S.1 14 22) = 16 then
    f_m11_note_L11 
      (fun  (S9 : kSt) =>
        knx (kuI S9 14 22 ((S9.1 14 22) - 1)) fun S10 =>
        j49  S10
      )
      kFU 0 S
  else
    j49  S
theorem ok_m11_note {l : Launch} {G : kG} {E : kE}   (S : kSt) : kFn l G E E kjV m11_note 2 [.ref 14] S (f_m11_note  S) := by
  unfold f_m11_note
  refine kFn_of (by decide +kernel) (fun hG => Nat.le_of_ble_eq_true rfl) ?_
  show kOk _ _ _ _ _ _ _ _ [(0, .ref 14)] _ _
  refine ok_aload_n 0 (kd_m11_note.at 0 rfl) rfl rfl ?_
  refine ok_getI (kd_m11_note.at 1 rfl) kf11_180 sh_14 rfl ?_
  refine ok_bipush (v := 16) (kd_m11_note.at 2 rfl) (by decide) ?_
  refine ok_nx (fun j49 hj49 => ?_)
  have K49 : ∀  (S1 : kSt), kOk l G E (kZ G E kjV) m11_note (kdp (2)) (j49  S1) 49 [(0, .ref 14)] [] S1 := by
    subst hj49
    intro  S1
    refine ok_aload_n 0 (kd_m11_note.at 27 rfl) rfl rfl ?_
    refine ok_getR (kd_m11_note.at 28 rfl) kf11_32 sh_14 rfl (kr_14_19 _) ?_
    refine ok_iconst (v := 0) (kd_m11_note.at 29 rfl) (by decide) ?_
    refine ok_aload_n 0 (kd_m11_note.at 30 rfl) rfl rfl ?_
    refine ok_getR (kd_m11_note.at 31 rfl) kf11_35 sh_14 rfl (kr_14_20 _) ?_
    refine ok_bipush (v := 36) (kd_m11_note.at 32 rfl) (by decide) ?_
    refine ok_aload_n 0 (kd_m11_note.at 33 rfl) rfl rfl ?_
    refine ok_getI (kd_m11_note.at 34 rfl) kf11_180 sh_14 rfl ?_
    refine ok_imul (kd_m11_note.at 35 rfl) ?_
    refine ok_bipush (v := 36) (kd_m11_note.at 36 rfl) (by decide) ?_
    refine ok_callSV (M' := m11_copy) (as := [.ref 61, .int 0, .ref 62, .int (36 * (S1.1 14 22)), .int 36]) (st := []) (kd_m11_note.at 37 rfl) kc11_173  rfl (by decide) (ok_m11_copy 61 36 0 62 576 (36 * (S1.1 14 22)) 36 sh_61 sh_62 S1) (kfit_of (by decide)) rfl (Nat.le_of_ble_eq_true rfl) (fun q2 hq2 => ?_)
    refine ok_aload_n 0 (kd_m11_note.at 38 rfl) rfl rfl ?_
    refine ok_dup (kd_m11_note.at 39 rfl) rfl ?_
    refine ok_getI (kd_m11_note.at 40 rfl) kf11_180 sh_14 rfl ?_
    refine ok_iconst (v := 1) (kd_m11_note.at 41 rfl) (by decide) ?_
    refine ok_iadd (kd_m11_note.at 42 rfl) ?_
    refine ok_putI (kd_m11_note.at 43 rfl) kf11_180 sh_14 rfl rfl ?_
    refine ok_nS (fun S3 hS3 => ?_)
    exact ok_return (kd_m11_note.at 44 rfl) rfl
  clear hj49
  refine ok_icmp_ne (tgt := 49) (kd_m11_note.at 3 rfl) (by decide) (fun h4 => ?_) (fun h4 => ?_)
  · exact K49  S
  · refine ok_iconst (v := 0) (kd_m11_note.at 4 rfl) (by decide) ?_
    refine ok_istore_n (lv' := [(1, .int 0), (0, .ref 14)]) (kd_m11_note.at 5 rfl) rfl (by decide) rfl ?_
    refine ok_sub (lv' := [(0, .ref 14), (1, .int 0)]) [1, 0] rfl ?_
    refine ok_m11_note_L11 _ (fun S9 => ?_) kFU 0 S
    refine ok_aload_n 0 (kd_m11_note.at 21 rfl) rfl rfl ?_
    refine ok_dup (kd_m11_note.at 22 rfl) rfl ?_
    refine ok_getI (kd_m11_note.at 23 rfl) kf11_180 sh_14 rfl ?_
    refine ok_iconst (v := 1) (kd_m11_note.at 24 rfl) (by decide) ?_
    refine ok_isub (kd_m11_note.at 25 rfl) ?_
    refine ok_putI (kd_m11_note.at 26 rfl) kf11_180 sh_14 rfl rfl ?_
    refine ok_nS (fun S10 hS10 => ?_)
    exact K49  S10
def f_m11_season_L53   (k111 : kSt → Option (Int32 × kSt))  : Nat → Int32 → kSt → Option (Int32 × kSt)
  | 0, _, _ => none
  | n + 1, v1, S =>
    if (S.1 57 2) ≤ v1 then
      k111  S
    else
      kgi v1 36 (
        knx (5 + v1) fun x8 =>
        kgi x8 36 (
          knx (13 + v1) fun x9 =>
          kgi x9 95 (
            (f_m11_behind v1 (S.1 61 v1.toNatClampNeg) (S.1 61 x8.toNatClampNeg) (S.1 57 x9.toNatClampNeg) (S.1 61 35) false S).bind fun q10 =>
            kgi v1 36 (
              knx (kuI q10.2 61 v1.toNatClampNeg q10.1) fun S11 =>
              knx (v1 + 1) fun x12 =>
              f_m11_season_L53 k111 n x12 S11
            )
          )
        )
      )
theorem ok_m11_season_L53 {l : Launch} {G : kG} {E : kE}     (k111 : kSt → Option (Int32 × kSt)) (hk111 : ∀  (S : kSt), kOk l G E (kZ G E kjI) m11_season (kdp (7)) (k111  S) 111 [(0, .ref 14)] [] S) : ∀ (n : Nat) (v1 : Int32) (S : kSt), kOk l G E (kZ G E kjI) m11_season (kdp (7)) (f_m11_season_L53 k111 n v1 S) 53 [(0, .ref 14), (1, .int v1)] [] S := by
  intro n
  induction n with
  | zero => intro v1 S; exact ok_none
  | succ n ih =>
    intro v1 S
    rw [f_m11_season_L53]
    refine ok_iload_n 1 (kd_m11_season.at 31 rfl) rfl rfl ?_
    refine ok_aload_n 0 (kd_m11_season.at 32 rfl) rfl rfl ?_
    refine ok_getR (kd_m11_season.at 33 rfl) kf11_20 sh_14 rfl (kr_14_15 _) ?_
    refine ok_iconst (v := 2) (kd_m11_season.at 34 rfl) (by decide) ?_
    refine ok_ialdK (j := 2) (kd_m11_season.at 35 rfl) sh_57 (by decide) (by decide) ?_
    refine ok_icmp_ge (tgt := 111) (kd_m11_season.at 36 rfl) (by decide) (fun h7 => ?_) (fun h7 => ?_)
    · refine ok_sub (lv' := [(0, .ref 14)]) [0] rfl ?_
      exact hk111  S
    · refine ok_aload_n 0 (kd_m11_season.at 37 rfl) rfl rfl ?_
      refine ok_getR (kd_m11_season.at 38 rfl) kf11_32 sh_14 rfl (kr_14_19 _) ?_
      refine ok_iload_n 1 (kd_m11_season.at 39 rfl) rfl rfl ?_
      refine ok_aload_n 0 (kd_m11_season.at 40 rfl) rfl rfl ?_
      refine ok_iload_n 1 (kd_m11_season.at 41 rfl) rfl rfl ?_
      refine ok_aload_n 0 (kd_m11_season.at 42 rfl) rfl rfl ?_
      refine ok_getR (kd_m11_season.at 43 rfl) kf11_32 sh_14 rfl (kr_14_19 _) ?_
      refine ok_iload_n 1 (kd_m11_season.at 44 rfl) rfl rfl ?_
      refine ok_iald (kd_m11_season.at 45 rfl) sh_61 ?_
      refine ok_aload_n 0 (kd_m11_season.at 46 rfl) rfl rfl ?_
      refine ok_getR (kd_m11_season.at 47 rfl) kf11_32 sh_14 rfl (kr_14_19 _) ?_
      refine ok_iconst (v := 5) (kd_m11_season.at 48 rfl) (by decide) ?_
      refine ok_iload_n 1 (kd_m11_season.at 49 rfl) rfl rfl ?_
      refine ok_iadd (kd_m11_season.at 50 rfl) ?_
      refine ok_topi (fun x8 hx8 => ?_)
      refine ok_iald (kd_m11_season.at 51 rfl) sh_61 ?_
      refine ok_aload_n 0 (kd_m11_season.at 52 rfl) rfl rfl ?_
      refine ok_getR (kd_m11_season.at 53 rfl) kf11_20 sh_14 rfl (kr_14_15 _) ?_
      refine ok_bipush (v := 13) (kd_m11_season.at 54 rfl) (by decide) ?_
      refine ok_iload_n 1 (kd_m11_season.at 55 rfl) rfl rfl ?_
      refine ok_iadd (kd_m11_season.at 56 rfl) ?_
      refine ok_topi (fun x9 hx9 => ?_)
      refine ok_iald (kd_m11_season.at 57 rfl) sh_57 ?_
      refine ok_aload_n 0 (kd_m11_season.at 58 rfl) rfl rfl ?_
      refine ok_getR (kd_m11_season.at 59 rfl) kf11_32 sh_14 rfl (kr_14_19 _) ?_
      refine ok_bipush (v := 35) (kd_m11_season.at 60 rfl) (by decide) ?_
      refine ok_ialdK (j := 35) (kd_m11_season.at 61 rfl) sh_61 (by decide) (by decide) ?_
      refine ok_iconst (v := 0) (kd_m11_season.at 62 rfl) (by decide) ?_
      refine ok_callVI (M' := m11_behind) (as := [.int v1, .int (S.1 61 v1.toNatClampNeg), .int (S.1 61 x8.toNatClampNeg), .int (S.1 57 x9.toNatClampNeg), .int (S.1 61 35), .int (kb false)]) (st := [.int v1, .ref 61]) (kd_m11_season.at 63 rfl) kc11_249 sh_14 rfl rfl (by decide) (ok_m11_behind v1 (S.1 61 v1.toNatClampNeg) (S.1 61 x8.toNatClampNeg) (S.1 57 x9.toNatClampNeg) (S.1 61 35) false S) (kfit_of (by decide)) rfl (Nat.le_of_ble_eq_true rfl) (fun q10 hq10 => ?_)
      refine ok_iast (kd_m11_season.at 64 rfl) sh_61 ?_
      refine ok_nS (fun S11 hS11 => ?_)
      refine ok_nx (fun x12 hx12 => ?_)
      refine ok_iinc (v := x12) (lv' := [(1, .int x12), (0, .ref 14)]) 1 (kd_m11_season.at 65 rfl) rfl hx12.symm (by decide) rfl ?_
      refine ok_goto (tgt := 53) (kd_m11_season.at 66 rfl) (by decide) ?_
      refine ok_sub (lv' := [(0, .ref 14), (1, .int x12)]) [1, 0] rfl ?_
      exact ih x12 S11
def f_m11_season  (S : kSt) : Option (Int32 × kSt) :=
  (f_m11_good  S).bind fun q1 =>
  kgb (q1.1 14 14) fun b2 =>
  if b2 then
    if (q1.1 61 35) = 999 then
      (f_m11_no 3 q1).bind fun q15 =>
      some (q15.1, q15.2)
    else
      (f_m11_note  q1).bind fun q5 =>
      knx (kuI q5 61 35 ((q5.1 61 35) + 1)) fun S6 =>
      f_m11_season_L53 
        (fun  (S13 : kSt) =>
          (f_m11_mastersIn 0 S13).bind fun q14 =>
          some (q14.1, q14.2)
        )
        kFU 0 S6
  else
    (f_m11_no 1 q1).bind fun q16 =>
    some (q16.1, q16.2)
theorem ok_m11_season {l : Launch} {G : kG} {E : kE}   (S : kSt) : kFn l G E E kjI m11_season 7 [.ref 14] S (f_m11_season  S) := by
  unfold f_m11_season
  refine kFn_of (by decide +kernel) (fun hG => Nat.le_of_ble_eq_true rfl) ?_
  show kOk _ _ _ _ _ _ _ _ [(0, .ref 14)] _ _
  refine ok_aload_n 0 (kd_m11_season.at 0 rfl) rfl rfl ?_
  refine ok_callVV (M' := m11_good) (as := []) (st := []) (kd_m11_season.at 1 rfl) kc11_164 sh_14 rfl rfl (by decide) (ok_m11_good  S) (kfit_of (by decide)) rfl (Nat.le_of_ble_eq_true rfl) (fun q1 hq1 => ?_)
  refine ok_aload_n 0 (kd_m11_season.at 2 rfl) rfl rfl ?_
  refine ok_getZ (kd_m11_season.at 3 rfl) kf11_177 sh_14 rfl (fun b2 => ?_)
  refine ok_ifb_ne (tgt := 17) (kd_m11_season.at 4 rfl) (by decide) (fun h3 => ?_) (fun h3 => ?_)
  · refine ok_aload_n 0 (kd_m11_season.at 9 rfl) rfl rfl ?_
    refine ok_getR (kd_m11_season.at 10 rfl) kf11_32 sh_14 rfl (kr_14_19 _) ?_
    refine ok_bipush (v := 35) (kd_m11_season.at 11 rfl) (by decide) ?_
    refine ok_ialdK (j := 35) (kd_m11_season.at 12 rfl) sh_61 (by decide) (by decide) ?_
    refine ok_sipush (v := 999) (kd_m11_season.at 13 rfl) (by decide) ?_
    refine ok_icmp_ne (tgt := 36) (kd_m11_season.at 14 rfl) (by decide) (fun h4 => ?_) (fun h4 => ?_)
    · refine ok_aload_n 0 (kd_m11_season.at 19 rfl) rfl rfl ?_
      refine ok_callVV (M' := m11_note) (as := []) (st := []) (kd_m11_season.at 20 rfl) kc11_399 sh_14 rfl rfl (by decide) (ok_m11_note  q1) (kfit_of (by decide)) rfl (Nat.le_of_ble_eq_true rfl) (fun q5 hq5 => ?_)
      refine ok_aload_n 0 (kd_m11_season.at 21 rfl) rfl rfl ?_
      refine ok_getR (kd_m11_season.at 22 rfl) kf11_32 sh_14 rfl (kr_14_19 _) ?_
      refine ok_bipush (v := 35) (kd_m11_season.at 23 rfl) (by decide) ?_
      refine ok_dup2 (kd_m11_season.at 24 rfl) rfl rfl ?_
      refine ok_ialdK (j := 35) (kd_m11_season.at 25 rfl) sh_61 (by decide) (by decide) ?_
      refine ok_iconst (v := 1) (kd_m11_season.at 26 rfl) (by decide) ?_
      refine ok_iadd (kd_m11_season.at 27 rfl) ?_
      refine ok_iastK (j := 35) (kd_m11_season.at 28 rfl) sh_61 (by decide) (by decide) ?_
      refine ok_nS (fun S6 hS6 => ?_)
      refine ok_iconst (v := 0) (kd_m11_season.at 29 rfl) (by decide) ?_
      refine ok_istore_n (lv' := [(1, .int 0), (0, .ref 14)]) (kd_m11_season.at 30 rfl) rfl (by decide) rfl ?_
      refine ok_sub (lv' := [(0, .ref 14), (1, .int 0)]) [1, 0] rfl ?_
      refine ok_m11_season_L53 _ (fun S13 => ?_) kFU 0 S6
      refine ok_aload_n 0 (kd_m11_season.at 67 rfl) rfl rfl ?_
      refine ok_iconst (v := 0) (kd_m11_season.at 68 rfl) (by decide) ?_
      refine ok_callVI (M' := m11_mastersIn) (as := [.int 0]) (st := []) (kd_m11_season.at 69 rfl) kc11_297 sh_14 rfl rfl (by decide) (ok_m11_mastersIn 0 S13) (kfit_of (by decide)) rfl (Nat.le_of_ble_eq_true rfl) (fun q14 hq14 => ?_)
      exact ok_ireturn (kd_m11_season.at 70 rfl) rfl
    · refine ok_aload_n 0 (kd_m11_season.at 15 rfl) rfl rfl ?_
      refine ok_iconst (v := 3) (kd_m11_season.at 16 rfl) (by decide) ?_
      refine ok_callVI (M' := m11_no) (as := [.int 3]) (st := []) (kd_m11_season.at 17 rfl) kc11_167 sh_14 rfl rfl (by decide) (ok_m11_no 3 q1) (kfit_of (by decide)) rfl (Nat.le_of_ble_eq_true rfl) (fun q15 hq15 => ?_)
      exact ok_ireturn (kd_m11_season.at 18 rfl) rfl
  · refine ok_aload_n 0 (kd_m11_season.at 5 rfl) rfl rfl ?_
    refine ok_iconst (v := 1) (kd_m11_season.at 6 rfl) (by decide) ?_
    refine ok_callVI (M' := m11_no) (as := [.int 1]) (st := []) (kd_m11_season.at 7 rfl) kc11_167 sh_14 rfl rfl (by decide) (ok_m11_no 1 q1) (kfit_of (by decide)) rfl (Nat.le_of_ble_eq_true rfl) (fun q16 hq16 => ?_)
    exact ok_ireturn (kd_m11_season.at 8 rfl) rfl
def f_m11_change (a1 : Int32) (S : kSt) : Option (Int32 × kSt) :=
  (f_m11_good  S).bind fun q1 =>
  (f_m11_isPair a1 q1).bind fun q2 =>
  if q2.1 then
    kgi a1 36 (
      if (2 * (q2.2.1 61 a1.toNatClampNeg)) = (q2.2.1 57 0) then
        (f_m11_no 5 q2.2).bind fun q7 =>
        some (q7.1, q7.2)
      else
        (f_m11_note  q2.2).bind fun q5 =>
        kgi a1 36 (
          kgi a1 36 (
            knx (kuI q5 61 a1.toNatClampNeg ((q5.1 57 0) - (q5.1 61 a1.toNatClampNeg))) fun S6 =>
            kgi a1 36 (
              some (S6.1 61 a1.toNatClampNeg, S6)
            )
          )
        )
    )
  else
    (f_m11_no 1 q2.2).bind fun q8 =>
    some (q8.1, q8.2)
theorem ok_m11_change {l : Launch} {G : kG} {E : kE} (a1 : Int32)  (S : kSt) : kFn l G E E kjI m11_change 3 [.ref 14, .int a1] S (f_m11_change a1 S) := by
  unfold f_m11_change
  refine kFn_of (by decide +kernel) (fun hG => Nat.le_of_ble_eq_true rfl) ?_
  show kOk _ _ _ _ _ _ _ _ [(0, .ref 14), (1, .int a1)] _ _
  refine ok_aload_n 0 (kd_m11_change.at 0 rfl) rfl rfl ?_
  refine ok_callVV (M' := m11_good) (as := []) (st := []) (kd_m11_change.at 1 rfl) kc11_164 sh_14 rfl rfl (by decide) (ok_m11_good  S) (kfit_of (by decide)) rfl (Nat.le_of_ble_eq_true rfl) (fun q1 hq1 => ?_)
  refine ok_aload_n 0 (kd_m11_change.at 2 rfl) rfl rfl ?_
  refine ok_iload_n 1 (kd_m11_change.at 3 rfl) rfl rfl ?_
  refine ok_callVB (M' := m11_isPair) (as := [.int a1]) (st := []) (kd_m11_change.at 4 rfl) kc11_239 sh_14 rfl rfl (by decide) (ok_m11_isPair a1 q1) (kfit_of (by decide)) rfl (Nat.le_of_ble_eq_true rfl) (fun q2 hq2 => ?_)
  refine ok_ifb_ne (tgt := 18) (kd_m11_change.at 5 rfl) (by decide) (fun h3 => ?_) (fun h3 => ?_)
  · refine ok_iconst (v := 2) (kd_m11_change.at 10 rfl) (by decide) ?_
    refine ok_aload_n 0 (kd_m11_change.at 11 rfl) rfl rfl ?_
    refine ok_getR (kd_m11_change.at 12 rfl) kf11_32 sh_14 rfl (kr_14_19 _) ?_
    refine ok_iload_n 1 (kd_m11_change.at 13 rfl) rfl rfl ?_
    refine ok_iald (kd_m11_change.at 14 rfl) sh_61 ?_
    refine ok_imul (kd_m11_change.at 15 rfl) ?_
    refine ok_aload_n 0 (kd_m11_change.at 16 rfl) rfl rfl ?_
    refine ok_getR (kd_m11_change.at 17 rfl) kf11_20 sh_14 rfl (kr_14_15 _) ?_
    refine ok_iconst (v := 0) (kd_m11_change.at 18 rfl) (by decide) ?_
    refine ok_ialdK (j := 0) (kd_m11_change.at 19 rfl) sh_57 (by decide) (by decide) ?_
    refine ok_icmp_ne (tgt := 41) (kd_m11_change.at 20 rfl) (by decide) (fun h4 => ?_) (fun h4 => ?_)
    · refine ok_aload_n 0 (kd_m11_change.at 25 rfl) rfl rfl ?_
      refine ok_callVV (M' := m11_note) (as := []) (st := []) (kd_m11_change.at 26 rfl) kc11_399 sh_14 rfl rfl (by decide) (ok_m11_note  q2.2) (kfit_of (by decide)) rfl (Nat.le_of_ble_eq_true rfl) (fun q5 hq5 => ?_)
      refine ok_aload_n 0 (kd_m11_change.at 27 rfl) rfl rfl ?_
      refine ok_getR (kd_m11_change.at 28 rfl) kf11_32 sh_14 rfl (kr_14_19 _) ?_
      refine ok_iload_n 1 (kd_m11_change.at 29 rfl) rfl rfl ?_
      refine ok_aload_n 0 (kd_m11_change.at 30 rfl) rfl rfl ?_
      refine ok_getR (kd_m11_change.at 31 rfl) kf11_20 sh_14 rfl (kr_14_15 _) ?_
      refine ok_iconst (v := 0) (kd_m11_change.at 32 rfl) (by decide) ?_
      refine ok_ialdK (j := 0) (kd_m11_change.at 33 rfl) sh_57 (by decide) (by decide) ?_
      refine ok_aload_n 0 (kd_m11_change.at 34 rfl) rfl rfl ?_
      refine ok_getR (kd_m11_change.at 35 rfl) kf11_32 sh_14 rfl (kr_14_19 _) ?_
      refine ok_iload_n 1 (kd_m11_change.at 36 rfl) rfl rfl ?_
      refine ok_iald (kd_m11_change.at 37 rfl) sh_61 ?_
      refine ok_isub (kd_m11_change.at 38 rfl) ?_
      refine ok_iast (kd_m11_change.at 39 rfl) sh_61 ?_
      refine ok_nS (fun S6 hS6 => ?_)
      refine ok_aload_n 0 (kd_m11_change.at 40 rfl) rfl rfl ?_
      refine ok_getR (kd_m11_change.at 41 rfl) kf11_32 sh_14 rfl (kr_14_19 _) ?_
      refine ok_iload_n 1 (kd_m11_change.at 42 rfl) rfl rfl ?_
      refine ok_iald (kd_m11_change.at 43 rfl) sh_61 ?_
      exact ok_ireturn (kd_m11_change.at 44 rfl) rfl
    · refine ok_aload_n 0 (kd_m11_change.at 21 rfl) rfl rfl ?_
      refine ok_iconst (v := 5) (kd_m11_change.at 22 rfl) (by decide) ?_
      refine ok_callVI (M' := m11_no) (as := [.int 5]) (st := []) (kd_m11_change.at 23 rfl) kc11_167 sh_14 rfl rfl (by decide) (ok_m11_no 5 q2.2) (kfit_of (by decide)) rfl (Nat.le_of_ble_eq_true rfl) (fun q7 hq7 => ?_)
      exact ok_ireturn (kd_m11_change.at 24 rfl) rfl
  · refine ok_aload_n 0 (kd_m11_change.at 6 rfl) rfl rfl ?_
    refine ok_iconst (v := 1) (kd_m11_change.at 7 rfl) (by decide) ?_
    refine ok_callVI (M' := m11_no) (as := [.int 1]) (st := []) (kd_m11_change.at 8 rfl) kc11_167 sh_14 rfl rfl (by decide) (ok_m11_no 1 q2.2) (kfit_of (by decide)) rfl (Nat.le_of_ble_eq_true rfl) (fun q8 hq8 => ?_)
    exact ok_ireturn (kd_m11_change.at 9 rfl) rfl
def f_m11_step (a1 : Int32) (a2 : Int32) (S : kSt) : Option (Bool × kSt) :=
  (f_m11_good  S).bind fun q1 =>
  (f_m11_isPair a1 q1).bind fun q2 =>
  if q2.1 then
    (f_m11_in a2 0 20 q2.2).bind fun q4 =>
    if q4.1 then
      knx (5 + a1) fun x6 =>
      kgi x6 36 (
        if (q4.2.1 61 x6.toNatClampNeg) = a2 then
          (f_m11_isNot 5 q4.2).bind fun q11 =>
          some (q11.1, q11.2)
        else
          (f_m11_note  q4.2).bind fun q8 =>
          knx (5 + a1) fun x10 =>
          kgi x10 36 (
            knx (kuI q8 61 x10.toNatClampNeg a2) fun S9 =>
            some (true, S9)
          )
      )
    else
      (f_m11_isNot 2 q4.2).bind fun q12 =>
      some (q12.1, q12.2)
  else
    (f_m11_isNot 1 q2.2).bind fun q13 =>
    some (q13.1, q13.2)
theorem ok_m11_step {l : Launch} {G : kG} {E : kE} (a1 : Int32) (a2 : Int32)  (S : kSt) : kFn l G E E kjB m11_step 3 [.ref 14, .int a1, .int a2] S (f_m11_step a1 a2 S) := by
  unfold f_m11_step
  refine kFn_of (by decide +kernel) (fun hG => Nat.le_of_ble_eq_true rfl) ?_
  show kOk _ _ _ _ _ _ _ _ [(0, .ref 14), (1, .int a1), (2, .int a2)] _ _
  refine ok_aload_n 0 (kd_m11_step.at 0 rfl) rfl rfl ?_
  refine ok_callVV (M' := m11_good) (as := []) (st := []) (kd_m11_step.at 1 rfl) kc11_164 sh_14 rfl rfl (by decide) (ok_m11_good  S) (kfit_of (by decide)) rfl (Nat.le_of_ble_eq_true rfl) (fun q1 hq1 => ?_)
  refine ok_aload_n 0 (kd_m11_step.at 2 rfl) rfl rfl ?_
  refine ok_iload_n 1 (kd_m11_step.at 3 rfl) rfl rfl ?_
  refine ok_callVB (M' := m11_isPair) (as := [.int a1]) (st := []) (kd_m11_step.at 4 rfl) kc11_239 sh_14 rfl rfl (by decide) (ok_m11_isPair a1 q1) (kfit_of (by decide)) rfl (Nat.le_of_ble_eq_true rfl) (fun q2 hq2 => ?_)
  refine ok_ifb_ne (tgt := 18) (kd_m11_step.at 5 rfl) (by decide) (fun h3 => ?_) (fun h3 => ?_)
  · refine ok_iload_n 2 (kd_m11_step.at 10 rfl) rfl rfl ?_
    refine ok_iconst (v := 0) (kd_m11_step.at 11 rfl) (by decide) ?_
    refine ok_bipush (v := 20) (kd_m11_step.at 12 rfl) (by decide) ?_
    refine ok_callSB (M' := m11_in) (as := [.int a2, .int 0, .int 20]) (st := []) (kd_m11_step.at 13 rfl) kc11_146  rfl (by decide) (ok_m11_in a2 0 20 q2.2) (kfit_of (by decide)) rfl (Nat.le_of_ble_eq_true rfl) (fun q4 hq4 => ?_)
    refine ok_ifb_ne (tgt := 34) (kd_m11_step.at 14 rfl) (by decide) (fun h5 => ?_) (fun h5 => ?_)
    · refine ok_aload_n 0 (kd_m11_step.at 19 rfl) rfl rfl ?_
      refine ok_getR (kd_m11_step.at 20 rfl) kf11_32 sh_14 rfl (kr_14_19 _) ?_
      refine ok_iconst (v := 5) (kd_m11_step.at 21 rfl) (by decide) ?_
      refine ok_iload_n 1 (kd_m11_step.at 22 rfl) rfl rfl ?_
      refine ok_iadd (kd_m11_step.at 23 rfl) ?_
      refine ok_topi (fun x6 hx6 => ?_)
      refine ok_iald (kd_m11_step.at 24 rfl) sh_61 ?_
      refine ok_iload_n 2 (kd_m11_step.at 25 rfl) rfl rfl ?_
      refine ok_icmp_ne (tgt := 52) (kd_m11_step.at 26 rfl) (by decide) (fun h7 => ?_) (fun h7 => ?_)
      · refine ok_aload_n 0 (kd_m11_step.at 31 rfl) rfl rfl ?_
        refine ok_callVV (M' := m11_note) (as := []) (st := []) (kd_m11_step.at 32 rfl) kc11_399 sh_14 rfl rfl (by decide) (ok_m11_note  q4.2) (kfit_of (by decide)) rfl (Nat.le_of_ble_eq_true rfl) (fun q8 hq8 => ?_)
        refine ok_aload_n 0 (kd_m11_step.at 33 rfl) rfl rfl ?_
        refine ok_getR (kd_m11_step.at 34 rfl) kf11_32 sh_14 rfl (kr_14_19 _) ?_
        refine ok_iconst (v := 5) (kd_m11_step.at 35 rfl) (by decide) ?_
        refine ok_iload_n 1 (kd_m11_step.at 36 rfl) rfl rfl ?_
        refine ok_iadd (kd_m11_step.at 37 rfl) ?_
        refine ok_iload_n 2 (kd_m11_step.at 38 rfl) rfl rfl ?_
        refine ok_sndi (fun x10 hx10 => ?_)
        refine ok_iast (kd_m11_step.at 39 rfl) sh_61 ?_
        refine ok_nS (fun S9 hS9 => ?_)
        refine ok_iconst (v := 1) (kd_m11_step.at 40 rfl) (by decide) ?_
        exact ok_zreturn (x := true) (kd_m11_step.at 41 rfl) rfl
      · refine ok_aload_n 0 (kd_m11_step.at 27 rfl) rfl rfl ?_
        refine ok_iconst (v := 5) (kd_m11_step.at 28 rfl) (by decide) ?_
        refine ok_callVB (M' := m11_isNot) (as := [.int 5]) (st := []) (kd_m11_step.at 29 rfl) kc11_402 sh_14 rfl rfl (by decide) (ok_m11_isNot 5 q4.2) (kfit_of (by decide)) rfl (Nat.le_of_ble_eq_true rfl) (fun q11 hq11 => ?_)
        exact ok_zreturn (x := q11.1) (kd_m11_step.at 30 rfl) rfl
    · refine ok_aload_n 0 (kd_m11_step.at 15 rfl) rfl rfl ?_
      refine ok_iconst (v := 2) (kd_m11_step.at 16 rfl) (by decide) ?_
      refine ok_callVB (M' := m11_isNot) (as := [.int 2]) (st := []) (kd_m11_step.at 17 rfl) kc11_402 sh_14 rfl rfl (by decide) (ok_m11_isNot 2 q4.2) (kfit_of (by decide)) rfl (Nat.le_of_ble_eq_true rfl) (fun q12 hq12 => ?_)
      exact ok_zreturn (x := q12.1) (kd_m11_step.at 18 rfl) rfl
  · refine ok_aload_n 0 (kd_m11_step.at 6 rfl) rfl rfl ?_
    refine ok_iconst (v := 1) (kd_m11_step.at 7 rfl) (by decide) ?_
    refine ok_callVB (M' := m11_isNot) (as := [.int 1]) (st := []) (kd_m11_step.at 8 rfl) kc11_402 sh_14 rfl rfl (by decide) (ok_m11_isNot 1 q2.2) (kfit_of (by decide)) rfl (Nat.le_of_ble_eq_true rfl) (fun q13 hq13 => ?_)
    exact ok_zreturn (x := q13.1) (kd_m11_step.at 9 rfl) rfl
def f_m11_pay (a1 : Int32) (a2 : Int32) (a3 : Int32) (S : kSt) : Option (Int32 × kSt) :=
  (f_m11_good  S).bind fun q1 =>
  (f_m11_areTwo a1 a2 q1).bind fun q2 =>
  (f_m11_in a3 1 99 q2.2).bind fun q3 =>
  (f_m11_why q2.1 q3.1 q3.2).bind fun q4 =>
  knx (fun (x5 : Int32) (S6 : kSt) =>
    if x5 = 0 then
      (f_m11_note  S6).bind fun q8 =>
      knx ((10 + (5 * a1)) + a2) fun x9 =>
      kgi x9 36 (
        kgi x9 36 (
          knx (kuI q8 61 x9.toNatClampNeg ((q8.1 61 x9.toNatClampNeg) - a3)) fun S10 =>
          (f_m11_debtOf a1 a2 S10).bind fun q11 =>
          some (q11.1, q11.2)
        )
      )
    else
      (f_m11_no x5 S6).bind fun q12 =>
      some (q12.1, q12.2)
    ) fun j41 =>
  if q4.1 = 0 then
    (f_m11_debtOf a1 a2 q4.2).bind fun q14 =>
    if a3 ≤ q14.1 then
      j41 q4.1 q14.2
    else
      j41 5 q14.2
  else
    j41 q4.1 q4.2
theorem ok_m11_pay {l : Launch} {G : kG} {E : kE} (a1 : Int32) (a2 : Int32) (a3 : Int32)  (S : kSt) : kFn l G E E kjI m11_pay 4 [.ref 14, .int a1, .int a2, .int a3] S (f_m11_pay a1 a2 a3 S) := by
  unfold f_m11_pay
  refine kFn_of (by decide +kernel) (fun hG => Nat.le_of_ble_eq_true rfl) ?_
  show kOk _ _ _ _ _ _ _ _ [(0, .ref 14), (1, .int a1), (2, .int a2), (3, .int a3)] _ _
  refine ok_aload_n 0 (kd_m11_pay.at 0 rfl) rfl rfl ?_
  refine ok_callVV (M' := m11_good) (as := []) (st := []) (kd_m11_pay.at 1 rfl) kc11_164 sh_14 rfl rfl (by decide) (ok_m11_good  S) (kfit_of (by decide)) rfl (Nat.le_of_ble_eq_true rfl) (fun q1 hq1 => ?_)
  refine ok_aload_n 0 (kd_m11_pay.at 2 rfl) rfl rfl ?_
  refine ok_aload_n 0 (kd_m11_pay.at 3 rfl) rfl rfl ?_
  refine ok_iload_n 1 (kd_m11_pay.at 4 rfl) rfl rfl ?_
  refine ok_iload_n 2 (kd_m11_pay.at 5 rfl) rfl rfl ?_
  refine ok_callVB (M' := m11_areTwo) (as := [.int a1, .int a2]) (st := [.ref 14]) (kd_m11_pay.at 6 rfl) kc11_293 sh_14 rfl rfl (by decide) (ok_m11_areTwo a1 a2 q1) (kfit_of (by decide)) rfl (Nat.le_of_ble_eq_true rfl) (fun q2 hq2 => ?_)
  refine ok_iload_n 3 (kd_m11_pay.at 7 rfl) rfl rfl ?_
  refine ok_iconst (v := 1) (kd_m11_pay.at 8 rfl) (by decide) ?_
  refine ok_bipush (v := 99) (kd_m11_pay.at 9 rfl) (by decide) ?_
  refine ok_callSB (M' := m11_in) (as := [.int a3, .int 1, .int 99]) (st := [.int (kb q2.1), .ref 14]) (kd_m11_pay.at 10 rfl) kc11_146  rfl (by decide) (ok_m11_in a3 1 99 q2.2) (kfit_of (by decide)) rfl (Nat.le_of_ble_eq_true rfl) (fun q3 hq3 => ?_)
  refine ok_callVI (M' := m11_why) (as := [.int (kb q2.1), .int (kb q3.1)]) (st := []) (kd_m11_pay.at 11 rfl) kc11_275 sh_14 rfl rfl (by decide) (ok_m11_why q2.1 q3.1 q3.2) (kfit_of (by decide)) rfl (Nat.le_of_ble_eq_true rfl) (fun q4 hq4 => ?_)
  refine ok_istore (lv' := [(4, .int q4.1), (0, .ref 14), (1, .int a1), (2, .int a2), (3, .int a3)]) (kd_m11_pay.at 12 rfl) (by decide) rfl ?_
  refine ok_iload 0 (kd_m11_pay.at 13 rfl) rfl ?_
  refine ok_nx (fun j41 hj41 => ?_)
  have K41 : ∀ (x5 : Int32) (S6 : kSt), kOk l G E (kZ G E kjI) m11_pay (kdp (4)) (j41 x5 S6) 41 [(0, .ref 14), (1, .int a1), (2, .int a2), (3, .int a3), (4, .int x5)] [] S6 := by
    subst hj41
    intro x5 S6
    refine ok_iload 4 (kd_m11_pay.at 23 rfl) rfl ?_
    refine ok_if_eq (tgt := 53) (kd_m11_pay.at 24 rfl) (by decide) (fun h7 => ?_) (fun h7 => ?_)
    · refine ok_aload_n 0 (kd_m11_pay.at 29 rfl) rfl rfl ?_
      refine ok_callVV (M' := m11_note) (as := []) (st := []) (kd_m11_pay.at 30 rfl) kc11_399 sh_14 rfl rfl (by decide) (ok_m11_note  S6) (kfit_of (by decide)) rfl (Nat.le_of_ble_eq_true rfl) (fun q8 hq8 => ?_)
      refine ok_aload_n 0 (kd_m11_pay.at 31 rfl) rfl rfl ?_
      refine ok_getR (kd_m11_pay.at 32 rfl) kf11_32 sh_14 rfl (kr_14_19 _) ?_
      refine ok_bipush (v := 10) (kd_m11_pay.at 33 rfl) (by decide) ?_
      refine ok_iconst (v := 5) (kd_m11_pay.at 34 rfl) (by decide) ?_
      refine ok_iload_n 1 (kd_m11_pay.at 35 rfl) rfl rfl ?_
      refine ok_imul (kd_m11_pay.at 36 rfl) ?_
      refine ok_iadd (kd_m11_pay.at 37 rfl) ?_
      refine ok_iload_n 2 (kd_m11_pay.at 38 rfl) rfl rfl ?_
      refine ok_iadd (kd_m11_pay.at 39 rfl) ?_
      refine ok_topi (fun x9 hx9 => ?_)
      refine ok_dup2 (kd_m11_pay.at 40 rfl) rfl rfl ?_
      refine ok_iald (kd_m11_pay.at 41 rfl) sh_61 ?_
      refine ok_iload_n 3 (kd_m11_pay.at 42 rfl) rfl rfl ?_
      refine ok_isub (kd_m11_pay.at 43 rfl) ?_
      refine ok_iast (kd_m11_pay.at 44 rfl) sh_61 ?_
      refine ok_nS (fun S10 hS10 => ?_)
      refine ok_aload_n 0 (kd_m11_pay.at 45 rfl) rfl rfl ?_
      refine ok_iload_n 1 (kd_m11_pay.at 46 rfl) rfl rfl ?_
      refine ok_iload_n 2 (kd_m11_pay.at 47 rfl) rfl rfl ?_
      refine ok_callVI (M' := m11_debtOf) (as := [.int a1, .int a2]) (st := []) (kd_m11_pay.at 48 rfl) kc11_336 sh_14 rfl rfl (by decide) (ok_m11_debtOf a1 a2 S10) (kfit_of (by decide)) rfl (Nat.le_of_ble_eq_true rfl) (fun q11 hq11 => ?_)
      exact ok_ireturn (kd_m11_pay.at 49 rfl) rfl
    · refine ok_aload_n 0 (kd_m11_pay.at 25 rfl) rfl rfl ?_
      refine ok_iload 4 (kd_m11_pay.at 26 rfl) rfl ?_
      refine ok_callVI (M' := m11_no) (as := [.int x5]) (st := []) (kd_m11_pay.at 27 rfl) kc11_167 sh_14 rfl rfl (by decide) (ok_m11_no x5 S6) (kfit_of (by decide)) rfl (Nat.le_of_ble_eq_true rfl) (fun q12 hq12 => ?_)
      exact ok_ireturn (kd_m11_pay.at 28 rfl) rfl
  clear hj41
  refine ok_if_ne (tgt := 41) (kd_m11_pay.at 14 rfl) (by decide) (fun h13 => ?_) (fun h13 => ?_)
  · refine ok_sub (lv' := [(0, .ref 14), (1, .int a1), (2, .int a2), (3, .int a3), (4, .int q4.1)]) [1, 2, 3, 4, 0] rfl ?_
    exact K41 q4.1 q4.2
  · refine ok_iload_n 4 (kd_m11_pay.at 15 rfl) rfl rfl ?_
    refine ok_aload_n 1 (kd_m11_pay.at 16 rfl) rfl rfl ?_
    refine ok_iload_n 2 (kd_m11_pay.at 17 rfl) rfl rfl ?_
    refine ok_iload_n 3 (kd_m11_pay.at 18 rfl) rfl rfl ?_
    refine ok_callVI (M' := m11_debtOf) (as := [.int a1, .int a2]) (st := [.int a3]) (kd_m11_pay.at 19 rfl) kc11_336 sh_14 rfl rfl (by decide) (ok_m11_debtOf a1 a2 q4.2) (kfit_of (by decide)) rfl (Nat.le_of_ble_eq_true rfl) (fun q14 hq14 => ?_)
    refine ok_icmp_le (tgt := 41) (kd_m11_pay.at 20 rfl) (by decide) (fun h15 => ?_) (fun h15 => ?_)
    · refine ok_sub (lv' := [(0, .ref 14), (1, .int a1), (2, .int a2), (3, .int a3), (4, .int q4.1)]) [1, 2, 3, 4, 0] rfl ?_
      exact K41 q4.1 q14.2
    · refine ok_iconst (v := 5) (kd_m11_pay.at 21 rfl) (by decide) ?_
      refine ok_istore (lv' := [(4, .int 5), (0, .ref 14), (1, .int a1), (2, .int a2), (3, .int a3)]) (kd_m11_pay.at 22 rfl) (by decide) rfl ?_
      refine ok_sub (lv' := [(0, .ref 14), (1, .int a1), (2, .int a2), (3, .int a3), (4, .int 5)]) [1, 2, 3, 4, 0] rfl ?_
      exact K41 5 q14.2
def f_m11_undo  (S : kSt) : Option (Bool × kSt) :=
  (f_m11_good  S).bind fun q1 =>
  if (q1.1 14 22) = 0 then
    (f_m11_isNot 6 q1).bind fun q5 =>
    some (q5.1, q5.2)
  else
    knx (kuI q1 14 22 ((q1.1 14 22) - 1)) fun S3 =>
    (f_m11_copy 62 576 (36 * (S3.1 14 22)) 61 36 0 36 S3).bind fun q4 =>
    some (true, q4)
theorem ok_m11_undo {l : Launch} {G : kG} {E : kE}   (S : kSt) : kFn l G E E kjB m11_undo 2 [.ref 14] S (f_m11_undo  S) := by
  unfold f_m11_undo
  refine kFn_of (by decide +kernel) (fun hG => Nat.le_of_ble_eq_true rfl) ?_
  show kOk _ _ _ _ _ _ _ _ [(0, .ref 14)] _ _
  refine ok_aload_n 0 (kd_m11_undo.at 0 rfl) rfl rfl ?_
  refine ok_callVV (M' := m11_good) (as := []) (st := []) (kd_m11_undo.at 1 rfl) kc11_164 sh_14 rfl rfl (by decide) (ok_m11_good  S) (kfit_of (by decide)) rfl (Nat.le_of_ble_eq_true rfl) (fun q1 hq1 => ?_)
  refine ok_aload_n 0 (kd_m11_undo.at 2 rfl) rfl rfl ?_
  refine ok_getI (kd_m11_undo.at 3 rfl) kf11_180 sh_14 rfl ?_
  refine ok_if_ne (tgt := 18) (kd_m11_undo.at 4 rfl) (by decide) (fun h2 => ?_) (fun h2 => ?_)
  · refine ok_aload_n 0 (kd_m11_undo.at 9 rfl) rfl rfl ?_
    refine ok_dup (kd_m11_undo.at 10 rfl) rfl ?_
    refine ok_getI (kd_m11_undo.at 11 rfl) kf11_180 sh_14 rfl ?_
    refine ok_iconst (v := 1) (kd_m11_undo.at 12 rfl) (by decide) ?_
    refine ok_isub (kd_m11_undo.at 13 rfl) ?_
    refine ok_putI (kd_m11_undo.at 14 rfl) kf11_180 sh_14 rfl rfl ?_
    refine ok_nS (fun S3 hS3 => ?_)
    refine ok_aload_n 0 (kd_m11_undo.at 15 rfl) rfl rfl ?_
    refine ok_getR (kd_m11_undo.at 16 rfl) kf11_35 sh_14 rfl (kr_14_20 _) ?_
    refine ok_bipush (v := 36) (kd_m11_undo.at 17 rfl) (by decide) ?_
    refine ok_aload_n 0 (kd_m11_undo.at 18 rfl) rfl rfl ?_
    refine ok_getI (kd_m11_undo.at 19 rfl) kf11_180 sh_14 rfl ?_
    refine ok_imul (kd_m11_undo.at 20 rfl) ?_
    refine ok_aload_n 0 (kd_m11_undo.at 21 rfl) rfl rfl ?_
    refine ok_getR (kd_m11_undo.at 22 rfl) kf11_32 sh_14 rfl (kr_14_19 _) ?_
    refine ok_iconst (v := 0) (kd_m11_undo.at 23 rfl) (by decide) ?_
    refine ok_bipush (v := 36) (kd_m11_undo.at 24 rfl) (by decide) ?_
    refine ok_callSV (M' := m11_copy) (as := [.ref 62, .int (36 * (S3.1 14 22)), .ref 61, .int 0, .int 36]) (st := []) (kd_m11_undo.at 25 rfl) kc11_173  rfl (by decide) (ok_m11_copy 62 576 (36 * (S3.1 14 22)) 61 36 0 36 sh_62 sh_61 S3) (kfit_of (by decide)) rfl (Nat.le_of_ble_eq_true rfl) (fun q4 hq4 => ?_)
    refine ok_iconst (v := 1) (kd_m11_undo.at 26 rfl) (by decide) ?_
    exact ok_zreturn (x := true) (kd_m11_undo.at 27 rfl) rfl
  · refine ok_aload_n 0 (kd_m11_undo.at 5 rfl) rfl rfl ?_
    refine ok_bipush (v := 6) (kd_m11_undo.at 6 rfl) (by decide) ?_
    refine ok_callVB (M' := m11_isNot) (as := [.int 6]) (st := []) (kd_m11_undo.at 7 rfl) kc11_402 sh_14 rfl rfl (by decide) (ok_m11_isNot 6 q1) (kfit_of (by decide)) rfl (Nat.le_of_ble_eq_true rfl) (fun q5 hq5 => ?_)
    exact ok_zreturn (x := q5.1) (kd_m11_undo.at 8 rfl) rfl
def f_m11_image  (S : kSt) : Option (Int32 × kSt) :=
  (f_m11_good  S).bind fun q1 =>
  kgb (q1.1 14 14) fun b2 =>
  if b2 then
    if (q1.1 14 23) = 3 then
      (f_m11_no 3 q1).bind fun q7 =>
      some (q7.1, q7.2)
    else
      (f_m11_copy 61 36 0 63 108 (36 * (q1.1 14 23)) 36 q1).bind fun q5 =>
      knx (kuI q5 14 23 ((q5.1 14 23) + 1)) fun S6 =>
      some ((S6.1 14 23) - 1, S6)
  else
    (f_m11_no 1 q1).bind fun q8 =>
    some (q8.1, q8.2)
theorem ok_m11_image {l : Launch} {G : kG} {E : kE}   (S : kSt) : kFn l G E E kjI m11_image 2 [.ref 14] S (f_m11_image  S) := by
  unfold f_m11_image
  refine kFn_of (by decide +kernel) (fun hG => Nat.le_of_ble_eq_true rfl) ?_
  show kOk _ _ _ _ _ _ _ _ [(0, .ref 14)] _ _
  refine ok_aload_n 0 (kd_m11_image.at 0 rfl) rfl rfl ?_
  refine ok_callVV (M' := m11_good) (as := []) (st := []) (kd_m11_image.at 1 rfl) kc11_164 sh_14 rfl rfl (by decide) (ok_m11_good  S) (kfit_of (by decide)) rfl (Nat.le_of_ble_eq_true rfl) (fun q1 hq1 => ?_)
  refine ok_aload_n 0 (kd_m11_image.at 2 rfl) rfl rfl ?_
  refine ok_getZ (kd_m11_image.at 3 rfl) kf11_177 sh_14 rfl (fun b2 => ?_)
  refine ok_ifb_ne (tgt := 17) (kd_m11_image.at 4 rfl) (by decide) (fun h3 => ?_) (fun h3 => ?_)
  · refine ok_aload_n 0 (kd_m11_image.at 9 rfl) rfl rfl ?_
    refine ok_getI (kd_m11_image.at 10 rfl) kf11_183 sh_14 rfl ?_
    refine ok_iconst (v := 3) (kd_m11_image.at 11 rfl) (by decide) ?_
    refine ok_icmp_ne (tgt := 31) (kd_m11_image.at 12 rfl) (by decide) (fun h4 => ?_) (fun h4 => ?_)
    · refine ok_aload_n 0 (kd_m11_image.at 17 rfl) rfl rfl ?_
      refine ok_getR (kd_m11_image.at 18 rfl) kf11_32 sh_14 rfl (kr_14_19 _) ?_
      refine ok_iconst (v := 0) (kd_m11_image.at 19 rfl) (by decide) ?_
      refine ok_aload_n 0 (kd_m11_image.at 20 rfl) rfl rfl ?_
      refine ok_getR (kd_m11_image.at 21 rfl) kf11_38 sh_14 rfl (kr_14_21 _) ?_
      refine ok_bipush (v := 36) (kd_m11_image.at 22 rfl) (by decide) ?_
      refine ok_aload_n 0 (kd_m11_image.at 23 rfl) rfl rfl ?_
      refine ok_getI (kd_m11_image.at 24 rfl) kf11_183 sh_14 rfl ?_
      refine ok_imul (kd_m11_image.at 25 rfl) ?_
      refine ok_bipush (v := 36) (kd_m11_image.at 26 rfl) (by decide) ?_
      refine ok_callSV (M' := m11_copy) (as := [.ref 61, .int 0, .ref 63, .int (36 * (q1.1 14 23)), .int 36]) (st := []) (kd_m11_image.at 27 rfl) kc11_173  rfl (by decide) (ok_m11_copy 61 36 0 63 108 (36 * (q1.1 14 23)) 36 sh_61 sh_63 q1) (kfit_of (by decide)) rfl (Nat.le_of_ble_eq_true rfl) (fun q5 hq5 => ?_)
      refine ok_aload_n 0 (kd_m11_image.at 28 rfl) rfl rfl ?_
      refine ok_dup (kd_m11_image.at 29 rfl) rfl ?_
      refine ok_getI (kd_m11_image.at 30 rfl) kf11_183 sh_14 rfl ?_
      refine ok_iconst (v := 1) (kd_m11_image.at 31 rfl) (by decide) ?_
      refine ok_iadd (kd_m11_image.at 32 rfl) ?_
      refine ok_putI (kd_m11_image.at 33 rfl) kf11_183 sh_14 rfl rfl ?_
      refine ok_nS (fun S6 hS6 => ?_)
      refine ok_aload_n 0 (kd_m11_image.at 34 rfl) rfl rfl ?_
      refine ok_getI (kd_m11_image.at 35 rfl) kf11_183 sh_14 rfl ?_
      refine ok_iconst (v := 1) (kd_m11_image.at 36 rfl) (by decide) ?_
      refine ok_isub (kd_m11_image.at 37 rfl) ?_
      exact ok_ireturn (kd_m11_image.at 38 rfl) rfl
    · refine ok_aload_n 0 (kd_m11_image.at 13 rfl) rfl rfl ?_
      refine ok_iconst (v := 3) (kd_m11_image.at 14 rfl) (by decide) ?_
      refine ok_callVI (M' := m11_no) (as := [.int 3]) (st := []) (kd_m11_image.at 15 rfl) kc11_167 sh_14 rfl rfl (by decide) (ok_m11_no 3 q1) (kfit_of (by decide)) rfl (Nat.le_of_ble_eq_true rfl) (fun q7 hq7 => ?_)
      exact ok_ireturn (kd_m11_image.at 16 rfl) rfl
  · refine ok_aload_n 0 (kd_m11_image.at 5 rfl) rfl rfl ?_
    refine ok_iconst (v := 1) (kd_m11_image.at 6 rfl) (by decide) ?_
    refine ok_callVI (M' := m11_no) (as := [.int 1]) (st := []) (kd_m11_image.at 7 rfl) kc11_167 sh_14 rfl rfl (by decide) (ok_m11_no 1 q1) (kfit_of (by decide)) rfl (Nat.le_of_ble_eq_true rfl) (fun q8 hq8 => ?_)
    exact ok_ireturn (kd_m11_image.at 8 rfl) rfl
def f_m11_back (a1 : Int32) (S : kSt) : Option (Bool × kSt) :=
  (f_m11_good  S).bind fun q1 =>
  (f_m11_in a1 0 ((q1.1 14 23) - 1) q1).bind fun q2 =>
  if q2.1 then
    (f_m11_copy 63 108 (36 * a1) 61 36 0 36 q2.2).bind fun q4 =>
    knx (kuI q4 14 22 0) fun S5 =>
    some (true, S5)
  else
    (f_m11_isNot 1 q2.2).bind fun q6 =>
    some (q6.1, q6.2)
theorem ok_m11_back {l : Launch} {G : kG} {E : kE} (a1 : Int32)  (S : kSt) : kFn l G E E kjB m11_back 2 [.ref 14, .int a1] S (f_m11_back a1 S) := by
  unfold f_m11_back
  refine kFn_of (by decide +kernel) (fun hG => Nat.le_of_ble_eq_true rfl) ?_
  show kOk _ _ _ _ _ _ _ _ [(0, .ref 14), (1, .int a1)] _ _
  refine ok_aload_n 0 (kd_m11_back.at 0 rfl) rfl rfl ?_
  refine ok_callVV (M' := m11_good) (as := []) (st := []) (kd_m11_back.at 1 rfl) kc11_164 sh_14 rfl rfl (by decide) (ok_m11_good  S) (kfit_of (by decide)) rfl (Nat.le_of_ble_eq_true rfl) (fun q1 hq1 => ?_)
  refine ok_iload_n 1 (kd_m11_back.at 2 rfl) rfl rfl ?_
  refine ok_iconst (v := 0) (kd_m11_back.at 3 rfl) (by decide) ?_
  refine ok_aload_n 0 (kd_m11_back.at 4 rfl) rfl rfl ?_
  refine ok_getI (kd_m11_back.at 5 rfl) kf11_183 sh_14 rfl ?_
  refine ok_iconst (v := 1) (kd_m11_back.at 6 rfl) (by decide) ?_
  refine ok_isub (kd_m11_back.at 7 rfl) ?_
  refine ok_callSB (M' := m11_in) (as := [.int a1, .int 0, .int ((q1.1 14 23) - 1)]) (st := []) (kd_m11_back.at 8 rfl) kc11_146  rfl (by decide) (ok_m11_in a1 0 ((q1.1 14 23) - 1) q1) (kfit_of (by decide)) rfl (Nat.le_of_ble_eq_true rfl) (fun q2 hq2 => ?_)
  refine ok_ifb_ne (tgt := 24) (kd_m11_back.at 9 rfl) (by decide) (fun h3 => ?_) (fun h3 => ?_)
  · refine ok_aload_n 0 (kd_m11_back.at 14 rfl) rfl rfl ?_
    refine ok_getR (kd_m11_back.at 15 rfl) kf11_38 sh_14 rfl (kr_14_21 _) ?_
    refine ok_bipush (v := 36) (kd_m11_back.at 16 rfl) (by decide) ?_
    refine ok_iload_n 1 (kd_m11_back.at 17 rfl) rfl rfl ?_
    refine ok_imul (kd_m11_back.at 18 rfl) ?_
    refine ok_aload_n 0 (kd_m11_back.at 19 rfl) rfl rfl ?_
    refine ok_getR (kd_m11_back.at 20 rfl) kf11_32 sh_14 rfl (kr_14_19 _) ?_
    refine ok_iconst (v := 0) (kd_m11_back.at 21 rfl) (by decide) ?_
    refine ok_bipush (v := 36) (kd_m11_back.at 22 rfl) (by decide) ?_
    refine ok_callSV (M' := m11_copy) (as := [.ref 63, .int (36 * a1), .ref 61, .int 0, .int 36]) (st := []) (kd_m11_back.at 23 rfl) kc11_173  rfl (by decide) (ok_m11_copy 63 108 (36 * a1) 61 36 0 36 sh_63 sh_61 q2.2) (kfit_of (by decide)) rfl (Nat.le_of_ble_eq_true rfl) (fun q4 hq4 => ?_)
    refine ok_aload_n 0 (kd_m11_back.at 24 rfl) rfl rfl ?_
    refine ok_iconst (v := 0) (kd_m11_back.at 25 rfl) (by decide) ?_
    refine ok_putI (kd_m11_back.at 26 rfl) kf11_180 sh_14 rfl rfl ?_
    refine ok_nS (fun S5 hS5 => ?_)
    refine ok_iconst (v := 1) (kd_m11_back.at 27 rfl) (by decide) ?_
    exact ok_zreturn (x := true) (kd_m11_back.at 28 rfl) rfl
  · refine ok_aload_n 0 (kd_m11_back.at 10 rfl) rfl rfl ?_
    refine ok_iconst (v := 1) (kd_m11_back.at 11 rfl) (by decide) ?_
    refine ok_callVB (M' := m11_isNot) (as := [.int 1]) (st := []) (kd_m11_back.at 12 rfl) kc11_402 sh_14 rfl rfl (by decide) (ok_m11_isNot 1 q2.2) (kfit_of (by decide)) rfl (Nat.le_of_ble_eq_true rfl) (fun q6 hq6 => ?_)
    exact ok_zreturn (x := q6.1) (kd_m11_back.at 13 rfl) rfl
def f_m11_led_L4   (k42 : Int32 → kSt → Option (Int32 × kSt)) (k58 : kSt → Option (Int32 × kSt)) (c1 : Int32) : Nat → Int32 → Int32 → kSt → Option (Int32 × kSt)
  | 0, _, _, _ => none
  | n + 1, v2, v3, S =>
    kgb (S.1 14 14) fun b1 =>
    if b1 then
      if (S.1 57 2) ≤ v3 then
        k58  S
      else
        kgi v3 36 (
          (f_m11_isMore (S.1 61 v3.toNatClampNeg) S).bind fun q4 =>
          knx (fun (x5 : Int32) (S6 : kSt) =>
            knx (v3 + 1) fun x7 =>
            f_m11_led_L4 k42 k58 c1 n x5 x7 S6
            ) fun j52 =>
          if q4.1 then
            if v2 = c1 then
              k42 v3 q4.2
            else
              knx (v2 + 1) fun x10 =>
              j52 x10 q4.2
          else
            j52 v2 q4.2
        )
    else
      k58  S
theorem ok_m11_led_L4 {l : Launch} {G : kG} {E : kE}    (c1 : Int32) (k42 : Int32 → kSt → Option (Int32 × kSt)) (k58 : kSt → Option (Int32 × kSt)) (hk42 : ∀ (v3 : Int32) (S : kSt), kOk l G E (kZ G E kjI) m11_led (kdp (2)) (k42 v3 S) 42 [(0, .ref 14), (3, .int v3)] [] S) (hk58 : ∀  (S : kSt), kOk l G E (kZ G E kjI) m11_led (kdp (2)) (k58  S) 58 [(0, .ref 14)] [] S) : ∀ (n : Nat) (v2 : Int32) (v3 : Int32) (S : kSt), kOk l G E (kZ G E kjI) m11_led (kdp (2)) (f_m11_led_L4 k42 k58 c1 n v2 v3 S) 4 [(0, .ref 14), (1, .int c1), (2, .int v2), (3, .int v3)] [] S := by
  intro n
  induction n with
  | zero => intro v2 v3 S; exact ok_none
  | succ n ih =>
    intro v2 v3 S
    rw [f_m11_led_L4]
    refine ok_aload_n 0 (kd_m11_led.at 4 rfl) rfl rfl ?_
    refine ok_getZ (kd_m11_led.at 5 rfl) kf11_177 sh_14 rfl (fun b1 => ?_)
    refine ok_ifb_eq (tgt := 58) (kd_m11_led.at 6 rfl) (by decide) (fun h2 => ?_) (fun h2 => ?_)
    · refine ok_sub (lv' := [(0, .ref 14)]) [0] rfl ?_
      exact hk58  S
    · refine ok_iload_n 3 (kd_m11_led.at 7 rfl) rfl rfl ?_
      refine ok_aload_n 0 (kd_m11_led.at 8 rfl) rfl rfl ?_
      refine ok_getR (kd_m11_led.at 9 rfl) kf11_20 sh_14 rfl (kr_14_15 _) ?_
      refine ok_iconst (v := 2) (kd_m11_led.at 10 rfl) (by decide) ?_
      refine ok_ialdK (j := 2) (kd_m11_led.at 11 rfl) sh_57 (by decide) (by decide) ?_
      refine ok_icmp_ge (tgt := 58) (kd_m11_led.at 12 rfl) (by decide) (fun h3 => ?_) (fun h3 => ?_)
      · refine ok_sub (lv' := [(0, .ref 14)]) [0] rfl ?_
        exact hk58  S
      · refine ok_aload_n 0 (kd_m11_led.at 13 rfl) rfl rfl ?_
        refine ok_aload_n 0 (kd_m11_led.at 14 rfl) rfl rfl ?_
        refine ok_getR (kd_m11_led.at 15 rfl) kf11_32 sh_14 rfl (kr_14_19 _) ?_
        refine ok_iload_n 3 (kd_m11_led.at 16 rfl) rfl rfl ?_
        refine ok_iald (kd_m11_led.at 17 rfl) sh_61 ?_
        refine ok_callVB (M' := m11_isMore) (as := [.int (S.1 61 v3.toNatClampNeg)]) (st := []) (kd_m11_led.at 18 rfl) kc11_272 sh_14 rfl rfl (by decide) (ok_m11_isMore (S.1 61 v3.toNatClampNeg) S) (kfit_of (by decide)) rfl (Nat.le_of_ble_eq_true rfl) (fun q4 hq4 => ?_)
        refine ok_nx (fun j52 hj52 => ?_)
        have K52 : ∀ (x5 : Int32) (S6 : kSt), kOk l G E (kZ G E kjI) m11_led (kdp (2)) (j52 x5 S6) 52 [(0, .ref 14), (1, .int c1), (2, .int x5), (3, .int v3)] [] S6 := by
          subst hj52
          intro x5 S6
          refine ok_nx (fun x7 hx7 => ?_)
          refine ok_iinc (v := x7) (lv' := [(3, .int x7), (0, .ref 14), (1, .int c1), (2, .int x5)]) 3 (kd_m11_led.at 30 rfl) rfl hx7.symm (by decide) rfl ?_
          refine ok_goto (tgt := 4) (kd_m11_led.at 31 rfl) (by decide) ?_
          refine ok_sub (lv' := [(0, .ref 14), (1, .int c1), (2, .int x5), (3, .int x7)]) [1, 2, 3, 0] rfl ?_
          exact ih x5 x7 S6
        clear hj52
        refine ok_ifb_ne (tgt := 37) (kd_m11_led.at 19 rfl) (by decide) (fun h8 => ?_) (fun h8 => ?_)
        · refine ok_iload_n 2 (kd_m11_led.at 21 rfl) rfl rfl ?_
          refine ok_iload_n 1 (kd_m11_led.at 22 rfl) rfl rfl ?_
          refine ok_icmp_ne (tgt := 49) (kd_m11_led.at 23 rfl) (by decide) (fun h9 => ?_) (fun h9 => ?_)
          · refine ok_nx (fun x10 hx10 => ?_)
            refine ok_iinc (v := x10) (lv' := [(2, .int x10), (0, .ref 14), (1, .int c1), (3, .int v3)]) 2 (kd_m11_led.at 29 rfl) rfl hx10.symm (by decide) rfl ?_
            refine ok_sub (lv' := [(0, .ref 14), (1, .int c1), (2, .int x10), (3, .int v3)]) [1, 2, 0, 3] rfl ?_
            exact K52 x10 q4.2
          · refine ok_sub (lv' := [(0, .ref 14), (3, .int v3)]) [0, 3] rfl ?_
            exact hk42 v3 q4.2
        · refine ok_goto (tgt := 52) (kd_m11_led.at 20 rfl) (by decide) ?_
          exact K52 v2 q4.2
def f_m11_led (a1 : Int32) (S : kSt) : Option (Int32 × kSt) :=
  f_m11_led_L4 
    (fun (x11 : Int32) (S12 : kSt) =>
      knx (kuI S12 14 0 0) fun S13 =>
      some (x11, S13)
    )
    (fun  (S14 : kSt) =>
      knx (kuI S14 14 0 1) fun S15 =>
      some (0, S15)
    )
    a1 kFU 0 0 S
theorem ok_m11_led {l : Launch} {G : kG} {E : kE} (a1 : Int32)  (S : kSt) : kFn l G E E kjI m11_led 2 [.ref 14, .int a1] S (f_m11_led a1 S) := by
  unfold f_m11_led
  refine kFn_of (by decide +kernel) (fun hG => Nat.le_of_ble_eq_true rfl) ?_
  show kOk _ _ _ _ _ _ _ _ [(0, .ref 14), (1, .int a1)] _ _
  refine ok_iconst (v := 0) (kd_m11_led.at 0 rfl) (by decide) ?_
  refine ok_istore_n (lv' := [(2, .int 0), (0, .ref 14), (1, .int a1)]) (kd_m11_led.at 1 rfl) rfl (by decide) rfl ?_
  refine ok_iconst (v := 0) (kd_m11_led.at 2 rfl) (by decide) ?_
  refine ok_istore_n (lv' := [(3, .int 0), (2, .int 0), (0, .ref 14), (1, .int a1)]) (kd_m11_led.at 3 rfl) rfl (by decide) rfl ?_
  refine ok_sub (lv' := [(0, .ref 14), (1, .int a1), (2, .int 0), (3, .int 0)]) [2, 3, 1, 0] rfl ?_
  refine ok_m11_led_L4 a1 _ _ (fun x11 S12 => ?_) (fun S14 => ?_) kFU 0 0 S
  · refine ok_aload_n 0 (kd_m11_led.at 24 rfl) rfl rfl ?_
    refine ok_iconst (v := 0) (kd_m11_led.at 25 rfl) (by decide) ?_
    refine ok_putI (kd_m11_led.at 26 rfl) kf11_59 sh_14 rfl rfl ?_
    refine ok_nS (fun S13 hS13 => ?_)
    refine ok_iload_n 1 (kd_m11_led.at 27 rfl) rfl rfl ?_
    exact ok_ireturn (kd_m11_led.at 28 rfl) rfl
  · refine ok_aload_n 0 (kd_m11_led.at 32 rfl) rfl rfl ?_
    refine ok_iconst (v := 1) (kd_m11_led.at 33 rfl) (by decide) ?_
    refine ok_putI (kd_m11_led.at 34 rfl) kf11_59 sh_14 rfl rfl ?_
    refine ok_nS (fun S15 hS15 => ?_)
    refine ok_iconst (v := 0) (kd_m11_led.at 35 rfl) (by decide) ?_
    exact ok_ireturn (kd_m11_led.at 36 rfl) rfl
def f_m11_size (a1 : Int32) (S : kSt) : Option (Int32 × kSt) :=
  knx (kuI S 14 0 0) fun S1 =>
  if a1 = 10 then
    some (S1.1 14 2, S1)
  else
    kgb (S1.1 14 14) fun b3 =>
    if b3 then
      (f_m11_in a1 0 6 S1).bind fun q5 =>
      if q5.1 then
        kgi a1 95 (
          some (q5.2.1 57 a1.toNatClampNeg, q5.2)
        )
      else
        if a1 = 7 then
          some (q5.2.1 61 35, q5.2)
        else
          if a1 = 8 then
            some (q5.2.1 14 22, q5.2)
          else
            if a1 = 9 then
              some (q5.2.1 14 23, q5.2)
            else
              some ((-1), q5.2)
    else
      (f_m11_in a1 0 9 S1).bind fun q10 =>
      if q10.1 then
        some (0, q10.2)
      else
        some ((-1), q10.2)
theorem ok_m11_size {l : Launch} {G : kG} {E : kE} (a1 : Int32)  (S : kSt) : kFn l G E E kjI m11_size 2 [.ref 14, .int a1] S (f_m11_size a1 S) := by
  unfold f_m11_size
  refine kFn_of (by decide +kernel) (fun hG => Nat.le_of_ble_eq_true rfl) ?_
  show kOk _ _ _ _ _ _ _ _ [(0, .ref 14), (1, .int a1)] _ _
  refine ok_aload_n 0 (kd_m11_size.at 0 rfl) rfl rfl ?_
  refine ok_iconst (v := 0) (kd_m11_size.at 1 rfl) (by decide) ?_
  refine ok_putI (kd_m11_size.at 2 rfl) kf11_59 sh_14 rfl rfl ?_
  refine ok_nS (fun S1 hS1 => ?_)
  refine ok_iload_n 1 (kd_m11_size.at 3 rfl) rfl rfl ?_
  refine ok_bipush (v := 10) (kd_m11_size.at 4 rfl) (by decide) ?_
  refine ok_icmp_ne (tgt := 16) (kd_m11_size.at 5 rfl) (by decide) (fun h2 => ?_) (fun h2 => ?_)
  · refine ok_aload_n 0 (kd_m11_size.at 9 rfl) rfl rfl ?_
    refine ok_getZ (kd_m11_size.at 10 rfl) kf11_177 sh_14 rfl (fun b3 => ?_)
    refine ok_ifb_ne (tgt := 39) (kd_m11_size.at 11 rfl) (by decide) (fun h4 => ?_) (fun h4 => ?_)
    · refine ok_iload_n 1 (kd_m11_size.at 21 rfl) rfl rfl ?_
      refine ok_iconst (v := 0) (kd_m11_size.at 22 rfl) (by decide) ?_
      refine ok_bipush (v := 6) (kd_m11_size.at 23 rfl) (by decide) ?_
      refine ok_callSB (M' := m11_in) (as := [.int a1, .int 0, .int 6]) (st := []) (kd_m11_size.at 24 rfl) kc11_146  rfl (by decide) (ok_m11_in a1 0 6 S1) (kfit_of (by decide)) rfl (Nat.le_of_ble_eq_true rfl) (fun q5 hq5 => ?_)
      refine ok_ifb_eq (tgt := 56) (kd_m11_size.at 25 rfl) (by decide) (fun h6 => ?_) (fun h6 => ?_)
      · refine ok_iload_n 1 (kd_m11_size.at 31 rfl) rfl rfl ?_
        refine ok_bipush (v := 7) (kd_m11_size.at 32 rfl) (by decide) ?_
        refine ok_icmp_ne (tgt := 72) (kd_m11_size.at 33 rfl) (by decide) (fun h7 => ?_) (fun h7 => ?_)
        · refine ok_iload_n 1 (kd_m11_size.at 39 rfl) rfl rfl ?_
          refine ok_bipush (v := 8) (kd_m11_size.at 40 rfl) (by decide) ?_
          refine ok_icmp_ne (tgt := 85) (kd_m11_size.at 41 rfl) (by decide) (fun h8 => ?_) (fun h8 => ?_)
          · refine ok_iload_n 1 (kd_m11_size.at 45 rfl) rfl rfl ?_
            refine ok_bipush (v := 9) (kd_m11_size.at 46 rfl) (by decide) ?_
            refine ok_icmp_ne (tgt := 98) (kd_m11_size.at 47 rfl) (by decide) (fun h9 => ?_) (fun h9 => ?_)
            · refine ok_iconst (v := (-1)) (kd_m11_size.at 51 rfl) (by decide) ?_
              exact ok_ireturn (kd_m11_size.at 52 rfl) rfl
            · refine ok_aload_n 0 (kd_m11_size.at 48 rfl) rfl rfl ?_
              refine ok_getI (kd_m11_size.at 49 rfl) kf11_183 sh_14 rfl ?_
              refine ok_goto (tgt := 99) (kd_m11_size.at 50 rfl) (by decide) ?_
              exact ok_ireturn (kd_m11_size.at 52 rfl) rfl
          · refine ok_aload_n 0 (kd_m11_size.at 42 rfl) rfl rfl ?_
            refine ok_getI (kd_m11_size.at 43 rfl) kf11_180 sh_14 rfl ?_
            refine ok_goto (tgt := 99) (kd_m11_size.at 44 rfl) (by decide) ?_
            exact ok_ireturn (kd_m11_size.at 52 rfl) rfl
        · refine ok_aload_n 0 (kd_m11_size.at 34 rfl) rfl rfl ?_
          refine ok_getR (kd_m11_size.at 35 rfl) kf11_32 sh_14 rfl (kr_14_19 _) ?_
          refine ok_bipush (v := 35) (kd_m11_size.at 36 rfl) (by decide) ?_
          refine ok_ialdK (j := 35) (kd_m11_size.at 37 rfl) sh_61 (by decide) (by decide) ?_
          refine ok_goto (tgt := 99) (kd_m11_size.at 38 rfl) (by decide) ?_
          exact ok_ireturn (kd_m11_size.at 52 rfl) rfl
      · refine ok_aload_n 0 (kd_m11_size.at 26 rfl) rfl rfl ?_
        refine ok_getR (kd_m11_size.at 27 rfl) kf11_20 sh_14 rfl (kr_14_15 _) ?_
        refine ok_iload_n 1 (kd_m11_size.at 28 rfl) rfl rfl ?_
        refine ok_iald (kd_m11_size.at 29 rfl) sh_57 ?_
        exact ok_ireturn (kd_m11_size.at 30 rfl) rfl
    · refine ok_iload_n 1 (kd_m11_size.at 12 rfl) rfl rfl ?_
      refine ok_iconst (v := 0) (kd_m11_size.at 13 rfl) (by decide) ?_
      refine ok_bipush (v := 9) (kd_m11_size.at 14 rfl) (by decide) ?_
      refine ok_callSB (M' := m11_in) (as := [.int a1, .int 0, .int 9]) (st := []) (kd_m11_size.at 15 rfl) kc11_146  rfl (by decide) (ok_m11_in a1 0 9 S1) (kfit_of (by decide)) rfl (Nat.le_of_ble_eq_true rfl) (fun q10 hq10 => ?_)
      refine ok_ifb_eq (tgt := 37) (kd_m11_size.at 16 rfl) (by decide) (fun h11 => ?_) (fun h11 => ?_)
      · refine ok_iconst (v := (-1)) (kd_m11_size.at 19 rfl) (by decide) ?_
        exact ok_ireturn (kd_m11_size.at 20 rfl) rfl
      · refine ok_iconst (v := 0) (kd_m11_size.at 17 rfl) (by decide) ?_
        refine ok_goto (tgt := 38) (kd_m11_size.at 18 rfl) (by decide) ?_
        exact ok_ireturn (kd_m11_size.at 20 rfl) rfl
  · refine ok_aload_n 0 (kd_m11_size.at 6 rfl) rfl rfl ?_
    refine ok_getI (kd_m11_size.at 7 rfl) kf11_65 sh_14 rfl ?_
    exact ok_ireturn (kd_m11_size.at 8 rfl) rfl
def f_m11_trouble  (S : kSt) : Option (Int32 × kSt) :=
  knx (kuI S 14 0 0) fun S1 =>
  some (S1.1 14 11, S1)
theorem ok_m11_trouble {l : Launch} {G : kG} {E : kE}   (S : kSt) : kFn l G E E kjI m11_trouble 1 [.ref 14] S (f_m11_trouble  S) := by
  unfold f_m11_trouble
  refine kFn_of (by decide +kernel) (fun hG => Nat.le_of_ble_eq_true rfl) ?_
  show kOk _ _ _ _ _ _ _ _ [(0, .ref 14)] _ _
  refine ok_aload_n 0 (kd_m11_trouble.at 0 rfl) rfl rfl ?_
  refine ok_iconst (v := 0) (kd_m11_trouble.at 1 rfl) (by decide) ?_
  refine ok_putI (kd_m11_trouble.at 2 rfl) kf11_59 sh_14 rfl rfl ?_
  refine ok_nS (fun S1 hS1 => ?_)
  refine ok_aload_n 0 (kd_m11_trouble.at 3 rfl) rfl rfl ?_
  refine ok_getI (kd_m11_trouble.at 4 rfl) kf11_62 sh_14 rfl ?_
  exact ok_ireturn (kd_m11_trouble.at 5 rfl) rfl
