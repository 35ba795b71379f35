def f_m10_bitsOfMore_L4 (w1 : Nat)  (k43 : Int32 → kSt → Option (Int32 × kSt))  : Nat → Int32 → Int32 → kSt → Option (Int32 × kSt)
  | 0, _, _, _ => none
  | n + 1, v2, v3, S =>
    if (S.1 1 2) ≤ v3 then
      k43 v2 S
    else
      if (Int32.ofNat 5) ≤ v3 then
        k43 v2 S
      else
        kgi v3 5 (
          (f_m10_isMore (S.1 w1 v3.toNatClampNeg) S).bind fun q3 =>
          knx (fun (x4 : Int32) (S5 : kSt) =>
            knx (v3 + 1) fun x6 =>
            f_m10_bitsOfMore_L4 w1 k43 n x4 x6 S5
            ) fun j37 =>
          if q3.1 then
            knx (v2 ||| (1 <<< (v3 &&& 31))) fun x8 =>
            j37 x8 q3.2
          else
            j37 v2 q3.2
        )
theorem ok_m10_bitsOfMore_L4 {l : Launch} {G : kG} {E : kE} (w1 : Nat) (hw1 : kSH[w1]? = some (1, 0, 5))   (k43 : Int32 → kSt → Option (Int32 × kSt)) (hk43 : ∀ (v2 : Int32) (S : kSt), kOk l G E (kZ G E kjI) m10_bitsOfMore (kdp (2)) (k43 v2 S) 43 [(2, .int v2)] [] S) : ∀ (n : Nat) (v2 : Int32) (v3 : Int32) (S : kSt), kOk l G E (kZ G E kjI) m10_bitsOfMore (kdp (2)) (f_m10_bitsOfMore_L4 w1 k43 n v2 v3 S) 4 [(0, .ref 0), (1, .ref w1), (2, .int v2), (3, .int v3)] [] S := by
  intro n
  induction n with
  | zero => intro v2 v3 S; exact ok_none
  | succ n ih =>
    intro v2 v3 S
    rw [f_m10_bitsOfMore_L4]
    refine ok_iload_n 3 (kd_m10_bitsOfMore.at 4 rfl) rfl rfl ?_
    refine ok_aload_n 0 (kd_m10_bitsOfMore.at 5 rfl) rfl rfl ?_
    refine ok_getR (kd_m10_bitsOfMore.at 6 rfl) kf10_16 sh_0 rfl (kr_0_2 _) ?_
    refine ok_getI (kd_m10_bitsOfMore.at 7 rfl) kf10_112 sh_1 rfl ?_
    refine ok_icmp_ge (tgt := 43) (kd_m10_bitsOfMore.at 8 rfl) (by decide) (fun h1 => ?_) (fun h1 => ?_)
    · refine ok_sub (lv' := [(2, .int v2)]) [2] rfl ?_
      exact hk43 v2 S
    · refine ok_iload_n 3 (kd_m10_bitsOfMore.at 9 rfl) rfl rfl ?_
      refine ok_aload_n 1 (kd_m10_bitsOfMore.at 10 rfl) rfl rfl ?_
      refine ok_alen (kd_m10_bitsOfMore.at 11 rfl) hw1 ?_
      refine ok_icmp_ge (tgt := 43) (kd_m10_bitsOfMore.at 12 rfl) (by decide) (fun h2 => ?_) (fun h2 => ?_)
      · refine ok_sub (lv' := [(2, .int v2)]) [2] rfl ?_
        exact hk43 v2 S
      · refine ok_aload_n 0 (kd_m10_bitsOfMore.at 13 rfl) rfl rfl ?_
        refine ok_aload_n 1 (kd_m10_bitsOfMore.at 14 rfl) rfl rfl ?_
        refine ok_iload_n 3 (kd_m10_bitsOfMore.at 15 rfl) rfl rfl ?_
        refine ok_iald (kd_m10_bitsOfMore.at 16 rfl) hw1 ?_
        refine ok_callVB (M' := m10_isMore) (as := [.int (S.1 w1 v3.toNatClampNeg)]) (st := []) (kd_m10_bitsOfMore.at 17 rfl) kc10_172 sh_0 rfl rfl (by decide) (ok_m10_isMore (S.1 w1 v3.toNatClampNeg) S) (kfit_of (by decide)) rfl (Nat.le_of_ble_eq_true rfl) (fun q3 hq3 => ?_)
        refine ok_nx (fun j37 hj37 => ?_)
        have K37 : ∀ (x4 : Int32) (S5 : kSt), kOk l G E (kZ G E kjI) m10_bitsOfMore (kdp (2)) (j37 x4 S5) 37 [(0, .ref 0), (1, .ref w1), (2, .int x4), (3, .int v3)] [] S5 := by
          subst hj37
          intro x4 S5
          refine ok_nx (fun x6 hx6 => ?_)
          refine ok_iinc (v := x6) (lv' := [(3, .int x6), (0, .ref 0), (1, .ref w1), (2, .int x4)]) 3 (kd_m10_bitsOfMore.at 25 rfl) rfl hx6.symm (by decide) rfl ?_
          refine ok_goto (tgt := 4) (kd_m10_bitsOfMore.at 26 rfl) (by decide) ?_
          refine ok_sub (lv' := [(0, .ref 0), (1, .ref w1), (2, .int x4), (3, .int x6)]) [1, 2, 3, 0] rfl ?_
          exact ih x4 x6 S5
        clear hj37
        refine ok_ifb_eq (tgt := 37) (kd_m10_bitsOfMore.at 18 rfl) (by decide) (fun h7 => ?_) (fun h7 => ?_)
        · exact K37 v2 q3.2
        · refine ok_iload_n 2 (kd_m10_bitsOfMore.at 19 rfl) rfl rfl ?_
          refine ok_iconst (v := 1) (kd_m10_bitsOfMore.at 20 rfl) (by decide) ?_
          refine ok_iload_n 3 (kd_m10_bitsOfMore.at 21 rfl) rfl rfl ?_
          refine ok_ishl (kd_m10_bitsOfMore.at 22 rfl) ?_
          refine ok_ior (kd_m10_bitsOfMore.at 23 rfl) ?_
          refine ok_topi (fun x8 hx8 => ?_)
          refine ok_istore_n (lv' := [(2, .int x8), (0, .ref 0), (1, .ref w1), (3, .int v3)]) (kd_m10_bitsOfMore.at 24 rfl) rfl (by decide) rfl ?_
          refine ok_sub (lv' := [(0, .ref 0), (1, .ref w1), (2, .int x8), (3, .int v3)]) [1, 2, 0, 3] rfl ?_
          exact K37 x8 q3.2
def f_m10_bitsOfMore (w1 : Nat) (S : kSt) : Option (Int32 × kSt) :=
  f_m10_bitsOfMore_L4 w1
    (fun (x9 : Int32) (S10 : kSt) =>
      some (x9, S10)
    )
    kFU 0 0 S
theorem ok_m10_bitsOfMore {l : Launch} {G : kG} {E : kE} (w1 : Nat) (hw1 : kSH[w1]? = some (1, 0, 5)) (S : kSt) : kFn l G E E kjI m10_bitsOfMore 2 [.ref 0, .ref w1] S (f_m10_bitsOfMore w1 S) := by
  unfold f_m10_bitsOfMore
  refine kFn_of (by decide +kernel) (fun hG => Nat.le_of_ble_eq_true rfl) ?_
  show kOk _ _ _ _ _ _ _ _ [(0, .ref 0), (1, .ref w1)] _ _
  refine ok_iconst (v := 0) (kd_m10_bitsOfMore.at 0 rfl) (by decide) ?_
  refine ok_istore_n (lv' := [(2, .int 0), (0, .ref 0), (1, .ref w1)]) (kd_m10_bitsOfMore.at 1 rfl) rfl (by decide) rfl ?_
  refine ok_iconst (v := 0) (kd_m10_bitsOfMore.at 2 rfl) (by decide) ?_
  refine ok_istore_n (lv' := [(3, .int 0), (2, .int 0), (0, .ref 0), (1, .ref w1)]) (kd_m10_bitsOfMore.at 3 rfl) rfl (by decide) rfl ?_
  refine ok_sub (lv' := [(0, .ref 0), (1, .ref w1), (2, .int 0), (3, .int 0)]) [2, 3, 1, 0] rfl ?_
  refine ok_m10_bitsOfMore_L4 w1 hw1 _ (fun x9 S10 => ?_) kFU 0 0 S
  refine ok_iload_n 0 (kd_m10_bitsOfMore.at 27 rfl) rfl rfl ?_
  exact ok_ireturn (kd_m10_bitsOfMore.at 28 rfl) rfl
def f_m10_masters (a1 : Int32) (S : kSt) : Option (Int32 × kSt) :=
  kgb (S.1 0 5) fun b1 =>
  (f_m10_upTo a1 60 S).bind fun q2 =>
  (f_m10_may b1 q2.1 q2.2).bind fun q3 =>
  if q3.1 then
    (f_m10_sayAllBehind a1 q3.2).bind fun q5 =>
    (f_m10_bitsOfMore 16 q5).bind fun q6 =>
    some (q6.1, q6.2)
  else
    some ((-1), q3.2)
theorem ok_m10_masters {l : Launch} {G : kG} {E : kE} (a1 : Int32)  (S : kSt) : kFn l G E E kjI m10_masters 6 [.ref 0, .int a1] S (f_m10_masters a1 S) := by
  unfold f_m10_masters
  refine kFn_of (by decide +kernel) (fun hG => Nat.le_of_ble_eq_true rfl) ?_
  show kOk _ _ _ _ _ _ _ _ [(0, .ref 0), (1, .int a1)] _ _
  refine ok_aload_n 0 (kd_m10_masters.at 0 rfl) rfl rfl ?_
  refine ok_aload_n 0 (kd_m10_masters.at 1 rfl) rfl rfl ?_
  refine ok_getZ (kd_m10_masters.at 2 rfl) kf10_108 sh_0 rfl (fun b1 => ?_)
  refine ok_iload_n 1 (kd_m10_masters.at 3 rfl) rfl rfl ?_
  refine ok_bipush (v := 60) (kd_m10_masters.at 4 rfl) (by decide) ?_
  refine ok_callSB (M' := m10_upTo) (as := [.int a1, .int 60]) (st := [.int (kb b1), .ref 0]) (kd_m10_masters.at 5 rfl) kc10_126  rfl (by decide) (ok_m10_upTo a1 60 S) (kfit_of (by decide)) rfl (Nat.le_of_ble_eq_true rfl) (fun q2 hq2 => ?_)
  refine ok_callVB (M' := m10_may) (as := [.int (kb b1), .int (kb q2.1)]) (st := []) (kd_m10_masters.at 6 rfl) kc10_104 sh_0 rfl rfl (by decide) (ok_m10_may b1 q2.1 q2.2) (kfit_of (by decide)) rfl (Nat.le_of_ble_eq_true rfl) (fun q3 hq3 => ?_)
  refine ok_ifb_ne (tgt := 19) (kd_m10_masters.at 7 rfl) (by decide) (fun h4 => ?_) (fun h4 => ?_)
  · refine ok_aload_n 0 (kd_m10_masters.at 10 rfl) rfl rfl ?_
    refine ok_iload_n 1 (kd_m10_masters.at 11 rfl) rfl rfl ?_
    refine ok_callVV (M' := m10_sayAllBehind) (as := [.int a1]) (st := []) (kd_m10_masters.at 12 rfl) kc10_224 sh_0 rfl rfl (by decide) (ok_m10_sayAllBehind a1 q3.2) (kfit_of (by decide)) rfl (Nat.le_of_ble_eq_true rfl) (fun q5 hq5 => ?_)
    refine ok_aload_n 0 (kd_m10_masters.at 13 rfl) rfl rfl ?_
    refine ok_aload_n 0 (kd_m10_masters.at 14 rfl) rfl rfl ?_
    refine ok_getR (kd_m10_masters.at 15 rfl) kf10_61 sh_0 rfl (kr_0_12 _) ?_
    refine ok_callVI (M' := m10_bitsOfMore) (as := [.ref 16]) (st := []) (kd_m10_masters.at 16 rfl) kc10_236 sh_0 rfl rfl (by decide) (ok_m10_bitsOfMore 16 sh_16 q5) (kfit_of (by decide)) rfl (Nat.le_of_ble_eq_true rfl) (fun q6 hq6 => ?_)
    exact ok_ireturn (kd_m10_masters.at 17 rfl) rfl
  · refine ok_iconst (v := (-1)) (kd_m10_masters.at 8 rfl) (by decide) ?_
    exact ok_ireturn (kd_m10_masters.at 9 rfl) rfl
def f_m10_sayingByEvery (a1 : Int32) (a2 : Int32) (a3 : Int32) (S : kSt) : Option (Int32 × kSt) :=
  (f_m9_begin 6 a1 S).bind fun q1 =>
  knx (kuI q1 6 3 a2) fun S2 =>
  (f_m9_goOn 6 a3 S2).bind fun q3 =>
  some (q3.1 6 4, q3)
theorem ok_m10_sayingByEvery {l : Launch} {G : kG} {E : kE} (a1 : Int32) (a2 : Int32) (a3 : Int32)  (S : kSt) : kFn l G E E kjI m10_sayingByEvery 4 [.ref 0, .int a1, .int a2, .int a3] S (f_m10_sayingByEvery a1 a2 a3 S) := by
  unfold f_m10_sayingByEvery
  refine kFn_of (by decide +kernel) (fun hG => Nat.le_of_ble_eq_true rfl) ?_
  show kOk _ _ _ _ _ _ _ _ [(0, .ref 0), (1, .int a1), (2, .int a2), (3, .int a3)] _ _
  refine ok_aload_n 0 (kd_m10_sayingByEvery.at 0 rfl) rfl rfl ?_
  refine ok_getR (kd_m10_sayingByEvery.at 1 rfl) kf10_54 sh_0 rfl (kr_0_10 _) ?_
  refine ok_aload_n 0 (kd_m10_sayingByEvery.at 2 rfl) rfl rfl ?_
  refine ok_getR (kd_m10_sayingByEvery.at 3 rfl) kf10_16 sh_0 rfl (kr_0_2 _) ?_
  refine ok_aload_n 0 (kd_m10_sayingByEvery.at 4 rfl) rfl rfl ?_
  refine ok_getR (kd_m10_sayingByEvery.at 5 rfl) kf10_35 sh_0 rfl (kr_0_6 _) ?_
  refine ok_iload_n 1 (kd_m10_sayingByEvery.at 6 rfl) rfl rfl ?_
  refine ok_callVV (M' := m9_begin) (as := [.ref 1, .ref 4, .int a1]) (st := []) (kd_m10_sayingByEvery.at 7 rfl) kc10_175 sh_6 rfl rfl (by decide) (ok_m9_begin 6 a1 sh_6 S) (kfit_of (by decide)) rfl (Nat.le_of_ble_eq_true rfl) (fun q1 hq1 => ?_)
  refine ok_aload_n 0 (kd_m10_sayingByEvery.at 8 rfl) rfl rfl ?_
  refine ok_getR (kd_m10_sayingByEvery.at 9 rfl) kf10_54 sh_0 rfl (kr_0_10 _) ?_
  refine ok_iload_n 2 (kd_m10_sayingByEvery.at 10 rfl) rfl rfl ?_
  refine ok_putI (kd_m10_sayingByEvery.at 11 rfl) kf10_240 sh_6 rfl rfl ?_
  refine ok_nS (fun S2 hS2 => ?_)
  refine ok_aload_n 0 (kd_m10_sayingByEvery.at 12 rfl) rfl rfl ?_
  refine ok_getR (kd_m10_sayingByEvery.at 13 rfl) kf10_54 sh_0 rfl (kr_0_10 _) ?_
  refine ok_iload_n 3 (kd_m10_sayingByEvery.at 14 rfl) rfl rfl ?_
  refine ok_callVV (M' := m9_goOn) (as := [.int a3]) (st := []) (kd_m10_sayingByEvery.at 15 rfl) kc10_178 sh_6 rfl rfl (by decide) (ok_m9_goOn 6 a3 sh_6 S2) (kfit_of (by decide)) rfl (Nat.le_of_ble_eq_true rfl) (fun q3 hq3 => ?_)
  refine ok_aload_n 0 (kd_m10_sayingByEvery.at 16 rfl) rfl rfl ?_
  refine ok_getR (kd_m10_sayingByEvery.at 17 rfl) kf10_54 sh_0 rfl (kr_0_10 _) ?_
  refine ok_getI (kd_m10_sayingByEvery.at 18 rfl) kf10_181 sh_6 rfl ?_
  exact ok_ireturn (kd_m10_sayingByEvery.at 19 rfl) rfl
def f_m10_bestEvery_L8   (k45 : Int32 → kSt → Option (Int32 × kSt)) (c1 : Int32) (c2 : Int32) : Nat → Int32 → Int32 → Int32 → kSt → Option (Int32 × kSt)
  | 0, _, _, _, _ => none
  | n + 1, v3, v4, v5, S =>
    if 9 < v5 then
      k45 v3 S
    else
      (f_m10_sayingByEvery c1 v5 c2 S).bind fun q2 =>
      knx (fun (x3 : Int32) (x4 : Int32) (S5 : kSt) =>
        knx (v5 + 1) fun x6 =>
        f_m10_bestEvery_L8 k45 c1 c2 n x3 x4 x6 S5
        ) fun j39 =>
      if q2.1 ≤ v4 then
        j39 v3 v4 q2.2
      else
        j39 v5 q2.1 q2.2
theorem ok_m10_bestEvery_L8 {l : Launch} {G : kG} {E : kE}    (c1 : Int32) (c2 : Int32) (k45 : Int32 → kSt → Option (Int32 × kSt)) (hk45 : ∀ (v3 : Int32) (S : kSt), kOk l G E (kZ G E kjI) m10_bestEvery (kdp (5)) (k45 v3 S) 45 [(3, .int v3)] [] S) : ∀ (n : Nat) (v3 : Int32) (v4 : Int32) (v5 : Int32) (S : kSt), kOk l G E (kZ G E kjI) m10_bestEvery (kdp (5)) (f_m10_bestEvery_L8 k45 c1 c2 n v3 v4 v5 S) 8 [(0, .ref 0), (1, .int c1), (2, .int c2), (3, .int v3), (4, .int v4), (5, .int v5)] [] S := by
  intro n
  induction n with
  | zero => intro v3 v4 v5 S; exact ok_none
  | succ n ih =>
    intro v3 v4 v5 S
    rw [f_m10_bestEvery_L8]
    refine ok_iload 5 (kd_m10_bestEvery.at 6 rfl) rfl ?_
    refine ok_bipush (v := 9) (kd_m10_bestEvery.at 7 rfl) (by decide) ?_
    refine ok_icmp_gt (tgt := 45) (kd_m10_bestEvery.at 8 rfl) (by decide) (fun h1 => ?_) (fun h1 => ?_)
    · refine ok_sub (lv' := [(3, .int v3)]) [3] rfl ?_
      exact hk45 v3 S
    · refine ok_aload_n 0 (kd_m10_bestEvery.at 9 rfl) rfl rfl ?_
      refine ok_iload_n 1 (kd_m10_bestEvery.at 10 rfl) rfl rfl ?_
      refine ok_iload 5 (kd_m10_bestEvery.at 11 rfl) rfl ?_
      refine ok_iload_n 2 (kd_m10_bestEvery.at 12 rfl) rfl rfl ?_
      refine ok_callVI (M' := m10_sayingByEvery) (as := [.int c1, .int v5, .int c2]) (st := []) (kd_m10_bestEvery.at 13 rfl) kc10_243 sh_0 rfl rfl (by decide) (ok_m10_sayingByEvery c1 v5 c2 S) (kfit_of (by decide)) rfl (Nat.le_of_ble_eq_true rfl) (fun q2 hq2 => ?_)
      refine ok_istore (lv' := [(6, .int q2.1), (0, .ref 0), (1, .int c1), (2, .int c2), (3, .int v3), (4, .int v4), (5, .int v5)]) (kd_m10_bestEvery.at 14 rfl) (by decide) rfl ?_
      refine ok_iload 0 (kd_m10_bestEvery.at 15 rfl) rfl ?_
      refine ok_iload 5 (kd_m10_bestEvery.at 16 rfl) rfl ?_
      refine ok_nx (fun j39 hj39 => ?_)
      have K39 : ∀ (x3 : Int32) (x4 : Int32) (S5 : kSt), kOk l G E (kZ G E kjI) m10_bestEvery (kdp (5)) (j39 x3 x4 S5) 39 [(0, .ref 0), (1, .int c1), (2, .int c2), (3, .int x3), (4, .int x4), (5, .int v5)] [] S5 := by
        subst hj39
        intro x3 x4 S5
        refine ok_nx (fun x6 hx6 => ?_)
        refine ok_iinc (v := x6) (lv' := [(5, .int x6), (0, .ref 0), (1, .int c1), (2, .int c2), (3, .int x3), (4, .int x4)]) 5 (kd_m10_bestEvery.at 22 rfl) rfl hx6.symm (by decide) rfl ?_
        refine ok_goto (tgt := 8) (kd_m10_bestEvery.at 23 rfl) (by decide) ?_
        refine ok_sub (lv' := [(0, .ref 0), (1, .int c1), (2, .int c2), (3, .int x3), (4, .int x4), (5, .int x6)]) [1, 2, 3, 4, 5, 0] rfl ?_
        exact ih x3 x4 x6 S5
      clear hj39
      refine ok_icmp_le (tgt := 39) (kd_m10_bestEvery.at 17 rfl) (by decide) (fun h7 => ?_) (fun h7 => ?_)
      · refine ok_sub (lv' := [(0, .ref 0), (1, .int c1), (2, .int c2), (3, .int v3), (4, .int v4), (5, .int v5)]) [1, 2, 3, 4, 5, 6] rfl ?_
        exact K39 v3 v4 q2.2
      · refine ok_iload 0 (kd_m10_bestEvery.at 18 rfl) rfl ?_
        refine ok_istore (lv' := [(4, .int q2.1), (6, .int q2.1), (0, .ref 0), (1, .int c1), (2, .int c2), (3, .int v3), (5, .int v5)]) (kd_m10_bestEvery.at 19 rfl) (by decide) rfl ?_
        refine ok_iload 6 (kd_m10_bestEvery.at 20 rfl) rfl ?_
        refine ok_istore_n (lv' := [(3, .int v5), (4, .int q2.1), (6, .int q2.1), (0, .ref 0), (1, .int c1), (2, .int c2), (5, .int v5)]) (kd_m10_bestEvery.at 21 rfl) rfl (by decide) rfl ?_
        refine ok_sub (lv' := [(0, .ref 0), (1, .int c1), (2, .int c2), (3, .int v5), (4, .int q2.1), (5, .int v5)]) [3, 4, 5, 0, 1, 6] rfl ?_
        exact K39 v5 q2.1 q2.2
def f_m10_bestEvery (a1 : Int32) (a2 : Int32) (S : kSt) : Option (Int32 × kSt) :=
  f_m10_bestEvery_L8 
    (fun (x8 : Int32) (S9 : kSt) =>
      some (x8, S9)
    )
    a1 a2 kFU 0 (-1) 0 S
theorem ok_m10_bestEvery {l : Launch} {G : kG} {E : kE} (a1 : Int32) (a2 : Int32)  (S : kSt) : kFn l G E E kjI m10_bestEvery 5 [.ref 0, .int a1, .int a2] S (f_m10_bestEvery a1 a2 S) := by
  unfold f_m10_bestEvery
  refine kFn_of (by decide +kernel) (fun hG => Nat.le_of_ble_eq_true rfl) ?_
  show kOk _ _ _ _ _ _ _ _ [(0, .ref 0), (1, .int a1), (2, .int a2)] _ _
  refine ok_iconst (v := 0) (kd_m10_bestEvery.at 0 rfl) (by decide) ?_
  refine ok_istore_n (lv' := [(3, .int 0), (0, .ref 0), (1, .int a1), (2, .int a2)]) (kd_m10_bestEvery.at 1 rfl) rfl (by decide) rfl ?_
  refine ok_iconst (v := (-1)) (kd_m10_bestEvery.at 2 rfl) (by decide) ?_
  refine ok_istore (lv' := [(4, .int (-1)), (3, .int 0), (0, .ref 0), (1, .int a1), (2, .int a2)]) (kd_m10_bestEvery.at 3 rfl) (by decide) rfl ?_
  refine ok_iconst (v := 0) (kd_m10_bestEvery.at 4 rfl) (by decide) ?_
  refine ok_istore (lv' := [(5, .int 0), (4, .int (-1)), (3, .int 0), (0, .ref 0), (1, .int a1), (2, .int a2)]) (kd_m10_bestEvery.at 5 rfl) (by decide) rfl ?_
  refine ok_sub (lv' := [(0, .ref 0), (1, .int a1), (2, .int a2), (3, .int 0), (4, .int (-1)), (5, .int 0)]) [3, 4, 5, 2, 1, 0] rfl ?_
  refine ok_m10_bestEvery_L8 a1 a2 _ (fun x8 S9 => ?_) kFU 0 (-1) 0 S
  refine ok_iload_n 0 (kd_m10_bestEvery.at 24 rfl) rfl rfl ?_
  exact ok_ireturn (kd_m10_bestEvery.at 25 rfl) rfl
def f_m10_everyFor (a1 : Int32) (a2 : Int32) (S : kSt) : Option (Int32 × kSt) :=
  (f_m10_isPair a1 S).bind fun q1 =>
  (f_m10_upTo a2 60 q1.2).bind fun q2 =>
  (f_m10_may q1.1 q2.1 q2.2).bind fun q3 =>
  if q3.1 then
    (f_m10_bestEvery a1 a2 q3.2).bind fun q5 =>
    some (q5.1, q5.2)
  else
    some ((-1), q3.2)
theorem ok_m10_everyFor {l : Launch} {G : kG} {E : kE} (a1 : Int32) (a2 : Int32)  (S : kSt) : kFn l G E E kjI m10_everyFor 6 [.ref 0, .int a1, .int a2] S (f_m10_everyFor a1 a2 S) := by
  unfold f_m10_everyFor
  refine kFn_of (by decide +kernel) (fun hG => Nat.le_of_ble_eq_true rfl) ?_
  show kOk _ _ _ _ _ _ _ _ [(0, .ref 0), (1, .int a1), (2, .int a2)] _ _
  refine ok_aload_n 0 (kd_m10_everyFor.at 0 rfl) rfl rfl ?_
  refine ok_aload_n 0 (kd_m10_everyFor.at 1 rfl) rfl rfl ?_
  refine ok_iload_n 1 (kd_m10_everyFor.at 2 rfl) rfl rfl ?_
  refine ok_callVB (M' := m10_isPair) (as := [.int a1]) (st := [.ref 0]) (kd_m10_everyFor.at 3 rfl) kc10_115 sh_0 rfl rfl (by decide) (ok_m10_isPair a1 S) (kfit_of (by decide)) rfl (Nat.le_of_ble_eq_true rfl) (fun q1 hq1 => ?_)
  refine ok_iload_n 2 (kd_m10_everyFor.at 4 rfl) rfl rfl ?_
  refine ok_bipush (v := 60) (kd_m10_everyFor.at 5 rfl) (by decide) ?_
  refine ok_callSB (M' := m10_upTo) (as := [.int a2, .int 60]) (st := [.int (kb q1.1), .ref 0]) (kd_m10_everyFor.at 6 rfl) kc10_126  rfl (by decide) (ok_m10_upTo a2 60 q1.2) (kfit_of (by decide)) rfl (Nat.le_of_ble_eq_true rfl) (fun q2 hq2 => ?_)
  refine ok_callVB (M' := m10_may) (as := [.int (kb q1.1), .int (kb q2.1)]) (st := []) (kd_m10_everyFor.at 7 rfl) kc10_104 sh_0 rfl rfl (by decide) (ok_m10_may q1.1 q2.1 q2.2) (kfit_of (by decide)) rfl (Nat.le_of_ble_eq_true rfl) (fun q3 hq3 => ?_)
  refine ok_ifb_eq (tgt := 27) (kd_m10_everyFor.at 8 rfl) (by decide) (fun h4 => ?_) (fun h4 => ?_)
  · refine ok_iconst (v := (-1)) (kd_m10_everyFor.at 14 rfl) (by decide) ?_
    exact ok_ireturn (kd_m10_everyFor.at 15 rfl) rfl
  · refine ok_aload_n 0 (kd_m10_everyFor.at 9 rfl) rfl rfl ?_
    refine ok_iload_n 1 (kd_m10_everyFor.at 10 rfl) rfl rfl ?_
    refine ok_iload_n 2 (kd_m10_everyFor.at 11 rfl) rfl rfl ?_
    refine ok_callVI (M' := m10_bestEvery) (as := [.int a1, .int a2]) (st := []) (kd_m10_everyFor.at 12 rfl) kc10_247 sh_0 rfl rfl (by decide) (ok_m10_bestEvery a1 a2 q3.2) (kfit_of (by decide)) rfl (Nat.le_of_ble_eq_true rfl) (fun q5 hq5 => ?_)
    refine ok_goto (tgt := 28) (kd_m10_everyFor.at 13 rfl) (by decide) ?_
    exact ok_ireturn (kd_m10_everyFor.at 15 rfl) rfl
def f_m10_everySays (a1 : Int32) (a2 : Int32) (S : kSt) : Option (Int32 × kSt) :=
  (f_m10_isPair a1 S).bind fun q1 =>
  (f_m10_upTo a2 60 q1.2).bind fun q2 =>
  (f_m10_may q1.1 q2.1 q2.2).bind fun q3 =>
  if q3.1 then
    (f_m10_bestEvery a1 a2 q3.2).bind fun q5 =>
    (f_m10_sayingByEvery a1 q5.1 a2 q5.2).bind fun q6 =>
    some (q6.1, q6.2)
  else
    some ((-1), q3.2)
theorem ok_m10_everySays {l : Launch} {G : kG} {E : kE} (a1 : Int32) (a2 : Int32)  (S : kSt) : kFn l G E E kjI m10_everySays 6 [.ref 0, .int a1, .int a2] S (f_m10_everySays a1 a2 S) := by
  unfold f_m10_everySays
  refine kFn_of (by decide +kernel) (fun hG => Nat.le_of_ble_eq_true rfl) ?_
  show kOk _ _ _ _ _ _ _ _ [(0, .ref 0), (1, .int a1), (2, .int a2)] _ _
  refine ok_aload_n 0 (kd_m10_everySays.at 0 rfl) rfl rfl ?_
  refine ok_aload_n 0 (kd_m10_everySays.at 1 rfl) rfl rfl ?_
  refine ok_iload_n 1 (kd_m10_everySays.at 2 rfl) rfl rfl ?_
  refine ok_callVB (M' := m10_isPair) (as := [.int a1]) (st := [.ref 0]) (kd_m10_everySays.at 3 rfl) kc10_115 sh_0 rfl rfl (by decide) (ok_m10_isPair a1 S) (kfit_of (by decide)) rfl (Nat.le_of_ble_eq_true rfl) (fun q1 hq1 => ?_)
  refine ok_iload_n 2 (kd_m10_everySays.at 4 rfl) rfl rfl ?_
  refine ok_bipush (v := 60) (kd_m10_everySays.at 5 rfl) (by decide) ?_
  refine ok_callSB (M' := m10_upTo) (as := [.int a2, .int 60]) (st := [.int (kb q1.1), .ref 0]) (kd_m10_everySays.at 6 rfl) kc10_126  rfl (by decide) (ok_m10_upTo a2 60 q1.2) (kfit_of (by decide)) rfl (Nat.le_of_ble_eq_true rfl) (fun q2 hq2 => ?_)
  refine ok_callVB (M' := m10_may) (as := [.int (kb q1.1), .int (kb q2.1)]) (st := []) (kd_m10_everySays.at 7 rfl) kc10_104 sh_0 rfl rfl (by decide) (ok_m10_may q1.1 q2.1 q2.2) (kfit_of (by decide)) rfl (Nat.le_of_ble_eq_true rfl) (fun q3 hq3 => ?_)
  refine ok_ifb_eq (tgt := 33) (kd_m10_everySays.at 8 rfl) (by decide) (fun h4 => ?_) (fun h4 => ?_)
  · refine ok_iconst (v := (-1)) (kd_m10_everySays.at 18 rfl) (by decide) ?_
    exact ok_ireturn (kd_m10_everySays.at 19 rfl) rfl
  · refine ok_aload_n 0 (kd_m10_everySays.at 9 rfl) rfl rfl ?_
    refine ok_iload_n 1 (kd_m10_everySays.at 10 rfl) rfl rfl ?_
    refine ok_aload_n 0 (kd_m10_everySays.at 11 rfl) rfl rfl ?_
    refine ok_iload_n 1 (kd_m10_everySays.at 12 rfl) rfl rfl ?_
    refine ok_iload_n 2 (kd_m10_everySays.at 13 rfl) rfl rfl ?_
    refine ok_callVI (M' := m10_bestEvery) (as := [.int a1, .int a2]) (st := [.int a1, .ref 0]) (kd_m10_everySays.at 14 rfl) kc10_247 sh_0 rfl rfl (by decide) (ok_m10_bestEvery a1 a2 q3.2) (kfit_of (by decide)) rfl (Nat.le_of_ble_eq_true rfl) (fun q5 hq5 => ?_)
    refine ok_iload_n 2 (kd_m10_everySays.at 15 rfl) rfl rfl ?_
    refine ok_callVI (M' := m10_sayingByEvery) (as := [.int a1, .int q5.1, .int a2]) (st := []) (kd_m10_everySays.at 16 rfl) kc10_243 sh_0 rfl rfl (by decide) (ok_m10_sayingByEvery a1 q5.1 a2 q5.2) (kfit_of (by decide)) rfl (Nat.le_of_ble_eq_true rfl) (fun q6 hq6 => ?_)
    refine ok_goto (tgt := 34) (kd_m10_everySays.at 17 rfl) (by decide) ?_
    exact ok_ireturn (kd_m10_everySays.at 19 rfl) rfl
def f_m10_everyNever_L16   (k58 : Int32 → kSt → Option (Int32 × kSt)) (k66 : kSt → Option (Int32 × kSt)) (c1 : Int32) : Nat → Int32 → kSt → Option (Int32 × kSt)
  | 0, _, _ => none
  | n + 1, v2, S =>
    if 9 < v2 then
      k66  S
    else
      (f_m9_begin 6 c1 S).bind fun q5 =>
      knx (kuI q5 6 3 v2) fun S6 =>
      (f_m9_countMore 6 60 S6).bind fun q7 =>
      if q7.1 = 0 then
        k58 v2 q7.2
      else
        knx (v2 + 1) fun x9 =>
        f_m10_everyNever_L16 k58 k66 c1 n x9 q7.2
theorem ok_m10_everyNever_L16 {l : Launch} {G : kG} {E : kE}    (c1 : Int32) (k58 : Int32 → kSt → Option (Int32 × kSt)) (k66 : kSt → Option (Int32 × kSt)) (hk58 : ∀ (v2 : Int32) (S : kSt), kOk l G E (kZ G E kjI) m10_everyNever (kdp (4)) (k58 v2 S) 58 [(2, .int v2)] [] S) (hk66 : ∀  (S : kSt), kOk l G E (kZ G E kjI) m10_everyNever (kdp (4)) (k66  S) 66 [] [] S) : ∀ (n : Nat) (v2 : Int32) (S : kSt), kOk l G E (kZ G E kjI) m10_everyNever (kdp (4)) (f_m10_everyNever_L16 k58 k66 c1 n v2 S) 16 [(0, .ref 0), (1, .int c1), (2, .int v2)] [] S := by
  intro n
  induction n with
  | zero => intro v2 S; exact ok_none
  | succ n ih =>
    intro v2 S
    rw [f_m10_everyNever_L16]
    refine ok_iload_n 2 (kd_m10_everyNever.at 10 rfl) rfl rfl ?_
    refine ok_bipush (v := 9) (kd_m10_everyNever.at 11 rfl) (by decide) ?_
    refine ok_icmp_gt (tgt := 66) (kd_m10_everyNever.at 12 rfl) (by decide) (fun h4 => ?_) (fun h4 => ?_)
    · refine ok_sub (lv' := []) [] rfl ?_
      exact hk66  S
    · refine ok_aload_n 0 (kd_m10_everyNever.at 13 rfl) rfl rfl ?_
      refine ok_getR (kd_m10_everyNever.at 14 rfl) kf10_54 sh_0 rfl (kr_0_10 _) ?_
      refine ok_aload_n 0 (kd_m10_everyNever.at 15 rfl) rfl rfl ?_
      refine ok_getR (kd_m10_everyNever.at 16 rfl) kf10_16 sh_0 rfl (kr_0_2 _) ?_
      refine ok_aload_n 0 (kd_m10_everyNever.at 17 rfl) rfl rfl ?_
      refine ok_getR (kd_m10_everyNever.at 18 rfl) kf10_35 sh_0 rfl (kr_0_6 _) ?_
      refine ok_iload_n 1 (kd_m10_everyNever.at 19 rfl) rfl rfl ?_
      refine ok_callVV (M' := m9_begin) (as := [.ref 1, .ref 4, .int c1]) (st := []) (kd_m10_everyNever.at 20 rfl) kc10_175 sh_6 rfl rfl (by decide) (ok_m9_begin 6 c1 sh_6 S) (kfit_of (by decide)) rfl (Nat.le_of_ble_eq_true rfl) (fun q5 hq5 => ?_)
      refine ok_aload_n 0 (kd_m10_everyNever.at 21 rfl) rfl rfl ?_
      refine ok_getR (kd_m10_everyNever.at 22 rfl) kf10_54 sh_0 rfl (kr_0_10 _) ?_
      refine ok_iload_n 2 (kd_m10_everyNever.at 23 rfl) rfl rfl ?_
      refine ok_putI (kd_m10_everyNever.at 24 rfl) kf10_240 sh_6 rfl rfl ?_
      refine ok_nS (fun S6 hS6 => ?_)
      refine ok_aload_n 0 (kd_m10_everyNever.at 25 rfl) rfl rfl ?_
      refine ok_getR (kd_m10_everyNever.at 26 rfl) kf10_54 sh_0 rfl (kr_0_10 _) ?_
      refine ok_bipush (v := 60) (kd_m10_everyNever.at 27 rfl) (by decide) ?_
      refine ok_callVI (M' := m9_countMore) (as := [.int 60]) (st := []) (kd_m10_everyNever.at 28 rfl) kc10_194 sh_6 rfl rfl (by decide) (ok_m9_countMore 6 60 sh_6 S6) (kfit_of (by decide)) rfl (Nat.le_of_ble_eq_true rfl) (fun q7 hq7 => ?_)
      refine ok_if_ne (tgt := 60) (kd_m10_everyNever.at 29 rfl) (by decide) (fun h8 => ?_) (fun h8 => ?_)
      · refine ok_nx (fun x9 hx9 => ?_)
        refine ok_iinc (v := x9) (lv' := [(2, .int x9), (0, .ref 0), (1, .int c1)]) 2 (kd_m10_everyNever.at 32 rfl) rfl hx9.symm (by decide) rfl ?_
        refine ok_goto (tgt := 16) (kd_m10_everyNever.at 33 rfl) (by decide) ?_
        refine ok_sub (lv' := [(0, .ref 0), (1, .int c1), (2, .int x9)]) [1, 2, 0] rfl ?_
        exact ih x9 q7.2
      · refine ok_sub (lv' := [(2, .int v2)]) [2] rfl ?_
        exact hk58 v2 q7.2
def f_m10_everyNever (a1 : Int32) (S : kSt) : Option (Int32 × kSt) :=
  (f_m10_isPair a1 S).bind fun q1 =>
  (f_m10_may_ q1.1 q1.2).bind fun q2 =>
  if q2.1 then
    f_m10_everyNever_L16 
      (fun (x10 : Int32) (S11 : kSt) =>
        some (x10, S11)
      )
      (fun  (S12 : kSt) =>
        some ((-2), S12)
      )
      a1 kFU 0 q2.2
  else
    some ((-1), q2.2)
theorem ok_m10_everyNever {l : Launch} {G : kG} {E : kE} (a1 : Int32)  (S : kSt) : kFn l G E E kjI m10_everyNever 4 [.ref 0, .int a1] S (f_m10_everyNever a1 S) := by
  unfold f_m10_everyNever
  refine kFn_of (by decide +kernel) (fun hG => Nat.le_of_ble_eq_true rfl) ?_
  show kOk _ _ _ _ _ _ _ _ [(0, .ref 0), (1, .int a1)] _ _
  refine ok_aload_n 0 (kd_m10_everyNever.at 0 rfl) rfl rfl ?_
  refine ok_aload_n 0 (kd_m10_everyNever.at 1 rfl) rfl rfl ?_
  refine ok_iload_n 1 (kd_m10_everyNever.at 2 rfl) rfl rfl ?_
  refine ok_callVB (M' := m10_isPair) (as := [.int a1]) (st := [.ref 0]) (kd_m10_everyNever.at 3 rfl) kc10_115 sh_0 rfl rfl (by decide) (ok_m10_isPair a1 S) (kfit_of (by decide)) rfl (Nat.le_of_ble_eq_true rfl) (fun q1 hq1 => ?_)
  refine ok_callVB (M' := m10_may_) (as := [.int (kb q1.1)]) (st := []) (kd_m10_everyNever.at 4 rfl) kc10_154 sh_0 rfl rfl (by decide) (ok_m10_may_ q1.1 q1.2) (kfit_of (by decide)) rfl (Nat.le_of_ble_eq_true rfl) (fun q2 hq2 => ?_)
  refine ok_ifb_ne (tgt := 14) (kd_m10_everyNever.at 5 rfl) (by decide) (fun h3 => ?_) (fun h3 => ?_)
  · refine ok_iconst (v := 0) (kd_m10_everyNever.at 8 rfl) (by decide) ?_
    refine ok_istore_n (lv' := [(2, .int 0), (0, .ref 0), (1, .int a1)]) (kd_m10_everyNever.at 9 rfl) rfl (by decide) rfl ?_
    refine ok_sub (lv' := [(0, .ref 0), (1, .int a1), (2, .int 0)]) [1, 2, 0] rfl ?_
    refine ok_m10_everyNever_L16 a1 _ _ (fun x10 S11 => ?_) (fun S12 => ?_) kFU 0 q2.2
    · refine ok_iload_n 0 (kd_m10_everyNever.at 30 rfl) rfl rfl ?_
      exact ok_ireturn (kd_m10_everyNever.at 31 rfl) rfl
    · refine ok_bipush (v := (-2)) (kd_m10_everyNever.at 34 rfl) (by decide) ?_
      exact ok_ireturn (kd_m10_everyNever.at 35 rfl) rfl
  · refine ok_iconst (v := (-1)) (kd_m10_everyNever.at 6 rfl) (by decide) ?_
    exact ok_ireturn (kd_m10_everyNever.at 7 rfl) rfl
def f_m10_stepFor_L22   (k70 : Int32 → kSt → Option (Int32 × kSt)) (k78 : kSt → Option (Int32 × kSt)) (c1 : Int32) (c2 : Int32) : Nat → Int32 → kSt → Option (Int32 × kSt)
  | 0, _, _ => none
  | n + 1, v3, S =>
    if 20 < v3 then
      k78  S
    else
      (f_m9_begin 6 c1 S).bind fun q6 =>
      knx (kuI q6 6 2 v3) fun S7 =>
      (f_m9_goOn 6 c2 S7).bind fun q8 =>
      (f_m9_isMore 6 q8).bind fun q9 =>
      if q9.1 then
        k70 v3 q9.2
      else
        knx (v3 + 1) fun x11 =>
        f_m10_stepFor_L22 k70 k78 c1 c2 n x11 q9.2
theorem ok_m10_stepFor_L22 {l : Launch} {G : kG} {E : kE}    (c1 : Int32) (c2 : Int32) (k70 : Int32 → kSt → Option (Int32 × kSt)) (k78 : kSt → Option (Int32 × kSt)) (hk70 : ∀ (v3 : Int32) (S : kSt), kOk l G E (kZ G E kjI) m10_stepFor (kdp (4)) (k70 v3 S) 70 [(3, .int v3)] [] S) (hk78 : ∀  (S : kSt), kOk l G E (kZ G E kjI) m10_stepFor (kdp (4)) (k78  S) 78 [] [] S) : ∀ (n : Nat) (v3 : Int32) (S : kSt), kOk l G E (kZ G E kjI) m10_stepFor (kdp (4)) (f_m10_stepFor_L22 k70 k78 c1 c2 n v3 S) 22 [(0, .ref 0), (1, .int c1), (2, .int c2), (3, .int v3)] [] S := by
  intro n
  induction n with
  | zero => intro v3 S; exact ok_none
  | succ n ih =>
    intro v3 S
    rw [f_m10_stepFor_L22]
    refine ok_iload_n 3 (kd_m10_stepFor.at 13 rfl) rfl rfl ?_
    refine ok_bipush (v := 20) (kd_m10_stepFor.at 14 rfl) (by decide) ?_
    refine ok_icmp_gt (tgt := 78) (kd_m10_stepFor.at 15 rfl) (by decide) (fun h5 => ?_) (fun h5 => ?_)
    · refine ok_sub (lv' := []) [] rfl ?_
      exact hk78  S
    · refine ok_aload_n 0 (kd_m10_stepFor.at 16 rfl) rfl rfl ?_
      refine ok_getR (kd_m10_stepFor.at 17 rfl) kf10_54 sh_0 rfl (kr_0_10 _) ?_
      refine ok_aload_n 0 (kd_m10_stepFor.at 18 rfl) rfl rfl ?_
      refine ok_getR (kd_m10_stepFor.at 19 rfl) kf10_16 sh_0 rfl (kr_0_2 _) ?_
      refine ok_aload_n 0 (kd_m10_stepFor.at 20 rfl) rfl rfl ?_
      refine ok_getR (kd_m10_stepFor.at 21 rfl) kf10_35 sh_0 rfl (kr_0_6 _) ?_
      refine ok_iload_n 1 (kd_m10_stepFor.at 22 rfl) rfl rfl ?_
      refine ok_callVV (M' := m9_begin) (as := [.ref 1, .ref 4, .int c1]) (st := []) (kd_m10_stepFor.at 23 rfl) kc10_175 sh_6 rfl rfl (by decide) (ok_m9_begin 6 c1 sh_6 S) (kfit_of (by decide)) rfl (Nat.le_of_ble_eq_true rfl) (fun q6 hq6 => ?_)
      refine ok_aload_n 0 (kd_m10_stepFor.at 24 rfl) rfl rfl ?_
      refine ok_getR (kd_m10_stepFor.at 25 rfl) kf10_54 sh_0 rfl (kr_0_10 _) ?_
      refine ok_iload_n 3 (kd_m10_stepFor.at 26 rfl) rfl rfl ?_
      refine ok_putI (kd_m10_stepFor.at 27 rfl) kf10_250 sh_6 rfl rfl ?_
      refine ok_nS (fun S7 hS7 => ?_)
      refine ok_aload_n 0 (kd_m10_stepFor.at 28 rfl) rfl rfl ?_
      refine ok_getR (kd_m10_stepFor.at 29 rfl) kf10_54 sh_0 rfl (kr_0_10 _) ?_
      refine ok_iload_n 2 (kd_m10_stepFor.at 30 rfl) rfl rfl ?_
      refine ok_callVV (M' := m9_goOn) (as := [.int c2]) (st := []) (kd_m10_stepFor.at 31 rfl) kc10_178 sh_6 rfl rfl (by decide) (ok_m9_goOn 6 c2 sh_6 S7) (kfit_of (by decide)) rfl (Nat.le_of_ble_eq_true rfl) (fun q8 hq8 => ?_)
      refine ok_aload_n 0 (kd_m10_stepFor.at 32 rfl) rfl rfl ?_
      refine ok_getR (kd_m10_stepFor.at 33 rfl) kf10_54 sh_0 rfl (kr_0_10 _) ?_
      refine ok_callVB (M' := m9_isMore) (as := []) (st := []) (kd_m10_stepFor.at 34 rfl) kc10_191 sh_6 rfl rfl (by decide) (ok_m9_isMore 6 sh_6 q8) (kfit_of (by decide)) rfl (Nat.le_of_ble_eq_true rfl) (fun q9 hq9 => ?_)
      refine ok_ifb_eq (tgt := 72) (kd_m10_stepFor.at 35 rfl) (by decide) (fun h10 => ?_) (fun h10 => ?_)
      · refine ok_nx (fun x11 hx11 => ?_)
        refine ok_iinc (v := x11) (lv' := [(3, .int x11), (0, .ref 0), (1, .int c1), (2, .int c2)]) 3 (kd_m10_stepFor.at 38 rfl) rfl hx11.symm (by decide) rfl ?_
        refine ok_goto (tgt := 22) (kd_m10_stepFor.at 39 rfl) (by decide) ?_
        refine ok_sub (lv' := [(0, .ref 0), (1, .int c1), (2, .int c2), (3, .int x11)]) [1, 2, 3, 0] rfl ?_
        exact ih x11 q9.2
      · refine ok_sub (lv' := [(3, .int v3)]) [3] rfl ?_
        exact hk70 v3 q9.2
def f_m10_stepFor (a1 : Int32) (a2 : Int32) (S : kSt) : Option (Int32 × kSt) :=
  (f_m10_isPair a1 S).bind fun q1 =>
  (f_m10_upTo a2 60 q1.2).bind fun q2 =>
  (f_m10_may q1.1 q2.1 q2.2).bind fun q3 =>
  if q3.1 then
    f_m10_stepFor_L22 
      (fun (x12 : Int32) (S13 : kSt) =>
        some (x12, S13)
      )
      (fun  (S14 : kSt) =>
        some ((-2), S14)
      )
      a1 a2 kFU 0 q3.2
  else
    some ((-1), q3.2)
theorem ok_m10_stepFor {l : Launch} {G : kG} {E : kE} (a1 : Int32) (a2 : Int32)  (S : kSt) : kFn l G E E kjI m10_stepFor 4 [.ref 0, .int a1, .int a2] S (f_m10_stepFor a1 a2 S) := by
  unfold f_m10_stepFor
  refine kFn_of (by decide +kernel) (fun hG => Nat.le_of_ble_eq_true rfl) ?_
  show kOk _ _ _ _ _ _ _ _ [(0, .ref 0), (1, .int a1), (2, .int a2)] _ _
  refine ok_aload_n 0 (kd_m10_stepFor.at 0 rfl) rfl rfl ?_
  refine ok_aload_n 0 (kd_m10_stepFor.at 1 rfl) rfl rfl ?_
  refine ok_iload_n 1 (kd_m10_stepFor.at 2 rfl) rfl rfl ?_
  refine ok_callVB (M' := m10_isPair) (as := [.int a1]) (st := [.ref 0]) (kd_m10_stepFor.at 3 rfl) kc10_115 sh_0 rfl rfl (by decide) (ok_m10_isPair a1 S) (kfit_of (by decide)) rfl (Nat.le_of_ble_eq_true rfl) (fun q1 hq1 => ?_)
  refine ok_iload_n 2 (kd_m10_stepFor.at 4 rfl) rfl rfl ?_
  refine ok_bipush (v := 60) (kd_m10_stepFor.at 5 rfl) (by decide) ?_
  refine ok_callSB (M' := m10_upTo) (as := [.int a2, .int 60]) (st := [.int (kb q1.1), .ref 0]) (kd_m10_stepFor.at 6 rfl) kc10_126  rfl (by decide) (ok_m10_upTo a2 60 q1.2) (kfit_of (by decide)) rfl (Nat.le_of_ble_eq_true rfl) (fun q2 hq2 => ?_)
  refine ok_callVB (M' := m10_may) (as := [.int (kb q1.1), .int (kb q2.1)]) (st := []) (kd_m10_stepFor.at 7 rfl) kc10_104 sh_0 rfl rfl (by decide) (ok_m10_may q1.1 q2.1 q2.2) (kfit_of (by decide)) rfl (Nat.le_of_ble_eq_true rfl) (fun q3 hq3 => ?_)
  refine ok_ifb_ne (tgt := 20) (kd_m10_stepFor.at 8 rfl) (by decide) (fun h4 => ?_) (fun h4 => ?_)
  · refine ok_iconst (v := 0) (kd_m10_stepFor.at 11 rfl) (by decide) ?_
    refine ok_istore_n (lv' := [(3, .int 0), (0, .ref 0), (1, .int a1), (2, .int a2)]) (kd_m10_stepFor.at 12 rfl) rfl (by decide) rfl ?_
    refine ok_sub (lv' := [(0, .ref 0), (1, .int a1), (2, .int a2), (3, .int 0)]) [1, 2, 3, 0] rfl ?_
    refine ok_m10_stepFor_L22 a1 a2 _ _ (fun x12 S13 => ?_) (fun S14 => ?_) kFU 0 q3.2
    · refine ok_iload_n 0 (kd_m10_stepFor.at 36 rfl) rfl rfl ?_
      exact ok_ireturn (kd_m10_stepFor.at 37 rfl) rfl
    · refine ok_bipush (v := (-2)) (kd_m10_stepFor.at 40 rfl) (by decide) ?_
      exact ok_ireturn (kd_m10_stepFor.at 41 rfl) rfl
  · refine ok_iconst (v := (-1)) (kd_m10_stepFor.at 9 rfl) (by decide) ?_
    exact ok_ireturn (kd_m10_stepFor.at 10 rfl) rfl
def f_m10_mayFit  (S : kSt) : Option (Bool × kSt) :=
  kgb (S.1 0 5) fun b1 =>
  (f_m10_may_ b1 S).bind fun q2 =>
  if q2.1 then
    (f_m1_find  q2.2).bind fun q4 =>
    some (true, q4)
  else
    some (false, q2.2)
theorem ok_m10_mayFit {l : Launch} {G : kG} {E : kE}   (S : kSt) : kFn l G E E kjB m10_mayFit 6 [.ref 0] S (f_m10_mayFit  S) := by
  unfold f_m10_mayFit
  refine kFn_of (by decide +kernel) (fun hG => Nat.le_of_ble_eq_true rfl) ?_
  show kOk _ _ _ _ _ _ _ _ [(0, .ref 0)] _ _
  refine ok_aload_n 0 (kd_m10_mayFit.at 0 rfl) rfl rfl ?_
  refine ok_aload_n 0 (kd_m10_mayFit.at 1 rfl) rfl rfl ?_
  refine ok_getZ (kd_m10_mayFit.at 2 rfl) kf10_108 sh_0 rfl (fun b1 => ?_)
  refine ok_callVB (M' := m10_may_) (as := [.int (kb b1)]) (st := []) (kd_m10_mayFit.at 3 rfl) kc10_154 sh_0 rfl rfl (by decide) (ok_m10_may_ b1 S) (kfit_of (by decide)) rfl (Nat.le_of_ble_eq_true rfl) (fun q2 hq2 => ?_)
  refine ok_ifb_ne (tgt := 13) (kd_m10_mayFit.at 4 rfl) (by decide) (fun h3 => ?_) (fun h3 => ?_)
  · refine ok_aload_n 0 (kd_m10_mayFit.at 7 rfl) rfl rfl ?_
    refine ok_getR (kd_m10_mayFit.at 8 rfl) kf10_75 sh_0 rfl (kr_0_14 _) ?_
    refine ok_aload_n 0 (kd_m10_mayFit.at 9 rfl) rfl rfl ?_
    refine ok_getR (kd_m10_mayFit.at 10 rfl) kf10_16 sh_0 rfl (kr_0_2 _) ?_
    refine ok_callVV (M' := m1_find) (as := [.ref 1]) (st := []) (kd_m10_mayFit.at 11 rfl) kc10_253 sh_9 rfl rfl (by decide) (ok_m1_find  q2.2) (kfit_of (by decide)) rfl (Nat.le_of_ble_eq_true rfl) (fun q4 hq4 => ?_)
    refine ok_iconst (v := 1) (kd_m10_mayFit.at 12 rfl) (by decide) ?_
    exact ok_zreturn (x := true) (kd_m10_mayFit.at 13 rfl) rfl
  · refine ok_iconst (v := 0) (kd_m10_mayFit.at 5 rfl) (by decide) ?_
    exact ok_zreturn (x := false) (kd_m10_mayFit.at 6 rfl) rfl
def f_m10_fits  (S : kSt) : Option (Int32 × kSt) :=
  (f_m10_mayFit  S).bind fun q1 =>
  if q1.1 then
    some (q1.2.1 9 4, q1.2)
  else
    some ((-1), q1.2)
theorem ok_m10_fits {l : Launch} {G : kG} {E : kE}   (S : kSt) : kFn l G E E kjI m10_fits 7 [.ref 0] S (f_m10_fits  S) := by
  unfold f_m10_fits
  refine kFn_of (by decide +kernel) (fun hG => Nat.le_of_ble_eq_true rfl) ?_
  show kOk _ _ _ _ _ _ _ _ [(0, .ref 0)] _ _
  refine ok_aload_n 0 (kd_m10_fits.at 0 rfl) rfl rfl ?_
  refine ok_callVB (M' := m10_mayFit) (as := []) (st := []) (kd_m10_fits.at 1 rfl) kc10_256 sh_0 rfl rfl (by decide) (ok_m10_mayFit  S) (kfit_of (by decide)) rfl (Nat.le_of_ble_eq_true rfl) (fun q1 hq1 => ?_)
  refine ok_ifb_eq (tgt := 17) (kd_m10_fits.at 2 rfl) (by decide) (fun h2 => ?_) (fun h2 => ?_)
  · refine ok_iconst (v := (-1)) (kd_m10_fits.at 7 rfl) (by decide) ?_
    exact ok_ireturn (kd_m10_fits.at 8 rfl) rfl
  · refine ok_aload_n 0 (kd_m10_fits.at 3 rfl) rfl rfl ?_
    refine ok_getR (kd_m10_fits.at 4 rfl) kf10_75 sh_0 rfl (kr_0_14 _) ?_
    refine ok_getI (kd_m10_fits.at 5 rfl) kf10_259 sh_9 rfl ?_
    refine ok_goto (tgt := 18) (kd_m10_fits.at 6 rfl) (by decide) ?_
    exact ok_ireturn (kd_m10_fits.at 8 rfl) rfl
def f_m10_fitAt (a1 : Int32) (S : kSt) : Option (Int32 × kSt) :=
  (f_m10_mayFit  S).bind fun q1 =>
  if q1.1 then
    knx (fun  (S3 : kSt) =>
      (f_m10_refuse 1 S3).bind fun q4 =>
      some (q4.1, q4.2)
      ) fun j36 =>
    if a1 < 0 then
      j36  q1.2
    else
      if (q1.2.1 9 4) ≤ a1 then
        j36  q1.2
      else
        kgi a1 16 (
          some (q1.2.1 48 a1.toNatClampNeg, q1.2)
        )
  else
    some ((-1), q1.2)
theorem ok_m10_fitAt {l : Launch} {G : kG} {E : kE} (a1 : Int32)  (S : kSt) : kFn l G E E kjI m10_fitAt 7 [.ref 0, .int a1] S (f_m10_fitAt a1 S) := by
  unfold f_m10_fitAt
  refine kFn_of (by decide +kernel) (fun hG => Nat.le_of_ble_eq_true rfl) ?_
  show kOk _ _ _ _ _ _ _ _ [(0, .ref 0), (1, .int a1)] _ _
  refine ok_aload_n 0 (kd_m10_fitAt.at 0 rfl) rfl rfl ?_
  refine ok_callVB (M' := m10_mayFit) (as := []) (st := []) (kd_m10_fitAt.at 1 rfl) kc10_256 sh_0 rfl rfl (by decide) (ok_m10_mayFit  S) (kfit_of (by decide)) rfl (Nat.le_of_ble_eq_true rfl) (fun q1 hq1 => ?_)
  refine ok_ifb_ne (tgt := 9) (kd_m10_fitAt.at 2 rfl) (by decide) (fun h2 => ?_) (fun h2 => ?_)
  · refine ok_iload_n 1 (kd_m10_fitAt.at 5 rfl) rfl rfl ?_
    refine ok_nx (fun j36 hj36 => ?_)
    have K36 : ∀  (S3 : kSt), kOk l G E (kZ G E kjI) m10_fitAt (kdp (7)) (j36  S3) 36 [(0, .ref 0)] [] S3 := by
      subst hj36
      intro  S3
      refine ok_aload_n 0 (kd_m10_fitAt.at 18 rfl) rfl rfl ?_
      refine ok_iconst (v := 1) (kd_m10_fitAt.at 19 rfl) (by decide) ?_
      refine ok_callVI (M' := m10_refuse) (as := [.int 1]) (st := []) (kd_m10_fitAt.at 20 rfl) kc10_130 sh_0 rfl rfl (by decide) (ok_m10_refuse 1 S3) (kfit_of (by decide)) rfl (Nat.le_of_ble_eq_true rfl) (fun q4 hq4 => ?_)
      exact ok_ireturn (kd_m10_fitAt.at 21 rfl) rfl
    clear hj36
    refine ok_if_lt (tgt := 36) (kd_m10_fitAt.at 6 rfl) (by decide) (fun h5 => ?_) (fun h5 => ?_)
    · refine ok_sub (lv' := [(0, .ref 0)]) [0] rfl ?_
      exact K36  q1.2
    · refine ok_iload_n 1 (kd_m10_fitAt.at 7 rfl) rfl rfl ?_
      refine ok_aload_n 0 (kd_m10_fitAt.at 8 rfl) rfl rfl ?_
      refine ok_getR (kd_m10_fitAt.at 9 rfl) kf10_75 sh_0 rfl (kr_0_14 _) ?_
      refine ok_getI (kd_m10_fitAt.at 10 rfl) kf10_259 sh_9 rfl ?_
      refine ok_icmp_ge (tgt := 36) (kd_m10_fitAt.at 11 rfl) (by decide) (fun h6 => ?_) (fun h6 => ?_)
      · refine ok_sub (lv' := [(0, .ref 0)]) [0] rfl ?_
        exact K36  q1.2
      · refine ok_aload_n 0 (kd_m10_fitAt.at 12 rfl) rfl rfl ?_
        refine ok_getR (kd_m10_fitAt.at 13 rfl) kf10_75 sh_0 rfl (kr_0_14 _) ?_
        refine ok_getR (kd_m10_fitAt.at 14 rfl) kf10_262 sh_9 rfl (kr_9_3 _) ?_
        refine ok_iload_n 1 (kd_m10_fitAt.at 15 rfl) rfl rfl ?_
        refine ok_iald (kd_m10_fitAt.at 16 rfl) sh_48 ?_
        refine ok_goto (tgt := 41) (kd_m10_fitAt.at 17 rfl) (by decide) ?_
        exact ok_ireturn (kd_m10_fitAt.at 21 rfl) rfl
  · refine ok_iconst (v := (-1)) (kd_m10_fitAt.at 3 rfl) (by decide) ?_
    exact ok_ireturn (kd_m10_fitAt.at 4 rfl) rfl
def f_m10_could  (S : kSt) : Option (Int32 × kSt) :=
  (f_m10_mayFit  S).bind fun q1 =>
  if q1.1 then
    (f_m1_inSome  q1.2).bind fun q3 =>
    some (q3.1, q3.2)
  else
    some ((-1), q1.2)
theorem ok_m10_could {l : Launch} {G : kG} {E : kE}   (S : kSt) : kFn l G E E kjI m10_could 7 [.ref 0] S (f_m10_could  S) := by
  unfold f_m10_could
  refine kFn_of (by decide +kernel) (fun hG => Nat.le_of_ble_eq_true rfl) ?_
  show kOk _ _ _ _ _ _ _ _ [(0, .ref 0)] _ _
  refine ok_aload_n 0 (kd_m10_could.at 0 rfl) rfl rfl ?_
  refine ok_callVB (M' := m10_mayFit) (as := []) (st := []) (kd_m10_could.at 1 rfl) kc10_256 sh_0 rfl rfl (by decide) (ok_m10_mayFit  S) (kfit_of (by decide)) rfl (Nat.le_of_ble_eq_true rfl) (fun q1 hq1 => ?_)
  refine ok_ifb_eq (tgt := 17) (kd_m10_could.at 2 rfl) (by decide) (fun h2 => ?_) (fun h2 => ?_)
  · refine ok_iconst (v := (-1)) (kd_m10_could.at 7 rfl) (by decide) ?_
    exact ok_ireturn (kd_m10_could.at 8 rfl) rfl
  · refine ok_aload_n 0 (kd_m10_could.at 3 rfl) rfl rfl ?_
    refine ok_getR (kd_m10_could.at 4 rfl) kf10_75 sh_0 rfl (kr_0_14 _) ?_
    refine ok_callVI (M' := m1_inSome) (as := []) (st := []) (kd_m10_could.at 5 rfl) kc10_265 sh_9 rfl rfl (by decide) (ok_m1_inSome  q1.2) (kfit_of (by decide)) rfl (Nat.le_of_ble_eq_true rfl) (fun q3 hq3 => ?_)
    refine ok_goto (tgt := 18) (kd_m10_could.at 6 rfl) (by decide) ?_
    exact ok_ireturn (kd_m10_could.at 8 rfl) rfl
def f_m10_surely  (S : kSt) : Option (Int32 × kSt) :=
  (f_m10_mayFit  S).bind fun q1 =>
  if q1.1 then
    (f_m1_inAll  q1.2).bind fun q3 =>
    some (q3.1, q3.2)
  else
    some ((-1), q1.2)
theorem ok_m10_surely {l : Launch} {G : kG} {E : kE}   (S : kSt) : kFn l G E E kjI m10_surely 7 [.ref 0] S (f_m10_surely  S) := by
  unfold f_m10_surely
  refine kFn_of (by decide +kernel) (fun hG => Nat.le_of_ble_eq_true rfl) ?_
  show kOk _ _ _ _ _ _ _ _ [(0, .ref 0)] _ _
  refine ok_aload_n 0 (kd_m10_surely.at 0 rfl) rfl rfl ?_
  refine ok_callVB (M' := m10_mayFit) (as := []) (st := []) (kd_m10_surely.at 1 rfl) kc10_256 sh_0 rfl rfl (by decide) (ok_m10_mayFit  S) (kfit_of (by decide)) rfl (Nat.le_of_ble_eq_true rfl) (fun q1 hq1 => ?_)
  refine ok_ifb_eq (tgt := 17) (kd_m10_surely.at 2 rfl) (by decide) (fun h2 => ?_) (fun h2 => ?_)
  · refine ok_iconst (v := (-1)) (kd_m10_surely.at 7 rfl) (by decide) ?_
    exact ok_ireturn (kd_m10_surely.at 8 rfl) rfl
  · refine ok_aload_n 0 (kd_m10_surely.at 3 rfl) rfl rfl ?_
    refine ok_getR (kd_m10_surely.at 4 rfl) kf10_75 sh_0 rfl (kr_0_14 _) ?_
    refine ok_callVI (M' := m1_inAll) (as := []) (st := []) (kd_m10_surely.at 5 rfl) kc10_268 sh_9 rfl rfl (by decide) (ok_m1_inAll  q1.2) (kfit_of (by decide)) rfl (Nat.le_of_ble_eq_true rfl) (fun q3 hq3 => ?_)
    refine ok_goto (tgt := 18) (kd_m10_surely.at 6 rfl) (by decide) ?_
    exact ok_ireturn (kd_m10_surely.at 8 rfl) rfl
def f_m10_ask  (S : kSt) : Option (Int32 × kSt) :=
  (f_m10_mayFit  S).bind fun q1 =>
  if q1.1 then
    (f_m1_bestQuestion (q1.2.1 1 5) q1.2).bind fun q3 =>
    some (q3.1, q3.2)
  else
    some ((-1), q1.2)
theorem ok_m10_ask {l : Launch} {G : kG} {E : kE}   (S : kSt) : kFn l G E E kjI m10_ask 7 [.ref 0] S (f_m10_ask  S) := by
  unfold f_m10_ask
  refine kFn_of (by decide +kernel) (fun hG => Nat.le_of_ble_eq_true rfl) ?_
  show kOk _ _ _ _ _ _ _ _ [(0, .ref 0)] _ _
  refine ok_aload_n 0 (kd_m10_ask.at 0 rfl) rfl rfl ?_
  refine ok_callVB (M' := m10_mayFit) (as := []) (st := []) (kd_m10_ask.at 1 rfl) kc10_256 sh_0 rfl rfl (by decide) (ok_m10_mayFit  S) (kfit_of (by decide)) rfl (Nat.le_of_ble_eq_true rfl) (fun q1 hq1 => ?_)
  refine ok_ifb_eq (tgt := 24) (kd_m10_ask.at 2 rfl) (by decide) (fun h2 => ?_) (fun h2 => ?_)
  · refine ok_iconst (v := (-1)) (kd_m10_ask.at 10 rfl) (by decide) ?_
    exact ok_ireturn (kd_m10_ask.at 11 rfl) rfl
  · refine ok_aload_n 0 (kd_m10_ask.at 3 rfl) rfl rfl ?_
    refine ok_getR (kd_m10_ask.at 4 rfl) kf10_75 sh_0 rfl (kr_0_14 _) ?_
    refine ok_aload_n 0 (kd_m10_ask.at 5 rfl) rfl rfl ?_
    refine ok_getR (kd_m10_ask.at 6 rfl) kf10_16 sh_0 rfl (kr_0_2 _) ?_
    refine ok_getI (kd_m10_ask.at 7 rfl) kf10_271 sh_1 rfl ?_
    refine ok_callVI (M' := m1_bestQuestion) (as := [.int (q1.2.1 1 5)]) (st := []) (kd_m10_ask.at 8 rfl) kc10_274 sh_9 rfl rfl (by decide) (ok_m1_bestQuestion (q1.2.1 1 5) q1.2) (kfit_of (by decide)) rfl (Nat.le_of_ble_eq_true rfl) (fun q3 hq3 => ?_)
    refine ok_goto (tgt := 25) (kd_m10_ask.at 9 rfl) (by decide) ?_
    exact ok_ireturn (kd_m10_ask.at 11 rfl) rfl
def f_m10_askLeaves  (S : kSt) : Option (Int32 × kSt) :=
  (f_m10_mayFit  S).bind fun q1 =>
  if q1.1 then
    (f_m1_bestQuestion (q1.2.1 1 5) q1.2).bind fun q3 =>
    if 0 ≤ q3.1 then
      (f_m1_leftAtMost q3.1 q3.2).bind fun q5 =>
      some (q5.1, q5.2)
    else
      some ((-2), q3.2)
  else
    some ((-1), q1.2)
theorem ok_m10_askLeaves {l : Launch} {G : kG} {E : kE}   (S : kSt) : kFn l G E E kjI m10_askLeaves 7 [.ref 0] S (f_m10_askLeaves  S) := by
  unfold f_m10_askLeaves
  refine kFn_of (by decide +kernel) (fun hG => Nat.le_of_ble_eq_true rfl) ?_
  show kOk _ _ _ _ _ _ _ _ [(0, .ref 0)] _ _
  refine ok_aload_n 0 (kd_m10_askLeaves.at 0 rfl) rfl rfl ?_
  refine ok_callVB (M' := m10_mayFit) (as := []) (st := []) (kd_m10_askLeaves.at 1 rfl) kc10_256 sh_0 rfl rfl (by decide) (ok_m10_mayFit  S) (kfit_of (by decide)) rfl (Nat.le_of_ble_eq_true rfl) (fun q1 hq1 => ?_)
  refine ok_ifb_ne (tgt := 9) (kd_m10_askLeaves.at 2 rfl) (by decide) (fun h2 => ?_) (fun h2 => ?_)
  · refine ok_aload_n 0 (kd_m10_askLeaves.at 5 rfl) rfl rfl ?_
    refine ok_getR (kd_m10_askLeaves.at 6 rfl) kf10_75 sh_0 rfl (kr_0_14 _) ?_
    refine ok_aload_n 0 (kd_m10_askLeaves.at 7 rfl) rfl rfl ?_
    refine ok_getR (kd_m10_askLeaves.at 8 rfl) kf10_16 sh_0 rfl (kr_0_2 _) ?_
    refine ok_getI (kd_m10_askLeaves.at 9 rfl) kf10_271 sh_1 rfl ?_
    refine ok_callVI (M' := m1_bestQuestion) (as := [.int (q1.2.1 1 5)]) (st := []) (kd_m10_askLeaves.at 10 rfl) kc10_274 sh_9 rfl rfl (by decide) (ok_m1_bestQuestion (q1.2.1 1 5) q1.2) (kfit_of (by decide)) rfl (Nat.le_of_ble_eq_true rfl) (fun q3 hq3 => ?_)
    refine ok_istore_n (lv' := [(1, .int q3.1), (0, .ref 0)]) (kd_m10_askLeaves.at 11 rfl) rfl (by decide) rfl ?_
    refine ok_iload_n 0 (kd_m10_askLeaves.at 12 rfl) rfl rfl ?_
    refine ok_if_ge (tgt := 33) (kd_m10_askLeaves.at 13 rfl) (by decide) (fun h4 => ?_) (fun h4 => ?_)
    · refine ok_aload_n 1 (kd_m10_askLeaves.at 16 rfl) rfl rfl ?_
      refine ok_getR (kd_m10_askLeaves.at 17 rfl) kf10_75 sh_0 rfl (kr_0_14 _) ?_
      refine ok_iload_n 0 (kd_m10_askLeaves.at 18 rfl) rfl rfl ?_
      refine ok_callVI (M' := m1_leftAtMost) (as := [.int q3.1]) (st := []) (kd_m10_askLeaves.at 19 rfl) kc10_277 sh_9 rfl rfl (by decide) (ok_m1_leftAtMost q3.1 q3.2) (kfit_of (by decide)) rfl (Nat.le_of_ble_eq_true rfl) (fun q5 hq5 => ?_)
      exact ok_ireturn (kd_m10_askLeaves.at 20 rfl) rfl
    · refine ok_bipush (v := (-2)) (kd_m10_askLeaves.at 14 rfl) (by decide) ?_
      refine ok_goto (tgt := 41) (kd_m10_askLeaves.at 15 rfl) (by decide) ?_
      exact ok_ireturn (kd_m10_askLeaves.at 20 rfl) rfl
  · refine ok_iconst (v := (-1)) (kd_m10_askLeaves.at 3 rfl) (by decide) ?_
    exact ok_ireturn (kd_m10_askLeaves.at 4 rfl) rfl
def f_m10_apartByTold (a1 : Int32) (S : kSt) : Option (Int32 × kSt) :=
  kgi a1 8 (
    (f_m9_beginAsTold 6 (S.1 25 a1.toNatClampNeg) S).bind fun q1 =>
    kgi a1 8 (
      (f_m9_goOn 6 (q1.1 26 a1.toNatClampNeg) q1).bind fun q2 =>
      kgi a1 8 (
        some (kabs ((q2.1 6 4) - (q2.1 27 a1.toNatClampNeg)), q2)
      )
    )
  )
theorem ok_m10_apartByTold {l : Launch} {G : kG} {E : kE} (a1 : Int32)  (S : kSt) : kFn l G E E kjI m10_apartByTold 4 [.ref 0, .int a1] S (f_m10_apartByTold a1 S) := by
  unfold f_m10_apartByTold
  refine kFn_of (by decide +kernel) (fun hG => Nat.le_of_ble_eq_true rfl) ?_
  show kOk _ _ _ _ _ _ _ _ [(0, .ref 0), (1, .int a1)] _ _
  refine ok_aload_n 0 (kd_m10_apartByTold.at 0 rfl) rfl rfl ?_
  refine ok_getR (kd_m10_apartByTold.at 1 rfl) kf10_54 sh_0 rfl (kr_0_10 _) ?_
  refine ok_aload_n 0 (kd_m10_apartByTold.at 2 rfl) rfl rfl ?_
  refine ok_getR (kd_m10_apartByTold.at 3 rfl) kf10_16 sh_0 rfl (kr_0_2 _) ?_
  refine ok_aload_n 0 (kd_m10_apartByTold.at 4 rfl) rfl rfl ?_
  refine ok_getR (kd_m10_apartByTold.at 5 rfl) kf10_16 sh_0 rfl (kr_0_2 _) ?_
  refine ok_getR (kd_m10_apartByTold.at 6 rfl) kf10_286 sh_1 rfl (kr_1_14 _) ?_
  refine ok_iload_n 1 (kd_m10_apartByTold.at 7 rfl) rfl rfl ?_
  refine ok_iald (kd_m10_apartByTold.at 8 rfl) sh_25 ?_
  refine ok_callVV (M' := m9_beginAsTold) (as := [.ref 1, .int (S.1 25 a1.toNatClampNeg)]) (st := []) (kd_m10_apartByTold.at 9 rfl) kc10_289 sh_6 rfl rfl (by decide) (ok_m9_beginAsTold 6 (S.1 25 a1.toNatClampNeg) sh_6 S) (kfit_of (by decide)) rfl (Nat.le_of_ble_eq_true rfl) (fun q1 hq1 => ?_)
  refine ok_aload_n 0 (kd_m10_apartByTold.at 10 rfl) rfl rfl ?_
  refine ok_getR (kd_m10_apartByTold.at 11 rfl) kf10_54 sh_0 rfl (kr_0_10 _) ?_
  refine ok_aload_n 0 (kd_m10_apartByTold.at 12 rfl) rfl rfl ?_
  refine ok_getR (kd_m10_apartByTold.at 13 rfl) kf10_16 sh_0 rfl (kr_0_2 _) ?_
  refine ok_getR (kd_m10_apartByTold.at 14 rfl) kf10_293 sh_1 rfl (kr_1_15 _) ?_
  refine ok_iload_n 1 (kd_m10_apartByTold.at 15 rfl) rfl rfl ?_
  refine ok_iald (kd_m10_apartByTold.at 16 rfl) sh_26 ?_
  refine ok_callVV (M' := m9_goOn) (as := [.int (q1.1 26 a1.toNatClampNeg)]) (st := []) (kd_m10_apartByTold.at 17 rfl) kc10_178 sh_6 rfl rfl (by decide) (ok_m9_goOn 6 (q1.1 26 a1.toNatClampNeg) sh_6 q1) (kfit_of (by decide)) rfl (Nat.le_of_ble_eq_true rfl) (fun q2 hq2 => ?_)
  refine ok_aload_n 0 (kd_m10_apartByTold.at 18 rfl) rfl rfl ?_
  refine ok_getR (kd_m10_apartByTold.at 19 rfl) kf10_54 sh_0 rfl (kr_0_10 _) ?_
  refine ok_getI (kd_m10_apartByTold.at 20 rfl) kf10_181 sh_6 rfl ?_
  refine ok_aload_n 0 (kd_m10_apartByTold.at 21 rfl) rfl rfl ?_
  refine ok_getR (kd_m10_apartByTold.at 22 rfl) kf10_16 sh_0 rfl (kr_0_2 _) ?_
  refine ok_getR (kd_m10_apartByTold.at 23 rfl) kf10_296 sh_1 rfl (kr_1_16 _) ?_
  refine ok_iload_n 1 (kd_m10_apartByTold.at 24 rfl) rfl rfl ?_
  refine ok_iald (kd_m10_apartByTold.at 25 rfl) sh_27 ?_
  refine ok_isub (kd_m10_apartByTold.at 26 rfl) ?_
  refine ok_mabs (y := 0) (kd_m10_apartByTold.at 27 rfl) kc10_231 (kfit_of (by decide)) (Nat.le_of_ble_eq_true rfl) ?_
  exact ok_ireturn (kd_m10_apartByTold.at 28 rfl) rfl
def f_m10_judge_L15   (k34 : Int32 → kSt → Option (Int32 × kSt)) (k42 : kSt → Option (Int32 × kSt))  : Nat → Int32 → kSt → Option (Int32 × kSt)
  | 0, _, _ => none
  | n + 1, v1, S =>
    if (S.1 1 6) ≤ v1 then
      k42  S
    else
      (f_m10_apartByTold v1 S).bind fun q5 =>
      if q5.1 = 0 then
        knx (v1 + 1) fun x7 =>
        f_m10_judge_L15 k34 k42 n x7 q5.2
      else
        k34 v1 q5.2
theorem ok_m10_judge_L15 {l : Launch} {G : kG} {E : kE}     (k34 : Int32 → kSt → Option (Int32 × kSt)) (k42 : kSt → Option (Int32 × kSt)) (hk34 : ∀ (v1 : Int32) (S : kSt), kOk l G E (kZ G E kjI) m10_judge (kdp (5)) (k34 v1 S) 34 [(1, .int v1)] [] S) (hk42 : ∀  (S : kSt), kOk l G E (kZ G E kjI) m10_judge (kdp (5)) (k42  S) 42 [] [] S) : ∀ (n : Nat) (v1 : Int32) (S : kSt), kOk l G E (kZ G E kjI) m10_judge (kdp (5)) (f_m10_judge_L15 k34 k42 n v1 S) 15 [(0, .ref 0), (1, .int v1)] [] S := by
  intro n
  induction n with
  | zero => intro v1 S; exact ok_none
  | succ n ih =>
    intro v1 S
    rw [f_m10_judge_L15]
    refine ok_iload_n 1 (kd_m10_judge.at 9 rfl) rfl rfl ?_
    refine ok_aload_n 0 (kd_m10_judge.at 10 rfl) rfl rfl ?_
    refine ok_getR (kd_m10_judge.at 11 rfl) kf10_16 sh_0 rfl (kr_0_2 _) ?_
    refine ok_getI (kd_m10_judge.at 12 rfl) kf10_280 sh_1 rfl ?_
    refine ok_icmp_ge (tgt := 42) (kd_m10_judge.at 13 rfl) (by decide) (fun h4 => ?_) (fun h4 => ?_)
    · refine ok_sub (lv' := []) [] rfl ?_
      exact hk42  S
    · refine ok_aload_n 0 (kd_m10_judge.at 14 rfl) rfl rfl ?_
      refine ok_iload_n 1 (kd_m10_judge.at 15 rfl) rfl rfl ?_
      refine ok_callVI (M' := m10_apartByTold) (as := [.int v1]) (st := []) (kd_m10_judge.at 16 rfl) kc10_283 sh_0 rfl rfl (by decide) (ok_m10_apartByTold v1 S) (kfit_of (by decide)) rfl (Nat.le_of_ble_eq_true rfl) (fun q5 hq5 => ?_)
      refine ok_if_eq (tgt := 36) (kd_m10_judge.at 17 rfl) (by decide) (fun h6 => ?_) (fun h6 => ?_)
      · refine ok_nx (fun x7 hx7 => ?_)
        refine ok_iinc (v := x7) (lv' := [(1, .int x7), (0, .ref 0)]) 1 (kd_m10_judge.at 20 rfl) rfl hx7.symm (by decide) rfl ?_
        refine ok_goto (tgt := 15) (kd_m10_judge.at 21 rfl) (by decide) ?_
        refine ok_sub (lv' := [(0, .ref 0), (1, .int x7)]) [1, 0] rfl ?_
        exact ih x7 q5.2
      · refine ok_sub (lv' := [(1, .int v1)]) [1] rfl ?_
        exact hk34 v1 q5.2
def f_m10_judge  (S : kSt) : Option (Int32 × kSt) :=
  kgb (S.1 0 5) fun b1 =>
  (f_m10_may_ b1 S).bind fun q2 =>
  if q2.1 then
    f_m10_judge_L15 
      (fun (x8 : Int32) (S9 : kSt) =>
        some (x8, S9)
      )
      (fun  (S10 : kSt) =>
        some ((-2), S10)
      )
      kFU 0 q2.2
  else
    some ((-1), q2.2)
theorem ok_m10_judge {l : Launch} {G : kG} {E : kE}   (S : kSt) : kFn l G E E kjI m10_judge 5 [.ref 0] S (f_m10_judge  S) := by
  unfold f_m10_judge
  refine kFn_of (by decide +kernel) (fun hG => Nat.le_of_ble_eq_true rfl) ?_
  show kOk _ _ _ _ _ _ _ _ [(0, .ref 0)] _ _
  refine ok_aload_n 0 (kd_m10_judge.at 0 rfl) rfl rfl ?_
  refine ok_aload_n 0 (kd_m10_judge.at 1 rfl) rfl rfl ?_
  refine ok_getZ (kd_m10_judge.at 2 rfl) kf10_108 sh_0 rfl (fun b1 => ?_)
  refine ok_callVB (M' := m10_may_) (as := [.int (kb b1)]) (st := []) (kd_m10_judge.at 3 rfl) kc10_154 sh_0 rfl rfl (by decide) (ok_m10_may_ b1 S) (kfit_of (by decide)) rfl (Nat.le_of_ble_eq_true rfl) (fun q2 hq2 => ?_)
  refine ok_ifb_ne (tgt := 13) (kd_m10_judge.at 4 rfl) (by decide) (fun h3 => ?_) (fun h3 => ?_)
  · refine ok_iconst (v := 0) (kd_m10_judge.at 7 rfl) (by decide) ?_
    refine ok_istore_n (lv' := [(1, .int 0), (0, .ref 0)]) (kd_m10_judge.at 8 rfl) rfl (by decide) rfl ?_
    refine ok_sub (lv' := [(0, .ref 0), (1, .int 0)]) [1, 0] rfl ?_
    refine ok_m10_judge_L15 _ _ (fun x8 S9 => ?_) (fun S10 => ?_) kFU 0 q2.2
    · refine ok_iload_n 0 (kd_m10_judge.at 18 rfl) rfl rfl ?_
      exact ok_ireturn (kd_m10_judge.at 19 rfl) rfl
    · refine ok_bipush (v := (-2)) (kd_m10_judge.at 22 rfl) (by decide) ?_
      exact ok_ireturn (kd_m10_judge.at 23 rfl) rfl
  · refine ok_iconst (v := (-1)) (kd_m10_judge.at 5 rfl) (by decide) ?_
    exact ok_ireturn (kd_m10_judge.at 6 rfl) rfl
def f_m10_third_L18   (k56 : Int32 → kSt → Option (Int32 × kSt)) (c1 : Int32) : Nat → Int32 → Int32 → kSt → Option (Int32 × kSt)
  | 0, _, _, _ => none
  | n + 1, v2, v3, S =>
    if (S.1 1 6) ≤ v3 then
      k56 v2 S
    else
      kgi v3 8 (
        knx (fun (x5 : Int32) (S6 : kSt) =>
          knx (v3 + 1) fun x7 =>
          f_m10_third_L18 k56 c1 n x5 x7 S6
          ) fun j50 =>
        if (S.1 25 v3.toNatClampNeg) = c1 then
          (f_m10_apartByTold v3 S).bind fun q9 =>
          knx (v2 + q9.1) fun x10 =>
          j50 x10 q9.2
        else
          j50 v2 S
      )
theorem ok_m10_third_L18 {l : Launch} {G : kG} {E : kE}    (c1 : Int32) (k56 : Int32 → kSt → Option (Int32 × kSt)) (hk56 : ∀ (v2 : Int32) (S : kSt), kOk l G E (kZ G E kjI) m10_third (kdp (5)) (k56 v2 S) 56 [(2, .int v2)] [] S) : ∀ (n : Nat) (v2 : Int32) (v3 : Int32) (S : kSt), kOk l G E (kZ G E kjI) m10_third (kdp (5)) (f_m10_third_L18 k56 c1 n v2 v3 S) 18 [(0, .ref 0), (1, .int c1), (2, .int v2), (3, .int v3)] [] S := by
  intro n
  induction n with
  | zero => intro v2 v3 S; exact ok_none
  | succ n ih =>
    intro v2 v3 S
    rw [f_m10_third_L18]
    refine ok_iload_n 3 (kd_m10_third.at 12 rfl) rfl rfl ?_
    refine ok_aload_n 0 (kd_m10_third.at 13 rfl) rfl rfl ?_
    refine ok_getR (kd_m10_third.at 14 rfl) kf10_16 sh_0 rfl (kr_0_2 _) ?_
    refine ok_getI (kd_m10_third.at 15 rfl) kf10_280 sh_1 rfl ?_
    refine ok_icmp_ge (tgt := 56) (kd_m10_third.at 16 rfl) (by decide) (fun h4 => ?_) (fun h4 => ?_)
    · refine ok_sub (lv' := [(2, .int v2)]) [2] rfl ?_
      exact hk56 v2 S
    · refine ok_aload_n 0 (kd_m10_third.at 17 rfl) rfl rfl ?_
      refine ok_getR (kd_m10_third.at 18 rfl) kf10_16 sh_0 rfl (kr_0_2 _) ?_
      refine ok_getR (kd_m10_third.at 19 rfl) kf10_286 sh_1 rfl (kr_1_14 _) ?_
      refine ok_iload_n 3 (kd_m10_third.at 20 rfl) rfl rfl ?_
      refine ok_iald (kd_m10_third.at 21 rfl) sh_25 ?_
      refine ok_iload_n 1 (kd_m10_third.at 22 rfl) rfl rfl ?_
      refine ok_nx (fun j50 hj50 => ?_)
      have K50 : ∀ (x5 : Int32) (S6 : kSt), kOk l G E (kZ G E kjI) m10_third (kdp (5)) (j50 x5 S6) 50 [(0, .ref 0), (1, .int c1), (2, .int x5), (3, .int v3)] [] S6 := by
        subst hj50
        intro x5 S6
        refine ok_nx (fun x7 hx7 => ?_)
        refine ok_iinc (v := x7) (lv' := [(3, .int x7), (0, .ref 0), (1, .int c1), (2, .int x5)]) 3 (kd_m10_third.at 30 rfl) rfl hx7.symm (by decide) rfl ?_
        refine ok_goto (tgt := 18) (kd_m10_third.at 31 rfl) (by decide) ?_
        refine ok_sub (lv' := [(0, .ref 0), (1, .int c1), (2, .int x5), (3, .int x7)]) [1, 2, 3, 0] rfl ?_
        exact ih x5 x7 S6
      clear hj50
      refine ok_icmp_ne (tgt := 50) (kd_m10_third.at 23 rfl) (by decide) (fun h8 => ?_) (fun h8 => ?_)
      · exact K50 v2 S
      · refine ok_iload_n 2 (kd_m10_third.at 24 rfl) rfl rfl ?_
        refine ok_aload_n 0 (kd_m10_third.at 25 rfl) rfl rfl ?_
        refine ok_iload_n 3 (kd_m10_third.at 26 rfl) rfl rfl ?_
        refine ok_callVI (M' := m10_apartByTold) (as := [.int v3]) (st := [.int v2]) (kd_m10_third.at 27 rfl) kc10_283 sh_0 rfl rfl (by decide) (ok_m10_apartByTold v3 S) (kfit_of (by decide)) rfl (Nat.le_of_ble_eq_true rfl) (fun q9 hq9 => ?_)
        refine ok_iadd (kd_m10_third.at 28 rfl) ?_
        refine ok_topi (fun x10 hx10 => ?_)
        refine ok_istore_n (lv' := [(2, .int x10), (0, .ref 0), (1, .int c1), (3, .int v3)]) (kd_m10_third.at 29 rfl) rfl (by decide) rfl ?_
        refine ok_sub (lv' := [(0, .ref 0), (1, .int c1), (2, .int x10), (3, .int v3)]) [1, 2, 0, 3] rfl ?_
        exact K50 x10 q9.2
def f_m10_third (a1 : Int32) (S : kSt) : Option (Int32 × kSt) :=
  (f_m10_isPair a1 S).bind fun q1 =>
  (f_m10_may_ q1.1 q1.2).bind fun q2 =>
  if q2.1 then
    f_m10_third_L18 
      (fun (x11 : Int32) (S12 : kSt) =>
        some (x11, S12)
      )
      a1 kFU 0 0 q2.2
  else
    some ((-1), q2.2)
theorem ok_m10_third {l : Launch} {G : kG} {E : kE} (a1 : Int32)  (S : kSt) : kFn l G E E kjI m10_third 5 [.ref 0, .int a1] S (f_m10_third a1 S) := by
  unfold f_m10_third
  refine kFn_of (by decide +kernel) (fun hG => Nat.le_of_ble_eq_true rfl) ?_
  show kOk _ _ _ _ _ _ _ _ [(0, .ref 0), (1, .int a1)] _ _
  refine ok_aload_n 0 (kd_m10_third.at 0 rfl) rfl rfl ?_
  refine ok_aload_n 0 (kd_m10_third.at 1 rfl) rfl rfl ?_
  refine ok_iload_n 1 (kd_m10_third.at 2 rfl) rfl rfl ?_
  refine ok_callVB (M' := m10_isPair) (as := [.int a1]) (st := [.ref 0]) (kd_m10_third.at 3 rfl) kc10_115 sh_0 rfl rfl (by decide) (ok_m10_isPair a1 S) (kfit_of (by decide)) rfl (Nat.le_of_ble_eq_true rfl) (fun q1 hq1 => ?_)
  refine ok_callVB (M' := m10_may_) (as := [.int (kb q1.1)]) (st := []) (kd_m10_third.at 4 rfl) kc10_154 sh_0 rfl rfl (by decide) (ok_m10_may_ q1.1 q1.2) (kfit_of (by decide)) rfl (Nat.le_of_ble_eq_true rfl) (fun q2 hq2 => ?_)
  refine ok_ifb_ne (tgt := 14) (kd_m10_third.at 5 rfl) (by decide) (fun h3 => ?_) (fun h3 => ?_)
  · refine ok_iconst (v := 0) (kd_m10_third.at 8 rfl) (by decide) ?_
    refine ok_istore_n (lv' := [(2, .int 0), (0, .ref 0), (1, .int a1)]) (kd_m10_third.at 9 rfl) rfl (by decide) rfl ?_
    refine ok_iconst (v := 0) (kd_m10_third.at 10 rfl) (by decide) ?_
    refine ok_istore_n (lv' := [(3, .int 0), (2, .int 0), (0, .ref 0), (1, .int a1)]) (kd_m10_third.at 11 rfl) rfl (by decide) rfl ?_
    refine ok_sub (lv' := [(0, .ref 0), (1, .int a1), (2, .int 0), (3, .int 0)]) [2, 3, 1, 0] rfl ?_
    refine ok_m10_third_L18 a1 _ (fun x11 S12 => ?_) kFU 0 0 q2.2
    refine ok_iload_n 0 (kd_m10_third.at 32 rfl) rfl rfl ?_
    exact ok_ireturn (kd_m10_third.at 33 rfl) rfl
  · refine ok_iconst (v := (-1)) (kd_m10_third.at 6 rfl) (by decide) ?_
    exact ok_ireturn (kd_m10_third.at 7 rfl) rfl
def f_m10_owes (a1 : Int32) (a2 : Int32) (S : kSt) : Option (Int32 × kSt) :=
  (f_m10_areUnlike a1 a2 S).bind fun q1 =>
  (f_m10_may_ q1.1 q1.2).bind fun q2 =>
  if q2.1 then
    knx ((a1 * 5) + a2) fun x4 =>
    kgi x4 25 (
      some (q2.2.1 42 x4.toNatClampNeg, q2.2)
    )
  else
    some ((-1), q2.2)
theorem ok_m10_owes {l : Launch} {G : kG} {E : kE} (a1 : Int32) (a2 : Int32)  (S : kSt) : kFn l G E E kjI m10_owes 3 [.ref 0, .int a1, .int a2] S (f_m10_owes a1 a2 S) := by
  unfold f_m10_owes
  refine kFn_of (by decide +kernel) (fun hG => Nat.le_of_ble_eq_true rfl) ?_
  show kOk _ _ _ _ _ _ _ _ [(0, .ref 0), (1, .int a1), (2, .int a2)] _ _
  refine ok_aload_n 0 (kd_m10_owes.at 0 rfl) rfl rfl ?_
  refine ok_aload_n 0 (kd_m10_owes.at 1 rfl) rfl rfl ?_
  refine ok_iload_n 1 (kd_m10_owes.at 2 rfl) rfl rfl ?_
  refine ok_iload_n 2 (kd_m10_owes.at 3 rfl) rfl rfl ?_
  refine ok_callVB (M' := m10_areUnlike) (as := [.int a1, .int a2]) (st := [.ref 0]) (kd_m10_owes.at 4 rfl) kc10_221 sh_0 rfl rfl (by decide) (ok_m10_areUnlike a1 a2 S) (kfit_of (by decide)) rfl (Nat.le_of_ble_eq_true rfl) (fun q1 hq1 => ?_)
  refine ok_callVB (M' := m10_may_) (as := [.int (kb q1.1)]) (st := []) (kd_m10_owes.at 5 rfl) kc10_154 sh_0 rfl rfl (by decide) (ok_m10_may_ q1.1 q1.2) (kfit_of (by decide)) rfl (Nat.le_of_ble_eq_true rfl) (fun q2 hq2 => ?_)
  refine ok_ifb_eq (tgt := 29) (kd_m10_owes.at 6 rfl) (by decide) (fun h3 => ?_) (fun h3 => ?_)
  · refine ok_iconst (v := (-1)) (kd_m10_owes.at 17 rfl) (by decide) ?_
    exact ok_ireturn (kd_m10_owes.at 18 rfl) rfl
  · refine ok_aload_n 0 (kd_m10_owes.at 7 rfl) rfl rfl ?_
    refine ok_getR (kd_m10_owes.at 8 rfl) kf10_35 sh_0 rfl (kr_0_6 _) ?_
    refine ok_getR (kd_m10_owes.at 9 rfl) kf10_299 sh_4 rfl (kr_4_3 _) ?_
    refine ok_iload_n 1 (kd_m10_owes.at 10 rfl) rfl rfl ?_
    refine ok_iconst (v := 5) (kd_m10_owes.at 11 rfl) (by decide) ?_
    refine ok_imul (kd_m10_owes.at 12 rfl) ?_
    refine ok_iload_n 2 (kd_m10_owes.at 13 rfl) rfl rfl ?_
    refine ok_iadd (kd_m10_owes.at 14 rfl) ?_
    refine ok_topi (fun x4 hx4 => ?_)
    refine ok_iald (kd_m10_owes.at 15 rfl) sh_42 ?_
    refine ok_goto (tgt := 30) (kd_m10_owes.at 16 rfl) (by decide) ?_
    exact ok_ireturn (kd_m10_owes.at 18 rfl) rfl
def f_m10_net (a1 : Int32) (S : kSt) : Option (Int32 × kSt) :=
  (f_m10_isPair a1 S).bind fun q1 =>
  (f_m10_may_ q1.1 q1.2).bind fun q2 =>
  if q2.1 then
    (f_m0_reckon (q2.2.1 1 2) q2.2).bind fun q4 =>
    kgi a1 5 (
      some (q4.1 49 a1.toNatClampNeg, q4)
    )
  else
    some ((-1000000), q2.2)
theorem ok_m10_net {l : Launch} {G : kG} {E : kE} (a1 : Int32)  (S : kSt) : kFn l G E E kjI m10_net 3 [.ref 0, .int a1] S (f_m10_net a1 S) := by
  unfold f_m10_net
  refine kFn_of (by decide +kernel) (fun hG => Nat.le_of_ble_eq_true rfl) ?_
  show kOk _ _ _ _ _ _ _ _ [(0, .ref 0), (1, .int a1)] _ _
  refine ok_aload_n 0 (kd_m10_net.at 0 rfl) rfl rfl ?_
  refine ok_aload_n 0 (kd_m10_net.at 1 rfl) rfl rfl ?_
  refine ok_iload_n 1 (kd_m10_net.at 2 rfl) rfl rfl ?_
  refine ok_callVB (M' := m10_isPair) (as := [.int a1]) (st := [.ref 0]) (kd_m10_net.at 3 rfl) kc10_115 sh_0 rfl rfl (by decide) (ok_m10_isPair a1 S) (kfit_of (by decide)) rfl (Nat.le_of_ble_eq_true rfl) (fun q1 hq1 => ?_)
  refine ok_callVB (M' := m10_may_) (as := [.int (kb q1.1)]) (st := []) (kd_m10_net.at 4 rfl) kc10_154 sh_0 rfl rfl (by decide) (ok_m10_may_ q1.1 q1.2) (kfit_of (by decide)) rfl (Nat.le_of_ble_eq_true rfl) (fun q2 hq2 => ?_)
  refine ok_ifb_ne (tgt := 16) (kd_m10_net.at 5 rfl) (by decide) (fun h3 => ?_) (fun h3 => ?_)
  · refine ok_aload_n 0 (kd_m10_net.at 8 rfl) rfl rfl ?_
    refine ok_getR (kd_m10_net.at 9 rfl) kf10_82 sh_0 rfl (kr_0_15 _) ?_
    refine ok_aload_n 0 (kd_m10_net.at 10 rfl) rfl rfl ?_
    refine ok_getR (kd_m10_net.at 11 rfl) kf10_35 sh_0 rfl (kr_0_6 _) ?_
    refine ok_aload_n 0 (kd_m10_net.at 12 rfl) rfl rfl ?_
    refine ok_getR (kd_m10_net.at 13 rfl) kf10_16 sh_0 rfl (kr_0_2 _) ?_
    refine ok_getI (kd_m10_net.at 14 rfl) kf10_112 sh_1 rfl ?_
    refine ok_callVV (M' := m0_reckon) (as := [.ref 4, .int (q2.2.1 1 2)]) (st := []) (kd_m10_net.at 15 rfl) kc10_303 sh_10 rfl rfl (by decide) (ok_m0_reckon (q2.2.1 1 2) q2.2) (kfit_of (by decide)) rfl (Nat.le_of_ble_eq_true rfl) (fun q4 hq4 => ?_)
    refine ok_aload_n 0 (kd_m10_net.at 16 rfl) rfl rfl ?_
    refine ok_getR (kd_m10_net.at 17 rfl) kf10_82 sh_0 rfl (kr_0_15 _) ?_
    refine ok_getR (kd_m10_net.at 18 rfl) kf10_307 sh_10 rfl (kr_10_1 _) ?_
    refine ok_iload_n 1 (kd_m10_net.at 19 rfl) rfl rfl ?_
    refine ok_iald (kd_m10_net.at 20 rfl) sh_49 ?_
    exact ok_ireturn (kd_m10_net.at 21 rfl) rfl
  · refine ok_ldcw (kd_m10_net.at 6 rfl) kco_10_302 ?_
    exact ok_ireturn (kd_m10_net.at 7 rfl) rfl
def f_m10_due  (S : kSt) : Option (Int32 × kSt) :=
  kgb (S.1 0 5) fun b1 =>
  (f_m10_may_ b1 S).bind fun q2 =>
  if q2.1 then
    (f_m0_reckon (q2.2.1 1 2) q2.2).bind fun q4 =>
    (f_m0_owedInAll  q4).bind fun q5 =>
    some (q5.1, q5.2)
  else
    some ((-1), q2.2)
theorem ok_m10_due {l : Launch} {G : kG} {E : kE}   (S : kSt) : kFn l G E E kjI m10_due 3 [.ref 0] S (f_m10_due  S) := by
  unfold f_m10_due
  refine kFn_of (by decide +kernel) (fun hG => Nat.le_of_ble_eq_true rfl) ?_
  show kOk _ _ _ _ _ _ _ _ [(0, .ref 0)] _ _
  refine ok_aload_n 0 (kd_m10_due.at 0 rfl) rfl rfl ?_
  refine ok_aload_n 0 (kd_m10_due.at 1 rfl) rfl rfl ?_
  refine ok_getZ (kd_m10_due.at 2 rfl) kf10_108 sh_0 rfl (fun b1 => ?_)
  refine ok_callVB (M' := m10_may_) (as := [.int (kb b1)]) (st := []) (kd_m10_due.at 3 rfl) kc10_154 sh_0 rfl rfl (by decide) (ok_m10_may_ b1 S) (kfit_of (by decide)) rfl (Nat.le_of_ble_eq_true rfl) (fun q2 hq2 => ?_)
  refine ok_ifb_ne (tgt := 13) (kd_m10_due.at 4 rfl) (by decide) (fun h3 => ?_) (fun h3 => ?_)
  · refine ok_aload_n 0 (kd_m10_due.at 7 rfl) rfl rfl ?_
    refine ok_getR (kd_m10_due.at 8 rfl) kf10_82 sh_0 rfl (kr_0_15 _) ?_
    refine ok_aload_n 0 (kd_m10_due.at 9 rfl) rfl rfl ?_
    refine ok_getR (kd_m10_due.at 10 rfl) kf10_35 sh_0 rfl (kr_0_6 _) ?_
    refine ok_aload_n 0 (kd_m10_due.at 11 rfl) rfl rfl ?_
    refine ok_getR (kd_m10_due.at 12 rfl) kf10_16 sh_0 rfl (kr_0_2 _) ?_
    refine ok_getI (kd_m10_due.at 13 rfl) kf10_112 sh_1 rfl ?_
    refine ok_callVV (M' := m0_reckon) (as := [.ref 4, .int (q2.2.1 1 2)]) (st := []) (kd_m10_due.at 14 rfl) kc10_303 sh_10 rfl rfl (by decide) (ok_m0_reckon (q2.2.1 1 2) q2.2) (kfit_of (by decide)) rfl (Nat.le_of_ble_eq_true rfl) (fun q4 hq4 => ?_)
    refine ok_aload_n 0 (kd_m10_due.at 15 rfl) rfl rfl ?_
    refine ok_getR (kd_m10_due.at 16 rfl) kf10_82 sh_0 rfl (kr_0_15 _) ?_
    refine ok_callVI (M' := m0_owedInAll) (as := []) (st := []) (kd_m10_due.at 17 rfl) kc10_310 sh_10 rfl rfl (by decide) (ok_m0_owedInAll  q4) (kfit_of (by decide)) rfl (Nat.le_of_ble_eq_true rfl) (fun q5 hq5 => ?_)
    exact ok_ireturn (kd_m10_due.at 18 rfl) rfl
  · refine ok_iconst (v := (-1)) (kd_m10_due.at 5 rfl) (by decide) ?_
    exact ok_ireturn (kd_m10_due.at 6 rfl) rfl
def f_m10_creditor  (S : kSt) : Option (Int32 × kSt) :=
  kgb (S.1 0 5) fun b1 =>
  (f_m10_may_ b1 S).bind fun q2 =>
  if q2.1 then
    (f_m0_reckon (q2.2.1 1 2) q2.2).bind fun q4 =>
    (f_m10_firstMost 49 (q4.1 1 2) q4).bind fun q5 =>
    some (q5.1, q5.2)
  else
    some ((-1), q2.2)
theorem ok_m10_creditor {l : Launch} {G : kG} {E : kE}   (S : kSt) : kFn l G E E kjI m10_creditor 3 [.ref 0] S (f_m10_creditor  S) := by
  unfold f_m10_creditor
  refine kFn_of (by decide +kernel) (fun hG => Nat.le_of_ble_eq_true rfl) ?_
  show kOk _ _ _ _ _ _ _ _ [(0, .ref 0)] _ _
  refine ok_aload_n 0 (kd_m10_creditor.at 0 rfl) rfl rfl ?_
  refine ok_aload_n 0 (kd_m10_creditor.at 1 rfl) rfl rfl ?_
  refine ok_getZ (kd_m10_creditor.at 2 rfl) kf10_108 sh_0 rfl (fun b1 => ?_)
  refine ok_callVB (M' := m10_may_) (as := [.int (kb b1)]) (st := []) (kd_m10_creditor.at 3 rfl) kc10_154 sh_0 rfl rfl (by decide) (ok_m10_may_ b1 S) (kfit_of (by decide)) rfl (Nat.le_of_ble_eq_true rfl) (fun q2 hq2 => ?_)
  refine ok_ifb_ne (tgt := 13) (kd_m10_creditor.at 4 rfl) (by decide) (fun h3 => ?_) (fun h3 => ?_)
  · refine ok_aload_n 0 (kd_m10_creditor.at 7 rfl) rfl rfl ?_
    refine ok_getR (kd_m10_creditor.at 8 rfl) kf10_82 sh_0 rfl (kr_0_15 _) ?_
    refine ok_aload_n 0 (kd_m10_creditor.at 9 rfl) rfl rfl ?_
    refine ok_getR (kd_m10_creditor.at 10 rfl) kf10_35 sh_0 rfl (kr_0_6 _) ?_
    refine ok_aload_n 0 (kd_m10_creditor.at 11 rfl) rfl rfl ?_
    refine ok_getR (kd_m10_creditor.at 12 rfl) kf10_16 sh_0 rfl (kr_0_2 _) ?_
    refine ok_getI (kd_m10_creditor.at 13 rfl) kf10_112 sh_1 rfl ?_
    refine ok_callVV (M' := m0_reckon) (as := [.ref 4, .int (q2.2.1 1 2)]) (st := []) (kd_m10_creditor.at 14 rfl) kc10_303 sh_10 rfl rfl (by decide) (ok_m0_reckon (q2.2.1 1 2) q2.2) (kfit_of (by decide)) rfl (Nat.le_of_ble_eq_true rfl) (fun q4 hq4 => ?_)
    refine ok_aload_n 0 (kd_m10_creditor.at 15 rfl) rfl rfl ?_
    refine ok_getR (kd_m10_creditor.at 16 rfl) kf10_82 sh_0 rfl (kr_0_15 _) ?_
    refine ok_getR (kd_m10_creditor.at 17 rfl) kf10_307 sh_10 rfl (kr_10_1 _) ?_
    refine ok_aload_n 0 (kd_m10_creditor.at 18 rfl) rfl rfl ?_
    refine ok_getR (kd_m10_creditor.at 19 rfl) kf10_16 sh_0 rfl (kr_0_2 _) ?_
    refine ok_getI (kd_m10_creditor.at 20 rfl) kf10_112 sh_1 rfl ?_
    refine ok_callSI (M' := m10_firstMost) (as := [.ref 49, .int (q4.1 1 2)]) (st := []) (kd_m10_creditor.at 21 rfl) kc10_227  rfl (by decide) (ok_m10_firstMost 49 (q4.1 1 2) sh_49 q4) (kfit_of (by decide)) rfl (Nat.le_of_ble_eq_true rfl) (fun q5 hq5 => ?_)
    exact ok_ireturn (kd_m10_creditor.at 22 rfl) rfl
  · refine ok_iconst (v := (-1)) (kd_m10_creditor.at 5 rfl) (by decide) ?_
    exact ok_ireturn (kd_m10_creditor.at 6 rfl) rfl
def f_m10_payments  (S : kSt) : Option (Int32 × kSt) :=
  kgb (S.1 0 5) fun b1 =>
  (f_m10_may_ b1 S).bind fun q2 =>
  if q2.1 then
    (f_m0_reckon (q2.2.1 1 2) q2.2).bind fun q4 =>
    (f_m0_fewestPayments  q4).bind fun q5 =>
    some (q5.1, q5.2)
  else
    some ((-1), q2.2)
theorem ok_m10_payments {l : Launch} {G : kG} {E : kE}   (S : kSt) : kFn l G E E kjI m10_payments 3 [.ref 0] S (f_m10_payments  S) := by
  unfold f_m10_payments
  refine kFn_of (by decide +kernel) (fun hG => Nat.le_of_ble_eq_true rfl) ?_
  show kOk _ _ _ _ _ _ _ _ [(0, .ref 0)] _ _
  refine ok_aload_n 0 (kd_m10_payments.at 0 rfl) rfl rfl ?_
  refine ok_aload_n 0 (kd_m10_payments.at 1 rfl) rfl rfl ?_
  refine ok_getZ (kd_m10_payments.at 2 rfl) kf10_108 sh_0 rfl (fun b1 => ?_)
  refine ok_callVB (M' := m10_may_) (as := [.int (kb b1)]) (st := []) (kd_m10_payments.at 3 rfl) kc10_154 sh_0 rfl rfl (by decide) (ok_m10_may_ b1 S) (kfit_of (by decide)) rfl (Nat.le_of_ble_eq_true rfl) (fun q2 hq2 => ?_)
  refine ok_ifb_ne (tgt := 13) (kd_m10_payments.at 4 rfl) (by decide) (fun h3 => ?_) (fun h3 => ?_)
  · refine ok_aload_n 0 (kd_m10_payments.at 7 rfl) rfl rfl ?_
    refine ok_getR (kd_m10_payments.at 8 rfl) kf10_82 sh_0 rfl (kr_0_15 _) ?_
    refine ok_aload_n 0 (kd_m10_payments.at 9 rfl) rfl rfl ?_
    refine ok_getR (kd_m10_payments.at 10 rfl) kf10_35 sh_0 rfl (kr_0_6 _) ?_
    refine ok_aload_n 0 (kd_m10_payments.at 11 rfl) rfl rfl ?_
    refine ok_getR (kd_m10_payments.at 12 rfl) kf10_16 sh_0 rfl (kr_0_2 _) ?_
    refine ok_getI (kd_m10_payments.at 13 rfl) kf10_112 sh_1 rfl ?_
    refine ok_callVV (M' := m0_reckon) (as := [.ref 4, .int (q2.2.1 1 2)]) (st := []) (kd_m10_payments.at 14 rfl) kc10_303 sh_10 rfl rfl (by decide) (ok_m0_reckon (q2.2.1 1 2) q2.2) (kfit_of (by decide)) rfl (Nat.le_of_ble_eq_true rfl) (fun q4 hq4 => ?_)
    refine ok_aload_n 0 (kd_m10_payments.at 15 rfl) rfl rfl ?_
    refine ok_getR (kd_m10_payments.at 16 rfl) kf10_82 sh_0 rfl (kr_0_15 _) ?_
    refine ok_callVI (M' := m0_fewestPayments) (as := []) (st := []) (kd_m10_payments.at 17 rfl) kc10_313 sh_10 rfl rfl (by decide) (ok_m0_fewestPayments  q4) (kfit_of (by decide)) rfl (Nat.le_of_ble_eq_true rfl) (fun q5 hq5 => ?_)
    exact ok_ireturn (kd_m10_payments.at 18 rfl) rfl
  · refine ok_iconst (v := (-1)) (kd_m10_payments.at 5 rfl) (by decide) ?_
    exact ok_ireturn (kd_m10_payments.at 6 rfl) rfl
def f_m10_ring (a1 : Int32) (S : kSt) : Option (Int32 × kSt) :=
  (f_m10_isPair a1 S).bind fun q1 =>
  (f_m10_may_ q1.1 q1.2).bind fun q2 =>
  if q2.1 then
    (f_m0_findRing (q2.2.1 1 2) a1 q2.2).bind fun q4 =>
    if (q4.1 10 6) = 0 then
      some ((-2), q4)
    else
      some (q4.1 10 6, q4)
  else
    some ((-1), q2.2)
theorem ok_m10_ring {l : Launch} {G : kG} {E : kE} (a1 : Int32)  (S : kSt) : kFn l G E E kjI m10_ring 4 [.ref 0, .int a1] S (f_m10_ring a1 S) := by
  unfold f_m10_ring
  refine kFn_of (by decide +kernel) (fun hG => Nat.le_of_ble_eq_true rfl) ?_
  show kOk _ _ _ _ _ _ _ _ [(0, .ref 0), (1, .int a1)] _ _
  refine ok_aload_n 0 (kd_m10_ring.at 0 rfl) rfl rfl ?_
  refine ok_aload_n 0 (kd_m10_ring.at 1 rfl) rfl rfl ?_
  refine ok_iload_n 1 (kd_m10_ring.at 2 rfl) rfl rfl ?_
  refine ok_callVB (M' := m10_isPair) (as := [.int a1]) (st := [.ref 0]) (kd_m10_ring.at 3 rfl) kc10_115 sh_0 rfl rfl (by decide) (ok_m10_isPair a1 S) (kfit_of (by decide)) rfl (Nat.le_of_ble_eq_true rfl) (fun q1 hq1 => ?_)
  refine ok_callVB (M' := m10_may_) (as := [.int (kb q1.1)]) (st := []) (kd_m10_ring.at 4 rfl) kc10_154 sh_0 rfl rfl (by decide) (ok_m10_may_ q1.1 q1.2) (kfit_of (by decide)) rfl (Nat.le_of_ble_eq_true rfl) (fun q2 hq2 => ?_)
  refine ok_ifb_ne (tgt := 14) (kd_m10_ring.at 5 rfl) (by decide) (fun h3 => ?_) (fun h3 => ?_)
  · refine ok_aload_n 0 (kd_m10_ring.at 8 rfl) rfl rfl ?_
    refine ok_getR (kd_m10_ring.at 9 rfl) kf10_82 sh_0 rfl (kr_0_15 _) ?_
    refine ok_aload_n 0 (kd_m10_ring.at 10 rfl) rfl rfl ?_
    refine ok_getR (kd_m10_ring.at 11 rfl) kf10_35 sh_0 rfl (kr_0_6 _) ?_
    refine ok_aload_n 0 (kd_m10_ring.at 12 rfl) rfl rfl ?_
    refine ok_getR (kd_m10_ring.at 13 rfl) kf10_16 sh_0 rfl (kr_0_2 _) ?_
    refine ok_getI (kd_m10_ring.at 14 rfl) kf10_112 sh_1 rfl ?_
    refine ok_iload_n 1 (kd_m10_ring.at 15 rfl) rfl rfl ?_
    refine ok_callVV (M' := m0_findRing) (as := [.ref 4, .int (q2.2.1 1 2), .int a1]) (st := []) (kd_m10_ring.at 16 rfl) kc10_316 sh_10 rfl rfl (by decide) (ok_m0_findRing (q2.2.1 1 2) a1 q2.2) (kfit_of (by decide)) rfl (Nat.le_of_ble_eq_true rfl) (fun q4 hq4 => ?_)
    refine ok_aload_n 0 (kd_m10_ring.at 17 rfl) rfl rfl ?_
    refine ok_getR (kd_m10_ring.at 18 rfl) kf10_82 sh_0 rfl (kr_0_15 _) ?_
    refine ok_getI (kd_m10_ring.at 19 rfl) kf10_320 sh_10 rfl ?_
    refine ok_if_ne (tgt := 48) (kd_m10_ring.at 20 rfl) (by decide) (fun h5 => ?_) (fun h5 => ?_)
    · refine ok_aload_n 0 (kd_m10_ring.at 23 rfl) rfl rfl ?_
      refine ok_getR (kd_m10_ring.at 24 rfl) kf10_82 sh_0 rfl (kr_0_15 _) ?_
      refine ok_getI (kd_m10_ring.at 25 rfl) kf10_320 sh_10 rfl ?_
      exact ok_ireturn (kd_m10_ring.at 26 rfl) rfl
    · refine ok_bipush (v := (-2)) (kd_m10_ring.at 21 rfl) (by decide) ?_
      refine ok_goto (tgt := 55) (kd_m10_ring.at 22 rfl) (by decide) ?_
      exact ok_ireturn (kd_m10_ring.at 26 rfl) rfl
  · refine ok_iconst (v := (-1)) (kd_m10_ring.at 6 rfl) (by decide) ?_
    exact ok_ireturn (kd_m10_ring.at 7 rfl) rfl
def f_m10_ringAt (a1 : Int32) (a2 : Int32) (S : kSt) : Option (Int32 × kSt) :=
  (f_m10_isPair a1 S).bind fun q1 =>
  (f_m10_may_ q1.1 q1.2).bind fun q2 =>
  if q2.1 then
    (f_m0_findRing (q2.2.1 1 2) a1 q2.2).bind fun q4 =>
    knx (fun  (S5 : kSt) =>
      (f_m10_refuse 1 S5).bind fun q6 =>
      some (q6.1, q6.2)
      ) fun j60 =>
    if a2 < 0 then
      j60  q4
    else
      if (q4.1 10 6) ≤ a2 then
        j60  q4
      else
        kgi a2 5 (
          some (q4.1 53 a2.toNatClampNeg, q4)
        )
  else
    some ((-1), q2.2)
theorem ok_m10_ringAt {l : Launch} {G : kG} {E : kE} (a1 : Int32) (a2 : Int32)  (S : kSt) : kFn l G E E kjI m10_ringAt 4 [.ref 0, .int a1, .int a2] S (f_m10_ringAt a1 a2 S) := by
  unfold f_m10_ringAt
  refine kFn_of (by decide +kernel) (fun hG => Nat.le_of_ble_eq_true rfl) ?_
  show kOk _ _ _ _ _ _ _ _ [(0, .ref 0), (1, .int a1), (2, .int a2)] _ _
  refine ok_aload_n 0 (kd_m10_ringAt.at 0 rfl) rfl rfl ?_
  refine ok_aload_n 0 (kd_m10_ringAt.at 1 rfl) rfl rfl ?_
  refine ok_iload_n 1 (kd_m10_ringAt.at 2 rfl) rfl rfl ?_
  refine ok_callVB (M' := m10_isPair) (as := [.int a1]) (st := [.ref 0]) (kd_m10_ringAt.at 3 rfl) kc10_115 sh_0 rfl rfl (by decide) (ok_m10_isPair a1 S) (kfit_of (by decide)) rfl (Nat.le_of_ble_eq_true rfl) (fun q1 hq1 => ?_)
  refine ok_callVB (M' := m10_may_) (as := [.int (kb q1.1)]) (st := []) (kd_m10_ringAt.at 4 rfl) kc10_154 sh_0 rfl rfl (by decide) (ok_m10_may_ q1.1 q1.2) (kfit_of (by decide)) rfl (Nat.le_of_ble_eq_true rfl) (fun q2 hq2 => ?_)
  refine ok_ifb_ne (tgt := 14) (kd_m10_ringAt.at 5 rfl) (by decide) (fun h3 => ?_) (fun h3 => ?_)
  · refine ok_aload_n 0 (kd_m10_ringAt.at 8 rfl) rfl rfl ?_
    refine ok_getR (kd_m10_ringAt.at 9 rfl) kf10_82 sh_0 rfl (kr_0_15 _) ?_
    refine ok_aload_n 0 (kd_m10_ringAt.at 10 rfl) rfl rfl ?_
    refine ok_getR (kd_m10_ringAt.at 11 rfl) kf10_35 sh_0 rfl (kr_0_6 _) ?_
    refine ok_aload_n 0 (kd_m10_ringAt.at 12 rfl) rfl rfl ?_
    refine ok_getR (kd_m10_ringAt.at 13 rfl) kf10_16 sh_0 rfl (kr_0_2 _) ?_
    refine ok_getI (kd_m10_ringAt.at 14 rfl) kf10_112 sh_1 rfl ?_
    refine ok_iload_n 1 (kd_m10_ringAt.at 15 rfl) rfl rfl ?_
    refine ok_callVV (M' := m0_findRing) (as := [.ref 4, .int (q2.2.1 1 2), .int a1]) (st := []) (kd_m10_ringAt.at 16 rfl) kc10_316 sh_10 rfl rfl (by decide) (ok_m0_findRing (q2.2.1 1 2) a1 q2.2) (kfit_of (by decide)) rfl (Nat.le_of_ble_eq_true rfl) (fun q4 hq4 => ?_)
    refine ok_iload_n 2 (kd_m10_ringAt.at 17 rfl) rfl rfl ?_
    refine ok_nx (fun j60 hj60 => ?_)
    have K60 : ∀  (S5 : kSt), kOk l G E (kZ G E kjI) m10_ringAt (kdp (4)) (j60  S5) 60 [(0, .ref 0)] [] S5 := by
      subst hj60
      intro  S5
      refine ok_aload_n 0 (kd_m10_ringAt.at 30 rfl) rfl rfl ?_
      refine ok_iconst (v := 1) (kd_m10_ringAt.at 31 rfl) (by decide) ?_
      refine ok_callVI (M' := m10_refuse) (as := [.int 1]) (st := []) (kd_m10_ringAt.at 32 rfl) kc10_130 sh_0 rfl rfl (by decide) (ok_m10_refuse 1 S5) (kfit_of (by decide)) rfl (Nat.le_of_ble_eq_true rfl) (fun q6 hq6 => ?_)
      exact ok_ireturn (kd_m10_ringAt.at 33 rfl) rfl
    clear hj60
    refine ok_if_lt (tgt := 60) (kd_m10_ringAt.at 18 rfl) (by decide) (fun h7 => ?_) (fun h7 => ?_)
    · refine ok_sub (lv' := [(0, .ref 0)]) [0] rfl ?_
      exact K60  q4
    · refine ok_iload_n 2 (kd_m10_ringAt.at 19 rfl) rfl rfl ?_
      refine ok_aload_n 0 (kd_m10_ringAt.at 20 rfl) rfl rfl ?_
      refine ok_getR (kd_m10_ringAt.at 21 rfl) kf10_82 sh_0 rfl (kr_0_15 _) ?_
      refine ok_getI (kd_m10_ringAt.at 22 rfl) kf10_320 sh_10 rfl ?_
      refine ok_icmp_ge (tgt := 60) (kd_m10_ringAt.at 23 rfl) (by decide) (fun h8 => ?_) (fun h8 => ?_)
      · refine ok_sub (lv' := [(0, .ref 0)]) [0] rfl ?_
        exact K60  q4
      · refine ok_aload_n 0 (kd_m10_ringAt.at 24 rfl) rfl rfl ?_
        refine ok_getR (kd_m10_ringAt.at 25 rfl) kf10_82 sh_0 rfl (kr_0_15 _) ?_
        refine ok_getR (kd_m10_ringAt.at 26 rfl) kf10_323 sh_10 rfl (kr_10_5 _) ?_
        refine ok_iload_n 2 (kd_m10_ringAt.at 27 rfl) rfl rfl ?_
        refine ok_iald (kd_m10_ringAt.at 28 rfl) sh_53 ?_
        refine ok_goto (tgt := 65) (kd_m10_ringAt.at 29 rfl) (by decide) ?_
        exact ok_ireturn (kd_m10_ringAt.at 33 rfl) rfl
  · refine ok_iconst (v := (-1)) (kd_m10_ringAt.at 6 rfl) (by decide) ?_
    exact ok_ireturn (kd_m10_ringAt.at 7 rfl) rfl
def f_m10_share (a0 : Int32) (a1 : Bool) (a2 : Bool) (S : kSt) : Option (Int32 × kSt) :=
  if a1 then
    if a2 then
      some (1 - a0, S)
    else
      some (4, S)
  else
    if a2 then
      some ((-1), S)
    else
      some (0, S)
theorem ok_m10_share {l : Launch} {G : kG} {E : kE} (a0 : Int32) (a1 : Bool) (a2 : Bool)  (S : kSt) : kFn l G E E kjI m10_share 1 [.int a0, .int (kb a1), .int (kb a2)] S (f_m10_share a0 a1 a2 S) := by
  unfold f_m10_share
  refine kFn_of (by decide +kernel) (fun hG => Nat.le_of_ble_eq_true rfl) ?_
  show kOk _ _ _ _ _ _ _ _ [(0, .int a0), (1, .int (kb a1)), (2, .int (kb a2))] _ _
  refine ok_iload_n 1 (kd_m10_share.at 0 rfl) rfl rfl ?_
  refine ok_ifb_eq (tgt := 16) (kd_m10_share.at 1 rfl) (by decide) (fun h1 => ?_) (fun h1 => ?_)
  · refine ok_iload_n 2 (kd_m10_share.at 10 rfl) rfl rfl ?_
    refine ok_ifb_eq (tgt := 24) (kd_m10_share.at 11 rfl) (by decide) (fun h2 => ?_) (fun h2 => ?_)
    · refine ok_iconst (v := 0) (kd_m10_share.at 14 rfl) (by decide) ?_
      exact ok_ireturn (kd_m10_share.at 15 rfl) rfl
    · refine ok_iconst (v := (-1)) (kd_m10_share.at 12 rfl) (by decide) ?_
      refine ok_goto (tgt := 25) (kd_m10_share.at 13 rfl) (by decide) ?_
      exact ok_ireturn (kd_m10_share.at 15 rfl) rfl
  · refine ok_iload_n 2 (kd_m10_share.at 2 rfl) rfl rfl ?_
    refine ok_ifb_eq (tgt := 14) (kd_m10_share.at 3 rfl) (by decide) (fun h3 => ?_) (fun h3 => ?_)
    · refine ok_iconst (v := 4) (kd_m10_share.at 8 rfl) (by decide) ?_
      exact ok_ireturn (kd_m10_share.at 9 rfl) rfl
    · refine ok_iconst (v := 1) (kd_m10_share.at 4 rfl) (by decide) ?_
      refine ok_iload_n 0 (kd_m10_share.at 5 rfl) rfl rfl ?_
      refine ok_isub (kd_m10_share.at 6 rfl) ?_
      refine ok_goto (tgt := 15) (kd_m10_share.at 7 rfl) (by decide) ?_
      exact ok_ireturn (kd_m10_share.at 9 rfl) rfl
def f_m10_isRest (a0 : Int32) (a1 : Bool) (a2 : Bool) (S : kSt) : Option (Bool × kSt) :=
  (f_m10_share a0 a1 a2 S).bind fun q1 =>
  knx (if a1 then false else true) fun x3 =>
  (f_m10_share a0 x3 a2 q1.2).bind fun q4 =>
  if q1.1 < q4.1 then
    some (false, q4.2)
  else
    (f_m10_share a0 a2 a1 q4.2).bind fun q6 =>
    knx (if a2 then false else true) fun x8 =>
    (f_m10_share a0 x8 a1 q6.2).bind fun q9 =>
    if q6.1 < q9.1 then
      some (false, q9.2)
    else
      some (true, q9.2)
theorem ok_m10_isRest {l : Launch} {G : kG} {E : kE} (a0 : Int32) (a1 : Bool) (a2 : Bool)  (S : kSt) : kFn l G E E kjB m10_isRest 2 [.int a0, .int (kb a1), .int (kb a2)] S (f_m10_isRest a0 a1 a2 S) := by
  unfold f_m10_isRest
  refine kFn_of (by decide +kernel) (fun hG => Nat.le_of_ble_eq_true rfl) ?_
  show kOk _ _ _ _ _ _ _ _ [(0, .int a0), (1, .int (kb a1)), (2, .int (kb a2))] _ _
  refine ok_iload_n 0 (kd_m10_isRest.at 0 rfl) rfl rfl ?_
  refine ok_iload_n 1 (kd_m10_isRest.at 1 rfl) rfl rfl ?_
  refine ok_iload_n 2 (kd_m10_isRest.at 2 rfl) rfl rfl ?_
  refine ok_callSI (M' := m10_share) (as := [.int a0, .int (kb a1), .int (kb a2)]) (st := []) (kd_m10_isRest.at 3 rfl) kc10_326  rfl (by decide) (ok_m10_share a0 a1 a2 S) (kfit_of (by decide)) rfl (Nat.le_of_ble_eq_true rfl) (fun q1 hq1 => ?_)
  refine ok_iload_n 0 (kd_m10_isRest.at 4 rfl) rfl rfl ?_
  refine ok_iload_n 1 (kd_m10_isRest.at 5 rfl) rfl rfl ?_
  refine ok_fold (α := Bool) (pcJ := 16) (lvJ := [(0, .int a0), (1, .int (kb a1)), (2, .int (kb a2))]) (stJ := [.int a0, .int q1.1]) (mk := fun v => .int (kb v)) (fun K => ?_) (fun x3 => ?_)
  · refine ok_ap ?_
    refine ok_ifb_ne (tgt := 15) (kd_m10_isRest.at 6 rfl) (by decide) (fun h2 => ?_) (fun h2 => ?_)
    · refine ok_iconst (v := 0) (kd_m10_isRest.at 9 rfl) (by decide) ?_
      exact K false
    · refine ok_iconst (v := 1) (kd_m10_isRest.at 7 rfl) (by decide) ?_
      refine ok_goto (tgt := 16) (kd_m10_isRest.at 8 rfl) (by decide) ?_
      exact K true
  · refine ok_iload_n 2 (kd_m10_isRest.at 10 rfl) rfl rfl ?_
    refine ok_callSI (M' := m10_share) (as := [.int a0, .int (kb x3), .int (kb a2)]) (st := [.int q1.1]) (kd_m10_isRest.at 11 rfl) kc10_326  rfl (by decide) (ok_m10_share a0 x3 a2 q1.2) (kfit_of (by decide)) rfl (Nat.le_of_ble_eq_true rfl) (fun q4 hq4 => ?_)
    refine ok_icmp_lt (tgt := 50) (kd_m10_isRest.at 12 rfl) (by decide) (fun h5 => ?_) (fun h5 => ?_)
    · refine ok_iconst (v := 0) (kd_m10_isRest.at 28 rfl) (by decide) ?_
      exact ok_zreturn (x := false) (kd_m10_isRest.at 29 rfl) rfl
    · refine ok_iload_n 0 (kd_m10_isRest.at 13 rfl) rfl rfl ?_
      refine ok_iload_n 2 (kd_m10_isRest.at 14 rfl) rfl rfl ?_
      refine ok_iload_n 1 (kd_m10_isRest.at 15 rfl) rfl rfl ?_
      refine ok_callSI (M' := m10_share) (as := [.int a0, .int (kb a2), .int (kb a1)]) (st := []) (kd_m10_isRest.at 16 rfl) kc10_326  rfl (by decide) (ok_m10_share a0 a2 a1 q4.2) (kfit_of (by decide)) rfl (Nat.le_of_ble_eq_true rfl) (fun q6 hq6 => ?_)
      refine ok_iload_n 0 (kd_m10_isRest.at 17 rfl) rfl rfl ?_
      refine ok_iload_n 2 (kd_m10_isRest.at 18 rfl) rfl rfl ?_
      refine ok_fold (α := Bool) (pcJ := 39) (lvJ := [(0, .int a0), (1, .int (kb a1)), (2, .int (kb a2))]) (stJ := [.int a0, .int q6.1]) (mk := fun v => .int (kb v)) (fun K => ?_) (fun x8 => ?_)
      · refine ok_ap ?_
        refine ok_ifb_ne (tgt := 38) (kd_m10_isRest.at 19 rfl) (by decide) (fun h7 => ?_) (fun h7 => ?_)
        · refine ok_iconst (v := 0) (kd_m10_isRest.at 22 rfl) (by decide) ?_
          exact K false
        · refine ok_iconst (v := 1) (kd_m10_isRest.at 20 rfl) (by decide) ?_
          refine ok_goto (tgt := 39) (kd_m10_isRest.at 21 rfl) (by decide) ?_
          exact K true
      · refine ok_iload_n 1 (kd_m10_isRest.at 23 rfl) rfl rfl ?_
        refine ok_callSI (M' := m10_share) (as := [.int a0, .int (kb x8), .int (kb a1)]) (st := [.int q6.1]) (kd_m10_isRest.at 24 rfl) kc10_326  rfl (by decide) (ok_m10_share a0 x8 a1 q6.2) (kfit_of (by decide)) rfl (Nat.le_of_ble_eq_true rfl) (fun q9 hq9 => ?_)
        refine ok_icmp_lt (tgt := 50) (kd_m10_isRest.at 25 rfl) (by decide) (fun h10 => ?_) (fun h10 => ?_)
        · refine ok_iconst (v := 0) (kd_m10_isRest.at 28 rfl) (by decide) ?_
          exact ok_zreturn (x := false) (kd_m10_isRest.at 29 rfl) rfl
        · refine ok_iconst (v := 1) (kd_m10_isRest.at 26 rfl) (by decide) ?_
          refine ok_goto (tgt := 51) (kd_m10_isRest.at 27 rfl) (by decide) ?_
          exact ok_zreturn (x := true) (kd_m10_isRest.at 29 rfl) rfl
def f_m10_isRestAt (a0 : Int32) (a1 : Int32) (S : kSt) : Option (Bool × kSt) :=
  knx (if a1 < 2 then false else true) fun x2 =>
  knx (if (krem a1 2) = 1 then true else false) fun x4 =>
  (f_m10_isRest a0 x2 x4 S).bind fun q5 =>
  some (q5.1, q5.2)
theorem ok_m10_isRestAt {l : Launch} {G : kG} {E : kE} (a0 : Int32) (a1 : Int32)  (S : kSt) : kFn l G E E kjB m10_isRestAt 3 [.int a0, .int a1] S (f_m10_isRestAt a0 a1 S) := by
  unfold f_m10_isRestAt
  refine kFn_of (by decide +kernel) (fun hG => Nat.le_of_ble_eq_true rfl) ?_
  show kOk _ _ _ _ _ _ _ _ [(0, .int a0), (1, .int a1)] _ _
  refine ok_iload_n 0 (kd_m10_isRestAt.at 0 rfl) rfl rfl ?_
  refine ok_iload_n 1 (kd_m10_isRestAt.at 1 rfl) rfl rfl ?_
  refine ok_iconst (v := 2) (kd_m10_isRestAt.at 2 rfl) (by decide) ?_
  refine ok_fold (α := Bool) (pcJ := 11) (lvJ := [(0, .int a0), (1, .int a1)]) (stJ := [.int a0]) (mk := fun v => .int (kb v)) (fun K => ?_) (fun x2 => ?_)
  · refine ok_ap ?_
    refine ok_icmp_lt (tgt := 10) (kd_m10_isRestAt.at 3 rfl) (by decide) (fun h1 => ?_) (fun h1 => ?_)
    · refine ok_iconst (v := 0) (kd_m10_isRestAt.at 6 rfl) (by decide) ?_
      exact K false
    · refine ok_iconst (v := 1) (kd_m10_isRestAt.at 4 rfl) (by decide) ?_
      refine ok_goto (tgt := 11) (kd_m10_isRestAt.at 5 rfl) (by decide) ?_
      exact K true
  · refine ok_iload_n 1 (kd_m10_isRestAt.at 7 rfl) rfl rfl ?_
    refine ok_iconst (v := 2) (kd_m10_isRestAt.at 8 rfl) (by decide) ?_
    refine ok_iremK (kd_m10_isRestAt.at 9 rfl) (by decide) ?_
    refine ok_iconst (v := 1) (kd_m10_isRestAt.at 10 rfl) (by decide) ?_
    refine ok_fold (α := Bool) (pcJ := 23) (lvJ := [(0, .int a0), (1, .int a1)]) (stJ := [.int (kb x2), .int a0]) (mk := fun v => .int (kb v)) (fun K => ?_) (fun x4 => ?_)
    · refine ok_ap ?_
      refine ok_icmp_ne (tgt := 22) (kd_m10_isRestAt.at 11 rfl) (by decide) (fun h3 => ?_) (fun h3 => ?_)
      · refine ok_iconst (v := 0) (kd_m10_isRestAt.at 14 rfl) (by decide) ?_
        exact K false
      · refine ok_iconst (v := 1) (kd_m10_isRestAt.at 12 rfl) (by decide) ?_
        refine ok_goto (tgt := 23) (kd_m10_isRestAt.at 13 rfl) (by decide) ?_
        exact K true
    · refine ok_callSB (M' := m10_isRest) (as := [.int a0, .int (kb x2), .int (kb x4)]) (st := []) (kd_m10_isRestAt.at 15 rfl) kc10_330  rfl (by decide) (ok_m10_isRest a0 x2 x4 S) (kfit_of (by decide)) rfl (Nat.le_of_ble_eq_true rfl) (fun q5 hq5 => ?_)
      exact ok_zreturn (x := q5.1) (kd_m10_isRestAt.at 16 rfl) rfl
def f_m10_talks (a1 : Int32) (a2 : Bool) (a3 : Bool) (a4 : Bool) (S : kSt) : Option (Int32 × kSt) :=
  kgb (S.1 0 5) fun b1 =>
  (f_m10_upTo a1 9 S).bind fun q2 =>
  (f_m10_may b1 q2.1 q2.2).bind fun q3 =>
  if q3.1 then
    if a4 then
      (f_m10_share a1 a3 a2 q3.2).bind fun q7 =>
      some (q7.1, q7.2)
    else
      (f_m10_share a1 a2 a3 q3.2).bind fun q6 =>
      some (q6.1, q6.2)
  else
    some ((-100), q3.2)
theorem ok_m10_talks {l : Launch} {G : kG} {E : kE} (a1 : Int32) (a2 : Bool) (a3 : Bool) (a4 : Bool)  (S : kSt) : kFn l G E E kjI m10_talks 2 [.ref 0, .int a1, .int (kb a2), .int (kb a3), .int (kb a4)] S (f_m10_talks a1 a2 a3 a4 S) := by
  unfold f_m10_talks
  refine kFn_of (by decide +kernel) (fun hG => Nat.le_of_ble_eq_true rfl) ?_
  show kOk _ _ _ _ _ _ _ _ [(0, .ref 0), (1, .int a1), (2, .int (kb a2)), (3, .int (kb a3)), (4, .int (kb a4))] _ _
  refine ok_aload_n 0 (kd_m10_talks.at 0 rfl) rfl rfl ?_
  refine ok_aload_n 0 (kd_m10_talks.at 1 rfl) rfl rfl ?_
  refine ok_getZ (kd_m10_talks.at 2 rfl) kf10_108 sh_0 rfl (fun b1 => ?_)
  refine ok_iload_n 1 (kd_m10_talks.at 3 rfl) rfl rfl ?_
  refine ok_bipush (v := 9) (kd_m10_talks.at 4 rfl) (by decide) ?_
  refine ok_callSB (M' := m10_upTo) (as := [.int a1, .int 9]) (st := [.int (kb b1), .ref 0]) (kd_m10_talks.at 5 rfl) kc10_126  rfl (by decide) (ok_m10_upTo a1 9 S) (kfit_of (by decide)) rfl (Nat.le_of_ble_eq_true rfl) (fun q2 hq2 => ?_)
  refine ok_callVB (M' := m10_may) (as := [.int (kb b1), .int (kb q2.1)]) (st := []) (kd_m10_talks.at 6 rfl) kc10_104 sh_0 rfl rfl (by decide) (ok_m10_may b1 q2.1 q2.2) (kfit_of (by decide)) rfl (Nat.le_of_ble_eq_true rfl) (fun q3 hq3 => ?_)
  refine ok_ifb_ne (tgt := 20) (kd_m10_talks.at 7 rfl) (by decide) (fun h4 => ?_) (fun h4 => ?_)
  · refine ok_iload 4 (kd_m10_talks.at 10 rfl) rfl ?_
    refine ok_ifb_eq (tgt := 34) (kd_m10_talks.at 11 rfl) (by decide) (fun h5 => ?_) (fun h5 => ?_)
    · refine ok_iload_n 1 (kd_m10_talks.at 17 rfl) rfl rfl ?_
      refine ok_iload_n 2 (kd_m10_talks.at 18 rfl) rfl rfl ?_
      refine ok_iload_n 3 (kd_m10_talks.at 19 rfl) rfl rfl ?_
      refine ok_callSI (M' := m10_share) (as := [.int a1, .int (kb a2), .int (kb a3)]) (st := []) (kd_m10_talks.at 20 rfl) kc10_326  rfl (by decide) (ok_m10_share a1 a2 a3 q3.2) (kfit_of (by decide)) rfl (Nat.le_of_ble_eq_true rfl) (fun q6 hq6 => ?_)
      exact ok_ireturn (kd_m10_talks.at 21 rfl) rfl
    · refine ok_iload_n 1 (kd_m10_talks.at 12 rfl) rfl rfl ?_
      refine ok_iload_n 3 (kd_m10_talks.at 13 rfl) rfl rfl ?_
      refine ok_iload_n 2 (kd_m10_talks.at 14 rfl) rfl rfl ?_
      refine ok_callSI (M' := m10_share) (as := [.int a1, .int (kb a3), .int (kb a2)]) (st := []) (kd_m10_talks.at 15 rfl) kc10_326  rfl (by decide) (ok_m10_share a1 a3 a2 q3.2) (kfit_of (by decide)) rfl (Nat.le_of_ble_eq_true rfl) (fun q7 hq7 => ?_)
      refine ok_goto (tgt := 40) (kd_m10_talks.at 16 rfl) (by decide) ?_
      exact ok_ireturn (kd_m10_talks.at 21 rfl) rfl
  · refine ok_bipush (v := (-100)) (kd_m10_talks.at 8 rfl) (by decide) ?_
    exact ok_ireturn (kd_m10_talks.at 9 rfl) rfl
def f_m10_rests_L23   (k45 : Int32 → kSt → Option (Int32 × kSt)) (c1 : Int32) : Nat → Int32 → Int32 → kSt → Option (Int32 × kSt)
  | 0, _, _, _ => none
  | n + 1, v2, v3, S =>
    if 4 ≤ v3 then
      k45 v2 S
    else
      (f_m10_isRestAt c1 v3 S).bind fun q6 =>
      knx (fun (x7 : Int32) (S8 : kSt) =>
        knx (v3 + 1) fun x9 =>
        f_m10_rests_L23 k45 c1 n x7 x9 S8
        ) fun j39 =>
      if q6.1 then
        knx (v2 + 1) fun x11 =>
        j39 x11 q6.2
      else
        j39 v2 q6.2
theorem ok_m10_rests_L23 {l : Launch} {G : kG} {E : kE}    (c1 : Int32) (k45 : Int32 → kSt → Option (Int32 × kSt)) (hk45 : ∀ (v2 : Int32) (S : kSt), kOk l G E (kZ G E kjI) m10_rests (kdp (4)) (k45 v2 S) 45 [(2, .int v2)] [] S) : ∀ (n : Nat) (v2 : Int32) (v3 : Int32) (S : kSt), kOk l G E (kZ G E kjI) m10_rests (kdp (4)) (f_m10_rests_L23 k45 c1 n v2 v3 S) 23 [(1, .int c1), (2, .int v2), (3, .int v3)] [] S := by
  intro n
  induction n with
  | zero => intro v2 v3 S; exact ok_none
  | succ n ih =>
    intro v2 v3 S
    rw [f_m10_rests_L23]
    refine ok_iload_n 2 (kd_m10_rests.at 14 rfl) rfl rfl ?_
    refine ok_iconst (v := 4) (kd_m10_rests.at 15 rfl) (by decide) ?_
    refine ok_icmp_ge (tgt := 45) (kd_m10_rests.at 16 rfl) (by decide) (fun h5 => ?_) (fun h5 => ?_)
    · refine ok_sub (lv' := [(2, .int v2)]) [1] rfl ?_
      exact hk45 v2 S
    · refine ok_iload_n 0 (kd_m10_rests.at 17 rfl) rfl rfl ?_
      refine ok_iload_n 2 (kd_m10_rests.at 18 rfl) rfl rfl ?_
      refine ok_callSB (M' := m10_isRestAt) (as := [.int c1, .int v3]) (st := []) (kd_m10_rests.at 19 rfl) kc10_334  rfl (by decide) (ok_m10_isRestAt c1 v3 S) (kfit_of (by decide)) rfl (Nat.le_of_ble_eq_true rfl) (fun q6 hq6 => ?_)
      refine ok_nx (fun j39 hj39 => ?_)
      have K39 : ∀ (x7 : Int32) (S8 : kSt), kOk l G E (kZ G E kjI) m10_rests (kdp (4)) (j39 x7 S8) 39 [(1, .int c1), (2, .int x7), (3, .int v3)] [] S8 := by
        subst hj39
        intro x7 S8
        refine ok_nx (fun x9 hx9 => ?_)
        refine ok_iinc (v := x9) (lv' := [(3, .int x9), (1, .int c1), (2, .int x7)]) 2 (kd_m10_rests.at 22 rfl) rfl hx9.symm (by decide) rfl ?_
        refine ok_goto (tgt := 23) (kd_m10_rests.at 23 rfl) (by decide) ?_
        refine ok_sub (lv' := [(1, .int c1), (2, .int x7), (3, .int x9)]) [1, 2, 0] rfl ?_
        exact ih x7 x9 S8
      clear hj39
      refine ok_ifb_eq (tgt := 39) (kd_m10_rests.at 20 rfl) (by decide) (fun h10 => ?_) (fun h10 => ?_)
      · exact K39 v2 q6.2
      · refine ok_nx (fun x11 hx11 => ?_)
        refine ok_iinc (v := x11) (lv' := [(2, .int x11), (1, .int c1), (3, .int v3)]) 1 (kd_m10_rests.at 21 rfl) rfl hx11.symm (by decide) rfl ?_
        refine ok_sub (lv' := [(1, .int c1), (2, .int x11), (3, .int v3)]) [1, 0, 2] rfl ?_
        exact K39 x11 q6.2
def f_m10_rests (a1 : Int32) (S : kSt) : Option (Int32 × kSt) :=
  kgb (S.1 0 5) fun b1 =>
  (f_m10_upTo a1 9 S).bind fun q2 =>
  (f_m10_may b1 q2.1 q2.2).bind fun q3 =>
  if q3.1 then
    f_m10_rests_L23 
      (fun (x12 : Int32) (S13 : kSt) =>
        some (x12, S13)
      )
      a1 kFU 0 0 q3.2
  else
    some ((-1), q3.2)
theorem ok_m10_rests {l : Launch} {G : kG} {E : kE} (a1 : Int32)  (S : kSt) : kFn l G E E kjI m10_rests 4 [.ref 0, .int a1] S (f_m10_rests a1 S) := by
  unfold f_m10_rests
  refine kFn_of (by decide +kernel) (fun hG => Nat.le_of_ble_eq_true rfl) ?_
  show kOk _ _ _ _ _ _ _ _ [(0, .ref 0), (1, .int a1)] _ _
  refine ok_aload_n 0 (kd_m10_rests.at 0 rfl) rfl rfl ?_
  refine ok_aload_n 0 (kd_m10_rests.at 1 rfl) rfl rfl ?_
  refine ok_getZ (kd_m10_rests.at 2 rfl) kf10_108 sh_0 rfl (fun b1 => ?_)
  refine ok_iload_n 1 (kd_m10_rests.at 3 rfl) rfl rfl ?_
  refine ok_bipush (v := 9) (kd_m10_rests.at 4 rfl) (by decide) ?_
  refine ok_callSB (M' := m10_upTo) (as := [.int a1, .int 9]) (st := [.int (kb b1), .ref 0]) (kd_m10_rests.at 5 rfl) kc10_126  rfl (by decide) (ok_m10_upTo a1 9 S) (kfit_of (by decide)) rfl (Nat.le_of_ble_eq_true rfl) (fun q2 hq2 => ?_)
  refine ok_callVB (M' := m10_may) (as := [.int (kb b1), .int (kb q2.1)]) (st := []) (kd_m10_rests.at 6 rfl) kc10_104 sh_0 rfl rfl (by decide) (ok_m10_may b1 q2.1 q2.2) (kfit_of (by decide)) rfl (Nat.le_of_ble_eq_true rfl) (fun q3 hq3 => ?_)
  refine ok_ifb_ne (tgt := 19) (kd_m10_rests.at 7 rfl) (by decide) (fun h4 => ?_) (fun h4 => ?_)
  · refine ok_iconst (v := 0) (kd_m10_rests.at 10 rfl) (by decide) ?_
    refine ok_istore_n (lv' := [(2, .int 0), (0, .ref 0), (1, .int a1)]) (kd_m10_rests.at 11 rfl) rfl (by decide) rfl ?_
    refine ok_iconst (v := 0) (kd_m10_rests.at 12 rfl) (by decide) ?_
    refine ok_istore_n (lv' := [(3, .int 0), (2, .int 0), (0, .ref 0), (1, .int a1)]) (kd_m10_rests.at 13 rfl) rfl (by decide) rfl ?_
    refine ok_sub (lv' := [(1, .int a1), (2, .int 0), (3, .int 0)]) [3, 1, 0] rfl ?_
    refine ok_m10_rests_L23 a1 _ (fun x12 S13 => ?_) kFU 0 0 q3.2
    refine ok_iload_n 0 (kd_m10_rests.at 24 rfl) rfl rfl ?_
    exact ok_ireturn (kd_m10_rests.at 25 rfl) rfl
  · refine ok_iconst (v := (-1)) (kd_m10_rests.at 8 rfl) (by decide) ?_
    exact ok_ireturn (kd_m10_rests.at 9 rfl) rfl
def f_m10_rest_L21   (k34 : Int32 → kSt → Option (Int32 × kSt)) (k51 : kSt → Option (Int32 × kSt)) (c1 : Int32) : Nat → Int32 → kSt → Option (Int32 × kSt)
  | 0, _, _ => none
  | n + 1, v2, S =>
    if 4 ≤ v2 then
      k51  S
    else
      (f_m10_isRestAt c1 v2 S).bind fun q6 =>
      if q6.1 then
        k34 v2 q6.2
      else
        knx (v2 + 1) fun x8 =>
        f_m10_rest_L21 k34 k51 c1 n x8 q6.2
theorem ok_m10_rest_L21 {l : Launch} {G : kG} {E : kE}    (c1 : Int32) (k34 : Int32 → kSt → Option (Int32 × kSt)) (k51 : kSt → Option (Int32 × kSt)) (hk34 : ∀ (v2 : Int32) (S : kSt), kOk l G E (kZ G E kjI) m10_rest (kdp (4)) (k34 v2 S) 34 [(2, .int v2)] [] S) (hk51 : ∀  (S : kSt), kOk l G E (kZ G E kjI) m10_rest (kdp (4)) (k51  S) 51 [] [] S) : ∀ (n : Nat) (v2 : Int32) (S : kSt), kOk l G E (kZ G E kjI) m10_rest (kdp (4)) (f_m10_rest_L21 k34 k51 c1 n v2 S) 21 [(1, .int c1), (2, .int v2)] [] S := by
  intro n
  induction n with
  | zero => intro v2 S; exact ok_none
  | succ n ih =>
    intro v2 S
    rw [f_m10_rest_L21]
    refine ok_iload_n 1 (kd_m10_rest.at 12 rfl) rfl rfl ?_
    refine ok_iconst (v := 4) (kd_m10_rest.at 13 rfl) (by decide) ?_
    refine ok_icmp_ge (tgt := 51) (kd_m10_rest.at 14 rfl) (by decide) (fun h5 => ?_) (fun h5 => ?_)
    · refine ok_sub (lv' := []) [] rfl ?_
      exact hk51  S
    · refine ok_iload_n 0 (kd_m10_rest.at 15 rfl) rfl rfl ?_
      refine ok_iload_n 1 (kd_m10_rest.at 16 rfl) rfl rfl ?_
      refine ok_callSB (M' := m10_isRestAt) (as := [.int c1, .int v2]) (st := []) (kd_m10_rest.at 17 rfl) kc10_334  rfl (by decide) (ok_m10_isRestAt c1 v2 S) (kfit_of (by decide)) rfl (Nat.le_of_ble_eq_true rfl) (fun q6 hq6 => ?_)
      refine ok_ifb_eq (tgt := 45) (kd_m10_rest.at 18 rfl) (by decide) (fun h7 => ?_) (fun h7 => ?_)
      · refine ok_nx (fun x8 hx8 => ?_)
        refine ok_iinc (v := x8) (lv' := [(2, .int x8), (1, .int c1)]) 1 (kd_m10_rest.at 29 rfl) rfl hx8.symm (by decide) rfl ?_
        refine ok_goto (tgt := 21) (kd_m10_rest.at 30 rfl) (by decide) ?_
        refine ok_sub (lv' := [(1, .int c1), (2, .int x8)]) [1, 0] rfl ?_
        exact ih x8 q6.2
      · refine ok_sub (lv' := [(2, .int v2)]) [1] rfl ?_
        exact hk34 v2 q6.2
def f_m10_rest (a1 : Int32) (S : kSt) : Option (Int32 × kSt) :=
  kgb (S.1 0 5) fun b1 =>
  (f_m10_upTo a1 9 S).bind fun q2 =>
  (f_m10_may b1 q2.1 q2.2).bind fun q3 =>
  if q3.1 then
    f_m10_rest_L21 
      (fun (x9 : Int32) (S10 : kSt) =>
        some (((x9 / 2) * 10) + (krem x9 2), S10)
      )
      (fun  (S11 : kSt) =>
        some ((-2), S11)
      )
      a1 kFU 0 q3.2
  else
    some ((-1), q3.2)
theorem ok_m10_rest {l : Launch} {G : kG} {E : kE} (a1 : Int32)  (S : kSt) : kFn l G E E kjI m10_rest 4 [.ref 0, .int a1] S (f_m10_rest a1 S) := by
  unfold f_m10_rest
  refine kFn_of (by decide +kernel) (fun hG => Nat.le_of_ble_eq_true rfl) ?_
  show kOk _ _ _ _ _ _ _ _ [(0, .ref 0), (1, .int a1)] _ _
  refine ok_aload_n 0 (kd_m10_rest.at 0 rfl) rfl rfl ?_
  refine ok_aload_n 0 (kd_m10_rest.at 1 rfl) rfl rfl ?_
  refine ok_getZ (kd_m10_rest.at 2 rfl) kf10_108 sh_0 rfl (fun b1 => ?_)
  refine ok_iload_n 1 (kd_m10_rest.at 3 rfl) rfl rfl ?_
  refine ok_bipush (v := 9) (kd_m10_rest.at 4 rfl) (by decide) ?_
  refine ok_callSB (M' := m10_upTo) (as := [.int a1, .int 9]) (st := [.int (kb b1), .ref 0]) (kd_m10_rest.at 5 rfl) kc10_126  rfl (by decide) (ok_m10_upTo a1 9 S) (kfit_of (by decide)) rfl (Nat.le_of_ble_eq_true rfl) (fun q2 hq2 => ?_)
  refine ok_callVB (M' := m10_may) (as := [.int (kb b1), .int (kb q2.1)]) (st := []) (kd_m10_rest.at 6 rfl) kc10_104 sh_0 rfl rfl (by decide) (ok_m10_may b1 q2.1 q2.2) (kfit_of (by decide)) rfl (Nat.le_of_ble_eq_true rfl) (fun q3 hq3 => ?_)
  refine ok_ifb_ne (tgt := 19) (kd_m10_rest.at 7 rfl) (by decide) (fun h4 => ?_) (fun h4 => ?_)
  · refine ok_iconst (v := 0) (kd_m10_rest.at 10 rfl) (by decide) ?_
    refine ok_istore_n (lv' := [(2, .int 0), (0, .ref 0), (1, .int a1)]) (kd_m10_rest.at 11 rfl) rfl (by decide) rfl ?_
    refine ok_sub (lv' := [(1, .int a1), (2, .int 0)]) [2, 0] rfl ?_
    refine ok_m10_rest_L21 a1 _ _ (fun x9 S10 => ?_) (fun S11 => ?_) kFU 0 q3.2
    · refine ok_iload_n 0 (kd_m10_rest.at 19 rfl) rfl rfl ?_
      refine ok_iconst (v := 2) (kd_m10_rest.at 20 rfl) (by decide) ?_
      refine ok_idivK (kd_m10_rest.at 21 rfl) (by decide) ?_
      refine ok_bipush (v := 10) (kd_m10_rest.at 22 rfl) (by decide) ?_
      refine ok_imul (kd_m10_rest.at 23 rfl) ?_
      refine ok_iload_n 0 (kd_m10_rest.at 24 rfl) rfl rfl ?_
      refine ok_iconst (v := 2) (kd_m10_rest.at 25 rfl) (by decide) ?_
      refine ok_iremK (kd_m10_rest.at 26 rfl) (by decide) ?_
      refine ok_iadd (kd_m10_rest.at 27 rfl) ?_
      exact ok_ireturn (kd_m10_rest.at 28 rfl) rfl
    · refine ok_bipush (v := (-2)) (kd_m10_rest.at 31 rfl) (by decide) ?_
      exact ok_ireturn (kd_m10_rest.at 32 rfl) rfl
  · refine ok_iconst (v := (-1)) (kd_m10_rest.at 8 rfl) (by decide) ?_
    exact ok_ireturn (kd_m10_rest.at 9 rfl) rfl
def f_m10_verdictOdds (a1 : Int32) (a2 : Int32) (a3 : Bool) (S : kSt) : Option (Int64 × kSt) :=
  (f_m10_isPair a1 S).bind fun q1 =>
  (f_m10_upTo a2 4 q1.2).bind fun q2 =>
  (f_m10_may q1.1 q2.1 q2.2).bind fun q3 =>
  if q3.1 then
    (f_m2_reckon (q3.2.1 1 2) a1 a2 q3.2).bind fun q5 =>
    (f_m6_reduce ((q5.1 11 1).toInt64) ((q5.1 11 2).toInt64) q5).bind fun q6 =>
    (f_m6_part a3 q6).bind fun q7 =>
    some (q7.1, q7.2)
  else
    some ((-1), q3.2)
theorem ok_m10_verdictOdds {l : Launch} {G : kG} {E : kE} (a1 : Int32) (a2 : Int32) (a3 : Bool)  (S : kSt) : kFn l G E E kjL m10_verdictOdds 4 [.ref 0, .int a1, .int a2, .int (kb a3)] S (f_m10_verdictOdds a1 a2 a3 S) := by
  unfold f_m10_verdictOdds
  refine kFn_of (by decide +kernel) (fun hG => Nat.le_of_ble_eq_true rfl) ?_
  show kOk _ _ _ _ _ _ _ _ [(0, .ref 0), (1, .int a1), (2, .int a2), (3, .int (kb a3))] _ _
  refine ok_aload_n 0 (kd_m10_verdictOdds.at 0 rfl) rfl rfl ?_
  refine ok_aload_n 0 (kd_m10_verdictOdds.at 1 rfl) rfl rfl ?_
  refine ok_iload_n 1 (kd_m10_verdictOdds.at 2 rfl) rfl rfl ?_
  refine ok_callVB (M' := m10_isPair) (as := [.int a1]) (st := [.ref 0]) (kd_m10_verdictOdds.at 3 rfl) kc10_115 sh_0 rfl rfl (by decide) (ok_m10_isPair a1 S) (kfit_of (by decide)) rfl (Nat.le_of_ble_eq_true rfl) (fun q1 hq1 => ?_)
  refine ok_iload_n 2 (kd_m10_verdictOdds.at 4 rfl) rfl rfl ?_
  refine ok_iconst (v := 4) (kd_m10_verdictOdds.at 5 rfl) (by decide) ?_
  refine ok_callSB (M' := m10_upTo) (as := [.int a2, .int 4]) (st := [.int (kb q1.1), .ref 0]) (kd_m10_verdictOdds.at 6 rfl) kc10_126  rfl (by decide) (ok_m10_upTo a2 4 q1.2) (kfit_of (by decide)) rfl (Nat.le_of_ble_eq_true rfl) (fun q2 hq2 => ?_)
  refine ok_callVB (M' := m10_may) (as := [.int (kb q1.1), .int (kb q2.1)]) (st := []) (kd_m10_verdictOdds.at 7 rfl) kc10_104 sh_0 rfl rfl (by decide) (ok_m10_may q1.1 q2.1 q2.2) (kfit_of (by decide)) rfl (Nat.le_of_ble_eq_true rfl) (fun q3 hq3 => ?_)
  refine ok_ifb_ne (tgt := 21) (kd_m10_verdictOdds.at 8 rfl) (by decide) (fun h4 => ?_) (fun h4 => ?_)
  · refine ok_aload_n 0 (kd_m10_verdictOdds.at 11 rfl) rfl rfl ?_
    refine ok_getR (kd_m10_verdictOdds.at 12 rfl) kf10_89 sh_0 rfl (kr_0_16 _) ?_
    refine ok_aload_n 0 (kd_m10_verdictOdds.at 13 rfl) rfl rfl ?_
    refine ok_getR (kd_m10_verdictOdds.at 14 rfl) kf10_16 sh_0 rfl (kr_0_2 _) ?_
    refine ok_getI (kd_m10_verdictOdds.at 15 rfl) kf10_112 sh_1 rfl ?_
    refine ok_iload_n 1 (kd_m10_verdictOdds.at 16 rfl) rfl rfl ?_
    refine ok_iload_n 2 (kd_m10_verdictOdds.at 17 rfl) rfl rfl ?_
    refine ok_callVV (M' := m2_reckon) (as := [.int (q3.2.1 1 2), .int a1, .int a2]) (st := []) (kd_m10_verdictOdds.at 18 rfl) kc10_339 sh_11 rfl rfl (by decide) (ok_m2_reckon (q3.2.1 1 2) a1 a2 q3.2) (kfit_of (by decide)) rfl (Nat.le_of_ble_eq_true rfl) (fun q5 hq5 => ?_)
    refine ok_aload_n 0 (kd_m10_verdictOdds.at 19 rfl) rfl rfl ?_
    refine ok_getR (kd_m10_verdictOdds.at 20 rfl) kf10_96 sh_0 rfl (kr_0_17 _) ?_
    refine ok_aload_n 0 (kd_m10_verdictOdds.at 21 rfl) rfl rfl ?_
    refine ok_getR (kd_m10_verdictOdds.at 22 rfl) kf10_89 sh_0 rfl (kr_0_16 _) ?_
    refine ok_getI (kd_m10_verdictOdds.at 23 rfl) kf10_342 sh_11 rfl ?_
    refine ok_i2l (kd_m10_verdictOdds.at 24 rfl) ?_
    refine ok_aload_n 0 (kd_m10_verdictOdds.at 25 rfl) rfl rfl ?_
    refine ok_getR (kd_m10_verdictOdds.at 26 rfl) kf10_89 sh_0 rfl (kr_0_16 _) ?_
    refine ok_getI (kd_m10_verdictOdds.at 27 rfl) kf10_345 sh_11 rfl ?_
    refine ok_i2l (kd_m10_verdictOdds.at 28 rfl) ?_
    refine ok_callVV (M' := m6_reduce) (as := [.long ((q5.1 11 1).toInt64), .long ((q5.1 11 2).toInt64)]) (st := []) (kd_m10_verdictOdds.at 29 rfl) kc10_348 sh_12 rfl rfl (by decide) (ok_m6_reduce ((q5.1 11 1).toInt64) ((q5.1 11 2).toInt64) q5) (kfit_of (by decide)) rfl (Nat.le_of_ble_eq_true rfl) (fun q6 hq6 => ?_)
    refine ok_aload_n 0 (kd_m10_verdictOdds.at 30 rfl) rfl rfl ?_
    refine ok_getR (kd_m10_verdictOdds.at 31 rfl) kf10_96 sh_0 rfl (kr_0_17 _) ?_
    refine ok_iload_n 3 (kd_m10_verdictOdds.at 32 rfl) rfl rfl ?_
    refine ok_callVL (M' := m6_part) (as := [.int (kb a3)]) (st := []) (kd_m10_verdictOdds.at 33 rfl) kc10_352 sh_12 rfl rfl (by decide) (ok_m6_part a3 q6) (kfit_of (by decide)) rfl (Nat.le_of_ble_eq_true rfl) (fun q7 hq7 => ?_)
    exact ok_lreturn (kd_m10_verdictOdds.at 34 rfl) rfl
  · refine ok_ldc2 (kd_m10_verdictOdds.at 9 rfl) kcl_10_337 ?_
    exact ok_lreturn (kd_m10_verdictOdds.at 10 rfl) rfl
def f_m10_looks (a1 : Int32) (a2 : Int32) (a3 : Int32) (S : kSt) : Option (Int32 × kSt) :=
  (f_m10_isPair a1 S).bind fun q1 =>
  (f_m10_upTo a2 65536 q1.2).bind fun q2 =>
  knx (fun (x3 : Bool) (S4 : kSt) =>
    (f_m10_may q1.1 x3 S4).bind fun q5 =>
    if q5.1 then
      (f_m2_look (q5.2.1 1 2) a2 a3 q5.2).bind fun q7 =>
      kgi a1 5 (
        some (q7.1 54 a1.toNatClampNeg, q7)
      )
    else
      some ((-1), q5.2)
    ) fun j31 =>
  knx (fun  (S8 : kSt) =>
    j31 false S8
    ) fun j30 =>
  if q2.1 then
    (f_m10_upTo a3 200 q2.2).bind fun q10 =>
    if q10.1 then
      j31 true q10.2
    else
      j30  q10.2
  else
    j30  q2.2
theorem ok_m10_looks {l : Launch} {G : kG} {E : kE} (a1 : Int32) (a2 : Int32) (a3 : Int32)  (S : kSt) : kFn l G E E kjI m10_looks 3 [.ref 0, .int a1, .int a2, .int a3] S (f_m10_looks a1 a2 a3 S) := by
  unfold f_m10_looks
  refine kFn_of (by decide +kernel) (fun hG => Nat.le_of_ble_eq_true rfl) ?_
  show kOk _ _ _ _ _ _ _ _ [(0, .ref 0), (1, .int a1), (2, .int a2), (3, .int a3)] _ _
  refine ok_aload_n 0 (kd_m10_looks.at 0 rfl) rfl rfl ?_
  refine ok_aload_n 0 (kd_m10_looks.at 1 rfl) rfl rfl ?_
  refine ok_iload_n 1 (kd_m10_looks.at 2 rfl) rfl rfl ?_
  refine ok_callVB (M' := m10_isPair) (as := [.int a1]) (st := [.ref 0]) (kd_m10_looks.at 3 rfl) kc10_115 sh_0 rfl rfl (by decide) (ok_m10_isPair a1 S) (kfit_of (by decide)) rfl (Nat.le_of_ble_eq_true rfl) (fun q1 hq1 => ?_)
  refine ok_iload_n 2 (kd_m10_looks.at 4 rfl) rfl rfl ?_
  refine ok_ldcw (kd_m10_looks.at 5 rfl) kco_10_356 ?_
  refine ok_callSB (M' := m10_upTo) (as := [.int a2, .int 65536]) (st := [.int (kb q1.1), .ref 0]) (kd_m10_looks.at 6 rfl) kc10_126  rfl (by decide) (ok_m10_upTo a2 65536 q1.2) (kfit_of (by decide)) rfl (Nat.le_of_ble_eq_true rfl) (fun q2 hq2 => ?_)
  refine ok_nx (fun j31 hj31 => ?_)
  have K31 : ∀ (x3 : Bool) (S4 : kSt), kOk l G E (kZ G E kjI) m10_looks (kdp (3)) (j31 x3 S4) 31 [(0, .ref 0), (1, .int a1), (2, .int a2), (3, .int a3)] [.int (kb x3), .int (kb q1.1), .ref 0] S4 := by
    subst hj31
    intro x3 S4
    refine ok_callVB (M' := m10_may) (as := [.int (kb q1.1), .int (kb x3)]) (st := []) (kd_m10_looks.at 15 rfl) kc10_104 sh_0 rfl rfl (by decide) (ok_m10_may q1.1 x3 S4) (kfit_of (by decide)) rfl (Nat.le_of_ble_eq_true rfl) (fun q5 hq5 => ?_)
    refine ok_ifb_ne (tgt := 39) (kd_m10_looks.at 16 rfl) (by decide) (fun h6 => ?_) (fun h6 => ?_)
    · refine ok_aload_n 0 (kd_m10_looks.at 19 rfl) rfl rfl ?_
      refine ok_getR (kd_m10_looks.at 20 rfl) kf10_89 sh_0 rfl (kr_0_16 _) ?_
      refine ok_aload_n 0 (kd_m10_looks.at 21 rfl) rfl rfl ?_
      refine ok_getR (kd_m10_looks.at 22 rfl) kf10_16 sh_0 rfl (kr_0_2 _) ?_
      refine ok_getI (kd_m10_looks.at 23 rfl) kf10_112 sh_1 rfl ?_
      refine ok_iload_n 2 (kd_m10_looks.at 24 rfl) rfl rfl ?_
      refine ok_iload_n 3 (kd_m10_looks.at 25 rfl) rfl rfl ?_
      refine ok_callVV (M' := m2_look) (as := [.int (q5.2.1 1 2), .int a2, .int a3]) (st := []) (kd_m10_looks.at 26 rfl) kc10_357 sh_11 rfl rfl (by decide) (ok_m2_look (q5.2.1 1 2) a2 a3 q5.2) (kfit_of (by decide)) rfl (Nat.le_of_ble_eq_true rfl) (fun q7 hq7 => ?_)
      refine ok_aload_n 0 (kd_m10_looks.at 27 rfl) rfl rfl ?_
      refine ok_getR (kd_m10_looks.at 28 rfl) kf10_89 sh_0 rfl (kr_0_16 _) ?_
      refine ok_getR (kd_m10_looks.at 29 rfl) kf10_360 sh_11 rfl (kr_11_0 _) ?_
      refine ok_iload_n 1 (kd_m10_looks.at 30 rfl) rfl rfl ?_
      refine ok_iald (kd_m10_looks.at 31 rfl) sh_54 ?_
      exact ok_ireturn (kd_m10_looks.at 32 rfl) rfl
    · refine ok_iconst (v := (-1)) (kd_m10_looks.at 17 rfl) (by decide) ?_
      exact ok_ireturn (kd_m10_looks.at 18 rfl) rfl
  clear hj31
  refine ok_nx (fun j30 hj30 => ?_)
  have K30 : ∀  (S8 : kSt), kOk l G E (kZ G E kjI) m10_looks (kdp (3)) (j30  S8) 30 [(0, .ref 0), (1, .int a1), (2, .int a2), (3, .int a3)] [.int (kb q1.1), .ref 0] S8 := by
    subst hj30
    intro  S8
    refine ok_iconst (v := 0) (kd_m10_looks.at 14 rfl) (by decide) ?_
    exact K31 false S8
  clear hj30
  refine ok_ifb_eq (tgt := 30) (kd_m10_looks.at 7 rfl) (by decide) (fun h9 => ?_) (fun h9 => ?_)
  · exact K30  q2.2
  · refine ok_iload_n 3 (kd_m10_looks.at 8 rfl) rfl rfl ?_
    refine ok_sipush (v := 200) (kd_m10_looks.at 9 rfl) (by decide) ?_
    refine ok_callSB (M' := m10_upTo) (as := [.int a3, .int 200]) (st := [.int (kb q1.1), .ref 0]) (kd_m10_looks.at 10 rfl) kc10_126  rfl (by decide) (ok_m10_upTo a3 200 q2.2) (kfit_of (by decide)) rfl (Nat.le_of_ble_eq_true rfl) (fun q10 hq10 => ?_)
    refine ok_ifb_eq (tgt := 30) (kd_m10_looks.at 11 rfl) (by decide) (fun h11 => ?_) (fun h11 => ?_)
    · exact K30  q10.2
    · refine ok_iconst (v := 1) (kd_m10_looks.at 12 rfl) (by decide) ?_
      refine ok_goto (tgt := 31) (kd_m10_looks.at 13 rfl) (by decide) ?_
      exact K31 true q10.2
def f_m10_verdict (a1 : Int32) (a2 : Int32) (S : kSt) : Option (Int32 × kSt) :=
  kgb (S.1 0 5) fun b1 =>
  (f_m10_upTo a1 65536 S).bind fun q2 =>
  knx (fun (x3 : Bool) (S4 : kSt) =>
    (f_m10_may b1 x3 S4).bind fun q5 =>
    if q5.1 then
      (f_m2_look (q5.2.1 1 2) a1 a2 q5.2).bind fun q7 =>
      (f_m10_firstMost 54 (q7.1 1 2) q7).bind fun q8 =>
      some (q8.1, q8.2)
    else
      some ((-1), q5.2)
    ) fun j30 =>
  knx (fun  (S9 : kSt) =>
    j30 false S9
    ) fun j29 =>
  if q2.1 then
    (f_m10_upTo a2 200 q2.2).bind fun q11 =>
    if q11.1 then
      j30 true q11.2
    else
      j29  q11.2
  else
    j29  q2.2
theorem ok_m10_verdict {l : Launch} {G : kG} {E : kE} (a1 : Int32) (a2 : Int32)  (S : kSt) : kFn l G E E kjI m10_verdict 3 [.ref 0, .int a1, .int a2] S (f_m10_verdict a1 a2 S) := by
  unfold f_m10_verdict
  refine kFn_of (by decide +kernel) (fun hG => Nat.le_of_ble_eq_true rfl) ?_
  show kOk _ _ _ _ _ _ _ _ [(0, .ref 0), (1, .int a1), (2, .int a2)] _ _
  refine ok_aload_n 0 (kd_m10_verdict.at 0 rfl) rfl rfl ?_
  refine ok_aload_n 0 (kd_m10_verdict.at 1 rfl) rfl rfl ?_
  refine ok_getZ (kd_m10_verdict.at 2 rfl) kf10_108 sh_0 rfl (fun b1 => ?_)
  refine ok_iload_n 1 (kd_m10_verdict.at 3 rfl) rfl rfl ?_
  refine ok_ldcw (kd_m10_verdict.at 4 rfl) kco_10_356 ?_
  refine ok_callSB (M' := m10_upTo) (as := [.int a1, .int 65536]) (st := [.int (kb b1), .ref 0]) (kd_m10_verdict.at 5 rfl) kc10_126  rfl (by decide) (ok_m10_upTo a1 65536 S) (kfit_of (by decide)) rfl (Nat.le_of_ble_eq_true rfl) (fun q2 hq2 => ?_)
  refine ok_nx (fun j30 hj30 => ?_)
  have K30 : ∀ (x3 : Bool) (S4 : kSt), kOk l G E (kZ G E kjI) m10_verdict (kdp (3)) (j30 x3 S4) 30 [(0, .ref 0), (1, .int a1), (2, .int a2)] [.int (kb x3), .int (kb b1), .ref 0] S4 := by
    subst hj30
    intro x3 S4
    refine ok_callVB (M' := m10_may) (as := [.int (kb b1), .int (kb x3)]) (st := []) (kd_m10_verdict.at 14 rfl) kc10_104 sh_0 rfl rfl (by decide) (ok_m10_may b1 x3 S4) (kfit_of (by decide)) rfl (Nat.le_of_ble_eq_true rfl) (fun q5 hq5 => ?_)
    refine ok_ifb_ne (tgt := 38) (kd_m10_verdict.at 15 rfl) (by decide) (fun h6 => ?_) (fun h6 => ?_)
    · refine ok_aload_n 0 (kd_m10_verdict.at 18 rfl) rfl rfl ?_
      refine ok_getR (kd_m10_verdict.at 19 rfl) kf10_89 sh_0 rfl (kr_0_16 _) ?_
      refine ok_aload_n 0 (kd_m10_verdict.at 20 rfl) rfl rfl ?_
      refine ok_getR (kd_m10_verdict.at 21 rfl) kf10_16 sh_0 rfl (kr_0_2 _) ?_
      refine ok_getI (kd_m10_verdict.at 22 rfl) kf10_112 sh_1 rfl ?_
      refine ok_iload_n 1 (kd_m10_verdict.at 23 rfl) rfl rfl ?_
      refine ok_iload_n 2 (kd_m10_verdict.at 24 rfl) rfl rfl ?_
      refine ok_callVV (M' := m2_look) (as := [.int (q5.2.1 1 2), .int a1, .int a2]) (st := []) (kd_m10_verdict.at 25 rfl) kc10_357 sh_11 rfl rfl (by decide) (ok_m2_look (q5.2.1 1 2) a1 a2 q5.2) (kfit_of (by decide)) rfl (Nat.le_of_ble_eq_true rfl) (fun q7 hq7 => ?_)
      refine ok_aload_n 0 (kd_m10_verdict.at 26 rfl) rfl rfl ?_
      refine ok_getR (kd_m10_verdict.at 27 rfl) kf10_89 sh_0 rfl (kr_0_16 _) ?_
      refine ok_getR (kd_m10_verdict.at 28 rfl) kf10_360 sh_11 rfl (kr_11_0 _) ?_
      refine ok_aload_n 0 (kd_m10_verdict.at 29 rfl) rfl rfl ?_
      refine ok_getR (kd_m10_verdict.at 30 rfl) kf10_16 sh_0 rfl (kr_0_2 _) ?_
      refine ok_getI (kd_m10_verdict.at 31 rfl) kf10_112 sh_1 rfl ?_
      refine ok_callSI (M' := m10_firstMost) (as := [.ref 54, .int (q7.1 1 2)]) (st := []) (kd_m10_verdict.at 32 rfl) kc10_227  rfl (by decide) (ok_m10_firstMost 54 (q7.1 1 2) sh_54 q7) (kfit_of (by decide)) rfl (Nat.le_of_ble_eq_true rfl) (fun q8 hq8 => ?_)
      exact ok_ireturn (kd_m10_verdict.at 33 rfl) rfl
    · refine ok_iconst (v := (-1)) (kd_m10_verdict.at 16 rfl) (by decide) ?_
      exact ok_ireturn (kd_m10_verdict.at 17 rfl) rfl
  clear hj30
  refine ok_nx (fun j29 hj29 => ?_)
  have K29 : ∀  (S9 : kSt), kOk l G E (kZ G E kjI) m10_verdict (kdp (3)) (j29  S9) 29 [(0, .ref 0), (1, .int a1), (2, .int a2)] [.int (kb b1), .ref 0] S9 := by
    subst hj29
    intro  S9
    refine ok_iconst (v := 0) (kd_m10_verdict.at 13 rfl) (by decide) ?_
    exact K30 false S9
  clear hj29
  refine ok_ifb_eq (tgt := 29) (kd_m10_verdict.at 6 rfl) (by decide) (fun h10 => ?_) (fun h10 => ?_)
  · exact K29  q2.2
  · refine ok_iload_n 2 (kd_m10_verdict.at 7 rfl) rfl rfl ?_
    refine ok_sipush (v := 200) (kd_m10_verdict.at 8 rfl) (by decide) ?_
    refine ok_callSB (M' := m10_upTo) (as := [.int a2, .int 200]) (st := [.int (kb b1), .ref 0]) (kd_m10_verdict.at 9 rfl) kc10_126  rfl (by decide) (ok_m10_upTo a2 200 q2.2) (kfit_of (by decide)) rfl (Nat.le_of_ble_eq_true rfl) (fun q11 hq11 => ?_)
    refine ok_ifb_eq (tgt := 29) (kd_m10_verdict.at 10 rfl) (by decide) (fun h12 => ?_) (fun h12 => ?_)
    · exact K29  q11.2
    · refine ok_iconst (v := 1) (kd_m10_verdict.at 11 rfl) (by decide) ?_
      refine ok_goto (tgt := 30) (kd_m10_verdict.at 12 rfl) (by decide) ?_
      exact K30 true q11.2
def f_m10_goWithDumb_L22   (k89 : Int64 → kSt → Option (Int64 × kSt)) (c2 : Int32) (c3 : Int32) : Nat → Int64 → Int32 → kSt → Option (Int64 × kSt)
  | 0, _, _, _ => none
  | n + 1, v4, v6, S =>
    if c2 ≤ v6 then
      k89 v4 S
    else
      knx (fun (x3 : Int64) (S4 : kSt) =>
        knx (v6 + 1) fun x5 =>
        f_m10_goWithDumb_L22 k89 c2 c3 n x3 x5 S4
        ) fun j83 =>
      if ((c3 >>> (v6 &&& 31)) &&& 1) = 0 then
        knx (v4 * ((100 - (S.1 1 1)).toInt64)) fun x7 =>
        (f_m9_go 6 S).bind fun q8 =>
        j83 x7 q8
      else
        knx (v4 * ((S.1 1 1).toInt64)) fun x9 =>
        (f_m9_goDumb 6 S).bind fun q10 =>
        j83 x9 q10
theorem ok_m10_goWithDumb_L22 {l : Launch} {G : kG} {E : kE}    (c2 : Int32) (c3 : Int32) (k89 : Int64 → kSt → Option (Int64 × kSt)) (hk89 : ∀ (v4 : Int64) (S : kSt), kOk l G E (kZ G E kjL) m10_goWithDumb (kdp (3)) (k89 v4 S) 89 [(4, .long v4)] [] S) : ∀ (n : Nat) (v4 : Int64) (v6 : Int32) (S : kSt), kOk l G E (kZ G E kjL) m10_goWithDumb (kdp (3)) (f_m10_goWithDumb_L22 k89 c2 c3 n v4 v6 S) 22 [(0, .ref 0), (2, .int c2), (3, .int c3), (4, .long v4), (6, .int v6)] [] S := by
  intro n
  induction n with
  | zero => intro v4 v6 S; exact ok_none
  | succ n ih =>
    intro v4 v6 S
    rw [f_m10_goWithDumb_L22]
    refine ok_iload 4 (kd_m10_goWithDumb.at 12 rfl) rfl ?_
    refine ok_iload_n 1 (kd_m10_goWithDumb.at 13 rfl) rfl rfl ?_
    refine ok_icmp_ge (tgt := 89) (kd_m10_goWithDumb.at 14 rfl) (by decide) (fun h2 => ?_) (fun h2 => ?_)
    · refine ok_sub (lv' := [(4, .long v4)]) [3] rfl ?_
      exact hk89 v4 S
    · refine ok_iload_n 2 (kd_m10_goWithDumb.at 15 rfl) rfl rfl ?_
      refine ok_iload 4 (kd_m10_goWithDumb.at 16 rfl) rfl ?_
      refine ok_ishr (kd_m10_goWithDumb.at 17 rfl) ?_
      refine ok_iconst (v := 1) (kd_m10_goWithDumb.at 18 rfl) (by decide) ?_
      refine ok_iand (kd_m10_goWithDumb.at 19 rfl) ?_
      refine ok_nx (fun j83 hj83 => ?_)
      have K83 : ∀ (x3 : Int64) (S4 : kSt), kOk l G E (kZ G E kjL) m10_goWithDumb (kdp (3)) (j83 x3 S4) 83 [(0, .ref 0), (2, .int c2), (3, .int c3), (4, .long x3), (6, .int v6)] [] S4 := by
        subst hj83
        intro x3 S4
        refine ok_nx (fun x5 hx5 => ?_)
        refine ok_iinc (v := x5) (lv' := [(6, .int x5), (0, .ref 0), (2, .int c2), (3, .int c3), (4, .long x3)]) 4 (kd_m10_goWithDumb.at 44 rfl) rfl hx5.symm (by decide) rfl ?_
        refine ok_goto (tgt := 22) (kd_m10_goWithDumb.at 45 rfl) (by decide) ?_
        refine ok_sub (lv' := [(0, .ref 0), (2, .int c2), (3, .int c3), (4, .long x3), (6, .int x5)]) [1, 2, 3, 4, 0] rfl ?_
        exact ih x3 x5 S4
      clear hj83
      refine ok_if_eq (tgt := 60) (kd_m10_goWithDumb.at 20 rfl) (by decide) (fun h6 => ?_) (fun h6 => ?_)
      · refine ok_lload 3 (kd_m10_goWithDumb.at 32 rfl) rfl ?_
        refine ok_bipush (v := 100) (kd_m10_goWithDumb.at 33 rfl) (by decide) ?_
        refine ok_aload_n 0 (kd_m10_goWithDumb.at 34 rfl) rfl rfl ?_
        refine ok_getR (kd_m10_goWithDumb.at 35 rfl) kf10_16 sh_0 rfl (kr_0_2 _) ?_
        refine ok_getI (kd_m10_goWithDumb.at 36 rfl) kf10_372 sh_1 rfl ?_
        refine ok_isub (kd_m10_goWithDumb.at 37 rfl) ?_
        refine ok_i2l (kd_m10_goWithDumb.at 38 rfl) ?_
        refine ok_lmul (kd_m10_goWithDumb.at 39 rfl) ?_
        refine ok_topl (fun x7 hx7 => ?_)
        refine ok_lstore (lv' := [(4, .long x7), (0, .ref 0), (2, .int c2), (3, .int c3), (6, .int v6)]) (kd_m10_goWithDumb.at 40 rfl) (by decide) rfl ?_
        refine ok_aload_n 1 (kd_m10_goWithDumb.at 41 rfl) rfl rfl ?_
        refine ok_getR (kd_m10_goWithDumb.at 42 rfl) kf10_54 sh_0 rfl (kr_0_10 _) ?_
        refine ok_callVV (M' := m9_go) (as := []) (st := []) (kd_m10_goWithDumb.at 43 rfl) kc10_188 sh_6 rfl rfl (by decide) (ok_m9_go 6 sh_6 S) (kfit_of (by decide)) rfl (Nat.le_of_ble_eq_true rfl) (fun q8 hq8 => ?_)
        refine ok_sub (lv' := [(0, .ref 0), (2, .int c2), (3, .int c3), (4, .long x7), (6, .int v6)]) [1, 2, 3, 0, 4] rfl ?_
        exact K83 x7 q8
      · refine ok_lload 3 (kd_m10_goWithDumb.at 21 rfl) rfl ?_
        refine ok_aload_n 0 (kd_m10_goWithDumb.at 22 rfl) rfl rfl ?_
        refine ok_getR (kd_m10_goWithDumb.at 23 rfl) kf10_16 sh_0 rfl (kr_0_2 _) ?_
        refine ok_getI (kd_m10_goWithDumb.at 24 rfl) kf10_372 sh_1 rfl ?_
        refine ok_i2l (kd_m10_goWithDumb.at 25 rfl) ?_
        refine ok_lmul (kd_m10_goWithDumb.at 26 rfl) ?_
        refine ok_topl (fun x9 hx9 => ?_)
        refine ok_lstore (lv' := [(4, .long x9), (0, .ref 0), (2, .int c2), (3, .int c3), (6, .int v6)]) (kd_m10_goWithDumb.at 27 rfl) (by decide) rfl ?_
        refine ok_aload_n 1 (kd_m10_goWithDumb.at 28 rfl) rfl rfl ?_
        refine ok_getR (kd_m10_goWithDumb.at 29 rfl) kf10_54 sh_0 rfl (kr_0_10 _) ?_
        refine ok_callVV (M' := m9_goDumb) (as := []) (st := []) (kd_m10_goWithDumb.at 30 rfl) kc10_375 sh_6 rfl rfl (by decide) (ok_m9_goDumb 6 sh_6 S) (kfit_of (by decide)) rfl (Nat.le_of_ble_eq_true rfl) (fun q10 hq10 => ?_)
        refine ok_goto (tgt := 83) (kd_m10_goWithDumb.at 31 rfl) (by decide) ?_
        refine ok_sub (lv' := [(0, .ref 0), (2, .int c2), (3, .int c3), (4, .long x9), (6, .int v6)]) [1, 2, 3, 0, 4] rfl ?_
        exact K83 x9 q10
def f_m10_goWithDumb (a1 : Int32) (a2 : Int32) (a3 : Int32) (S : kSt) : Option (Int64 × kSt) :=
  (f_m9_begin 6 a1 S).bind fun q1 =>
  f_m10_goWithDumb_L22 
    (fun (x11 : Int64) (S12 : kSt) =>
      some (x11, S12)
    )
    a2 a3 kFU 1 0 q1
theorem ok_m10_goWithDumb {l : Launch} {G : kG} {E : kE} (a1 : Int32) (a2 : Int32) (a3 : Int32)  (S : kSt) : kFn l G E E kjL m10_goWithDumb 3 [.ref 0, .int a1, .int a2, .int a3] S (f_m10_goWithDumb a1 a2 a3 S) := by
  unfold f_m10_goWithDumb
  refine kFn_of (by decide +kernel) (fun hG => Nat.le_of_ble_eq_true rfl) ?_
  show kOk _ _ _ _ _ _ _ _ [(0, .ref 0), (1, .int a1), (2, .int a2), (3, .int a3)] _ _
  refine ok_lconst (v := 1) (kd_m10_goWithDumb.at 0 rfl) (by decide) ?_
  refine ok_lstore (lv' := [(4, .long 1), (0, .ref 0), (1, .int a1), (2, .int a2), (3, .int a3)]) (kd_m10_goWithDumb.at 1 rfl) (by decide) rfl ?_
  refine ok_aload_n 1 (kd_m10_goWithDumb.at 2 rfl) rfl rfl ?_
  refine ok_getR (kd_m10_goWithDumb.at 3 rfl) kf10_54 sh_0 rfl (kr_0_10 _) ?_
  refine ok_aload_n 1 (kd_m10_goWithDumb.at 4 rfl) rfl rfl ?_
  refine ok_getR (kd_m10_goWithDumb.at 5 rfl) kf10_16 sh_0 rfl (kr_0_2 _) ?_
  refine ok_aload_n 1 (kd_m10_goWithDumb.at 6 rfl) rfl rfl ?_
  refine ok_getR (kd_m10_goWithDumb.at 7 rfl) kf10_35 sh_0 rfl (kr_0_6 _) ?_
  refine ok_iload_n 2 (kd_m10_goWithDumb.at 8 rfl) rfl rfl ?_
  refine ok_callVV (M' := m9_begin) (as := [.ref 1, .ref 4, .int a1]) (st := []) (kd_m10_goWithDumb.at 9 rfl) kc10_175 sh_6 rfl rfl (by decide) (ok_m9_begin 6 a1 sh_6 S) (kfit_of (by decide)) rfl (Nat.le_of_ble_eq_true rfl) (fun q1 hq1 => ?_)
  refine ok_iconst (v := 0) (kd_m10_goWithDumb.at 10 rfl) (by decide) ?_
  refine ok_istore (lv' := [(6, .int 0), (4, .long 1), (0, .ref 0), (1, .int a1), (2, .int a2), (3, .int a3)]) (kd_m10_goWithDumb.at 11 rfl) (by decide) rfl ?_
  refine ok_sub (lv' := [(0, .ref 0), (2, .int a2), (3, .int a3), (4, .long 1), (6, .int 0)]) [2, 4, 5, 1, 0] rfl ?_
  refine ok_m10_goWithDumb_L22 a2 a3 _ (fun x11 S12 => ?_) kFU 1 0 q1
  refine ok_lload 0 (kd_m10_goWithDumb.at 46 rfl) rfl ?_
  exact ok_lreturn (kd_m10_goWithDumb.at 47 rfl) rfl
def f_m10_allChances_L4   (k21 : Int64 → kSt → Option (Int64 × kSt)) (c0 : Int32) : Nat → Int64 → Int32 → kSt → Option (Int64 × kSt)
  | 0, _, _, _ => none
  | n + 1, v1, v3, S =>
    if c0 ≤ v3 then
      k21 v1 S
    else
      knx (v1 * 100) fun x2 =>
      knx (v3 + 1) fun x3 =>
      f_m10_allChances_L4 k21 c0 n x2 x3 S
theorem ok_m10_allChances_L4 {l : Launch} {G : kG} {E : kE}    (c0 : Int32) (k21 : Int64 → kSt → Option (Int64 × kSt)) (hk21 : ∀ (v1 : Int64) (S : kSt), kOk l G E (kZ G E kjL) m10_allChances (kdp (1)) (k21 v1 S) 21 [(1, .long v1)] [] S) : ∀ (n : Nat) (v1 : Int64) (v3 : Int32) (S : kSt), kOk l G E (kZ G E kjL) m10_allChances (kdp (1)) (f_m10_allChances_L4 k21 c0 n v1 v3 S) 4 [(0, .int c0), (1, .long v1), (3, .int v3)] [] S := by
  intro n
  induction n with
  | zero => intro v1 v3 S; exact ok_none
  | succ n ih =>
    intro v1 v3 S
    rw [f_m10_allChances_L4]
    refine ok_iload_n 2 (kd_m10_allChances.at 4 rfl) rfl rfl ?_
    refine ok_iload_n 0 (kd_m10_allChances.at 5 rfl) rfl rfl ?_
    refine ok_icmp_ge (tgt := 21) (kd_m10_allChances.at 6 rfl) (by decide) (fun h1 => ?_) (fun h1 => ?_)
    · refine ok_sub (lv' := [(1, .long v1)]) [1] rfl ?_
      exact hk21 v1 S
    · refine ok_lload_n 1 (kd_m10_allChances.at 7 rfl) rfl rfl ?_
      refine ok_ldc2 (kd_m10_allChances.at 8 rfl) kcl_10_378 ?_
      refine ok_lmul (kd_m10_allChances.at 9 rfl) ?_
      refine ok_topl (fun x2 hx2 => ?_)
      refine ok_lstore_n (lv' := [(1, .long x2), (0, .int c0), (3, .int v3)]) (kd_m10_allChances.at 10 rfl) rfl (by decide) rfl ?_
      refine ok_nx (fun x3 hx3 => ?_)
      refine ok_iinc (v := x3) (lv' := [(3, .int x3), (1, .long x2), (0, .int c0)]) 2 (kd_m10_allChances.at 11 rfl) rfl hx3.symm (by decide) rfl ?_
      refine ok_goto (tgt := 4) (kd_m10_allChances.at 12 rfl) (by decide) ?_
      refine ok_sub (lv' := [(0, .int c0), (1, .long x2), (3, .int x3)]) [2, 1, 0] rfl ?_
      exact ih x2 x3 S
def f_m10_allChances (a0 : Int32) (S : kSt) : Option (Int64 × kSt) :=
  f_m10_allChances_L4 
    (fun (x4 : Int64) (S5 : kSt) =>
      some (x4, S5)
    )
    a0 kFU 1 0 S
theorem ok_m10_allChances {l : Launch} {G : kG} {E : kE} (a0 : Int32)  (S : kSt) : kFn l G E E kjL m10_allChances 1 [.int a0] S (f_m10_allChances a0 S) := by
  unfold f_m10_allChances
  refine kFn_of (by decide +kernel) (fun hG => Nat.le_of_ble_eq_true rfl) ?_
  show kOk _ _ _ _ _ _ _ _ [(0, .int a0)] _ _
  refine ok_lconst (v := 1) (kd_m10_allChances.at 0 rfl) (by decide) ?_
  refine ok_lstore_n (lv' := [(1, .long 1), (0, .int a0)]) (kd_m10_allChances.at 1 rfl) rfl (by decide) rfl ?_
  refine ok_iconst (v := 0) (kd_m10_allChances.at 2 rfl) (by decide) ?_
  refine ok_istore_n (lv' := [(3, .int 0), (1, .long 1), (0, .int a0)]) (kd_m10_allChances.at 3 rfl) rfl (by decide) rfl ?_
  refine ok_sub (lv' := [(0, .int a0), (1, .long 1), (3, .int 0)]) [2, 1, 0] rfl ?_
  refine ok_m10_allChances_L4 a0 _ (fun x4 S5 => ?_) kFU 1 0 S
  refine ok_lload_n 0 (kd_m10_allChances.at 13 rfl) rfl rfl ?_
  exact ok_lreturn (kd_m10_allChances.at 14 rfl) rfl
def f_m10_odds_L44   (k86 : Int64 → kSt → Option (Int64 × kSt)) (c1 : Int32) (c2 : Int32) (c3 : Int32) (c4 : Bool) : Nat → Int64 → Int32 → kSt → Option (Int64 × kSt)
  | 0, _, _, _ => none
  | n + 1, v5, v7, S =>
    if (1 <<< (c2 &&& 31)) ≤ v7 then
      k86 v5 S
    else
      (f_m10_goWithDumb c1 c2 v7 S).bind fun q8 =>
      knx (fun (x9 : Int64) (S10 : kSt) =>
        knx (v7 + 1) fun x11 =>
        f_m10_odds_L44 k86 c1 c2 c3 c4 n x9 x11 S10
        ) fun j80 =>
      if (q8.2.1 6 4) < c3 then
        j80 v5 q8.2
      else
        knx (v5 + q8.1) fun x13 =>
        j80 x13 q8.2
theorem ok_m10_odds_L44 {l : Launch} {G : kG} {E : kE}    (c1 : Int32) (c2 : Int32) (c3 : Int32) (c4 : Bool) (k86 : Int64 → kSt → Option (Int64 × kSt)) (hk86 : ∀ (v5 : Int64) (S : kSt), kOk l G E (kZ G E kjL) m10_odds (kdp (4)) (k86 v5 S) 86 [(0, .ref 0), (2, .int c2), (4, .int (kb c4)), (5, .long v5)] [] S) : ∀ (n : Nat) (v5 : Int64) (v7 : Int32) (S : kSt), kOk l G E (kZ G E kjL) m10_odds (kdp (4)) (f_m10_odds_L44 k86 c1 c2 c3 c4 n v5 v7 S) 44 [(0, .ref 0), (1, .int c1), (2, .int c2), (3, .int c3), (4, .int (kb c4)), (5, .long v5), (7, .int v7)] [] S := by
  intro n
  induction n with
  | zero => intro v5 v7 S; exact ok_none
  | succ n ih =>
    intro v5 v7 S
    rw [f_m10_odds_L44]
    refine ok_iload 6 (kd_m10_odds.at 23 rfl) rfl ?_
    refine ok_iconst (v := 1) (kd_m10_odds.at 24 rfl) (by decide) ?_
    refine ok_iload_n 2 (kd_m10_odds.at 25 rfl) rfl rfl ?_
    refine ok_ishl (kd_m10_odds.at 26 rfl) ?_
    refine ok_icmp_ge (tgt := 86) (kd_m10_odds.at 27 rfl) (by decide) (fun h7 => ?_) (fun h7 => ?_)
    · refine ok_sub (lv' := [(0, .ref 0), (2, .int c2), (4, .int (kb c4)), (5, .long v5)]) [0, 2, 4, 5] rfl ?_
      exact hk86 v5 S
    · refine ok_aload_n 0 (kd_m10_odds.at 28 rfl) rfl rfl ?_
      refine ok_iload_n 1 (kd_m10_odds.at 29 rfl) rfl rfl ?_
      refine ok_iload_n 2 (kd_m10_odds.at 30 rfl) rfl rfl ?_
      refine ok_iload 6 (kd_m10_odds.at 31 rfl) rfl ?_
      refine ok_callVL (M' := m10_goWithDumb) (as := [.int c1, .int c2, .int v7]) (st := []) (kd_m10_odds.at 32 rfl) kc10_364 sh_0 rfl rfl (by decide) (ok_m10_goWithDumb c1 c2 v7 S) (kfit_of (by decide)) rfl (Nat.le_of_ble_eq_true rfl) (fun q8 hq8 => ?_)
      refine ok_lstore (lv' := [(8, .long q8.1), (0, .ref 0), (1, .int c1), (2, .int c2), (3, .int c3), (4, .int (kb c4)), (5, .long v5), (7, .int v7)]) (kd_m10_odds.at 33 rfl) (by decide) rfl ?_
      refine ok_aload_n 1 (kd_m10_odds.at 34 rfl) rfl rfl ?_
      refine ok_getR (kd_m10_odds.at 35 rfl) kf10_54 sh_0 rfl (kr_0_10 _) ?_
      refine ok_getI (kd_m10_odds.at 36 rfl) kf10_181 sh_6 rfl ?_
      refine ok_iload_n 4 (kd_m10_odds.at 37 rfl) rfl rfl ?_
      refine ok_nx (fun j80 hj80 => ?_)
      have K80 : ∀ (x9 : Int64) (S10 : kSt), kOk l G E (kZ G E kjL) m10_odds (kdp (4)) (j80 x9 S10) 80 [(0, .ref 0), (1, .int c1), (2, .int c2), (3, .int c3), (4, .int (kb c4)), (5, .long x9), (7, .int v7)] [] S10 := by
        subst hj80
        intro x9 S10
        refine ok_nx (fun x11 hx11 => ?_)
        refine ok_iinc (v := x11) (lv' := [(7, .int x11), (0, .ref 0), (1, .int c1), (2, .int c2), (3, .int c3), (4, .int (kb c4)), (5, .long x9)]) 6 (kd_m10_odds.at 43 rfl) rfl hx11.symm (by decide) rfl ?_
        refine ok_goto (tgt := 44) (kd_m10_odds.at 44 rfl) (by decide) ?_
        refine ok_sub (lv' := [(0, .ref 0), (1, .int c1), (2, .int c2), (3, .int c3), (4, .int (kb c4)), (5, .long x9), (7, .int x11)]) [1, 2, 3, 4, 5, 6, 0] rfl ?_
        exact ih x9 x11 S10
      clear hj80
      refine ok_icmp_lt (tgt := 80) (kd_m10_odds.at 38 rfl) (by decide) (fun h12 => ?_) (fun h12 => ?_)
      · refine ok_sub (lv' := [(0, .ref 0), (1, .int c1), (2, .int c2), (3, .int c3), (4, .int (kb c4)), (5, .long v5), (7, .int v7)]) [1, 2, 3, 4, 5, 6, 7] rfl ?_
        exact K80 v5 q8.2
      · refine ok_lload 6 (kd_m10_odds.at 39 rfl) rfl ?_
        refine ok_lload 0 (kd_m10_odds.at 40 rfl) rfl ?_
        refine ok_ladd (kd_m10_odds.at 41 rfl) ?_
        refine ok_topl (fun x13 hx13 => ?_)
        refine ok_lstore (lv' := [(5, .long x13), (8, .long q8.1), (0, .ref 0), (1, .int c1), (2, .int c2), (3, .int c3), (4, .int (kb c4)), (7, .int v7)]) (kd_m10_odds.at 42 rfl) (by decide) rfl ?_
        refine ok_sub (lv' := [(0, .ref 0), (1, .int c1), (2, .int c2), (3, .int c3), (4, .int (kb c4)), (5, .long x13), (7, .int v7)]) [2, 3, 4, 5, 6, 0, 7] rfl ?_
        exact K80 x13 q8.2
def f_m10_odds (a1 : Int32) (a2 : Int32) (a3 : Int32) (a4 : Bool) (S : kSt) : Option (Int64 × kSt) :=
  (f_m10_isPair a1 S).bind fun q1 =>
  (f_m10_upTo a2 5 q1.2).bind fun q2 =>
  knx (fun (x3 : Bool) (S4 : kSt) =>
    (f_m10_may q1.1 x3 S4).bind fun q5 =>
    if q5.1 then
      f_m10_odds_L44 
        (fun (x14 : Int64) (S15 : kSt) =>
          (f_m10_allChances a2 S15).bind fun q16 =>
          (f_m6_reduce x14 q16.1 q16.2).bind fun q17 =>
          (f_m6_part a4 q17).bind fun q18 =>
          some (q18.1, q18.2)
        )
        a1 a2 a3 a4 kFU 0 0 q5.2
    else
      some ((-1), q5.2)
    ) fun j28 =>
  knx (fun  (S19 : kSt) =>
    j28 false S19
    ) fun j27 =>
  if q2.1 then
    (f_m10_upTo a3 99 q2.2).bind fun q21 =>
    if q21.1 then
      j28 true q21.2
    else
      j27  q21.2
  else
    j27  q2.2
theorem ok_m10_odds {l : Launch} {G : kG} {E : kE} (a1 : Int32) (a2 : Int32) (a3 : Int32) (a4 : Bool)  (S : kSt) : kFn l G E E kjL m10_odds 4 [.ref 0, .int a1, .int a2, .int a3, .int (kb a4)] S (f_m10_odds a1 a2 a3 a4 S) := by
  unfold f_m10_odds
  refine kFn_of (by decide +kernel) (fun hG => Nat.le_of_ble_eq_true rfl) ?_
  show kOk _ _ _ _ _ _ _ _ [(0, .ref 0), (1, .int a1), (2, .int a2), (3, .int a3), (4, .int (kb a4))] _ _
  refine ok_aload_n 0 (kd_m10_odds.at 0 rfl) rfl rfl ?_
  refine ok_aload_n 0 (kd_m10_odds.at 1 rfl) rfl rfl ?_
  refine ok_iload_n 1 (kd_m10_odds.at 2 rfl) rfl rfl ?_
  refine ok_callVB (M' := m10_isPair) (as := [.int a1]) (st := [.ref 0]) (kd_m10_odds.at 3 rfl) kc10_115 sh_0 rfl rfl (by decide) (ok_m10_isPair a1 S) (kfit_of (by decide)) rfl (Nat.le_of_ble_eq_true rfl) (fun q1 hq1 => ?_)
  refine ok_iload_n 2 (kd_m10_odds.at 4 rfl) rfl rfl ?_
  refine ok_iconst (v := 5) (kd_m10_odds.at 5 rfl) (by decide) ?_
  refine ok_callSB (M' := m10_upTo) (as := [.int a2, .int 5]) (st := [.int (kb q1.1), .ref 0]) (kd_m10_odds.at 6 rfl) kc10_126  rfl (by decide) (ok_m10_upTo a2 5 q1.2) (kfit_of (by decide)) rfl (Nat.le_of_ble_eq_true rfl) (fun q2 hq2 => ?_)
  refine ok_nx (fun j28 hj28 => ?_)
  have K28 : ∀ (x3 : Bool) (S4 : kSt), kOk l G E (kZ G E kjL) m10_odds (kdp (4)) (j28 x3 S4) 28 [(0, .ref 0), (1, .int a1), (2, .int a2), (3, .int a3), (4, .int (kb a4))] [.int (kb x3), .int (kb q1.1), .ref 0] S4 := by
    subst hj28
    intro x3 S4
    refine ok_callVB (M' := m10_may) (as := [.int (kb q1.1), .int (kb x3)]) (st := []) (kd_m10_odds.at 15 rfl) kc10_104 sh_0 rfl rfl (by decide) (ok_m10_may q1.1 x3 S4) (kfit_of (by decide)) rfl (Nat.le_of_ble_eq_true rfl) (fun q5 hq5 => ?_)
    refine ok_ifb_ne (tgt := 38) (kd_m10_odds.at 16 rfl) (by decide) (fun h6 => ?_) (fun h6 => ?_)
    · refine ok_lconst (v := 0) (kd_m10_odds.at 19 rfl) (by decide) ?_
      refine ok_lstore (lv' := [(5, .long 0), (0, .ref 0), (1, .int a1), (2, .int a2), (3, .int a3), (4, .int (kb a4))]) (kd_m10_odds.at 20 rfl) (by decide) rfl ?_
      refine ok_iconst (v := 0) (kd_m10_odds.at 21 rfl) (by decide) ?_
      refine ok_istore (lv' := [(7, .int 0), (5, .long 0), (0, .ref 0), (1, .int a1), (2, .int a2), (3, .int a3), (4, .int (kb a4))]) (kd_m10_odds.at 22 rfl) (by decide) rfl ?_
      refine ok_sub (lv' := [(0, .ref 0), (1, .int a1), (2, .int a2), (3, .int a3), (4, .int (kb a4)), (5, .long 0), (7, .int 0)]) [2, 3, 4, 5, 6, 1, 0] rfl ?_
      refine ok_m10_odds_L44 a1 a2 a3 a4 _ (fun x14 S15 => ?_) kFU 0 0 q5.2
      refine ok_aload_n 0 (kd_m10_odds.at 45 rfl) rfl rfl ?_
      refine ok_getR (kd_m10_odds.at 46 rfl) kf10_96 sh_0 rfl (kr_0_17 _) ?_
      refine ok_lload 3 (kd_m10_odds.at 47 rfl) rfl ?_
      refine ok_iload_n 1 (kd_m10_odds.at 48 rfl) rfl rfl ?_
      refine ok_callSL (M' := m10_allChances) (as := [.int a2]) (st := [.long x14, .ref 12]) (kd_m10_odds.at 49 rfl) kc10_368  rfl (by decide) (ok_m10_allChances a2 S15) (kfit_of (by decide)) rfl (Nat.le_of_ble_eq_true rfl) (fun q16 hq16 => ?_)
      refine ok_callVV (M' := m6_reduce) (as := [.long x14, .long q16.1]) (st := []) (kd_m10_odds.at 50 rfl) kc10_348 sh_12 rfl rfl (by decide) (ok_m6_reduce x14 q16.1 q16.2) (kfit_of (by decide)) rfl (Nat.le_of_ble_eq_true rfl) (fun q17 hq17 => ?_)
      refine ok_aload_n 0 (kd_m10_odds.at 51 rfl) rfl rfl ?_
      refine ok_getR (kd_m10_odds.at 52 rfl) kf10_96 sh_0 rfl (kr_0_17 _) ?_
      refine ok_iload 2 (kd_m10_odds.at 53 rfl) rfl ?_
      refine ok_callVL (M' := m6_part) (as := [.int (kb a4)]) (st := []) (kd_m10_odds.at 54 rfl) kc10_352 sh_12 rfl rfl (by decide) (ok_m6_part a4 q17) (kfit_of (by decide)) rfl (Nat.le_of_ble_eq_true rfl) (fun q18 hq18 => ?_)
      exact ok_lreturn (kd_m10_odds.at 55 rfl) rfl
    · refine ok_ldc2 (kd_m10_odds.at 17 rfl) kcl_10_337 ?_
      exact ok_lreturn (kd_m10_odds.at 18 rfl) rfl
  clear hj28
  refine ok_nx (fun j27 hj27 => ?_)
  have K27 : ∀  (S19 : kSt), kOk l G E (kZ G E kjL) m10_odds (kdp (4)) (j27  S19) 27 [(0, .ref 0), (1, .int a1), (2, .int a2), (3, .int a3), (4, .int (kb a4))] [.int (kb q1.1), .ref 0] S19 := by
    subst hj27
    intro  S19
    refine ok_iconst (v := 0) (kd_m10_odds.at 14 rfl) (by decide) ?_
    exact K28 false S19
  clear hj27
  refine ok_ifb_eq (tgt := 27) (kd_m10_odds.at 7 rfl) (by decide) (fun h20 => ?_) (fun h20 => ?_)
  · exact K27  q2.2
  · refine ok_iload_n 3 (kd_m10_odds.at 8 rfl) rfl rfl ?_
    refine ok_bipush (v := 99) (kd_m10_odds.at 9 rfl) (by decide) ?_
    refine ok_callSB (M' := m10_upTo) (as := [.int a3, .int 99]) (st := [.int (kb q1.1), .ref 0]) (kd_m10_odds.at 10 rfl) kc10_126  rfl (by decide) (ok_m10_upTo a3 99 q2.2) (kfit_of (by decide)) rfl (Nat.le_of_ble_eq_true rfl) (fun q21 hq21 => ?_)
    refine ok_ifb_eq (tgt := 27) (kd_m10_odds.at 11 rfl) (by decide) (fun h22 => ?_) (fun h22 => ?_)
    · exact K27  q21.2
    · refine ok_iconst (v := 1) (kd_m10_odds.at 12 rfl) (by decide) ?_
      refine ok_goto (tgt := 28) (kd_m10_odds.at 13 rfl) (by decide) ?_
      exact K28 true q21.2
def f_m10_mean_L27   (k67 : Int64 → kSt → Option (Int64 × kSt)) (c1 : Int32) (c2 : Int32) (c3 : Bool) : Nat → Int64 → Int32 → kSt → Option (Int64 × kSt)
  | 0, _, _, _ => none
  | n + 1, v4, v6, S =>
    if (1 <<< (c2 &&& 31)) ≤ v6 then
      k67 v4 S
    else
      (f_m10_goWithDumb c1 c2 v6 S).bind fun q6 =>
      knx (v4 + (q6.1 * ((q6.2.1 6 4).toInt64))) fun x7 =>
      knx (v6 + 1) fun x8 =>
      f_m10_mean_L27 k67 c1 c2 c3 n x7 x8 q6.2
theorem ok_m10_mean_L27 {l : Launch} {G : kG} {E : kE}    (c1 : Int32) (c2 : Int32) (c3 : Bool) (k67 : Int64 → kSt → Option (Int64 × kSt)) (hk67 : ∀ (v4 : Int64) (S : kSt), kOk l G E (kZ G E kjL) m10_mean (kdp (4)) (k67 v4 S) 67 [(0, .ref 0), (2, .int c2), (3, .int (kb c3)), (4, .long v4)] [] S) : ∀ (n : Nat) (v4 : Int64) (v6 : Int32) (S : kSt), kOk l G E (kZ G E kjL) m10_mean (kdp (4)) (f_m10_mean_L27 k67 c1 c2 c3 n v4 v6 S) 27 [(0, .ref 0), (1, .int c1), (2, .int c2), (3, .int (kb c3)), (4, .long v4), (6, .int v6)] [] S := by
  intro n
  induction n with
  | zero => intro v4 v6 S; exact ok_none
  | succ n ih =>
    intro v4 v6 S
    rw [f_m10_mean_L27]
    refine ok_iload 5 (kd_m10_mean.at 15 rfl) rfl ?_
    refine ok_iconst (v := 1) (kd_m10_mean.at 16 rfl) (by decide) ?_
    refine ok_iload_n 2 (kd_m10_mean.at 17 rfl) rfl rfl ?_
    refine ok_ishl (kd_m10_mean.at 18 rfl) ?_
    refine ok_icmp_ge (tgt := 67) (kd_m10_mean.at 19 rfl) (by decide) (fun h5 => ?_) (fun h5 => ?_)
    · refine ok_sub (lv' := [(0, .ref 0), (2, .int c2), (3, .int (kb c3)), (4, .long v4)]) [0, 2, 3, 4] rfl ?_
      exact hk67 v4 S
    · refine ok_aload_n 0 (kd_m10_mean.at 20 rfl) rfl rfl ?_
      refine ok_iload_n 1 (kd_m10_mean.at 21 rfl) rfl rfl ?_
      refine ok_iload_n 2 (kd_m10_mean.at 22 rfl) rfl rfl ?_
      refine ok_iload 5 (kd_m10_mean.at 23 rfl) rfl ?_
      refine ok_callVL (M' := m10_goWithDumb) (as := [.int c1, .int c2, .int v6]) (st := []) (kd_m10_mean.at 24 rfl) kc10_364 sh_0 rfl rfl (by decide) (ok_m10_goWithDumb c1 c2 v6 S) (kfit_of (by decide)) rfl (Nat.le_of_ble_eq_true rfl) (fun q6 hq6 => ?_)
      refine ok_lstore (lv' := [(7, .long q6.1), (0, .ref 0), (1, .int c1), (2, .int c2), (3, .int (kb c3)), (4, .long v4), (6, .int v6)]) (kd_m10_mean.at 25 rfl) (by decide) rfl ?_
      refine ok_lload 5 (kd_m10_mean.at 26 rfl) rfl ?_
      refine ok_lload 0 (kd_m10_mean.at 27 rfl) rfl ?_
      refine ok_aload_n 1 (kd_m10_mean.at 28 rfl) rfl rfl ?_
      refine ok_getR (kd_m10_mean.at 29 rfl) kf10_54 sh_0 rfl (kr_0_10 _) ?_
      refine ok_getI (kd_m10_mean.at 30 rfl) kf10_181 sh_6 rfl ?_
      refine ok_i2l (kd_m10_mean.at 31 rfl) ?_
      refine ok_lmul (kd_m10_mean.at 32 rfl) ?_
      refine ok_ladd (kd_m10_mean.at 33 rfl) ?_
      refine ok_topl (fun x7 hx7 => ?_)
      refine ok_lstore (lv' := [(4, .long x7), (7, .long q6.1), (0, .ref 0), (1, .int c1), (2, .int c2), (3, .int (kb c3)), (6, .int v6)]) (kd_m10_mean.at 34 rfl) (by decide) rfl ?_
      refine ok_nx (fun x8 hx8 => ?_)
      refine ok_iinc (v := x8) (lv' := [(6, .int x8), (4, .long x7), (7, .long q6.1), (0, .ref 0), (1, .int c1), (2, .int c2), (3, .int (kb c3))]) 6 (kd_m10_mean.at 35 rfl) rfl hx8.symm (by decide) rfl ?_
      refine ok_goto (tgt := 27) (kd_m10_mean.at 36 rfl) (by decide) ?_
      refine ok_sub (lv' := [(0, .ref 0), (1, .int c1), (2, .int c2), (3, .int (kb c3)), (4, .long x7), (6, .int x8)]) [3, 4, 5, 6, 1, 0] rfl ?_
      exact ih x7 x8 q6.2
def f_m10_mean (a1 : Int32) (a2 : Int32) (a3 : Bool) (S : kSt) : Option (Int64 × kSt) :=
  (f_m10_isPair a1 S).bind fun q1 =>
  (f_m10_upTo a2 5 q1.2).bind fun q2 =>
  (f_m10_may q1.1 q2.1 q2.2).bind fun q3 =>
  if q3.1 then
    f_m10_mean_L27 
      (fun (x9 : Int64) (S10 : kSt) =>
        (f_m10_allChances a2 S10).bind fun q11 =>
        (f_m6_reduce x9 q11.1 q11.2).bind fun q12 =>
        (f_m6_part a3 q12).bind fun q13 =>
        some (q13.1, q13.2)
      )
      a1 a2 a3 kFU 0 0 q3.2
  else
    some ((-1), q3.2)
theorem ok_m10_mean {l : Launch} {G : kG} {E : kE} (a1 : Int32) (a2 : Int32) (a3 : Bool)  (S : kSt) : kFn l G E E kjL m10_mean 4 [.ref 0, .int a1, .int a2, .int (kb a3)] S (f_m10_mean a1 a2 a3 S) := by
  unfold f_m10_mean
  refine kFn_of (by decide +kernel) (fun hG => Nat.le_of_ble_eq_true rfl) ?_
  show kOk _ _ _ _ _ _ _ _ [(0, .ref 0), (1, .int a1), (2, .int a2), (3, .int (kb a3))] _ _
  refine ok_aload_n 0 (kd_m10_mean.at 0 rfl) rfl rfl ?_
  refine ok_aload_n 0 (kd_m10_mean.at 1 rfl) rfl rfl ?_
  refine ok_iload_n 1 (kd_m10_mean.at 2 rfl) rfl rfl ?_
  refine ok_callVB (M' := m10_isPair) (as := [.int a1]) (st := [.ref 0]) (kd_m10_mean.at 3 rfl) kc10_115 sh_0 rfl rfl (by decide) (ok_m10_isPair a1 S) (kfit_of (by decide)) rfl (Nat.le_of_ble_eq_true rfl) (fun q1 hq1 => ?_)
  refine ok_iload_n 2 (kd_m10_mean.at 4 rfl) rfl rfl ?_
  refine ok_iconst (v := 5) (kd_m10_mean.at 5 rfl) (by decide) ?_
  refine ok_callSB (M' := m10_upTo) (as := [.int a2, .int 5]) (st := [.int (kb q1.1), .ref 0]) (kd_m10_mean.at 6 rfl) kc10_126  rfl (by decide) (ok_m10_upTo a2 5 q1.2) (kfit_of (by decide)) rfl (Nat.le_of_ble_eq_true rfl) (fun q2 hq2 => ?_)
  refine ok_callVB (M' := m10_may) (as := [.int (kb q1.1), .int (kb q2.1)]) (st := []) (kd_m10_mean.at 7 rfl) kc10_104 sh_0 rfl rfl (by decide) (ok_m10_may q1.1 q2.1 q2.2) (kfit_of (by decide)) rfl (Nat.le_of_ble_eq_true rfl) (fun q3 hq3 => ?_)
  refine ok_ifb_ne (tgt := 21) (kd_m10_mean.at 8 rfl) (by decide) (fun h4 => ?_) (fun h4 => ?_)
  · refine ok_lconst (v := 0) (kd_m10_mean.at 11 rfl) (by decide) ?_
    refine ok_lstore (lv' := [(4, .long 0), (0, .ref 0), (1, .int a1), (2, .int a2), (3, .int (kb a3))]) (kd_m10_mean.at 12 rfl) (by decide) rfl ?_
    refine ok_iconst (v := 0) (kd_m10_mean.at 13 rfl) (by decide) ?_
    refine ok_istore (lv' := [(6, .int 0), (4, .long 0), (0, .ref 0), (1, .int a1), (2, .int a2), (3, .int (kb a3))]) (kd_m10_mean.at 14 rfl) (by decide) rfl ?_
    refine ok_sub (lv' := [(0, .ref 0), (1, .int a1), (2, .int a2), (3, .int (kb a3)), (4, .long 0), (6, .int 0)]) [2, 3, 4, 5, 1, 0] rfl ?_
    refine ok_m10_mean_L27 a1 a2 a3 _ (fun x9 S10 => ?_) kFU 0 0 q3.2
    refine ok_aload_n 0 (kd_m10_mean.at 37 rfl) rfl rfl ?_
    refine ok_getR (kd_m10_mean.at 38 rfl) kf10_96 sh_0 rfl (kr_0_17 _) ?_
    refine ok_lload 3 (kd_m10_mean.at 39 rfl) rfl ?_
    refine ok_iload_n 1 (kd_m10_mean.at 40 rfl) rfl rfl ?_
    refine ok_callSL (M' := m10_allChances) (as := [.int a2]) (st := [.long x9, .ref 12]) (kd_m10_mean.at 41 rfl) kc10_368  rfl (by decide) (ok_m10_allChances a2 S10) (kfit_of (by decide)) rfl (Nat.le_of_ble_eq_true rfl) (fun q11 hq11 => ?_)
    refine ok_callVV (M' := m6_reduce) (as := [.long x9, .long q11.1]) (st := []) (kd_m10_mean.at 42 rfl) kc10_348 sh_12 rfl rfl (by decide) (ok_m6_reduce x9 q11.1 q11.2) (kfit_of (by decide)) rfl (Nat.le_of_ble_eq_true rfl) (fun q12 hq12 => ?_)
    refine ok_aload_n 0 (kd_m10_mean.at 43 rfl) rfl rfl ?_
    refine ok_getR (kd_m10_mean.at 44 rfl) kf10_96 sh_0 rfl (kr_0_17 _) ?_
    refine ok_iload_n 2 (kd_m10_mean.at 45 rfl) rfl rfl ?_
    refine ok_callVL (M' := m6_part) (as := [.int (kb a3)]) (st := []) (kd_m10_mean.at 46 rfl) kc10_352 sh_12 rfl rfl (by decide) (ok_m6_part a3 q12) (kfit_of (by decide)) rfl (Nat.le_of_ble_eq_true rfl) (fun q13 hq13 => ?_)
    exact ok_lreturn (kd_m10_mean.at 47 rfl) rfl
  · refine ok_ldc2 (kd_m10_mean.at 9 rfl) kcl_10_337 ?_
    exact ok_lreturn (kd_m10_mean.at 10 rfl) rfl
def f_m10_drawn_L60   (k111 : kSt → Option (Int32 × kSt)) (c3 : Int32) : Nat → Int32 → Int32 → kSt → Option (Int32 × kSt)
  | 0, _, _, _ => none
  | n + 1, v4, v5, S =>
    if c3 ≤ v5 then
      k111  S
    else
      (f_m10_drawFrom v4 S).bind fun q9 =>
      knx (fun  (S10 : kSt) =>
        knx (v5 + 1) fun x11 =>
        f_m10_drawn_L60 k111 c3 n q9.1 x11 S10
        ) fun j105 =>
      if (q9.2.1 1 1) ≤ (krem q9.1 100) then
        (f_m9_go 6 q9.2).bind fun q13 =>
        j105  q13
      else
        (f_m9_goDumb 6 q9.2).bind fun q14 =>
        j105  q14
theorem ok_m10_drawn_L60 {l : Launch} {G : kG} {E : kE}    (c3 : Int32) (k111 : kSt → Option (Int32 × kSt)) (hk111 : ∀  (S : kSt), kOk l G E (kZ G E kjI) m10_drawn (kdp (3)) (k111  S) 111 [(0, .ref 0)] [] S) : ∀ (n : Nat) (v4 : Int32) (v5 : Int32) (S : kSt), kOk l G E (kZ G E kjI) m10_drawn (kdp (3)) (f_m10_drawn_L60 k111 c3 n v4 v5 S) 60 [(0, .ref 0), (3, .int c3), (4, .int v4), (5, .int v5)] [] S := by
  intro n
  induction n with
  | zero => intro v4 v5 S; exact ok_none
  | succ n ih =>
    intro v4 v5 S
    rw [f_m10_drawn_L60]
    refine ok_iload 3 (kd_m10_drawn.at 31 rfl) rfl ?_
    refine ok_iload_n 1 (kd_m10_drawn.at 32 rfl) rfl rfl ?_
    refine ok_icmp_ge (tgt := 111) (kd_m10_drawn.at 33 rfl) (by decide) (fun h8 => ?_) (fun h8 => ?_)
    · refine ok_sub (lv' := [(0, .ref 0)]) [0] rfl ?_
      exact hk111  S
    · refine ok_iload 2 (kd_m10_drawn.at 34 rfl) rfl ?_
      refine ok_callSI (M' := m10_drawFrom) (as := [.int v4]) (st := []) (kd_m10_drawn.at 35 rfl) kc10_380  rfl (by decide) (ok_m10_drawFrom v4 S) (kfit_of (by decide)) rfl (Nat.le_of_ble_eq_true rfl) (fun q9 hq9 => ?_)
      refine ok_istore (lv' := [(4, .int q9.1), (0, .ref 0), (3, .int c3), (5, .int v5)]) (kd_m10_drawn.at 36 rfl) (by decide) rfl ?_
      refine ok_iload 0 (kd_m10_drawn.at 37 rfl) rfl ?_
      refine ok_bipush (v := 100) (kd_m10_drawn.at 38 rfl) (by decide) ?_
      refine ok_iremK (kd_m10_drawn.at 39 rfl) (by decide) ?_
      refine ok_aload_n 1 (kd_m10_drawn.at 40 rfl) rfl rfl ?_
      refine ok_getR (kd_m10_drawn.at 41 rfl) kf10_16 sh_0 rfl (kr_0_2 _) ?_
      refine ok_getI (kd_m10_drawn.at 42 rfl) kf10_372 sh_1 rfl ?_
      refine ok_nx (fun j105 hj105 => ?_)
      have K105 : ∀  (S10 : kSt), kOk l G E (kZ G E kjI) m10_drawn (kdp (3)) (j105  S10) 105 [(0, .ref 0), (3, .int c3), (4, .int q9.1), (5, .int v5)] [] S10 := by
        subst hj105
        intro  S10
        refine ok_nx (fun x11 hx11 => ?_)
        refine ok_iinc (v := x11) (lv' := [(5, .int x11), (0, .ref 0), (3, .int c3), (4, .int q9.1)]) 3 (kd_m10_drawn.at 51 rfl) rfl hx11.symm (by decide) rfl ?_
        refine ok_goto (tgt := 60) (kd_m10_drawn.at 52 rfl) (by decide) ?_
        refine ok_sub (lv' := [(0, .ref 0), (3, .int c3), (4, .int q9.1), (5, .int x11)]) [1, 2, 3, 0] rfl ?_
        exact ih q9.1 x11 S10
      clear hj105
      refine ok_icmp_ge (tgt := 98) (kd_m10_drawn.at 43 rfl) (by decide) (fun h12 => ?_) (fun h12 => ?_)
      · refine ok_aload_n 1 (kd_m10_drawn.at 48 rfl) rfl rfl ?_
        refine ok_getR (kd_m10_drawn.at 49 rfl) kf10_54 sh_0 rfl (kr_0_10 _) ?_
        refine ok_callVV (M' := m9_go) (as := []) (st := []) (kd_m10_drawn.at 50 rfl) kc10_188 sh_6 rfl rfl (by decide) (ok_m9_go 6 sh_6 q9.2) (kfit_of (by decide)) rfl (Nat.le_of_ble_eq_true rfl) (fun q13 hq13 => ?_)
        refine ok_sub (lv' := [(0, .ref 0), (3, .int c3), (4, .int q9.1), (5, .int v5)]) [1, 2, 0, 3] rfl ?_
        exact K105  q13
      · refine ok_aload_n 1 (kd_m10_drawn.at 44 rfl) rfl rfl ?_
        refine ok_getR (kd_m10_drawn.at 45 rfl) kf10_54 sh_0 rfl (kr_0_10 _) ?_
        refine ok_callVV (M' := m9_goDumb) (as := []) (st := []) (kd_m10_drawn.at 46 rfl) kc10_375 sh_6 rfl rfl (by decide) (ok_m9_goDumb 6 sh_6 q9.2) (kfit_of (by decide)) rfl (Nat.le_of_ble_eq_true rfl) (fun q14 hq14 => ?_)
        refine ok_goto (tgt := 105) (kd_m10_drawn.at 47 rfl) (by decide) ?_
        refine ok_sub (lv' := [(0, .ref 0), (3, .int c3), (4, .int q9.1), (5, .int v5)]) [1, 2, 0, 3] rfl ?_
        exact K105  q14
def f_m10_drawn (a1 : Int32) (a2 : Int32) (a3 : Int32) (S : kSt) : Option (Int32 × kSt) :=
  (f_m10_isPair a1 S).bind fun q1 =>
  (f_m10_upTo a2 65536 q1.2).bind fun q2 =>
  knx (fun (x3 : Bool) (S4 : kSt) =>
    (f_m10_may q1.1 x3 S4).bind fun q5 =>
    if q5.1 then
      (f_m9_begin 6 a1 q5.2).bind fun q7 =>
      f_m10_drawn_L60 
        (fun  (S15 : kSt) =>
          some (S15.1 6 4, S15)
        )
        a3 kFU a2 0 q7
    else
      some ((-1), q5.2)
    ) fun j30 =>
  knx (fun  (S16 : kSt) =>
    j30 false S16
    ) fun j29 =>
  if q2.1 then
    (f_m10_upTo a3 60 q2.2).bind fun q18 =>
    if q18.1 then
      j30 true q18.2
    else
      j29  q18.2
  else
    j29  q2.2
theorem ok_m10_drawn {l : Launch} {G : kG} {E : kE} (a1 : Int32) (a2 : Int32) (a3 : Int32)  (S : kSt) : kFn l G E E kjI m10_drawn 3 [.ref 0, .int a1, .int a2, .int a3] S (f_m10_drawn a1 a2 a3 S) := by
  unfold f_m10_drawn
  refine kFn_of (by decide +kernel) (fun hG => Nat.le_of_ble_eq_true rfl) ?_
  show kOk _ _ _ _ _ _ _ _ [(0, .ref 0), (1, .int a1), (2, .int a2), (3, .int a3)] _ _
  refine ok_aload_n 0 (kd_m10_drawn.at 0 rfl) rfl rfl ?_
  refine ok_aload_n 0 (kd_m10_drawn.at 1 rfl) rfl rfl ?_
  refine ok_iload_n 1 (kd_m10_drawn.at 2 rfl) rfl rfl ?_
  refine ok_callVB (M' := m10_isPair) (as := [.int a1]) (st := [.ref 0]) (kd_m10_drawn.at 3 rfl) kc10_115 sh_0 rfl rfl (by decide) (ok_m10_isPair a1 S) (kfit_of (by decide)) rfl (Nat.le_of_ble_eq_true rfl) (fun q1 hq1 => ?_)
  refine ok_iload_n 2 (kd_m10_drawn.at 4 rfl) rfl rfl ?_
  refine ok_ldcw (kd_m10_drawn.at 5 rfl) kco_10_356 ?_
  refine ok_callSB (M' := m10_upTo) (as := [.int a2, .int 65536]) (st := [.int (kb q1.1), .ref 0]) (kd_m10_drawn.at 6 rfl) kc10_126  rfl (by decide) (ok_m10_upTo a2 65536 q1.2) (kfit_of (by decide)) rfl (Nat.le_of_ble_eq_true rfl) (fun q2 hq2 => ?_)
  refine ok_nx (fun j30 hj30 => ?_)
  have K30 : ∀ (x3 : Bool) (S4 : kSt), kOk l G E (kZ G E kjI) m10_drawn (kdp (3)) (j30 x3 S4) 30 [(0, .ref 0), (1, .int a1), (2, .int a2), (3, .int a3)] [.int (kb x3), .int (kb q1.1), .ref 0] S4 := by
    subst hj30
    intro x3 S4
    refine ok_callVB (M' := m10_may) (as := [.int (kb q1.1), .int (kb x3)]) (st := []) (kd_m10_drawn.at 15 rfl) kc10_104 sh_0 rfl rfl (by decide) (ok_m10_may q1.1 x3 S4) (kfit_of (by decide)) rfl (Nat.le_of_ble_eq_true rfl) (fun q5 hq5 => ?_)
    refine ok_ifb_ne (tgt := 38) (kd_m10_drawn.at 16 rfl) (by decide) (fun h6 => ?_) (fun h6 => ?_)
    · refine ok_iload_n 2 (kd_m10_drawn.at 19 rfl) rfl rfl ?_
      refine ok_istore (lv' := [(4, .int a2), (0, .ref 0), (1, .int a1), (2, .int a2), (3, .int a3)]) (kd_m10_drawn.at 20 rfl) (by decide) rfl ?_
      refine ok_aload_n 1 (kd_m10_drawn.at 21 rfl) rfl rfl ?_
      refine ok_getR (kd_m10_drawn.at 22 rfl) kf10_54 sh_0 rfl (kr_0_10 _) ?_
      refine ok_aload_n 1 (kd_m10_drawn.at 23 rfl) rfl rfl ?_
      refine ok_getR (kd_m10_drawn.at 24 rfl) kf10_16 sh_0 rfl (kr_0_2 _) ?_
      refine ok_aload_n 1 (kd_m10_drawn.at 25 rfl) rfl rfl ?_
      refine ok_getR (kd_m10_drawn.at 26 rfl) kf10_35 sh_0 rfl (kr_0_6 _) ?_
      refine ok_iload_n 2 (kd_m10_drawn.at 27 rfl) rfl rfl ?_
      refine ok_callVV (M' := m9_begin) (as := [.ref 1, .ref 4, .int a1]) (st := []) (kd_m10_drawn.at 28 rfl) kc10_175 sh_6 rfl rfl (by decide) (ok_m9_begin 6 a1 sh_6 q5.2) (kfit_of (by decide)) rfl (Nat.le_of_ble_eq_true rfl) (fun q7 hq7 => ?_)
      refine ok_iconst (v := 0) (kd_m10_drawn.at 29 rfl) (by decide) ?_
      refine ok_istore (lv' := [(5, .int 0), (4, .int a2), (0, .ref 0), (1, .int a1), (2, .int a2), (3, .int a3)]) (kd_m10_drawn.at 30 rfl) (by decide) rfl ?_
      refine ok_sub (lv' := [(0, .ref 0), (3, .int a3), (4, .int a2), (5, .int 0)]) [2, 5, 1, 0] rfl ?_
      refine ok_m10_drawn_L60 a3 _ (fun S15 => ?_) kFU a2 0 q7
      refine ok_aload_n 0 (kd_m10_drawn.at 53 rfl) rfl rfl ?_
      refine ok_getR (kd_m10_drawn.at 54 rfl) kf10_54 sh_0 rfl (kr_0_10 _) ?_
      refine ok_getI (kd_m10_drawn.at 55 rfl) kf10_181 sh_6 rfl ?_
      exact ok_ireturn (kd_m10_drawn.at 56 rfl) rfl
    · refine ok_iconst (v := (-1)) (kd_m10_drawn.at 17 rfl) (by decide) ?_
      exact ok_ireturn (kd_m10_drawn.at 18 rfl) rfl
  clear hj30
  refine ok_nx (fun j29 hj29 => ?_)
  have K29 : ∀  (S16 : kSt), kOk l G E (kZ G E kjI) m10_drawn (kdp (3)) (j29  S16) 29 [(0, .ref 0), (1, .int a1), (2, .int a2), (3, .int a3)] [.int (kb q1.1), .ref 0] S16 := by
    subst hj29
    intro  S16
    refine ok_iconst (v := 0) (kd_m10_drawn.at 14 rfl) (by decide) ?_
    exact K30 false S16
  clear hj29
  refine ok_ifb_eq (tgt := 29) (kd_m10_drawn.at 7 rfl) (by decide) (fun h17 => ?_) (fun h17 => ?_)
  · exact K29  q2.2
  · refine ok_iload_n 3 (kd_m10_drawn.at 8 rfl) rfl rfl ?_
    refine ok_bipush (v := 60) (kd_m10_drawn.at 9 rfl) (by decide) ?_
    refine ok_callSB (M' := m10_upTo) (as := [.int a3, .int 60]) (st := [.int (kb q1.1), .ref 0]) (kd_m10_drawn.at 10 rfl) kc10_126  rfl (by decide) (ok_m10_upTo a3 60 q2.2) (kfit_of (by decide)) rfl (Nat.le_of_ble_eq_true rfl) (fun q18 hq18 => ?_)
    refine ok_ifb_eq (tgt := 29) (kd_m10_drawn.at 11 rfl) (by decide) (fun h19 => ?_) (fun h19 => ?_)
    · exact K29  q18.2
    · refine ok_iconst (v := 1) (kd_m10_drawn.at 12 rfl) (by decide) ?_
      refine ok_goto (tgt := 30) (kd_m10_drawn.at 13 rfl) (by decide) ?_
      exact K30 true q18.2
