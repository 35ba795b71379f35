def f_m5_clear_d  (S : kSt) : Option kSt :=
  knx (kuI S 2 0 0) fun S1 =>
  knx (kuI S1 2 1 0) fun S2 =>
  knx (kuI S2 2 2 0) fun S3 =>
  knx (kuI S3 2 3 0) fun S4 =>
  knx (kuI S4 2 4 0) fun S5 =>
  knx (kuI S5 2 5 0) fun S6 =>
  knx (kuI S6 2 6 0) fun S7 =>
  (f_mJ_fill_J7 29 5 0 S7).bind fun q8 =>
  (f_mJ_fill_J7 30 5 0 q8).bind fun q9 =>
  (f_mJ_fill_J7 31 5 0 q9).bind fun q10 =>
  (f_mJ_fill_J7 32 25 0 q10).bind fun q11 =>
  some q11
theorem ok_m5_clear_d {l : Launch} {G : kG} {E : kE}   (S : kSt) : kFn l G E E kjV m5_clear 2 [.ref 2] S (f_m5_clear_d  S) := by
  unfold f_m5_clear_d
  refine kFn_of (by decide +kernel) (fun hG => Nat.le_of_ble_eq_true rfl) ?_
  show kOk _ _ _ _ _ _ _ _ [(0, .ref 2)] _ _
  refine ok_aload_n 0 (kd_m5_clear.at 0 rfl) rfl rfl ?_
  refine ok_iconst (v := 0) (kd_m5_clear.at 1 rfl) (by decide) ?_
  refine ok_putI (kd_m5_clear.at 2 rfl) kf5_42 sh_2 rfl rfl ?_
  refine ok_nS (fun S1 hS1 => ?_)
  refine ok_aload_n 0 (kd_m5_clear.at 3 rfl) rfl rfl ?_
  refine ok_iconst (v := 0) (kd_m5_clear.at 4 rfl) (by decide) ?_
  refine ok_putI (kd_m5_clear.at 5 rfl) kf5_46 sh_2 rfl rfl ?_
  refine ok_nS (fun S2 hS2 => ?_)
  refine ok_aload_n 0 (kd_m5_clear.at 6 rfl) rfl rfl ?_
  refine ok_iconst (v := 0) (kd_m5_clear.at 7 rfl) (by decide) ?_
  refine ok_putI (kd_m5_clear.at 8 rfl) kf5_49 sh_2 rfl rfl ?_
  refine ok_nS (fun S3 hS3 => ?_)
  refine ok_aload_n 0 (kd_m5_clear.at 9 rfl) rfl rfl ?_
  refine ok_iconst (v := 0) (kd_m5_clear.at 10 rfl) (by decide) ?_
  refine ok_putI (kd_m5_clear.at 11 rfl) kf5_52 sh_2 rfl rfl ?_
  refine ok_nS (fun S4 hS4 => ?_)
  refine ok_aload_n 0 (kd_m5_clear.at 12 rfl) rfl rfl ?_
  refine ok_iconst (v := 0) (kd_m5_clear.at 13 rfl) (by decide) ?_
  refine ok_putI (kd_m5_clear.at 14 rfl) kf5_55 sh_2 rfl rfl ?_
  refine ok_nS (fun S5 hS5 => ?_)
  refine ok_aload_n 0 (kd_m5_clear.at 15 rfl) rfl rfl ?_
  refine ok_iconst (v := 0) (kd_m5_clear.at 16 rfl) (by decide) ?_
  refine ok_putI (kd_m5_clear.at 17 rfl) kf5_58 sh_2 rfl rfl ?_
  refine ok_nS (fun S6 hS6 => ?_)
  refine ok_aload_n 0 (kd_m5_clear.at 18 rfl) rfl rfl ?_
  refine ok_iconst (v := 0) (kd_m5_clear.at 19 rfl) (by decide) ?_
  refine ok_putI (kd_m5_clear.at 20 rfl) kf5_61 sh_2 rfl rfl ?_
  refine ok_nS (fun S7 hS7 => ?_)
  refine ok_aload_n 0 (kd_m5_clear.at 21 rfl) rfl rfl ?_
  refine ok_getR (kd_m5_clear.at 22 rfl) kf5_15 sh_2 rfl (kr_2_8 _) ?_
  refine ok_iconst (v := 0) (kd_m5_clear.at 23 rfl) (by decide) ?_
  refine ok_callSV (M' := mJ_fill_J7) (as := [.ref 29, .int 0]) (st := []) (kd_m5_clear.at 24 rfl) kc5_64  rfl (by decide) (ok_mJ_fill_J7 29 5 0 sh_29 S7) (kfit_of (by decide)) rfl (Nat.le_of_ble_eq_true rfl) (fun q8 hq8 => ?_)
  refine ok_aload_n 0 (kd_m5_clear.at 25 rfl) rfl rfl ?_
  refine ok_getR (kd_m5_clear.at 26 rfl) kf5_18 sh_2 rfl (kr_2_9 _) ?_
  refine ok_iconst (v := 0) (kd_m5_clear.at 27 rfl) (by decide) ?_
  refine ok_callSV (M' := mJ_fill_J7) (as := [.ref 30, .int 0]) (st := []) (kd_m5_clear.at 28 rfl) kc5_64  rfl (by decide) (ok_mJ_fill_J7 30 5 0 sh_30 q8) (kfit_of (by decide)) rfl (Nat.le_of_ble_eq_true rfl) (fun q9 hq9 => ?_)
  refine ok_aload_n 0 (kd_m5_clear.at 29 rfl) rfl rfl ?_
  refine ok_getR (kd_m5_clear.at 30 rfl) kf5_21 sh_2 rfl (kr_2_10 _) ?_
  refine ok_iconst (v := 0) (kd_m5_clear.at 31 rfl) (by decide) ?_
  refine ok_callSV (M' := mJ_fill_J7) (as := [.ref 31, .int 0]) (st := []) (kd_m5_clear.at 32 rfl) kc5_64  rfl (by decide) (ok_mJ_fill_J7 31 5 0 sh_31 q9) (kfit_of (by decide)) rfl (Nat.le_of_ble_eq_true rfl) (fun q10 hq10 => ?_)
  refine ok_aload_n 0 (kd_m5_clear.at 33 rfl) rfl rfl ?_
  refine ok_getR (kd_m5_clear.at 34 rfl) kf5_24 sh_2 rfl (kr_2_11 _) ?_
  refine ok_iconst (v := 0) (kd_m5_clear.at 35 rfl) (by decide) ?_
  refine ok_callSV (M' := mJ_fill_J7) (as := [.ref 32, .int 0]) (st := []) (kd_m5_clear.at 36 rfl) kc5_64  rfl (by decide) (ok_mJ_fill_J7 32 25 0 sh_32 q10) (kfit_of (by decide)) rfl (Nat.le_of_ble_eq_true rfl) (fun q11 hq11 => ?_)
  exact ok_return (kd_m5_clear.at 37 rfl) rfl
def f_m7_read_L55   (k81 : kSt → Option (Bool × kSt)) (k89 : kSt → Option (Bool × kSt))  : Nat → Int32 → kSt → Option (Bool × kSt)
  | 0, _, _ => none
  | n + 1, v3, S =>
    if 900 ≤ v3 then
      k89  S
    else
      if (S.1 3 3) = 3 then
        (f_m7_next  S).bind fun q11 =>
        (f_m7_readLine  q11).bind fun q12 =>
        if q12.1 then
          knx (v3 + 1) fun x14 =>
          f_m7_read_L55 k81 k89 n x14 q12.2
        else
          k81  q12.2
      else
        k89  S
theorem ok_m7_read_L55 {l : Launch} {G : kG} {ad : Nat → Nat}     (k81 : kSt → Option (Bool × kSt)) (k89 : kSt → Option (Bool × kSt)) (hk81 : ∀  (S : kSt), kOk l G (ad, 2) (kZ G (ad, 2) kjB) m7_read (kdp (10)) (k81  S) 81 [] [] S) (hk89 : ∀  (S : kSt), kOk l G (ad, 2) (kZ G (ad, 2) kjB) m7_read (kdp (10)) (k89  S) 89 [(0, .ref 3)] [] S) : ∀ (n : Nat) (v3 : Int32) (S : kSt), kOk l G (ad, 2) (kZ G (ad, 2) kjB) m7_read (kdp (10)) (f_m7_read_L55 k81 k89 n v3 S) 55 [(0, .ref 3), (3, .int v3)] [] S := by
  intro n
  induction n with
  | zero => intro v3 S; exact ok_none
  | succ n ih =>
    intro v3 S
    rw [f_m7_read_L55]
    refine ok_iload_n 1 (kd_m7_read.at 31 rfl) rfl rfl ?_
    refine ok_sipush (v := 900) (kd_m7_read.at 32 rfl) (by decide) ?_
    refine ok_icmp_ge (tgt := 89) (kd_m7_read.at 33 rfl) (by decide) (fun h9 => ?_) (fun h9 => ?_)
    · refine ok_sub (lv' := [(0, .ref 3)]) [0] rfl ?_
      exact hk89  S
    · refine ok_aload_n 0 (kd_m7_read.at 34 rfl) rfl rfl ?_
      refine ok_getI (kd_m7_read.at 35 rfl) kf7_57 sh_3 rfl ?_
      refine ok_iconst (v := 3) (kd_m7_read.at 36 rfl) (by decide) ?_
      refine ok_icmp_ne (tgt := 89) (kd_m7_read.at 37 rfl) (by decide) (fun h10 => ?_) (fun h10 => ?_)
      · refine ok_sub (lv' := [(0, .ref 3)]) [0] rfl ?_
        exact hk89  S
      · refine ok_aload_n 0 (kd_m7_read.at 38 rfl) rfl rfl ?_
        refine ok_callVV (M' := m7_next) (as := []) (st := []) (kd_m7_read.at 39 rfl) kc7_50 sh_3 rfl rfl (by decide) (ok_m7_next  S) (kfit_of (by decide)) rfl (Nat.le_of_ble_eq_true rfl) (fun q11 hq11 => ?_)
        refine ok_aload_n 0 (kd_m7_read.at 40 rfl) rfl rfl ?_
        refine ok_callVB (M' := m7_readLine) (as := []) (st := []) (kd_m7_read.at 41 rfl) kc7_60 sh_3 rfl rfl (by decide) (ok_m7_readLine  q11) (kfit_of (by decide)) rfl (Nat.le_of_ble_eq_true rfl) (fun q12 hq12 => ?_)
        refine ok_ifb_ne (tgt := 83) (kd_m7_read.at 42 rfl) (by decide) (fun h13 => ?_) (fun h13 => ?_)
        · refine ok_nx (fun x14 hx14 => ?_)
          refine ok_iinc (v := x14) (lv' := [(3, .int x14), (0, .ref 3)]) 1 (kd_m7_read.at 45 rfl) rfl hx14.symm (by decide) rfl ?_
          refine ok_goto (tgt := 55) (kd_m7_read.at 46 rfl) (by decide) ?_
          refine ok_sub (lv' := [(0, .ref 3), (3, .int x14)]) [1, 0] rfl ?_
          exact ih x14 q12.2
        · refine ok_sub (lv' := []) [] rfl ?_
          exact hk81  q12.2
def f_m7_read (a1 : Int32) (S : kSt) : Option (Bool × kSt) :=
  (f_m5_clear_d  S).bind fun q1 =>
  knx (kuI q1 3 1 (kmin a1 (Int32.ofNat 900))) fun S2 =>
  knx (kuI S2 3 2 0) fun S3 =>
  knx (kuI S3 3 9 0) fun S4 =>
  knx (kuI S4 3 10 0) fun S5 =>
  (f_m7_next  S5).bind fun q6 =>
  (f_m7_readHead  q6).bind fun q7 =>
  if q7.1 then
    f_m7_read_L55 
      (fun  (S15 : kSt) =>
        some (false, S15)
      )
      (fun  (S16 : kSt) =>
        if (S16.1 3 3) = 0 then
          knx (fun  (S18 : kSt) =>
            some (true, S18)
            ) fun j121 =>
          if 0 < (S16.1 2 2) then
            j121  S16
          else
            (f_m7_found 6 S16).bind fun q20 =>
            if q20.1 then
              j121  q20.2
            else
              some (false, q20.2)
        else
          (f_m7_found 1 S16).bind fun q22 =>
          some (q22.1, q22.2)
      )
      kFU 1 q7.2
  else
    some (false, q7.2)
theorem ok_m7_read {l : Launch} {G : kG} {ad : Nat → Nat} {z : Nat} (a1 : Int32) (S : kSt) : kFn l G (ad, z) (ad, 2) kjB m7_read 10 [.ref 3, .int a1, .ref 2] S (f_m7_read a1 S) := by
  unfold f_m7_read
  refine kFn_of (by decide +kernel) (fun hG => Nat.le_of_ble_eq_true rfl) ?_
  show kOk _ _ _ _ _ _ _ _ [(0, .ref 3), (1, .int a1), (2, .ref 2)] _ _
  refine ok_aload_n 0 (kd_m7_read.at 0 rfl) rfl rfl ?_
  refine ok_aload_n 2 (kd_m7_read.at 1 rfl) rfl rfl ?_
  refine ok_putP (kd_m7_read.at 2 rfl) kf7_22 ?_
  refine ok_aload_n 0 (kd_m7_read.at 3 rfl) rfl rfl ?_
  refine ok_getR (kd_m7_read.at 4 rfl) kf7_22 sh_3 rfl (kr_3_6 _) ?_
  refine ok_callVV (M' := m5_clear) (as := []) (st := []) (kd_m7_read.at 5 rfl) kc7_26 sh_2 rfl rfl (by decide) (ok_m5_clear_d  S) (kfit_of (by decide)) rfl (Nat.le_of_ble_eq_true rfl) (fun q1 hq1 => ?_)
  refine ok_aload_n 0 (kd_m7_read.at 6 rfl) rfl rfl ?_
  refine ok_iload_n 1 (kd_m7_read.at 7 rfl) rfl rfl ?_
  refine ok_aload_n 0 (kd_m7_read.at 8 rfl) rfl rfl ?_
  refine ok_getR (kd_m7_read.at 9 rfl) kf7_18 sh_3 rfl (kr_3_0 _) ?_
  refine ok_alenB (kd_m7_read.at 10 rfl) sh_15 ?_
  refine ok_mmin (kd_m7_read.at 11 rfl) kc7_31 (kfit_of (by decide)) (Nat.le_of_ble_eq_true rfl) ?_
  refine ok_putI (kd_m7_read.at 12 rfl) kf7_37 sh_3 rfl rfl ?_
  refine ok_nS (fun S2 hS2 => ?_)
  refine ok_aload_n 0 (kd_m7_read.at 13 rfl) rfl rfl ?_
  refine ok_iconst (v := 0) (kd_m7_read.at 14 rfl) (by decide) ?_
  refine ok_putI (kd_m7_read.at 15 rfl) kf7_41 sh_3 rfl rfl ?_
  refine ok_nS (fun S3 hS3 => ?_)
  refine ok_aload_n 0 (kd_m7_read.at 16 rfl) rfl rfl ?_
  refine ok_iconst (v := 0) (kd_m7_read.at 17 rfl) (by decide) ?_
  refine ok_putI (kd_m7_read.at 18 rfl) kf7_44 sh_3 rfl rfl ?_
  refine ok_nS (fun S4 hS4 => ?_)
  refine ok_aload_n 0 (kd_m7_read.at 19 rfl) rfl rfl ?_
  refine ok_iconst (v := 0) (kd_m7_read.at 20 rfl) (by decide) ?_
  refine ok_putI (kd_m7_read.at 21 rfl) kf7_47 sh_3 rfl rfl ?_
  refine ok_nS (fun S5 hS5 => ?_)
  refine ok_aload_n 0 (kd_m7_read.at 22 rfl) rfl rfl ?_
  refine ok_callVV (M' := m7_next) (as := []) (st := []) (kd_m7_read.at 23 rfl) kc7_50 sh_3 rfl rfl (by decide) (ok_m7_next  S5) (kfit_of (by decide)) rfl (Nat.le_of_ble_eq_true rfl) (fun q6 hq6 => ?_)
  refine ok_aload_n 0 (kd_m7_read.at 24 rfl) rfl rfl ?_
  refine ok_callVB (M' := m7_readHead) (as := []) (st := []) (kd_m7_read.at 25 rfl) kc7_53 sh_3 rfl rfl (by decide) (ok_m7_readHead  q6) (kfit_of (by decide)) rfl (Nat.le_of_ble_eq_true rfl) (fun q7 hq7 => ?_)
  refine ok_ifb_ne (tgt := 53) (kd_m7_read.at 26 rfl) (by decide) (fun h8 => ?_) (fun h8 => ?_)
  · refine ok_iconst (v := 1) (kd_m7_read.at 29 rfl) (by decide) ?_
    refine ok_istore_n (lv' := [(3, .int 1), (0, .ref 3), (1, .int a1), (2, .ref 2)]) (kd_m7_read.at 30 rfl) rfl (by decide) rfl ?_
    refine ok_sub (lv' := [(0, .ref 3), (3, .int 1)]) [1, 0] rfl ?_
    refine ok_m7_read_L55 _ _ (fun S15 => ?_) (fun S16 => ?_) kFU 1 q7.2
    · refine ok_iconst (v := 0) (kd_m7_read.at 43 rfl) (by decide) ?_
      exact ok_zreturn (x := false) (kd_m7_read.at 44 rfl) rfl
    · refine ok_aload_n 0 (kd_m7_read.at 47 rfl) rfl rfl ?_
      refine ok_getI (kd_m7_read.at 48 rfl) kf7_57 sh_3 rfl ?_
      refine ok_if_eq (tgt := 102) (kd_m7_read.at 49 rfl) (by decide) (fun h17 => ?_) (fun h17 => ?_)
      · refine ok_aload_n 0 (kd_m7_read.at 54 rfl) rfl rfl ?_
        refine ok_getR (kd_m7_read.at 55 rfl) kf7_22 sh_3 rfl (kr_3_6 _) ?_
        refine ok_getI (kd_m7_read.at 56 rfl) kf7_67 sh_2 rfl ?_
        refine ok_nx (fun j121 hj121 => ?_)
        have K121 : ∀  (S18 : kSt), kOk l G (ad, 2) (kZ G (ad, 2) kjB) m7_read (kdp (10)) (j121  S18) 121 [] [] S18 := by
          subst hj121
          intro  S18
          refine ok_iconst (v := 1) (kd_m7_read.at 62 rfl) (by decide) ?_
          refine ok_goto (tgt := 126) (kd_m7_read.at 63 rfl) (by decide) ?_
          exact ok_zreturn (x := true) (kd_m7_read.at 65 rfl) rfl
        clear hj121
        refine ok_if_gt (tgt := 121) (kd_m7_read.at 57 rfl) (by decide) (fun h19 => ?_) (fun h19 => ?_)
        · refine ok_sub (lv' := []) [] rfl ?_
          exact K121  S16
        · refine ok_aload_n 0 (kd_m7_read.at 58 rfl) rfl rfl ?_
          refine ok_bipush (v := 6) (kd_m7_read.at 59 rfl) (by decide) ?_
          refine ok_callVB (M' := m7_found) (as := [.int 6]) (st := []) (kd_m7_read.at 60 rfl) kc7_63 sh_3 rfl rfl (by decide) (ok_m7_found 6 S16) (kfit_of (by decide)) rfl (Nat.le_of_ble_eq_true rfl) (fun q20 hq20 => ?_)
          refine ok_ifb_eq (tgt := 125) (kd_m7_read.at 61 rfl) (by decide) (fun h21 => ?_) (fun h21 => ?_)
          · refine ok_iconst (v := 0) (kd_m7_read.at 64 rfl) (by decide) ?_
            exact ok_zreturn (x := false) (kd_m7_read.at 65 rfl) rfl
          · refine ok_sub (lv' := []) [] rfl ?_
            exact K121  q20.2
      · refine ok_aload_n 0 (kd_m7_read.at 50 rfl) rfl rfl ?_
        refine ok_iconst (v := 1) (kd_m7_read.at 51 rfl) (by decide) ?_
        refine ok_callVB (M' := m7_found) (as := [.int 1]) (st := []) (kd_m7_read.at 52 rfl) kc7_63 sh_3 rfl rfl (by decide) (ok_m7_found 1 S16) (kfit_of (by decide)) rfl (Nat.le_of_ble_eq_true rfl) (fun q22 hq22 => ?_)
        exact ok_zreturn (x := q22.1) (kd_m7_read.at 53 rfl) rfl
  · refine ok_iconst (v := 0) (kd_m7_read.at 27 rfl) (by decide) ?_
    exact ok_zreturn (x := false) (kd_m7_read.at 28 rfl) rfl
theorem ok_swap {ρ : Type} {l : Launch} {G : kG} {ad : Nat → Nat} {Z : (Nat → Prop) → ρ → Array Value → State → Outcome → State → Prop} {d : kDD} {o : Option ρ} {S : kSt} {a1 : Int32} (k : kOk l G (fun i => ad (kσ i), 1) Z m10_pier d o 61 [(0, .ref 0)] [] (ksig S)) : kOk l G (ad, 2) Z m10_pier d o 43 [(0, .ref 0), (1, .int a1)] [] S := by
  refine ok_aload_n 0 (kd_m10_pier.at 23 rfl) rfl rfl ?_
  refine ok_getR (kd_m10_pier.at 24 rfl) kf10_16 sh_0 rfl (kr_0_2 _) ?_
  refine ok_astore_n (lv' := [(2, .ref 1), (0, .ref 0), (1, .int a1)]) (kd_m10_pier.at 25 rfl) rfl (by decide) rfl ?_
  refine ok_aload_n 1 (kd_m10_pier.at 26 rfl) rfl rfl ?_
  refine ok_aload_n 1 (kd_m10_pier.at 27 rfl) rfl rfl ?_
  refine ok_getR (kd_m10_pier.at 28 rfl) kf10_20 sh_0 rfl (kr_0_3 _) ?_
  intro p e s m args below meth c0 A H locs ls q C hP hS hl ho
  have hdc1 := (kd_m10_pier.at 29 rfl).1
  have hdc2 := (kd_m10_pier.at 30 rfl).1
  have hdc3 := (kd_m10_pier.at 31 rfl).1
  have hdc4 := (kd_m10_pier.at 32 rfl).1
  obtain ⟨Cn, T, N, g1, g2, g3, g4⟩ := kf10_16
  obtain ⟨Cn', T', N', g1', g2', g3', g4'⟩ := kf10_20
  have hN := kshN sh_0 g1
  subst hN
  have hE : (Cn, T, 19) = (Cn', T', N') := Option.some.inj (g1.symm.trans g1')
  cases hE
  have hlt := kSH_lt sh_0
  have hD : va_D A (kws G (ad, 2) S) := kws_D C.2.2.2.2.2.2.1 C.2.2.2.2.2.1
  have hff : ∀ j, kFin 10 j = false → (T j).2.2.2 = false := by
    intro j hfin
    unfold kFin at hfin
    rw [g1] at hfin
    exact hfin
  refine va_put (v := .ref (ad 2)) (a := ad 0) (fs := kfs (ad, 2) S 0 10 19) C.1.1 C.1.2.1 C.1.2.2.2.2.2.2 (kob g1).1 (kTyp 10) (kob g1).2.1 (kob g1).2.2 C.1.2.2.2.2.2.1 C.2.1 hP hD hS 0 (by rw [kws_at hlt, kent_obj sh_0]) g1 2 g2 (C.1.2.2.2.2.2.2 _ g3) (by rw [g4]; exact fun _ h => h) (hff 2 rfl) ((kob g1).2.1 2 g2) rfl rfl (by simpa [kfs] using g2) hdc1 (fun H1 locs1 hP1 hD1 hS1 => ?_)
  refine lv_aload_n (x := ad 0) C.1.1 C.1.2.1 hdc2 rfl (klv_at hl 1 rfl) ?_
  refine lv_aload_n (x := ad 1) C.1.1 C.1.2.1 hdc3 rfl (klv_at hl 0 rfl) ?_
  refine va_put (v := .ref (ad 1)) (a := ad 0) (fs := (kfs (ad, 2) S 0 10 19).set 2 (.ref (ad 2))) C.1.1 C.1.2.1 C.1.2.2.2.2.2.2 (kob g1).1 (kTyp 10) (kob g1).2.1 (kob g1).2.2 C.1.2.2.2.2.2.1 C.2.1 hP1 hD1 hS1 0 (by rw [List.getElem?_set_self (by simpa [kws] using hlt)]) g1 3 g2' (C.1.2.2.2.2.2.2 _ g3') (by rw [g4']; exact fun _ h => h) (hff 3 rfl) ((kob g1).2.1 3 g2') rfl rfl (by simp [kfs]) hdc4 (fun H2 locs2 hP2 _ hS2 => ?_)
  rw [List.set_set] at hP2
  have hP3 := kws_σ (fs := ((kfs (ad, 2) S 0 10 19).set 2 (.ref (ad 2))).set 3 (.ref (ad 1))) rfl hP2
  refine k p e s m args below meth c0 A H2 locs2 ls q (kCx_σ C) hP3 hS2 ⟨hl.1, hl.2.1, fun x hx => ?_⟩ ho
  simp only [List.map_cons, List.map_nil, List.mem_singleton] at hx
  subst hx
  exact klv_at hl 1 rfl
def kZx (G : kG) (ad : Nat → Nat) (A : Nat → Prop) (q : Int32 × kSt) : Array Value → State → Outcome → State → Prop := fun a s oc t => (∃ z', kZ G (ad, z') kjI A q a s oc t) ∨ (∃ z', kZ G (fun i => ad (kσ i), z') kjI A q a s oc t)
def f_m10_pier (a1 : Int32) (S : kSt) : Option (Int32 × kSt) :=
  (f_m10_upTo a1 (S.1 0 1) S).bind fun q1 =>
  if q1.1 then
    knx (kuI q1.2 0 1 0) fun S2 =>
    (f_m7_read a1 S2).bind fun q3 =>
    if q3.1 then
      knx (ksig q3.2) fun S9 =>
      knx (kuI S9 0 5 (kb true)) fun S1 =>
      (f_m4_begin  S1).bind fun q2 =>
      (f_m3_forget  q2).bind fun q3 =>
      knx (kuI q3 0 9 0) fun S4 =>
      knx (kuI S4 0 18 0) fun S5 =>
      some (S5.1 1 2, S5)
    else
      (f_m10_refuse 4 q3.2).bind fun q4 =>
      some (q4.1, q4.2)
  else
    (f_m10_refuse 2 q1.2).bind fun q5 =>
    some (q5.1, q5.2)
theorem ok_m10_pier {l : Launch} {G : kG} {ad : Nat → Nat} {z : Nat} (a1 : Int32) (S : kSt) : ∀ q, f_m10_pier a1 S = some q → ∀ sz, Met l m10_pier.1 (kWs m10_pier) (krm 11) (va_Pc (([.ref 0, .int a1] : List Value).map (kcv ad)) (kWd G (ad, z) S sz)) (kZx G ad (kA (ad, z) sz) q) 0 0 (kA (ad, z) sz) := by
  unfold f_m10_pier
  refine kMet_of (E := (ad, z)) (Z := kZx G ad) (by decide +kernel) (Nat.le_of_ble_eq_true rfl) ?_
  show kOk _ _ _ _ _ _ _ _ [(0, .ref 0), (1, .int a1)] _ _
  refine ok_iload_n 1 (kd_m10_pier.at 0 rfl) rfl rfl ?_
  refine ok_aload_n 0 (kd_m10_pier.at 1 rfl) rfl rfl ?_
  refine ok_getI (kd_m10_pier.at 2 rfl) kf10_119 sh_0 rfl ?_
  refine ok_callSB (M' := m10_upTo) (as := [.int a1, .int (S.1 0 1)]) (st := []) (kd_m10_pier.at 3 rfl) kc10_126 rfl (by decide) (ok_m10_upTo a1 (S.1 0 1) S) (kfit_of (by decide)) rfl (Nat.le_of_ble_eq_true rfl) (fun q1 hq1 => ?_)
  refine ok_ifb_ne (tgt := 17) (kd_m10_pier.at 4 rfl) (by decide) (fun h4 => ?_) (fun h4 => ?_)
  · refine ok_aload_n 0 (kd_m10_pier.at 9 rfl) rfl rfl ?_
    refine ok_iconst (v := 0) (kd_m10_pier.at 10 rfl) (by decide) ?_
    refine ok_putI (kd_m10_pier.at 11 rfl) kf10_119 sh_0 rfl rfl ?_
    refine ok_nS (fun S2 hS2 => ?_)
    refine ok_aload_n 0 (kd_m10_pier.at 12 rfl) rfl rfl ?_
    refine ok_getR (kd_m10_pier.at 13 rfl) kf10_28 sh_0 rfl (kr_0_4 _) ?_
    refine ok_iload_n 1 (kd_m10_pier.at 14 rfl) rfl rfl ?_
    refine ok_aload_n 0 (kd_m10_pier.at 15 rfl) rfl rfl ?_
    refine ok_getR (kd_m10_pier.at 16 rfl) kf10_20 sh_0 rfl (kr_0_3 _) ?_
    refine ok_callP (M' := m7_read) (as := [.int a1, .ref 2]) (st := []) (kd_m10_pier.at 17 rfl) kc10_134 sh_3 rfl rfl (by decide) (ok_m7_read a1 S2) (kfit_of (by decide)) rfl (Nat.le_of_ble_eq_true rfl) (fun q3 hq3 => ?_)
    refine ok_ifb_ne (tgt := 43) (kd_m10_pier.at 18 rfl) (by decide) (fun h5 => ?_) (fun h5 => ?_)
    · refine ok_swap ?_
      refine ok_nS (fun S9 hS9 => ?_)
      refine ok_aload_n 0 (kd_m10_pier.at 33 rfl) rfl rfl ?_
      refine ok_iconst (v := 1) (kd_m10_pier.at 34 rfl) (by decide) ?_
      refine ok_putZ (b := true) (kd_m10_pier.at 35 rfl) kf10_108 sh_0 rfl rfl ?_
      refine ok_nS (fun S1 hS1 => ?_)
      refine ok_aload_n 0 (kd_m10_pier.at 36 rfl) rfl rfl ?_
      refine ok_getR (kd_m10_pier.at 37 rfl) kf10_35 sh_0 rfl (kr_0_6 _) ?_
      refine ok_aload_n 0 (kd_m10_pier.at 38 rfl) rfl rfl ?_
      refine ok_getR (kd_m10_pier.at 39 rfl) kf10_16 sh_0 rfl (kr_0_2 _) ?_
      refine ok_callVV (M' := m4_begin) (as := [.ref 1]) (st := []) (kd_m10_pier.at 40 rfl) kc10_138 sh_4 rfl rfl (by decide) (ok_m4_begin  S1) (kfit_of (by decide)) rfl (Nat.le_of_ble_eq_true rfl) (fun q2 hq2 => ?_)
      refine ok_aload_n 0 (kd_m10_pier.at 41 rfl) rfl rfl ?_
      refine ok_getR (kd_m10_pier.at 42 rfl) kf10_42 sh_0 rfl (kr_0_7 _) ?_
      refine ok_callVV (M' := m3_forget) (as := []) (st := []) (kd_m10_pier.at 43 rfl) kc10_142 sh_5 rfl rfl (by decide) (ok_m3_forget  q2) (kfit_of (by decide)) rfl (Nat.le_of_ble_eq_true rfl) (fun q3 hq3 => ?_)
      refine ok_aload_n 0 (kd_m10_pier.at 44 rfl) rfl rfl ?_
      refine ok_iconst (v := 0) (kd_m10_pier.at 45 rfl) (by decide) ?_
      refine ok_putI (kd_m10_pier.at 46 rfl) kf10_145 sh_0 rfl rfl ?_
      refine ok_nS (fun S4 hS4 => ?_)
      refine ok_aload_n 0 (kd_m10_pier.at 47 rfl) rfl rfl ?_
      refine ok_iconst (v := 0) (kd_m10_pier.at 48 rfl) (by decide) ?_
      refine ok_putI (kd_m10_pier.at 49 rfl) kf10_100 sh_0 rfl rfl ?_
      refine ok_nS (fun S5 hS5 => ?_)
      refine ok_aload_n 0 (kd_m10_pier.at 50 rfl) rfl rfl ?_
      refine ok_getR (kd_m10_pier.at 51 rfl) kf10_16 sh_0 rfl (kr_0_2 _) ?_
      refine ok_getI (kd_m10_pier.at 52 rfl) kf10_112 sh_1 rfl ?_
      exact ok_ireturnZ (kd_m10_pier.at 53 rfl) rfl (fun _ _ _ _ _ h => Or.inr ⟨_, h⟩)
    · refine ok_aload_n 0 (kd_m10_pier.at 19 rfl) rfl rfl ?_
      refine ok_iconst (v := 4) (kd_m10_pier.at 20 rfl) (by decide) ?_
      refine ok_callVI (M' := m10_refuse) (as := [.int 4]) (st := []) (kd_m10_pier.at 21 rfl) kc10_130 sh_0 rfl rfl (by decide) (ok_m10_refuse 4 q3.2) (kfit_of (by decide)) rfl (Nat.le_of_ble_eq_true rfl) (fun q4 hq4 => ?_)
      exact ok_ireturnZ (kd_m10_pier.at 22 rfl) rfl (fun _ _ _ _ _ h => Or.inl ⟨_, h⟩)
  · refine ok_aload_n 0 (kd_m10_pier.at 5 rfl) rfl rfl ?_
    refine ok_iconst (v := 2) (kd_m10_pier.at 6 rfl) (by decide) ?_
    refine ok_callVI (M' := m10_refuse) (as := [.int 2]) (st := []) (kd_m10_pier.at 7 rfl) kc10_130 sh_0 rfl rfl (by decide) (ok_m10_refuse 2 q1.2) (kfit_of (by decide)) rfl (Nat.le_of_ble_eq_true rfl) (fun q5 hq5 => ?_)
    exact ok_ireturnZ (kd_m10_pier.at 8 rfl) rfl (fun _ _ _ _ _ h => Or.inl ⟨_, h⟩)
