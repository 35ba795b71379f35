theorem k1ne : ((1 : Int32) = 0) = False := by decide
theorem kn64 : ((-1 : Int32).toInt64) = -1 := by decide
theorem k2ne : ((2 : Int32) = 0) = False := by decide
def cb_alikeIn (a1 : Int32) (a2 : Int32) (S : kSt) : Option (Int32 × kSt) :=
  (f_m9_begin 6 a1 S).bind fun q4 =>
  (f_m9_begin 7 a2 q4).bind fun q5 =>
  f_m10_alikeIn_L49 
    (fun (x11 : Int32) (S12 : kSt) =>
      some (x11, S12)
    )
    (fun  (S13 : kSt) =>
      some ((-2), S13)
    )
    kFU 0 q5
def mb_alikeIn (a1 : Int32) (a2 : Int32) (S : kSt) : Option (Int32 × kSt) :=
  f_m11_alikeIn_L21 
    (fun (x9 : Int32) (S10 : kSt) =>
      some (x9, S10)
    )
    (fun  (S11 : kSt) =>
      some ((-2), S11)
    )
    a1 a2 kFU 0 S
theorem ag_alikeIn {S : kSt} (hI : Inv S) (a1 : Int32) (a2 : Int32) (h : ppB S a1 a2 = true → true = true → Body (cb_alikeIn a1 a2) (mb_alikeIn a1 a2) (kuI S 0 18 0)) : Agree (f_m10_alikeIn a1 a2) (f_m11_alikeIn a1 a2) S := by
  refine ag_core hI (A := ppB S a1 a2) (B := true) (rf := (-1)) ?_ (fun T hk => ?_) h
  · unfold f_m10_alikeIn
    rw [c_unlike hI]
    simp only [Option.bind_some]
    rw [c_may1]
    simp only [Option.bind_some]
    cases ppB S a1 a2
    · simp only [Bool.false_and, Bool.and_false, Bool.true_and, Bool.and_self, Bool.false_eq_true, if_false, if_true, Option.bind_some, k1ne, k2ne, m_no, knx, kn64]
    · simp only [Bool.and_self, if_true, Bool.true_and, Bool.and_true, cb_alikeIn]
  · unfold f_m11_alikeIn
    rw [m_good]
    simp only [Option.bind_some]
    rw [m_two hI (hk.tr kG0_keep)]
    simp only [Option.bind_some]
    cases ppB S a1 a2
    · simp only [Bool.false_and, Bool.and_false, Bool.true_and, Bool.and_self, Bool.false_eq_true, if_false, if_true, Option.bind_some, k1ne, k2ne, m_no, knx, kn64]
    · simp only [Bool.and_self, if_true, Bool.true_and, Bool.and_true, mb_alikeIn]
def cb_change (a1 : Int32) (S : kSt) : Option (Int32 × kSt) :=
  kgi a1 5 (
    knx ((S.1 1 0) - (S.1 40 a1.toNatClampNeg)) fun x4 =>
    kgi a1 5 (
      if x4 = (S.1 40 a1.toNatClampNeg) then
        (f_m10_refuse 5 S).bind fun q8 =>
        some (q8.1, q8.2)
      else
        (f_m3_keep  S).bind fun q6 =>
        kgi a1 5 (
          knx (kuI q6 40 a1.toNatClampNeg x4) fun S7 =>
          some (x4, S7)
        )
    )
  )
def mb_change (a1 : Int32) (S : kSt) : Option (Int32 × kSt) :=
  kgi a1 36 (
    if (2 * (S.1 61 a1.toNatClampNeg)) = (S.1 57 0) then
      (f_m11_no 5 S).bind fun q7 =>
      some (q7.1, q7.2)
    else
      (f_m11_note  S).bind fun q5 =>
      kgi a1 36 (
        kgi a1 36 (
          knx (kuI q5 61 a1.toNatClampNeg ((q5.1 57 0) - (q5.1 61 a1.toNatClampNeg))) fun S6 =>
          kgi a1 36 (
            some (S6.1 61 a1.toNatClampNeg, S6)
          )
        )
      )
  )
theorem ag_change {S : kSt} (hI : Inv S) (a1 : Int32) (h : pB S a1 = true → true = true → Body (cb_change a1) (mb_change a1) (kuI S 0 18 0)) : Agree (f_m10_change a1) (f_m11_change a1) S := by
  refine ag_core hI (A := pB S a1) (B := true) (rf := (-1)) ?_ (fun T hk => ?_) h
  · unfold f_m10_change
    rw [c_isPair hI]
    simp only [Option.bind_some]
    rw [c_may1]
    simp only [Option.bind_some]
    cases pB S a1
    · simp only [Bool.false_and, Bool.and_false, Bool.true_and, Bool.and_self, Bool.false_eq_true, if_false, if_true, Option.bind_some, k1ne, k2ne, m_no, knx, kn64]
    · simp only [Bool.and_self, if_true, Bool.true_and, Bool.and_true, cb_change]
  · unfold f_m11_change
    rw [m_good]
    simp only [Option.bind_some]
    rw [m_isPair hI (hk.tr kG0_keep)]
    simp only [Option.bind_some]
    cases pB S a1
    · simp only [Bool.false_and, Bool.and_false, Bool.true_and, Bool.and_self, Bool.false_eq_true, if_false, if_true, Option.bind_some, k1ne, k2ne, m_no, knx, kn64]
    · simp only [Bool.and_self, if_true, Bool.true_and, Bool.and_true, mb_change]
def cb_creditor  (S : kSt) : Option (Int32 × kSt) :=
  (f_m0_reckon (S.1 1 2) S).bind fun q4 =>
  (f_m10_firstMost 49 (q4.1 1 2) q4).bind fun q5 =>
  some (q5.1, q5.2)
def mb_creditor  (S : kSt) : Option (Int32 × kSt) :=
  f_m11_creditor_L21 
    (fun (x11 : Int32) (S12 : kSt) =>
      some (x11, S12)
    )
    kFU 0 1 S
theorem ag_creditor {S : kSt} (hI : Inv S)  (h : hB S = true → true = true → Body (cb_creditor ) (mb_creditor ) (kuI S 0 18 0)) : Agree (f_m10_creditor ) (f_m11_creditor ) S := by
  refine ag_core hI (A := hB S) (B := true) (rf := (-1)) ?_ (fun T hk => ?_) h
  · unfold f_m10_creditor
    rw [hB_c hI]
    rw [c_may1]
    simp only [Option.bind_some]
    cases hB S
    · simp only [Bool.false_and, Bool.and_false, Bool.true_and, Bool.and_self, Bool.false_eq_true, if_false, if_true, Option.bind_some, k1ne, k2ne, m_no, knx, kn64]
    · simp only [Bool.and_self, if_true, Bool.true_and, Bool.and_true, cb_creditor]
  · unfold f_m11_creditor
    rw [m_good]
    simp only [Option.bind_some]
    rw [hB_m hI (hk.tr kG0_keep)]
    cases hB S
    · simp only [Bool.false_and, Bool.and_false, Bool.true_and, Bool.and_self, Bool.false_eq_true, if_false, if_true, Option.bind_some, k1ne, k2ne, m_no, knx, kn64]
    · simp only [Bool.and_self, if_true, Bool.true_and, Bool.and_true, mb_creditor]
def cb_due  (S : kSt) : Option (Int32 × kSt) :=
  (f_m0_reckon (S.1 1 2) S).bind fun q4 =>
  (f_m0_owedInAll  q4).bind fun q5 =>
  some (q5.1, q5.2)
def mb_due  (S : kSt) : Option (Int32 × kSt) :=
  f_m11_due_L21 
    (fun (x12 : Int32) (S13 : kSt) =>
      some (x12, S13)
    )
    kFU 0 0 S
theorem ag_due {S : kSt} (hI : Inv S)  (h : hB S = true → true = true → Body (cb_due ) (mb_due ) (kuI S 0 18 0)) : Agree (f_m10_due ) (f_m11_due ) S := by
  refine ag_core hI (A := hB S) (B := true) (rf := (-1)) ?_ (fun T hk => ?_) h
  · unfold f_m10_due
    rw [hB_c hI]
    rw [c_may1]
    simp only [Option.bind_some]
    cases hB S
    · simp only [Bool.false_and, Bool.and_false, Bool.true_and, Bool.and_self, Bool.false_eq_true, if_false, if_true, Option.bind_some, k1ne, k2ne, m_no, knx, kn64]
    · simp only [Bool.and_self, if_true, Bool.true_and, Bool.and_true, cb_due]
  · unfold f_m11_due
    rw [m_good]
    simp only [Option.bind_some]
    rw [hB_m hI (hk.tr kG0_keep)]
    cases hB S
    · simp only [Bool.false_and, Bool.and_false, Bool.true_and, Bool.and_self, Bool.false_eq_true, if_false, if_true, Option.bind_some, k1ne, k2ne, m_no, knx, kn64]
    · simp only [Bool.and_self, if_true, Bool.true_and, Bool.and_true, mb_due]
def cb_everyFor (a1 : Int32) (a2 : Int32) (S : kSt) : Option (Int32 × kSt) :=
  (f_m10_bestEvery a1 a2 S).bind fun q5 =>
  some (q5.1, q5.2)
def mb_everyFor (a1 : Int32) (a2 : Int32) (S : kSt) : Option (Int32 × kSt) :=
  (f_m11_bestEvery a1 a2 S).bind fun q5 =>
  some (q5.1, q5.2)
theorem ag_everyFor {S : kSt} (hI : Inv S) (a1 : Int32) (a2 : Int32) (h : pB S a1 = true → uB a2 60 = true → Body (cb_everyFor a1 a2) (mb_everyFor a1 a2) (kuI S 0 18 0)) : Agree (f_m10_everyFor a1 a2) (f_m11_everyFor a1 a2) S := by
  refine ag_core hI (A := pB S a1) (B := uB a2 60) (rf := (-1)) ?_ (fun T hk => ?_) h
  · unfold f_m10_everyFor
    rw [c_isPair hI]
    simp only [Option.bind_some]
    rw [c_upTo]
    simp only [Option.bind_some]
    rw [c_may]
    simp only [Option.bind_some]
    cases pB S a1
    · cases uB a2 60 <;> simp only [Bool.false_and, Bool.and_false, Bool.true_and, Bool.and_self, Bool.false_eq_true, if_false, if_true, Option.bind_some, k1ne, k2ne, m_no, knx, kn64]
    · cases uB a2 60
      · simp only [Bool.false_and, Bool.and_false, Bool.true_and, Bool.and_self, Bool.false_eq_true, if_false, if_true, Option.bind_some, k1ne, k2ne, m_no, knx, kn64]
      · simp only [Bool.and_self, if_true, Bool.true_and, Bool.and_true, cb_everyFor]
  · unfold f_m11_everyFor
    rw [m_good]
    simp only [Option.bind_some]
    rw [m_isPair hI (hk.tr kG0_keep)]
    simp only [Option.bind_some]
    rw [m_aheadWhy]
    simp only [Option.bind_some]
    cases pB S a1
    · cases uB a2 60 <;> simp only [Bool.false_and, Bool.and_false, Bool.true_and, Bool.and_self, Bool.false_eq_true, if_false, if_true, Option.bind_some, k1ne, k2ne, m_no, knx, kn64]
    · cases uB a2 60
      · simp only [Bool.false_and, Bool.and_false, Bool.true_and, Bool.and_self, Bool.false_eq_true, if_false, if_true, Option.bind_some, k1ne, k2ne, m_no, knx, kn64]
      · simp only [Bool.and_self, if_true, Bool.true_and, Bool.and_true, mb_everyFor]
def cb_everyNever (a1 : Int32) (S : kSt) : Option (Int32 × kSt) :=
  f_m10_everyNever_L16 
    (fun (x10 : Int32) (S11 : kSt) =>
      some (x10, S11)
    )
    (fun  (S12 : kSt) =>
      some ((-2), S12)
    )
    a1 kFU 0 S
def mb_everyNever (a1 : Int32) (S : kSt) : Option (Int32 × kSt) :=
  f_m11_everyNever_L20 
    (fun (x8 : Int32) (S9 : kSt) =>
      some (x8, S9)
    )
    (fun  (S10 : kSt) =>
      some ((-2), S10)
    )
    a1 kFU 0 S
theorem ag_everyNever {S : kSt} (hI : Inv S) (a1 : Int32) (h : pB S a1 = true → true = true → Body (cb_everyNever a1) (mb_everyNever a1) (kuI S 0 18 0)) : Agree (f_m10_everyNever a1) (f_m11_everyNever a1) S := by
  refine ag_core hI (A := pB S a1) (B := true) (rf := (-1)) ?_ (fun T hk => ?_) h
  · unfold f_m10_everyNever
    rw [c_isPair hI]
    simp only [Option.bind_some]
    rw [c_may1]
    simp only [Option.bind_some]
    cases pB S a1
    · simp only [Bool.false_and, Bool.and_false, Bool.true_and, Bool.and_self, Bool.false_eq_true, if_false, if_true, Option.bind_some, k1ne, k2ne, m_no, knx, kn64]
    · simp only [Bool.and_self, if_true, Bool.true_and, Bool.and_true, cb_everyNever]
  · unfold f_m11_everyNever
    rw [m_good]
    simp only [Option.bind_some]
    rw [m_isPair hI (hk.tr kG0_keep)]
    simp only [Option.bind_some]
    cases pB S a1
    · simp only [Bool.false_and, Bool.and_false, Bool.true_and, Bool.and_self, Bool.false_eq_true, if_false, if_true, Option.bind_some, k1ne, k2ne, m_no, knx, kn64]
    · simp only [Bool.and_self, if_true, Bool.true_and, Bool.and_true, mb_everyNever]
def cb_everySays (a1 : Int32) (a2 : Int32) (S : kSt) : Option (Int32 × kSt) :=
  (f_m10_bestEvery a1 a2 S).bind fun q5 =>
  (f_m10_sayingByEvery a1 q5.1 a2 q5.2).bind fun q6 =>
  some (q6.1, q6.2)
def mb_everySays (a1 : Int32) (a2 : Int32) (S : kSt) : Option (Int32 × kSt) :=
  knx (5 + a1) fun x5 =>
  kgi x5 36 (
    (f_m11_bestEvery a1 a2 S).bind fun q6 =>
    (f_m11_saysBy a1 a2 (S.1 61 x5.toNatClampNeg) q6.1 q6.2).bind fun q7 =>
    some (q7.1, q7.2)
  )
theorem ag_everySays {S : kSt} (hI : Inv S) (a1 : Int32) (a2 : Int32) (h : pB S a1 = true → uB a2 60 = true → Body (cb_everySays a1 a2) (mb_everySays a1 a2) (kuI S 0 18 0)) : Agree (f_m10_everySays a1 a2) (f_m11_everySays a1 a2) S := by
  refine ag_core hI (A := pB S a1) (B := uB a2 60) (rf := (-1)) ?_ (fun T hk => ?_) h
  · unfold f_m10_everySays
    rw [c_isPair hI]
    simp only [Option.bind_some]
    rw [c_upTo]
    simp only [Option.bind_some]
    rw [c_may]
    simp only [Option.bind_some]
    cases pB S a1
    · cases uB a2 60 <;> simp only [Bool.false_and, Bool.and_false, Bool.true_and, Bool.and_self, Bool.false_eq_true, if_false, if_true, Option.bind_some, k1ne, k2ne, m_no, knx, kn64]
    · cases uB a2 60
      · simp only [Bool.false_and, Bool.and_false, Bool.true_and, Bool.and_self, Bool.false_eq_true, if_false, if_true, Option.bind_some, k1ne, k2ne, m_no, knx, kn64]
      · simp only [Bool.and_self, if_true, Bool.true_and, Bool.and_true, cb_everySays]
  · unfold f_m11_everySays
    rw [m_good]
    simp only [Option.bind_some]
    rw [m_isPair hI (hk.tr kG0_keep)]
    simp only [Option.bind_some]
    rw [m_aheadWhy]
    simp only [Option.bind_some]
    cases pB S a1
    · cases uB a2 60 <;> simp only [Bool.false_and, Bool.and_false, Bool.true_and, Bool.and_self, Bool.false_eq_true, if_false, if_true, Option.bind_some, k1ne, k2ne, m_no, knx, kn64]
    · cases uB a2 60
      · simp only [Bool.false_and, Bool.and_false, Bool.true_and, Bool.and_self, Bool.false_eq_true, if_false, if_true, Option.bind_some, k1ne, k2ne, m_no, knx, kn64]
      · simp only [Bool.and_self, if_true, Bool.true_and, Bool.and_true, mb_everySays]
def cb_image  (S : kSt) : Option (Int32 × kSt) :=
  if (S.1 0 9) < 3 then
    knx (S.1 0 9) fun x5 =>
    kgi x5 3 (
      (f_m4_save (70 + x5.toNatClampNeg) S).bind fun q7 =>
      knx (kuI q7 0 9 ((q7.1 0 9) + 1)) fun S8 =>
      some ((S8.1 0 9) - 1, S8)
    )
  else
    (f_m10_refuse 3 S).bind fun q9 =>
    some (q9.1, q9.2)
def mb_image  (S : kSt) : Option (Int32 × kSt) :=
  if (S.1 14 23) = 3 then
    (f_m11_no 3 S).bind fun q7 =>
    some (q7.1, q7.2)
  else
    (f_m11_copy 61 36 0 63 108 (36 * (S.1 14 23)) 36 S).bind fun q5 =>
    knx (kuI q5 14 23 ((q5.1 14 23) + 1)) fun S6 =>
    some ((S6.1 14 23) - 1, S6)
theorem ag_image {S : kSt} (hI : Inv S)  (h : hB S = true → true = true → Body (cb_image ) (mb_image ) (kuI S 0 18 0)) : Agree (f_m10_image ) (f_m11_image ) S := by
  refine ag_core hI (A := hB S) (B := true) (rf := (-1)) ?_ (fun T hk => ?_) h
  · unfold f_m10_image
    rw [hB_c hI]
    rw [c_may1]
    simp only [Option.bind_some]
    cases hB S
    · simp only [Bool.false_and, Bool.and_false, Bool.true_and, Bool.and_self, Bool.false_eq_true, if_false, if_true, Option.bind_some, k1ne, k2ne, m_no, knx, kn64]
    · simp only [Bool.and_self, if_true, Bool.true_and, Bool.and_true, cb_image]
  · unfold f_m11_image
    rw [m_good]
    simp only [Option.bind_some]
    rw [hB_m hI (hk.tr kG0_keep)]
    cases hB S
    · simp only [Bool.false_and, Bool.and_false, Bool.true_and, Bool.and_self, Bool.false_eq_true, if_false, if_true, Option.bind_some, k1ne, k2ne, m_no, knx, kn64]
    · simp only [Bool.and_self, if_true, Bool.true_and, Bool.and_true, mb_image]
def cb_judge  (S : kSt) : Option (Int32 × kSt) :=
  f_m10_judge_L15 
    (fun (x8 : Int32) (S9 : kSt) =>
      some (x8, S9)
    )
    (fun  (S10 : kSt) =>
      some ((-2), S10)
    )
    kFU 0 S
def mb_judge  (S : kSt) : Option (Int32 × kSt) :=
  (f_m11_wrongBy 0 S).bind fun q5 =>
  some (q5.1, q5.2)
theorem ag_judge {S : kSt} (hI : Inv S)  (h : hB S = true → true = true → Body (cb_judge ) (mb_judge ) (kuI S 0 18 0)) : Agree (f_m10_judge ) (f_m11_judge ) S := by
  refine ag_core hI (A := hB S) (B := true) (rf := (-1)) ?_ (fun T hk => ?_) h
  · unfold f_m10_judge
    rw [hB_c hI]
    rw [c_may1]
    simp only [Option.bind_some]
    cases hB S
    · simp only [Bool.false_and, Bool.and_false, Bool.true_and, Bool.and_self, Bool.false_eq_true, if_false, if_true, Option.bind_some, k1ne, k2ne, m_no, knx, kn64]
    · simp only [Bool.and_self, if_true, Bool.true_and, Bool.and_true, cb_judge]
  · unfold f_m11_judge
    rw [m_good]
    simp only [Option.bind_some]
    rw [hB_m hI (hk.tr kG0_keep)]
    cases hB S
    · simp only [Bool.false_and, Bool.and_false, Bool.true_and, Bool.and_self, Bool.false_eq_true, if_false, if_true, Option.bind_some, k1ne, k2ne, m_no, knx, kn64]
    · simp only [Bool.and_self, if_true, Bool.true_and, Bool.and_true, mb_judge]
def cb_loudest (a1 : Int32) (S : kSt) : Option (Int32 × kSt) :=
  (f_m10_sayAllBehind a1 S).bind fun q5 =>
  (f_m10_firstMost 16 (q5.1 1 2) q5).bind fun q6 =>
  some (q6.1, q6.2)
def mb_loudest (a1 : Int32) (S : kSt) : Option (Int32 × kSt) :=
  f_m11_loudest_L29 
    (fun (x12 : Int32) (S13 : kSt) =>
      some (x12, S13)
    )
    a1 kFU 0 1 S
theorem ag_loudest {S : kSt} (hI : Inv S) (a1 : Int32) (h : hB S = true → uB a1 60 = true → Body (cb_loudest a1) (mb_loudest a1) (kuI S 0 18 0)) : Agree (f_m10_loudest a1) (f_m11_loudest a1) S := by
  refine ag_core hI (A := hB S) (B := uB a1 60) (rf := (-1)) ?_ (fun T hk => ?_) h
  · unfold f_m10_loudest
    rw [hB_c hI]
    rw [c_upTo]
    simp only [Option.bind_some]
    rw [c_may]
    simp only [Option.bind_some]
    cases hB S
    · cases uB a1 60 <;> simp only [Bool.false_and, Bool.and_false, Bool.true_and, Bool.and_self, Bool.false_eq_true, if_false, if_true, Option.bind_some, k1ne, k2ne, m_no, knx, kn64]
    · cases uB a1 60
      · simp only [Bool.false_and, Bool.and_false, Bool.true_and, Bool.and_self, Bool.false_eq_true, if_false, if_true, Option.bind_some, k1ne, k2ne, m_no, knx, kn64]
      · simp only [Bool.and_self, if_true, Bool.true_and, Bool.and_true, cb_loudest]
  · unfold f_m11_loudest
    rw [m_good]
    simp only [Option.bind_some]
    rw [hB_m hI (hk.tr kG0_keep)]
    rw [m_aheadWhy]
    simp only [Option.bind_some]
    cases hB S
    · cases uB a1 60 <;> simp only [Bool.false_and, Bool.and_false, Bool.true_and, Bool.and_self, Bool.false_eq_true, if_false, if_true, Option.bind_some, k1ne, k2ne, m_no, knx, kn64]
    · cases uB a1 60
      · simp only [Bool.false_and, Bool.and_false, Bool.true_and, Bool.and_self, Bool.false_eq_true, if_false, if_true, Option.bind_some, k1ne, k2ne, m_no, knx, kn64]
      · simp only [Bool.and_self, if_true, Bool.true_and, Bool.and_true, mb_loudest]
def cb_masters (a1 : Int32) (S : kSt) : Option (Int32 × kSt) :=
  (f_m10_sayAllBehind a1 S).bind fun q5 =>
  (f_m10_bitsOfMore 16 q5).bind fun q6 =>
  some (q6.1, q6.2)
def mb_masters (a1 : Int32) (S : kSt) : Option (Int32 × kSt) :=
  (f_m11_mastersIn a1 S).bind fun q5 =>
  some (q5.1, q5.2)
theorem ag_masters {S : kSt} (hI : Inv S) (a1 : Int32) (h : hB S = true → uB a1 60 = true → Body (cb_masters a1) (mb_masters a1) (kuI S 0 18 0)) : Agree (f_m10_masters a1) (f_m11_masters a1) S := by
  refine ag_core hI (A := hB S) (B := uB a1 60) (rf := (-1)) ?_ (fun T hk => ?_) h
  · unfold f_m10_masters
    rw [hB_c hI]
    rw [c_upTo]
    simp only [Option.bind_some]
    rw [c_may]
    simp only [Option.bind_some]
    cases hB S
    · cases uB a1 60 <;> simp only [Bool.false_and, Bool.and_false, Bool.true_and, Bool.and_self, Bool.false_eq_true, if_false, if_true, Option.bind_some, k1ne, k2ne, m_no, knx, kn64]
    · cases uB a1 60
      · simp only [Bool.false_and, Bool.and_false, Bool.true_and, Bool.and_self, Bool.false_eq_true, if_false, if_true, Option.bind_some, k1ne, k2ne, m_no, knx, kn64]
      · simp only [Bool.and_self, if_true, Bool.true_and, Bool.and_true, cb_masters]
  · unfold f_m11_masters
    rw [m_good]
    simp only [Option.bind_some]
    rw [hB_m hI (hk.tr kG0_keep)]
    rw [m_aheadWhy]
    simp only [Option.bind_some]
    cases hB S
    · cases uB a1 60 <;> simp only [Bool.false_and, Bool.and_false, Bool.true_and, Bool.and_self, Bool.false_eq_true, if_false, if_true, Option.bind_some, k1ne, k2ne, m_no, knx, kn64]
    · cases uB a1 60
      · simp only [Bool.false_and, Bool.and_false, Bool.true_and, Bool.and_self, Bool.false_eq_true, if_false, if_true, Option.bind_some, k1ne, k2ne, m_no, knx, kn64]
      · simp only [Bool.and_self, if_true, Bool.true_and, Bool.and_true, mb_masters]
def cb_mean (a1 : Int32) (a2 : Int32) (a3 : Bool) (S : kSt) : Option (Int64 × kSt) :=
  f_m10_mean_L27 
    (fun (x9 : Int64) (S10 : kSt) =>
      (f_m10_allChances a2 S10).bind fun q11 =>
      (f_m6_reduce x9 q11.1 q11.2).bind fun q12 =>
      (f_m6_part a3 q12).bind fun q13 =>
      some (q13.1, q13.2)
    )
    a1 a2 a3 kFU 0 0 S
def mb_mean (a1 : Int32) (a2 : Int32) (a3 : Bool) (S : kSt) : Option (Int64 × kSt) :=
  (f_m11_tryDumb a1 a2 0 S).bind fun q6 =>
  (f_m11_lowest (q6.2 14 41) (q6.2 14 39) a3 q6).bind fun q7 =>
  some (q7.1, q7.2)
theorem ag_mean {S : kSt} (hI : Inv S) (a1 : Int32) (a2 : Int32) (a3 : Bool) (h : pB S a1 = true → uB a2 5 = true → Body (cb_mean a1 a2 a3) (mb_mean a1 a2 a3) (kuI S 0 18 0)) : Agree (f_m10_mean a1 a2 a3) (f_m11_mean a1 a2 a3) S := by
  refine ag_core hI (A := pB S a1) (B := uB a2 5) (rf := (-1)) ?_ (fun T hk => ?_) h
  · unfold f_m10_mean
    rw [c_isPair hI]
    simp only [Option.bind_some]
    rw [c_upTo]
    simp only [Option.bind_some]
    rw [c_may]
    simp only [Option.bind_some]
    cases pB S a1
    · cases uB a2 5 <;> simp only [Bool.false_and, Bool.and_false, Bool.true_and, Bool.and_self, Bool.false_eq_true, if_false, if_true, Option.bind_some, k1ne, k2ne, m_no, knx, kn64]
    · cases uB a2 5
      · simp only [Bool.false_and, Bool.and_false, Bool.true_and, Bool.and_self, Bool.false_eq_true, if_false, if_true, Option.bind_some, k1ne, k2ne, m_no, knx, kn64]
      · simp only [Bool.and_self, if_true, Bool.true_and, Bool.and_true, cb_mean]
  · unfold f_m11_mean
    rw [m_good]
    simp only [Option.bind_some]
    rw [m_isPair hI (hk.tr kG0_keep)]
    simp only [Option.bind_some]
    rw [m_in]
    simp only [Option.bind_some]
    rw [m_why]
    simp only [Option.bind_some]
    rw [show (decide (0 ≤ a2 ∧ a2 ≤ 5)) = uB a2 5 from rfl]
    cases pB S a1
    · cases uB a2 5 <;> simp only [Bool.false_and, Bool.and_false, Bool.true_and, Bool.and_self, Bool.false_eq_true, if_false, if_true, Option.bind_some, k1ne, k2ne, m_no, knx, kn64]
    · cases uB a2 5
      · simp only [Bool.false_and, Bool.and_false, Bool.true_and, Bool.and_self, Bool.false_eq_true, if_false, if_true, Option.bind_some, k1ne, k2ne, m_no, knx, kn64]
      · simp only [Bool.and_self, if_true, Bool.true_and, Bool.and_true, mb_mean]
def cb_moreIn (a1 : Int32) (S : kSt) : Option (Int32 × kSt) :=
  (f_m9_begin 6 a1 S).bind fun q4 =>
  f_m10_moreIn_L32 
    (fun (x10 : Int32) (S11 : kSt) =>
      some (x10, S11)
    )
    (fun  (S12 : kSt) =>
      some ((-2), S12)
    )
    kFU 0 q4
def mb_moreIn (a1 : Int32) (S : kSt) : Option (Int32 × kSt) :=
  f_m11_moreIn_L20 
    (fun (x9 : Int32) (S10 : kSt) =>
      some (x9, S10)
    )
    (fun  (S11 : kSt) =>
      some ((-2), S11)
    )
    a1 kFU 0 S
theorem ag_moreIn {S : kSt} (hI : Inv S) (a1 : Int32) (h : pB S a1 = true → true = true → Body (cb_moreIn a1) (mb_moreIn a1) (kuI S 0 18 0)) : Agree (f_m10_moreIn a1) (f_m11_moreIn a1) S := by
  refine ag_core hI (A := pB S a1) (B := true) (rf := (-1)) ?_ (fun T hk => ?_) h
  · unfold f_m10_moreIn
    rw [c_isPair hI]
    simp only [Option.bind_some]
    rw [c_may1]
    simp only [Option.bind_some]
    cases pB S a1
    · simp only [Bool.false_and, Bool.and_false, Bool.true_and, Bool.and_self, Bool.false_eq_true, if_false, if_true, Option.bind_some, k1ne, k2ne, m_no, knx, kn64]
    · simp only [Bool.and_self, if_true, Bool.true_and, Bool.and_true, cb_moreIn]
  · unfold f_m11_moreIn
    rw [m_good]
    simp only [Option.bind_some]
    rw [m_isPair hI (hk.tr kG0_keep)]
    simp only [Option.bind_some]
    cases pB S a1
    · simp only [Bool.false_and, Bool.and_false, Bool.true_and, Bool.and_self, Bool.false_eq_true, if_false, if_true, Option.bind_some, k1ne, k2ne, m_no, knx, kn64]
    · simp only [Bool.and_self, if_true, Bool.true_and, Bool.and_true, mb_moreIn]
def cb_moreTimes (a1 : Int32) (a2 : Int32) (S : kSt) : Option (Int32 × kSt) :=
  (f_m9_begin 6 a1 S).bind fun q5 =>
  (f_m9_countMore 6 a2 q5).bind fun q6 =>
  some (q6.1, q6.2)
def mb_moreTimes (a1 : Int32) (a2 : Int32) (S : kSt) : Option (Int32 × kSt) :=
  f_m11_moreTimes_L31 
    (fun (x12 : Int32) (S13 : kSt) =>
      some (x12, S13)
    )
    a1 a2 kFU 0 1 S
theorem ag_moreTimes {S : kSt} (hI : Inv S) (a1 : Int32) (a2 : Int32) (h : pB S a1 = true → uB a2 60 = true → Body (cb_moreTimes a1 a2) (mb_moreTimes a1 a2) (kuI S 0 18 0)) : Agree (f_m10_moreTimes a1 a2) (f_m11_moreTimes a1 a2) S := by
  refine ag_core hI (A := pB S a1) (B := uB a2 60) (rf := (-1)) ?_ (fun T hk => ?_) h
  · unfold f_m10_moreTimes
    rw [c_isPair hI]
    simp only [Option.bind_some]
    rw [c_upTo]
    simp only [Option.bind_some]
    rw [c_may]
    simp only [Option.bind_some]
    cases pB S a1
    · cases uB a2 60 <;> simp only [Bool.false_and, Bool.and_false, Bool.true_and, Bool.and_self, Bool.false_eq_true, if_false, if_true, Option.bind_some, k1ne, k2ne, m_no, knx, kn64]
    · cases uB a2 60
      · simp only [Bool.false_and, Bool.and_false, Bool.true_and, Bool.and_self, Bool.false_eq_true, if_false, if_true, Option.bind_some, k1ne, k2ne, m_no, knx, kn64]
      · simp only [Bool.and_self, if_true, Bool.true_and, Bool.and_true, cb_moreTimes]
  · unfold f_m11_moreTimes
    rw [m_good]
    simp only [Option.bind_some]
    rw [m_isPair hI (hk.tr kG0_keep)]
    simp only [Option.bind_some]
    rw [m_aheadWhy]
    simp only [Option.bind_some]
    cases pB S a1
    · cases uB a2 60 <;> simp only [Bool.false_and, Bool.and_false, Bool.true_and, Bool.and_self, Bool.false_eq_true, if_false, if_true, Option.bind_some, k1ne, k2ne, m_no, knx, kn64]
    · cases uB a2 60
      · simp only [Bool.false_and, Bool.and_false, Bool.true_and, Bool.and_self, Bool.false_eq_true, if_false, if_true, Option.bind_some, k1ne, k2ne, m_no, knx, kn64]
      · simp only [Bool.and_self, if_true, Bool.true_and, Bool.and_true, mb_moreTimes]
def cb_net (a1 : Int32) (S : kSt) : Option (Int32 × kSt) :=
  (f_m0_reckon (S.1 1 2) S).bind fun q4 =>
  kgi a1 5 (
    some (q4.1 49 a1.toNatClampNeg, q4)
  )
def mb_net (a1 : Int32) (S : kSt) : Option (Int32 × kSt) :=
  (f_m11_netOf a1 S).bind fun q5 =>
  some (q5.1, q5.2)
theorem ag_net {S : kSt} (hI : Inv S) (a1 : Int32) (h : pB S a1 = true → true = true → Body (cb_net a1) (mb_net a1) (kuI S 0 18 0)) : Agree (f_m10_net a1) (f_m11_net a1) S := by
  refine ag_core hI (A := pB S a1) (B := true) (rf := (-1000000)) ?_ (fun T hk => ?_) h
  · unfold f_m10_net
    rw [c_isPair hI]
    simp only [Option.bind_some]
    rw [c_may1]
    simp only [Option.bind_some]
    cases pB S a1
    · simp only [Bool.false_and, Bool.and_false, Bool.true_and, Bool.and_self, Bool.false_eq_true, if_false, if_true, Option.bind_some, k1ne, k2ne, m_no, knx, kn64]
    · simp only [Bool.and_self, if_true, Bool.true_and, Bool.and_true, cb_net]
  · unfold f_m11_net
    rw [m_good]
    simp only [Option.bind_some]
    rw [m_isPair hI (hk.tr kG0_keep)]
    simp only [Option.bind_some]
    cases pB S a1
    · simp only [Bool.false_and, Bool.and_false, Bool.true_and, Bool.and_self, Bool.false_eq_true, if_false, if_true, Option.bind_some, k1ne, k2ne, m_no, knx, kn64]
    · simp only [Bool.and_self, if_true, Bool.true_and, Bool.and_true, mb_net]
def cb_overtakes (a1 : Int32) (a2 : Int32) (S : kSt) : Option (Int32 × kSt) :=
  (f_m9_begin 6 a1 S).bind fun q4 =>
  (f_m9_begin 7 a2 q4).bind fun q5 =>
  f_m10_overtakes_L49 
    (fun (x11 : Int32) (S12 : kSt) =>
      some (x11, S12)
    )
    (fun  (S13 : kSt) =>
      some ((-2), S13)
    )
    kFU 0 q5
def mb_overtakes (a1 : Int32) (a2 : Int32) (S : kSt) : Option (Int32 × kSt) :=
  f_m11_overtakes_L21 
    (fun (x9 : Int32) (S10 : kSt) =>
      some (x9, S10)
    )
    (fun  (S11 : kSt) =>
      some ((-2), S11)
    )
    a1 a2 kFU 0 S
theorem ag_overtakes {S : kSt} (hI : Inv S) (a1 : Int32) (a2 : Int32) (h : ppB S a1 a2 = true → true = true → Body (cb_overtakes a1 a2) (mb_overtakes a1 a2) (kuI S 0 18 0)) : Agree (f_m10_overtakes a1 a2) (f_m11_overtakes a1 a2) S := by
  refine ag_core hI (A := ppB S a1 a2) (B := true) (rf := (-1)) ?_ (fun T hk => ?_) h
  · unfold f_m10_overtakes
    rw [c_unlike hI]
    simp only [Option.bind_some]
    rw [c_may1]
    simp only [Option.bind_some]
    cases ppB S a1 a2
    · simp only [Bool.false_and, Bool.and_false, Bool.true_and, Bool.and_self, Bool.false_eq_true, if_false, if_true, Option.bind_some, k1ne, k2ne, m_no, knx, kn64]
    · simp only [Bool.and_self, if_true, Bool.true_and, Bool.and_true, cb_overtakes]
  · unfold f_m11_overtakes
    rw [m_good]
    simp only [Option.bind_some]
    rw [m_two hI (hk.tr kG0_keep)]
    simp only [Option.bind_some]
    cases ppB S a1 a2
    · simp only [Bool.false_and, Bool.and_false, Bool.true_and, Bool.and_self, Bool.false_eq_true, if_false, if_true, Option.bind_some, k1ne, k2ne, m_no, knx, kn64]
    · simp only [Bool.and_self, if_true, Bool.true_and, Bool.and_true, mb_overtakes]
def cb_owes (a1 : Int32) (a2 : Int32) (S : kSt) : Option (Int32 × kSt) :=
  knx ((a1 * 5) + a2) fun x4 =>
  kgi x4 25 (
    some (S.1 42 x4.toNatClampNeg, S)
  )
def mb_owes (a1 : Int32) (a2 : Int32) (S : kSt) : Option (Int32 × kSt) :=
  (f_m11_debtOf a1 a2 S).bind fun q5 =>
  some (q5.1, q5.2)
theorem ag_owes {S : kSt} (hI : Inv S) (a1 : Int32) (a2 : Int32) (h : ppB S a1 a2 = true → true = true → Body (cb_owes a1 a2) (mb_owes a1 a2) (kuI S 0 18 0)) : Agree (f_m10_owes a1 a2) (f_m11_owes a1 a2) S := by
  refine ag_core hI (A := ppB S a1 a2) (B := true) (rf := (-1)) ?_ (fun T hk => ?_) h
  · unfold f_m10_owes
    rw [c_unlike hI]
    simp only [Option.bind_some]
    rw [c_may1]
    simp only [Option.bind_some]
    cases ppB S a1 a2
    · simp only [Bool.false_and, Bool.and_false, Bool.true_and, Bool.and_self, Bool.false_eq_true, if_false, if_true, Option.bind_some, k1ne, k2ne, m_no, knx, kn64]
    · simp only [Bool.and_self, if_true, Bool.true_and, Bool.and_true, cb_owes]
  · unfold f_m11_owes
    rw [m_good]
    simp only [Option.bind_some]
    rw [m_two hI (hk.tr kG0_keep)]
    simp only [Option.bind_some]
    cases ppB S a1 a2
    · simp only [Bool.false_and, Bool.and_false, Bool.true_and, Bool.and_self, Bool.false_eq_true, if_false, if_true, Option.bind_some, k1ne, k2ne, m_no, knx, kn64]
    · simp only [Bool.and_self, if_true, Bool.true_and, Bool.and_true, mb_owes]
def cb_payments  (S : kSt) : Option (Int32 × kSt) :=
  (f_m0_reckon (S.1 1 2) S).bind fun q4 =>
  (f_m0_fewestPayments  q4).bind fun q5 =>
  some (q5.1, q5.2)
def mb_payments  (S : kSt) : Option (Int32 × kSt) :=
  f_m11_payments_L21 
    (fun (x11 : Int32) (S12 : kSt) =>
      (f_m11_ones x11 S12).bind fun q13 =>
      (f_m11_groupsOf 9 x11 q13.2).bind fun q14 =>
      some (q13.1 - q14.1, q14.2)
    )
    kFU 0 0 S
theorem ag_payments {S : kSt} (hI : Inv S)  (h : hB S = true → true = true → Body (cb_payments ) (mb_payments ) (kuI S 0 18 0)) : Agree (f_m10_payments ) (f_m11_payments ) S := by
  refine ag_core hI (A := hB S) (B := true) (rf := (-1)) ?_ (fun T hk => ?_) h
  · unfold f_m10_payments
    rw [hB_c hI]
    rw [c_may1]
    simp only [Option.bind_some]
    cases hB S
    · simp only [Bool.false_and, Bool.and_false, Bool.true_and, Bool.and_self, Bool.false_eq_true, if_false, if_true, Option.bind_some, k1ne, k2ne, m_no, knx, kn64]
    · simp only [Bool.and_self, if_true, Bool.true_and, Bool.and_true, cb_payments]
  · unfold f_m11_payments
    rw [m_good]
    simp only [Option.bind_some]
    rw [hB_m hI (hk.tr kG0_keep)]
    cases hB S
    · simp only [Bool.false_and, Bool.and_false, Bool.true_and, Bool.and_self, Bool.false_eq_true, if_false, if_true, Option.bind_some, k1ne, k2ne, m_no, knx, kn64]
    · simp only [Bool.and_self, if_true, Bool.true_and, Bool.and_true, mb_payments]
def cb_rest (a1 : Int32) (S : kSt) : Option (Int32 × kSt) :=
  f_m10_rest_L21 
    (fun (x9 : Int32) (S10 : kSt) =>
      some (((x9 / 2) * 10) + (krem x9 2), S10)
    )
    (fun  (S11 : kSt) =>
      some ((-2), S11)
    )
    a1 kFU 0 S
def mb_rest (a1 : Int32) (S : kSt) : Option (Int32 × kSt) :=
  (f_m11_seekRests a1 S).bind fun q6 =>
  some (q6.2.1 14 37, q6.2)
theorem ag_rest {S : kSt} (hI : Inv S) (a1 : Int32) (h : hB S = true → uB a1 9 = true → Body (cb_rest a1) (mb_rest a1) (kuI S 0 18 0)) : Agree (f_m10_rest a1) (f_m11_rest a1) S := by
  refine ag_core hI (A := hB S) (B := uB a1 9) (rf := (-1)) ?_ (fun T hk => ?_) h
  · unfold f_m10_rest
    rw [hB_c hI]
    rw [c_upTo]
    simp only [Option.bind_some]
    rw [c_may]
    simp only [Option.bind_some]
    cases hB S
    · cases uB a1 9 <;> simp only [Bool.false_and, Bool.and_false, Bool.true_and, Bool.and_self, Bool.false_eq_true, if_false, if_true, Option.bind_some, k1ne, k2ne, m_no, knx, kn64]
    · cases uB a1 9
      · simp only [Bool.false_and, Bool.and_false, Bool.true_and, Bool.and_self, Bool.false_eq_true, if_false, if_true, Option.bind_some, k1ne, k2ne, m_no, knx, kn64]
      · simp only [Bool.and_self, if_true, Bool.true_and, Bool.and_true, cb_rest]
  · unfold f_m11_rest
    rw [m_good]
    simp only [Option.bind_some]
    rw [hB_m hI (hk.tr kG0_keep)]
    rw [m_in]
    simp only [Option.bind_some]
    rw [m_why]
    simp only [Option.bind_some]
    rw [show (decide (0 ≤ a1 ∧ a1 ≤ 9)) = uB a1 9 from rfl]
    cases hB S
    · cases uB a1 9 <;> simp only [Bool.false_and, Bool.and_false, Bool.true_and, Bool.and_self, Bool.false_eq_true, if_false, if_true, Option.bind_some, k1ne, k2ne, m_no, knx, kn64]
    · cases uB a1 9
      · simp only [Bool.false_and, Bool.and_false, Bool.true_and, Bool.and_self, Bool.false_eq_true, if_false, if_true, Option.bind_some, k1ne, k2ne, m_no, knx, kn64]
      · simp only [Bool.and_self, if_true, Bool.true_and, Bool.and_true, mb_rest]
def cb_rests (a1 : Int32) (S : kSt) : Option (Int32 × kSt) :=
  f_m10_rests_L23 
    (fun (x12 : Int32) (S13 : kSt) =>
      some (x12, S13)
    )
    a1 kFU 0 0 S
def mb_rests (a1 : Int32) (S : kSt) : Option (Int32 × kSt) :=
  (f_m11_seekRests a1 S).bind fun q6 =>
  some (q6.1, q6.2)
theorem ag_rests {S : kSt} (hI : Inv S) (a1 : Int32) (h : hB S = true → uB a1 9 = true → Body (cb_rests a1) (mb_rests a1) (kuI S 0 18 0)) : Agree (f_m10_rests a1) (f_m11_rests a1) S := by
  refine ag_core hI (A := hB S) (B := uB a1 9) (rf := (-1)) ?_ (fun T hk => ?_) h
  · unfold f_m10_rests
    rw [hB_c hI]
    rw [c_upTo]
    simp only [Option.bind_some]
    rw [c_may]
    simp only [Option.bind_some]
    cases hB S
    · cases uB a1 9 <;> simp only [Bool.false_and, Bool.and_false, Bool.true_and, Bool.and_self, Bool.false_eq_true, if_false, if_true, Option.bind_some, k1ne, k2ne, m_no, knx, kn64]
    · cases uB a1 9
      · simp only [Bool.false_and, Bool.and_false, Bool.true_and, Bool.and_self, Bool.false_eq_true, if_false, if_true, Option.bind_some, k1ne, k2ne, m_no, knx, kn64]
      · simp only [Bool.and_self, if_true, Bool.true_and, Bool.and_true, cb_rests]
  · unfold f_m11_rests
    rw [m_good]
    simp only [Option.bind_some]
    rw [hB_m hI (hk.tr kG0_keep)]
    rw [m_in]
    simp only [Option.bind_some]
    rw [m_why]
    simp only [Option.bind_some]
    rw [show (decide (0 ≤ a1 ∧ a1 ≤ 9)) = uB a1 9 from rfl]
    cases hB S
    · cases uB a1 9 <;> simp only [Bool.false_and, Bool.and_false, Bool.true_and, Bool.and_self, Bool.false_eq_true, if_false, if_true, Option.bind_some, k1ne, k2ne, m_no, knx, kn64]
    · cases uB a1 9
      · simp only [Bool.false_and, Bool.and_false, Bool.true_and, Bool.and_self, Bool.false_eq_true, if_false, if_true, Option.bind_some, k1ne, k2ne, m_no, knx, kn64]
      · simp only [Bool.and_self, if_true, Bool.true_and, Bool.and_true, mb_rests]
def cb_ring (a1 : Int32) (S : kSt) : Option (Int32 × kSt) :=
  (f_m0_findRing (S.1 1 2) a1 S).bind fun q4 =>
  if (q4.1 10 6) = 0 then
    some ((-2), q4)
  else
    some (q4.1 10 6, q4)
def mb_ring (a1 : Int32) (S : kSt) : Option (Int32 × kSt) :=
  (f_m11_seekRing a1 S).bind fun q4 =>
  if q4.1 then
    some (q4.2.1 14 36, q4.2)
  else
    some ((-2), q4.2)
theorem ag_ring {S : kSt} (hI : Inv S) (a1 : Int32) (h : pB S a1 = true → true = true → Body (cb_ring a1) (mb_ring a1) (kuI S 0 18 0)) : Agree (f_m10_ring a1) (f_m11_ring a1) S := by
  refine ag_core hI (A := pB S a1) (B := true) (rf := (-1)) ?_ (fun T hk => ?_) h
  · unfold f_m10_ring
    rw [c_isPair hI]
    simp only [Option.bind_some]
    rw [c_may1]
    simp only [Option.bind_some]
    cases pB S a1
    · simp only [Bool.false_and, Bool.and_false, Bool.true_and, Bool.and_self, Bool.false_eq_true, if_false, if_true, Option.bind_some, k1ne, k2ne, m_no, knx, kn64]
    · simp only [Bool.and_self, if_true, Bool.true_and, Bool.and_true, cb_ring]
  · unfold f_m11_ring
    rw [m_good]
    simp only [Option.bind_some]
    rw [m_isPair hI (hk.tr kG0_keep)]
    simp only [Option.bind_some]
    cases pB S a1
    · simp only [Bool.false_and, Bool.and_false, Bool.true_and, Bool.and_self, Bool.false_eq_true, if_false, if_true, Option.bind_some, k1ne, k2ne, m_no, knx, kn64]
    · simp only [Bool.and_self, if_true, Bool.true_and, Bool.and_true, mb_ring]
def cb_round (a1 : Int32) (S : kSt) : Option (Int32 × kSt) :=
  (f_m10_goRound a1 S).bind fun q4 =>
  some (q4.1 8 3, q4)
def mb_round (a1 : Int32) (S : kSt) : Option (Int32 × kSt) :=
  (f_m11_goRound a1 S).bind fun q4 =>
  some (q4.1 14 29, q4)
theorem ag_round {S : kSt} (hI : Inv S) (a1 : Int32) (h : pB S a1 = true → true = true → Body (cb_round a1) (mb_round a1) (kuI S 0 18 0)) : Agree (f_m10_round a1) (f_m11_round a1) S := by
  refine ag_core hI (A := pB S a1) (B := true) (rf := (-1)) ?_ (fun T hk => ?_) h
  · unfold f_m10_round
    rw [c_isPair hI]
    simp only [Option.bind_some]
    rw [c_may1]
    simp only [Option.bind_some]
    cases pB S a1
    · simp only [Bool.false_and, Bool.and_false, Bool.true_and, Bool.and_self, Bool.false_eq_true, if_false, if_true, Option.bind_some, k1ne, k2ne, m_no, knx, kn64]
    · simp only [Bool.and_self, if_true, Bool.true_and, Bool.and_true, cb_round]
  · unfold f_m11_round
    rw [m_good]
    simp only [Option.bind_some]
    rw [m_isPair hI (hk.tr kG0_keep)]
    simp only [Option.bind_some]
    cases pB S a1
    · simp only [Bool.false_and, Bool.and_false, Bool.true_and, Bool.and_self, Bool.false_eq_true, if_false, if_true, Option.bind_some, k1ne, k2ne, m_no, knx, kn64]
    · simp only [Bool.and_self, if_true, Bool.true_and, Bool.and_true, mb_round]
def cb_roundLeast (a1 : Int32) (S : kSt) : Option (Int32 × kSt) :=
  (f_m10_goRound a1 S).bind fun q4 =>
  (f_m8_least  q4).bind fun q5 =>
  some (q5.1, q5.2)
def mb_roundLeast (a1 : Int32) (S : kSt) : Option (Int32 × kSt) :=
  (f_m11_extremeOf a1 (-1) S).bind fun q5 =>
  some (q5.1, q5.2)
theorem ag_roundLeast {S : kSt} (hI : Inv S) (a1 : Int32) (h : pB S a1 = true → true = true → Body (cb_roundLeast a1) (mb_roundLeast a1) (kuI S 0 18 0)) : Agree (f_m10_roundLeast a1) (f_m11_roundLeast a1) S := by
  refine ag_core hI (A := pB S a1) (B := true) (rf := (-1)) ?_ (fun T hk => ?_) h
  · unfold f_m10_roundLeast
    rw [c_isPair hI]
    simp only [Option.bind_some]
    rw [c_may1]
    simp only [Option.bind_some]
    cases pB S a1
    · simp only [Bool.false_and, Bool.and_false, Bool.true_and, Bool.and_self, Bool.false_eq_true, if_false, if_true, Option.bind_some, k1ne, k2ne, m_no, knx, kn64]
    · simp only [Bool.and_self, if_true, Bool.true_and, Bool.and_true, cb_roundLeast]
  · unfold f_m11_roundLeast
    rw [m_good]
    simp only [Option.bind_some]
    rw [m_isPair hI (hk.tr kG0_keep)]
    simp only [Option.bind_some]
    cases pB S a1
    · simp only [Bool.false_and, Bool.and_false, Bool.true_and, Bool.and_self, Bool.false_eq_true, if_false, if_true, Option.bind_some, k1ne, k2ne, m_no, knx, kn64]
    · simp only [Bool.and_self, if_true, Bool.true_and, Bool.and_true, mb_roundLeast]
def cb_roundMost (a1 : Int32) (S : kSt) : Option (Int32 × kSt) :=
  (f_m10_goRound a1 S).bind fun q4 =>
  (f_m8_most  q4).bind fun q5 =>
  some (q5.1, q5.2)
def mb_roundMost (a1 : Int32) (S : kSt) : Option (Int32 × kSt) :=
  (f_m11_extremeOf a1 1 S).bind fun q5 =>
  some (q5.1, q5.2)
theorem ag_roundMost {S : kSt} (hI : Inv S) (a1 : Int32) (h : pB S a1 = true → true = true → Body (cb_roundMost a1) (mb_roundMost a1) (kuI S 0 18 0)) : Agree (f_m10_roundMost a1) (f_m11_roundMost a1) S := by
  refine ag_core hI (A := pB S a1) (B := true) (rf := (-1)) ?_ (fun T hk => ?_) h
  · unfold f_m10_roundMost
    rw [c_isPair hI]
    simp only [Option.bind_some]
    rw [c_may1]
    simp only [Option.bind_some]
    cases pB S a1
    · simp only [Bool.false_and, Bool.and_false, Bool.true_and, Bool.and_self, Bool.false_eq_true, if_false, if_true, Option.bind_some, k1ne, k2ne, m_no, knx, kn64]
    · simp only [Bool.and_self, if_true, Bool.true_and, Bool.and_true, cb_roundMost]
  · unfold f_m11_roundMost
    rw [m_good]
    simp only [Option.bind_some]
    rw [m_isPair hI (hk.tr kG0_keep)]
    simp only [Option.bind_some]
    cases pB S a1
    · simp only [Bool.false_and, Bool.and_false, Bool.true_and, Bool.and_self, Bool.false_eq_true, if_false, if_true, Option.bind_some, k1ne, k2ne, m_no, knx, kn64]
    · simp only [Bool.and_self, if_true, Bool.true_and, Bool.and_true, mb_roundMost]
def cb_says (a1 : Int32) (a2 : Int32) (S : kSt) : Option (Int32 × kSt) :=
  (f_m10_sayingBehind a1 a2 S).bind fun q5 =>
  some (q5.1, q5.2)
def mb_says (a1 : Int32) (a2 : Int32) (S : kSt) : Option (Int32 × kSt) :=
  (f_m11_saysIn a1 a2 S).bind fun q5 =>
  some (q5.1, q5.2)
theorem ag_says {S : kSt} (hI : Inv S) (a1 : Int32) (a2 : Int32) (h : pB S a1 = true → uB a2 60 = true → Body (cb_says a1 a2) (mb_says a1 a2) (kuI S 0 18 0)) : Agree (f_m10_says a1 a2) (f_m11_says a1 a2) S := by
  refine ag_core hI (A := pB S a1) (B := uB a2 60) (rf := (-1)) ?_ (fun T hk => ?_) h
  · unfold f_m10_says
    rw [c_isPair hI]
    simp only [Option.bind_some]
    rw [c_upTo]
    simp only [Option.bind_some]
    rw [c_may]
    simp only [Option.bind_some]
    cases pB S a1
    · cases uB a2 60 <;> simp only [Bool.false_and, Bool.and_false, Bool.true_and, Bool.and_self, Bool.false_eq_true, if_false, if_true, Option.bind_some, k1ne, k2ne, m_no, knx, kn64]
    · cases uB a2 60
      · simp only [Bool.false_and, Bool.and_false, Bool.true_and, Bool.and_self, Bool.false_eq_true, if_false, if_true, Option.bind_some, k1ne, k2ne, m_no, knx, kn64]
      · simp only [Bool.and_self, if_true, Bool.true_and, Bool.and_true, cb_says]
  · unfold f_m11_says
    rw [m_good]
    simp only [Option.bind_some]
    rw [m_isPair hI (hk.tr kG0_keep)]
    simp only [Option.bind_some]
    rw [m_aheadWhy]
    simp only [Option.bind_some]
    cases pB S a1
    · cases uB a2 60 <;> simp only [Bool.false_and, Bool.and_false, Bool.true_and, Bool.and_self, Bool.false_eq_true, if_false, if_true, Option.bind_some, k1ne, k2ne, m_no, knx, kn64]
    · cases uB a2 60
      · simp only [Bool.false_and, Bool.and_false, Bool.true_and, Bool.and_self, Bool.false_eq_true, if_false, if_true, Option.bind_some, k1ne, k2ne, m_no, knx, kn64]
      · simp only [Bool.and_self, if_true, Bool.true_and, Bool.and_true, mb_says]
def cb_saysAll (a1 : Int32) (a2 : Int32) (S : kSt) : Option (Int32 × kSt) :=
  (f_m9_begin 6 a1 S).bind fun q5 =>
  f_m10_saysAll_L41 
    (fun (x10 : Int32) (S11 : kSt) =>
      some (x10, S11)
    )
    a2 kFU 0 1 q5
def mb_saysAll (a1 : Int32) (a2 : Int32) (S : kSt) : Option (Int32 × kSt) :=
  f_m11_saysAll_L31 
    (fun (x9 : Int32) (S10 : kSt) =>
      some (x9, S10)
    )
    a1 a2 kFU 0 1 S
theorem ag_saysAll {S : kSt} (hI : Inv S) (a1 : Int32) (a2 : Int32) (h : pB S a1 = true → uB a2 60 = true → Body (cb_saysAll a1 a2) (mb_saysAll a1 a2) (kuI S 0 18 0)) : Agree (f_m10_saysAll a1 a2) (f_m11_saysAll a1 a2) S := by
  refine ag_core hI (A := pB S a1) (B := uB a2 60) (rf := (-1)) ?_ (fun T hk => ?_) h
  · unfold f_m10_saysAll
    rw [c_isPair hI]
    simp only [Option.bind_some]
    rw [c_upTo]
    simp only [Option.bind_some]
    rw [c_may]
    simp only [Option.bind_some]
    cases pB S a1
    · cases uB a2 60 <;> simp only [Bool.false_and, Bool.and_false, Bool.true_and, Bool.and_self, Bool.false_eq_true, if_false, if_true, Option.bind_some, k1ne, k2ne, m_no, knx, kn64]
    · cases uB a2 60
      · simp only [Bool.false_and, Bool.and_false, Bool.true_and, Bool.and_self, Bool.false_eq_true, if_false, if_true, Option.bind_some, k1ne, k2ne, m_no, knx, kn64]
      · simp only [Bool.and_self, if_true, Bool.true_and, Bool.and_true, cb_saysAll]
  · unfold f_m11_saysAll
    rw [m_good]
    simp only [Option.bind_some]
    rw [m_isPair hI (hk.tr kG0_keep)]
    simp only [Option.bind_some]
    rw [m_aheadWhy]
    simp only [Option.bind_some]
    cases pB S a1
    · cases uB a2 60 <;> simp only [Bool.false_and, Bool.and_false, Bool.true_and, Bool.and_self, Bool.false_eq_true, if_false, if_true, Option.bind_some, k1ne, k2ne, m_no, knx, kn64]
    · cases uB a2 60
      · simp only [Bool.false_and, Bool.and_false, Bool.true_and, Bool.and_self, Bool.false_eq_true, if_false, if_true, Option.bind_some, k1ne, k2ne, m_no, knx, kn64]
      · simp only [Bool.and_self, if_true, Bool.true_and, Bool.and_true, mb_saysAll]
def cb_saysLate (a1 : Int32) (a2 : Int32) (S : kSt) : Option (Int32 × kSt) :=
  (f_m10_goRound a1 S).bind fun q5 =>
  (f_m8_saying a2 q5).bind fun q6 =>
  some (q6.1, q6.2)
def mb_saysLate (a1 : Int32) (a2 : Int32) (S : kSt) : Option (Int32 × kSt) :=
  (f_m11_goRound a1 S).bind fun q6 =>
  if (q6.1 14 26) ≤ a2 then
    knx (q6.1 14 27) fun x8 =>
    kgz x8 (
      knx ((q6.1 14 26) + (krem (a2 - (q6.1 14 26)) x8)) fun x9 =>
      kgi x9 2600 (
        some (q6.1 64 x9.toNatClampNeg, q6)
      )
    )
  else
    kgi a2 2600 (
      some (q6.1 64 a2.toNatClampNeg, q6)
    )
theorem ag_saysLate {S : kSt} (hI : Inv S) (a1 : Int32) (a2 : Int32) (h : pB S a1 = true → uB a2 2000000000 = true → Body (cb_saysLate a1 a2) (mb_saysLate a1 a2) (kuI S 0 18 0)) : Agree (f_m10_saysLate a1 a2) (f_m11_saysLate a1 a2) S := by
  refine ag_core hI (A := pB S a1) (B := uB a2 2000000000) (rf := (-1)) ?_ (fun T hk => ?_) h
  · unfold f_m10_saysLate
    rw [c_isPair hI]
    simp only [Option.bind_some]
    rw [c_upTo]
    simp only [Option.bind_some]
    rw [c_may]
    simp only [Option.bind_some]
    cases pB S a1
    · cases uB a2 2000000000 <;> simp only [Bool.false_and, Bool.and_false, Bool.true_and, Bool.and_self, Bool.false_eq_true, if_false, if_true, Option.bind_some, k1ne, k2ne, m_no, knx, kn64]
    · cases uB a2 2000000000
      · simp only [Bool.false_and, Bool.and_false, Bool.true_and, Bool.and_self, Bool.false_eq_true, if_false, if_true, Option.bind_some, k1ne, k2ne, m_no, knx, kn64]
      · simp only [Bool.and_self, if_true, Bool.true_and, Bool.and_true, cb_saysLate]
  · unfold f_m11_saysLate
    rw [m_good]
    simp only [Option.bind_some]
    rw [m_isPair hI (hk.tr kG0_keep)]
    simp only [Option.bind_some]
    rw [m_in]
    simp only [Option.bind_some]
    rw [m_why]
    simp only [Option.bind_some]
    rw [show (decide (0 ≤ a2 ∧ a2 ≤ 2000000000)) = uB a2 2000000000 from rfl]
    cases pB S a1
    · cases uB a2 2000000000 <;> simp only [Bool.false_and, Bool.and_false, Bool.true_and, Bool.and_self, Bool.false_eq_true, if_false, if_true, Option.bind_some, k1ne, k2ne, m_no, knx, kn64]
    · cases uB a2 2000000000
      · simp only [Bool.false_and, Bool.and_false, Bool.true_and, Bool.and_self, Bool.false_eq_true, if_false, if_true, Option.bind_some, k1ne, k2ne, m_no, knx, kn64]
      · simp only [Bool.and_self, if_true, Bool.true_and, Bool.and_true, mb_saysLate]
def cb_season  (S : kSt) : Option (Int32 × kSt) :=
  if (S.1 4 0) < 999 then
    (f_m3_keep  S).bind fun q5 =>
    (f_m10_sayAllBehind 1 q5).bind fun q6 =>
    knx (q6.1 1 2) fun x8 =>
    kgc 0 0 x8 5 5 (
      knx (kcp q6 16 40 (0 : Int32).toNatClampNeg (0 : Int32).toNatClampNeg (x8 : Int32).toNatClampNeg) fun S7 =>
      knx (kuI S7 4 0 ((S7.1 4 0) + 1)) fun S9 =>
      (f_m10_bitsOfMore 40 S9).bind fun q10 =>
      some (q10.1, q10.2)
    )
  else
    (f_m10_refuse 3 S).bind fun q11 =>
    some (q11.1, q11.2)
def mb_season  (S : kSt) : Option (Int32 × kSt) :=
  if (S.1 61 35) = 999 then
    (f_m11_no 3 S).bind fun q15 =>
    some (q15.1, q15.2)
  else
    (f_m11_note  S).bind fun q5 =>
    knx (kuI q5 61 35 ((q5.1 61 35) + 1)) fun S6 =>
    f_m11_season_L53 
      (fun  (S13 : kSt) =>
        (f_m11_mastersIn 0 S13).bind fun q14 =>
        some (q14.1, q14.2)
      )
      kFU 0 S6
theorem ag_season {S : kSt} (hI : Inv S)  (h : hB S = true → true = true → Body (cb_season ) (mb_season ) (kuI S 0 18 0)) : Agree (f_m10_season ) (f_m11_season ) S := by
  refine ag_core hI (A := hB S) (B := true) (rf := (-1)) ?_ (fun T hk => ?_) h
  · unfold f_m10_season
    rw [hB_c hI]
    rw [c_may1]
    simp only [Option.bind_some]
    cases hB S
    · simp only [Bool.false_and, Bool.and_false, Bool.true_and, Bool.and_self, Bool.false_eq_true, if_false, if_true, Option.bind_some, k1ne, k2ne, m_no, knx, kn64]
    · simp only [Bool.and_self, if_true, Bool.true_and, Bool.and_true, cb_season]
  · unfold f_m11_season
    rw [m_good]
    simp only [Option.bind_some]
    rw [hB_m hI (hk.tr kG0_keep)]
    cases hB S
    · simp only [Bool.false_and, Bool.and_false, Bool.true_and, Bool.and_self, Bool.false_eq_true, if_false, if_true, Option.bind_some, k1ne, k2ne, m_no, knx, kn64]
    · simp only [Bool.and_self, if_true, Bool.true_and, Bool.and_true, mb_season]
def cb_settles (a1 : Int32) (S : kSt) : Option (Int32 × kSt) :=
  (f_m10_goRound a1 S).bind fun q4 =>
  some (q4.1 8 2, q4)
def mb_settles (a1 : Int32) (S : kSt) : Option (Int32 × kSt) :=
  (f_m11_goRound a1 S).bind fun q4 =>
  some (q4.1 14 28, q4)
theorem ag_settles {S : kSt} (hI : Inv S) (a1 : Int32) (h : pB S a1 = true → true = true → Body (cb_settles a1) (mb_settles a1) (kuI S 0 18 0)) : Agree (f_m10_settles a1) (f_m11_settles a1) S := by
  refine ag_core hI (A := pB S a1) (B := true) (rf := (-1)) ?_ (fun T hk => ?_) h
  · unfold f_m10_settles
    rw [c_isPair hI]
    simp only [Option.bind_some]
    rw [c_may1]
    simp only [Option.bind_some]
    cases pB S a1
    · simp only [Bool.false_and, Bool.and_false, Bool.true_and, Bool.and_self, Bool.false_eq_true, if_false, if_true, Option.bind_some, k1ne, k2ne, m_no, knx, kn64]
    · simp only [Bool.and_self, if_true, Bool.true_and, Bool.and_true, cb_settles]
  · unfold f_m11_settles
    rw [m_good]
    simp only [Option.bind_some]
    rw [m_isPair hI (hk.tr kG0_keep)]
    simp only [Option.bind_some]
    cases pB S a1
    · simp only [Bool.false_and, Bool.and_false, Bool.true_and, Bool.and_self, Bool.false_eq_true, if_false, if_true, Option.bind_some, k1ne, k2ne, m_no, knx, kn64]
    · simp only [Bool.and_self, if_true, Bool.true_and, Bool.and_true, mb_settles]
def cb_stepFor (a1 : Int32) (a2 : Int32) (S : kSt) : Option (Int32 × kSt) :=
  f_m10_stepFor_L22 
    (fun (x12 : Int32) (S13 : kSt) =>
      some (x12, S13)
    )
    (fun  (S14 : kSt) =>
      some ((-2), S14)
    )
    a1 a2 kFU 0 S
def mb_stepFor (a1 : Int32) (a2 : Int32) (S : kSt) : Option (Int32 × kSt) :=
  f_m11_stepFor_L28 
    (fun (x11 : Int32) (S12 : kSt) =>
      some (x11, S12)
    )
    (fun  (S13 : kSt) =>
      some ((-2), S13)
    )
    a1 a2 kFU 0 S
theorem ag_stepFor {S : kSt} (hI : Inv S) (a1 : Int32) (a2 : Int32) (h : pB S a1 = true → uB a2 60 = true → Body (cb_stepFor a1 a2) (mb_stepFor a1 a2) (kuI S 0 18 0)) : Agree (f_m10_stepFor a1 a2) (f_m11_stepFor a1 a2) S := by
  refine ag_core hI (A := pB S a1) (B := uB a2 60) (rf := (-1)) ?_ (fun T hk => ?_) h
  · unfold f_m10_stepFor
    rw [c_isPair hI]
    simp only [Option.bind_some]
    rw [c_upTo]
    simp only [Option.bind_some]
    rw [c_may]
    simp only [Option.bind_some]
    cases pB S a1
    · cases uB a2 60 <;> simp only [Bool.false_and, Bool.and_false, Bool.true_and, Bool.and_self, Bool.false_eq_true, if_false, if_true, Option.bind_some, k1ne, k2ne, m_no, knx, kn64]
    · cases uB a2 60
      · simp only [Bool.false_and, Bool.and_false, Bool.true_and, Bool.and_self, Bool.false_eq_true, if_false, if_true, Option.bind_some, k1ne, k2ne, m_no, knx, kn64]
      · simp only [Bool.and_self, if_true, Bool.true_and, Bool.and_true, cb_stepFor]
  · unfold f_m11_stepFor
    rw [m_good]
    simp only [Option.bind_some]
    rw [m_isPair hI (hk.tr kG0_keep)]
    simp only [Option.bind_some]
    rw [m_aheadWhy]
    simp only [Option.bind_some]
    cases pB S a1
    · cases uB a2 60 <;> simp only [Bool.false_and, Bool.and_false, Bool.true_and, Bool.and_self, Bool.false_eq_true, if_false, if_true, Option.bind_some, k1ne, k2ne, m_no, knx, kn64]
    · cases uB a2 60
      · simp only [Bool.false_and, Bool.and_false, Bool.true_and, Bool.and_self, Bool.false_eq_true, if_false, if_true, Option.bind_some, k1ne, k2ne, m_no, knx, kn64]
      · simp only [Bool.and_self, if_true, Bool.true_and, Bool.and_true, mb_stepFor]
def cb_sumAll (a1 : Int32) (S : kSt) : Option (Int32 × kSt) :=
  (f_m10_sayAllBehind a1 S).bind fun q5 =>
  f_m10_sumAll_L28 
    (fun (x9 : Int32) (S10 : kSt) =>
      some (x9, S10)
    )
    kFU 0 0 q5
def mb_sumAll (a1 : Int32) (S : kSt) : Option (Int32 × kSt) :=
  f_m11_sumAll_L29 
    (fun (x9 : Int32) (S10 : kSt) =>
      some (x9, S10)
    )
    a1 kFU 0 0 S
theorem ag_sumAll {S : kSt} (hI : Inv S) (a1 : Int32) (h : hB S = true → uB a1 60 = true → Body (cb_sumAll a1) (mb_sumAll a1) (kuI S 0 18 0)) : Agree (f_m10_sumAll a1) (f_m11_sumAll a1) S := by
  refine ag_core hI (A := hB S) (B := uB a1 60) (rf := (-1)) ?_ (fun T hk => ?_) h
  · unfold f_m10_sumAll
    rw [hB_c hI]
    rw [c_upTo]
    simp only [Option.bind_some]
    rw [c_may]
    simp only [Option.bind_some]
    cases hB S
    · cases uB a1 60 <;> simp only [Bool.false_and, Bool.and_false, Bool.true_and, Bool.and_self, Bool.false_eq_true, if_false, if_true, Option.bind_some, k1ne, k2ne, m_no, knx, kn64]
    · cases uB a1 60
      · simp only [Bool.false_and, Bool.and_false, Bool.true_and, Bool.and_self, Bool.false_eq_true, if_false, if_true, Option.bind_some, k1ne, k2ne, m_no, knx, kn64]
      · simp only [Bool.and_self, if_true, Bool.true_and, Bool.and_true, cb_sumAll]
  · unfold f_m11_sumAll
    rw [m_good]
    simp only [Option.bind_some]
    rw [hB_m hI (hk.tr kG0_keep)]
    rw [m_aheadWhy]
    simp only [Option.bind_some]
    cases hB S
    · cases uB a1 60 <;> simp only [Bool.false_and, Bool.and_false, Bool.true_and, Bool.and_self, Bool.false_eq_true, if_false, if_true, Option.bind_some, k1ne, k2ne, m_no, knx, kn64]
    · cases uB a1 60
      · simp only [Bool.false_and, Bool.and_false, Bool.true_and, Bool.and_self, Bool.false_eq_true, if_false, if_true, Option.bind_some, k1ne, k2ne, m_no, knx, kn64]
      · simp only [Bool.and_self, if_true, Bool.true_and, Bool.and_true, mb_sumAll]
def cb_talks (a1 : Int32) (a2 : Bool) (a3 : Bool) (a4 : Bool) (S : kSt) : Option (Int32 × kSt) :=
  if a4 then
    (f_m10_share a1 a3 a2 S).bind fun q7 =>
    some (q7.1, q7.2)
  else
    (f_m10_share a1 a2 a3 S).bind fun q6 =>
    some (q6.1, q6.2)
def mb_talks (a1 : Int32) (a2 : Bool) (a3 : Bool) (a4 : Bool) (S : kSt) : Option (Int32 × kSt) :=
  if a4 then
    (f_m11_talksOf a1 a3 a2 S).bind fun q9 =>
    some (q9.1, q9.2)
  else
    (f_m11_talksOf a1 a2 a3 S).bind fun q8 =>
    some (q8.1, q8.2)
theorem ag_talks {S : kSt} (hI : Inv S) (a1 : Int32) (a2 : Bool) (a3 : Bool) (a4 : Bool) (h : hB S = true → uB a1 9 = true → Body (cb_talks a1 a2 a3 a4) (mb_talks a1 a2 a3 a4) (kuI S 0 18 0)) : Agree (f_m10_talks a1 a2 a3 a4) (f_m11_talks a1 a2 a3 a4) S := by
  refine ag_core hI (A := hB S) (B := uB a1 9) (rf := (-100)) ?_ (fun T hk => ?_) h
  · unfold f_m10_talks
    rw [hB_c hI]
    rw [c_upTo]
    simp only [Option.bind_some]
    rw [c_may]
    simp only [Option.bind_some]
    cases hB S
    · cases uB a1 9 <;> simp only [Bool.false_and, Bool.and_false, Bool.true_and, Bool.and_self, Bool.false_eq_true, if_false, if_true, Option.bind_some, k1ne, k2ne, m_no, knx, kn64]
    · cases uB a1 9
      · simp only [Bool.false_and, Bool.and_false, Bool.true_and, Bool.and_self, Bool.false_eq_true, if_false, if_true, Option.bind_some, k1ne, k2ne, m_no, knx, kn64]
      · simp only [Bool.and_self, if_true, Bool.true_and, Bool.and_true, cb_talks]
  · unfold f_m11_talks
    rw [m_good]
    simp only [Option.bind_some]
    rw [hB_m hI (hk.tr kG0_keep)]
    rw [m_in]
    simp only [Option.bind_some]
    rw [m_why]
    simp only [Option.bind_some]
    rw [show (decide (0 ≤ a1 ∧ a1 ≤ 9)) = uB a1 9 from rfl]
    cases hB S
    · cases uB a1 9 <;> simp only [Bool.false_and, Bool.and_false, Bool.true_and, Bool.and_self, Bool.false_eq_true, if_false, if_true, Option.bind_some, k1ne, k2ne, m_no, knx, kn64]
    · cases uB a1 9
      · simp only [Bool.false_and, Bool.and_false, Bool.true_and, Bool.and_self, Bool.false_eq_true, if_false, if_true, Option.bind_some, k1ne, k2ne, m_no, knx, kn64]
      · simp only [Bool.and_self, if_true, Bool.true_and, Bool.and_true, mb_talks]
def cb_third (a1 : Int32) (S : kSt) : Option (Int32 × kSt) :=
  f_m10_third_L18 
    (fun (x11 : Int32) (S12 : kSt) =>
      some (x11, S12)
    )
    a1 kFU 0 0 S
def mb_third (a1 : Int32) (S : kSt) : Option (Int32 × kSt) :=
  f_m11_third_L22 
    (fun (x17 : Int32) (S18 : kSt) =>
      some (x17, S18)
    )
    a1 kFU 0 0 S
theorem ag_third {S : kSt} (hI : Inv S) (a1 : Int32) (h : pB S a1 = true → true = true → Body (cb_third a1) (mb_third a1) (kuI S 0 18 0)) : Agree (f_m10_third a1) (f_m11_third a1) S := by
  refine ag_core hI (A := pB S a1) (B := true) (rf := (-1)) ?_ (fun T hk => ?_) h
  · unfold f_m10_third
    rw [c_isPair hI]
    simp only [Option.bind_some]
    rw [c_may1]
    simp only [Option.bind_some]
    cases pB S a1
    · simp only [Bool.false_and, Bool.and_false, Bool.true_and, Bool.and_self, Bool.false_eq_true, if_false, if_true, Option.bind_some, k1ne, k2ne, m_no, knx, kn64]
    · simp only [Bool.and_self, if_true, Bool.true_and, Bool.and_true, cb_third]
  · unfold f_m11_third
    rw [m_good]
    simp only [Option.bind_some]
    rw [m_isPair hI (hk.tr kG0_keep)]
    simp only [Option.bind_some]
    cases pB S a1
    · simp only [Bool.false_and, Bool.and_false, Bool.true_and, Bool.and_self, Bool.false_eq_true, if_false, if_true, Option.bind_some, k1ne, k2ne, m_no, knx, kn64]
    · simp only [Bool.and_self, if_true, Bool.true_and, Bool.and_true, mb_third]
def cb_turnsAbout (a1 : Int32) (S : kSt) : Option (Int32 × kSt) :=
  (f_m9_begin 6 a1 S).bind fun q4 =>
  (f_m9_isMore 6 q4).bind fun q5 =>
  f_m10_turnsAbout_L43 
    (fun (x14 : Int32) (S15 : kSt) =>
      some (x14, S15)
    )
    kFU 0 q5.1 1 q5.2
def mb_turnsAbout (a1 : Int32) (S : kSt) : Option (Int32 × kSt) :=
  f_m11_turnsAbout_L22 
    (fun (x13 : Int32) (S14 : kSt) =>
      some (x13, S14)
    )
    a1 kFU 0 0 S
theorem ag_turnsAbout {S : kSt} (hI : Inv S) (a1 : Int32) (h : pB S a1 = true → true = true → Body (cb_turnsAbout a1) (mb_turnsAbout a1) (kuI S 0 18 0)) : Agree (f_m10_turnsAbout a1) (f_m11_turnsAbout a1) S := by
  refine ag_core hI (A := pB S a1) (B := true) (rf := (-1)) ?_ (fun T hk => ?_) h
  · unfold f_m10_turnsAbout
    rw [c_isPair hI]
    simp only [Option.bind_some]
    rw [c_may1]
    simp only [Option.bind_some]
    cases pB S a1
    · simp only [Bool.false_and, Bool.and_false, Bool.true_and, Bool.and_self, Bool.false_eq_true, if_false, if_true, Option.bind_some, k1ne, k2ne, m_no, knx, kn64]
    · simp only [Bool.and_self, if_true, Bool.true_and, Bool.and_true, cb_turnsAbout]
  · unfold f_m11_turnsAbout
    rw [m_good]
    simp only [Option.bind_some]
    rw [m_isPair hI (hk.tr kG0_keep)]
    simp only [Option.bind_some]
    cases pB S a1
    · simp only [Bool.false_and, Bool.and_false, Bool.true_and, Bool.and_self, Bool.false_eq_true, if_false, if_true, Option.bind_some, k1ne, k2ne, m_no, knx, kn64]
    · simp only [Bool.and_self, if_true, Bool.true_and, Bool.and_true, mb_turnsAbout]
def cb_verdictOdds (a1 : Int32) (a2 : Int32) (a3 : Bool) (S : kSt) : Option (Int64 × kSt) :=
  (f_m2_reckon (S.1 1 2) a1 a2 S).bind fun q5 =>
  (f_m6_reduce ((q5.1 11 1).toInt64) ((q5.1 11 2).toInt64) q5).bind fun q6 =>
  (f_m6_part a3 q6).bind fun q7 =>
  some (q7.1, q7.2)
def mb_verdictOdds (a1 : Int32) (a2 : Int32) (a3 : Bool) (S : kSt) : Option (Int64 × kSt) :=
  f_m11_verdictOdds_L40 
    (fun (x9 : Int32) (S10 : kSt) =>
      f_m11_verdictOdds_L69 
        (fun (x29 : Int32) (S30 : kSt) =>
          (f_m11_lowest (x29.toInt64) (x9.toInt64) a3 S30).bind fun q31 =>
          some (q31.1, q31.2)
        )
        a1 a2 a3 x9 kFU 0 0 S10
    )
    a1 a2 a3 kFU 1 0 S
theorem ag_verdictOdds {S : kSt} (hI : Inv S) (a1 : Int32) (a2 : Int32) (a3 : Bool) (h : pB S a1 = true → uB a2 4 = true → Body (cb_verdictOdds a1 a2 a3) (mb_verdictOdds a1 a2 a3) (kuI S 0 18 0)) : Agree (f_m10_verdictOdds a1 a2 a3) (f_m11_verdictOdds a1 a2 a3) S := by
  refine ag_core hI (A := pB S a1) (B := uB a2 4) (rf := (-1)) ?_ (fun T hk => ?_) h
  · unfold f_m10_verdictOdds
    rw [c_isPair hI]
    simp only [Option.bind_some]
    rw [c_upTo]
    simp only [Option.bind_some]
    rw [c_may]
    simp only [Option.bind_some]
    cases pB S a1
    · cases uB a2 4 <;> simp only [Bool.false_and, Bool.and_false, Bool.true_and, Bool.and_self, Bool.false_eq_true, if_false, if_true, Option.bind_some, k1ne, k2ne, m_no, knx, kn64]
    · cases uB a2 4
      · simp only [Bool.false_and, Bool.and_false, Bool.true_and, Bool.and_self, Bool.false_eq_true, if_false, if_true, Option.bind_some, k1ne, k2ne, m_no, knx, kn64]
      · simp only [Bool.and_self, if_true, Bool.true_and, Bool.and_true, cb_verdictOdds]
  · unfold f_m11_verdictOdds
    rw [m_good]
    simp only [Option.bind_some]
    rw [m_isPair hI (hk.tr kG0_keep)]
    simp only [Option.bind_some]
    rw [m_in]
    simp only [Option.bind_some]
    rw [m_why]
    simp only [Option.bind_some]
    rw [show (decide (0 ≤ a2 ∧ a2 ≤ 4)) = uB a2 4 from rfl]
    cases pB S a1
    · cases uB a2 4 <;> simp only [Bool.false_and, Bool.and_false, Bool.true_and, Bool.and_self, Bool.false_eq_true, if_false, if_true, Option.bind_some, k1ne, k2ne, m_no, knx, kn64]
    · cases uB a2 4
      · simp only [Bool.false_and, Bool.and_false, Bool.true_and, Bool.and_self, Bool.false_eq_true, if_false, if_true, Option.bind_some, k1ne, k2ne, m_no, knx, kn64]
      · simp only [Bool.and_self, if_true, Bool.true_and, Bool.and_true, mb_verdictOdds]
def cb_widest (a1 : Int32) (S : kSt) : Option (Int32 × kSt) :=
  (f_m10_sayAllBehind a1 S).bind fun q5 =>
  f_m10_widest_L32 
    (fun (x20 : Int32) (S21 : kSt) =>
      some (x20, S21)
    )
    kFU (-2) (-1) 0 q5
def mb_widest (a1 : Int32) (S : kSt) : Option (Int32 × kSt) :=
  f_m11_widest_L33 
    (fun (x25 : Int32) (S26 : kSt) =>
      some (x25, S26)
    )
    a1 kFU (-2) (-1) 0 S
theorem ag_widest {S : kSt} (hI : Inv S) (a1 : Int32) (h : hB S = true → uB a1 60 = true → Body (cb_widest a1) (mb_widest a1) (kuI S 0 18 0)) : Agree (f_m10_widest a1) (f_m11_widest a1) S := by
  refine ag_core hI (A := hB S) (B := uB a1 60) (rf := (-1)) ?_ (fun T hk => ?_) h
  · unfold f_m10_widest
    rw [hB_c hI]
    rw [c_upTo]
    simp only [Option.bind_some]
    rw [c_may]
    simp only [Option.bind_some]
    cases hB S
    · cases uB a1 60 <;> simp only [Bool.false_and, Bool.and_false, Bool.true_and, Bool.and_self, Bool.false_eq_true, if_false, if_true, Option.bind_some, k1ne, k2ne, m_no, knx, kn64]
    · cases uB a1 60
      · simp only [Bool.false_and, Bool.and_false, Bool.true_and, Bool.and_self, Bool.false_eq_true, if_false, if_true, Option.bind_some, k1ne, k2ne, m_no, knx, kn64]
      · simp only [Bool.and_self, if_true, Bool.true_and, Bool.and_true, cb_widest]
  · unfold f_m11_widest
    rw [m_good]
    simp only [Option.bind_some]
    rw [hB_m hI (hk.tr kG0_keep)]
    rw [m_aheadWhy]
    simp only [Option.bind_some]
    cases hB S
    · cases uB a1 60 <;> simp only [Bool.false_and, Bool.and_false, Bool.true_and, Bool.and_self, Bool.false_eq_true, if_false, if_true, Option.bind_some, k1ne, k2ne, m_no, knx, kn64]
    · cases uB a1 60
      · simp only [Bool.false_and, Bool.and_false, Bool.true_and, Bool.and_self, Bool.false_eq_true, if_false, if_true, Option.bind_some, k1ne, k2ne, m_no, knx, kn64]
      · simp only [Bool.and_self, if_true, Bool.true_and, Bool.and_true, mb_widest]
