-- fault, where, trouble, size, pair, led
theorem k140_keep {S : kSt} {x : Int32} : keep S (kuI S 14 0 x) := keep_u (k := 14) (j := 0) rfl (by decide) (by decide) (by decide)
theorem inv_140 {S : kSt} (hI : Inv S) (x : Int32) : Inv (kuI S 14 0 x) := by
  have h4 := hI.2.2.2.1.1
  refine k140_keep.inv hI ?_ ?_
  · rw [uI_get, if_neg (by omega), uI_get, if_neg (by omega), h4]
  · rw [uI_get, if_neg (by omega)]
    exact id
theorem ag_fault {S : kSt} (hI : Inv S) : Agree f_m10_fault f_m11_fault S := by
  refine ⟨S.1 3 9, S, kuI S 14 0 0, rfl, ?_, inv_140 hI 0⟩
  unfold f_m11_fault
  rw [knx_e, uI_get, if_neg (by omega), hI.2.2.2.1.2.1]
theorem ag_trouble {S : kSt} (hI : Inv S) : Agree f_m10_trouble f_m11_trouble S := by
  refine ⟨S.1 0 18, S, kuI S 14 0 0, rfl, ?_, inv_140 hI 0⟩
  unfold f_m11_trouble
  rw [knx_e, uI_get, if_neg (by omega), hI.2.2.2.1.1]
theorem ag_where {S : kSt} (hI : Inv S) : Agree f_m10_where f_m11_where S := by
  obtain ⟨h1, h2, h3⟩ := hI.2.2.2.1
  refine ⟨if S.1 14 11 = 4 then S.1 14 10 else -1, S, kuI S 14 0 0, ?_, ?_, inv_140 hI 0⟩
  · unfold f_m10_where
    rw [h1]
    by_cases q : S.1 14 11 = 4
    · rw [if_pos q, if_pos q, h3 q]
    · rw [if_neg q, if_neg q]
  · unfold f_m11_where
    have e : ∀ j, j ≠ 0 → (kuI S 14 0 0).1 14 j = S.1 14 j := fun j hj => by rw [uI_get, if_neg (fun q => hj q.2)]
    rw [knx_e, e 11 (by decide), e 10 (by decide)]
    by_cases q : S.1 14 11 = 4
    · rw [if_pos q, if_pos q]
    · rw [if_neg q, if_neg q]
theorem i32_of {x : Int32} {n : Nat} (hn : n < 2 ^ 31) (h : x.toInt = (n : Int)) : x = nI n := Int32.toInt_inj.mp (by rw [h, nI_toInt hn])
theorem sw_no {lo hi : Int} {x : Int32} (h : x.toInt < lo ∨ hi < x.toInt) : ksw lo hi x = none := if_pos h
theorem i32_lt {x : Int32} {n : Nat} (hn : n < 2 ^ 31) : x < nI n ↔ x.toInt < (n : Int) := by rw [Int32.lt_iff_toInt_lt, nI_toInt hn]
theorem i32_le {x : Int32} {n : Nat} (hn : n < 2 ^ 31) : x ≤ nI n ↔ x.toInt ≤ (n : Int) := by rw [Int32.le_iff_toInt_le, nI_toInt hn]
theorem i32_0 {x : Int32} : 0 ≤ x ↔ (0 : Int) ≤ x.toInt := by rw [Int32.le_iff_toInt_le]; rfl
theorem Inv.sz {S : kSt} (hI : Inv S) : S.1 4 0 = S.1 61 35 ∧ S.1 5 2 = S.1 14 22 ∧ S.1 0 9 = S.1 14 23 ∧ S.1 0 1 = S.1 14 2 ∧ ∀ i, i < 7 → S.1 1 i = S.1 57 i := ⟨hI.c.now.2.2, hI.hi.2.1, hI.im.2.1, hI.1.1.2, hI.c.1⟩
theorem ag_size {S : kSt} (hI : Inv S) (a : Int32) : Agree (f_m10_size a) (f_m11_size a) S := by
  obtain ⟨z7, z8, z9, z10, z1⟩ := hI.sz
  have hk : keep S (kuI S 14 0 0) := k140_keep
  have m14 : ∀ j, j ≠ 0 → (kuI S 14 0 0).1 14 j = S.1 14 j := fun j hj => by rw [uI_get, if_neg (fun q => hj q.2)]
  have mn : ∀ a, a ≠ 14 → (kuI S 14 0 0).1 a = S.1 a := fun a ha => kuI_ne _ _ _ ha
  have hno : hB S = false → none57 S := by
    intro q
    obtain ⟨-, ⟨b, i4, i5, i6, i7⟩, -⟩ := hI
    cases b
    · exact i7 rfl
    · unfold hB at q
      rw [i4] at q
      exact absurd q (by decide)
  have key : ∀ v, f_m10_size a S = some (v, S) → f_m11_size a S = some (v, kuI S 14 0 0) → Agree (f_m10_size a) (f_m11_size a) S := fun v h1 h2 => ⟨v, S, kuI S 14 0 0, h1, h2, inv_140 hI 0⟩
  have small : ∀ n : Nat, n < 7 → a = nI n → Agree (f_m10_size a) (f_m11_size a) S := by
    intro n hn ha
    subst ha
    refine key (S.1 57 n) ?_ ?_
    · rw [← z1 n hn]
      rcases (show n = 0 ∨ n = 1 ∨ n = 2 ∨ n = 3 ∨ n = 4 ∨ n = 5 ∨ n = 6 by omega) with rfl | rfl | rfl | rfl | rfl | rfl | rfl <;> rfl
    · unfold f_m11_size
      rw [knx_e, if_neg (show ¬ nI n = 10 from fun q => by have := (nI_eq (b := 10) (by omega) (by omega)).mp q; omega), hB_m hI hk]
      cases hb : hB S
      · simp only [Bool.false_eq_true, if_false]
        rw [m_in, decide_eq_true ⟨nI_pos' (by omega), show nI n ≤ nI 9 from nI_le (by omega) (by omega)⟩, (hno hb).1 n hn]
        rfl
      · simp only [if_true]
        rw [m_in, decide_eq_true ⟨nI_pos' (by omega), show nI n ≤ nI 6 from nI_le (by omega) (by omega)⟩]
        simp only [Option.bind_some, if_true]
        rw [kgi_nI (by omega) (by omega), nI_clamp (by omega), mn 57 (by decide)]
  have mid : ∀ n : Nat, n = 7 ∨ n = 8 ∨ n = 9 → a = nI n → Agree (f_m10_size a) (f_m11_size a) S := by
    intro n hn ha
    subst ha
    refine key (if n = 7 then S.1 61 35 else if n = 8 then S.1 14 22 else S.1 14 23) ?_ ?_
    · rcases hn with rfl | rfl | rfl
      · rw [if_pos rfl, ← z7]; rfl
      · rw [if_neg (by decide), if_pos rfl, ← z8]; rfl
      · rw [if_neg (by decide), if_neg (by decide), ← z9]; rfl
    · unfold f_m11_size
      rw [knx_e, if_neg (show ¬ nI n = 10 from fun q => by have := (nI_eq (b := 10) (by omega) (by omega)).mp q; omega), hB_m hI hk]
      cases hb : hB S
      · simp only [Bool.false_eq_true, if_false]
        rw [m_in, decide_eq_true ⟨nI_pos' (by omega), show nI n ≤ nI 9 from nI_le (by omega) (by omega)⟩]
        obtain ⟨-, y1, y2, y3⟩ := hno hb
        rw [y1, y2, y3]
        simp only [Option.bind_some, if_true, ite_self]
      · simp only [if_true]
        rw [m_in, decide_eq_false (fun q => by have := (nI_leI (b := 6) (show n < 2 ^ 31 by omega) (by omega)).mp q.2; omega)]
        simp only [Option.bind_some, Bool.false_eq_true, if_false]
        rw [mn 61 (by decide), m14 22 (by decide), m14 23 (by decide)]
        rcases hn with rfl | rfl | rfl
        · rfl
        · rfl
        · rfl
  by_cases h0 : a.toInt < 0 ∨ 10 < a.toInt
  · have n7 : ∀ n : Nat, n ≤ 10 → ¬ a = nI n := fun n hn q => by
      rw [q, nI_toInt (by omega)] at h0
      omega
    refine key (-1) ?_ ?_
    · unfold f_m10_size f_m5_count_t
      rw [sw_no (by omega), sw_no (by omega)]
      rfl
    · unfold f_m11_size
      rw [knx_e, if_neg (show ¬ a = 10 from n7 10 (by omega)), hB_m hI hk]
      cases hB S
      · simp only [Bool.false_eq_true, if_false]
        rw [m_in, decide_eq_false (fun q => by have h1 := i32_0.mp q.1; have h2 := (i32_le (n := 9) (by omega)).mp q.2; omega)]
        rfl
      · simp only [if_true]
        rw [m_in, decide_eq_false (fun q => by have h1 := i32_0.mp q.1; have h2 := (i32_le (n := 6) (by omega)).mp q.2; omega)]
        simp only [Option.bind_some, Bool.false_eq_true, if_false]
        rw [if_neg (show ¬ a = 7 from n7 7 (by omega)), if_neg (show ¬ a = 8 from n7 8 (by omega)), if_neg (show ¬ a = 9 from n7 9 (by omega))]
  · obtain ⟨n, hn⟩ : ∃ n : Nat, a.toInt = (n : Int) := ⟨a.toInt.toNat, by omega⟩
    have ha := i32_of (show n < 2 ^ 31 by omega) hn
    by_cases q : n < 7
    · exact small n q ha
    · by_cases q2 : n < 10
      · exact mid n (by omega) ha
      · have h10 : n = 10 := by omega
        subst h10
        subst ha
        refine key (S.1 14 2) ?_ ?_
        · rw [← z10]; rfl
        · unfold f_m11_size
          rw [knx_e, if_pos (show nI 10 = 10 from rfl), m14 2 (by decide)]
def cb_pair (a1 a2 : Int32) (S : kSt) : Option (Int32 × kSt) :=
  kgi a1 5 (
    knx (S.1 40 a1.toNatClampNeg) fun x6 =>
    kcase5 (ksw 0 4 a2)
      (
        kgi a1 5 (
          some (S.1 18 a1.toNatClampNeg, S)
        )
      )
      (
        some (x6, S)
      )
      (
        some ((S.1 1 0) - x6, S)
      )
      (
        kgi a1 5 (
          some (S.1 41 a1.toNatClampNeg, S)
        )
      )
      (
        kgi a1 5 (
          some (S.1 21 a1.toNatClampNeg, S)
        )
      )
      (
        (f_m10_isMore x6 S).bind fun q7 =>
        if q7.1 then
          some (1, q7.2)
        else
          some (0, q7.2)
      )
  )
def mb_pair (a1 a2 : Int32) (S : kSt) : Option (Int32 × kSt) :=
      kcase5 (ksw 0 4 a2)
        (
          knx (8 + a1) fun x8 =>
          kgi x8 95 (
            some (S.1 57 x8.toNatClampNeg, S)
          )
        )
        (
          kgi a1 36 (
            some (S.1 61 a1.toNatClampNeg, S)
          )
        )
        (
          kgi a1 36 (
            some ((S.1 57 0) - (S.1 61 a1.toNatClampNeg), S)
          )
        )
        (
          knx (5 + a1) fun x9 =>
          kgi x9 36 (
            some (S.1 61 x9.toNatClampNeg, S)
          )
        )
        (
          knx (13 + a1) fun x10 =>
          kgi x10 95 (
            some (S.1 57 x10.toNatClampNeg, S)
          )
        )
        (
          kgi a1 36 (
            (f_m11_isMore (S.1 61 a1.toNatClampNeg) S).bind fun q11 =>
            if q11.1 then
              some (1, q11.2)
            else
              some (0, q11.2)
          )
        )
theorem ag_pair {S : kSt} (hI : Inv S) (a1 a2 : Int32) (h : (pB S a1 && uB a2 5) = true → true = true → Body (cb_pair a1 a2) (mb_pair a1 a2) (kuI S 0 18 0)) : Agree (f_m10_pair a1 a2) (f_m11_pair a1 a2) S := by
  refine ag_core hI (A := pB S a1 && uB a2 5) (B := true) (rf := (-1)) ?_ (fun T hk => ?_) h
  · unfold f_m10_pair
    rw [c_isPair hI]
    simp only [Option.bind_some, knx_e]
    rw [c_upTo]
    simp only [Option.bind_some]
    cases pB S a1 <;> cases uB a2 5 <;> simp only [Bool.false_and, Bool.and_false, Bool.true_and, Bool.and_true, Bool.and_self, Bool.false_eq_true, if_false, if_true, Option.bind_some, c_may1, cb_pair, knx_e]
  · unfold f_m11_pair
    rw [m_good]
    simp only [Option.bind_some, knx_e]
    rw [m_isPair hI (hk.tr kG0_keep)]
    simp only [Option.bind_some]
    rw [m_in, show (decide (0 ≤ a2 ∧ a2 ≤ 5)) = uB a2 5 from rfl]
    cases pB S a1 <;> cases uB a2 5 <;> simp only [Bool.false_and, Bool.and_false, Bool.true_and, Bool.and_true, Bool.and_self, Bool.false_eq_true, if_false, if_true, Option.bind_some, m_no, mb_pair, knx_e]
theorem b_pair {S : kSt} (hc : cOk S) (hm : mOk S) {p n : Nat} (hp : p < gN S 57 2) (hn : n ≤ 5) : Body (cb_pair (nI p) (nI n)) (mb_pair (nI p) (nI n)) S := by
  have h5 := p5 hm hp
  obtain ⟨c21, -, -, c40, c41⟩ := hc.2.2.1 p h5
  have c18 := hc.2.1 p hp
  have f61 := (hm.f61 h5).1
  have hw := hm.fig h5
  refine body_c (if n = 0 then S.1 57 (8 + p) else if n = 1 then S.1 61 p else if n = 2 then S.1 57 0 - S.1 61 p else if n = 3 then S.1 61 (5 + p) else if n = 4 then S.1 57 (13 + p) else if gN S 57 0 < 2 * gN S 61 p then 1 else 0) ⟨S, ?_, frc.rf⟩ (fun T hk => ?_)
  · unfold cb_pair
    rw [kgi_nI h5 (by omega), knx_e, kgi_nI h5 (by omega), kgi_nI h5 (by omega), kgi_nI h5 (by omega), nI_clamp (by omega), c18, c21, c40, c41, hc.words]
    rcases (show n = 0 ∨ n = 1 ∨ n = 2 ∨ n = 3 ∨ n = 4 ∨ n = 5 by omega) with rfl | rfl | rfl | rfl | rfl | rfl
    · rfl
    · rfl
    · rfl
    · rfl
    · rfl
    · rw [f61, c_isMore10 hc hm rfl hw]
      by_cases q : gN S 57 0 < 2 * gN S 61 p
      · rw [decide_eq_true q, if_pos q]; rfl
      · rw [decide_eq_false q, if_neg q]; rfl
  · unfold mb_pair
    rw [knx_e, nI8, kgi_nI (by omega) (by omega), kgi_nI (by omega) (by omega), kgi_nI (by omega) (by omega), knx_e, nI5, kgi_nI (by omega) (by omega), knx_e, nI13, kgi_nI (by omega) (by omega), kgi_nI (by omega) (by omega), nI_clamp (by omega), nI_clamp (by omega), nI_clamp (by omega), nI_clamp (by omega), hk.at (a := 57) rfl, hk.at (a := 57) rfl, hk.at (a := 57) rfl, hk.at (a := 61) rfl, hk.at (a := 61) rfl]
    rcases (show n = 0 ∨ n = 1 ∨ n = 2 ∨ n = 3 ∨ n = 4 ∨ n = 5 by omega) with rfl | rfl | rfl | rfl | rfl | rfl
    · rfl
    · rfl
    · rfl
    · rfl
    · rfl
    · rw [f61, m_isMore (S := T) (w := gN S 57 0) (by rw [hk.at (a := 57) rfl]; exact hm.1.2.1) hw hm.1.2.2]
      by_cases q : gN S 57 0 < 2 * gN S 61 p
      · rw [decide_eq_true q, if_pos q]; rfl
      · rw [decide_eq_false q, if_neg q]; rfl
-- led
def ldF (S : kSt) (a : Int32) : Nat → Nat → Nat → Option Nat
  | 0, _, _ => none
  | j + 1, p, c => if gN S 57 0 < 2 * gN S 61 p then (if nI c = a then some p else ldF S a j (p + 1) (c + 1)) else ldF S a j (p + 1) c
def ledP (S : kSt) (a : Int32) : Option Nat := if hB S then ldF S a (gN S 57 2) 0 0 else none
theorem sub_0 (a b : Int32) : a - b = 0 ↔ b = a := by
  rw [Int32.sub_eq_iff_eq_add, Int32.zero_add]
  exact eq_comm
theorem c_ledL {S : kSt} (hI : Inv S) (hm : mOk S) (hb : hB S = true) (a : Int32) (K1 : Int32 → kSt → Option (Int32 × kSt)) (K2 : kSt → Option (Int32 × kSt)) : ∀ (j i c fu : Nat), i + j = gN S 57 2 → j < fu → f_m10_led_L4 K1 K2 fu (a - nI c) (nI i) S = match ldF S a j i c with | some p => K1 (nI p) S | none => K2 S := by
  have hP := hm.2.2.1.2.1
  have hP5 := hm.2.2.1.2.2
  intro j
  induction j with
  | zero =>
    intro i c fu hi hfu
    obtain ⟨fu, rfl⟩ : ∃ m, fu = m + 1 := ⟨fu - 1, by omega⟩
    rw [f_m10_led_L4, hB_c hI, hb, if_pos rfl, hI.c.pairs, hP, if_pos (nI_le (by omega) (by omega)), ldF]
  | succ j ih =>
    intro i c fu hi hfu
    obtain ⟨fu, rfl⟩ : ∃ m, fu = m + 1 := ⟨fu - 1, by omega⟩
    have h5 : i < 5 := by omega
    rw [f_m10_led_L4, hB_c hI, hb, if_pos rfl, hI.c.pairs, hP, if_neg (nI_ge (by omega) (by omega)), kgi_nI (by omega) (by omega), nI_clamp (by omega), (hI.c.now.1 i h5).1, (hm.f61 h5).1, c_isMore10 hI.c hm rfl (hm.fig h5)]
    simp only [Option.bind_some, knx_e]
    rw [ldF, nI_1]
    by_cases q : gN S 57 0 < 2 * gN S 61 i
    · rw [if_pos q, if_pos (decide_eq_true q), kite (sub_0 a (nI c))]
      by_cases q2 : nI c = a
      · rw [if_pos q2, if_pos q2]
      · rw [if_neg q2, if_neg q2, show a - nI c + (-1) = a - nI (c + 1) by rw [← nI_1, ← Int32.sub_sub, Int32.sub_eq_add_neg (a - nI c)]]
        exact ih (i + 1) (c + 1) fu (by omega) (by omega)
    · rw [if_neg q, if_neg (by simpa using q)]
      exact ih (i + 1) c fu (by omega) (by omega)
theorem c_led {S : kSt} (hI : Inv S) (a : Int32) (K1 : Int32 → kSt → Option (Int32 × kSt)) (K2 : kSt → Option (Int32 × kSt)) : f_m10_led_L4 K1 K2 kFU a 0 S = match ledP S a with | some p => K1 (nI p) S | none => K2 S := by
  unfold ledP
  cases hb : hB S
  · rw [if_neg (by decide), show kFU = 999999 + 1 from rfl, f_m10_led_L4, hB_c hI, hb]
    rfl
  · have hm := hB_ok hI hb
    have hP5 := hm.2.2.1.2.2
    rw [if_pos rfl, ← c_ledL hI hm hb a K1 K2 (gN S 57 2) 0 0 kFU (by omega) (by have := kFU_big; omega), show a - nI 0 = a from Int32.sub_zero a]
    rfl
theorem m_ledL {S : kSt} (hI : Inv S) (hm : mOk S) (hb : hB S = true) (a : Int32) (K1 : Int32 → kSt → Option (Int32 × kSt)) (K2 : kSt → Option (Int32 × kSt)) : ∀ (j i c fu : Nat), i + j = gN S 57 2 → j < fu → f_m11_led_L4 K1 K2 a fu (nI c) (nI i) S = match ldF S a j i c with | some p => K1 (nI p) S | none => K2 S := by
  have hP := hm.2.2.1.2.1
  have hP5 := hm.2.2.1.2.2
  intro j
  induction j with
  | zero =>
    intro i c fu hi hfu
    obtain ⟨fu, rfl⟩ : ∃ m, fu = m + 1 := ⟨fu - 1, by omega⟩
    rw [f_m11_led_L4, hB_m hI keep.rf, hb, if_pos rfl, hP, if_pos (nI_le (by omega) (by omega)), ldF]
  | succ j ih =>
    intro i c fu hi hfu
    obtain ⟨fu, rfl⟩ : ∃ m, fu = m + 1 := ⟨fu - 1, by omega⟩
    have h5 : i < 5 := by omega
    rw [f_m11_led_L4, hB_m hI keep.rf, hb, if_pos rfl, hP, if_neg (nI_ge (by omega) (by omega)), kgi_nI (by omega) (by omega), nI_clamp (by omega), (hm.f61 h5).1, m_isMore hm.1.2.1 (hm.fig h5) hm.1.2.2]
    simp only [Option.bind_some, knx_e]
    rw [ldF, nI_1, nI_1]
    by_cases q : gN S 57 0 < 2 * gN S 61 i
    · rw [if_pos q, if_pos (decide_eq_true q)]
      by_cases q2 : nI c = a
      · rw [if_pos q2, if_pos q2]
      · rw [if_neg q2, if_neg q2]
        exact ih (i + 1) (c + 1) fu (by omega) (by omega)
    · rw [if_neg q, if_neg (by simpa using q)]
      exact ih (i + 1) c fu (by omega) (by omega)
theorem m_led {S : kSt} (hI : Inv S) (a : Int32) : f_m11_led a S = match ledP S a with | some p => some (nI p, kuI S 14 0 0) | none => some (0, kuI S 14 0 1) := by
  unfold ledP f_m11_led
  cases hb : hB S
  · rw [if_neg (by decide), show kFU = 999999 + 1 from rfl, f_m11_led_L4, hB_m hI keep.rf, hb]
    rfl
  · have hm := hB_ok hI hb
    have hP5 := hm.2.2.1.2.2
    rw [if_pos rfl]
    exact m_ledL hI hm hb a (fun (x11 : Int32) (S12 : kSt) => knx (kuI S12 14 0 0) fun S13 => some (x11, S13)) (fun (S14 : kSt) => knx (kuI S14 14 0 1) fun S15 => some (0, S15)) (gN S 57 2) 0 0 kFU (by omega) (by have := kFU_big; omega)
