-- feed
def byteN (x : Int32) (k : Nat) : Nat := x.toBitVec.toNat / 2 ^ k % 256
theorem byteN_le (x : Int32) (k : Nat) : byteN x k ≤ 255 := by
  unfold byteN
  omega
theorem toInt8_of {x y : Int32} (h : x.toBitVec.toNat % 256 = y.toBitVec.toNat % 256) : x.toInt8 = y.toInt8 := by
  apply Int8.toBitVec_inj.mp
  apply BitVec.eq_of_toNat_eq
  rw [Int32.toBitVec_toInt8, Int32.toBitVec_toInt8, BitVec.signExtend_eq_setWidth_of_le _ (by omega), BitVec.signExtend_eq_setWidth_of_le _ (by omega), BitVec.toNat_setWidth, BitVec.toNat_setWidth]
  exact h
theorem sb_c {x v : Int32} {k : Nat} (hs : ((v.toUInt32 &&& Int32.toUInt32 31).toBitVec % 32).toNat = k) : (((x.toUInt32 >>> (v.toUInt32 &&& Int32.toUInt32 31)).toInt32).toInt8.toInt32).toInt8.toInt32 = (nI (byteN x k)).toInt8.toInt32 := by
  rw [Int8.toInt8_toInt32]
  congr 1
  apply toInt8_of
  rw [pk_ushr x v k hs, pk_tn (Nat.lt_of_le_of_lt (byteN_le x k) (by omega))]
  unfold byteN
  omega
theorem i32_nat (x : Int32) : ∃ q : Int, x.toInt = (x.toBitVec.toNat : Int) - 4294967296 * q := by
  have h : x.toInt = x.toBitVec.toInt := rfl
  rw [h, BitVec.toInt_eq_toNat_cond]
  split
  · exact ⟨0, by omega⟩
  · exact ⟨1, by omega⟩
theorem sb_m8 {x : Int32} {s : Int32} {k : Nat} (hk : k = 0 ∨ k = 8 ∨ k = 16 ∨ k = 24) (hs : (s.toBitVec.smod 32).toNat = k) : (x >>> s) &&& 255 = nI (byteN x k) := by
  rw [pk_and _ 8 (by decide)]
  congr 1
  have h1 := pk_shr x s k hs
  rw [Int.shiftRight_eq_div_pow] at h1
  obtain ⟨q1, e1⟩ := i32_nat (x >>> s)
  obtain ⟨q2, e2⟩ := i32_nat x
  unfold byteN
  rw [e1, e2] at h1
  rcases hk with rfl | rfl | rfl | rfl
  · rw [show ((2 ^ 0 : Nat) : Int) = 1 from rfl] at h1
    show _ % 256 = _ / 1 % 256
    omega
  · rw [show ((2 ^ 8 : Nat) : Int) = 256 from rfl] at h1
    show _ % 256 = _ / 256 % 256
    omega
  · rw [show ((2 ^ 16 : Nat) : Int) = 65536 from rfl] at h1
    show _ % 256 = _ / 65536 % 256
    omega
  · rw [show ((2 ^ 24 : Nat) : Int) = 16777216 from rfl] at h1
    show _ % 256 = _ / 16777216 % 256
    omega
theorem sb_m (x : Int32) {k : Nat} (hk : k < 20) : (x >>> ((24 - (8 * (krem (nI k) 4))) &&& 31)) &&& 255 = nI (byteN x (24 - 8 * (k % 4))) := by
  rw [show krem (nI k) 4 = nI (k % 4) from krem_nI (b := 4) (by omega) (by omega) (by omega)]
  have h4 : k % 4 = 0 ∨ k % 4 = 1 ∨ k % 4 = 2 ∨ k % 4 = 3 := by omega
  rcases h4 with e | e | e | e
  · rw [e]
    show _ = nI (byteN x 24)
    exact sb_m8 (by omega) (by decide)
  · rw [e]
    show _ = nI (byteN x 16)
    exact sb_m8 (by omega) (by decide)
  · rw [e]
    show _ = nI (byteN x 8)
    exact sb_m8 (by omega) (by decide)
  · rw [e]
    show _ = nI (byteN x 0)
    exact sb_m8 (by omega) (by decide)
def wS (a b c d e : Int32) (k : Nat) : Int32 := if 4 ≤ k then (if 8 ≤ k then (if 12 ≤ k then (if 16 ≤ k then e else d) else c) else b) else a
theorem m_feedS {K : kSt → Option (Int32 × kSt)} {a b c d e : Int32} {n k t : Nat} {S : kSt} (hk : k < 20) (ht : t + 20 ≤ 900) (hS : S.1 14 2 = nI (t + k)) : f_m11_feed_L23 K a b c d e (n + 1) (nI k) S = f_m11_feed_L23 K a b c d e n (nI (k + 1)) (kuI (kuI S 55 (t + k) (nI (byteN (wS a b c d e k) (24 - 8 * (k % 4))))) 14 2 (nI (t + k + 1))) := by
  have c4 : ((4 : Int32) ≤ nI k) = (4 ≤ k) := propext (nI_leI (a := 4) (by omega) (by omega))
  have c8 : ((8 : Int32) ≤ nI k) = (8 ≤ k) := propext (nI_leI (a := 8) (by omega) (by omega))
  have c12 : ((12 : Int32) ≤ nI k) = (12 ≤ k) := propext (nI_leI (a := 12) (by omega) (by omega))
  have c16 : ((16 : Int32) ≤ nI k) = (16 ≤ k) := propext (nI_leI (a := 16) (by omega) (by omega))
  have cl : (nI (t + k)).toNatClampNeg = t + k := nI_clamp (by omega)
  have kg : ∀ o : Option (Int32 × kSt), kgi (nI (t + k)) 900 o = o := fun o => kgi_nI (by omega) (by omega)
  rw [f_m11_feed_L23, if_neg (show ¬ (20 : Int32) ≤ nI k from fun q => by have := (nI_leI (a := 20) (by omega) (by omega)).mp q; omega)]
  simp only [knx_e, c4, c8, c12, c16, hS, kg, cl, sb_m _ hk, uI_get, show ¬ ((14 : Nat) = 55 ∧ 2 = t + k) from fun q => absurd q.1 (by decide), if_false, nI_1]
  unfold wS
  by_cases h4 : 4 ≤ k
  · by_cases h8 : 8 ≤ k
    · by_cases h12 : 12 ≤ k
      · by_cases h16 : 16 ≤ k
        · simp only [h4, h8, h12, h16, if_true]
        · simp only [h4, h8, h12, h16, if_true, if_false]
      · simp only [h4, h8, h12, if_true, if_false]
    · simp only [h4, h8, if_true, if_false]
  · simp only [h4, if_false]
theorem m_feedL {K : kSt → Option (Int32 × kSt)} {a b c d e : Int32} {t : Nat} (ht : t + 20 ≤ 900) : ∀ (j k fu : Nat) (S : kSt), k + j = 20 → j < fu → S.1 14 2 = nI (t + k) → ∃ S', f_m11_feed_L23 K a b c d e fu (nI k) S = K S' ∧ S'.1 14 2 = nI (t + 20) ∧ (∀ i, k ≤ i → i < 20 → S'.1 55 (t + i) = nI (byteN (wS a b c d e i) (24 - 8 * (i % 4)))) ∧ (∀ i, (i < t + k ∨ t + 20 ≤ i) → S'.1 55 i = S.1 55 i) ∧ (∀ a, a ≠ 14 → a ≠ 55 → S'.1 a = S.1 a) ∧ (∀ j, j ≠ 2 → S'.1 14 j = S.1 14 j) := by
  intro j
  induction j with
  | zero =>
    intro k fu S hk hfu hS
    obtain ⟨fu, rfl⟩ : ∃ m, fu = m + 1 := ⟨fu - 1, by omega⟩
    have e : k = 20 := by omega
    subst e
    refine ⟨S, ?_, hS, fun i h1 h2 => by omega, fun i _ => rfl, fun a _ _ => rfl, fun j _ => rfl⟩
    rw [f_m11_feed_L23, if_pos (show (20 : Int32) ≤ nI 20 from by decide)]
  | succ j ih =>
    intro k fu S hk hfu hS
    obtain ⟨fu, rfl⟩ : ∃ m, fu = m + 1 := ⟨fu - 1, by omega⟩
    rw [m_feedS (t := t) (by omega) ht hS]
    obtain ⟨S', h1, h2, h3, h4, h5, h6⟩ := ih (k + 1) fu (kuI (kuI S 55 (t + k) (nI (byteN (wS a b c d e k) (24 - 8 * (k % 4))))) 14 2 (nI (t + k + 1))) (by omega) (by omega) (by rw [uI_get, if_pos ⟨rfl, rfl⟩]; rfl)
    refine ⟨S', h1, h2, fun i q1 q2 => ?_, fun i q => ?_, fun a q1 q2 => ?_, fun j q => ?_⟩
    · by_cases hi : i = k
      · subst hi
        rw [h4 _ (by omega), uI_get, if_neg (by omega), uI_get, if_pos ⟨rfl, rfl⟩]
      · exact h3 i (by omega) q2
    · rw [h4 _ (by omega), uI_get, if_neg (by omega), uI_get, if_neg (by omega)]
    · rw [h5 a q1 q2, kuI_ne _ _ _ q1, kuI_ne _ _ _ q2]
    · rw [h6 j q, uI_get, if_neg (by omega), uI_get, if_neg (by omega)]
theorem c_pbS {K : kSt → Option kSt} {x v : Int32} {n t k : Nat} {S : kSt} (hv : ¬ v < 0) (hs : ((v.toUInt32 &&& Int32.toUInt32 31).toBitVec % 32).toNat = k) (ht : t < 900) (hS : S.1 0 1 = nI t) : f_m10_putBytes_L3 K x (n + 1) v S = f_m10_putBytes_L3 K x n (v + (-8)) (kuI (kuI S 15 t (nI (byteN x k)).toInt8.toInt32) 0 1 (nI (t + 1))) := by
  rw [f_m10_putBytes_L3, if_neg hv, hS, if_neg (show ¬ (900 : Int32) ≤ nI t from fun q => by have := (nI_leI (a := 900) (by omega) (by omega)).mp q; omega)]
  simp only [knx_e]
  rw [kgi_nI (by omega) (by omega), nI_clamp (by omega), sb_c hs]
  simp only [uI_get, show ¬ ((0 : Nat) = 15 ∧ 1 = t) from fun q => absurd q.1 (by decide), if_false, hS, nI_1]
theorem uI_no (S : kSt) {k j a b : Nat} (x : Int32) (h : ¬ (a = k ∧ b = j)) : (kuI S k j x).1 a b = S.1 a b := by rw [uI_get, if_neg h]
theorem uI_at (S : kSt) (k j : Nat) (x : Int32) : (kuI S k j x).1 k j = x := by rw [uI_get, if_pos ⟨rfl, rfl⟩]
theorem c_putBytes {x : Int32} {t : Nat} {S : kSt} (ht : t + 4 ≤ 900) (hS : S.1 0 1 = nI t) : ∃ S', f_m10_putBytes x S = some S' ∧ S'.1 0 1 = nI (t + 4) ∧ (∀ i, i < 4 → S'.1 15 (t + i) = (nI (byteN x (24 - 8 * i))).toInt8.toInt32) ∧ (∀ i, (i < t ∨ t + 4 ≤ i) → S'.1 15 i = S.1 15 i) ∧ (∀ a, a ≠ 0 → a ≠ 15 → S'.1 a = S.1 a) ∧ (∀ j, j ≠ 1 → S'.1 0 j = S.1 0 j) := by
  unfold f_m10_putBytes
  rw [show kFU = 999995 + 1 + 1 + 1 + 1 + 1 from rfl]
  rw [c_pbS (v := 24) (k := 24) (t := t) (by decide) (by decide) (by omega) hS, show (24 : Int32) + (-8) = 16 from by decide]
  rw [c_pbS (v := 16) (k := 16) (t := t + 1) (by decide) (by decide) (by omega) (uI_at _ _ _ _), show (16 : Int32) + (-8) = 8 from by decide]
  rw [c_pbS (v := 8) (k := 8) (t := t + 1 + 1) (by decide) (by decide) (by omega) (uI_at _ _ _ _), show (8 : Int32) + (-8) = 0 from by decide]
  rw [c_pbS (v := 0) (k := 0) (t := t + 1 + 1 + 1) (by decide) (by decide) (by omega) (uI_at _ _ _ _), show (0 : Int32) + (-8) = -8 from by decide]
  rw [f_m10_putBytes_L3, if_pos (show (-8 : Int32) < 0 from by decide)]
  refine ⟨_, rfl, ?_, fun i hi => ?_, fun i hi => ?_, fun a h1 h2 => ?_, fun j hj => ?_⟩
  · rw [uI_get, if_pos ⟨rfl, rfl⟩]
  · rcases (show i = 0 ∨ i = 1 ∨ i = 2 ∨ i = 3 by omega) with rfl | rfl | rfl | rfl
    · rw [uI_get, if_neg (by omega), uI_get, if_neg (by omega), uI_get, if_neg (by omega), uI_get, if_neg (by omega), uI_get, if_neg (by omega), uI_get, if_neg (by omega), uI_get, if_neg (by omega), uI_get, if_pos ⟨rfl, rfl⟩]
    · rw [uI_get, if_neg (by omega), uI_get, if_neg (by omega), uI_get, if_neg (by omega), uI_get, if_neg (by omega), uI_get, if_neg (by omega), uI_get, if_pos ⟨rfl, rfl⟩]
    · rw [uI_get, if_neg (by omega), uI_get, if_neg (by omega), uI_get, if_neg (by omega), uI_get, if_pos ⟨rfl, rfl⟩]
    · rw [uI_get, if_neg (by omega), uI_get, if_pos ⟨rfl, rfl⟩]
  · rw [uI_get, if_neg (by omega), uI_get, if_neg (by omega), uI_get, if_neg (by omega), uI_get, if_neg (by omega), uI_get, if_neg (by omega), uI_get, if_neg (by omega), uI_get, if_neg (by omega), uI_get, if_neg (by omega)]
  · rw [kuI_ne _ _ _ h1, kuI_ne _ _ _ h2, kuI_ne _ _ _ h1, kuI_ne _ _ _ h2, kuI_ne _ _ _ h1, kuI_ne _ _ _ h2, kuI_ne _ _ _ h1, kuI_ne _ _ _ h2]
  · rw [uI_get, if_neg (by omega), uI_get, if_neg (by omega), uI_get, if_neg (by omega), uI_get, if_neg (by omega), uI_get, if_neg (by omega), uI_get, if_neg (by omega), uI_get, if_neg (by omega), uI_get, if_neg (by omega)]
theorem c_feed5 {a b c d e : Int32} {t : Nat} {S : kSt} (ht : t + 20 ≤ 900) (hS : S.1 0 1 = nI t) : ∃ S', f_m10_feed a b c d e S = some (nI (t + 20), S') ∧ S'.1 0 1 = nI (t + 20) ∧ (∀ i, i < 20 → S'.1 15 (t + i) = (nI (byteN (wS a b c d e i) (24 - 8 * (i % 4)))).toInt8.toInt32) ∧ (∀ i, (i < t ∨ t + 20 ≤ i) → S'.1 15 i = S.1 15 i) ∧ (∀ a, a ≠ 0 → a ≠ 15 → S'.1 a = S.1 a) ∧ (∀ j, j ≠ 1 → S'.1 0 j = S.1 0 j) := by
  obtain ⟨S1, a1, a2, a3, a4, a5, a6⟩ := c_putBytes (x := a) (t := t) (S := S) (by omega) hS
  obtain ⟨S2, b1, b2, b3, b4, b5, b6⟩ := c_putBytes (x := b) (t := t + 4) (S := S1) (by omega) a2
  obtain ⟨S3, c1, c2, c3, c4, c5, c6⟩ := c_putBytes (x := c) (t := t + 4 + 4) (S := S2) (by omega) b2
  obtain ⟨S4, d1, d2, d3, d4, d5, d6⟩ := c_putBytes (x := d) (t := t + 4 + 4 + 4) (S := S3) (by omega) c2
  obtain ⟨S5, e1, e2, e3, e4, e5, e6⟩ := c_putBytes (x := e) (t := t + 4 + 4 + 4 + 4) (S := S4) (by omega) d2
  have e2' : S5.1 0 1 = nI (t + 20) := e2
  refine ⟨S5, ?_, e2', fun i hi => ?_, fun i hi => ?_, fun k h1 h2 => ?_, fun j hj => ?_⟩
  · unfold f_m10_feed
    rw [hS, if_pos (show nI t ≤ (880 : Int32) from nI_le (b := 880) (by omega) (by omega)), a1]
    simp only [Option.bind_some, b1, c1, d1, e1, e2']
  · unfold wS
    by_cases h4 : 4 ≤ i
    · by_cases h8 : 8 ≤ i
      · by_cases h12 : 12 ≤ i
        · by_cases h16 : 16 ≤ i
          · rw [if_pos h4, if_pos h8, if_pos h12, if_pos h16, show t + i = t + 4 + 4 + 4 + 4 + (i - 16) by omega, e3 (i - 16) (by omega), show i % 4 = i - 16 by omega]
          · rw [if_pos h4, if_pos h8, if_pos h12, if_neg h16, e4 _ (by omega), show t + i = t + 4 + 4 + 4 + (i - 12) by omega, d3 (i - 12) (by omega), show i % 4 = i - 12 by omega]
        · rw [if_pos h4, if_pos h8, if_neg h12, e4 _ (by omega), d4 _ (by omega), show t + i = t + 4 + 4 + (i - 8) by omega, c3 (i - 8) (by omega), show i % 4 = i - 8 by omega]
      · rw [if_pos h4, if_neg h8, e4 _ (by omega), d4 _ (by omega), c4 _ (by omega), show t + i = t + 4 + (i - 4) by omega, b3 (i - 4) (by omega), show i % 4 = i - 4 by omega]
    · rw [if_neg h4, e4 _ (by omega), d4 _ (by omega), c4 _ (by omega), b4 _ (by omega), a3 i (by omega), show i % 4 = i by omega]
  · rw [e4 _ (by omega), d4 _ (by omega), c4 _ (by omega), b4 _ (by omega), a4 _ (by omega)]
  · rw [e5 k h1 h2, d5 k h1 h2, c5 k h1 h2, b5 k h1 h2, a5 k h1 h2]
  · rw [e6 j hj, d6 j hj, c6 j hj, b6 j hj, a6 j hj]
/-- all but the tapes as before -/
theorem inv_tape {S S' : kSt} (hI : Inv S) (h : ∀ a, a ≠ 0 → a ≠ 14 → a ≠ 15 → a ≠ 55 → S'.1 a = S.1 a) (h0 : ∀ j, j ≠ 1 → S'.1 0 j = S.1 0 j) (h14 : ∀ j, j ≠ 0 → j ≠ 2 → S'.1 14 j = S.1 14 j) (ht : (kB S' 14 2 900 ∧ S'.1 0 1 = S'.1 14 2) ∧ ∀ j, j < 900 → kB S' 55 j 255 ∧ S'.1 15 j = (S'.1 55 j).toInt8.toInt32) : Inv S' := by
  obtain ⟨-, ⟨b, i4, i5, i6, i7⟩, i8, ⟨i9, i10, i11⟩, ⟨i12, i13, i14, i15⟩, i16, i17, i18⟩ := hI
  have h57 := h 57 (by decide) (by decide) (by decide) (by decide)
  have h59 := h 59 (by decide) (by decide) (by decide) (by decide)
  have h61 := h 61 (by decide) (by decide) (by decide) (by decide)
  have h62 := h 62 (by decide) (by decide) (by decide) (by decide)
  have h63 := h 63 (by decide) (by decide) (by decide) (by decide)
  have h3 := h 3 (by decide) (by decide) (by decide) (by decide)
  have h5 := h 5 (by decide) (by decide) (by decide) (by decide)
  have k22 := h14 22 (by decide) (by decide)
  have k23 := h14 23 (by decide) (by decide)
  have k11 := h14 11 (by decide) (by decide)
  refine ⟨ht, ⟨b, by rw [h14 14 (by decide) (by decide)]; exact i4, by rw [h0 5 (by decide)]; exact i5, fun q => mOk_e h57 h59 h61 (i6 q), fun q => ?_⟩, ?_, ⟨by rw [h0 18 (by decide), k11]; exact i9, by rw [h3, h14 9 (by decide) (by decide)]; exact i10, by rw [k11, h3, h14 10 (by decide) (by decide)]; exact i11⟩, ⟨(kB_c k22).mpr i12, by rw [h5, k22]; exact i13, (kB_c (by rw [h5])).mpr i14, fun i hi => ?_⟩, (kB_c k23).mpr i16, by rw [h0 9 (by decide), k23]; exact i17, fun i hi => ?_⟩
  · obtain ⟨j1, j2, j3, j4⟩ := i7 q
    exact ⟨fun i hi => by rw [h57]; exact j1 i hi, by rw [h61]; exact j2, by rw [k22]; exact j3, by rw [k23]; exact j4⟩
  · refine cOk_e (fun a ha => h a ?_ ?_ ?_ ?_) i8 <;> (rintro rfl; exact absurd ha (by decide))
  · rw [gN_c k22] at hi ⊢
    rw [gN_c (show S'.1 5 1 = S.1 5 1 by rw [h5])]
    have hr := i15 i hi
    have hc := h (73 + (gN S 5 1 + 15 - i) % 16) (by omega) (by omega) (by omega) (by omega)
    exact ⟨rowEq_c (fun k _ => by rw [h62]) (fun j => by rw [hc]) hr.1, rowOk_c (fun k _ => by rw [h62]) (by rw [h57]) hr.2⟩
  · rw [gN_c k23] at hi
    have hr := i18 i hi
    have hc := h (70 + i) (by omega) (by omega) (by omega) (by omega)
    exact ⟨rowEq_c (fun k _ => by rw [h63]) (fun j => by rw [hc]) hr.1, rowOk_c (fun k _ => by rw [h63]) (by rw [h57]) hr.2⟩
theorem ag_feed {S : kSt} (hI : Inv S) (a b c d e : Int32) : Agree (f_m10_feed a b c d e) (f_m11_feed a b c d e) S := by
  obtain ⟨⟨⟨t1, t9⟩, t2⟩, t3⟩ := hI.1
  by_cases h : gN S 14 2 + 20 ≤ 900
  · obtain ⟨S1, h1, h2, h3, h4, h5, h6⟩ := c_feed5 (a := a) (b := b) (c := c) (d := d) (e := e) h (t2.trans t1)
    have e14 : S1.1 14 = S.1 14 := h5 14 (by decide) (by decide)
    have e55 : S1.1 55 = S.1 55 := h5 55 (by decide) (by decide)
    obtain ⟨S2, g1, g2, g3, g4, g5, g6⟩ := m_feedL (K := fun (S14 : kSt) => some (S14.1 14 2, S14)) (a := a) (b := b) (c := c) (d := d) (e := e) h 20 0 kFU (kuI S1 14 0 0) (by omega) (by have := kFU_big; omega) (by rw [uI_get, if_neg (by omega), e14]; exact t1)
    refine ⟨nI (gN S 14 2 + 20), S1, S2, h1, ?_, ?_⟩
    · unfold f_m11_feed
      rw [knx_e, uI_no _ _ (show ¬ ((14 : Nat) = 14 ∧ 2 = 0) by omega), e14, t1, if_pos (show nI (gN S 14 2) + 20 ≤ (900 : Int32) from by rw [show nI (gN S 14 2) + 20 = nI (gN S 14 2 + 20) from nI_add _ 20]; exact nI_le (b := 900) h (by omega))]
      rw [show (0 : Int32) = nI 0 from rfl] at g1 ⊢
      rw [g1, g2]
    · have f5 : ∀ k, k ≠ 14 → k ≠ 55 → S2.1 k = S1.1 k := fun k q1 q2 => by rw [g5 k q1 q2, kuI_ne _ _ _ q1]
      refine inv_tape hI (fun k q0 q14 q15 q55 => by rw [f5 k q14 q55, h5 k q0 q15]) (fun j hj => by rw [f5 0 (by decide) (by decide), h6 j hj]) (fun j q0 q2 => by rw [g6 j q2, uI_get, if_neg (by omega), e14]) ⟨⟨kB_of g2 h (by omega), by rw [f5 0 (by decide) (by decide), h2, g2]⟩, fun j hj => ?_⟩
      by_cases q : j < gN S 14 2 ∨ gN S 14 2 + 20 ≤ j
      · have e1 : S2.1 55 j = S.1 55 j := by rw [g4 j (by omega), kuI_ne _ _ _ (by decide), e55]
        have := t3 j hj
        exact ⟨(kB_c e1).mpr this.1, by rw [f5 15 (by decide) (by decide), h4 j q, e1]; exact this.2⟩
      · obtain ⟨i, rfl⟩ : ∃ i, j = gN S 14 2 + i := ⟨j - gN S 14 2, by omega⟩
        have e1 := g3 i (by omega) (by omega)
        exact ⟨kB_of e1 (byteN_le _ _) (by omega), by rw [f5 15 (by decide) (by decide), h3 i (by omega), e1]⟩
  · refine ⟨-1, S, kuI S 14 0 0, ?_, ?_, inv_140 hI 0⟩
    · unfold f_m10_feed
      rw [t2, t1, if_neg (show ¬ nI (gN S 14 2) ≤ (880 : Int32) from fun q => by have := (nI_leI (b := 880) (by omega) (by omega)).mp q; omega)]
    · unfold f_m11_feed
      rw [knx_e, uI_no _ _ (show ¬ ((14 : Nat) = 14 ∧ 2 = 0) by omega), t1, if_neg (show ¬ nI (gN S 14 2) + 20 ≤ (900 : Int32) from by rw [show nI (gN S 14 2) + 20 = nI (gN S 14 2 + 20) from nI_add _ 20]; exact fun q => by have := (nI_leI (b := 900) (by omega) (by omega)).mp q; omega)]
