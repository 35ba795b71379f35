-- the law: its loop
section LAWL
variable {l : Launch} {G : kG}
/-- the case of led -/
def LED (l : Launch) (G : kG) : Prop := ∀ (ad : Nat → Nat) (z : Nat) (n : Nat × Nat) (S : kSt) (i : Nat), Inv S → i + 6 ≤ G.2.2.2.2.2.2.1 → G.2.2.2.2.2.2.1 ≤ 3072 → n.1 + 1 ≤ 601024 → n.2 + 6 ≤ 7293034 → (∀ (n2 : Nat × Nat) (S2 : kSt), Inv S2 → n2.1 ≤ n.1 + 1 → n2.2 ≤ n.2 + 6 → LOk l G (ad, z) n2 2125 (LV i) [] S2) → LOk l G (ad, z) n 2031 (LV i) [] S
def kTG : List Nat := [292, 365, 390, 403, 416, 453, 490, 527, 552, 589, 614, 639, 676, 701, 726, 751, 788, 813, 850, 875, 900, 925, 962, 999, 1024, 1061, 1074, 1099, 1112, 1125, 1138, 1151, 1164, 1189, 1226, 1251, 1264, 1277, 1290, 1315, 1352, 1461, 1486, 1511, 1577, 1626, 1663, 1741, 1807, 1856, 1869, 1894, 1931, 1980, 1993, 2006, 2031, 2087, 2112]
theorem kTG_ok : ∀ j : Nat, (j : Int) ≤ (58 : Int) - 0 → ∃ off, (#[252, 325, 350, 363, 376, 413, 450, 487, 512, 549, 574, 599, 636, 661, 686, 711, 748, 773, 810, 835, 860, 885, 922, 959, 984, 1021, 1034, 1059, 1072, 1085, 1098, 1111, 1124, 1149, 1186, 1211, 1224, 1237, 1250, 1275, 1312, 1421, 1446, 1471, 1537, 1586, 1623, 1701, 1767, 1816, 1829, 1854, 1891, 1940, 1953, 1966, 1991, 2047, 2072] : Array Int)[j]? = some off ∧ ((40 : Nat) : Int) + off = ((kTG.getD j 0 : Nat) : Int) := by
  intro j hj
  have h : j < 59 := by omega
  have key : ∀ j : Fin 59, ∃ off, (#[252, 325, 350, 363, 376, 413, 450, 487, 512, 549, 574, 599, 636, 661, 686, 711, 748, 773, 810, 835, 860, 885, 922, 959, 984, 1021, 1034, 1059, 1072, 1085, 1098, 1111, 1124, 1149, 1186, 1211, 1224, 1237, 1250, 1275, 1312, 1421, 1446, 1471, 1537, 1586, 1623, 1701, 1767, 1816, 1829, 1854, 1891, 1940, 1953, 1966, 1991, 2047, 2072] : Array Int)[j.1]? = some off ∧ ((40 : Nat) : Int) + off = ((kTG.getD j.1 0 : Nat) : Int) := by
    intro j
    match j with
    | ⟨0, _⟩ => exact ⟨252, rfl, rfl⟩
    | ⟨1, _⟩ => exact ⟨325, rfl, rfl⟩
    | ⟨2, _⟩ => exact ⟨350, rfl, rfl⟩
    | ⟨3, _⟩ => exact ⟨363, rfl, rfl⟩
    | ⟨4, _⟩ => exact ⟨376, rfl, rfl⟩
    | ⟨5, _⟩ => exact ⟨413, rfl, rfl⟩
    | ⟨6, _⟩ => exact ⟨450, rfl, rfl⟩
    | ⟨7, _⟩ => exact ⟨487, rfl, rfl⟩
    | ⟨8, _⟩ => exact ⟨512, rfl, rfl⟩
    | ⟨9, _⟩ => exact ⟨549, rfl, rfl⟩
    | ⟨10, _⟩ => exact ⟨574, rfl, rfl⟩
    | ⟨11, _⟩ => exact ⟨599, rfl, rfl⟩
    | ⟨12, _⟩ => exact ⟨636, rfl, rfl⟩
    | ⟨13, _⟩ => exact ⟨661, rfl, rfl⟩
    | ⟨14, _⟩ => exact ⟨686, rfl, rfl⟩
    | ⟨15, _⟩ => exact ⟨711, rfl, rfl⟩
    | ⟨16, _⟩ => exact ⟨748, rfl, rfl⟩
    | ⟨17, _⟩ => exact ⟨773, rfl, rfl⟩
    | ⟨18, _⟩ => exact ⟨810, rfl, rfl⟩
    | ⟨19, _⟩ => exact ⟨835, rfl, rfl⟩
    | ⟨20, _⟩ => exact ⟨860, rfl, rfl⟩
    | ⟨21, _⟩ => exact ⟨885, rfl, rfl⟩
    | ⟨22, _⟩ => exact ⟨922, rfl, rfl⟩
    | ⟨23, _⟩ => exact ⟨959, rfl, rfl⟩
    | ⟨24, _⟩ => exact ⟨984, rfl, rfl⟩
    | ⟨25, _⟩ => exact ⟨1021, rfl, rfl⟩
    | ⟨26, _⟩ => exact ⟨1034, rfl, rfl⟩
    | ⟨27, _⟩ => exact ⟨1059, rfl, rfl⟩
    | ⟨28, _⟩ => exact ⟨1072, rfl, rfl⟩
    | ⟨29, _⟩ => exact ⟨1085, rfl, rfl⟩
    | ⟨30, _⟩ => exact ⟨1098, rfl, rfl⟩
    | ⟨31, _⟩ => exact ⟨1111, rfl, rfl⟩
    | ⟨32, _⟩ => exact ⟨1124, rfl, rfl⟩
    | ⟨33, _⟩ => exact ⟨1149, rfl, rfl⟩
    | ⟨34, _⟩ => exact ⟨1186, rfl, rfl⟩
    | ⟨35, _⟩ => exact ⟨1211, rfl, rfl⟩
    | ⟨36, _⟩ => exact ⟨1224, rfl, rfl⟩
    | ⟨37, _⟩ => exact ⟨1237, rfl, rfl⟩
    | ⟨38, _⟩ => exact ⟨1250, rfl, rfl⟩
    | ⟨39, _⟩ => exact ⟨1275, rfl, rfl⟩
    | ⟨40, _⟩ => exact ⟨1312, rfl, rfl⟩
    | ⟨41, _⟩ => exact ⟨1421, rfl, rfl⟩
    | ⟨42, _⟩ => exact ⟨1446, rfl, rfl⟩
    | ⟨43, _⟩ => exact ⟨1471, rfl, rfl⟩
    | ⟨44, _⟩ => exact ⟨1537, rfl, rfl⟩
    | ⟨45, _⟩ => exact ⟨1586, rfl, rfl⟩
    | ⟨46, _⟩ => exact ⟨1623, rfl, rfl⟩
    | ⟨47, _⟩ => exact ⟨1701, rfl, rfl⟩
    | ⟨48, _⟩ => exact ⟨1767, rfl, rfl⟩
    | ⟨49, _⟩ => exact ⟨1816, rfl, rfl⟩
    | ⟨50, _⟩ => exact ⟨1829, rfl, rfl⟩
    | ⟨51, _⟩ => exact ⟨1854, rfl, rfl⟩
    | ⟨52, _⟩ => exact ⟨1891, rfl, rfl⟩
    | ⟨53, _⟩ => exact ⟨1940, rfl, rfl⟩
    | ⟨54, _⟩ => exact ⟨1953, rfl, rfl⟩
    | ⟨55, _⟩ => exact ⟨1966, rfl, rfl⟩
    | ⟨56, _⟩ => exact ⟨1991, rfl, rfl⟩
    | ⟨57, _⟩ => exact ⟨2047, rfl, rfl⟩
    | ⟨58, _⟩ => exact ⟨2072, rfl, rfl⟩
    | ⟨n9 + 59, h9⟩ => exact absurd h9 (by omega)
  exact key ⟨j, h⟩
theorem lw_case (hled : LED l G) {ad : Nat → Nat} {z : Nat} {n : Nat × Nat} {S : kSt} {i : Nat} (hI : Inv S) (hi : i + 6 ≤ G.2.2.2.2.2.2.1) (hL : G.2.2.2.2.2.2.1 ≤ 3072) (h1 : n.1 + 1 ≤ 601024) (h2 : n.2 + 6 ≤ 7293034) (kk : ∀ (ad2 : Nat → Nat) (z2 : Nat) (n2 : Nat × Nat) (S2 : kSt), Inv S2 → n2.1 ≤ n.1 + 1 → n2.2 ≤ n.2 + 6 → LOk l G (ad2, z2) n2 2125 (LV i) [] S2) : ∀ j : Nat, j < 59 → LOk l G (ad, z) n (kTG.getD j 0) (LV i) [] S := by
  have g1 : n.1 ≤ 601024 := by omega
  have g2 : n.2 ≤ 7293034 := by omega
  have k0 : ∀ S2, Inv S2 → LOk l G (ad, z) n 2125 (LV i) [] S2 := fun S2 hI2 => kk ad z n S2 hI2 (by omega) (by omega)
  intro j hj
  have key : ∀ j : Fin 59, LOk l G (ad, z) n (kTG.getD j.1 0) (LV i) [] S := by
    intro j
    match j with
    | ⟨0, _⟩ => exact case_0 hI hi hL g1 g2 k0
    | ⟨1, _⟩ => exact case_1 hI hi hL g1 g2 (fun ad2 z2 S2 hI2 => kk ad2 z2 n S2 hI2 (by omega) (by omega))
    | ⟨2, _⟩ => exact case_2 hI hi hL g1 g2 k0
    | ⟨3, _⟩ => exact case_3 hI hi hL g1 g2 k0
    | ⟨4, _⟩ => exact case_4 hI hi hL g1 g2 k0
    | ⟨5, _⟩ => exact case_5 hI hi hL g1 g2 k0
    | ⟨6, _⟩ => exact case_6 hI hi hL g1 g2 k0
    | ⟨7, _⟩ => exact case_7 hI hi hL g1 g2 k0
    | ⟨8, _⟩ => exact case_8 hI hi hL g1 g2 k0
    | ⟨9, _⟩ => exact case_9 hI hi hL g1 g2 k0
    | ⟨10, _⟩ => exact case_10 hI hi hL g1 g2 k0
    | ⟨11, _⟩ => exact case_11 hI hi hL g1 g2 k0
    | ⟨12, _⟩ => exact case_12 hI hi hL g1 g2 k0
    | ⟨13, _⟩ => exact case_13 hI hi hL g1 g2 k0
    | ⟨14, _⟩ => exact case_14 hI hi hL g1 g2 k0
    | ⟨15, _⟩ => exact case_15 hI hi hL g1 g2 k0
    | ⟨16, _⟩ => exact case_16 hI hi hL g1 g2 k0
    | ⟨17, _⟩ => exact case_17 hI hi hL g1 g2 k0
    | ⟨18, _⟩ => exact case_18 hI hi hL g1 g2 k0
    | ⟨19, _⟩ => exact case_19 hI hi hL g1 g2 k0
    | ⟨20, _⟩ => exact case_20 hI hi hL g1 g2 k0
    | ⟨21, _⟩ => exact case_21 hI hi hL g1 g2 k0
    | ⟨22, _⟩ => exact case_22 hI hi hL g1 g2 k0
    | ⟨23, _⟩ => exact case_23 hI hi hL g1 g2 k0
    | ⟨24, _⟩ => exact case_24 hI hi hL g1 g2 k0
    | ⟨25, _⟩ => exact case_25 hI hi hL g1 g2 k0
    | ⟨26, _⟩ => exact case_26 hI hi hL g1 g2 k0
    | ⟨27, _⟩ => exact case_27 hI hi hL g1 g2 k0
    | ⟨28, _⟩ => exact case_28 hI hi hL g1 g2 k0
    | ⟨29, _⟩ => exact case_29 hI hi hL g1 g2 k0
    | ⟨30, _⟩ => exact case_30 hI hi hL g1 g2 k0
    | ⟨31, _⟩ => exact case_31 hI hi hL g1 g2 k0
    | ⟨32, _⟩ => exact case_32 hI hi hL g1 g2 k0
    | ⟨33, _⟩ => exact case_33 hI hi hL g1 g2 k0
    | ⟨34, _⟩ => exact case_34 hI hi hL g1 g2 k0
    | ⟨35, _⟩ => exact case_35 hI hi hL g1 g2 k0
    | ⟨36, _⟩ => exact case_36 hI hi hL g1 g2 k0
    | ⟨37, _⟩ => exact case_37 hI hi hL g1 g2 k0
    | ⟨38, _⟩ => exact case_38 hI hi hL g1 g2 k0
    | ⟨39, _⟩ => exact case_39 hI hi hL g1 g2 k0
    | ⟨40, _⟩ => exact case_40 hI hi hL g1 g2 k0
    | ⟨41, _⟩ => exact case_41 hI hi hL g1 g2 k0
    | ⟨42, _⟩ => exact case_42 hI hi hL g1 g2 k0
    | ⟨43, _⟩ => exact case_43 hI hi hL g1 g2 k0
    | ⟨44, _⟩ => exact case_44 hI hi hL g1 g2 k0
    | ⟨45, _⟩ => exact case_45 hI hi hL g1 g2 k0
    | ⟨46, _⟩ => exact case_46 hI hi hL g1 g2 k0
    | ⟨47, _⟩ => exact case_47 hI hi hL g1 g2 k0
    | ⟨48, _⟩ => exact case_48 hI hi hL g1 g2 k0
    | ⟨49, _⟩ => exact case_49 hI hi hL g1 g2 k0
    | ⟨50, _⟩ => exact case_50 hI hi hL g1 g2 k0
    | ⟨51, _⟩ => exact case_51 hI hi hL g1 g2 k0
    | ⟨52, _⟩ => exact case_52 hI hi hL g1 g2 k0
    | ⟨53, _⟩ => exact case_53 hI hi hL g1 g2 k0
    | ⟨54, _⟩ => exact case_54 hI hi hL g1 g2 k0
    | ⟨55, _⟩ => exact case_55 hI hi hL g1 g2 k0
    | ⟨56, _⟩ => exact hled ad z n S i hI hi hL h1 h2 (fun n2 S2 hI2 q1 q2 => kk ad z n2 S2 hI2 q1 q2)
    | ⟨57, _⟩ => exact case_57 hI hi hL g1 g2 k0
    | ⟨58, _⟩ => exact case_58 hI hi hL g1 g2 k0
    | ⟨n9 + 59, h9⟩ => exact absurd h9 (by omega)
  exact key ⟨j, hj⟩
theorem lw_cmp {L i : Nat} (hL : L ≤ 3072) (hi : i ≤ 4000) : Int32.ofNat L - 6 < nI i ↔ (L : Int) - 6 < (i : Int) := by
  have e : (Int32.ofNat L - 6).toInt = (L : Int) - 6 := by
    rw [Int32.toInt_sub, show (Int32.ofNat L).toInt = (L : Int) from nI_toInt (by omega), show (6 : Int32).toInt = 6 from rfl]
    exact Int.bmod_eq_of_le (by omega) (by omega)
  rw [Int32.lt_iff_toInt_lt, e, nI_toInt (by omega)]
theorem law_go (hled : LED l G) (hL : G.2.2.2.2.2.2.1 ≤ 3072) : ∀ (K i : Nat) (ad : Nat → Nat) (z : Nat) (n : Nat × Nat) (S : kSt), Inv S → G.2.2.2.2.2.2.1 ≤ i + 6 * K + 5 → i ≤ 4000 → n.1 + K ≤ 601024 → n.2 + 6 * K ≤ 7293034 → LOk l G (ad, z) n 23 (LV i) [] S := by
  intro K
  induction K with
  | zero =>
    intro i ad z n S hI hK hi h1 h2
    refine ow_iload 4 (kdL_0.at 13 rfl) rfl ?_
    refine ow_aload_n 0 (kdL_0.at 14 rfl) rfl rfl ?_
    refine ow_slenX (kdL_0.at 15 rfl) ?_
    refine ow_bipush (v := 6) (kdL_0.at 16 rfl) (by decide) ?_
    refine ow_isub (kdL_0.at 17 rfl) ?_
    have h := ow_icmp_gt (x := nI i) (y := Int32.ofNat G.2.2.2.2.2.2.1 - 6) (o1 := some ()) (o2 := some ()) (XX := XL) (QQ := QL) (d := (room_1, n.1, n.2, 601024, 7293034)) (l := l) (G := G) (E := (ad, z)) (lv := LV i) (st := []) (S := S) (tgt := 2131) (kdL_0.at 18 rfl) (by decide) (fun q => by
      refine ow_iconst (v := 1) (kdL_20.at 9 rfl) (by decide) ?_
      exact lk_ret (kdL_20.at 10 rfl) (by omega) (by omega)) (fun q => absurd ((lw_cmp hL hi).mpr (by omega)) q)
    rw [ite_self] at h
    exact h
  | succ K ih =>
    intro i ad z n S hI hK hi h1 h2
    refine ow_iload 4 (kdL_0.at 13 rfl) rfl ?_
    refine ow_aload_n 0 (kdL_0.at 14 rfl) rfl rfl ?_
    refine ow_slenX (kdL_0.at 15 rfl) ?_
    refine ow_bipush (v := 6) (kdL_0.at 16 rfl) (by decide) ?_
    refine ow_isub (kdL_0.at 17 rfl) ?_
    have h := ow_icmp_gt (x := nI i) (y := Int32.ofNat G.2.2.2.2.2.2.1 - 6) (o1 := some ()) (o2 := some ()) (XX := XL) (QQ := QL) (d := (room_1, n.1, n.2, 601024, 7293034)) (l := l) (G := G) (E := (ad, z)) (lv := LV i) (st := []) (S := S) (tgt := 2131) (kdL_0.at 18 rfl) (by decide) (fun q => by
      refine ow_iconst (v := 1) (kdL_20.at 9 rfl) (by decide) ?_
      exact lk_ret (kdL_20.at 10 rfl) (by omega) (by omega)) (fun q => by
      have hi6 : i + 6 ≤ G.2.2.2.2.2.2.1 := by
        have hq : ¬ ((G.2.2.2.2.2.2.1 : Int) - 6 < (i : Int)) := fun r => q ((lw_cmp hL hi).mpr r)
        omega
      refine ow_aload_n 0 (kdL_0.at 19 rfl) rfl rfl ?_
      refine ow_iload 4 (kdL_0.at 20 rfl) rfl ?_
      have e : (some () : Option Unit) = kgi (nI i) G.2.2.2.2.2.2.1 (some ()) := (kgi_nI (by omega) (by omega)).symm
      rw [e]
      refine ow_sld (kdL_0.at 21 rfl) ?_
      refine ow_bipush (v := 63) (kdL_0.at 22 rfl) (by decide) ?_
      refine ow_iand (kdL_0.at 23 rfl) ?_
      have kk : ∀ (ad2 : Nat → Nat) (z2 : Nat) (n2 : Nat × Nat) (S2 : kSt), Inv S2 → n2.1 ≤ n.1 + 1 → n2.2 ≤ n.2 + 6 → LOk l G (ad2, z2) n2 2125 (LV i) [] S2 := by
        intro ad2 z2 n2 S2 hI2 g1 g2
        refine ow_iinc (v := nI (i + 6)) (lv' := (4, .int (nI (i + 6))) :: [(0, .ref 3000), (1, .ref 0), (2, .ref 14), (3, .ref 89)]) 4 (kdL_20.at 7 rfl) rfl (nI_add i 6) (by decide) rfl ?_
        refine ow_sub (lv' := LV (i + 6)) [1, 2, 3, 4, 0] rfl ?_
        refine ow_goto (tgt := 23) (kdL_20.at 8 rfl) (by decide) ?_
        exact ih (i + 6) ad2 z2 n2 S2 hI2 (by omega) (by omega) (by omega) (by omega)
      exact ow_table (F := fun _ => some ()) (fun j => kTG.getD j 0) 2125 (kdL_0.at 24 rfl) (by decide) kTG_ok (kk ad z n S hI (by omega) (by omega)) (fun j hj => lw_case hled hI hi6 hL (by omega) (by omega) kk j (by omega)))
    rw [ite_self] at h
    exact h
end LAWL
