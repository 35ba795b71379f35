-- more rules: places that are written out, merged values
section MORE
variable {ρ : Type} {l : Launch} {G : kG} {E : kE} {Z : (Nat → Prop) → ρ → Array Value → State → Outcome → State → Prop} {M : kM} {d : kDD} {o : Option ρ} {pc pc' : Nat} {lv lv' : List (Nat × Value)} {st : List Value} {S : kSt}
theorem kgi_in {α : Type} {i : Int32} {n : Nat} {o : Option α} (h : vp_in i n) : kgi i n o = o := if_neg h
theorem ok_ialdK {k n j : Nat} {i : Int32} (hd : kD M pc .iaload 1 pc') (hs : kSH[k]? = some (1, 0, n)) (hi : ¬ (i < 0 ∨ n ≤ i.toNatClampNeg)) (hj : i.toNatClampNeg = j) (kk : kOk l G E Z M d o pc' lv (.int (S.1 k j) :: st) S) : kOk l G E Z M d o pc lv (.int i :: .ref k :: st) S := by
  subst hj
  have h := ok_iald (i := i) hd hs kk
  rw [kgi_in hi] at h
  exact h
theorem ok_iastK {k n j : Nat} {i x : Int32} (hd : kD M pc .iastore 1 pc') (hs : kSH[k]? = some (1, 0, n)) (hi : ¬ (i < 0 ∨ n ≤ i.toNatClampNeg)) (hj : i.toNatClampNeg = j) (kk : kOk l G E Z M d o pc' lv st (kuI S k j x)) : kOk l G E Z M d o pc lv (.int x :: .int i :: .ref k :: st) S := by
  subst hj
  have h := ok_iast (i := i) hd hs kk
  rw [kgi_in hi] at h
  exact h
theorem ok_ap {α : Type} {c : Prop} [Decidable c] {a b : α} {F : α → Option ρ} (k : kOk l G E Z M d (if c then knx a F else knx b F) pc lv st S) : kOk l G E Z M d (knx (if c then a else b) F) pc lv st S := by
  have h : knx (if c then a else b) F = if c then knx a F else knx b F := by
    split <;> rfl
  rw [h]
  exact k
end MORE
theorem sh_img : ∀ j, j < 3 → kSH[70 + j]? = some (1, 0, 36) := by decide +kernel
theorem sh_row : ∀ j, j < 16 → kSH[73 + j]? = some (1, 0, 36) := by decide +kernel
theorem kr_img : ∀ z j, j < 3 → kRf z 17 j = some (70 + j) := fun z j h => by simp [kRf, h]
theorem kr_row : ∀ z j, j < 16 → kRf z 43 j = some (73 + j) := fun z j h => by simp [kRf, h]
theorem sh_0 : kSH[0]? = some (0, 10, 19) := by decide +kernel
theorem sh_1 : kSH[1]? = some (0, 5, 17) := by decide +kernel
theorem sh_2 : kSH[2]? = some (0, 5, 17) := by decide +kernel
theorem sh_3 : kSH[3]? = some (0, 7, 11) := by decide +kernel
theorem sh_4 : kSH[4]? = some (0, 4, 4) := by decide +kernel
theorem sh_5 : kSH[5]? = some (0, 3, 3) := by decide +kernel
theorem sh_6 : kSH[6]? = some (0, 9, 6) := by decide +kernel
theorem sh_7 : kSH[7]? = some (0, 9, 6) := by decide +kernel
theorem sh_8 : kSH[8]? = some (0, 8, 4) := by decide +kernel
theorem sh_9 : kSH[9]? = some (0, 1, 5) := by decide +kernel
theorem sh_10 : kSH[10]? = some (0, 0, 7) := by decide +kernel
theorem sh_11 : kSH[11]? = some (0, 2, 3) := by decide +kernel
theorem sh_12 : kSH[12]? = some (0, 6, 2) := by decide +kernel
theorem sh_13 : kSH[13]? = some (0, 9, 6) := by decide +kernel
theorem sh_14 : kSH[14]? = some (0, 11, 42) := by decide +kernel
theorem sh_15 : kSH[15]? = some (1, 1, 900) := by decide +kernel
theorem sh_16 : kSH[16]? = some (1, 0, 5) := by decide +kernel
theorem sh_17 : kSH[17]? = some (1, 3, 3) := by decide +kernel
theorem sh_18 : kSH[18]? = some (1, 0, 5) := by decide +kernel
theorem sh_19 : kSH[19]? = some (1, 0, 5) := by decide +kernel
theorem sh_20 : kSH[20]? = some (1, 0, 5) := by decide +kernel
theorem sh_21 : kSH[21]? = some (1, 0, 5) := by decide +kernel
theorem sh_22 : kSH[22]? = some (1, 0, 25) := by decide +kernel
theorem sh_23 : kSH[23]? = some (1, 0, 4) := by decide +kernel
theorem sh_24 : kSH[24]? = some (1, 0, 4) := by decide +kernel
theorem sh_25 : kSH[25]? = some (1, 0, 8) := by decide +kernel
theorem sh_26 : kSH[26]? = some (1, 0, 8) := by decide +kernel
theorem sh_27 : kSH[27]? = some (1, 0, 8) := by decide +kernel
theorem sh_28 : kSH[28]? = some (1, 0, 5) := by decide +kernel
theorem sh_29 : kSH[29]? = some (1, 0, 5) := by decide +kernel
theorem sh_30 : kSH[30]? = some (1, 0, 5) := by decide +kernel
theorem sh_31 : kSH[31]? = some (1, 0, 5) := by decide +kernel
theorem sh_32 : kSH[32]? = some (1, 0, 25) := by decide +kernel
theorem sh_33 : kSH[33]? = some (1, 0, 4) := by decide +kernel
theorem sh_34 : kSH[34]? = some (1, 0, 4) := by decide +kernel
theorem sh_35 : kSH[35]? = some (1, 0, 8) := by decide +kernel
theorem sh_36 : kSH[36]? = some (1, 0, 8) := by decide +kernel
theorem sh_37 : kSH[37]? = some (1, 0, 8) := by decide +kernel
theorem sh_38 : kSH[38]? = some (1, 0, 5) := by decide +kernel
theorem sh_39 : kSH[39]? = some (1, 0, 5) := by decide +kernel
theorem sh_40 : kSH[40]? = some (1, 0, 5) := by decide +kernel
theorem sh_41 : kSH[41]? = some (1, 0, 5) := by decide +kernel
theorem sh_42 : kSH[42]? = some (1, 0, 25) := by decide +kernel
theorem sh_43 : kSH[43]? = some (1, 3, 16) := by decide +kernel
theorem sh_44 : kSH[44]? = some (1, 0, 900) := by decide +kernel
theorem sh_45 : kSH[45]? = some (1, 0, 900) := by decide +kernel
theorem sh_46 : kSH[46]? = some (1, 0, 4) := by decide +kernel
theorem sh_47 : kSH[47]? = some (1, 0, 4) := by decide +kernel
theorem sh_48 : kSH[48]? = some (1, 0, 16) := by decide +kernel
theorem sh_49 : kSH[49]? = some (1, 0, 5) := by decide +kernel
theorem sh_50 : kSH[50]? = some (1, 0, 32) := by decide +kernel
theorem sh_51 : kSH[51]? = some (1, 0, 32) := by decide +kernel
theorem sh_52 : kSH[52]? = some (1, 0, 5) := by decide +kernel
theorem sh_53 : kSH[53]? = some (1, 0, 5) := by decide +kernel
theorem sh_54 : kSH[54]? = some (1, 0, 5) := by decide +kernel
theorem sh_55 : kSH[55]? = some (1, 0, 900) := by decide +kernel
theorem sh_56 : kSH[56]? = some (1, 0, 8) := by decide +kernel
theorem sh_57 : kSH[57]? = some (1, 0, 95) := by decide +kernel
theorem sh_58 : kSH[58]? = some (1, 0, 95) := by decide +kernel
theorem sh_59 : kSH[59]? = some (1, 0, 36) := by decide +kernel
theorem sh_60 : kSH[60]? = some (1, 0, 36) := by decide +kernel
theorem sh_61 : kSH[61]? = some (1, 0, 36) := by decide +kernel
theorem sh_62 : kSH[62]? = some (1, 0, 576) := by decide +kernel
theorem sh_63 : kSH[63]? = some (1, 0, 108) := by decide +kernel
theorem sh_64 : kSH[64]? = some (1, 0, 2600) := by decide +kernel
theorem sh_65 : kSH[65]? = some (1, 0, 900) := by decide +kernel
theorem sh_66 : kSH[66]? = some (1, 0, 4) := by decide +kernel
theorem sh_67 : kSH[67]? = some (1, 0, 5) := by decide +kernel
theorem sh_68 : kSH[68]? = some (1, 0, 5) := by decide +kernel
theorem sh_69 : kSH[69]? = some (1, 0, 5) := by decide +kernel
theorem kr_0_0 : ∀ z, kRf z 0 0 = some 15 := fun _ => rfl
theorem kr_0_2 : ∀ z, kRf z 0 2 = some 1 := fun _ => rfl
theorem kr_0_3 : ∀ z, kRf z 0 3 = some 2 := fun _ => rfl
theorem kr_0_4 : ∀ z, kRf z 0 4 = some 3 := fun _ => rfl
theorem kr_0_6 : ∀ z, kRf z 0 6 = some 4 := fun _ => rfl
theorem kr_0_7 : ∀ z, kRf z 0 7 = some 5 := fun _ => rfl
theorem kr_0_8 : ∀ z, kRf z 0 8 = some 17 := fun _ => rfl
theorem kr_0_10 : ∀ z, kRf z 0 10 = some 6 := fun _ => rfl
theorem kr_0_11 : ∀ z, kRf z 0 11 = some 7 := fun _ => rfl
theorem kr_0_12 : ∀ z, kRf z 0 12 = some 16 := fun _ => rfl
theorem kr_0_13 : ∀ z, kRf z 0 13 = some 8 := fun _ => rfl
theorem kr_0_14 : ∀ z, kRf z 0 14 = some 9 := fun _ => rfl
theorem kr_0_15 : ∀ z, kRf z 0 15 = some 10 := fun _ => rfl
theorem kr_0_16 : ∀ z, kRf z 0 16 = some 11 := fun _ => rfl
theorem kr_0_17 : ∀ z, kRf z 0 17 = some 12 := fun _ => rfl
theorem kr_1_7 : ∀ z, kRf z 1 7 = some 18 := fun _ => rfl
theorem kr_1_8 : ∀ z, kRf z 1 8 = some 19 := fun _ => rfl
theorem kr_1_9 : ∀ z, kRf z 1 9 = some 20 := fun _ => rfl
theorem kr_1_10 : ∀ z, kRf z 1 10 = some 21 := fun _ => rfl
theorem kr_1_11 : ∀ z, kRf z 1 11 = some 22 := fun _ => rfl
theorem kr_1_12 : ∀ z, kRf z 1 12 = some 23 := fun _ => rfl
theorem kr_1_13 : ∀ z, kRf z 1 13 = some 24 := fun _ => rfl
theorem kr_1_14 : ∀ z, kRf z 1 14 = some 25 := fun _ => rfl
theorem kr_1_15 : ∀ z, kRf z 1 15 = some 26 := fun _ => rfl
theorem kr_1_16 : ∀ z, kRf z 1 16 = some 27 := fun _ => rfl
theorem kr_2_7 : ∀ z, kRf z 2 7 = some 28 := fun _ => rfl
theorem kr_2_8 : ∀ z, kRf z 2 8 = some 29 := fun _ => rfl
theorem kr_2_9 : ∀ z, kRf z 2 9 = some 30 := fun _ => rfl
theorem kr_2_10 : ∀ z, kRf z 2 10 = some 31 := fun _ => rfl
theorem kr_2_11 : ∀ z, kRf z 2 11 = some 32 := fun _ => rfl
theorem kr_2_12 : ∀ z, kRf z 2 12 = some 33 := fun _ => rfl
theorem kr_2_13 : ∀ z, kRf z 2 13 = some 34 := fun _ => rfl
theorem kr_2_14 : ∀ z, kRf z 2 14 = some 35 := fun _ => rfl
theorem kr_2_15 : ∀ z, kRf z 2 15 = some 36 := fun _ => rfl
theorem kr_2_16 : ∀ z, kRf z 2 16 = some 37 := fun _ => rfl
theorem kr_3_0 : ∀ z, kRf z 3 0 = some 15 := fun _ => rfl
theorem kr_3_7 : ∀ z, kRf z 3 7 = some 38 := fun _ => rfl
theorem kr_3_8 : ∀ z, kRf z 3 8 = some 39 := fun _ => rfl
theorem kr_4_1 : ∀ z, kRf z 4 1 = some 40 := fun _ => rfl
theorem kr_4_2 : ∀ z, kRf z 4 2 = some 41 := fun _ => rfl
theorem kr_4_3 : ∀ z, kRf z 4 3 = some 42 := fun _ => rfl
theorem kr_5_0 : ∀ z, kRf z 5 0 = some 43 := fun _ => rfl
theorem kr_8_0 : ∀ z, kRf z 8 0 = some 44 := fun _ => rfl
theorem kr_8_1 : ∀ z, kRf z 8 1 = some 45 := fun _ => rfl
theorem kr_9_0 : ∀ z, kRf z 9 0 = some 13 := fun _ => rfl
theorem kr_9_1 : ∀ z, kRf z 9 1 = some 46 := fun _ => rfl
theorem kr_9_2 : ∀ z, kRf z 9 2 = some 47 := fun _ => rfl
theorem kr_9_3 : ∀ z, kRf z 9 3 = some 48 := fun _ => rfl
theorem kr_10_1 : ∀ z, kRf z 10 1 = some 49 := fun _ => rfl
theorem kr_10_2 : ∀ z, kRf z 10 2 = some 50 := fun _ => rfl
theorem kr_10_3 : ∀ z, kRf z 10 3 = some 51 := fun _ => rfl
theorem kr_10_4 : ∀ z, kRf z 10 4 = some 52 := fun _ => rfl
theorem kr_10_5 : ∀ z, kRf z 10 5 = some 53 := fun _ => rfl
theorem kr_11_0 : ∀ z, kRf z 11 0 = some 54 := fun _ => rfl
theorem kr_14_1 : ∀ z, kRf z 14 1 = some 55 := fun _ => rfl
theorem kr_14_12 : ∀ z, kRf z 14 12 = some 56 := fun _ => rfl
theorem kr_14_15 : ∀ z, kRf z 14 15 = some 57 := fun _ => rfl
theorem kr_14_16 : ∀ z, kRf z 14 16 = some 58 := fun _ => rfl
theorem kr_14_17 : ∀ z, kRf z 14 17 = some 59 := fun _ => rfl
theorem kr_14_18 : ∀ z, kRf z 14 18 = some 60 := fun _ => rfl
theorem kr_14_19 : ∀ z, kRf z 14 19 = some 61 := fun _ => rfl
theorem kr_14_20 : ∀ z, kRf z 14 20 = some 62 := fun _ => rfl
theorem kr_14_21 : ∀ z, kRf z 14 21 = some 63 := fun _ => rfl
theorem kr_14_24 : ∀ z, kRf z 14 24 = some 64 := fun _ => rfl
theorem kr_14_25 : ∀ z, kRf z 14 25 = some 65 := fun _ => rfl
theorem kr_14_30 : ∀ z, kRf z 14 30 = some 66 := fun _ => rfl
theorem kr_14_34 : ∀ z, kRf z 14 34 = some 67 := fun _ => rfl
theorem kr_14_35 : ∀ z, kRf z 14 35 = some 68 := fun _ => rfl
theorem kr_14_38 : ∀ z, kRf z 14 38 = some 69 := fun _ => rfl
theorem kr_3_6 : ∀ z, kRf z 3 6 = some z := fun _ => rfl
theorem sh_89 : kSH[89]? = some (1, 2, 1) := by decide +kernel
def kFU : Nat := 1000000
theorem kac2 : Cond.native arraycopyName ∈ kT := kin3 139 (by decide +kernel) rfl
theorem kac3 : Cond.static arraycopyName ∈ kT := kin3 138 (by decide +kernel) rfl
theorem kac4 : Cond.initialized "java/lang/System" ∈ kT := kin1 19 (by decide +kernel) rfl
theorem kac_4_28 : Cond.methodLink kR4 28 arraycopyName ∈ kT := kin3 137 (by decide +kernel) rfl
theorem kac_10_390 : Cond.methodLink kR10 390 arraycopyName ∈ kT := kin5 106 (by decide +kernel) rfl
theorem kco_10_210 : Cond.constant kR10 210 (2000000000) ∈ kT := kin4 25 (by decide +kernel) rfl
theorem kco_10_302 : Cond.constant kR10 302 (-1000000) ∈ kT := kin4 198 (by decide +kernel) rfl
theorem kco_10_356 : Cond.constant kR10 356 (65536) ∈ kT := kin5 58 (by decide +kernel) rfl
theorem kco_10_363 : Cond.constant kR10 363 (65537) ∈ kT := kin5 66 (by decide +kernel) rfl
theorem kco_11_289 : Cond.constant kR11 289 (2000000000) ∈ kT := kin7 101 (by decide +kernel) rfl
theorem kco_11_342 : Cond.constant kR11 342 (-1000000) ∈ kT := kin8 9 (by decide +kernel) rfl
theorem kco_11_358 : Cond.constant kR11 358 (100000000) ∈ kT := kin8 41 (by decide +kernel) rfl
theorem kco_11_379 : Cond.constant kR11 379 (65536) ∈ kT := kin8 88 (by decide +kernel) rfl
theorem kco_11_380 : Cond.constant kR11 380 (65537) ∈ kT := kin8 89 (by decide +kernel) rfl
theorem kcl_10_337 : Cond.constantLong kR10 337 (-1) ∈ kT := kin5 35 (by decide +kernel) rfl
theorem kcl_10_378 : Cond.constantLong kR10 378 (100) ∈ kT := kin5 83 (by decide +kernel) rfl
theorem kst_7_98 : (kR7, 98, 0) ∈ kSi := by decide +kernel
theorem kst_7_103 : (kR7, 103, 1) ∈ kSi := by decide +kernel
theorem kst_7_105 : (kR7, 105, 2) ∈ kSi := by decide +kernel
theorem kst_7_107 : (kR7, 107, 3) ∈ kSi := by decide +kernel
theorem kst_7_109 : (kR7, 109, 4) ∈ kSi := by decide +kernel
theorem kst_7_111 : (kR7, 111, 5) ∈ kSi := by decide +kernel
theorem kst_7_133 : (kR7, 133, 6) ∈ kSi := by decide +kernel
theorem kst_7_143 : (kR7, 143, 7) ∈ kSi := by decide +kernel
theorem kst_7_113 : (kR7, 113, 8) ∈ kSi := by decide +kernel
theorem kst_7_117 : (kR7, 117, 9) ∈ kSi := by decide +kernel
theorem kst_7_119 : (kR7, 119, 10) ∈ kSi := by decide +kernel
theorem kst_7_121 : (kR7, 121, 11) ∈ kSi := by decide +kernel
theorem kst_7_168 : (kR7, 168, 12) ∈ kSi := by decide +kernel
theorem kst_7_173 : (kR7, 173, 13) ∈ kSi := by decide +kernel
theorem kst_7_184 : (kR7, 184, 14) ∈ kSi := by decide +kernel
theorem kst_7_210 : (kR7, 210, 15) ∈ kSi := by decide +kernel
theorem kst_11_128 : (kR11, 128, 0) ∈ kSi := by decide +kernel
theorem kst_11_208 : (kR11, 208, 6) ∈ kSi := by decide +kernel
theorem kst_11_214 : (kR11, 214, 7) ∈ kSi := by decide +kernel
theorem kst_11_130 : (kR11, 130, 1) ∈ kSi := by decide +kernel
theorem kst_11_132 : (kR11, 132, 2) ∈ kSi := by decide +kernel
theorem kst_11_134 : (kR11, 134, 3) ∈ kSi := by decide +kernel
theorem kst_11_136 : (kR11, 136, 4) ∈ kSi := by decide +kernel
theorem kst_11_138 : (kR11, 138, 5) ∈ kSi := by decide +kernel
theorem kst_11_220 : (kR11, 220, 8) ∈ kSi := by decide +kernel
theorem kst_11_222 : (kR11, 222, 9) ∈ kSi := by decide +kernel
theorem kst_11_224 : (kR11, 224, 10) ∈ kSi := by decide +kernel
theorem kst_11_226 : (kR11, 226, 11) ∈ kSi := by decide +kernel
theorem kst_11_228 : (kR11, 228, 12) ∈ kSi := by decide +kernel
theorem kst_11_230 : (kR11, 230, 13) ∈ kSi := by decide +kernel
theorem kst_11_235 : (kR11, 235, 14) ∈ kSi := by decide +kernel
theorem kst_11_237 : (kR11, 237, 15) ∈ kSi := by decide +kernel
