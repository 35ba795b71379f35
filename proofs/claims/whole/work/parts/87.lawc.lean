-- the law: its cases
section LAWC
variable {l : Launch} {G : kG} {E : kE} {n : Nat × Nat} {S : kSt} {i : Nat}
theorem case_0 (hI : Inv S) (hi : i + 6 ≤ G.2.2.2.2.2.2.1) (hL : G.2.2.2.2.2.2.1 ≤ 3072) (h1 : n.1 ≤ 601024) (h2 : n.2 ≤ 7293034) (kk : ∀ S2, Inv S2 → LOk l G E n 2125 (LV i) [] S2) : LOk l G E n 292 (LV i) [] S := by
  obtain ⟨r, S1, S2, e1, e2, hI2⟩ := A_feed hI (G.2.2.2.2.2.2.2 (i + 1)) (G.2.2.2.2.2.2.2 (i + 2)) (G.2.2.2.2.2.2.2 (i + 3)) (G.2.2.2.2.2.2.2 (i + 4)) (G.2.2.2.2.2.2.2 (i + 5))
  refine ow_aload_n 1 (kdL_0.at 25 rfl) rfl rfl ?_
  refine lk_arg (i := i) (j := 1) (kdL_0.at 26 rfl) (kdL_0.at 27 rfl) (kdL_0.at 28 rfl) (kdL_0.at 29 rfl) (kdL_0.at 30 rfl) (by decide) (by omega) hL ?_
  refine lk_arg (i := i) (j := 2) (kdL_0.at 31 rfl) (kdL_0.at 32 rfl) (kdL_0.at 33 rfl) (kdL_0.at 34 rfl) (kdL_0.at 35 rfl) (by decide) (by omega) hL ?_
  refine lk_arg (i := i) (j := 3) (kdL_0.at 36 rfl) (kdL_0.at 37 rfl) (kdL_0.at 38 rfl) (kdL_0.at 39 rfl) (kdL_0.at 40 rfl) (by decide) (by omega) hL ?_
  refine lk_arg (i := i) (j := 4) (kdL_0.at 41 rfl) (kdL_0.at 42 rfl) (kdL_0.at 43 rfl) (kdL_0.at 44 rfl) (kdL_0.at 45 rfl) (by decide) (by omega) hL ?_
  refine lk_arg (i := i) (j := 5) (kdL_0.at 46 rfl) (kdL_0.at 47 rfl) (kdL_0.at 48 rfl) (kdL_0.at 49 rfl) (kdL_0.at 50 rfl) (by decide) (by omega) hL ?_
  refine lk_cI (as := [.int (G.2.2.2.2.2.2.2 (i + 1)), .int (G.2.2.2.2.2.2.2 (i + 2)), .int (G.2.2.2.2.2.2.2 (i + 3)), .int (G.2.2.2.2.2.2.2 (i + 4)), .int (G.2.2.2.2.2.2.2 (i + 5))]) (st := []) (kdL_0.at 51 rfl) kcL_19 sh_0 rfl rfl (by decide) (ok_m10_feed (G.2.2.2.2.2.2.2 (i + 1)) (G.2.2.2.2.2.2.2 (i + 2)) (G.2.2.2.2.2.2.2 (i + 3)) (G.2.2.2.2.2.2.2 (i + 4)) (G.2.2.2.2.2.2.2 (i + 5)) S) e1 (by decide) rfl (by decide) h1 h2 ?_
  refine ow_aload_n 2 (kdL_0.at 52 rfl) rfl rfl ?_
  refine lk_arg (i := i) (j := 1) (kdL_0.at 53 rfl) (kdL_0.at 54 rfl) (kdL_0.at 55 rfl) (kdL_0.at 56 rfl) (kdL_0.at 57 rfl) (by decide) (by omega) hL ?_
  refine lk_arg (i := i) (j := 2) (kdL_0.at 58 rfl) (kdL_0.at 59 rfl) (kdL_0.at 60 rfl) (kdL_0.at 61 rfl) (kdL_0.at 62 rfl) (by decide) (by omega) hL ?_
  refine lk_arg (i := i) (j := 3) (kdL_0.at 63 rfl) (kdL_1.at 0 rfl) (kdL_1.at 1 rfl) (kdL_1.at 2 rfl) (kdL_1.at 3 rfl) (by decide) (by omega) hL ?_
  refine lk_arg (i := i) (j := 4) (kdL_1.at 4 rfl) (kdL_1.at 5 rfl) (kdL_1.at 6 rfl) (kdL_1.at 7 rfl) (kdL_1.at 8 rfl) (by decide) (by omega) hL ?_
  refine lk_arg (i := i) (j := 5) (kdL_1.at 9 rfl) (kdL_1.at 10 rfl) (kdL_1.at 11 rfl) (kdL_1.at 12 rfl) (kdL_1.at 13 rfl) (by decide) (by omega) hL ?_
  refine lk_cI (as := [.int (G.2.2.2.2.2.2.2 (i + 1)), .int (G.2.2.2.2.2.2.2 (i + 2)), .int (G.2.2.2.2.2.2.2 (i + 3)), .int (G.2.2.2.2.2.2.2 (i + 4)), .int (G.2.2.2.2.2.2.2 (i + 5))]) (st := [.int r]) (kdL_1.at 14 rfl) kcL_23 sh_14 rfl rfl (by decide) (ok_m11_feed (G.2.2.2.2.2.2.2 (i + 1)) (G.2.2.2.2.2.2.2 (i + 2)) (G.2.2.2.2.2.2.2 (i + 3)) (G.2.2.2.2.2.2.2 (i + 4)) (G.2.2.2.2.2.2.2 (i + 5)) S1) e2 (by decide) rfl (Nat.le_of_ble_eq_true rfl) h1 h2 ?_
  refine lk_eq (tgt := 2125) (kdL_1.at 15 rfl) (by decide) rfl ?_
  exact kk S2 hI2
theorem case_2 (hI : Inv S) (hi : i + 6 ≤ G.2.2.2.2.2.2.1) (hL : G.2.2.2.2.2.2.1 ≤ 3072) (h1 : n.1 ≤ 601024) (h2 : n.2 ≤ 7293034) (kk : ∀ S2, Inv S2 → LOk l G E n 2125 (LV i) [] S2) : LOk l G E n 390 (LV i) [] S := by
  obtain ⟨r, S1, S2, e1, e2, hI2⟩ := A_fault hI 
  refine ow_aload_n 1 (kdL_1.at 35 rfl) rfl rfl ?_
  refine lk_cI (as := []) (st := []) (kdL_1.at 36 rfl) kcL_28 sh_0 rfl rfl (by decide) (ok_m10_fault  S) e1 (by decide) rfl (by decide) h1 h2 ?_
  refine ow_aload_n 2 (kdL_1.at 37 rfl) rfl rfl ?_
  refine lk_cI (as := []) (st := [.int r]) (kdL_1.at 38 rfl) kcL_32 sh_14 rfl rfl (by decide) (ok_m11_fault  S1) e2 (by decide) rfl (Nat.le_of_ble_eq_true rfl) h1 h2 ?_
  refine lk_eq (tgt := 2125) (kdL_1.at 39 rfl) (by decide) rfl ?_
  exact kk S2 hI2
theorem case_3 (hI : Inv S) (hi : i + 6 ≤ G.2.2.2.2.2.2.1) (hL : G.2.2.2.2.2.2.1 ≤ 3072) (h1 : n.1 ≤ 601024) (h2 : n.2 ≤ 7293034) (kk : ∀ S2, Inv S2 → LOk l G E n 2125 (LV i) [] S2) : LOk l G E n 403 (LV i) [] S := by
  obtain ⟨r, S1, S2, e1, e2, hI2⟩ := A_where hI 
  refine ow_aload_n 1 (kdL_1.at 42 rfl) rfl rfl ?_
  refine lk_cI (as := []) (st := []) (kdL_1.at 43 rfl) kcL_33 sh_0 rfl rfl (by decide) (ok_m10_where  S) e1 (by decide) rfl (by decide) h1 h2 ?_
  refine ow_aload_n 2 (kdL_1.at 44 rfl) rfl rfl ?_
  refine lk_cI (as := []) (st := [.int r]) (kdL_1.at 45 rfl) kcL_36 sh_14 rfl rfl (by decide) (ok_m11_where  S1) e2 (by decide) rfl (Nat.le_of_ble_eq_true rfl) h1 h2 ?_
  refine lk_eq (tgt := 2125) (kdL_1.at 46 rfl) (by decide) rfl ?_
  exact kk S2 hI2
theorem case_4 (hI : Inv S) (hi : i + 6 ≤ G.2.2.2.2.2.2.1) (hL : G.2.2.2.2.2.2.1 ≤ 3072) (h1 : n.1 ≤ 601024) (h2 : n.2 ≤ 7293034) (kk : ∀ S2, Inv S2 → LOk l G E n 2125 (LV i) [] S2) : LOk l G E n 416 (LV i) [] S := by
  obtain ⟨r, S1, S2, e1, e2, hI2⟩ := A_pair hI (G.2.2.2.2.2.2.2 (i + 1)) (G.2.2.2.2.2.2.2 (i + 2))
  refine ow_aload_n 1 (kdL_1.at 49 rfl) rfl rfl ?_
  refine lk_arg (i := i) (j := 1) (kdL_1.at 50 rfl) (kdL_1.at 51 rfl) (kdL_1.at 52 rfl) (kdL_1.at 53 rfl) (kdL_1.at 54 rfl) (by decide) (by omega) hL ?_
  refine lk_arg (i := i) (j := 2) (kdL_1.at 55 rfl) (kdL_1.at 56 rfl) (kdL_1.at 57 rfl) (kdL_1.at 58 rfl) (kdL_1.at 59 rfl) (by decide) (by omega) hL ?_
  refine lk_cI (as := [.int (G.2.2.2.2.2.2.2 (i + 1)), .int (G.2.2.2.2.2.2.2 (i + 2))]) (st := []) (kdL_1.at 60 rfl) kcL_37 sh_0 rfl rfl (by decide) (ok_m10_pair (G.2.2.2.2.2.2.2 (i + 1)) (G.2.2.2.2.2.2.2 (i + 2)) S) e1 (by decide) rfl (by decide) h1 h2 ?_
  refine ow_aload_n 2 (kdL_1.at 61 rfl) rfl rfl ?_
  refine lk_arg (i := i) (j := 1) (kdL_1.at 62 rfl) (kdL_1.at 63 rfl) (kdL_2.at 0 rfl) (kdL_2.at 1 rfl) (kdL_2.at 2 rfl) (by decide) (by omega) hL ?_
  refine lk_arg (i := i) (j := 2) (kdL_2.at 3 rfl) (kdL_2.at 4 rfl) (kdL_2.at 5 rfl) (kdL_2.at 6 rfl) (kdL_2.at 7 rfl) (by decide) (by omega) hL ?_
  refine lk_cI (as := [.int (G.2.2.2.2.2.2.2 (i + 1)), .int (G.2.2.2.2.2.2.2 (i + 2))]) (st := [.int r]) (kdL_2.at 8 rfl) kcL_41 sh_14 rfl rfl (by decide) (ok_m11_pair (G.2.2.2.2.2.2.2 (i + 1)) (G.2.2.2.2.2.2.2 (i + 2)) S1) e2 (by decide) rfl (Nat.le_of_ble_eq_true rfl) h1 h2 ?_
  refine lk_eq (tgt := 2125) (kdL_2.at 9 rfl) (by decide) rfl ?_
  exact kk S2 hI2
theorem case_5 (hI : Inv S) (hi : i + 6 ≤ G.2.2.2.2.2.2.1) (hL : G.2.2.2.2.2.2.1 ≤ 3072) (h1 : n.1 ≤ 601024) (h2 : n.2 ≤ 7293034) (kk : ∀ S2, Inv S2 → LOk l G E n 2125 (LV i) [] S2) : LOk l G E n 453 (LV i) [] S := by
  obtain ⟨r, S1, S2, e1, e2, hI2⟩ := A_says hI (G.2.2.2.2.2.2.2 (i + 1)) (G.2.2.2.2.2.2.2 (i + 2))
  refine ow_aload_n 1 (kdL_2.at 12 rfl) rfl rfl ?_
  refine lk_arg (i := i) (j := 1) (kdL_2.at 13 rfl) (kdL_2.at 14 rfl) (kdL_2.at 15 rfl) (kdL_2.at 16 rfl) (kdL_2.at 17 rfl) (by decide) (by omega) hL ?_
  refine lk_arg (i := i) (j := 2) (kdL_2.at 18 rfl) (kdL_2.at 19 rfl) (kdL_2.at 20 rfl) (kdL_2.at 21 rfl) (kdL_2.at 22 rfl) (by decide) (by omega) hL ?_
  refine lk_cI (as := [.int (G.2.2.2.2.2.2.2 (i + 1)), .int (G.2.2.2.2.2.2.2 (i + 2))]) (st := []) (kdL_2.at 23 rfl) kcL_42 sh_0 rfl rfl (by decide) (ok_m10_says (G.2.2.2.2.2.2.2 (i + 1)) (G.2.2.2.2.2.2.2 (i + 2)) S) e1 (by decide) rfl (by decide) h1 h2 ?_
  refine ow_aload_n 2 (kdL_2.at 24 rfl) rfl rfl ?_
  refine lk_arg (i := i) (j := 1) (kdL_2.at 25 rfl) (kdL_2.at 26 rfl) (kdL_2.at 27 rfl) (kdL_2.at 28 rfl) (kdL_2.at 29 rfl) (by decide) (by omega) hL ?_
  refine lk_arg (i := i) (j := 2) (kdL_2.at 30 rfl) (kdL_2.at 31 rfl) (kdL_2.at 32 rfl) (kdL_2.at 33 rfl) (kdL_2.at 34 rfl) (by decide) (by omega) hL ?_
  refine lk_cI (as := [.int (G.2.2.2.2.2.2.2 (i + 1)), .int (G.2.2.2.2.2.2.2 (i + 2))]) (st := [.int r]) (kdL_2.at 35 rfl) kcL_45 sh_14 rfl rfl (by decide) (ok_m11_says (G.2.2.2.2.2.2.2 (i + 1)) (G.2.2.2.2.2.2.2 (i + 2)) S1) e2 (by decide) rfl (Nat.le_of_ble_eq_true rfl) h1 h2 ?_
  refine lk_eq (tgt := 2125) (kdL_2.at 36 rfl) (by decide) rfl ?_
  exact kk S2 hI2
theorem case_6 (hI : Inv S) (hi : i + 6 ≤ G.2.2.2.2.2.2.1) (hL : G.2.2.2.2.2.2.1 ≤ 3072) (h1 : n.1 ≤ 601024) (h2 : n.2 ≤ 7293034) (kk : ∀ S2, Inv S2 → LOk l G E n 2125 (LV i) [] S2) : LOk l G E n 490 (LV i) [] S := by
  obtain ⟨r, S1, S2, e1, e2, hI2⟩ := A_saysAll hI (G.2.2.2.2.2.2.2 (i + 1)) (G.2.2.2.2.2.2.2 (i + 2))
  refine ow_aload_n 1 (kdL_2.at 39 rfl) rfl rfl ?_
  refine lk_arg (i := i) (j := 1) (kdL_2.at 40 rfl) (kdL_2.at 41 rfl) (kdL_2.at 42 rfl) (kdL_2.at 43 rfl) (kdL_2.at 44 rfl) (by decide) (by omega) hL ?_
  refine lk_arg (i := i) (j := 2) (kdL_2.at 45 rfl) (kdL_2.at 46 rfl) (kdL_2.at 47 rfl) (kdL_2.at 48 rfl) (kdL_2.at 49 rfl) (by decide) (by omega) hL ?_
  refine lk_cI (as := [.int (G.2.2.2.2.2.2.2 (i + 1)), .int (G.2.2.2.2.2.2.2 (i + 2))]) (st := []) (kdL_2.at 50 rfl) kcL_46 sh_0 rfl rfl (by decide) (ok_m10_saysAll (G.2.2.2.2.2.2.2 (i + 1)) (G.2.2.2.2.2.2.2 (i + 2)) S) e1 (by decide) rfl (by decide) h1 h2 ?_
  refine ow_aload_n 2 (kdL_2.at 51 rfl) rfl rfl ?_
  refine lk_arg (i := i) (j := 1) (kdL_2.at 52 rfl) (kdL_2.at 53 rfl) (kdL_2.at 54 rfl) (kdL_2.at 55 rfl) (kdL_2.at 56 rfl) (by decide) (by omega) hL ?_
  refine lk_arg (i := i) (j := 2) (kdL_2.at 57 rfl) (kdL_2.at 58 rfl) (kdL_2.at 59 rfl) (kdL_2.at 60 rfl) (kdL_2.at 61 rfl) (by decide) (by omega) hL ?_
  refine lk_cI (as := [.int (G.2.2.2.2.2.2.2 (i + 1)), .int (G.2.2.2.2.2.2.2 (i + 2))]) (st := [.int r]) (kdL_2.at 62 rfl) kcL_49 sh_14 rfl rfl (by decide) (ok_m11_saysAll (G.2.2.2.2.2.2.2 (i + 1)) (G.2.2.2.2.2.2.2 (i + 2)) S1) e2 (by decide) rfl (Nat.le_of_ble_eq_true rfl) h1 h2 ?_
  refine lk_eq (tgt := 2125) (kdL_2.at 63 rfl) (by decide) rfl ?_
  exact kk S2 hI2
theorem case_7 (hI : Inv S) (hi : i + 6 ≤ G.2.2.2.2.2.2.1) (hL : G.2.2.2.2.2.2.1 ≤ 3072) (h1 : n.1 ≤ 601024) (h2 : n.2 ≤ 7293034) (kk : ∀ S2, Inv S2 → LOk l G E n 2125 (LV i) [] S2) : LOk l G E n 527 (LV i) [] S := by
  obtain ⟨r, S1, S2, e1, e2, hI2⟩ := A_moreIn hI (G.2.2.2.2.2.2.2 (i + 1))
  refine ow_aload_n 1 (kdL_3.at 2 rfl) rfl rfl ?_
  refine lk_arg (i := i) (j := 1) (kdL_3.at 3 rfl) (kdL_3.at 4 rfl) (kdL_3.at 5 rfl) (kdL_3.at 6 rfl) (kdL_3.at 7 rfl) (by decide) (by omega) hL ?_
  refine lk_cI (as := [.int (G.2.2.2.2.2.2.2 (i + 1))]) (st := []) (kdL_3.at 8 rfl) kcL_50 sh_0 rfl rfl (by decide) (ok_m10_moreIn (G.2.2.2.2.2.2.2 (i + 1)) S) e1 (by decide) rfl (by decide) h1 h2 ?_
  refine ow_aload_n 2 (kdL_3.at 9 rfl) rfl rfl ?_
  refine lk_arg (i := i) (j := 1) (kdL_3.at 10 rfl) (kdL_3.at 11 rfl) (kdL_3.at 12 rfl) (kdL_3.at 13 rfl) (kdL_3.at 14 rfl) (by decide) (by omega) hL ?_
  refine lk_cI (as := [.int (G.2.2.2.2.2.2.2 (i + 1))]) (st := [.int r]) (kdL_3.at 15 rfl) kcL_53 sh_14 rfl rfl (by decide) (ok_m11_moreIn (G.2.2.2.2.2.2.2 (i + 1)) S1) e2 (by decide) rfl (Nat.le_of_ble_eq_true rfl) h1 h2 ?_
  refine lk_eq (tgt := 2125) (kdL_3.at 16 rfl) (by decide) rfl ?_
  exact kk S2 hI2
theorem case_8 (hI : Inv S) (hi : i + 6 ≤ G.2.2.2.2.2.2.1) (hL : G.2.2.2.2.2.2.1 ≤ 3072) (h1 : n.1 ≤ 601024) (h2 : n.2 ≤ 7293034) (kk : ∀ S2, Inv S2 → LOk l G E n 2125 (LV i) [] S2) : LOk l G E n 552 (LV i) [] S := by
  obtain ⟨r, S1, S2, e1, e2, hI2⟩ := A_moreTimes hI (G.2.2.2.2.2.2.2 (i + 1)) (G.2.2.2.2.2.2.2 (i + 2))
  refine ow_aload_n 1 (kdL_3.at 19 rfl) rfl rfl ?_
  refine lk_arg (i := i) (j := 1) (kdL_3.at 20 rfl) (kdL_3.at 21 rfl) (kdL_3.at 22 rfl) (kdL_3.at 23 rfl) (kdL_3.at 24 rfl) (by decide) (by omega) hL ?_
  refine lk_arg (i := i) (j := 2) (kdL_3.at 25 rfl) (kdL_3.at 26 rfl) (kdL_3.at 27 rfl) (kdL_3.at 28 rfl) (kdL_3.at 29 rfl) (by decide) (by omega) hL ?_
  refine lk_cI (as := [.int (G.2.2.2.2.2.2.2 (i + 1)), .int (G.2.2.2.2.2.2.2 (i + 2))]) (st := []) (kdL_3.at 30 rfl) kcL_54 sh_0 rfl rfl (by decide) (ok_m10_moreTimes (G.2.2.2.2.2.2.2 (i + 1)) (G.2.2.2.2.2.2.2 (i + 2)) S) e1 (by decide) rfl (by decide) h1 h2 ?_
  refine ow_aload_n 2 (kdL_3.at 31 rfl) rfl rfl ?_
  refine lk_arg (i := i) (j := 1) (kdL_3.at 32 rfl) (kdL_3.at 33 rfl) (kdL_3.at 34 rfl) (kdL_3.at 35 rfl) (kdL_3.at 36 rfl) (by decide) (by omega) hL ?_
  refine lk_arg (i := i) (j := 2) (kdL_3.at 37 rfl) (kdL_3.at 38 rfl) (kdL_3.at 39 rfl) (kdL_3.at 40 rfl) (kdL_3.at 41 rfl) (by decide) (by omega) hL ?_
  refine lk_cI (as := [.int (G.2.2.2.2.2.2.2 (i + 1)), .int (G.2.2.2.2.2.2.2 (i + 2))]) (st := [.int r]) (kdL_3.at 42 rfl) kcL_57 sh_14 rfl rfl (by decide) (ok_m11_moreTimes (G.2.2.2.2.2.2.2 (i + 1)) (G.2.2.2.2.2.2.2 (i + 2)) S1) e2 (by decide) rfl (Nat.le_of_ble_eq_true rfl) h1 h2 ?_
  refine lk_eq (tgt := 2125) (kdL_3.at 43 rfl) (by decide) rfl ?_
  exact kk S2 hI2
theorem case_9 (hI : Inv S) (hi : i + 6 ≤ G.2.2.2.2.2.2.1) (hL : G.2.2.2.2.2.2.1 ≤ 3072) (h1 : n.1 ≤ 601024) (h2 : n.2 ≤ 7293034) (kk : ∀ S2, Inv S2 → LOk l G E n 2125 (LV i) [] S2) : LOk l G E n 589 (LV i) [] S := by
  obtain ⟨r, S1, S2, e1, e2, hI2⟩ := A_settles hI (G.2.2.2.2.2.2.2 (i + 1))
  refine ow_aload_n 1 (kdL_3.at 46 rfl) rfl rfl ?_
  refine lk_arg (i := i) (j := 1) (kdL_3.at 47 rfl) (kdL_3.at 48 rfl) (kdL_3.at 49 rfl) (kdL_3.at 50 rfl) (kdL_3.at 51 rfl) (by decide) (by omega) hL ?_
  refine lk_cI (as := [.int (G.2.2.2.2.2.2.2 (i + 1))]) (st := []) (kdL_3.at 52 rfl) kcL_58 sh_0 rfl rfl (by decide) (ok_m10_settles (G.2.2.2.2.2.2.2 (i + 1)) S) e1 (by decide) rfl (by decide) h1 h2 ?_
  refine ow_aload_n 2 (kdL_3.at 53 rfl) rfl rfl ?_
  refine lk_arg (i := i) (j := 1) (kdL_3.at 54 rfl) (kdL_3.at 55 rfl) (kdL_3.at 56 rfl) (kdL_3.at 57 rfl) (kdL_3.at 58 rfl) (by decide) (by omega) hL ?_
  refine lk_cI (as := [.int (G.2.2.2.2.2.2.2 (i + 1))]) (st := [.int r]) (kdL_3.at 59 rfl) kcL_61 sh_14 rfl rfl (by decide) (ok_m11_settles (G.2.2.2.2.2.2.2 (i + 1)) S1) e2 (by decide) rfl (Nat.le_of_ble_eq_true rfl) h1 h2 ?_
  refine lk_eq (tgt := 2125) (kdL_3.at 60 rfl) (by decide) rfl ?_
  exact kk S2 hI2
theorem case_10 (hI : Inv S) (hi : i + 6 ≤ G.2.2.2.2.2.2.1) (hL : G.2.2.2.2.2.2.1 ≤ 3072) (h1 : n.1 ≤ 601024) (h2 : n.2 ≤ 7293034) (kk : ∀ S2, Inv S2 → LOk l G E n 2125 (LV i) [] S2) : LOk l G E n 614 (LV i) [] S := by
  obtain ⟨r, S1, S2, e1, e2, hI2⟩ := A_round hI (G.2.2.2.2.2.2.2 (i + 1))
  refine ow_aload_n 1 (kdL_3.at 63 rfl) rfl rfl ?_
  refine lk_arg (i := i) (j := 1) (kdL_4.at 0 rfl) (kdL_4.at 1 rfl) (kdL_4.at 2 rfl) (kdL_4.at 3 rfl) (kdL_4.at 4 rfl) (by decide) (by omega) hL ?_
  refine lk_cI (as := [.int (G.2.2.2.2.2.2.2 (i + 1))]) (st := []) (kdL_4.at 5 rfl) kcL_62 sh_0 rfl rfl (by decide) (ok_m10_round (G.2.2.2.2.2.2.2 (i + 1)) S) e1 (by decide) rfl (by decide) h1 h2 ?_
  refine ow_aload_n 2 (kdL_4.at 6 rfl) rfl rfl ?_
  refine lk_arg (i := i) (j := 1) (kdL_4.at 7 rfl) (kdL_4.at 8 rfl) (kdL_4.at 9 rfl) (kdL_4.at 10 rfl) (kdL_4.at 11 rfl) (by decide) (by omega) hL ?_
  refine lk_cI (as := [.int (G.2.2.2.2.2.2.2 (i + 1))]) (st := [.int r]) (kdL_4.at 12 rfl) kcL_65 sh_14 rfl rfl (by decide) (ok_m11_round (G.2.2.2.2.2.2.2 (i + 1)) S1) e2 (by decide) rfl (Nat.le_of_ble_eq_true rfl) h1 h2 ?_
  refine lk_eq (tgt := 2125) (kdL_4.at 13 rfl) (by decide) rfl ?_
  exact kk S2 hI2
theorem case_11 (hI : Inv S) (hi : i + 6 ≤ G.2.2.2.2.2.2.1) (hL : G.2.2.2.2.2.2.1 ≤ 3072) (h1 : n.1 ≤ 601024) (h2 : n.2 ≤ 7293034) (kk : ∀ S2, Inv S2 → LOk l G E n 2125 (LV i) [] S2) : LOk l G E n 639 (LV i) [] S := by
  obtain ⟨r, S1, S2, e1, e2, hI2⟩ := A_saysLate hI (G.2.2.2.2.2.2.2 (i + 1)) (G.2.2.2.2.2.2.2 (i + 2))
  refine ow_aload_n 1 (kdL_4.at 16 rfl) rfl rfl ?_
  refine lk_arg (i := i) (j := 1) (kdL_4.at 17 rfl) (kdL_4.at 18 rfl) (kdL_4.at 19 rfl) (kdL_4.at 20 rfl) (kdL_4.at 21 rfl) (by decide) (by omega) hL ?_
  refine lk_arg (i := i) (j := 2) (kdL_4.at 22 rfl) (kdL_4.at 23 rfl) (kdL_4.at 24 rfl) (kdL_4.at 25 rfl) (kdL_4.at 26 rfl) (by decide) (by omega) hL ?_
  refine lk_cI (as := [.int (G.2.2.2.2.2.2.2 (i + 1)), .int (G.2.2.2.2.2.2.2 (i + 2))]) (st := []) (kdL_4.at 27 rfl) kcL_66 sh_0 rfl rfl (by decide) (ok_m10_saysLate (G.2.2.2.2.2.2.2 (i + 1)) (G.2.2.2.2.2.2.2 (i + 2)) S) e1 (by decide) rfl (by decide) h1 h2 ?_
  refine ow_aload_n 2 (kdL_4.at 28 rfl) rfl rfl ?_
  refine lk_arg (i := i) (j := 1) (kdL_4.at 29 rfl) (kdL_4.at 30 rfl) (kdL_4.at 31 rfl) (kdL_4.at 32 rfl) (kdL_4.at 33 rfl) (by decide) (by omega) hL ?_
  refine lk_arg (i := i) (j := 2) (kdL_4.at 34 rfl) (kdL_4.at 35 rfl) (kdL_4.at 36 rfl) (kdL_4.at 37 rfl) (kdL_4.at 38 rfl) (by decide) (by omega) hL ?_
  refine lk_cI (as := [.int (G.2.2.2.2.2.2.2 (i + 1)), .int (G.2.2.2.2.2.2.2 (i + 2))]) (st := [.int r]) (kdL_4.at 39 rfl) kcL_69 sh_14 rfl rfl (by decide) (ok_m11_saysLate (G.2.2.2.2.2.2.2 (i + 1)) (G.2.2.2.2.2.2.2 (i + 2)) S1) e2 (by decide) rfl (Nat.le_of_ble_eq_true rfl) h1 h2 ?_
  refine lk_eq (tgt := 2125) (kdL_4.at 40 rfl) (by decide) rfl ?_
  exact kk S2 hI2
theorem case_12 (hI : Inv S) (hi : i + 6 ≤ G.2.2.2.2.2.2.1) (hL : G.2.2.2.2.2.2.1 ≤ 3072) (h1 : n.1 ≤ 601024) (h2 : n.2 ≤ 7293034) (kk : ∀ S2, Inv S2 → LOk l G E n 2125 (LV i) [] S2) : LOk l G E n 676 (LV i) [] S := by
  obtain ⟨r, S1, S2, e1, e2, hI2⟩ := A_roundMost hI (G.2.2.2.2.2.2.2 (i + 1))
  refine ow_aload_n 1 (kdL_4.at 43 rfl) rfl rfl ?_
  refine lk_arg (i := i) (j := 1) (kdL_4.at 44 rfl) (kdL_4.at 45 rfl) (kdL_4.at 46 rfl) (kdL_4.at 47 rfl) (kdL_4.at 48 rfl) (by decide) (by omega) hL ?_
  refine lk_cI (as := [.int (G.2.2.2.2.2.2.2 (i + 1))]) (st := []) (kdL_4.at 49 rfl) kcL_70 sh_0 rfl rfl (by decide) (ok_m10_roundMost (G.2.2.2.2.2.2.2 (i + 1)) S) e1 (by decide) rfl (by decide) h1 h2 ?_
  refine ow_aload_n 2 (kdL_4.at 50 rfl) rfl rfl ?_
  refine lk_arg (i := i) (j := 1) (kdL_4.at 51 rfl) (kdL_4.at 52 rfl) (kdL_4.at 53 rfl) (kdL_4.at 54 rfl) (kdL_4.at 55 rfl) (by decide) (by omega) hL ?_
  refine lk_cI (as := [.int (G.2.2.2.2.2.2.2 (i + 1))]) (st := [.int r]) (kdL_4.at 56 rfl) kcL_73 sh_14 rfl rfl (by decide) (ok_m11_roundMost (G.2.2.2.2.2.2.2 (i + 1)) S1) e2 (by decide) rfl (Nat.le_of_ble_eq_true rfl) h1 h2 ?_
  refine lk_eq (tgt := 2125) (kdL_4.at 57 rfl) (by decide) rfl ?_
  exact kk S2 hI2
theorem case_13 (hI : Inv S) (hi : i + 6 ≤ G.2.2.2.2.2.2.1) (hL : G.2.2.2.2.2.2.1 ≤ 3072) (h1 : n.1 ≤ 601024) (h2 : n.2 ≤ 7293034) (kk : ∀ S2, Inv S2 → LOk l G E n 2125 (LV i) [] S2) : LOk l G E n 701 (LV i) [] S := by
  obtain ⟨r, S1, S2, e1, e2, hI2⟩ := A_roundLeast hI (G.2.2.2.2.2.2.2 (i + 1))
  refine ow_aload_n 1 (kdL_4.at 60 rfl) rfl rfl ?_
  refine lk_arg (i := i) (j := 1) (kdL_4.at 61 rfl) (kdL_4.at 62 rfl) (kdL_4.at 63 rfl) (kdL_5.at 0 rfl) (kdL_5.at 1 rfl) (by decide) (by omega) hL ?_
  refine lk_cI (as := [.int (G.2.2.2.2.2.2.2 (i + 1))]) (st := []) (kdL_5.at 2 rfl) kcL_74 sh_0 rfl rfl (by decide) (ok_m10_roundLeast (G.2.2.2.2.2.2.2 (i + 1)) S) e1 (by decide) rfl (by decide) h1 h2 ?_
  refine ow_aload_n 2 (kdL_5.at 3 rfl) rfl rfl ?_
  refine lk_arg (i := i) (j := 1) (kdL_5.at 4 rfl) (kdL_5.at 5 rfl) (kdL_5.at 6 rfl) (kdL_5.at 7 rfl) (kdL_5.at 8 rfl) (by decide) (by omega) hL ?_
  refine lk_cI (as := [.int (G.2.2.2.2.2.2.2 (i + 1))]) (st := [.int r]) (kdL_5.at 9 rfl) kcL_77 sh_14 rfl rfl (by decide) (ok_m11_roundLeast (G.2.2.2.2.2.2.2 (i + 1)) S1) e2 (by decide) rfl (Nat.le_of_ble_eq_true rfl) h1 h2 ?_
  refine lk_eq (tgt := 2125) (kdL_5.at 10 rfl) (by decide) rfl ?_
  exact kk S2 hI2
theorem case_14 (hI : Inv S) (hi : i + 6 ≤ G.2.2.2.2.2.2.1) (hL : G.2.2.2.2.2.2.1 ≤ 3072) (h1 : n.1 ≤ 601024) (h2 : n.2 ≤ 7293034) (kk : ∀ S2, Inv S2 → LOk l G E n 2125 (LV i) [] S2) : LOk l G E n 726 (LV i) [] S := by
  obtain ⟨r, S1, S2, e1, e2, hI2⟩ := A_turnsAbout hI (G.2.2.2.2.2.2.2 (i + 1))
  refine ow_aload_n 1 (kdL_5.at 13 rfl) rfl rfl ?_
  refine lk_arg (i := i) (j := 1) (kdL_5.at 14 rfl) (kdL_5.at 15 rfl) (kdL_5.at 16 rfl) (kdL_5.at 17 rfl) (kdL_5.at 18 rfl) (by decide) (by omega) hL ?_
  refine lk_cI (as := [.int (G.2.2.2.2.2.2.2 (i + 1))]) (st := []) (kdL_5.at 19 rfl) kcL_78 sh_0 rfl rfl (by decide) (ok_m10_turnsAbout (G.2.2.2.2.2.2.2 (i + 1)) S) e1 (by decide) rfl (by decide) h1 h2 ?_
  refine ow_aload_n 2 (kdL_5.at 20 rfl) rfl rfl ?_
  refine lk_arg (i := i) (j := 1) (kdL_5.at 21 rfl) (kdL_5.at 22 rfl) (kdL_5.at 23 rfl) (kdL_5.at 24 rfl) (kdL_5.at 25 rfl) (by decide) (by omega) hL ?_
  refine lk_cI (as := [.int (G.2.2.2.2.2.2.2 (i + 1))]) (st := [.int r]) (kdL_5.at 26 rfl) kcL_81 sh_14 rfl rfl (by decide) (ok_m11_turnsAbout (G.2.2.2.2.2.2.2 (i + 1)) S1) e2 (by decide) rfl (Nat.le_of_ble_eq_true rfl) h1 h2 ?_
  refine lk_eq (tgt := 2125) (kdL_5.at 27 rfl) (by decide) rfl ?_
  exact kk S2 hI2
theorem case_15 (hI : Inv S) (hi : i + 6 ≤ G.2.2.2.2.2.2.1) (hL : G.2.2.2.2.2.2.1 ≤ 3072) (h1 : n.1 ≤ 601024) (h2 : n.2 ≤ 7293034) (kk : ∀ S2, Inv S2 → LOk l G E n 2125 (LV i) [] S2) : LOk l G E n 751 (LV i) [] S := by
  obtain ⟨r, S1, S2, e1, e2, hI2⟩ := A_alikeIn hI (G.2.2.2.2.2.2.2 (i + 1)) (G.2.2.2.2.2.2.2 (i + 2))
  refine ow_aload_n 1 (kdL_5.at 30 rfl) rfl rfl ?_
  refine lk_arg (i := i) (j := 1) (kdL_5.at 31 rfl) (kdL_5.at 32 rfl) (kdL_5.at 33 rfl) (kdL_5.at 34 rfl) (kdL_5.at 35 rfl) (by decide) (by omega) hL ?_
  refine lk_arg (i := i) (j := 2) (kdL_5.at 36 rfl) (kdL_5.at 37 rfl) (kdL_5.at 38 rfl) (kdL_5.at 39 rfl) (kdL_5.at 40 rfl) (by decide) (by omega) hL ?_
  refine lk_cI (as := [.int (G.2.2.2.2.2.2.2 (i + 1)), .int (G.2.2.2.2.2.2.2 (i + 2))]) (st := []) (kdL_5.at 41 rfl) kcL_82 sh_0 rfl rfl (by decide) (ok_m10_alikeIn (G.2.2.2.2.2.2.2 (i + 1)) (G.2.2.2.2.2.2.2 (i + 2)) S) e1 (by decide) rfl (by decide) h1 h2 ?_
  refine ow_aload_n 2 (kdL_5.at 42 rfl) rfl rfl ?_
  refine lk_arg (i := i) (j := 1) (kdL_5.at 43 rfl) (kdL_5.at 44 rfl) (kdL_5.at 45 rfl) (kdL_5.at 46 rfl) (kdL_5.at 47 rfl) (by decide) (by omega) hL ?_
  refine lk_arg (i := i) (j := 2) (kdL_5.at 48 rfl) (kdL_5.at 49 rfl) (kdL_5.at 50 rfl) (kdL_5.at 51 rfl) (kdL_5.at 52 rfl) (by decide) (by omega) hL ?_
  refine lk_cI (as := [.int (G.2.2.2.2.2.2.2 (i + 1)), .int (G.2.2.2.2.2.2.2 (i + 2))]) (st := [.int r]) (kdL_5.at 53 rfl) kcL_85 sh_14 rfl rfl (by decide) (ok_m11_alikeIn (G.2.2.2.2.2.2.2 (i + 1)) (G.2.2.2.2.2.2.2 (i + 2)) S1) e2 (by decide) rfl (Nat.le_of_ble_eq_true rfl) h1 h2 ?_
  refine lk_eq (tgt := 2125) (kdL_5.at 54 rfl) (by decide) rfl ?_
  exact kk S2 hI2
theorem case_16 (hI : Inv S) (hi : i + 6 ≤ G.2.2.2.2.2.2.1) (hL : G.2.2.2.2.2.2.1 ≤ 3072) (h1 : n.1 ≤ 601024) (h2 : n.2 ≤ 7293034) (kk : ∀ S2, Inv S2 → LOk l G E n 2125 (LV i) [] S2) : LOk l G E n 788 (LV i) [] S := by
  obtain ⟨r, S1, S2, e1, e2, hI2⟩ := A_loudest hI (G.2.2.2.2.2.2.2 (i + 1))
  refine ow_aload_n 1 (kdL_5.at 57 rfl) rfl rfl ?_
  refine lk_arg (i := i) (j := 1) (kdL_5.at 58 rfl) (kdL_5.at 59 rfl) (kdL_5.at 60 rfl) (kdL_5.at 61 rfl) (kdL_5.at 62 rfl) (by decide) (by omega) hL ?_
  refine lk_cI (as := [.int (G.2.2.2.2.2.2.2 (i + 1))]) (st := []) (kdL_5.at 63 rfl) kcL_86 sh_0 rfl rfl (by decide) (ok_m10_loudest (G.2.2.2.2.2.2.2 (i + 1)) S) e1 (by decide) rfl (by decide) h1 h2 ?_
  refine ow_aload_n 2 (kdL_6.at 0 rfl) rfl rfl ?_
  refine lk_arg (i := i) (j := 1) (kdL_6.at 1 rfl) (kdL_6.at 2 rfl) (kdL_6.at 3 rfl) (kdL_6.at 4 rfl) (kdL_6.at 5 rfl) (by decide) (by omega) hL ?_
  refine lk_cI (as := [.int (G.2.2.2.2.2.2.2 (i + 1))]) (st := [.int r]) (kdL_6.at 6 rfl) kcL_89 sh_14 rfl rfl (by decide) (ok_m11_loudest (G.2.2.2.2.2.2.2 (i + 1)) S1) e2 (by decide) rfl (Nat.le_of_ble_eq_true rfl) h1 h2 ?_
  refine lk_eq (tgt := 2125) (kdL_6.at 7 rfl) (by decide) rfl ?_
  exact kk S2 hI2
theorem case_17 (hI : Inv S) (hi : i + 6 ≤ G.2.2.2.2.2.2.1) (hL : G.2.2.2.2.2.2.1 ≤ 3072) (h1 : n.1 ≤ 601024) (h2 : n.2 ≤ 7293034) (kk : ∀ S2, Inv S2 → LOk l G E n 2125 (LV i) [] S2) : LOk l G E n 813 (LV i) [] S := by
  obtain ⟨r, S1, S2, e1, e2, hI2⟩ := A_overtakes hI (G.2.2.2.2.2.2.2 (i + 1)) (G.2.2.2.2.2.2.2 (i + 2))
  refine ow_aload_n 1 (kdL_6.at 10 rfl) rfl rfl ?_
  refine lk_arg (i := i) (j := 1) (kdL_6.at 11 rfl) (kdL_6.at 12 rfl) (kdL_6.at 13 rfl) (kdL_6.at 14 rfl) (kdL_6.at 15 rfl) (by decide) (by omega) hL ?_
  refine lk_arg (i := i) (j := 2) (kdL_6.at 16 rfl) (kdL_6.at 17 rfl) (kdL_6.at 18 rfl) (kdL_6.at 19 rfl) (kdL_6.at 20 rfl) (by decide) (by omega) hL ?_
  refine lk_cI (as := [.int (G.2.2.2.2.2.2.2 (i + 1)), .int (G.2.2.2.2.2.2.2 (i + 2))]) (st := []) (kdL_6.at 21 rfl) kcL_90 sh_0 rfl rfl (by decide) (ok_m10_overtakes (G.2.2.2.2.2.2.2 (i + 1)) (G.2.2.2.2.2.2.2 (i + 2)) S) e1 (by decide) rfl (by decide) h1 h2 ?_
  refine ow_aload_n 2 (kdL_6.at 22 rfl) rfl rfl ?_
  refine lk_arg (i := i) (j := 1) (kdL_6.at 23 rfl) (kdL_6.at 24 rfl) (kdL_6.at 25 rfl) (kdL_6.at 26 rfl) (kdL_6.at 27 rfl) (by decide) (by omega) hL ?_
  refine lk_arg (i := i) (j := 2) (kdL_6.at 28 rfl) (kdL_6.at 29 rfl) (kdL_6.at 30 rfl) (kdL_6.at 31 rfl) (kdL_6.at 32 rfl) (by decide) (by omega) hL ?_
  refine lk_cI (as := [.int (G.2.2.2.2.2.2.2 (i + 1)), .int (G.2.2.2.2.2.2.2 (i + 2))]) (st := [.int r]) (kdL_6.at 33 rfl) kcL_93 sh_14 rfl rfl (by decide) (ok_m11_overtakes (G.2.2.2.2.2.2.2 (i + 1)) (G.2.2.2.2.2.2.2 (i + 2)) S1) e2 (by decide) rfl (Nat.le_of_ble_eq_true rfl) h1 h2 ?_
  refine lk_eq (tgt := 2125) (kdL_6.at 34 rfl) (by decide) rfl ?_
  exact kk S2 hI2
theorem case_18 (hI : Inv S) (hi : i + 6 ≤ G.2.2.2.2.2.2.1) (hL : G.2.2.2.2.2.2.1 ≤ 3072) (h1 : n.1 ≤ 601024) (h2 : n.2 ≤ 7293034) (kk : ∀ S2, Inv S2 → LOk l G E n 2125 (LV i) [] S2) : LOk l G E n 850 (LV i) [] S := by
  obtain ⟨r, S1, S2, e1, e2, hI2⟩ := A_widest hI (G.2.2.2.2.2.2.2 (i + 1))
  refine ow_aload_n 1 (kdL_6.at 37 rfl) rfl rfl ?_
  refine lk_arg (i := i) (j := 1) (kdL_6.at 38 rfl) (kdL_6.at 39 rfl) (kdL_6.at 40 rfl) (kdL_6.at 41 rfl) (kdL_6.at 42 rfl) (by decide) (by omega) hL ?_
  refine lk_cI (as := [.int (G.2.2.2.2.2.2.2 (i + 1))]) (st := []) (kdL_6.at 43 rfl) kcL_94 sh_0 rfl rfl (by decide) (ok_m10_widest (G.2.2.2.2.2.2.2 (i + 1)) S) e1 (by decide) rfl (by decide) h1 h2 ?_
  refine ow_aload_n 2 (kdL_6.at 44 rfl) rfl rfl ?_
  refine lk_arg (i := i) (j := 1) (kdL_6.at 45 rfl) (kdL_6.at 46 rfl) (kdL_6.at 47 rfl) (kdL_6.at 48 rfl) (kdL_6.at 49 rfl) (by decide) (by omega) hL ?_
  refine lk_cI (as := [.int (G.2.2.2.2.2.2.2 (i + 1))]) (st := [.int r]) (kdL_6.at 50 rfl) kcL_97 sh_14 rfl rfl (by decide) (ok_m11_widest (G.2.2.2.2.2.2.2 (i + 1)) S1) e2 (by decide) rfl (Nat.le_of_ble_eq_true rfl) h1 h2 ?_
  refine lk_eq (tgt := 2125) (kdL_6.at 51 rfl) (by decide) rfl ?_
  exact kk S2 hI2
theorem case_19 (hI : Inv S) (hi : i + 6 ≤ G.2.2.2.2.2.2.1) (hL : G.2.2.2.2.2.2.1 ≤ 3072) (h1 : n.1 ≤ 601024) (h2 : n.2 ≤ 7293034) (kk : ∀ S2, Inv S2 → LOk l G E n 2125 (LV i) [] S2) : LOk l G E n 875 (LV i) [] S := by
  obtain ⟨r, S1, S2, e1, e2, hI2⟩ := A_sumAll hI (G.2.2.2.2.2.2.2 (i + 1))
  refine ow_aload_n 1 (kdL_6.at 54 rfl) rfl rfl ?_
  refine lk_arg (i := i) (j := 1) (kdL_6.at 55 rfl) (kdL_6.at 56 rfl) (kdL_6.at 57 rfl) (kdL_6.at 58 rfl) (kdL_6.at 59 rfl) (by decide) (by omega) hL ?_
  refine lk_cI (as := [.int (G.2.2.2.2.2.2.2 (i + 1))]) (st := []) (kdL_6.at 60 rfl) kcL_98 sh_0 rfl rfl (by decide) (ok_m10_sumAll (G.2.2.2.2.2.2.2 (i + 1)) S) e1 (by decide) rfl (by decide) h1 h2 ?_
  refine ow_aload_n 2 (kdL_6.at 61 rfl) rfl rfl ?_
  refine lk_arg (i := i) (j := 1) (kdL_6.at 62 rfl) (kdL_6.at 63 rfl) (kdL_7.at 0 rfl) (kdL_7.at 1 rfl) (kdL_7.at 2 rfl) (by decide) (by omega) hL ?_
  refine lk_cI (as := [.int (G.2.2.2.2.2.2.2 (i + 1))]) (st := [.int r]) (kdL_7.at 3 rfl) kcL_101 sh_14 rfl rfl (by decide) (ok_m11_sumAll (G.2.2.2.2.2.2.2 (i + 1)) S1) e2 (by decide) rfl (Nat.le_of_ble_eq_true rfl) h1 h2 ?_
  refine lk_eq (tgt := 2125) (kdL_7.at 4 rfl) (by decide) rfl ?_
  exact kk S2 hI2
theorem case_20 (hI : Inv S) (hi : i + 6 ≤ G.2.2.2.2.2.2.1) (hL : G.2.2.2.2.2.2.1 ≤ 3072) (h1 : n.1 ≤ 601024) (h2 : n.2 ≤ 7293034) (kk : ∀ S2, Inv S2 → LOk l G E n 2125 (LV i) [] S2) : LOk l G E n 900 (LV i) [] S := by
  obtain ⟨r, S1, S2, e1, e2, hI2⟩ := A_masters hI (G.2.2.2.2.2.2.2 (i + 1))
  refine ow_aload_n 1 (kdL_7.at 7 rfl) rfl rfl ?_
  refine lk_arg (i := i) (j := 1) (kdL_7.at 8 rfl) (kdL_7.at 9 rfl) (kdL_7.at 10 rfl) (kdL_7.at 11 rfl) (kdL_7.at 12 rfl) (by decide) (by omega) hL ?_
  refine lk_cI (as := [.int (G.2.2.2.2.2.2.2 (i + 1))]) (st := []) (kdL_7.at 13 rfl) kcL_102 sh_0 rfl rfl (by decide) (ok_m10_masters (G.2.2.2.2.2.2.2 (i + 1)) S) e1 (by decide) rfl (by decide) h1 h2 ?_
  refine ow_aload_n 2 (kdL_7.at 14 rfl) rfl rfl ?_
  refine lk_arg (i := i) (j := 1) (kdL_7.at 15 rfl) (kdL_7.at 16 rfl) (kdL_7.at 17 rfl) (kdL_7.at 18 rfl) (kdL_7.at 19 rfl) (by decide) (by omega) hL ?_
  refine lk_cI (as := [.int (G.2.2.2.2.2.2.2 (i + 1))]) (st := [.int r]) (kdL_7.at 20 rfl) kcL_105 sh_14 rfl rfl (by decide) (ok_m11_masters (G.2.2.2.2.2.2.2 (i + 1)) S1) e2 (by decide) rfl (Nat.le_of_ble_eq_true rfl) h1 h2 ?_
  refine lk_eq (tgt := 2125) (kdL_7.at 21 rfl) (by decide) rfl ?_
  exact kk S2 hI2
theorem case_21 (hI : Inv S) (hi : i + 6 ≤ G.2.2.2.2.2.2.1) (hL : G.2.2.2.2.2.2.1 ≤ 3072) (h1 : n.1 ≤ 601024) (h2 : n.2 ≤ 7293034) (kk : ∀ S2, Inv S2 → LOk l G E n 2125 (LV i) [] S2) : LOk l G E n 925 (LV i) [] S := by
  obtain ⟨r, S1, S2, e1, e2, hI2⟩ := A_everyFor hI (G.2.2.2.2.2.2.2 (i + 1)) (G.2.2.2.2.2.2.2 (i + 2))
  refine ow_aload_n 1 (kdL_7.at 24 rfl) rfl rfl ?_
  refine lk_arg (i := i) (j := 1) (kdL_7.at 25 rfl) (kdL_7.at 26 rfl) (kdL_7.at 27 rfl) (kdL_7.at 28 rfl) (kdL_7.at 29 rfl) (by decide) (by omega) hL ?_
  refine lk_arg (i := i) (j := 2) (kdL_7.at 30 rfl) (kdL_7.at 31 rfl) (kdL_7.at 32 rfl) (kdL_7.at 33 rfl) (kdL_7.at 34 rfl) (by decide) (by omega) hL ?_
  refine lk_cI (as := [.int (G.2.2.2.2.2.2.2 (i + 1)), .int (G.2.2.2.2.2.2.2 (i + 2))]) (st := []) (kdL_7.at 35 rfl) kcL_106 sh_0 rfl rfl (by decide) (ok_m10_everyFor (G.2.2.2.2.2.2.2 (i + 1)) (G.2.2.2.2.2.2.2 (i + 2)) S) e1 (by decide) rfl (by decide) h1 h2 ?_
  refine ow_aload_n 2 (kdL_7.at 36 rfl) rfl rfl ?_
  refine lk_arg (i := i) (j := 1) (kdL_7.at 37 rfl) (kdL_7.at 38 rfl) (kdL_7.at 39 rfl) (kdL_7.at 40 rfl) (kdL_7.at 41 rfl) (by decide) (by omega) hL ?_
  refine lk_arg (i := i) (j := 2) (kdL_7.at 42 rfl) (kdL_7.at 43 rfl) (kdL_7.at 44 rfl) (kdL_7.at 45 rfl) (kdL_7.at 46 rfl) (by decide) (by omega) hL ?_
  refine lk_cI (as := [.int (G.2.2.2.2.2.2.2 (i + 1)), .int (G.2.2.2.2.2.2.2 (i + 2))]) (st := [.int r]) (kdL_7.at 47 rfl) kcL_109 sh_14 rfl rfl (by decide) (ok_m11_everyFor (G.2.2.2.2.2.2.2 (i + 1)) (G.2.2.2.2.2.2.2 (i + 2)) S1) e2 (by decide) rfl (Nat.le_of_ble_eq_true rfl) h1 h2 ?_
  refine lk_eq (tgt := 2125) (kdL_7.at 48 rfl) (by decide) rfl ?_
  exact kk S2 hI2
theorem case_22 (hI : Inv S) (hi : i + 6 ≤ G.2.2.2.2.2.2.1) (hL : G.2.2.2.2.2.2.1 ≤ 3072) (h1 : n.1 ≤ 601024) (h2 : n.2 ≤ 7293034) (kk : ∀ S2, Inv S2 → LOk l G E n 2125 (LV i) [] S2) : LOk l G E n 962 (LV i) [] S := by
  obtain ⟨r, S1, S2, e1, e2, hI2⟩ := A_everySays hI (G.2.2.2.2.2.2.2 (i + 1)) (G.2.2.2.2.2.2.2 (i + 2))
  refine ow_aload_n 1 (kdL_7.at 51 rfl) rfl rfl ?_
  refine lk_arg (i := i) (j := 1) (kdL_7.at 52 rfl) (kdL_7.at 53 rfl) (kdL_7.at 54 rfl) (kdL_7.at 55 rfl) (kdL_7.at 56 rfl) (by decide) (by omega) hL ?_
  refine lk_arg (i := i) (j := 2) (kdL_7.at 57 rfl) (kdL_7.at 58 rfl) (kdL_7.at 59 rfl) (kdL_7.at 60 rfl) (kdL_7.at 61 rfl) (by decide) (by omega) hL ?_
  refine lk_cI (as := [.int (G.2.2.2.2.2.2.2 (i + 1)), .int (G.2.2.2.2.2.2.2 (i + 2))]) (st := []) (kdL_7.at 62 rfl) kcL_110 sh_0 rfl rfl (by decide) (ok_m10_everySays (G.2.2.2.2.2.2.2 (i + 1)) (G.2.2.2.2.2.2.2 (i + 2)) S) e1 (by decide) rfl (by decide) h1 h2 ?_
  refine ow_aload_n 2 (kdL_7.at 63 rfl) rfl rfl ?_
  refine lk_arg (i := i) (j := 1) (kdL_8.at 0 rfl) (kdL_8.at 1 rfl) (kdL_8.at 2 rfl) (kdL_8.at 3 rfl) (kdL_8.at 4 rfl) (by decide) (by omega) hL ?_
  refine lk_arg (i := i) (j := 2) (kdL_8.at 5 rfl) (kdL_8.at 6 rfl) (kdL_8.at 7 rfl) (kdL_8.at 8 rfl) (kdL_8.at 9 rfl) (by decide) (by omega) hL ?_
  refine lk_cI (as := [.int (G.2.2.2.2.2.2.2 (i + 1)), .int (G.2.2.2.2.2.2.2 (i + 2))]) (st := [.int r]) (kdL_8.at 10 rfl) kcL_113 sh_14 rfl rfl (by decide) (ok_m11_everySays (G.2.2.2.2.2.2.2 (i + 1)) (G.2.2.2.2.2.2.2 (i + 2)) S1) e2 (by decide) rfl (Nat.le_of_ble_eq_true rfl) h1 h2 ?_
  refine lk_eq (tgt := 2125) (kdL_8.at 11 rfl) (by decide) rfl ?_
  exact kk S2 hI2
theorem case_23 (hI : Inv S) (hi : i + 6 ≤ G.2.2.2.2.2.2.1) (hL : G.2.2.2.2.2.2.1 ≤ 3072) (h1 : n.1 ≤ 601024) (h2 : n.2 ≤ 7293034) (kk : ∀ S2, Inv S2 → LOk l G E n 2125 (LV i) [] S2) : LOk l G E n 999 (LV i) [] S := by
  obtain ⟨r, S1, S2, e1, e2, hI2⟩ := A_everyNever hI (G.2.2.2.2.2.2.2 (i + 1))
  refine ow_aload_n 1 (kdL_8.at 14 rfl) rfl rfl ?_
  refine lk_arg (i := i) (j := 1) (kdL_8.at 15 rfl) (kdL_8.at 16 rfl) (kdL_8.at 17 rfl) (kdL_8.at 18 rfl) (kdL_8.at 19 rfl) (by decide) (by omega) hL ?_
  refine lk_cI (as := [.int (G.2.2.2.2.2.2.2 (i + 1))]) (st := []) (kdL_8.at 20 rfl) kcL_114 sh_0 rfl rfl (by decide) (ok_m10_everyNever (G.2.2.2.2.2.2.2 (i + 1)) S) e1 (by decide) rfl (by decide) h1 h2 ?_
  refine ow_aload_n 2 (kdL_8.at 21 rfl) rfl rfl ?_
  refine lk_arg (i := i) (j := 1) (kdL_8.at 22 rfl) (kdL_8.at 23 rfl) (kdL_8.at 24 rfl) (kdL_8.at 25 rfl) (kdL_8.at 26 rfl) (by decide) (by omega) hL ?_
  refine lk_cI (as := [.int (G.2.2.2.2.2.2.2 (i + 1))]) (st := [.int r]) (kdL_8.at 27 rfl) kcL_117 sh_14 rfl rfl (by decide) (ok_m11_everyNever (G.2.2.2.2.2.2.2 (i + 1)) S1) e2 (by decide) rfl (Nat.le_of_ble_eq_true rfl) h1 h2 ?_
  refine lk_eq (tgt := 2125) (kdL_8.at 28 rfl) (by decide) rfl ?_
  exact kk S2 hI2
theorem case_24 (hI : Inv S) (hi : i + 6 ≤ G.2.2.2.2.2.2.1) (hL : G.2.2.2.2.2.2.1 ≤ 3072) (h1 : n.1 ≤ 601024) (h2 : n.2 ≤ 7293034) (kk : ∀ S2, Inv S2 → LOk l G E n 2125 (LV i) [] S2) : LOk l G E n 1024 (LV i) [] S := by
  obtain ⟨r, S1, S2, e1, e2, hI2⟩ := A_stepFor hI (G.2.2.2.2.2.2.2 (i + 1)) (G.2.2.2.2.2.2.2 (i + 2))
  refine ow_aload_n 1 (kdL_8.at 31 rfl) rfl rfl ?_
  refine lk_arg (i := i) (j := 1) (kdL_8.at 32 rfl) (kdL_8.at 33 rfl) (kdL_8.at 34 rfl) (kdL_8.at 35 rfl) (kdL_8.at 36 rfl) (by decide) (by omega) hL ?_
  refine lk_arg (i := i) (j := 2) (kdL_8.at 37 rfl) (kdL_8.at 38 rfl) (kdL_8.at 39 rfl) (kdL_8.at 40 rfl) (kdL_8.at 41 rfl) (by decide) (by omega) hL ?_
  refine lk_cI (as := [.int (G.2.2.2.2.2.2.2 (i + 1)), .int (G.2.2.2.2.2.2.2 (i + 2))]) (st := []) (kdL_8.at 42 rfl) kcL_118 sh_0 rfl rfl (by decide) (ok_m10_stepFor (G.2.2.2.2.2.2.2 (i + 1)) (G.2.2.2.2.2.2.2 (i + 2)) S) e1 (by decide) rfl (by decide) h1 h2 ?_
  refine ow_aload_n 2 (kdL_8.at 43 rfl) rfl rfl ?_
  refine lk_arg (i := i) (j := 1) (kdL_8.at 44 rfl) (kdL_8.at 45 rfl) (kdL_8.at 46 rfl) (kdL_8.at 47 rfl) (kdL_8.at 48 rfl) (by decide) (by omega) hL ?_
  refine lk_arg (i := i) (j := 2) (kdL_8.at 49 rfl) (kdL_8.at 50 rfl) (kdL_8.at 51 rfl) (kdL_8.at 52 rfl) (kdL_8.at 53 rfl) (by decide) (by omega) hL ?_
  refine lk_cI (as := [.int (G.2.2.2.2.2.2.2 (i + 1)), .int (G.2.2.2.2.2.2.2 (i + 2))]) (st := [.int r]) (kdL_8.at 54 rfl) kcL_121 sh_14 rfl rfl (by decide) (ok_m11_stepFor (G.2.2.2.2.2.2.2 (i + 1)) (G.2.2.2.2.2.2.2 (i + 2)) S1) e2 (by decide) rfl (Nat.le_of_ble_eq_true rfl) h1 h2 ?_
  refine lk_eq (tgt := 2125) (kdL_8.at 55 rfl) (by decide) rfl ?_
  exact kk S2 hI2
theorem case_25 (hI : Inv S) (hi : i + 6 ≤ G.2.2.2.2.2.2.1) (hL : G.2.2.2.2.2.2.1 ≤ 3072) (h1 : n.1 ≤ 601024) (h2 : n.2 ≤ 7293034) (kk : ∀ S2, Inv S2 → LOk l G E n 2125 (LV i) [] S2) : LOk l G E n 1061 (LV i) [] S := by
  obtain ⟨r, S1, S2, e1, e2, hI2⟩ := A_fits hI 
  refine ow_aload_n 1 (kdL_8.at 58 rfl) rfl rfl ?_
  refine lk_cI (as := []) (st := []) (kdL_8.at 59 rfl) kcL_122 sh_0 rfl rfl (by decide) (ok_m10_fits  S) e1 (by decide) rfl (by decide) h1 h2 ?_
  refine ow_aload_n 2 (kdL_8.at 60 rfl) rfl rfl ?_
  refine lk_cI (as := []) (st := [.int r]) (kdL_8.at 61 rfl) kcL_125 sh_14 rfl rfl (by decide) (ok_m11_fits  S1) e2 (by decide) rfl (Nat.le_of_ble_eq_true rfl) h1 h2 ?_
  refine lk_eq (tgt := 2125) (kdL_8.at 62 rfl) (by decide) rfl ?_
  exact kk S2 hI2
theorem case_26 (hI : Inv S) (hi : i + 6 ≤ G.2.2.2.2.2.2.1) (hL : G.2.2.2.2.2.2.1 ≤ 3072) (h1 : n.1 ≤ 601024) (h2 : n.2 ≤ 7293034) (kk : ∀ S2, Inv S2 → LOk l G E n 2125 (LV i) [] S2) : LOk l G E n 1074 (LV i) [] S := by
  obtain ⟨r, S1, S2, e1, e2, hI2⟩ := A_fitAt hI (G.2.2.2.2.2.2.2 (i + 1))
  refine ow_aload_n 1 (kdL_9.at 1 rfl) rfl rfl ?_
  refine lk_arg (i := i) (j := 1) (kdL_9.at 2 rfl) (kdL_9.at 3 rfl) (kdL_9.at 4 rfl) (kdL_9.at 5 rfl) (kdL_9.at 6 rfl) (by decide) (by omega) hL ?_
  refine lk_cI (as := [.int (G.2.2.2.2.2.2.2 (i + 1))]) (st := []) (kdL_9.at 7 rfl) kcL_126 sh_0 rfl rfl (by decide) (ok_m10_fitAt (G.2.2.2.2.2.2.2 (i + 1)) S) e1 (by decide) rfl (by decide) h1 h2 ?_
  refine ow_aload_n 2 (kdL_9.at 8 rfl) rfl rfl ?_
  refine lk_arg (i := i) (j := 1) (kdL_9.at 9 rfl) (kdL_9.at 10 rfl) (kdL_9.at 11 rfl) (kdL_9.at 12 rfl) (kdL_9.at 13 rfl) (by decide) (by omega) hL ?_
  refine lk_cI (as := [.int (G.2.2.2.2.2.2.2 (i + 1))]) (st := [.int r]) (kdL_9.at 14 rfl) kcL_129 sh_14 rfl rfl (by decide) (ok_m11_fitAt (G.2.2.2.2.2.2.2 (i + 1)) S1) e2 (by decide) rfl (Nat.le_of_ble_eq_true rfl) h1 h2 ?_
  refine lk_eq (tgt := 2125) (kdL_9.at 15 rfl) (by decide) rfl ?_
  exact kk S2 hI2
theorem case_27 (hI : Inv S) (hi : i + 6 ≤ G.2.2.2.2.2.2.1) (hL : G.2.2.2.2.2.2.1 ≤ 3072) (h1 : n.1 ≤ 601024) (h2 : n.2 ≤ 7293034) (kk : ∀ S2, Inv S2 → LOk l G E n 2125 (LV i) [] S2) : LOk l G E n 1099 (LV i) [] S := by
  obtain ⟨r, S1, S2, e1, e2, hI2⟩ := A_could hI 
  refine ow_aload_n 1 (kdL_9.at 18 rfl) rfl rfl ?_
  refine lk_cI (as := []) (st := []) (kdL_9.at 19 rfl) kcL_130 sh_0 rfl rfl (by decide) (ok_m10_could  S) e1 (by decide) rfl (by decide) h1 h2 ?_
  refine ow_aload_n 2 (kdL_9.at 20 rfl) rfl rfl ?_
  refine lk_cI (as := []) (st := [.int r]) (kdL_9.at 21 rfl) kcL_133 sh_14 rfl rfl (by decide) (ok_m11_could  S1) e2 (by decide) rfl (Nat.le_of_ble_eq_true rfl) h1 h2 ?_
  refine lk_eq (tgt := 2125) (kdL_9.at 22 rfl) (by decide) rfl ?_
  exact kk S2 hI2
theorem case_28 (hI : Inv S) (hi : i + 6 ≤ G.2.2.2.2.2.2.1) (hL : G.2.2.2.2.2.2.1 ≤ 3072) (h1 : n.1 ≤ 601024) (h2 : n.2 ≤ 7293034) (kk : ∀ S2, Inv S2 → LOk l G E n 2125 (LV i) [] S2) : LOk l G E n 1112 (LV i) [] S := by
  obtain ⟨r, S1, S2, e1, e2, hI2⟩ := A_surely hI 
  refine ow_aload_n 1 (kdL_9.at 25 rfl) rfl rfl ?_
  refine lk_cI (as := []) (st := []) (kdL_9.at 26 rfl) kcL_134 sh_0 rfl rfl (by decide) (ok_m10_surely  S) e1 (by decide) rfl (by decide) h1 h2 ?_
  refine ow_aload_n 2 (kdL_9.at 27 rfl) rfl rfl ?_
  refine lk_cI (as := []) (st := [.int r]) (kdL_9.at 28 rfl) kcL_137 sh_14 rfl rfl (by decide) (ok_m11_surely  S1) e2 (by decide) rfl (Nat.le_of_ble_eq_true rfl) h1 h2 ?_
  refine lk_eq (tgt := 2125) (kdL_9.at 29 rfl) (by decide) rfl ?_
  exact kk S2 hI2
theorem case_29 (hI : Inv S) (hi : i + 6 ≤ G.2.2.2.2.2.2.1) (hL : G.2.2.2.2.2.2.1 ≤ 3072) (h1 : n.1 ≤ 601024) (h2 : n.2 ≤ 7293034) (kk : ∀ S2, Inv S2 → LOk l G E n 2125 (LV i) [] S2) : LOk l G E n 1125 (LV i) [] S := by
  obtain ⟨r, S1, S2, e1, e2, hI2⟩ := A_ask hI 
  refine ow_aload_n 1 (kdL_9.at 32 rfl) rfl rfl ?_
  refine lk_cI (as := []) (st := []) (kdL_9.at 33 rfl) kcL_138 sh_0 rfl rfl (by decide) (ok_m10_ask  S) e1 (by decide) rfl (by decide) h1 h2 ?_
  refine ow_aload_n 2 (kdL_9.at 34 rfl) rfl rfl ?_
  refine lk_cI (as := []) (st := [.int r]) (kdL_9.at 35 rfl) kcL_141 sh_14 rfl rfl (by decide) (ok_m11_ask  S1) e2 (by decide) rfl (Nat.le_of_ble_eq_true rfl) h1 h2 ?_
  refine lk_eq (tgt := 2125) (kdL_9.at 36 rfl) (by decide) rfl ?_
  exact kk S2 hI2
theorem case_30 (hI : Inv S) (hi : i + 6 ≤ G.2.2.2.2.2.2.1) (hL : G.2.2.2.2.2.2.1 ≤ 3072) (h1 : n.1 ≤ 601024) (h2 : n.2 ≤ 7293034) (kk : ∀ S2, Inv S2 → LOk l G E n 2125 (LV i) [] S2) : LOk l G E n 1138 (LV i) [] S := by
  obtain ⟨r, S1, S2, e1, e2, hI2⟩ := A_askLeaves hI 
  refine ow_aload_n 1 (kdL_9.at 39 rfl) rfl rfl ?_
  refine lk_cI (as := []) (st := []) (kdL_9.at 40 rfl) kcL_142 sh_0 rfl rfl (by decide) (ok_m10_askLeaves  S) e1 (by decide) rfl (by decide) h1 h2 ?_
  refine ow_aload_n 2 (kdL_9.at 41 rfl) rfl rfl ?_
  refine lk_cI (as := []) (st := [.int r]) (kdL_9.at 42 rfl) kcL_145 sh_14 rfl rfl (by decide) (ok_m11_askLeaves  S1) e2 (by decide) rfl (Nat.le_of_ble_eq_true rfl) h1 h2 ?_
  refine lk_eq (tgt := 2125) (kdL_9.at 43 rfl) (by decide) rfl ?_
  exact kk S2 hI2
theorem case_31 (hI : Inv S) (hi : i + 6 ≤ G.2.2.2.2.2.2.1) (hL : G.2.2.2.2.2.2.1 ≤ 3072) (h1 : n.1 ≤ 601024) (h2 : n.2 ≤ 7293034) (kk : ∀ S2, Inv S2 → LOk l G E n 2125 (LV i) [] S2) : LOk l G E n 1151 (LV i) [] S := by
  obtain ⟨r, S1, S2, e1, e2, hI2⟩ := A_judge hI 
  refine ow_aload_n 1 (kdL_9.at 46 rfl) rfl rfl ?_
  refine lk_cI (as := []) (st := []) (kdL_9.at 47 rfl) kcL_146 sh_0 rfl rfl (by decide) (ok_m10_judge  S) e1 (by decide) rfl (by decide) h1 h2 ?_
  refine ow_aload_n 2 (kdL_9.at 48 rfl) rfl rfl ?_
  refine lk_cI (as := []) (st := [.int r]) (kdL_9.at 49 rfl) kcL_149 sh_14 rfl rfl (by decide) (ok_m11_judge  S1) e2 (by decide) rfl (Nat.le_of_ble_eq_true rfl) h1 h2 ?_
  refine lk_eq (tgt := 2125) (kdL_9.at 50 rfl) (by decide) rfl ?_
  exact kk S2 hI2
theorem case_32 (hI : Inv S) (hi : i + 6 ≤ G.2.2.2.2.2.2.1) (hL : G.2.2.2.2.2.2.1 ≤ 3072) (h1 : n.1 ≤ 601024) (h2 : n.2 ≤ 7293034) (kk : ∀ S2, Inv S2 → LOk l G E n 2125 (LV i) [] S2) : LOk l G E n 1164 (LV i) [] S := by
  obtain ⟨r, S1, S2, e1, e2, hI2⟩ := A_third hI (G.2.2.2.2.2.2.2 (i + 1))
  refine ow_aload_n 1 (kdL_9.at 53 rfl) rfl rfl ?_
  refine lk_arg (i := i) (j := 1) (kdL_9.at 54 rfl) (kdL_9.at 55 rfl) (kdL_9.at 56 rfl) (kdL_9.at 57 rfl) (kdL_9.at 58 rfl) (by decide) (by omega) hL ?_
  refine lk_cI (as := [.int (G.2.2.2.2.2.2.2 (i + 1))]) (st := []) (kdL_9.at 59 rfl) kcL_150 sh_0 rfl rfl (by decide) (ok_m10_third (G.2.2.2.2.2.2.2 (i + 1)) S) e1 (by decide) rfl (by decide) h1 h2 ?_
  refine ow_aload_n 2 (kdL_9.at 60 rfl) rfl rfl ?_
  refine lk_arg (i := i) (j := 1) (kdL_9.at 61 rfl) (kdL_9.at 62 rfl) (kdL_9.at 63 rfl) (kdL_10.at 0 rfl) (kdL_10.at 1 rfl) (by decide) (by omega) hL ?_
  refine lk_cI (as := [.int (G.2.2.2.2.2.2.2 (i + 1))]) (st := [.int r]) (kdL_10.at 2 rfl) kcL_153 sh_14 rfl rfl (by decide) (ok_m11_third (G.2.2.2.2.2.2.2 (i + 1)) S1) e2 (by decide) rfl (Nat.le_of_ble_eq_true rfl) h1 h2 ?_
  refine lk_eq (tgt := 2125) (kdL_10.at 3 rfl) (by decide) rfl ?_
  exact kk S2 hI2
theorem case_33 (hI : Inv S) (hi : i + 6 ≤ G.2.2.2.2.2.2.1) (hL : G.2.2.2.2.2.2.1 ≤ 3072) (h1 : n.1 ≤ 601024) (h2 : n.2 ≤ 7293034) (kk : ∀ S2, Inv S2 → LOk l G E n 2125 (LV i) [] S2) : LOk l G E n 1189 (LV i) [] S := by
  obtain ⟨r, S1, S2, e1, e2, hI2⟩ := A_owes hI (G.2.2.2.2.2.2.2 (i + 1)) (G.2.2.2.2.2.2.2 (i + 2))
  refine ow_aload_n 1 (kdL_10.at 6 rfl) rfl rfl ?_
  refine lk_arg (i := i) (j := 1) (kdL_10.at 7 rfl) (kdL_10.at 8 rfl) (kdL_10.at 9 rfl) (kdL_10.at 10 rfl) (kdL_10.at 11 rfl) (by decide) (by omega) hL ?_
  refine lk_arg (i := i) (j := 2) (kdL_10.at 12 rfl) (kdL_10.at 13 rfl) (kdL_10.at 14 rfl) (kdL_10.at 15 rfl) (kdL_10.at 16 rfl) (by decide) (by omega) hL ?_
  refine lk_cI (as := [.int (G.2.2.2.2.2.2.2 (i + 1)), .int (G.2.2.2.2.2.2.2 (i + 2))]) (st := []) (kdL_10.at 17 rfl) kcL_154 sh_0 rfl rfl (by decide) (ok_m10_owes (G.2.2.2.2.2.2.2 (i + 1)) (G.2.2.2.2.2.2.2 (i + 2)) S) e1 (by decide) rfl (by decide) h1 h2 ?_
  refine ow_aload_n 2 (kdL_10.at 18 rfl) rfl rfl ?_
  refine lk_arg (i := i) (j := 1) (kdL_10.at 19 rfl) (kdL_10.at 20 rfl) (kdL_10.at 21 rfl) (kdL_10.at 22 rfl) (kdL_10.at 23 rfl) (by decide) (by omega) hL ?_
  refine lk_arg (i := i) (j := 2) (kdL_10.at 24 rfl) (kdL_10.at 25 rfl) (kdL_10.at 26 rfl) (kdL_10.at 27 rfl) (kdL_10.at 28 rfl) (by decide) (by omega) hL ?_
  refine lk_cI (as := [.int (G.2.2.2.2.2.2.2 (i + 1)), .int (G.2.2.2.2.2.2.2 (i + 2))]) (st := [.int r]) (kdL_10.at 29 rfl) kcL_157 sh_14 rfl rfl (by decide) (ok_m11_owes (G.2.2.2.2.2.2.2 (i + 1)) (G.2.2.2.2.2.2.2 (i + 2)) S1) e2 (by decide) rfl (Nat.le_of_ble_eq_true rfl) h1 h2 ?_
  refine lk_eq (tgt := 2125) (kdL_10.at 30 rfl) (by decide) rfl ?_
  exact kk S2 hI2
theorem case_34 (hI : Inv S) (hi : i + 6 ≤ G.2.2.2.2.2.2.1) (hL : G.2.2.2.2.2.2.1 ≤ 3072) (h1 : n.1 ≤ 601024) (h2 : n.2 ≤ 7293034) (kk : ∀ S2, Inv S2 → LOk l G E n 2125 (LV i) [] S2) : LOk l G E n 1226 (LV i) [] S := by
  obtain ⟨r, S1, S2, e1, e2, hI2⟩ := A_net hI (G.2.2.2.2.2.2.2 (i + 1))
  refine ow_aload_n 1 (kdL_10.at 33 rfl) rfl rfl ?_
  refine lk_arg (i := i) (j := 1) (kdL_10.at 34 rfl) (kdL_10.at 35 rfl) (kdL_10.at 36 rfl) (kdL_10.at 37 rfl) (kdL_10.at 38 rfl) (by decide) (by omega) hL ?_
  refine lk_cI (as := [.int (G.2.2.2.2.2.2.2 (i + 1))]) (st := []) (kdL_10.at 39 rfl) kcL_158 sh_0 rfl rfl (by decide) (ok_m10_net (G.2.2.2.2.2.2.2 (i + 1)) S) e1 (by decide) rfl (by decide) h1 h2 ?_
  refine ow_aload_n 2 (kdL_10.at 40 rfl) rfl rfl ?_
  refine lk_arg (i := i) (j := 1) (kdL_10.at 41 rfl) (kdL_10.at 42 rfl) (kdL_10.at 43 rfl) (kdL_10.at 44 rfl) (kdL_10.at 45 rfl) (by decide) (by omega) hL ?_
  refine lk_cI (as := [.int (G.2.2.2.2.2.2.2 (i + 1))]) (st := [.int r]) (kdL_10.at 46 rfl) kcL_161 sh_14 rfl rfl (by decide) (ok_m11_net (G.2.2.2.2.2.2.2 (i + 1)) S1) e2 (by decide) rfl (Nat.le_of_ble_eq_true rfl) h1 h2 ?_
  refine lk_eq (tgt := 2125) (kdL_10.at 47 rfl) (by decide) rfl ?_
  exact kk S2 hI2
theorem case_35 (hI : Inv S) (hi : i + 6 ≤ G.2.2.2.2.2.2.1) (hL : G.2.2.2.2.2.2.1 ≤ 3072) (h1 : n.1 ≤ 601024) (h2 : n.2 ≤ 7293034) (kk : ∀ S2, Inv S2 → LOk l G E n 2125 (LV i) [] S2) : LOk l G E n 1251 (LV i) [] S := by
  obtain ⟨r, S1, S2, e1, e2, hI2⟩ := A_due hI 
  refine ow_aload_n 1 (kdL_10.at 50 rfl) rfl rfl ?_
  refine lk_cI (as := []) (st := []) (kdL_10.at 51 rfl) kcL_162 sh_0 rfl rfl (by decide) (ok_m10_due  S) e1 (by decide) rfl (by decide) h1 h2 ?_
  refine ow_aload_n 2 (kdL_10.at 52 rfl) rfl rfl ?_
  refine lk_cI (as := []) (st := [.int r]) (kdL_10.at 53 rfl) kcL_165 sh_14 rfl rfl (by decide) (ok_m11_due  S1) e2 (by decide) rfl (Nat.le_of_ble_eq_true rfl) h1 h2 ?_
  refine lk_eq (tgt := 2125) (kdL_10.at 54 rfl) (by decide) rfl ?_
  exact kk S2 hI2
theorem case_36 (hI : Inv S) (hi : i + 6 ≤ G.2.2.2.2.2.2.1) (hL : G.2.2.2.2.2.2.1 ≤ 3072) (h1 : n.1 ≤ 601024) (h2 : n.2 ≤ 7293034) (kk : ∀ S2, Inv S2 → LOk l G E n 2125 (LV i) [] S2) : LOk l G E n 1264 (LV i) [] S := by
  obtain ⟨r, S1, S2, e1, e2, hI2⟩ := A_creditor hI 
  refine ow_aload_n 1 (kdL_10.at 57 rfl) rfl rfl ?_
  refine lk_cI (as := []) (st := []) (kdL_10.at 58 rfl) kcL_166 sh_0 rfl rfl (by decide) (ok_m10_creditor  S) e1 (by decide) rfl (by decide) h1 h2 ?_
  refine ow_aload_n 2 (kdL_10.at 59 rfl) rfl rfl ?_
  refine lk_cI (as := []) (st := [.int r]) (kdL_10.at 60 rfl) kcL_169 sh_14 rfl rfl (by decide) (ok_m11_creditor  S1) e2 (by decide) rfl (Nat.le_of_ble_eq_true rfl) h1 h2 ?_
  refine lk_eq (tgt := 2125) (kdL_10.at 61 rfl) (by decide) rfl ?_
  exact kk S2 hI2
theorem case_37 (hI : Inv S) (hi : i + 6 ≤ G.2.2.2.2.2.2.1) (hL : G.2.2.2.2.2.2.1 ≤ 3072) (h1 : n.1 ≤ 601024) (h2 : n.2 ≤ 7293034) (kk : ∀ S2, Inv S2 → LOk l G E n 2125 (LV i) [] S2) : LOk l G E n 1277 (LV i) [] S := by
  obtain ⟨r, S1, S2, e1, e2, hI2⟩ := A_payments hI 
  refine ow_aload_n 1 (kdL_11.at 0 rfl) rfl rfl ?_
  refine lk_cI (as := []) (st := []) (kdL_11.at 1 rfl) kcL_170 sh_0 rfl rfl (by decide) (ok_m10_payments  S) e1 (by decide) rfl (by decide) h1 h2 ?_
  refine ow_aload_n 2 (kdL_11.at 2 rfl) rfl rfl ?_
  refine lk_cI (as := []) (st := [.int r]) (kdL_11.at 3 rfl) kcL_173 sh_14 rfl rfl (by decide) (ok_m11_payments  S1) e2 (by decide) rfl (Nat.le_of_ble_eq_true rfl) h1 h2 ?_
  refine lk_eq (tgt := 2125) (kdL_11.at 4 rfl) (by decide) rfl ?_
  exact kk S2 hI2
theorem case_38 (hI : Inv S) (hi : i + 6 ≤ G.2.2.2.2.2.2.1) (hL : G.2.2.2.2.2.2.1 ≤ 3072) (h1 : n.1 ≤ 601024) (h2 : n.2 ≤ 7293034) (kk : ∀ S2, Inv S2 → LOk l G E n 2125 (LV i) [] S2) : LOk l G E n 1290 (LV i) [] S := by
  obtain ⟨r, S1, S2, e1, e2, hI2⟩ := A_ring hI (G.2.2.2.2.2.2.2 (i + 1))
  refine ow_aload_n 1 (kdL_11.at 7 rfl) rfl rfl ?_
  refine lk_arg (i := i) (j := 1) (kdL_11.at 8 rfl) (kdL_11.at 9 rfl) (kdL_11.at 10 rfl) (kdL_11.at 11 rfl) (kdL_11.at 12 rfl) (by decide) (by omega) hL ?_
  refine lk_cI (as := [.int (G.2.2.2.2.2.2.2 (i + 1))]) (st := []) (kdL_11.at 13 rfl) kcL_174 sh_0 rfl rfl (by decide) (ok_m10_ring (G.2.2.2.2.2.2.2 (i + 1)) S) e1 (by decide) rfl (by decide) h1 h2 ?_
  refine ow_aload_n 2 (kdL_11.at 14 rfl) rfl rfl ?_
  refine lk_arg (i := i) (j := 1) (kdL_11.at 15 rfl) (kdL_11.at 16 rfl) (kdL_11.at 17 rfl) (kdL_11.at 18 rfl) (kdL_11.at 19 rfl) (by decide) (by omega) hL ?_
  refine lk_cI (as := [.int (G.2.2.2.2.2.2.2 (i + 1))]) (st := [.int r]) (kdL_11.at 20 rfl) kcL_177 sh_14 rfl rfl (by decide) (ok_m11_ring (G.2.2.2.2.2.2.2 (i + 1)) S1) e2 (by decide) rfl (Nat.le_of_ble_eq_true rfl) h1 h2 ?_
  refine lk_eq (tgt := 2125) (kdL_11.at 21 rfl) (by decide) rfl ?_
  exact kk S2 hI2
theorem case_39 (hI : Inv S) (hi : i + 6 ≤ G.2.2.2.2.2.2.1) (hL : G.2.2.2.2.2.2.1 ≤ 3072) (h1 : n.1 ≤ 601024) (h2 : n.2 ≤ 7293034) (kk : ∀ S2, Inv S2 → LOk l G E n 2125 (LV i) [] S2) : LOk l G E n 1315 (LV i) [] S := by
  obtain ⟨r, S1, S2, e1, e2, hI2⟩ := A_ringAt hI (G.2.2.2.2.2.2.2 (i + 1)) (G.2.2.2.2.2.2.2 (i + 2))
  refine ow_aload_n 1 (kdL_11.at 24 rfl) rfl rfl ?_
  refine lk_arg (i := i) (j := 1) (kdL_11.at 25 rfl) (kdL_11.at 26 rfl) (kdL_11.at 27 rfl) (kdL_11.at 28 rfl) (kdL_11.at 29 rfl) (by decide) (by omega) hL ?_
  refine lk_arg (i := i) (j := 2) (kdL_11.at 30 rfl) (kdL_11.at 31 rfl) (kdL_11.at 32 rfl) (kdL_11.at 33 rfl) (kdL_11.at 34 rfl) (by decide) (by omega) hL ?_
  refine lk_cI (as := [.int (G.2.2.2.2.2.2.2 (i + 1)), .int (G.2.2.2.2.2.2.2 (i + 2))]) (st := []) (kdL_11.at 35 rfl) kcL_178 sh_0 rfl rfl (by decide) (ok_m10_ringAt (G.2.2.2.2.2.2.2 (i + 1)) (G.2.2.2.2.2.2.2 (i + 2)) S) e1 (by decide) rfl (by decide) h1 h2 ?_
  refine ow_aload_n 2 (kdL_11.at 36 rfl) rfl rfl ?_
  refine lk_arg (i := i) (j := 1) (kdL_11.at 37 rfl) (kdL_11.at 38 rfl) (kdL_11.at 39 rfl) (kdL_11.at 40 rfl) (kdL_11.at 41 rfl) (by decide) (by omega) hL ?_
  refine lk_arg (i := i) (j := 2) (kdL_11.at 42 rfl) (kdL_11.at 43 rfl) (kdL_11.at 44 rfl) (kdL_11.at 45 rfl) (kdL_11.at 46 rfl) (by decide) (by omega) hL ?_
  refine lk_cI (as := [.int (G.2.2.2.2.2.2.2 (i + 1)), .int (G.2.2.2.2.2.2.2 (i + 2))]) (st := [.int r]) (kdL_11.at 47 rfl) kcL_181 sh_14 rfl rfl (by decide) (ok_m11_ringAt (G.2.2.2.2.2.2.2 (i + 1)) (G.2.2.2.2.2.2.2 (i + 2)) S1) e2 (by decide) rfl (Nat.le_of_ble_eq_true rfl) h1 h2 ?_
  refine lk_eq (tgt := 2125) (kdL_11.at 48 rfl) (by decide) rfl ?_
  exact kk S2 hI2
theorem case_40 (hI : Inv S) (hi : i + 6 ≤ G.2.2.2.2.2.2.1) (hL : G.2.2.2.2.2.2.1 ≤ 3072) (h1 : n.1 ≤ 601024) (h2 : n.2 ≤ 7293034) (kk : ∀ S2, Inv S2 → LOk l G E n 2125 (LV i) [] S2) : LOk l G E n 1352 (LV i) [] S := by
  obtain ⟨r, S1, S2, e1, e2, hI2⟩ := A_talks hI (G.2.2.2.2.2.2.2 (i + 1)) (decide (G.2.2.2.2.2.2.2 (i + 2) ≠ 0)) (decide (G.2.2.2.2.2.2.2 (i + 3) ≠ 0)) (decide (G.2.2.2.2.2.2.2 (i + 4) ≠ 0))
  refine ow_aload_n 1 (kdL_11.at 51 rfl) rfl rfl ?_
  refine lk_arg (i := i) (j := 1) (kdL_11.at 52 rfl) (kdL_11.at 53 rfl) (kdL_11.at 54 rfl) (kdL_11.at 55 rfl) (kdL_11.at 56 rfl) (by decide) (by omega) hL ?_
  refine lk_arg (i := i) (j := 2) (kdL_11.at 57 rfl) (kdL_11.at 58 rfl) (kdL_11.at 59 rfl) (kdL_11.at 60 rfl) (kdL_11.at 61 rfl) (by decide) (by omega) hL ?_
  refine lk_bool (kdL_11.at 62 rfl) (kdL_11.at 63 rfl) (kdL_12.at 0 rfl) (kdL_12.at 1 rfl) rfl rfl rfl ?_
  refine lk_arg (i := i) (j := 3) (kdL_12.at 2 rfl) (kdL_12.at 3 rfl) (kdL_12.at 4 rfl) (kdL_12.at 5 rfl) (kdL_12.at 6 rfl) (by decide) (by omega) hL ?_
  refine lk_bool (kdL_12.at 7 rfl) (kdL_12.at 8 rfl) (kdL_12.at 9 rfl) (kdL_12.at 10 rfl) rfl rfl rfl ?_
  refine lk_arg (i := i) (j := 4) (kdL_12.at 11 rfl) (kdL_12.at 12 rfl) (kdL_12.at 13 rfl) (kdL_12.at 14 rfl) (kdL_12.at 15 rfl) (by decide) (by omega) hL ?_
  refine lk_bool (kdL_12.at 16 rfl) (kdL_12.at 17 rfl) (kdL_12.at 18 rfl) (kdL_12.at 19 rfl) rfl rfl rfl ?_
  refine lk_cI (as := [.int (G.2.2.2.2.2.2.2 (i + 1)), .int (kb (decide (G.2.2.2.2.2.2.2 (i + 2) ≠ 0))), .int (kb (decide (G.2.2.2.2.2.2.2 (i + 3) ≠ 0))), .int (kb (decide (G.2.2.2.2.2.2.2 (i + 4) ≠ 0)))]) (st := []) (kdL_12.at 20 rfl) kcL_182 sh_0 rfl rfl (by decide) (ok_m10_talks (G.2.2.2.2.2.2.2 (i + 1)) (decide (G.2.2.2.2.2.2.2 (i + 2) ≠ 0)) (decide (G.2.2.2.2.2.2.2 (i + 3) ≠ 0)) (decide (G.2.2.2.2.2.2.2 (i + 4) ≠ 0)) S) e1 (by decide) rfl (by decide) h1 h2 ?_
  refine ow_aload_n 2 (kdL_12.at 21 rfl) rfl rfl ?_
  refine lk_arg (i := i) (j := 1) (kdL_12.at 22 rfl) (kdL_12.at 23 rfl) (kdL_12.at 24 rfl) (kdL_12.at 25 rfl) (kdL_12.at 26 rfl) (by decide) (by omega) hL ?_
  refine lk_arg (i := i) (j := 2) (kdL_12.at 27 rfl) (kdL_12.at 28 rfl) (kdL_12.at 29 rfl) (kdL_12.at 30 rfl) (kdL_12.at 31 rfl) (by decide) (by omega) hL ?_
  refine lk_bool (kdL_12.at 32 rfl) (kdL_12.at 33 rfl) (kdL_12.at 34 rfl) (kdL_12.at 35 rfl) rfl rfl rfl ?_
  refine lk_arg (i := i) (j := 3) (kdL_12.at 36 rfl) (kdL_12.at 37 rfl) (kdL_12.at 38 rfl) (kdL_12.at 39 rfl) (kdL_12.at 40 rfl) (by decide) (by omega) hL ?_
  refine lk_bool (kdL_12.at 41 rfl) (kdL_12.at 42 rfl) (kdL_12.at 43 rfl) (kdL_12.at 44 rfl) rfl rfl rfl ?_
  refine lk_arg (i := i) (j := 4) (kdL_12.at 45 rfl) (kdL_12.at 46 rfl) (kdL_12.at 47 rfl) (kdL_12.at 48 rfl) (kdL_12.at 49 rfl) (by decide) (by omega) hL ?_
  refine lk_bool (kdL_12.at 50 rfl) (kdL_12.at 51 rfl) (kdL_12.at 52 rfl) (kdL_12.at 53 rfl) rfl rfl rfl ?_
  refine lk_cI (as := [.int (G.2.2.2.2.2.2.2 (i + 1)), .int (kb (decide (G.2.2.2.2.2.2.2 (i + 2) ≠ 0))), .int (kb (decide (G.2.2.2.2.2.2.2 (i + 3) ≠ 0))), .int (kb (decide (G.2.2.2.2.2.2.2 (i + 4) ≠ 0)))]) (st := [.int r]) (kdL_12.at 54 rfl) kcL_186 sh_14 rfl rfl (by decide) (ok_m11_talks (G.2.2.2.2.2.2.2 (i + 1)) (decide (G.2.2.2.2.2.2.2 (i + 2) ≠ 0)) (decide (G.2.2.2.2.2.2.2 (i + 3) ≠ 0)) (decide (G.2.2.2.2.2.2.2 (i + 4) ≠ 0)) S1) e2 (by decide) rfl (Nat.le_of_ble_eq_true rfl) h1 h2 ?_
  refine lk_eq (tgt := 2125) (kdL_12.at 55 rfl) (by decide) rfl ?_
  exact kk S2 hI2
theorem case_41 (hI : Inv S) (hi : i + 6 ≤ G.2.2.2.2.2.2.1) (hL : G.2.2.2.2.2.2.1 ≤ 3072) (h1 : n.1 ≤ 601024) (h2 : n.2 ≤ 7293034) (kk : ∀ S2, Inv S2 → LOk l G E n 2125 (LV i) [] S2) : LOk l G E n 1461 (LV i) [] S := by
  obtain ⟨r, S1, S2, e1, e2, hI2⟩ := A_rests hI (G.2.2.2.2.2.2.2 (i + 1))
  refine ow_aload_n 1 (kdL_12.at 58 rfl) rfl rfl ?_
  refine lk_arg (i := i) (j := 1) (kdL_12.at 59 rfl) (kdL_12.at 60 rfl) (kdL_12.at 61 rfl) (kdL_12.at 62 rfl) (kdL_12.at 63 rfl) (by decide) (by omega) hL ?_
  refine lk_cI (as := [.int (G.2.2.2.2.2.2.2 (i + 1))]) (st := []) (kdL_13.at 0 rfl) kcL_187 sh_0 rfl rfl (by decide) (ok_m10_rests (G.2.2.2.2.2.2.2 (i + 1)) S) e1 (by decide) rfl (by decide) h1 h2 ?_
  refine ow_aload_n 2 (kdL_13.at 1 rfl) rfl rfl ?_
  refine lk_arg (i := i) (j := 1) (kdL_13.at 2 rfl) (kdL_13.at 3 rfl) (kdL_13.at 4 rfl) (kdL_13.at 5 rfl) (kdL_13.at 6 rfl) (by decide) (by omega) hL ?_
  refine lk_cI (as := [.int (G.2.2.2.2.2.2.2 (i + 1))]) (st := [.int r]) (kdL_13.at 7 rfl) kcL_190 sh_14 rfl rfl (by decide) (ok_m11_rests (G.2.2.2.2.2.2.2 (i + 1)) S1) e2 (by decide) rfl (Nat.le_of_ble_eq_true rfl) h1 h2 ?_
  refine lk_eq (tgt := 2125) (kdL_13.at 8 rfl) (by decide) rfl ?_
  exact kk S2 hI2
theorem case_42 (hI : Inv S) (hi : i + 6 ≤ G.2.2.2.2.2.2.1) (hL : G.2.2.2.2.2.2.1 ≤ 3072) (h1 : n.1 ≤ 601024) (h2 : n.2 ≤ 7293034) (kk : ∀ S2, Inv S2 → LOk l G E n 2125 (LV i) [] S2) : LOk l G E n 1486 (LV i) [] S := by
  obtain ⟨r, S1, S2, e1, e2, hI2⟩ := A_rest hI (G.2.2.2.2.2.2.2 (i + 1))
  refine ow_aload_n 1 (kdL_13.at 11 rfl) rfl rfl ?_
  refine lk_arg (i := i) (j := 1) (kdL_13.at 12 rfl) (kdL_13.at 13 rfl) (kdL_13.at 14 rfl) (kdL_13.at 15 rfl) (kdL_13.at 16 rfl) (by decide) (by omega) hL ?_
  refine lk_cI (as := [.int (G.2.2.2.2.2.2.2 (i + 1))]) (st := []) (kdL_13.at 17 rfl) kcL_191 sh_0 rfl rfl (by decide) (ok_m10_rest (G.2.2.2.2.2.2.2 (i + 1)) S) e1 (by decide) rfl (by decide) h1 h2 ?_
  refine ow_aload_n 2 (kdL_13.at 18 rfl) rfl rfl ?_
  refine lk_arg (i := i) (j := 1) (kdL_13.at 19 rfl) (kdL_13.at 20 rfl) (kdL_13.at 21 rfl) (kdL_13.at 22 rfl) (kdL_13.at 23 rfl) (by decide) (by omega) hL ?_
  refine lk_cI (as := [.int (G.2.2.2.2.2.2.2 (i + 1))]) (st := [.int r]) (kdL_13.at 24 rfl) kcL_194 sh_14 rfl rfl (by decide) (ok_m11_rest (G.2.2.2.2.2.2.2 (i + 1)) S1) e2 (by decide) rfl (Nat.le_of_ble_eq_true rfl) h1 h2 ?_
  refine lk_eq (tgt := 2125) (kdL_13.at 25 rfl) (by decide) rfl ?_
  exact kk S2 hI2
theorem case_43 (hI : Inv S) (hi : i + 6 ≤ G.2.2.2.2.2.2.1) (hL : G.2.2.2.2.2.2.1 ≤ 3072) (h1 : n.1 ≤ 601024) (h2 : n.2 ≤ 7293034) (kk : ∀ S2, Inv S2 → LOk l G E n 2125 (LV i) [] S2) : LOk l G E n 1511 (LV i) [] S := by
  obtain ⟨r, S1, S2, e1, e2, hI2⟩ := A_verdictOdds hI (G.2.2.2.2.2.2.2 (i + 1)) (G.2.2.2.2.2.2.2 (i + 2)) (decide (G.2.2.2.2.2.2.2 (i + 3) ≠ 0))
  refine ow_aload_n 1 (kdL_13.at 28 rfl) rfl rfl ?_
  refine lk_arg (i := i) (j := 1) (kdL_13.at 29 rfl) (kdL_13.at 30 rfl) (kdL_13.at 31 rfl) (kdL_13.at 32 rfl) (kdL_13.at 33 rfl) (by decide) (by omega) hL ?_
  refine lk_arg (i := i) (j := 2) (kdL_13.at 34 rfl) (kdL_13.at 35 rfl) (kdL_13.at 36 rfl) (kdL_13.at 37 rfl) (kdL_13.at 38 rfl) (by decide) (by omega) hL ?_
  refine lk_arg (i := i) (j := 3) (kdL_13.at 39 rfl) (kdL_13.at 40 rfl) (kdL_13.at 41 rfl) (kdL_13.at 42 rfl) (kdL_13.at 43 rfl) (by decide) (by omega) hL ?_
  refine lk_bool (kdL_13.at 44 rfl) (kdL_13.at 45 rfl) (kdL_13.at 46 rfl) (kdL_13.at 47 rfl) rfl rfl rfl ?_
  refine lk_cL (as := [.int (G.2.2.2.2.2.2.2 (i + 1)), .int (G.2.2.2.2.2.2.2 (i + 2)), .int (kb (decide (G.2.2.2.2.2.2.2 (i + 3) ≠ 0)))]) (st := []) (kdL_13.at 48 rfl) kcL_195 sh_0 rfl rfl (by decide) (ok_m10_verdictOdds (G.2.2.2.2.2.2.2 (i + 1)) (G.2.2.2.2.2.2.2 (i + 2)) (decide (G.2.2.2.2.2.2.2 (i + 3) ≠ 0)) S) e1 (by decide) rfl (by decide) h1 h2 ?_
  refine ow_aload_n 2 (kdL_13.at 49 rfl) rfl rfl ?_
  refine lk_arg (i := i) (j := 1) (kdL_13.at 50 rfl) (kdL_13.at 51 rfl) (kdL_13.at 52 rfl) (kdL_13.at 53 rfl) (kdL_13.at 54 rfl) (by decide) (by omega) hL ?_
  refine lk_arg (i := i) (j := 2) (kdL_13.at 55 rfl) (kdL_13.at 56 rfl) (kdL_13.at 57 rfl) (kdL_13.at 58 rfl) (kdL_13.at 59 rfl) (by decide) (by omega) hL ?_
  refine lk_arg (i := i) (j := 3) (kdL_13.at 60 rfl) (kdL_13.at 61 rfl) (kdL_13.at 62 rfl) (kdL_13.at 63 rfl) (kdL_14.at 0 rfl) (by decide) (by omega) hL ?_
  refine lk_bool (kdL_14.at 1 rfl) (kdL_14.at 2 rfl) (kdL_14.at 3 rfl) (kdL_14.at 4 rfl) rfl rfl rfl ?_
  refine lk_cL (as := [.int (G.2.2.2.2.2.2.2 (i + 1)), .int (G.2.2.2.2.2.2.2 (i + 2)), .int (kb (decide (G.2.2.2.2.2.2.2 (i + 3) ≠ 0)))]) (st := [.long r]) (kdL_14.at 5 rfl) kcL_199 sh_14 rfl rfl (by decide) (ok_m11_verdictOdds (G.2.2.2.2.2.2.2 (i + 1)) (G.2.2.2.2.2.2.2 (i + 2)) (decide (G.2.2.2.2.2.2.2 (i + 3) ≠ 0)) S1) e2 (by decide) rfl (Nat.le_of_ble_eq_true rfl) h1 h2 ?_
  refine lk_leq (tgt := 2125) (kdL_14.at 6 rfl) (kdL_14.at 7 rfl) (by decide) rfl ?_
  exact kk S2 hI2
theorem case_44 (hI : Inv S) (hi : i + 6 ≤ G.2.2.2.2.2.2.1) (hL : G.2.2.2.2.2.2.1 ≤ 3072) (h1 : n.1 ≤ 601024) (h2 : n.2 ≤ 7293034) (kk : ∀ S2, Inv S2 → LOk l G E n 2125 (LV i) [] S2) : LOk l G E n 1577 (LV i) [] S := by
  obtain ⟨r, S1, S2, e1, e2, hI2⟩ := A_looks hI (G.2.2.2.2.2.2.2 (i + 1)) (G.2.2.2.2.2.2.2 (i + 2)) (G.2.2.2.2.2.2.2 (i + 3))
  refine ow_aload_n 1 (kdL_14.at 10 rfl) rfl rfl ?_
  refine lk_arg (i := i) (j := 1) (kdL_14.at 11 rfl) (kdL_14.at 12 rfl) (kdL_14.at 13 rfl) (kdL_14.at 14 rfl) (kdL_14.at 15 rfl) (by decide) (by omega) hL ?_
  refine lk_arg (i := i) (j := 2) (kdL_14.at 16 rfl) (kdL_14.at 17 rfl) (kdL_14.at 18 rfl) (kdL_14.at 19 rfl) (kdL_14.at 20 rfl) (by decide) (by omega) hL ?_
  refine lk_arg (i := i) (j := 3) (kdL_14.at 21 rfl) (kdL_14.at 22 rfl) (kdL_14.at 23 rfl) (kdL_14.at 24 rfl) (kdL_14.at 25 rfl) (by decide) (by omega) hL ?_
  refine lk_cI (as := [.int (G.2.2.2.2.2.2.2 (i + 1)), .int (G.2.2.2.2.2.2.2 (i + 2)), .int (G.2.2.2.2.2.2.2 (i + 3))]) (st := []) (kdL_14.at 26 rfl) kcL_200 sh_0 rfl rfl (by decide) (ok_m10_looks (G.2.2.2.2.2.2.2 (i + 1)) (G.2.2.2.2.2.2.2 (i + 2)) (G.2.2.2.2.2.2.2 (i + 3)) S) e1 (by decide) rfl (by decide) h1 h2 ?_
  refine ow_aload_n 2 (kdL_14.at 27 rfl) rfl rfl ?_
  refine lk_arg (i := i) (j := 1) (kdL_14.at 28 rfl) (kdL_14.at 29 rfl) (kdL_14.at 30 rfl) (kdL_14.at 31 rfl) (kdL_14.at 32 rfl) (by decide) (by omega) hL ?_
  refine lk_arg (i := i) (j := 2) (kdL_14.at 33 rfl) (kdL_14.at 34 rfl) (kdL_14.at 35 rfl) (kdL_14.at 36 rfl) (kdL_14.at 37 rfl) (by decide) (by omega) hL ?_
  refine lk_arg (i := i) (j := 3) (kdL_14.at 38 rfl) (kdL_14.at 39 rfl) (kdL_14.at 40 rfl) (kdL_14.at 41 rfl) (kdL_14.at 42 rfl) (by decide) (by omega) hL ?_
  refine lk_cI (as := [.int (G.2.2.2.2.2.2.2 (i + 1)), .int (G.2.2.2.2.2.2.2 (i + 2)), .int (G.2.2.2.2.2.2.2 (i + 3))]) (st := [.int r]) (kdL_14.at 43 rfl) kcL_204 sh_14 rfl rfl (by decide) (ok_m11_looks (G.2.2.2.2.2.2.2 (i + 1)) (G.2.2.2.2.2.2.2 (i + 2)) (G.2.2.2.2.2.2.2 (i + 3)) S1) e2 (by decide) rfl (Nat.le_of_ble_eq_true rfl) h1 h2 ?_
  refine lk_eq (tgt := 2125) (kdL_14.at 44 rfl) (by decide) rfl ?_
  exact kk S2 hI2
theorem case_45 (hI : Inv S) (hi : i + 6 ≤ G.2.2.2.2.2.2.1) (hL : G.2.2.2.2.2.2.1 ≤ 3072) (h1 : n.1 ≤ 601024) (h2 : n.2 ≤ 7293034) (kk : ∀ S2, Inv S2 → LOk l G E n 2125 (LV i) [] S2) : LOk l G E n 1626 (LV i) [] S := by
  obtain ⟨r, S1, S2, e1, e2, hI2⟩ := A_verdict hI (G.2.2.2.2.2.2.2 (i + 1)) (G.2.2.2.2.2.2.2 (i + 2))
  refine ow_aload_n 1 (kdL_14.at 47 rfl) rfl rfl ?_
  refine lk_arg (i := i) (j := 1) (kdL_14.at 48 rfl) (kdL_14.at 49 rfl) (kdL_14.at 50 rfl) (kdL_14.at 51 rfl) (kdL_14.at 52 rfl) (by decide) (by omega) hL ?_
  refine lk_arg (i := i) (j := 2) (kdL_14.at 53 rfl) (kdL_14.at 54 rfl) (kdL_14.at 55 rfl) (kdL_14.at 56 rfl) (kdL_14.at 57 rfl) (by decide) (by omega) hL ?_
  refine lk_cI (as := [.int (G.2.2.2.2.2.2.2 (i + 1)), .int (G.2.2.2.2.2.2.2 (i + 2))]) (st := []) (kdL_14.at 58 rfl) kcL_205 sh_0 rfl rfl (by decide) (ok_m10_verdict (G.2.2.2.2.2.2.2 (i + 1)) (G.2.2.2.2.2.2.2 (i + 2)) S) e1 (by decide) rfl (by decide) h1 h2 ?_
  refine ow_aload_n 2 (kdL_14.at 59 rfl) rfl rfl ?_
  refine lk_arg (i := i) (j := 1) (kdL_14.at 60 rfl) (kdL_14.at 61 rfl) (kdL_14.at 62 rfl) (kdL_14.at 63 rfl) (kdL_15.at 0 rfl) (by decide) (by omega) hL ?_
  refine lk_arg (i := i) (j := 2) (kdL_15.at 1 rfl) (kdL_15.at 2 rfl) (kdL_15.at 3 rfl) (kdL_15.at 4 rfl) (kdL_15.at 5 rfl) (by decide) (by omega) hL ?_
  refine lk_cI (as := [.int (G.2.2.2.2.2.2.2 (i + 1)), .int (G.2.2.2.2.2.2.2 (i + 2))]) (st := [.int r]) (kdL_15.at 6 rfl) kcL_208 sh_14 rfl rfl (by decide) (ok_m11_verdict (G.2.2.2.2.2.2.2 (i + 1)) (G.2.2.2.2.2.2.2 (i + 2)) S1) e2 (by decide) rfl (Nat.le_of_ble_eq_true rfl) h1 h2 ?_
  refine lk_eq (tgt := 2125) (kdL_15.at 7 rfl) (by decide) rfl ?_
  exact kk S2 hI2
theorem case_46 (hI : Inv S) (hi : i + 6 ≤ G.2.2.2.2.2.2.1) (hL : G.2.2.2.2.2.2.1 ≤ 3072) (h1 : n.1 ≤ 601024) (h2 : n.2 ≤ 7293034) (kk : ∀ S2, Inv S2 → LOk l G E n 2125 (LV i) [] S2) : LOk l G E n 1663 (LV i) [] S := by
  obtain ⟨r, S1, S2, e1, e2, hI2⟩ := A_odds hI (G.2.2.2.2.2.2.2 (i + 1)) (G.2.2.2.2.2.2.2 (i + 2)) (G.2.2.2.2.2.2.2 (i + 3)) (decide (G.2.2.2.2.2.2.2 (i + 4) ≠ 0))
  refine ow_aload_n 1 (kdL_15.at 10 rfl) rfl rfl ?_
  refine lk_arg (i := i) (j := 1) (kdL_15.at 11 rfl) (kdL_15.at 12 rfl) (kdL_15.at 13 rfl) (kdL_15.at 14 rfl) (kdL_15.at 15 rfl) (by decide) (by omega) hL ?_
  refine lk_arg (i := i) (j := 2) (kdL_15.at 16 rfl) (kdL_15.at 17 rfl) (kdL_15.at 18 rfl) (kdL_15.at 19 rfl) (kdL_15.at 20 rfl) (by decide) (by omega) hL ?_
  refine lk_arg (i := i) (j := 3) (kdL_15.at 21 rfl) (kdL_15.at 22 rfl) (kdL_15.at 23 rfl) (kdL_15.at 24 rfl) (kdL_15.at 25 rfl) (by decide) (by omega) hL ?_
  refine lk_arg (i := i) (j := 4) (kdL_15.at 26 rfl) (kdL_15.at 27 rfl) (kdL_15.at 28 rfl) (kdL_15.at 29 rfl) (kdL_15.at 30 rfl) (by decide) (by omega) hL ?_
  refine lk_bool (kdL_15.at 31 rfl) (kdL_15.at 32 rfl) (kdL_15.at 33 rfl) (kdL_15.at 34 rfl) rfl rfl rfl ?_
  refine lk_cL (as := [.int (G.2.2.2.2.2.2.2 (i + 1)), .int (G.2.2.2.2.2.2.2 (i + 2)), .int (G.2.2.2.2.2.2.2 (i + 3)), .int (kb (decide (G.2.2.2.2.2.2.2 (i + 4) ≠ 0)))]) (st := []) (kdL_15.at 35 rfl) kcL_209 sh_0 rfl rfl (by decide) (ok_m10_odds (G.2.2.2.2.2.2.2 (i + 1)) (G.2.2.2.2.2.2.2 (i + 2)) (G.2.2.2.2.2.2.2 (i + 3)) (decide (G.2.2.2.2.2.2.2 (i + 4) ≠ 0)) S) e1 (by decide) rfl (by decide) h1 h2 ?_
  refine ow_aload_n 2 (kdL_15.at 36 rfl) rfl rfl ?_
  refine lk_arg (i := i) (j := 1) (kdL_15.at 37 rfl) (kdL_15.at 38 rfl) (kdL_15.at 39 rfl) (kdL_15.at 40 rfl) (kdL_15.at 41 rfl) (by decide) (by omega) hL ?_
  refine lk_arg (i := i) (j := 2) (kdL_15.at 42 rfl) (kdL_15.at 43 rfl) (kdL_15.at 44 rfl) (kdL_15.at 45 rfl) (kdL_15.at 46 rfl) (by decide) (by omega) hL ?_
  refine lk_arg (i := i) (j := 3) (kdL_15.at 47 rfl) (kdL_15.at 48 rfl) (kdL_15.at 49 rfl) (kdL_15.at 50 rfl) (kdL_15.at 51 rfl) (by decide) (by omega) hL ?_
  refine lk_arg (i := i) (j := 4) (kdL_15.at 52 rfl) (kdL_15.at 53 rfl) (kdL_15.at 54 rfl) (kdL_15.at 55 rfl) (kdL_15.at 56 rfl) (by decide) (by omega) hL ?_
  refine lk_bool (kdL_15.at 57 rfl) (kdL_15.at 58 rfl) (kdL_15.at 59 rfl) (kdL_15.at 60 rfl) rfl rfl rfl ?_
  refine lk_cL (as := [.int (G.2.2.2.2.2.2.2 (i + 1)), .int (G.2.2.2.2.2.2.2 (i + 2)), .int (G.2.2.2.2.2.2.2 (i + 3)), .int (kb (decide (G.2.2.2.2.2.2.2 (i + 4) ≠ 0)))]) (st := [.long r]) (kdL_15.at 61 rfl) kcL_213 sh_14 rfl rfl (by decide) (ok_m11_odds (G.2.2.2.2.2.2.2 (i + 1)) (G.2.2.2.2.2.2.2 (i + 2)) (G.2.2.2.2.2.2.2 (i + 3)) (decide (G.2.2.2.2.2.2.2 (i + 4) ≠ 0)) S1) e2 (by decide) rfl (Nat.le_of_ble_eq_true rfl) h1 h2 ?_
  refine lk_leq (tgt := 2125) (kdL_15.at 62 rfl) (kdL_15.at 63 rfl) (by decide) rfl ?_
  exact kk S2 hI2
theorem case_47 (hI : Inv S) (hi : i + 6 ≤ G.2.2.2.2.2.2.1) (hL : G.2.2.2.2.2.2.1 ≤ 3072) (h1 : n.1 ≤ 601024) (h2 : n.2 ≤ 7293034) (kk : ∀ S2, Inv S2 → LOk l G E n 2125 (LV i) [] S2) : LOk l G E n 1741 (LV i) [] S := by
  obtain ⟨r, S1, S2, e1, e2, hI2⟩ := A_mean hI (G.2.2.2.2.2.2.2 (i + 1)) (G.2.2.2.2.2.2.2 (i + 2)) (decide (G.2.2.2.2.2.2.2 (i + 3) ≠ 0))
  refine ow_aload_n 1 (kdL_16.at 2 rfl) rfl rfl ?_
  refine lk_arg (i := i) (j := 1) (kdL_16.at 3 rfl) (kdL_16.at 4 rfl) (kdL_16.at 5 rfl) (kdL_16.at 6 rfl) (kdL_16.at 7 rfl) (by decide) (by omega) hL ?_
  refine lk_arg (i := i) (j := 2) (kdL_16.at 8 rfl) (kdL_16.at 9 rfl) (kdL_16.at 10 rfl) (kdL_16.at 11 rfl) (kdL_16.at 12 rfl) (by decide) (by omega) hL ?_
  refine lk_arg (i := i) (j := 3) (kdL_16.at 13 rfl) (kdL_16.at 14 rfl) (kdL_16.at 15 rfl) (kdL_16.at 16 rfl) (kdL_16.at 17 rfl) (by decide) (by omega) hL ?_
  refine lk_bool (kdL_16.at 18 rfl) (kdL_16.at 19 rfl) (kdL_16.at 20 rfl) (kdL_16.at 21 rfl) rfl rfl rfl ?_
  refine lk_cL (as := [.int (G.2.2.2.2.2.2.2 (i + 1)), .int (G.2.2.2.2.2.2.2 (i + 2)), .int (kb (decide (G.2.2.2.2.2.2.2 (i + 3) ≠ 0)))]) (st := []) (kdL_16.at 22 rfl) kcL_214 sh_0 rfl rfl (by decide) (ok_m10_mean (G.2.2.2.2.2.2.2 (i + 1)) (G.2.2.2.2.2.2.2 (i + 2)) (decide (G.2.2.2.2.2.2.2 (i + 3) ≠ 0)) S) e1 (by decide) rfl (by decide) h1 h2 ?_
  refine ow_aload_n 2 (kdL_16.at 23 rfl) rfl rfl ?_
  refine lk_arg (i := i) (j := 1) (kdL_16.at 24 rfl) (kdL_16.at 25 rfl) (kdL_16.at 26 rfl) (kdL_16.at 27 rfl) (kdL_16.at 28 rfl) (by decide) (by omega) hL ?_
  refine lk_arg (i := i) (j := 2) (kdL_16.at 29 rfl) (kdL_16.at 30 rfl) (kdL_16.at 31 rfl) (kdL_16.at 32 rfl) (kdL_16.at 33 rfl) (by decide) (by omega) hL ?_
  refine lk_arg (i := i) (j := 3) (kdL_16.at 34 rfl) (kdL_16.at 35 rfl) (kdL_16.at 36 rfl) (kdL_16.at 37 rfl) (kdL_16.at 38 rfl) (by decide) (by omega) hL ?_
  refine lk_bool (kdL_16.at 39 rfl) (kdL_16.at 40 rfl) (kdL_16.at 41 rfl) (kdL_16.at 42 rfl) rfl rfl rfl ?_
  refine lk_cL (as := [.int (G.2.2.2.2.2.2.2 (i + 1)), .int (G.2.2.2.2.2.2.2 (i + 2)), .int (kb (decide (G.2.2.2.2.2.2.2 (i + 3) ≠ 0)))]) (st := [.long r]) (kdL_16.at 43 rfl) kcL_217 sh_14 rfl rfl (by decide) (ok_m11_mean (G.2.2.2.2.2.2.2 (i + 1)) (G.2.2.2.2.2.2.2 (i + 2)) (decide (G.2.2.2.2.2.2.2 (i + 3) ≠ 0)) S1) e2 (by decide) rfl (Nat.le_of_ble_eq_true rfl) h1 h2 ?_
  refine lk_leq (tgt := 2125) (kdL_16.at 44 rfl) (kdL_16.at 45 rfl) (by decide) rfl ?_
  exact kk S2 hI2
theorem case_48 (hI : Inv S) (hi : i + 6 ≤ G.2.2.2.2.2.2.1) (hL : G.2.2.2.2.2.2.1 ≤ 3072) (h1 : n.1 ≤ 601024) (h2 : n.2 ≤ 7293034) (kk : ∀ S2, Inv S2 → LOk l G E n 2125 (LV i) [] S2) : LOk l G E n 1807 (LV i) [] S := by
  obtain ⟨r, S1, S2, e1, e2, hI2⟩ := A_drawn hI (G.2.2.2.2.2.2.2 (i + 1)) (G.2.2.2.2.2.2.2 (i + 2)) (G.2.2.2.2.2.2.2 (i + 3))
  refine ow_aload_n 1 (kdL_16.at 48 rfl) rfl rfl ?_
  refine lk_arg (i := i) (j := 1) (kdL_16.at 49 rfl) (kdL_16.at 50 rfl) (kdL_16.at 51 rfl) (kdL_16.at 52 rfl) (kdL_16.at 53 rfl) (by decide) (by omega) hL ?_
  refine lk_arg (i := i) (j := 2) (kdL_16.at 54 rfl) (kdL_16.at 55 rfl) (kdL_16.at 56 rfl) (kdL_16.at 57 rfl) (kdL_16.at 58 rfl) (by decide) (by omega) hL ?_
  refine lk_arg (i := i) (j := 3) (kdL_16.at 59 rfl) (kdL_16.at 60 rfl) (kdL_16.at 61 rfl) (kdL_16.at 62 rfl) (kdL_16.at 63 rfl) (by decide) (by omega) hL ?_
  refine lk_cI (as := [.int (G.2.2.2.2.2.2.2 (i + 1)), .int (G.2.2.2.2.2.2.2 (i + 2)), .int (G.2.2.2.2.2.2.2 (i + 3))]) (st := []) (kdL_17.at 0 rfl) kcL_218 sh_0 rfl rfl (by decide) (ok_m10_drawn (G.2.2.2.2.2.2.2 (i + 1)) (G.2.2.2.2.2.2.2 (i + 2)) (G.2.2.2.2.2.2.2 (i + 3)) S) e1 (by decide) rfl (by decide) h1 h2 ?_
  refine ow_aload_n 2 (kdL_17.at 1 rfl) rfl rfl ?_
  refine lk_arg (i := i) (j := 1) (kdL_17.at 2 rfl) (kdL_17.at 3 rfl) (kdL_17.at 4 rfl) (kdL_17.at 5 rfl) (kdL_17.at 6 rfl) (by decide) (by omega) hL ?_
  refine lk_arg (i := i) (j := 2) (kdL_17.at 7 rfl) (kdL_17.at 8 rfl) (kdL_17.at 9 rfl) (kdL_17.at 10 rfl) (kdL_17.at 11 rfl) (by decide) (by omega) hL ?_
  refine lk_arg (i := i) (j := 3) (kdL_17.at 12 rfl) (kdL_17.at 13 rfl) (kdL_17.at 14 rfl) (kdL_17.at 15 rfl) (kdL_17.at 16 rfl) (by decide) (by omega) hL ?_
  refine lk_cI (as := [.int (G.2.2.2.2.2.2.2 (i + 1)), .int (G.2.2.2.2.2.2.2 (i + 2)), .int (G.2.2.2.2.2.2.2 (i + 3))]) (st := [.int r]) (kdL_17.at 17 rfl) kcL_221 sh_14 rfl rfl (by decide) (ok_m11_drawn (G.2.2.2.2.2.2.2 (i + 1)) (G.2.2.2.2.2.2.2 (i + 2)) (G.2.2.2.2.2.2.2 (i + 3)) S1) e2 (by decide) rfl (Nat.le_of_ble_eq_true rfl) h1 h2 ?_
  refine lk_eq (tgt := 2125) (kdL_17.at 18 rfl) (by decide) rfl ?_
  exact kk S2 hI2
theorem case_49 (hI : Inv S) (hi : i + 6 ≤ G.2.2.2.2.2.2.1) (hL : G.2.2.2.2.2.2.1 ≤ 3072) (h1 : n.1 ≤ 601024) (h2 : n.2 ≤ 7293034) (kk : ∀ S2, Inv S2 → LOk l G E n 2125 (LV i) [] S2) : LOk l G E n 1856 (LV i) [] S := by
  obtain ⟨r, S1, S2, e1, e2, hI2⟩ := A_season hI 
  refine ow_aload_n 1 (kdL_17.at 21 rfl) rfl rfl ?_
  refine lk_cI (as := []) (st := []) (kdL_17.at 22 rfl) kcL_222 sh_0 rfl rfl (by decide) (ok_m10_season  S) e1 (by decide) rfl (by decide) h1 h2 ?_
  refine ow_aload_n 2 (kdL_17.at 23 rfl) rfl rfl ?_
  refine lk_cI (as := []) (st := [.int r]) (kdL_17.at 24 rfl) kcL_225 sh_14 rfl rfl (by decide) (ok_m11_season  S1) e2 (by decide) rfl (Nat.le_of_ble_eq_true rfl) h1 h2 ?_
  refine lk_eq (tgt := 2125) (kdL_17.at 25 rfl) (by decide) rfl ?_
  exact kk S2 hI2
theorem case_50 (hI : Inv S) (hi : i + 6 ≤ G.2.2.2.2.2.2.1) (hL : G.2.2.2.2.2.2.1 ≤ 3072) (h1 : n.1 ≤ 601024) (h2 : n.2 ≤ 7293034) (kk : ∀ S2, Inv S2 → LOk l G E n 2125 (LV i) [] S2) : LOk l G E n 1869 (LV i) [] S := by
  obtain ⟨r, S1, S2, e1, e2, hI2⟩ := A_change hI (G.2.2.2.2.2.2.2 (i + 1))
  refine ow_aload_n 1 (kdL_17.at 28 rfl) rfl rfl ?_
  refine lk_arg (i := i) (j := 1) (kdL_17.at 29 rfl) (kdL_17.at 30 rfl) (kdL_17.at 31 rfl) (kdL_17.at 32 rfl) (kdL_17.at 33 rfl) (by decide) (by omega) hL ?_
  refine lk_cI (as := [.int (G.2.2.2.2.2.2.2 (i + 1))]) (st := []) (kdL_17.at 34 rfl) kcL_226 sh_0 rfl rfl (by decide) (ok_m10_change (G.2.2.2.2.2.2.2 (i + 1)) S) e1 (by decide) rfl (by decide) h1 h2 ?_
  refine ow_aload_n 2 (kdL_17.at 35 rfl) rfl rfl ?_
  refine lk_arg (i := i) (j := 1) (kdL_17.at 36 rfl) (kdL_17.at 37 rfl) (kdL_17.at 38 rfl) (kdL_17.at 39 rfl) (kdL_17.at 40 rfl) (by decide) (by omega) hL ?_
  refine lk_cI (as := [.int (G.2.2.2.2.2.2.2 (i + 1))]) (st := [.int r]) (kdL_17.at 41 rfl) kcL_229 sh_14 rfl rfl (by decide) (ok_m11_change (G.2.2.2.2.2.2.2 (i + 1)) S1) e2 (by decide) rfl (Nat.le_of_ble_eq_true rfl) h1 h2 ?_
  refine lk_eq (tgt := 2125) (kdL_17.at 42 rfl) (by decide) rfl ?_
  exact kk S2 hI2
theorem case_51 (hI : Inv S) (hi : i + 6 ≤ G.2.2.2.2.2.2.1) (hL : G.2.2.2.2.2.2.1 ≤ 3072) (h1 : n.1 ≤ 601024) (h2 : n.2 ≤ 7293034) (kk : ∀ S2, Inv S2 → LOk l G E n 2125 (LV i) [] S2) : LOk l G E n 1894 (LV i) [] S := by
  obtain ⟨r, S1, S2, e1, e2, hI2⟩ := A_step hI (G.2.2.2.2.2.2.2 (i + 1)) (G.2.2.2.2.2.2.2 (i + 2))
  refine ow_aload_n 1 (kdL_17.at 45 rfl) rfl rfl ?_
  refine lk_arg (i := i) (j := 1) (kdL_17.at 46 rfl) (kdL_17.at 47 rfl) (kdL_17.at 48 rfl) (kdL_17.at 49 rfl) (kdL_17.at 50 rfl) (by decide) (by omega) hL ?_
  refine lk_arg (i := i) (j := 2) (kdL_17.at 51 rfl) (kdL_17.at 52 rfl) (kdL_17.at 53 rfl) (kdL_17.at 54 rfl) (kdL_17.at 55 rfl) (by decide) (by omega) hL ?_
  refine lk_cB (as := [.int (G.2.2.2.2.2.2.2 (i + 1)), .int (G.2.2.2.2.2.2.2 (i + 2))]) (st := []) (kdL_17.at 56 rfl) kcL_230 sh_0 rfl rfl (by decide) (ok_m10_step (G.2.2.2.2.2.2.2 (i + 1)) (G.2.2.2.2.2.2.2 (i + 2)) S) e1 (by decide) rfl (by decide) h1 h2 ?_
  refine ow_aload_n 2 (kdL_17.at 57 rfl) rfl rfl ?_
  refine lk_arg (i := i) (j := 1) (kdL_17.at 58 rfl) (kdL_17.at 59 rfl) (kdL_17.at 60 rfl) (kdL_17.at 61 rfl) (kdL_17.at 62 rfl) (by decide) (by omega) hL ?_
  refine lk_arg (i := i) (j := 2) (kdL_17.at 63 rfl) (kdL_18.at 0 rfl) (kdL_18.at 1 rfl) (kdL_18.at 2 rfl) (kdL_18.at 3 rfl) (by decide) (by omega) hL ?_
  refine lk_cB (as := [.int (G.2.2.2.2.2.2.2 (i + 1)), .int (G.2.2.2.2.2.2.2 (i + 2))]) (st := [.int (kb r)]) (kdL_18.at 4 rfl) kcL_234 sh_14 rfl rfl (by decide) (ok_m11_step (G.2.2.2.2.2.2.2 (i + 1)) (G.2.2.2.2.2.2.2 (i + 2)) S1) e2 (by decide) rfl (Nat.le_of_ble_eq_true rfl) h1 h2 ?_
  refine lk_eq (tgt := 2125) (kdL_18.at 5 rfl) (by decide) rfl ?_
  exact kk S2 hI2
theorem case_52 (hI : Inv S) (hi : i + 6 ≤ G.2.2.2.2.2.2.1) (hL : G.2.2.2.2.2.2.1 ≤ 3072) (h1 : n.1 ≤ 601024) (h2 : n.2 ≤ 7293034) (kk : ∀ S2, Inv S2 → LOk l G E n 2125 (LV i) [] S2) : LOk l G E n 1931 (LV i) [] S := by
  obtain ⟨r, S1, S2, e1, e2, hI2⟩ := A_pay hI (G.2.2.2.2.2.2.2 (i + 1)) (G.2.2.2.2.2.2.2 (i + 2)) (G.2.2.2.2.2.2.2 (i + 3))
  refine ow_aload_n 1 (kdL_18.at 8 rfl) rfl rfl ?_
  refine lk_arg (i := i) (j := 1) (kdL_18.at 9 rfl) (kdL_18.at 10 rfl) (kdL_18.at 11 rfl) (kdL_18.at 12 rfl) (kdL_18.at 13 rfl) (by decide) (by omega) hL ?_
  refine lk_arg (i := i) (j := 2) (kdL_18.at 14 rfl) (kdL_18.at 15 rfl) (kdL_18.at 16 rfl) (kdL_18.at 17 rfl) (kdL_18.at 18 rfl) (by decide) (by omega) hL ?_
  refine lk_arg (i := i) (j := 3) (kdL_18.at 19 rfl) (kdL_18.at 20 rfl) (kdL_18.at 21 rfl) (kdL_18.at 22 rfl) (kdL_18.at 23 rfl) (by decide) (by omega) hL ?_
  refine lk_cI (as := [.int (G.2.2.2.2.2.2.2 (i + 1)), .int (G.2.2.2.2.2.2.2 (i + 2)), .int (G.2.2.2.2.2.2.2 (i + 3))]) (st := []) (kdL_18.at 24 rfl) kcL_235 sh_0 rfl rfl (by decide) (ok_m10_pay (G.2.2.2.2.2.2.2 (i + 1)) (G.2.2.2.2.2.2.2 (i + 2)) (G.2.2.2.2.2.2.2 (i + 3)) S) e1 (by decide) rfl (by decide) h1 h2 ?_
  refine ow_aload_n 2 (kdL_18.at 25 rfl) rfl rfl ?_
  refine lk_arg (i := i) (j := 1) (kdL_18.at 26 rfl) (kdL_18.at 27 rfl) (kdL_18.at 28 rfl) (kdL_18.at 29 rfl) (kdL_18.at 30 rfl) (by decide) (by omega) hL ?_
  refine lk_arg (i := i) (j := 2) (kdL_18.at 31 rfl) (kdL_18.at 32 rfl) (kdL_18.at 33 rfl) (kdL_18.at 34 rfl) (kdL_18.at 35 rfl) (by decide) (by omega) hL ?_
  refine lk_arg (i := i) (j := 3) (kdL_18.at 36 rfl) (kdL_18.at 37 rfl) (kdL_18.at 38 rfl) (kdL_18.at 39 rfl) (kdL_18.at 40 rfl) (by decide) (by omega) hL ?_
  refine lk_cI (as := [.int (G.2.2.2.2.2.2.2 (i + 1)), .int (G.2.2.2.2.2.2.2 (i + 2)), .int (G.2.2.2.2.2.2.2 (i + 3))]) (st := [.int r]) (kdL_18.at 41 rfl) kcL_238 sh_14 rfl rfl (by decide) (ok_m11_pay (G.2.2.2.2.2.2.2 (i + 1)) (G.2.2.2.2.2.2.2 (i + 2)) (G.2.2.2.2.2.2.2 (i + 3)) S1) e2 (by decide) rfl (Nat.le_of_ble_eq_true rfl) h1 h2 ?_
  refine lk_eq (tgt := 2125) (kdL_18.at 42 rfl) (by decide) rfl ?_
  exact kk S2 hI2
theorem case_53 (hI : Inv S) (hi : i + 6 ≤ G.2.2.2.2.2.2.1) (hL : G.2.2.2.2.2.2.1 ≤ 3072) (h1 : n.1 ≤ 601024) (h2 : n.2 ≤ 7293034) (kk : ∀ S2, Inv S2 → LOk l G E n 2125 (LV i) [] S2) : LOk l G E n 1980 (LV i) [] S := by
  obtain ⟨r, S1, S2, e1, e2, hI2⟩ := A_undo hI 
  refine ow_aload_n 1 (kdL_18.at 45 rfl) rfl rfl ?_
  refine lk_cB (as := []) (st := []) (kdL_18.at 46 rfl) kcL_239 sh_0 rfl rfl (by decide) (ok_m10_undo  S) e1 (by decide) rfl (by decide) h1 h2 ?_
  refine ow_aload_n 2 (kdL_18.at 47 rfl) rfl rfl ?_
  refine lk_cB (as := []) (st := [.int (kb r)]) (kdL_18.at 48 rfl) kcL_243 sh_14 rfl rfl (by decide) (ok_m11_undo  S1) e2 (by decide) rfl (Nat.le_of_ble_eq_true rfl) h1 h2 ?_
  refine lk_eq (tgt := 2125) (kdL_18.at 49 rfl) (by decide) rfl ?_
  exact kk S2 hI2
theorem case_54 (hI : Inv S) (hi : i + 6 ≤ G.2.2.2.2.2.2.1) (hL : G.2.2.2.2.2.2.1 ≤ 3072) (h1 : n.1 ≤ 601024) (h2 : n.2 ≤ 7293034) (kk : ∀ S2, Inv S2 → LOk l G E n 2125 (LV i) [] S2) : LOk l G E n 1993 (LV i) [] S := by
  obtain ⟨r, S1, S2, e1, e2, hI2⟩ := A_image hI 
  refine ow_aload_n 1 (kdL_18.at 52 rfl) rfl rfl ?_
  refine lk_cI (as := []) (st := []) (kdL_18.at 53 rfl) kcL_244 sh_0 rfl rfl (by decide) (ok_m10_image  S) e1 (by decide) rfl (by decide) h1 h2 ?_
  refine ow_aload_n 2 (kdL_18.at 54 rfl) rfl rfl ?_
  refine lk_cI (as := []) (st := [.int r]) (kdL_18.at 55 rfl) kcL_247 sh_14 rfl rfl (by decide) (ok_m11_image  S1) e2 (by decide) rfl (Nat.le_of_ble_eq_true rfl) h1 h2 ?_
  refine lk_eq (tgt := 2125) (kdL_18.at 56 rfl) (by decide) rfl ?_
  exact kk S2 hI2
theorem case_55 (hI : Inv S) (hi : i + 6 ≤ G.2.2.2.2.2.2.1) (hL : G.2.2.2.2.2.2.1 ≤ 3072) (h1 : n.1 ≤ 601024) (h2 : n.2 ≤ 7293034) (kk : ∀ S2, Inv S2 → LOk l G E n 2125 (LV i) [] S2) : LOk l G E n 2006 (LV i) [] S := by
  obtain ⟨r, S1, S2, e1, e2, hI2⟩ := A_back hI (G.2.2.2.2.2.2.2 (i + 1))
  refine ow_aload_n 1 (kdL_18.at 59 rfl) rfl rfl ?_
  refine lk_arg (i := i) (j := 1) (kdL_18.at 60 rfl) (kdL_18.at 61 rfl) (kdL_18.at 62 rfl) (kdL_18.at 63 rfl) (kdL_19.at 0 rfl) (by decide) (by omega) hL ?_
  refine lk_cB (as := [.int (G.2.2.2.2.2.2.2 (i + 1))]) (st := []) (kdL_19.at 1 rfl) kcL_248 sh_0 rfl rfl (by decide) (ok_m10_back (G.2.2.2.2.2.2.2 (i + 1)) S) e1 (by decide) rfl (by decide) h1 h2 ?_
  refine ow_aload_n 2 (kdL_19.at 2 rfl) rfl rfl ?_
  refine lk_arg (i := i) (j := 1) (kdL_19.at 3 rfl) (kdL_19.at 4 rfl) (kdL_19.at 5 rfl) (kdL_19.at 6 rfl) (kdL_19.at 7 rfl) (by decide) (by omega) hL ?_
  refine lk_cB (as := [.int (G.2.2.2.2.2.2.2 (i + 1))]) (st := [.int (kb r)]) (kdL_19.at 8 rfl) kcL_252 sh_14 rfl rfl (by decide) (ok_m11_back (G.2.2.2.2.2.2.2 (i + 1)) S1) e2 (by decide) rfl (Nat.le_of_ble_eq_true rfl) h1 h2 ?_
  refine lk_eq (tgt := 2125) (kdL_19.at 9 rfl) (by decide) rfl ?_
  exact kk S2 hI2
theorem case_57 (hI : Inv S) (hi : i + 6 ≤ G.2.2.2.2.2.2.1) (hL : G.2.2.2.2.2.2.1 ≤ 3072) (h1 : n.1 ≤ 601024) (h2 : n.2 ≤ 7293034) (kk : ∀ S2, Inv S2 → LOk l G E n 2125 (LV i) [] S2) : LOk l G E n 2087 (LV i) [] S := by
  obtain ⟨r, S1, S2, e1, e2, hI2⟩ := A_size hI (G.2.2.2.2.2.2.2 (i + 1))
  refine ow_aload_n 1 (kdL_19.at 47 rfl) rfl rfl ?_
  refine lk_arg (i := i) (j := 1) (kdL_19.at 48 rfl) (kdL_19.at 49 rfl) (kdL_19.at 50 rfl) (kdL_19.at 51 rfl) (kdL_19.at 52 rfl) (by decide) (by omega) hL ?_
  refine lk_cI (as := [.int (G.2.2.2.2.2.2.2 (i + 1))]) (st := []) (kdL_19.at 53 rfl) kcL_262 sh_0 rfl rfl (by decide) (ok_m10_size (G.2.2.2.2.2.2.2 (i + 1)) S) e1 (by decide) rfl (by decide) h1 h2 ?_
  refine ow_aload_n 2 (kdL_19.at 54 rfl) rfl rfl ?_
  refine lk_arg (i := i) (j := 1) (kdL_19.at 55 rfl) (kdL_19.at 56 rfl) (kdL_19.at 57 rfl) (kdL_19.at 58 rfl) (kdL_19.at 59 rfl) (by decide) (by omega) hL ?_
  refine lk_cI (as := [.int (G.2.2.2.2.2.2.2 (i + 1))]) (st := [.int r]) (kdL_19.at 60 rfl) kcL_265 sh_14 rfl rfl (by decide) (ok_m11_size (G.2.2.2.2.2.2.2 (i + 1)) S1) e2 (by decide) rfl (Nat.le_of_ble_eq_true rfl) h1 h2 ?_
  refine lk_eq (tgt := 2125) (kdL_19.at 61 rfl) (by decide) rfl ?_
  exact kk S2 hI2
theorem case_58 (hI : Inv S) (hi : i + 6 ≤ G.2.2.2.2.2.2.1) (hL : G.2.2.2.2.2.2.1 ≤ 3072) (h1 : n.1 ≤ 601024) (h2 : n.2 ≤ 7293034) (kk : ∀ S2, Inv S2 → LOk l G E n 2125 (LV i) [] S2) : LOk l G E n 2112 (LV i) [] S := by
  obtain ⟨r, S1, S2, e1, e2, hI2⟩ := A_trouble hI 
  refine ow_aload_n 1 (kdL_20.at 0 rfl) rfl rfl ?_
  refine lk_cI (as := []) (st := []) (kdL_20.at 1 rfl) kcL_266 sh_0 rfl rfl (by decide) (ok_m10_trouble  S) e1 (by decide) rfl (by decide) h1 h2 ?_
  refine ow_aload_n 2 (kdL_20.at 2 rfl) rfl rfl ?_
  refine lk_cI (as := []) (st := [.int r]) (kdL_20.at 3 rfl) kcL_269 sh_14 rfl rfl (by decide) (ok_m11_trouble  S1) e2 (by decide) rfl (Nat.le_of_ble_eq_true rfl) h1 h2 ?_
  refine lk_eq (tgt := 2125) (kdL_20.at 4 rfl) (by decide) rfl ?_
  exact kk S2 hI2
theorem case_1 {ad : Nat → Nat} {z : Nat} (hI : Inv S) (hi : i + 6 ≤ G.2.2.2.2.2.2.1) (hL : G.2.2.2.2.2.2.1 ≤ 3072) (h1 : n.1 ≤ 601024) (h2 : n.2 ≤ 7293034) (kk : ∀ ad2 z2 S2, Inv S2 → LOk l G (ad2, z2) n 2125 (LV i) [] S2) : LOk l G (ad, z) n 365 (LV i) [] S := by
  obtain ⟨r, S1, S2, e1, e2, hI2⟩ := A_pier hI (G.2.2.2.2.2.2.2 (i + 1))
  refine ow_aload_n 1 (kdL_1.at 18 rfl) rfl rfl ?_
  refine lk_arg (i := i) (j := 1) (kdL_1.at 19 rfl) (kdL_1.at 20 rfl) (kdL_1.at 21 rfl) (kdL_1.at 22 rfl) (kdL_1.at 23 rfl) (by decide) (by omega) hL ?_
  refine lk_pier (st := []) (kdL_1.at 24 rfl) kcL_24 e1 (by decide) rfl (fun q hq k hk => ?_) h1 h2 (fun ad2 z2 => ?_)
  · simp only [LV, List.mem_cons, List.not_mem_nil, or_false] at hq
    rcases hq with rfl | rfl | rfl | rfl | rfl
    · cases hk; rfl
    · cases hk; rfl
    · cases hk; rfl
    · cases hk; rfl
    · cases hk
  · refine ow_aload_n 2 (kdL_1.at 25 rfl) rfl rfl ?_
    refine lk_arg (i := i) (j := 1) (kdL_1.at 26 rfl) (kdL_1.at 27 rfl) (kdL_1.at 28 rfl) (kdL_1.at 29 rfl) (kdL_1.at 30 rfl) (by decide) (by omega) hL ?_
    refine lk_cI (as := [.int (G.2.2.2.2.2.2.2 (i + 1))]) (st := [.int r]) (kdL_1.at 31 rfl) kcL_27 sh_14 rfl rfl (by decide) (ok_m11_pier (G.2.2.2.2.2.2.2 (i + 1)) S1) e2 (by decide) rfl (Nat.le_of_ble_eq_true rfl) h1 h2 ?_
    refine lk_eq (tgt := 2125) (kdL_1.at 32 rfl) (by decide) rfl ?_
    exact kk ad2 z2 S2 hI2
end LAWC
