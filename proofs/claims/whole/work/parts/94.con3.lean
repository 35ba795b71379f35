-- CONSTRUCTORS: one by one
theorem kaw_I : Cond.arrayClass .int ∈ kT := kin1 135 (by decide +kernel) rfl
theorem kaw_B : Cond.arrayClass .byte ∈ kT := kin1 134 (by decide +kernel) rfl
theorem kaw_L : Cond.arrayClass .long ∈ kT := kin8 158 (by decide +kernel) rfl
def fs_0 : List Value := [.int 0, .null, .null, .null, .null, .null, .int 0]
theorem hfs_0 : ∀ j, j < 7 → defaultValue (kTyp 0 j) = vp_V fs_0 j := by decide +kernel
def fs_1 : List Value := [.null, .null, .null, .null, .int 0]
theorem hfs_1 : ∀ j, j < 5 → defaultValue (kTyp 1 j) = vp_V fs_1 j := by decide +kernel
def fs_2 : List Value := [.null, .int 0, .int 0]
theorem hfs_2 : ∀ j, j < 3 → defaultValue (kTyp 2 j) = vp_V fs_2 j := by decide +kernel
def fs_3 : List Value := [.null, .int 0, .int 0]
theorem hfs_3 : ∀ j, j < 3 → defaultValue (kTyp 3 j) = vp_V fs_3 j := by decide +kernel
def fs_4 : List Value := [.int 0, .null, .null, .null]
theorem hfs_4 : ∀ j, j < 4 → defaultValue (kTyp 4 j) = vp_V fs_4 j := by decide +kernel
def fs_5 : List Value := [.int 0, .int 0, .int 0, .int 0, .int 0, .int 0, .int 0, .null, .null, .null, .null, .null, .null, .null, .null, .null, .null]
theorem hfs_5 : ∀ j, j < 17 → defaultValue (kTyp 5 j) = vp_V fs_5 j := by decide +kernel
def fs_6 : List Value := [.long 0, .long 0]
theorem hfs_6 : ∀ j, j < 2 → defaultValue (kTyp 6 j) = vp_V fs_6 j := by decide +kernel
def fs_7 : List Value := [.null, .int 0, .int 0, .int 0, .int 0, .int 0, .null, .null, .null, .int 0, .int 0]
theorem hfs_7 : ∀ j, j < 11 → defaultValue (kTyp 7 j) = vp_V fs_7 j := by decide +kernel
def fs_8 : List Value := [.null, .null, .int 0, .int 0]
theorem hfs_8 : ∀ j, j < 4 → defaultValue (kTyp 8 j) = vp_V fs_8 j := by decide +kernel
def fs_9 : List Value := [.int 0, .int 0, .int 0, .int 0, .int 0, .int 0]
theorem hfs_9 : ∀ j, j < 6 → defaultValue (kTyp 9 j) = vp_V fs_9 j := by decide +kernel
def fs_10 : List Value := [.null, .int 0, .null, .null, .null, .int 0, .null, .null, .null, .int 0, .null, .null, .null, .null, .null, .null, .null, .null, .int 0]
theorem hfs_10 : ∀ j, j < 19 → defaultValue (kTyp 10 j) = vp_V fs_10 j := by decide +kernel
def fs_11 : List Value := [.int 0, .null, .int 0, .int 0, .int 0, .int 0, .int 0, .int 0, .int 0, .int 0, .int 0, .int 0, .null, .int 0, .int 0, .null, .null, .null, .null, .null, .null, .null, .int 0, .int 0, .null, .null, .int 0, .int 0, .int 0, .int 0, .null, .int 0, .int 0, .int 0, .null, .null, .int 0, .int 0, .null, .long 0, .long 0, .long 0]
theorem hfs_11 : ∀ j, j < 42 → defaultValue (kTyp 11 j) = vp_V fs_11 j := by decide +kernel
def mI_5 : kM := (⟨kR5, "<init>", "()V"⟩, prog_7_method_1_code, 1, none)
def kl_I5 : List (Nat × Instr × Nat × Nat) := [(0, .aload_n 0, 1, 1), (1, .invokespecial 3, 3, 4), (4, .aload_n 0, 1, 5), (5, .iconst 5, 1, 6), (6, .newarray .int, 2, 8), (8, .putfield 9, 3, 11), (11, .aload_n 0, 1, 12), (12, .iconst 5, 1, 13), (13, .newarray .int, 2, 15), (15, .putfield 15, 3, 18), (18, .aload_n 0, 1, 19), (19, .iconst 5, 1, 20), (20, .newarray .int, 2, 22), (22, .putfield 18, 3, 25), (25, .aload_n 0, 1, 26), (26, .iconst 5, 1, 27), (27, .newarray .int, 2, 29), (29, .putfield 21, 3, 32), (32, .aload_n 0, 1, 33), (33, .bipush 25, 2, 35), (35, .newarray .int, 2, 37), (37, .putfield 24, 3, 40), (40, .aload_n 0, 1, 41), (41, .iconst 4, 1, 42), (42, .newarray .int, 2, 44), (44, .putfield 27, 3, 47), (47, .aload_n 0, 1, 48), (48, .iconst 4, 1, 49), (49, .newarray .int, 2, 51), (51, .putfield 30, 3, 54), (54, .aload_n 0, 1, 55), (55, .bipush 8, 2, 57), (57, .newarray .int, 2, 59), (59, .putfield 33, 3, 62), (62, .aload_n 0, 1, 63), (63, .bipush 8, 2, 65), (65, .newarray .int, 2, 67), (67, .putfield 36, 3, 70), (70, .aload_n 0, 1, 71), (71, .bipush 8, 2, 73), (73, .newarray .int, 2, 75), (75, .putfield 39, 3, 78), (78, .return_, 1, 79)]
theorem kd_I5 : kDec mI_5 kl_I5 := kDec_of (by decide +kernel)
theorem kI_5 : kcode mI_5 ∈ kT := kin1 36 (by decide +kernel) rfl
theorem kJ_5 : Cond.instanceMethod mI_5.1 ∈ kT := kin1 35 (by decide +kernel) rfl
theorem kY_5 : kCy mI_5 0 := ⟨by decide +kernel, by decide +kernel, by decide +kernel⟩
def w_5 (t : ClassId × ClassId × ClassId × ClassId) (a : Nat) (u : Nat → Nat) : va_W := [(a, .inr (5, [.int 0, .int 0, .int 0, .int 0, .int 0, .int 0, .int 0, .ref (u 0), .ref (u 1), .ref (u 2), .ref (u 3), .ref (u 4), .ref (u 5), .ref (u 6), .ref (u 7), .ref (u 8), .ref (u 9)])), (u 0, .inl (t.1, 5, .inl (fun _ => 0))), (u 1, .inl (t.1, 5, .inl (fun _ => 0))), (u 2, .inl (t.1, 5, .inl (fun _ => 0))), (u 3, .inl (t.1, 5, .inl (fun _ => 0))), (u 4, .inl (t.1, 25, .inl (fun _ => 0))), (u 5, .inl (t.1, 4, .inl (fun _ => 0))), (u 6, .inl (t.1, 4, .inl (fun _ => 0))), (u 7, .inl (t.1, 8, .inl (fun _ => 0))), (u 8, .inl (t.1, 8, .inl (fun _ => 0))), (u 9, .inl (t.1, 8, .inl (fun _ => 0)))]
def rmI_5 : Room := { frames := 2, cells := 10, slots := 77, locals := 40 }
theorem nF_5 {l : Launch} {D : va_G} {t : ClassId × ClassId × ClassId × ClassId} : nFn l D t mI_5 rmI_5 5 fs_5 [] (w_5 t) := by
  refine nFn_of (by decide +kernel) (fun a => Nat.le_of_ble_eq_true rfl) (fun a => ?_)
  show nOk l D t nTr mI_5 rmI_5 0 0 (nE D (w_5 t a) 10 77) 0 [(0, .ref a)] [] [(a, .inr (5, fs_5))]
  refine co_aload_n 0 (kd_I5.at 0 rfl) rfl rfl ?_
  refine co_obj (kd_I5.at 1 rfl) (kin1 37 (by decide +kernel) rfl) (by decide) (Nat.le_of_ble_eq_true rfl) ?_
  refine co_aload_n 0 (kd_I5.at 2 rfl) rfl rfl ?_
  refine co_iconst (v := 5) (kd_I5.at 3 rfl) (by decide) ?_
  refine co_newA (ty := .int) (N := 5) (cA0 := t.1) (a0 := (5, .inl (fun _ => 0))) 0 (kd_I5.at 4 rfl) rfl kaw_I rfl (fun _ _ h => h) (fun _ => rfl) (by decide) (by decide) (by decide) (by decide) (by decide) (fun z1 => ?_)
  refine co_putF (fs := fs_5) (v := .ref z1) (ws' := [(a, .inr (5, [.int 0, .int 0, .int 0, .int 0, .int 0, .int 0, .int 0, .ref z1, .null, .null, .null, .null, .null, .null, .null, .null, .null])), (z1, .inl (t.1, 5, .inl (fun _ => 0)))]) 0 (kd_I5.at 5 rfl) kf5_9 rfl rfl rfl rfl rfl rfl (Nat.le_of_ble_eq_true rfl) rfl ?_
  refine co_aload_n 0 (kd_I5.at 6 rfl) rfl rfl ?_
  refine co_iconst (v := 5) (kd_I5.at 7 rfl) (by decide) ?_
  refine co_newA (ty := .int) (N := 5) (cA0 := t.1) (a0 := (5, .inl (fun _ => 0))) 0 (kd_I5.at 8 rfl) rfl kaw_I rfl (fun _ _ h => h) (fun _ => rfl) (by decide) (by decide) (by decide) (by decide) (by decide) (fun z2 => ?_)
  refine co_putF (fs := [.int 0, .int 0, .int 0, .int 0, .int 0, .int 0, .int 0, .ref z1, .null, .null, .null, .null, .null, .null, .null, .null, .null]) (v := .ref z2) (ws' := [(a, .inr (5, [.int 0, .int 0, .int 0, .int 0, .int 0, .int 0, .int 0, .ref z1, .ref z2, .null, .null, .null, .null, .null, .null, .null, .null])), (z1, .inl (t.1, 5, .inl (fun _ => 0))), (z2, .inl (t.1, 5, .inl (fun _ => 0)))]) 0 (kd_I5.at 9 rfl) kf5_15 rfl rfl rfl rfl rfl rfl (Nat.le_of_ble_eq_true rfl) rfl ?_
  refine co_aload_n 0 (kd_I5.at 10 rfl) rfl rfl ?_
  refine co_iconst (v := 5) (kd_I5.at 11 rfl) (by decide) ?_
  refine co_newA (ty := .int) (N := 5) (cA0 := t.1) (a0 := (5, .inl (fun _ => 0))) 0 (kd_I5.at 12 rfl) rfl kaw_I rfl (fun _ _ h => h) (fun _ => rfl) (by decide) (by decide) (by decide) (by decide) (by decide) (fun z3 => ?_)
  refine co_putF (fs := [.int 0, .int 0, .int 0, .int 0, .int 0, .int 0, .int 0, .ref z1, .ref z2, .null, .null, .null, .null, .null, .null, .null, .null]) (v := .ref z3) (ws' := [(a, .inr (5, [.int 0, .int 0, .int 0, .int 0, .int 0, .int 0, .int 0, .ref z1, .ref z2, .ref z3, .null, .null, .null, .null, .null, .null, .null])), (z1, .inl (t.1, 5, .inl (fun _ => 0))), (z2, .inl (t.1, 5, .inl (fun _ => 0))), (z3, .inl (t.1, 5, .inl (fun _ => 0)))]) 0 (kd_I5.at 13 rfl) kf5_18 rfl rfl rfl rfl rfl rfl (Nat.le_of_ble_eq_true rfl) rfl ?_
  refine co_aload_n 0 (kd_I5.at 14 rfl) rfl rfl ?_
  refine co_iconst (v := 5) (kd_I5.at 15 rfl) (by decide) ?_
  refine co_newA (ty := .int) (N := 5) (cA0 := t.1) (a0 := (5, .inl (fun _ => 0))) 0 (kd_I5.at 16 rfl) rfl kaw_I rfl (fun _ _ h => h) (fun _ => rfl) (by decide) (by decide) (by decide) (by decide) (by decide) (fun z4 => ?_)
  refine co_putF (fs := [.int 0, .int 0, .int 0, .int 0, .int 0, .int 0, .int 0, .ref z1, .ref z2, .ref z3, .null, .null, .null, .null, .null, .null, .null]) (v := .ref z4) (ws' := [(a, .inr (5, [.int 0, .int 0, .int 0, .int 0, .int 0, .int 0, .int 0, .ref z1, .ref z2, .ref z3, .ref z4, .null, .null, .null, .null, .null, .null])), (z1, .inl (t.1, 5, .inl (fun _ => 0))), (z2, .inl (t.1, 5, .inl (fun _ => 0))), (z3, .inl (t.1, 5, .inl (fun _ => 0))), (z4, .inl (t.1, 5, .inl (fun _ => 0)))]) 0 (kd_I5.at 17 rfl) kf5_21 rfl rfl rfl rfl rfl rfl (Nat.le_of_ble_eq_true rfl) rfl ?_
  refine co_aload_n 0 (kd_I5.at 18 rfl) rfl rfl ?_
  refine co_bipush (v := 25) (kd_I5.at 19 rfl) (by decide) ?_
  refine co_newA (ty := .int) (N := 25) (cA0 := t.1) (a0 := (25, .inl (fun _ => 0))) 0 (kd_I5.at 20 rfl) rfl kaw_I rfl (fun _ _ h => h) (fun _ => rfl) (by decide) (by decide) (by decide) (by decide) (by decide) (fun z5 => ?_)
  refine co_putF (fs := [.int 0, .int 0, .int 0, .int 0, .int 0, .int 0, .int 0, .ref z1, .ref z2, .ref z3, .ref z4, .null, .null, .null, .null, .null, .null]) (v := .ref z5) (ws' := [(a, .inr (5, [.int 0, .int 0, .int 0, .int 0, .int 0, .int 0, .int 0, .ref z1, .ref z2, .ref z3, .ref z4, .ref z5, .null, .null, .null, .null, .null])), (z1, .inl (t.1, 5, .inl (fun _ => 0))), (z2, .inl (t.1, 5, .inl (fun _ => 0))), (z3, .inl (t.1, 5, .inl (fun _ => 0))), (z4, .inl (t.1, 5, .inl (fun _ => 0))), (z5, .inl (t.1, 25, .inl (fun _ => 0)))]) 0 (kd_I5.at 21 rfl) kf5_24 rfl rfl rfl rfl rfl rfl (Nat.le_of_ble_eq_true rfl) rfl ?_
  refine co_aload_n 0 (kd_I5.at 22 rfl) rfl rfl ?_
  refine co_iconst (v := 4) (kd_I5.at 23 rfl) (by decide) ?_
  refine co_newA (ty := .int) (N := 4) (cA0 := t.1) (a0 := (4, .inl (fun _ => 0))) 0 (kd_I5.at 24 rfl) rfl kaw_I rfl (fun _ _ h => h) (fun _ => rfl) (by decide) (by decide) (by decide) (by decide) (by decide) (fun z6 => ?_)
  refine co_putF (fs := [.int 0, .int 0, .int 0, .int 0, .int 0, .int 0, .int 0, .ref z1, .ref z2, .ref z3, .ref z4, .ref z5, .null, .null, .null, .null, .null]) (v := .ref z6) (ws' := [(a, .inr (5, [.int 0, .int 0, .int 0, .int 0, .int 0, .int 0, .int 0, .ref z1, .ref z2, .ref z3, .ref z4, .ref z5, .ref z6, .null, .null, .null, .null])), (z1, .inl (t.1, 5, .inl (fun _ => 0))), (z2, .inl (t.1, 5, .inl (fun _ => 0))), (z3, .inl (t.1, 5, .inl (fun _ => 0))), (z4, .inl (t.1, 5, .inl (fun _ => 0))), (z5, .inl (t.1, 25, .inl (fun _ => 0))), (z6, .inl (t.1, 4, .inl (fun _ => 0)))]) 0 (kd_I5.at 25 rfl) kf5_27 rfl rfl rfl rfl rfl rfl (Nat.le_of_ble_eq_true rfl) rfl ?_
  refine co_aload_n 0 (kd_I5.at 26 rfl) rfl rfl ?_
  refine co_iconst (v := 4) (kd_I5.at 27 rfl) (by decide) ?_
  refine co_newA (ty := .int) (N := 4) (cA0 := t.1) (a0 := (4, .inl (fun _ => 0))) 0 (kd_I5.at 28 rfl) rfl kaw_I rfl (fun _ _ h => h) (fun _ => rfl) (by decide) (by decide) (by decide) (by decide) (by decide) (fun z7 => ?_)
  refine co_putF (fs := [.int 0, .int 0, .int 0, .int 0, .int 0, .int 0, .int 0, .ref z1, .ref z2, .ref z3, .ref z4, .ref z5, .ref z6, .null, .null, .null, .null]) (v := .ref z7) (ws' := [(a, .inr (5, [.int 0, .int 0, .int 0, .int 0, .int 0, .int 0, .int 0, .ref z1, .ref z2, .ref z3, .ref z4, .ref z5, .ref z6, .ref z7, .null, .null, .null])), (z1, .inl (t.1, 5, .inl (fun _ => 0))), (z2, .inl (t.1, 5, .inl (fun _ => 0))), (z3, .inl (t.1, 5, .inl (fun _ => 0))), (z4, .inl (t.1, 5, .inl (fun _ => 0))), (z5, .inl (t.1, 25, .inl (fun _ => 0))), (z6, .inl (t.1, 4, .inl (fun _ => 0))), (z7, .inl (t.1, 4, .inl (fun _ => 0)))]) 0 (kd_I5.at 29 rfl) kf5_30 rfl rfl rfl rfl rfl rfl (Nat.le_of_ble_eq_true rfl) rfl ?_
  refine co_aload_n 0 (kd_I5.at 30 rfl) rfl rfl ?_
  refine co_bipush (v := 8) (kd_I5.at 31 rfl) (by decide) ?_
  refine co_newA (ty := .int) (N := 8) (cA0 := t.1) (a0 := (8, .inl (fun _ => 0))) 0 (kd_I5.at 32 rfl) rfl kaw_I rfl (fun _ _ h => h) (fun _ => rfl) (by decide) (by decide) (by decide) (by decide) (by decide) (fun z8 => ?_)
  refine co_putF (fs := [.int 0, .int 0, .int 0, .int 0, .int 0, .int 0, .int 0, .ref z1, .ref z2, .ref z3, .ref z4, .ref z5, .ref z6, .ref z7, .null, .null, .null]) (v := .ref z8) (ws' := [(a, .inr (5, [.int 0, .int 0, .int 0, .int 0, .int 0, .int 0, .int 0, .ref z1, .ref z2, .ref z3, .ref z4, .ref z5, .ref z6, .ref z7, .ref z8, .null, .null])), (z1, .inl (t.1, 5, .inl (fun _ => 0))), (z2, .inl (t.1, 5, .inl (fun _ => 0))), (z3, .inl (t.1, 5, .inl (fun _ => 0))), (z4, .inl (t.1, 5, .inl (fun _ => 0))), (z5, .inl (t.1, 25, .inl (fun _ => 0))), (z6, .inl (t.1, 4, .inl (fun _ => 0))), (z7, .inl (t.1, 4, .inl (fun _ => 0))), (z8, .inl (t.1, 8, .inl (fun _ => 0)))]) 0 (kd_I5.at 33 rfl) kf5_33 rfl rfl rfl rfl rfl rfl (Nat.le_of_ble_eq_true rfl) rfl ?_
  refine co_aload_n 0 (kd_I5.at 34 rfl) rfl rfl ?_
  refine co_bipush (v := 8) (kd_I5.at 35 rfl) (by decide) ?_
  refine co_newA (ty := .int) (N := 8) (cA0 := t.1) (a0 := (8, .inl (fun _ => 0))) 0 (kd_I5.at 36 rfl) rfl kaw_I rfl (fun _ _ h => h) (fun _ => rfl) (by decide) (by decide) (by decide) (by decide) (by decide) (fun z9 => ?_)
  refine co_putF (fs := [.int 0, .int 0, .int 0, .int 0, .int 0, .int 0, .int 0, .ref z1, .ref z2, .ref z3, .ref z4, .ref z5, .ref z6, .ref z7, .ref z8, .null, .null]) (v := .ref z9) (ws' := [(a, .inr (5, [.int 0, .int 0, .int 0, .int 0, .int 0, .int 0, .int 0, .ref z1, .ref z2, .ref z3, .ref z4, .ref z5, .ref z6, .ref z7, .ref z8, .ref z9, .null])), (z1, .inl (t.1, 5, .inl (fun _ => 0))), (z2, .inl (t.1, 5, .inl (fun _ => 0))), (z3, .inl (t.1, 5, .inl (fun _ => 0))), (z4, .inl (t.1, 5, .inl (fun _ => 0))), (z5, .inl (t.1, 25, .inl (fun _ => 0))), (z6, .inl (t.1, 4, .inl (fun _ => 0))), (z7, .inl (t.1, 4, .inl (fun _ => 0))), (z8, .inl (t.1, 8, .inl (fun _ => 0))), (z9, .inl (t.1, 8, .inl (fun _ => 0)))]) 0 (kd_I5.at 37 rfl) kf5_36 rfl rfl rfl rfl rfl rfl (Nat.le_of_ble_eq_true rfl) rfl ?_
  refine co_aload_n 0 (kd_I5.at 38 rfl) rfl rfl ?_
  refine co_bipush (v := 8) (kd_I5.at 39 rfl) (by decide) ?_
  refine co_newA (ty := .int) (N := 8) (cA0 := t.1) (a0 := (8, .inl (fun _ => 0))) 0 (kd_I5.at 40 rfl) rfl kaw_I rfl (fun _ _ h => h) (fun _ => rfl) (by decide) (by decide) (by decide) (by decide) (by decide) (fun z10 => ?_)
  refine co_putF (fs := [.int 0, .int 0, .int 0, .int 0, .int 0, .int 0, .int 0, .ref z1, .ref z2, .ref z3, .ref z4, .ref z5, .ref z6, .ref z7, .ref z8, .ref z9, .null]) (v := .ref z10) (ws' := [(a, .inr (5, [.int 0, .int 0, .int 0, .int 0, .int 0, .int 0, .int 0, .ref z1, .ref z2, .ref z3, .ref z4, .ref z5, .ref z6, .ref z7, .ref z8, .ref z9, .ref z10])), (z1, .inl (t.1, 5, .inl (fun _ => 0))), (z2, .inl (t.1, 5, .inl (fun _ => 0))), (z3, .inl (t.1, 5, .inl (fun _ => 0))), (z4, .inl (t.1, 5, .inl (fun _ => 0))), (z5, .inl (t.1, 25, .inl (fun _ => 0))), (z6, .inl (t.1, 4, .inl (fun _ => 0))), (z7, .inl (t.1, 4, .inl (fun _ => 0))), (z8, .inl (t.1, 8, .inl (fun _ => 0))), (z9, .inl (t.1, 8, .inl (fun _ => 0))), (z10, .inl (t.1, 8, .inl (fun _ => 0)))]) 0 (kd_I5.at 41 rfl) kf5_39 rfl rfl rfl rfl rfl rfl (Nat.le_of_ble_eq_true rfl) rfl ?_
  exact co_ret (fun i => ([z1, z2, z3, z4, z5, z6, z7, z8, z9, z10] : List Nat).getD i 0) (kd_I5.at 42 rfl) rfl rfl
def mI_7 : kM := (⟨kR7, "<init>", "([BLFigureKnee$Pier;)V"⟩, prog_9_method_1_code, 3, none)
def kl_I7 : List (Nat × Instr × Nat × Nat) := [(0, .aload_n 0, 1, 1), (1, .invokespecial 3, 3, 4), (4, .aload_n 0, 1, 5), (5, .iconst 5, 1, 6), (6, .newarray .int, 2, 8), (8, .putfield 9, 3, 11), (11, .aload_n 0, 1, 12), (12, .iconst 5, 1, 13), (13, .newarray .int, 2, 15), (15, .putfield 15, 3, 18), (18, .aload_n 0, 1, 19), (19, .aload_n 1, 1, 20), (20, .putfield 18, 3, 23), (23, .aload_n 0, 1, 24), (24, .aload_n 2, 1, 25), (25, .putfield 22, 3, 28), (28, .return_, 1, 29)]
theorem kd_I7 : kDec mI_7 kl_I7 := kDec_of (by decide +kernel)
theorem kI_7 : kcode mI_7 ∈ kT := kin1 140 (by decide +kernel) rfl
theorem kJ_7 : Cond.instanceMethod mI_7.1 ∈ kT := kin1 139 (by decide +kernel) rfl
theorem kY_7 : kCy mI_7 2 := ⟨by decide +kernel, by decide +kernel, by decide +kernel⟩
def w_7 (t : ClassId × ClassId × ClassId × ClassId) (b d : Nat) (a : Nat) (u : Nat → Nat) : va_W := [(a, .inr (7, [.ref b, .int 0, .int 0, .int 0, .int 0, .int 0, .ref d, .ref (u 0), .ref (u 1), .int 0, .int 0])), (u 0, .inl (t.1, 5, .inl (fun _ => 0))), (u 1, .inl (t.1, 5, .inl (fun _ => 0)))]
def rmI_7 : Room := { frames := 2, cells := 2, slots := 10, locals := 40 }
theorem nF_7 {l : Launch} {D : va_G} {t : ClassId × ClassId × ClassId × ClassId} (b d : Nat) : nFn l D t mI_7 rmI_7 7 fs_7 [.ref b, .ref d] (w_7 t b d) := by
  refine nFn_of (by decide +kernel) (fun a => Nat.le_of_ble_eq_true rfl) (fun a => ?_)
  show nOk l D t nTr mI_7 rmI_7 0 0 (nE D (w_7 t b d a) 2 10) 0 [(0, .ref a), (1, .ref b), (2, .ref d)] [] [(a, .inr (7, fs_7))]
  refine co_aload_n 0 (kd_I7.at 0 rfl) rfl rfl ?_
  refine co_obj (kd_I7.at 1 rfl) (kin1 141 (by decide +kernel) rfl) (by decide) (Nat.le_of_ble_eq_true rfl) ?_
  refine co_aload_n 0 (kd_I7.at 2 rfl) rfl rfl ?_
  refine co_iconst (v := 5) (kd_I7.at 3 rfl) (by decide) ?_
  refine co_newA (ty := .int) (N := 5) (cA0 := t.1) (a0 := (5, .inl (fun _ => 0))) 0 (kd_I7.at 4 rfl) rfl kaw_I rfl (fun _ _ h => h) (fun _ => rfl) (by decide) (by decide) (by decide) (by decide) (by decide) (fun z1 => ?_)
  refine co_putF (fs := fs_7) (v := .ref z1) (ws' := [(a, .inr (7, [.null, .int 0, .int 0, .int 0, .int 0, .int 0, .null, .ref z1, .null, .int 0, .int 0])), (z1, .inl (t.1, 5, .inl (fun _ => 0)))]) 0 (kd_I7.at 5 rfl) kf7_9 rfl rfl rfl rfl rfl rfl (Nat.le_of_ble_eq_true rfl) rfl ?_
  refine co_aload_n 0 (kd_I7.at 6 rfl) rfl rfl ?_
  refine co_iconst (v := 5) (kd_I7.at 7 rfl) (by decide) ?_
  refine co_newA (ty := .int) (N := 5) (cA0 := t.1) (a0 := (5, .inl (fun _ => 0))) 0 (kd_I7.at 8 rfl) rfl kaw_I rfl (fun _ _ h => h) (fun _ => rfl) (by decide) (by decide) (by decide) (by decide) (by decide) (fun z2 => ?_)
  refine co_putF (fs := [.null, .int 0, .int 0, .int 0, .int 0, .int 0, .null, .ref z1, .null, .int 0, .int 0]) (v := .ref z2) (ws' := [(a, .inr (7, [.null, .int 0, .int 0, .int 0, .int 0, .int 0, .null, .ref z1, .ref z2, .int 0, .int 0])), (z1, .inl (t.1, 5, .inl (fun _ => 0))), (z2, .inl (t.1, 5, .inl (fun _ => 0)))]) 0 (kd_I7.at 9 rfl) kf7_15 rfl rfl rfl rfl rfl rfl (Nat.le_of_ble_eq_true rfl) rfl ?_
  refine co_aload_n 0 (kd_I7.at 10 rfl) rfl rfl ?_
  refine co_aload_n 1 (kd_I7.at 11 rfl) rfl rfl ?_
  refine co_putF (fs := [.null, .int 0, .int 0, .int 0, .int 0, .int 0, .null, .ref z1, .ref z2, .int 0, .int 0]) (v := .ref b) (ws' := [(a, .inr (7, [.ref b, .int 0, .int 0, .int 0, .int 0, .int 0, .null, .ref z1, .ref z2, .int 0, .int 0])), (z1, .inl (t.1, 5, .inl (fun _ => 0))), (z2, .inl (t.1, 5, .inl (fun _ => 0)))]) 0 (kd_I7.at 12 rfl) kf7_18 rfl rfl rfl rfl rfl rfl (Nat.le_of_ble_eq_true rfl) rfl ?_
  refine co_aload_n 0 (kd_I7.at 13 rfl) rfl rfl ?_
  refine co_aload_n 2 (kd_I7.at 14 rfl) rfl rfl ?_
  refine co_put (fs := [.ref b, .int 0, .int 0, .int 0, .int 0, .int 0, .null, .ref z1, .ref z2, .int 0, .int 0]) (v := .ref d) (ws' := [(a, .inr (7, [.ref b, .int 0, .int 0, .int 0, .int 0, .int 0, .ref d, .ref z1, .ref z2, .int 0, .int 0])), (z1, .inl (t.1, 5, .inl (fun _ => 0))), (z2, .inl (t.1, 5, .inl (fun _ => 0)))]) 0 (kd_I7.at 15 rfl) kf7_22 rfl rfl rfl rfl (Nat.le_of_ble_eq_true rfl) rfl ?_
  exact co_ret (fun i => ([z1, z2] : List Nat).getD i 0) (kd_I7.at 16 rfl) rfl rfl
def mI_4 : kM := (⟨kR4, "<init>", "()V"⟩, prog_6_method_1_code, 1, none)
def kl_I4 : List (Nat × Instr × Nat × Nat) := [(0, .aload_n 0, 1, 1), (1, .invokespecial 5, 3, 4), (4, .aload_n 0, 1, 5), (5, .iconst 5, 1, 6), (6, .newarray .int, 2, 8), (8, .putfield 11, 3, 11), (11, .aload_n 0, 1, 12), (12, .iconst 5, 1, 13), (13, .newarray .int, 2, 15), (15, .putfield 15, 3, 18), (18, .aload_n 0, 1, 19), (19, .bipush 25, 2, 21), (21, .newarray .int, 2, 23), (23, .putfield 18, 3, 26), (26, .return_, 1, 27)]
theorem kd_I4 : kDec mI_4 kl_I4 := kDec_of (by decide +kernel)
theorem kI_4 : kcode mI_4 ∈ kT := kin1 182 (by decide +kernel) rfl
theorem kJ_4 : Cond.instanceMethod mI_4.1 ∈ kT := kin1 181 (by decide +kernel) rfl
theorem kY_4 : kCy mI_4 0 := ⟨by decide +kernel, by decide +kernel, by decide +kernel⟩
def w_4 (t : ClassId × ClassId × ClassId × ClassId) (a : Nat) (u : Nat → Nat) : va_W := [(a, .inr (4, [.int 0, .ref (u 0), .ref (u 1), .ref (u 2)])), (u 0, .inl (t.1, 5, .inl (fun _ => 0))), (u 1, .inl (t.1, 5, .inl (fun _ => 0))), (u 2, .inl (t.1, 25, .inl (fun _ => 0)))]
def rmI_4 : Room := { frames := 2, cells := 3, slots := 35, locals := 40 }
theorem nF_4 {l : Launch} {D : va_G} {t : ClassId × ClassId × ClassId × ClassId} : nFn l D t mI_4 rmI_4 4 fs_4 [] (w_4 t) := by
  refine nFn_of (by decide +kernel) (fun a => Nat.le_of_ble_eq_true rfl) (fun a => ?_)
  show nOk l D t nTr mI_4 rmI_4 0 0 (nE D (w_4 t a) 3 35) 0 [(0, .ref a)] [] [(a, .inr (4, fs_4))]
  refine co_aload_n 0 (kd_I4.at 0 rfl) rfl rfl ?_
  refine co_obj (kd_I4.at 1 rfl) (kin1 183 (by decide +kernel) rfl) (by decide) (Nat.le_of_ble_eq_true rfl) ?_
  refine co_aload_n 0 (kd_I4.at 2 rfl) rfl rfl ?_
  refine co_iconst (v := 5) (kd_I4.at 3 rfl) (by decide) ?_
  refine co_newA (ty := .int) (N := 5) (cA0 := t.1) (a0 := (5, .inl (fun _ => 0))) 0 (kd_I4.at 4 rfl) rfl kaw_I rfl (fun _ _ h => h) (fun _ => rfl) (by decide) (by decide) (by decide) (by decide) (by decide) (fun z1 => ?_)
  refine co_putF (fs := fs_4) (v := .ref z1) (ws' := [(a, .inr (4, [.int 0, .ref z1, .null, .null])), (z1, .inl (t.1, 5, .inl (fun _ => 0)))]) 0 (kd_I4.at 5 rfl) kf4_11 rfl rfl rfl rfl rfl rfl (Nat.le_of_ble_eq_true rfl) rfl ?_
  refine co_aload_n 0 (kd_I4.at 6 rfl) rfl rfl ?_
  refine co_iconst (v := 5) (kd_I4.at 7 rfl) (by decide) ?_
  refine co_newA (ty := .int) (N := 5) (cA0 := t.1) (a0 := (5, .inl (fun _ => 0))) 0 (kd_I4.at 8 rfl) rfl kaw_I rfl (fun _ _ h => h) (fun _ => rfl) (by decide) (by decide) (by decide) (by decide) (by decide) (fun z2 => ?_)
  refine co_putF (fs := [.int 0, .ref z1, .null, .null]) (v := .ref z2) (ws' := [(a, .inr (4, [.int 0, .ref z1, .ref z2, .null])), (z1, .inl (t.1, 5, .inl (fun _ => 0))), (z2, .inl (t.1, 5, .inl (fun _ => 0)))]) 0 (kd_I4.at 9 rfl) kf4_15 rfl rfl rfl rfl rfl rfl (Nat.le_of_ble_eq_true rfl) rfl ?_
  refine co_aload_n 0 (kd_I4.at 10 rfl) rfl rfl ?_
  refine co_bipush (v := 25) (kd_I4.at 11 rfl) (by decide) ?_
  refine co_newA (ty := .int) (N := 25) (cA0 := t.1) (a0 := (25, .inl (fun _ => 0))) 0 (kd_I4.at 12 rfl) rfl kaw_I rfl (fun _ _ h => h) (fun _ => rfl) (by decide) (by decide) (by decide) (by decide) (by decide) (fun z3 => ?_)
  refine co_putF (fs := [.int 0, .ref z1, .ref z2, .null]) (v := .ref z3) (ws' := [(a, .inr (4, [.int 0, .ref z1, .ref z2, .ref z3])), (z1, .inl (t.1, 5, .inl (fun _ => 0))), (z2, .inl (t.1, 5, .inl (fun _ => 0))), (z3, .inl (t.1, 25, .inl (fun _ => 0)))]) 0 (kd_I4.at 13 rfl) kf4_18 rfl rfl rfl rfl rfl rfl (Nat.le_of_ble_eq_true rfl) rfl ?_
  exact co_ret (fun i => ([z1, z2, z3] : List Nat).getD i 0) (kd_I4.at 14 rfl) rfl rfl
def mI_9 : kM := (⟨kR9, "<init>", "()V"⟩, prog_11_method_1_code, 1, none)
def kl_I9 : List (Nat × Instr × Nat × Nat) := [(0, .aload_n 0, 1, 1), (1, .invokespecial 1, 3, 4), (4, .return_, 1, 5)]
theorem kd_I9 : kDec mI_9 kl_I9 := kDec_of (by decide +kernel)
theorem kI_9 : kcode mI_9 ∈ kT := kin1 229 (by decide +kernel) rfl
theorem kJ_9 : Cond.instanceMethod mI_9.1 ∈ kT := kin1 228 (by decide +kernel) rfl
theorem kY_9 : kCy mI_9 0 := ⟨by decide +kernel, by decide +kernel, by decide +kernel⟩
def w_9 (t : ClassId × ClassId × ClassId × ClassId) (a : Nat) (u : Nat → Nat) : va_W := [(a, .inr (9, fs_9))]
def rmI_9 : Room := { frames := 2, cells := 0, slots := 0, locals := 40 }
theorem nF_9 {l : Launch} {D : va_G} {t : ClassId × ClassId × ClassId × ClassId} : nFn l D t mI_9 rmI_9 9 fs_9 [] (w_9 t) := by
  refine nFn_of (by decide +kernel) (fun a => Nat.le_of_ble_eq_true rfl) (fun a => ?_)
  show nOk l D t nTr mI_9 rmI_9 0 0 (nE D (w_9 t a) 0 0) 0 [(0, .ref a)] [] [(a, .inr (9, fs_9))]
  refine co_aload_n 0 (kd_I9.at 0 rfl) rfl rfl ?_
  refine co_obj (kd_I9.at 1 rfl) (kin1 230 (by decide +kernel) rfl) (by decide) (Nat.le_of_ble_eq_true rfl) ?_
  exact co_ret (fun _ => 0) (kd_I9.at 2 rfl) rfl rfl
def mI_8 : kM := (⟨kR8, "<init>", "()V"⟩, prog_10_method_1_code, 1, none)
def kl_I8 : List (Nat × Instr × Nat × Nat) := [(0, .aload_n 0, 1, 1), (1, .invokespecial 3, 3, 4), (4, .aload_n 0, 1, 5), (5, .sipush 900, 3, 8), (8, .newarray .int, 2, 10), (10, .putfield 11, 3, 13), (13, .aload_n 0, 1, 14), (14, .sipush 900, 3, 17), (17, .newarray .int, 2, 19), (19, .putfield 15, 3, 22), (22, .return_, 1, 23)]
theorem kd_I8 : kDec mI_8 kl_I8 := kDec_of (by decide +kernel)
theorem kI_8 : kcode mI_8 ∈ kT := kin2 22 (by decide +kernel) rfl
theorem kJ_8 : Cond.instanceMethod mI_8.1 ∈ kT := kin2 21 (by decide +kernel) rfl
theorem kY_8 : kCy mI_8 0 := ⟨by decide +kernel, by decide +kernel, by decide +kernel⟩
def w_8 (t : ClassId × ClassId × ClassId × ClassId) (a : Nat) (u : Nat → Nat) : va_W := [(a, .inr (8, [.ref (u 0), .ref (u 1), .int 0, .int 0])), (u 0, .inl (t.1, 900, .inl (fun _ => 0))), (u 1, .inl (t.1, 900, .inl (fun _ => 0)))]
def rmI_8 : Room := { frames := 2, cells := 2, slots := 1800, locals := 40 }
theorem nF_8 {l : Launch} {D : va_G} {t : ClassId × ClassId × ClassId × ClassId} : nFn l D t mI_8 rmI_8 8 fs_8 [] (w_8 t) := by
  refine nFn_of (by decide +kernel) (fun a => Nat.le_of_ble_eq_true rfl) (fun a => ?_)
  show nOk l D t nTr mI_8 rmI_8 0 0 (nE D (w_8 t a) 2 1800) 0 [(0, .ref a)] [] [(a, .inr (8, fs_8))]
  refine co_aload_n 0 (kd_I8.at 0 rfl) rfl rfl ?_
  refine co_obj (kd_I8.at 1 rfl) (kin2 23 (by decide +kernel) rfl) (by decide) (Nat.le_of_ble_eq_true rfl) ?_
  refine co_aload_n 0 (kd_I8.at 2 rfl) rfl rfl ?_
  refine co_sipush (v := 900) (kd_I8.at 3 rfl) (by decide) ?_
  refine co_newA (ty := .int) (N := 900) (cA0 := t.1) (a0 := (900, .inl (fun _ => 0))) 0 (kd_I8.at 4 rfl) rfl kaw_I rfl (fun _ _ h => h) (fun _ => rfl) (by decide) (by decide) (by decide) (by decide) (by decide) (fun z1 => ?_)
  refine co_putF (fs := fs_8) (v := .ref z1) (ws' := [(a, .inr (8, [.ref z1, .null, .int 0, .int 0])), (z1, .inl (t.1, 900, .inl (fun _ => 0)))]) 0 (kd_I8.at 5 rfl) kf8_11 rfl rfl rfl rfl rfl rfl (Nat.le_of_ble_eq_true rfl) rfl ?_
  refine co_aload_n 0 (kd_I8.at 6 rfl) rfl rfl ?_
  refine co_sipush (v := 900) (kd_I8.at 7 rfl) (by decide) ?_
  refine co_newA (ty := .int) (N := 900) (cA0 := t.1) (a0 := (900, .inl (fun _ => 0))) 0 (kd_I8.at 8 rfl) rfl kaw_I rfl (fun _ _ h => h) (fun _ => rfl) (by decide) (by decide) (by decide) (by decide) (by decide) (fun z2 => ?_)
  refine co_putF (fs := [.ref z1, .null, .int 0, .int 0]) (v := .ref z2) (ws' := [(a, .inr (8, [.ref z1, .ref z2, .int 0, .int 0])), (z1, .inl (t.1, 900, .inl (fun _ => 0))), (z2, .inl (t.1, 900, .inl (fun _ => 0)))]) 0 (kd_I8.at 9 rfl) kf8_15 rfl rfl rfl rfl rfl rfl (Nat.le_of_ble_eq_true rfl) rfl ?_
  exact co_ret (fun i => ([z1, z2] : List Nat).getD i 0) (kd_I8.at 10 rfl) rfl rfl
def mI_1 : kM := (⟨kR1, "<init>", "()V"⟩, prog_3_method_1_code, 1, none)
def kl_I1 : List (Nat × Instr × Nat × Nat) := [(0, .aload_n 0, 1, 1), (1, .invokespecial 3, 3, 4), (4, .aload_n 0, 1, 5), (5, .new 9, 3, 8), (8, .dup, 1, 9), (9, .invokespecial 11, 3, 12), (12, .putfield 12, 3, 15), (15, .aload_n 0, 1, 16), (16, .iconst 4, 1, 17), (17, .newarray .int, 2, 19), (19, .putfield 18, 3, 22), (22, .aload_n 0, 1, 23), (23, .iconst 4, 1, 24), (24, .newarray .int, 2, 26), (26, .putfield 22, 3, 29), (29, .aload_n 0, 1, 30), (30, .bipush 16, 2, 32), (32, .newarray .int, 2, 34), (34, .putfield 25, 3, 37), (37, .return_, 1, 38)]
theorem kd_I1 : kDec mI_1 kl_I1 := kDec_of (by decide +kernel)
theorem kI_1 : kcode mI_1 ∈ kT := kin2 43 (by decide +kernel) rfl
theorem kJ_1 : Cond.instanceMethod mI_1.1 ∈ kT := kin2 42 (by decide +kernel) rfl
theorem kY_1 : kCy mI_1 0 := ⟨by decide +kernel, by decide +kernel, by decide +kernel⟩
def w_1 (t : ClassId × ClassId × ClassId × ClassId) (a : Nat) (u : Nat → Nat) : va_W := [(a, .inr (1, [.ref (u 0), .ref (u 1), .ref (u 2), .ref (u 3), .int 0])), (u 0, .inr (9, fs_9)), (u 1, .inl (t.1, 4, .inl (fun _ => 0))), (u 2, .inl (t.1, 4, .inl (fun _ => 0))), (u 3, .inl (t.1, 16, .inl (fun _ => 0)))]
def rmI_1 : Room := { frames := 4, cells := 4, slots := 30, locals := 80 }
theorem nF_1 {l : Launch} {D : va_G} {t : ClassId × ClassId × ClassId × ClassId} : nFn l D t mI_1 rmI_1 1 fs_1 [] (w_1 t) := by
  refine nFn_of (by decide +kernel) (fun a => Nat.le_of_ble_eq_true rfl) (fun a => ?_)
  show nOk l D t nTr mI_1 rmI_1 0 0 (nE D (w_1 t a) 4 30) 0 [(0, .ref a)] [] [(a, .inr (1, fs_1))]
  refine co_aload_n 0 (kd_I1.at 0 rfl) rfl rfl ?_
  refine co_obj (kd_I1.at 1 rfl) (kin2 44 (by decide +kernel) rfl) (by decide) (Nat.le_of_ble_eq_true rfl) ?_
  refine co_aload_n 0 (kd_I1.at 2 rfl) rfl rfl ?_
  refine co_new (ci := 9) (fs := fs_9) (kd_I1.at 3 rfl) (kin2 45 (by decide +kernel) rfl) (kin1 226 (by decide +kernel) rfl) (kin1 6 (by decide +kernel) rfl) rfl hfs_9 (by decide) (by decide) (fun z1 => ?_)
  refine co_dup (kd_I1.at 4 rfl) rfl ?_
  refine co_callN (M' := mI_9) (wr := [(a, .inr (1, fs_1))]) (kd_I1.at 5 rfl) (nF_9 (l := l) (D := D) (t := t)) (List.mem_of_getElem? (i := 9) rfl) kI_9 (kin1 6 (by decide +kernel) rfl) kJ_9 rfl rfl kY_9 ⟨by decide, by decide⟩ (by decide) (by decide) (Nat.le_of_ble_eq_true rfl) (fun u1 => ?_)
  refine co_putF (fs := fs_1) (v := .ref z1) (ws' := [(a, .inr (1, [.ref z1, .null, .null, .null, .int 0])), (z1, .inr (9, fs_9))]) 0 (kd_I1.at 6 rfl) kf1_12 rfl rfl rfl rfl rfl rfl (Nat.le_of_ble_eq_true rfl) rfl ?_
  refine co_aload_n 0 (kd_I1.at 7 rfl) rfl rfl ?_
  refine co_iconst (v := 4) (kd_I1.at 8 rfl) (by decide) ?_
  refine co_newA (ty := .int) (N := 4) (cA0 := t.1) (a0 := (4, .inl (fun _ => 0))) 0 (kd_I1.at 9 rfl) rfl kaw_I rfl (fun _ _ h => h) (fun _ => rfl) (by decide) (by decide) (by decide) (by decide) (by decide) (fun z2 => ?_)
  refine co_putF (fs := [.ref z1, .null, .null, .null, .int 0]) (v := .ref z2) (ws' := [(a, .inr (1, [.ref z1, .ref z2, .null, .null, .int 0])), (z1, .inr (9, fs_9)), (z2, .inl (t.1, 4, .inl (fun _ => 0)))]) 0 (kd_I1.at 10 rfl) kf1_18 rfl rfl rfl rfl rfl rfl (Nat.le_of_ble_eq_true rfl) rfl ?_
  refine co_aload_n 0 (kd_I1.at 11 rfl) rfl rfl ?_
  refine co_iconst (v := 4) (kd_I1.at 12 rfl) (by decide) ?_
  refine co_newA (ty := .int) (N := 4) (cA0 := t.1) (a0 := (4, .inl (fun _ => 0))) 0 (kd_I1.at 13 rfl) rfl kaw_I rfl (fun _ _ h => h) (fun _ => rfl) (by decide) (by decide) (by decide) (by decide) (by decide) (fun z3 => ?_)
  refine co_putF (fs := [.ref z1, .ref z2, .null, .null, .int 0]) (v := .ref z3) (ws' := [(a, .inr (1, [.ref z1, .ref z2, .ref z3, .null, .int 0])), (z1, .inr (9, fs_9)), (z2, .inl (t.1, 4, .inl (fun _ => 0))), (z3, .inl (t.1, 4, .inl (fun _ => 0)))]) 0 (kd_I1.at 14 rfl) kf1_22 rfl rfl rfl rfl rfl rfl (Nat.le_of_ble_eq_true rfl) rfl ?_
  refine co_aload_n 0 (kd_I1.at 15 rfl) rfl rfl ?_
  refine co_bipush (v := 16) (kd_I1.at 16 rfl) (by decide) ?_
  refine co_newA (ty := .int) (N := 16) (cA0 := t.1) (a0 := (16, .inl (fun _ => 0))) 0 (kd_I1.at 17 rfl) rfl kaw_I rfl (fun _ _ h => h) (fun _ => rfl) (by decide) (by decide) (by decide) (by decide) (by decide) (fun z4 => ?_)
  refine co_putF (fs := [.ref z1, .ref z2, .ref z3, .null, .int 0]) (v := .ref z4) (ws' := [(a, .inr (1, [.ref z1, .ref z2, .ref z3, .ref z4, .int 0])), (z1, .inr (9, fs_9)), (z2, .inl (t.1, 4, .inl (fun _ => 0))), (z3, .inl (t.1, 4, .inl (fun _ => 0))), (z4, .inl (t.1, 16, .inl (fun _ => 0)))]) 0 (kd_I1.at 18 rfl) kf1_25 rfl rfl rfl rfl rfl rfl (Nat.le_of_ble_eq_true rfl) rfl ?_
  exact co_ret (fun i => ([z1, z2, z3, z4] : List Nat).getD i 0) (kd_I1.at 19 rfl) rfl rfl
def mI_0 : kM := (⟨kR0, "<init>", "()V"⟩, prog_2_method_1_code, 1, none)
def kl_I0 : List (Nat × Instr × Nat × Nat) := [(0, .aload_n 0, 1, 1), (1, .invokespecial 3, 3, 4), (4, .aload_n 0, 1, 5), (5, .iconst 5, 1, 6), (6, .newarray .int, 2, 8), (8, .putfield 9, 3, 11), (11, .aload_n 0, 1, 12), (12, .bipush 32, 2, 14), (14, .newarray .int, 2, 16), (16, .putfield 15, 3, 19), (19, .aload_n 0, 1, 20), (20, .bipush 32, 2, 22), (22, .newarray .int, 2, 24), (24, .putfield 18, 3, 27), (27, .aload_n 0, 1, 28), (28, .iconst 5, 1, 29), (29, .newarray .int, 2, 31), (31, .putfield 21, 3, 34), (34, .aload_n 0, 1, 35), (35, .iconst 5, 1, 36), (36, .newarray .int, 2, 38), (38, .putfield 24, 3, 41), (41, .return_, 1, 42)]
theorem kd_I0 : kDec mI_0 kl_I0 := kDec_of (by decide +kernel)
theorem kI_0 : kcode mI_0 ∈ kT := kin2 69 (by decide +kernel) rfl
theorem kJ_0 : Cond.instanceMethod mI_0.1 ∈ kT := kin2 68 (by decide +kernel) rfl
theorem kY_0 : kCy mI_0 0 := ⟨by decide +kernel, by decide +kernel, by decide +kernel⟩
def w_0 (t : ClassId × ClassId × ClassId × ClassId) (a : Nat) (u : Nat → Nat) : va_W := [(a, .inr (0, [.int 0, .ref (u 0), .ref (u 1), .ref (u 2), .ref (u 3), .ref (u 4), .int 0])), (u 0, .inl (t.1, 5, .inl (fun _ => 0))), (u 1, .inl (t.1, 32, .inl (fun _ => 0))), (u 2, .inl (t.1, 32, .inl (fun _ => 0))), (u 3, .inl (t.1, 5, .inl (fun _ => 0))), (u 4, .inl (t.1, 5, .inl (fun _ => 0)))]
def rmI_0 : Room := { frames := 2, cells := 5, slots := 79, locals := 40 }
theorem nF_0 {l : Launch} {D : va_G} {t : ClassId × ClassId × ClassId × ClassId} : nFn l D t mI_0 rmI_0 0 fs_0 [] (w_0 t) := by
  refine nFn_of (by decide +kernel) (fun a => Nat.le_of_ble_eq_true rfl) (fun a => ?_)
  show nOk l D t nTr mI_0 rmI_0 0 0 (nE D (w_0 t a) 5 79) 0 [(0, .ref a)] [] [(a, .inr (0, fs_0))]
  refine co_aload_n 0 (kd_I0.at 0 rfl) rfl rfl ?_
  refine co_obj (kd_I0.at 1 rfl) (kin2 70 (by decide +kernel) rfl) (by decide) (Nat.le_of_ble_eq_true rfl) ?_
  refine co_aload_n 0 (kd_I0.at 2 rfl) rfl rfl ?_
  refine co_iconst (v := 5) (kd_I0.at 3 rfl) (by decide) ?_
  refine co_newA (ty := .int) (N := 5) (cA0 := t.1) (a0 := (5, .inl (fun _ => 0))) 0 (kd_I0.at 4 rfl) rfl kaw_I rfl (fun _ _ h => h) (fun _ => rfl) (by decide) (by decide) (by decide) (by decide) (by decide) (fun z1 => ?_)
  refine co_putF (fs := fs_0) (v := .ref z1) (ws' := [(a, .inr (0, [.int 0, .ref z1, .null, .null, .null, .null, .int 0])), (z1, .inl (t.1, 5, .inl (fun _ => 0)))]) 0 (kd_I0.at 5 rfl) kf0_9 rfl rfl rfl rfl rfl rfl (Nat.le_of_ble_eq_true rfl) rfl ?_
  refine co_aload_n 0 (kd_I0.at 6 rfl) rfl rfl ?_
  refine co_bipush (v := 32) (kd_I0.at 7 rfl) (by decide) ?_
  refine co_newA (ty := .int) (N := 32) (cA0 := t.1) (a0 := (32, .inl (fun _ => 0))) 0 (kd_I0.at 8 rfl) rfl kaw_I rfl (fun _ _ h => h) (fun _ => rfl) (by decide) (by decide) (by decide) (by decide) (by decide) (fun z2 => ?_)
  refine co_putF (fs := [.int 0, .ref z1, .null, .null, .null, .null, .int 0]) (v := .ref z2) (ws' := [(a, .inr (0, [.int 0, .ref z1, .ref z2, .null, .null, .null, .int 0])), (z1, .inl (t.1, 5, .inl (fun _ => 0))), (z2, .inl (t.1, 32, .inl (fun _ => 0)))]) 0 (kd_I0.at 9 rfl) kf0_15 rfl rfl rfl rfl rfl rfl (Nat.le_of_ble_eq_true rfl) rfl ?_
  refine co_aload_n 0 (kd_I0.at 10 rfl) rfl rfl ?_
  refine co_bipush (v := 32) (kd_I0.at 11 rfl) (by decide) ?_
  refine co_newA (ty := .int) (N := 32) (cA0 := t.1) (a0 := (32, .inl (fun _ => 0))) 0 (kd_I0.at 12 rfl) rfl kaw_I rfl (fun _ _ h => h) (fun _ => rfl) (by decide) (by decide) (by decide) (by decide) (by decide) (fun z3 => ?_)
  refine co_putF (fs := [.int 0, .ref z1, .ref z2, .null, .null, .null, .int 0]) (v := .ref z3) (ws' := [(a, .inr (0, [.int 0, .ref z1, .ref z2, .ref z3, .null, .null, .int 0])), (z1, .inl (t.1, 5, .inl (fun _ => 0))), (z2, .inl (t.1, 32, .inl (fun _ => 0))), (z3, .inl (t.1, 32, .inl (fun _ => 0)))]) 0 (kd_I0.at 13 rfl) kf0_18 rfl rfl rfl rfl rfl rfl (Nat.le_of_ble_eq_true rfl) rfl ?_
  refine co_aload_n 0 (kd_I0.at 14 rfl) rfl rfl ?_
  refine co_iconst (v := 5) (kd_I0.at 15 rfl) (by decide) ?_
  refine co_newA (ty := .int) (N := 5) (cA0 := t.1) (a0 := (5, .inl (fun _ => 0))) 0 (kd_I0.at 16 rfl) rfl kaw_I rfl (fun _ _ h => h) (fun _ => rfl) (by decide) (by decide) (by decide) (by decide) (by decide) (fun z4 => ?_)
  refine co_putF (fs := [.int 0, .ref z1, .ref z2, .ref z3, .null, .null, .int 0]) (v := .ref z4) (ws' := [(a, .inr (0, [.int 0, .ref z1, .ref z2, .ref z3, .ref z4, .null, .int 0])), (z1, .inl (t.1, 5, .inl (fun _ => 0))), (z2, .inl (t.1, 32, .inl (fun _ => 0))), (z3, .inl (t.1, 32, .inl (fun _ => 0))), (z4, .inl (t.1, 5, .inl (fun _ => 0)))]) 0 (kd_I0.at 17 rfl) kf0_21 rfl rfl rfl rfl rfl rfl (Nat.le_of_ble_eq_true rfl) rfl ?_
  refine co_aload_n 0 (kd_I0.at 18 rfl) rfl rfl ?_
  refine co_iconst (v := 5) (kd_I0.at 19 rfl) (by decide) ?_
  refine co_newA (ty := .int) (N := 5) (cA0 := t.1) (a0 := (5, .inl (fun _ => 0))) 0 (kd_I0.at 20 rfl) rfl kaw_I rfl (fun _ _ h => h) (fun _ => rfl) (by decide) (by decide) (by decide) (by decide) (by decide) (fun z5 => ?_)
  refine co_putF (fs := [.int 0, .ref z1, .ref z2, .ref z3, .ref z4, .null, .int 0]) (v := .ref z5) (ws' := [(a, .inr (0, [.int 0, .ref z1, .ref z2, .ref z3, .ref z4, .ref z5, .int 0])), (z1, .inl (t.1, 5, .inl (fun _ => 0))), (z2, .inl (t.1, 32, .inl (fun _ => 0))), (z3, .inl (t.1, 32, .inl (fun _ => 0))), (z4, .inl (t.1, 5, .inl (fun _ => 0))), (z5, .inl (t.1, 5, .inl (fun _ => 0)))]) 0 (kd_I0.at 21 rfl) kf0_24 rfl rfl rfl rfl rfl rfl (Nat.le_of_ble_eq_true rfl) rfl ?_
  exact co_ret (fun i => ([z1, z2, z3, z4, z5] : List Nat).getD i 0) (kd_I0.at 22 rfl) rfl rfl
def mI_2 : kM := (⟨kR2, "<init>", "()V"⟩, prog_4_method_1_code, 1, none)
def kl_I2 : List (Nat × Instr × Nat × Nat) := [(0, .aload_n 0, 1, 1), (1, .invokespecial 3, 3, 4), (4, .aload_n 0, 1, 5), (5, .iconst 5, 1, 6), (6, .newarray .int, 2, 8), (8, .putfield 9, 3, 11), (11, .return_, 1, 12)]
theorem kd_I2 : kDec mI_2 kl_I2 := kDec_of (by decide +kernel)
theorem kI_2 : kcode mI_2 ∈ kT := kin2 100 (by decide +kernel) rfl
theorem kJ_2 : Cond.instanceMethod mI_2.1 ∈ kT := kin2 99 (by decide +kernel) rfl
theorem kY_2 : kCy mI_2 0 := ⟨by decide +kernel, by decide +kernel, by decide +kernel⟩
def w_2 (t : ClassId × ClassId × ClassId × ClassId) (a : Nat) (u : Nat → Nat) : va_W := [(a, .inr (2, [.ref (u 0), .int 0, .int 0])), (u 0, .inl (t.1, 5, .inl (fun _ => 0)))]
def rmI_2 : Room := { frames := 2, cells := 1, slots := 5, locals := 40 }
theorem nF_2 {l : Launch} {D : va_G} {t : ClassId × ClassId × ClassId × ClassId} : nFn l D t mI_2 rmI_2 2 fs_2 [] (w_2 t) := by
  refine nFn_of (by decide +kernel) (fun a => Nat.le_of_ble_eq_true rfl) (fun a => ?_)
  show nOk l D t nTr mI_2 rmI_2 0 0 (nE D (w_2 t a) 1 5) 0 [(0, .ref a)] [] [(a, .inr (2, fs_2))]
  refine co_aload_n 0 (kd_I2.at 0 rfl) rfl rfl ?_
  refine co_obj (kd_I2.at 1 rfl) (kin2 101 (by decide +kernel) rfl) (by decide) (Nat.le_of_ble_eq_true rfl) ?_
  refine co_aload_n 0 (kd_I2.at 2 rfl) rfl rfl ?_
  refine co_iconst (v := 5) (kd_I2.at 3 rfl) (by decide) ?_
  refine co_newA (ty := .int) (N := 5) (cA0 := t.1) (a0 := (5, .inl (fun _ => 0))) 0 (kd_I2.at 4 rfl) rfl kaw_I rfl (fun _ _ h => h) (fun _ => rfl) (by decide) (by decide) (by decide) (by decide) (by decide) (fun z1 => ?_)
  refine co_putF (fs := fs_2) (v := .ref z1) (ws' := [(a, .inr (2, [.ref z1, .int 0, .int 0])), (z1, .inl (t.1, 5, .inl (fun _ => 0)))]) 0 (kd_I2.at 5 rfl) kf2_9 rfl rfl rfl rfl rfl rfl (Nat.le_of_ble_eq_true rfl) rfl ?_
  exact co_ret (fun i => ([z1] : List Nat).getD i 0) (kd_I2.at 6 rfl) rfl rfl
def mI_6 : kM := (⟨kR6, "<init>", "()V"⟩, prog_8_method_1_code, 1, none)
def kl_I6 : List (Nat × Instr × Nat × Nat) := [(0, .aload_n 0, 1, 1), (1, .invokespecial 1, 3, 4), (4, .return_, 1, 5)]
theorem kd_I6 : kDec mI_6 kl_I6 := kDec_of (by decide +kernel)
theorem kI_6 : kcode mI_6 ∈ kT := kin2 119 (by decide +kernel) rfl
theorem kJ_6 : Cond.instanceMethod mI_6.1 ∈ kT := kin2 118 (by decide +kernel) rfl
theorem kY_6 : kCy mI_6 0 := ⟨by decide +kernel, by decide +kernel, by decide +kernel⟩
def w_6 (t : ClassId × ClassId × ClassId × ClassId) (a : Nat) (u : Nat → Nat) : va_W := [(a, .inr (6, fs_6))]
def rmI_6 : Room := { frames := 2, cells := 0, slots := 0, locals := 40 }
theorem nF_6 {l : Launch} {D : va_G} {t : ClassId × ClassId × ClassId × ClassId} : nFn l D t mI_6 rmI_6 6 fs_6 [] (w_6 t) := by
  refine nFn_of (by decide +kernel) (fun a => Nat.le_of_ble_eq_true rfl) (fun a => ?_)
  show nOk l D t nTr mI_6 rmI_6 0 0 (nE D (w_6 t a) 0 0) 0 [(0, .ref a)] [] [(a, .inr (6, fs_6))]
  refine co_aload_n 0 (kd_I6.at 0 rfl) rfl rfl ?_
  refine co_obj (kd_I6.at 1 rfl) (kin2 120 (by decide +kernel) rfl) (by decide) (Nat.le_of_ble_eq_true rfl) ?_
  exact co_ret (fun _ => 0) (kd_I6.at 2 rfl) rfl rfl
def mI_11 : kM := (⟨kR11, "<init>", "()V"⟩, prog_13_method_1_code, 1, none)
def kl_I11 : List (Nat × Instr × Nat × Nat) := [(0, .aload_n 0, 1, 1), (1, .invokespecial 1, 3, 4), (4, .aload_n 0, 1, 5), (5, .sipush 900, 3, 8), (8, .newarray .int, 2, 10), (10, .putfield 7, 3, 13), (13, .aload_n 0, 1, 14), (14, .iconst (-1), 1, 15), (15, .putfield 13, 3, 18), (18, .aload_n 0, 1, 19), (19, .bipush 8, 2, 21), (21, .newarray .int, 2, 23), (23, .putfield 17, 3, 26), (26, .aload_n 0, 1, 27), (27, .bipush 95, 2, 29), (29, .newarray .int, 2, 31), (31, .putfield 20, 3, 34), (34, .aload_n 0, 1, 35), (35, .bipush 95, 2, 37), (37, .newarray .int, 2, 39), (39, .putfield 23, 3, 42), (42, .aload_n 0, 1, 43), (43, .bipush 36, 2, 45), (45, .newarray .int, 2, 47), (47, .putfield 26, 3, 50), (50, .aload_n 0, 1, 51), (51, .bipush 36, 2, 53), (53, .newarray .int, 2, 55), (55, .putfield 29, 3, 58), (58, .aload_n 0, 1, 59), (59, .bipush 36, 2, 61), (61, .newarray .int, 2, 63), (63, .putfield 32, 3, 66), (66, .aload_n 0, 1, 67), (67, .sipush 576, 3, 70), (70, .newarray .int, 2, 72), (72, .putfield 35, 3, 75), (75, .aload_n 0, 1, 76), (76, .bipush 108, 2, 78), (78, .newarray .int, 2, 80), (80, .putfield 38, 3, 83), (83, .aload_n 0, 1, 84), (84, .sipush 2600, 3, 87), (87, .newarray .int, 2, 89), (89, .putfield 41, 3, 92), (92, .aload_n 0, 1, 93), (93, .sipush 900, 3, 96), (96, .newarray .int, 2, 98), (98, .putfield 44, 3, 101), (101, .aload_n 0, 1, 102), (102, .iconst 4, 1, 103), (103, .newarray .int, 2, 105), (105, .putfield 47, 3, 108), (108, .aload_n 0, 1, 109), (109, .iconst 5, 1, 110), (110, .newarray .int, 2, 112), (112, .putfield 50, 3, 115), (115, .aload_n 0, 1, 116), (116, .iconst 5, 1, 117), (117, .newarray .int, 2, 119), (119, .putfield 53, 3, 122), (122, .aload_n 0, 1, 123), (123, .iconst 5, 1, 124), (124, .newarray .int, 2, 126), (126, .putfield 56, 3, 129), (129, .return_, 1, 130)]
theorem kd_I11 : kDec mI_11 kl_I11 := kDec_of (by decide +kernel)
theorem kI_11 : kcode mI_11 ∈ kT := kin5 230 (by decide +kernel) rfl
theorem kJ_11 : Cond.instanceMethod mI_11.1 ∈ kT := kin5 229 (by decide +kernel) rfl
theorem kY_11 : kCy mI_11 0 := ⟨by decide +kernel, by decide +kernel, by decide +kernel⟩
def w_11 (t : ClassId × ClassId × ClassId × ClassId) (a : Nat) (u : Nat → Nat) : va_W := [(a, .inr (11, [.int 0, .ref (u 0), .int 0, .int 0, .int 0, .int 0, .int 0, .int 0, .int 0, .int 0, .int (-1), .int 0, .ref (u 1), .int 0, .int 0, .ref (u 2), .ref (u 3), .ref (u 4), .ref (u 5), .ref (u 6), .ref (u 7), .ref (u 8), .int 0, .int 0, .ref (u 9), .ref (u 10), .int 0, .int 0, .int 0, .int 0, .ref (u 11), .int 0, .int 0, .int 0, .ref (u 12), .ref (u 13), .int 0, .int 0, .ref (u 14), .long 0, .long 0, .long 0])), (u 0, .inl (t.1, 900, .inl (fun _ => 0))), (u 1, .inl (t.1, 8, .inl (fun _ => 0))), (u 2, .inl (t.1, 95, .inl (fun _ => 0))), (u 3, .inl (t.1, 95, .inl (fun _ => 0))), (u 4, .inl (t.1, 36, .inl (fun _ => 0))), (u 5, .inl (t.1, 36, .inl (fun _ => 0))), (u 6, .inl (t.1, 36, .inl (fun _ => 0))), (u 7, .inl (t.1, 576, .inl (fun _ => 0))), (u 8, .inl (t.1, 108, .inl (fun _ => 0))), (u 9, .inl (t.1, 2600, .inl (fun _ => 0))), (u 10, .inl (t.1, 900, .inl (fun _ => 0))), (u 11, .inl (t.1, 4, .inl (fun _ => 0))), (u 12, .inl (t.1, 5, .inl (fun _ => 0))), (u 13, .inl (t.1, 5, .inl (fun _ => 0))), (u 14, .inl (t.1, 5, .inl (fun _ => 0)))]
def rmI_11 : Room := { frames := 2, cells := 15, slots := 5409, locals := 40 }
theorem nF_11 {l : Launch} {D : va_G} {t : ClassId × ClassId × ClassId × ClassId} : nFn l D t mI_11 rmI_11 11 fs_11 [] (w_11 t) := by
  refine nFn_of (by decide +kernel) (fun a => Nat.le_of_ble_eq_true rfl) (fun a => ?_)
  show nOk l D t nTr mI_11 rmI_11 0 0 (nE D (w_11 t a) 15 5409) 0 [(0, .ref a)] [] [(a, .inr (11, fs_11))]
  refine co_aload_n 0 (kd_I11.at 0 rfl) rfl rfl ?_
  refine co_obj (kd_I11.at 1 rfl) (kin5 231 (by decide +kernel) rfl) (by decide) (Nat.le_of_ble_eq_true rfl) ?_
  refine co_aload_n 0 (kd_I11.at 2 rfl) rfl rfl ?_
  refine co_sipush (v := 900) (kd_I11.at 3 rfl) (by decide) ?_
  refine co_newA (ty := .int) (N := 900) (cA0 := t.1) (a0 := (900, .inl (fun _ => 0))) 0 (kd_I11.at 4 rfl) rfl kaw_I rfl (fun _ _ h => h) (fun _ => rfl) (by decide) (by decide) (by decide) (by decide) (by decide) (fun z1 => ?_)
  refine co_putF (fs := fs_11) (v := .ref z1) (ws' := [(a, .inr (11, [.int 0, .ref z1, .int 0, .int 0, .int 0, .int 0, .int 0, .int 0, .int 0, .int 0, .int 0, .int 0, .null, .int 0, .int 0, .null, .null, .null, .null, .null, .null, .null, .int 0, .int 0, .null, .null, .int 0, .int 0, .int 0, .int 0, .null, .int 0, .int 0, .int 0, .null, .null, .int 0, .int 0, .null, .long 0, .long 0, .long 0])), (z1, .inl (t.1, 900, .inl (fun _ => 0)))]) 0 (kd_I11.at 5 rfl) kf11_7 rfl rfl rfl rfl rfl rfl (Nat.le_of_ble_eq_true rfl) rfl ?_
  refine co_aload_n 0 (kd_I11.at 6 rfl) rfl rfl ?_
  refine co_iconst (v := (-1)) (kd_I11.at 7 rfl) (by decide) ?_
  refine co_put (fs := [.int 0, .ref z1, .int 0, .int 0, .int 0, .int 0, .int 0, .int 0, .int 0, .int 0, .int 0, .int 0, .null, .int 0, .int 0, .null, .null, .null, .null, .null, .null, .null, .int 0, .int 0, .null, .null, .int 0, .int 0, .int 0, .int 0, .null, .int 0, .int 0, .int 0, .null, .null, .int 0, .int 0, .null, .long 0, .long 0, .long 0]) (v := .int (-1)) (ws' := [(a, .inr (11, [.int 0, .ref z1, .int 0, .int 0, .int 0, .int 0, .int 0, .int 0, .int 0, .int 0, .int (-1), .int 0, .null, .int 0, .int 0, .null, .null, .null, .null, .null, .null, .null, .int 0, .int 0, .null, .null, .int 0, .int 0, .int 0, .int 0, .null, .int 0, .int 0, .int 0, .null, .null, .int 0, .int 0, .null, .long 0, .long 0, .long 0])), (z1, .inl (t.1, 900, .inl (fun _ => 0)))]) 0 (kd_I11.at 8 rfl) kf11_13 rfl rfl rfl rfl (Nat.le_of_ble_eq_true rfl) rfl ?_
  refine co_aload_n 0 (kd_I11.at 9 rfl) rfl rfl ?_
  refine co_bipush (v := 8) (kd_I11.at 10 rfl) (by decide) ?_
  refine co_newA (ty := .int) (N := 8) (cA0 := t.1) (a0 := (8, .inl (fun _ => 0))) 0 (kd_I11.at 11 rfl) rfl kaw_I rfl (fun _ _ h => h) (fun _ => rfl) (by decide) (by decide) (by decide) (by decide) (by decide) (fun z2 => ?_)
  refine co_putF (fs := [.int 0, .ref z1, .int 0, .int 0, .int 0, .int 0, .int 0, .int 0, .int 0, .int 0, .int (-1), .int 0, .null, .int 0, .int 0, .null, .null, .null, .null, .null, .null, .null, .int 0, .int 0, .null, .null, .int 0, .int 0, .int 0, .int 0, .null, .int 0, .int 0, .int 0, .null, .null, .int 0, .int 0, .null, .long 0, .long 0, .long 0]) (v := .ref z2) (ws' := [(a, .inr (11, [.int 0, .ref z1, .int 0, .int 0, .int 0, .int 0, .int 0, .int 0, .int 0, .int 0, .int (-1), .int 0, .ref z2, .int 0, .int 0, .null, .null, .null, .null, .null, .null, .null, .int 0, .int 0, .null, .null, .int 0, .int 0, .int 0, .int 0, .null, .int 0, .int 0, .int 0, .null, .null, .int 0, .int 0, .null, .long 0, .long 0, .long 0])), (z1, .inl (t.1, 900, .inl (fun _ => 0))), (z2, .inl (t.1, 8, .inl (fun _ => 0)))]) 0 (kd_I11.at 12 rfl) kf11_17 rfl rfl rfl rfl rfl rfl (Nat.le_of_ble_eq_true rfl) rfl ?_
  refine co_aload_n 0 (kd_I11.at 13 rfl) rfl rfl ?_
  refine co_bipush (v := 95) (kd_I11.at 14 rfl) (by decide) ?_
  refine co_newA (ty := .int) (N := 95) (cA0 := t.1) (a0 := (95, .inl (fun _ => 0))) 0 (kd_I11.at 15 rfl) rfl kaw_I rfl (fun _ _ h => h) (fun _ => rfl) (by decide) (by decide) (by decide) (by decide) (by decide) (fun z3 => ?_)
  refine co_putF (fs := [.int 0, .ref z1, .int 0, .int 0, .int 0, .int 0, .int 0, .int 0, .int 0, .int 0, .int (-1), .int 0, .ref z2, .int 0, .int 0, .null, .null, .null, .null, .null, .null, .null, .int 0, .int 0, .null, .null, .int 0, .int 0, .int 0, .int 0, .null, .int 0, .int 0, .int 0, .null, .null, .int 0, .int 0, .null, .long 0, .long 0, .long 0]) (v := .ref z3) (ws' := [(a, .inr (11, [.int 0, .ref z1, .int 0, .int 0, .int 0, .int 0, .int 0, .int 0, .int 0, .int 0, .int (-1), .int 0, .ref z2, .int 0, .int 0, .ref z3, .null, .null, .null, .null, .null, .null, .int 0, .int 0, .null, .null, .int 0, .int 0, .int 0, .int 0, .null, .int 0, .int 0, .int 0, .null, .null, .int 0, .int 0, .null, .long 0, .long 0, .long 0])), (z1, .inl (t.1, 900, .inl (fun _ => 0))), (z2, .inl (t.1, 8, .inl (fun _ => 0))), (z3, .inl (t.1, 95, .inl (fun _ => 0)))]) 0 (kd_I11.at 16 rfl) kf11_20 rfl rfl rfl rfl rfl rfl (Nat.le_of_ble_eq_true rfl) rfl ?_
  refine co_aload_n 0 (kd_I11.at 17 rfl) rfl rfl ?_
  refine co_bipush (v := 95) (kd_I11.at 18 rfl) (by decide) ?_
  refine co_newA (ty := .int) (N := 95) (cA0 := t.1) (a0 := (95, .inl (fun _ => 0))) 0 (kd_I11.at 19 rfl) rfl kaw_I rfl (fun _ _ h => h) (fun _ => rfl) (by decide) (by decide) (by decide) (by decide) (by decide) (fun z4 => ?_)
  refine co_putF (fs := [.int 0, .ref z1, .int 0, .int 0, .int 0, .int 0, .int 0, .int 0, .int 0, .int 0, .int (-1), .int 0, .ref z2, .int 0, .int 0, .ref z3, .null, .null, .null, .null, .null, .null, .int 0, .int 0, .null, .null, .int 0, .int 0, .int 0, .int 0, .null, .int 0, .int 0, .int 0, .null, .null, .int 0, .int 0, .null, .long 0, .long 0, .long 0]) (v := .ref z4) (ws' := [(a, .inr (11, [.int 0, .ref z1, .int 0, .int 0, .int 0, .int 0, .int 0, .int 0, .int 0, .int 0, .int (-1), .int 0, .ref z2, .int 0, .int 0, .ref z3, .ref z4, .null, .null, .null, .null, .null, .int 0, .int 0, .null, .null, .int 0, .int 0, .int 0, .int 0, .null, .int 0, .int 0, .int 0, .null, .null, .int 0, .int 0, .null, .long 0, .long 0, .long 0])), (z1, .inl (t.1, 900, .inl (fun _ => 0))), (z2, .inl (t.1, 8, .inl (fun _ => 0))), (z3, .inl (t.1, 95, .inl (fun _ => 0))), (z4, .inl (t.1, 95, .inl (fun _ => 0)))]) 0 (kd_I11.at 20 rfl) kf11_23 rfl rfl rfl rfl rfl rfl (Nat.le_of_ble_eq_true rfl) rfl ?_
  refine co_aload_n 0 (kd_I11.at 21 rfl) rfl rfl ?_
  refine co_bipush (v := 36) (kd_I11.at 22 rfl) (by decide) ?_
  refine co_newA (ty := .int) (N := 36) (cA0 := t.1) (a0 := (36, .inl (fun _ => 0))) 0 (kd_I11.at 23 rfl) rfl kaw_I rfl (fun _ _ h => h) (fun _ => rfl) (by decide) (by decide) (by decide) (by decide) (by decide) (fun z5 => ?_)
  refine co_putF (fs := [.int 0, .ref z1, .int 0, .int 0, .int 0, .int 0, .int 0, .int 0, .int 0, .int 0, .int (-1), .int 0, .ref z2, .int 0, .int 0, .ref z3, .ref z4, .null, .null, .null, .null, .null, .int 0, .int 0, .null, .null, .int 0, .int 0, .int 0, .int 0, .null, .int 0, .int 0, .int 0, .null, .null, .int 0, .int 0, .null, .long 0, .long 0, .long 0]) (v := .ref z5) (ws' := [(a, .inr (11, [.int 0, .ref z1, .int 0, .int 0, .int 0, .int 0, .int 0, .int 0, .int 0, .int 0, .int (-1), .int 0, .ref z2, .int 0, .int 0, .ref z3, .ref z4, .ref z5, .null, .null, .null, .null, .int 0, .int 0, .null, .null, .int 0, .int 0, .int 0, .int 0, .null, .int 0, .int 0, .int 0, .null, .null, .int 0, .int 0, .null, .long 0, .long 0, .long 0])), (z1, .inl (t.1, 900, .inl (fun _ => 0))), (z2, .inl (t.1, 8, .inl (fun _ => 0))), (z3, .inl (t.1, 95, .inl (fun _ => 0))), (z4, .inl (t.1, 95, .inl (fun _ => 0))), (z5, .inl (t.1, 36, .inl (fun _ => 0)))]) 0 (kd_I11.at 24 rfl) kf11_26 rfl rfl rfl rfl rfl rfl (Nat.le_of_ble_eq_true rfl) rfl ?_
  refine co_aload_n 0 (kd_I11.at 25 rfl) rfl rfl ?_
  refine co_bipush (v := 36) (kd_I11.at 26 rfl) (by decide) ?_
  refine co_newA (ty := .int) (N := 36) (cA0 := t.1) (a0 := (36, .inl (fun _ => 0))) 0 (kd_I11.at 27 rfl) rfl kaw_I rfl (fun _ _ h => h) (fun _ => rfl) (by decide) (by decide) (by decide) (by decide) (by decide) (fun z6 => ?_)
  refine co_putF (fs := [.int 0, .ref z1, .int 0, .int 0, .int 0, .int 0, .int 0, .int 0, .int 0, .int 0, .int (-1), .int 0, .ref z2, .int 0, .int 0, .ref z3, .ref z4, .ref z5, .null, .null, .null, .null, .int 0, .int 0, .null, .null, .int 0, .int 0, .int 0, .int 0, .null, .int 0, .int 0, .int 0, .null, .null, .int 0, .int 0, .null, .long 0, .long 0, .long 0]) (v := .ref z6) (ws' := [(a, .inr (11, [.int 0, .ref z1, .int 0, .int 0, .int 0, .int 0, .int 0, .int 0, .int 0, .int 0, .int (-1), .int 0, .ref z2, .int 0, .int 0, .ref z3, .ref z4, .ref z5, .ref z6, .null, .null, .null, .int 0, .int 0, .null, .null, .int 0, .int 0, .int 0, .int 0, .null, .int 0, .int 0, .int 0, .null, .null, .int 0, .int 0, .null, .long 0, .long 0, .long 0])), (z1, .inl (t.1, 900, .inl (fun _ => 0))), (z2, .inl (t.1, 8, .inl (fun _ => 0))), (z3, .inl (t.1, 95, .inl (fun _ => 0))), (z4, .inl (t.1, 95, .inl (fun _ => 0))), (z5, .inl (t.1, 36, .inl (fun _ => 0))), (z6, .inl (t.1, 36, .inl (fun _ => 0)))]) 0 (kd_I11.at 28 rfl) kf11_29 rfl rfl rfl rfl rfl rfl (Nat.le_of_ble_eq_true rfl) rfl ?_
  refine co_aload_n 0 (kd_I11.at 29 rfl) rfl rfl ?_
  refine co_bipush (v := 36) (kd_I11.at 30 rfl) (by decide) ?_
  refine co_newA (ty := .int) (N := 36) (cA0 := t.1) (a0 := (36, .inl (fun _ => 0))) 0 (kd_I11.at 31 rfl) rfl kaw_I rfl (fun _ _ h => h) (fun _ => rfl) (by decide) (by decide) (by decide) (by decide) (by decide) (fun z7 => ?_)
  refine co_putF (fs := [.int 0, .ref z1, .int 0, .int 0, .int 0, .int 0, .int 0, .int 0, .int 0, .int 0, .int (-1), .int 0, .ref z2, .int 0, .int 0, .ref z3, .ref z4, .ref z5, .ref z6, .null, .null, .null, .int 0, .int 0, .null, .null, .int 0, .int 0, .int 0, .int 0, .null, .int 0, .int 0, .int 0, .null, .null, .int 0, .int 0, .null, .long 0, .long 0, .long 0]) (v := .ref z7) (ws' := [(a, .inr (11, [.int 0, .ref z1, .int 0, .int 0, .int 0, .int 0, .int 0, .int 0, .int 0, .int 0, .int (-1), .int 0, .ref z2, .int 0, .int 0, .ref z3, .ref z4, .ref z5, .ref z6, .ref z7, .null, .null, .int 0, .int 0, .null, .null, .int 0, .int 0, .int 0, .int 0, .null, .int 0, .int 0, .int 0, .null, .null, .int 0, .int 0, .null, .long 0, .long 0, .long 0])), (z1, .inl (t.1, 900, .inl (fun _ => 0))), (z2, .inl (t.1, 8, .inl (fun _ => 0))), (z3, .inl (t.1, 95, .inl (fun _ => 0))), (z4, .inl (t.1, 95, .inl (fun _ => 0))), (z5, .inl (t.1, 36, .inl (fun _ => 0))), (z6, .inl (t.1, 36, .inl (fun _ => 0))), (z7, .inl (t.1, 36, .inl (fun _ => 0)))]) 0 (kd_I11.at 32 rfl) kf11_32 rfl rfl rfl rfl rfl rfl (Nat.le_of_ble_eq_true rfl) rfl ?_
  refine co_aload_n 0 (kd_I11.at 33 rfl) rfl rfl ?_
  refine co_sipush (v := 576) (kd_I11.at 34 rfl) (by decide) ?_
  refine co_newA (ty := .int) (N := 576) (cA0 := t.1) (a0 := (576, .inl (fun _ => 0))) 0 (kd_I11.at 35 rfl) rfl kaw_I rfl (fun _ _ h => h) (fun _ => rfl) (by decide) (by decide) (by decide) (by decide) (by decide) (fun z8 => ?_)
  refine co_putF (fs := [.int 0, .ref z1, .int 0, .int 0, .int 0, .int 0, .int 0, .int 0, .int 0, .int 0, .int (-1), .int 0, .ref z2, .int 0, .int 0, .ref z3, .ref z4, .ref z5, .ref z6, .ref z7, .null, .null, .int 0, .int 0, .null, .null, .int 0, .int 0, .int 0, .int 0, .null, .int 0, .int 0, .int 0, .null, .null, .int 0, .int 0, .null, .long 0, .long 0, .long 0]) (v := .ref z8) (ws' := [(a, .inr (11, [.int 0, .ref z1, .int 0, .int 0, .int 0, .int 0, .int 0, .int 0, .int 0, .int 0, .int (-1), .int 0, .ref z2, .int 0, .int 0, .ref z3, .ref z4, .ref z5, .ref z6, .ref z7, .ref z8, .null, .int 0, .int 0, .null, .null, .int 0, .int 0, .int 0, .int 0, .null, .int 0, .int 0, .int 0, .null, .null, .int 0, .int 0, .null, .long 0, .long 0, .long 0])), (z1, .inl (t.1, 900, .inl (fun _ => 0))), (z2, .inl (t.1, 8, .inl (fun _ => 0))), (z3, .inl (t.1, 95, .inl (fun _ => 0))), (z4, .inl (t.1, 95, .inl (fun _ => 0))), (z5, .inl (t.1, 36, .inl (fun _ => 0))), (z6, .inl (t.1, 36, .inl (fun _ => 0))), (z7, .inl (t.1, 36, .inl (fun _ => 0))), (z8, .inl (t.1, 576, .inl (fun _ => 0)))]) 0 (kd_I11.at 36 rfl) kf11_35 rfl rfl rfl rfl rfl rfl (Nat.le_of_ble_eq_true rfl) rfl ?_
  refine co_aload_n 0 (kd_I11.at 37 rfl) rfl rfl ?_
  refine co_bipush (v := 108) (kd_I11.at 38 rfl) (by decide) ?_
  refine co_newA (ty := .int) (N := 108) (cA0 := t.1) (a0 := (108, .inl (fun _ => 0))) 0 (kd_I11.at 39 rfl) rfl kaw_I rfl (fun _ _ h => h) (fun _ => rfl) (by decide) (by decide) (by decide) (by decide) (by decide) (fun z9 => ?_)
  refine co_putF (fs := [.int 0, .ref z1, .int 0, .int 0, .int 0, .int 0, .int 0, .int 0, .int 0, .int 0, .int (-1), .int 0, .ref z2, .int 0, .int 0, .ref z3, .ref z4, .ref z5, .ref z6, .ref z7, .ref z8, .null, .int 0, .int 0, .null, .null, .int 0, .int 0, .int 0, .int 0, .null, .int 0, .int 0, .int 0, .null, .null, .int 0, .int 0, .null, .long 0, .long 0, .long 0]) (v := .ref z9) (ws' := [(a, .inr (11, [.int 0, .ref z1, .int 0, .int 0, .int 0, .int 0, .int 0, .int 0, .int 0, .int 0, .int (-1), .int 0, .ref z2, .int 0, .int 0, .ref z3, .ref z4, .ref z5, .ref z6, .ref z7, .ref z8, .ref z9, .int 0, .int 0, .null, .null, .int 0, .int 0, .int 0, .int 0, .null, .int 0, .int 0, .int 0, .null, .null, .int 0, .int 0, .null, .long 0, .long 0, .long 0])), (z1, .inl (t.1, 900, .inl (fun _ => 0))), (z2, .inl (t.1, 8, .inl (fun _ => 0))), (z3, .inl (t.1, 95, .inl (fun _ => 0))), (z4, .inl (t.1, 95, .inl (fun _ => 0))), (z5, .inl (t.1, 36, .inl (fun _ => 0))), (z6, .inl (t.1, 36, .inl (fun _ => 0))), (z7, .inl (t.1, 36, .inl (fun _ => 0))), (z8, .inl (t.1, 576, .inl (fun _ => 0))), (z9, .inl (t.1, 108, .inl (fun _ => 0)))]) 0 (kd_I11.at 40 rfl) kf11_38 rfl rfl rfl rfl rfl rfl (Nat.le_of_ble_eq_true rfl) rfl ?_
  refine co_aload_n 0 (kd_I11.at 41 rfl) rfl rfl ?_
  refine co_sipush (v := 2600) (kd_I11.at 42 rfl) (by decide) ?_
  refine co_newA (ty := .int) (N := 2600) (cA0 := t.1) (a0 := (2600, .inl (fun _ => 0))) 0 (kd_I11.at 43 rfl) rfl kaw_I rfl (fun _ _ h => h) (fun _ => rfl) (by decide) (by decide) (by decide) (by decide) (by decide) (fun z10 => ?_)
  refine co_putF (fs := [.int 0, .ref z1, .int 0, .int 0, .int 0, .int 0, .int 0, .int 0, .int 0, .int 0, .int (-1), .int 0, .ref z2, .int 0, .int 0, .ref z3, .ref z4, .ref z5, .ref z6, .ref z7, .ref z8, .ref z9, .int 0, .int 0, .null, .null, .int 0, .int 0, .int 0, .int 0, .null, .int 0, .int 0, .int 0, .null, .null, .int 0, .int 0, .null, .long 0, .long 0, .long 0]) (v := .ref z10) (ws' := [(a, .inr (11, [.int 0, .ref z1, .int 0, .int 0, .int 0, .int 0, .int 0, .int 0, .int 0, .int 0, .int (-1), .int 0, .ref z2, .int 0, .int 0, .ref z3, .ref z4, .ref z5, .ref z6, .ref z7, .ref z8, .ref z9, .int 0, .int 0, .ref z10, .null, .int 0, .int 0, .int 0, .int 0, .null, .int 0, .int 0, .int 0, .null, .null, .int 0, .int 0, .null, .long 0, .long 0, .long 0])), (z1, .inl (t.1, 900, .inl (fun _ => 0))), (z2, .inl (t.1, 8, .inl (fun _ => 0))), (z3, .inl (t.1, 95, .inl (fun _ => 0))), (z4, .inl (t.1, 95, .inl (fun _ => 0))), (z5, .inl (t.1, 36, .inl (fun _ => 0))), (z6, .inl (t.1, 36, .inl (fun _ => 0))), (z7, .inl (t.1, 36, .inl (fun _ => 0))), (z8, .inl (t.1, 576, .inl (fun _ => 0))), (z9, .inl (t.1, 108, .inl (fun _ => 0))), (z10, .inl (t.1, 2600, .inl (fun _ => 0)))]) 0 (kd_I11.at 44 rfl) kf11_41 rfl rfl rfl rfl rfl rfl (Nat.le_of_ble_eq_true rfl) rfl ?_
  refine co_aload_n 0 (kd_I11.at 45 rfl) rfl rfl ?_
  refine co_sipush (v := 900) (kd_I11.at 46 rfl) (by decide) ?_
  refine co_newA (ty := .int) (N := 900) (cA0 := t.1) (a0 := (900, .inl (fun _ => 0))) 0 (kd_I11.at 47 rfl) rfl kaw_I rfl (fun _ _ h => h) (fun _ => rfl) (by decide) (by decide) (by decide) (by decide) (by decide) (fun z11 => ?_)
  refine co_putF (fs := [.int 0, .ref z1, .int 0, .int 0, .int 0, .int 0, .int 0, .int 0, .int 0, .int 0, .int (-1), .int 0, .ref z2, .int 0, .int 0, .ref z3, .ref z4, .ref z5, .ref z6, .ref z7, .ref z8, .ref z9, .int 0, .int 0, .ref z10, .null, .int 0, .int 0, .int 0, .int 0, .null, .int 0, .int 0, .int 0, .null, .null, .int 0, .int 0, .null, .long 0, .long 0, .long 0]) (v := .ref z11) (ws' := [(a, .inr (11, [.int 0, .ref z1, .int 0, .int 0, .int 0, .int 0, .int 0, .int 0, .int 0, .int 0, .int (-1), .int 0, .ref z2, .int 0, .int 0, .ref z3, .ref z4, .ref z5, .ref z6, .ref z7, .ref z8, .ref z9, .int 0, .int 0, .ref z10, .ref z11, .int 0, .int 0, .int 0, .int 0, .null, .int 0, .int 0, .int 0, .null, .null, .int 0, .int 0, .null, .long 0, .long 0, .long 0])), (z1, .inl (t.1, 900, .inl (fun _ => 0))), (z2, .inl (t.1, 8, .inl (fun _ => 0))), (z3, .inl (t.1, 95, .inl (fun _ => 0))), (z4, .inl (t.1, 95, .inl (fun _ => 0))), (z5, .inl (t.1, 36, .inl (fun _ => 0))), (z6, .inl (t.1, 36, .inl (fun _ => 0))), (z7, .inl (t.1, 36, .inl (fun _ => 0))), (z8, .inl (t.1, 576, .inl (fun _ => 0))), (z9, .inl (t.1, 108, .inl (fun _ => 0))), (z10, .inl (t.1, 2600, .inl (fun _ => 0))), (z11, .inl (t.1, 900, .inl (fun _ => 0)))]) 0 (kd_I11.at 48 rfl) kf11_44 rfl rfl rfl rfl rfl rfl (Nat.le_of_ble_eq_true rfl) rfl ?_
  refine co_aload_n 0 (kd_I11.at 49 rfl) rfl rfl ?_
  refine co_iconst (v := 4) (kd_I11.at 50 rfl) (by decide) ?_
  refine co_newA (ty := .int) (N := 4) (cA0 := t.1) (a0 := (4, .inl (fun _ => 0))) 0 (kd_I11.at 51 rfl) rfl kaw_I rfl (fun _ _ h => h) (fun _ => rfl) (by decide) (by decide) (by decide) (by decide) (by decide) (fun z12 => ?_)
  refine co_putF (fs := [.int 0, .ref z1, .int 0, .int 0, .int 0, .int 0, .int 0, .int 0, .int 0, .int 0, .int (-1), .int 0, .ref z2, .int 0, .int 0, .ref z3, .ref z4, .ref z5, .ref z6, .ref z7, .ref z8, .ref z9, .int 0, .int 0, .ref z10, .ref z11, .int 0, .int 0, .int 0, .int 0, .null, .int 0, .int 0, .int 0, .null, .null, .int 0, .int 0, .null, .long 0, .long 0, .long 0]) (v := .ref z12) (ws' := [(a, .inr (11, [.int 0, .ref z1, .int 0, .int 0, .int 0, .int 0, .int 0, .int 0, .int 0, .int 0, .int (-1), .int 0, .ref z2, .int 0, .int 0, .ref z3, .ref z4, .ref z5, .ref z6, .ref z7, .ref z8, .ref z9, .int 0, .int 0, .ref z10, .ref z11, .int 0, .int 0, .int 0, .int 0, .ref z12, .int 0, .int 0, .int 0, .null, .null, .int 0, .int 0, .null, .long 0, .long 0, .long 0])), (z1, .inl (t.1, 900, .inl (fun _ => 0))), (z2, .inl (t.1, 8, .inl (fun _ => 0))), (z3, .inl (t.1, 95, .inl (fun _ => 0))), (z4, .inl (t.1, 95, .inl (fun _ => 0))), (z5, .inl (t.1, 36, .inl (fun _ => 0))), (z6, .inl (t.1, 36, .inl (fun _ => 0))), (z7, .inl (t.1, 36, .inl (fun _ => 0))), (z8, .inl (t.1, 576, .inl (fun _ => 0))), (z9, .inl (t.1, 108, .inl (fun _ => 0))), (z10, .inl (t.1, 2600, .inl (fun _ => 0))), (z11, .inl (t.1, 900, .inl (fun _ => 0))), (z12, .inl (t.1, 4, .inl (fun _ => 0)))]) 0 (kd_I11.at 52 rfl) kf11_47 rfl rfl rfl rfl rfl rfl (Nat.le_of_ble_eq_true rfl) rfl ?_
  refine co_aload_n 0 (kd_I11.at 53 rfl) rfl rfl ?_
  refine co_iconst (v := 5) (kd_I11.at 54 rfl) (by decide) ?_
  refine co_newA (ty := .int) (N := 5) (cA0 := t.1) (a0 := (5, .inl (fun _ => 0))) 0 (kd_I11.at 55 rfl) rfl kaw_I rfl (fun _ _ h => h) (fun _ => rfl) (by decide) (by decide) (by decide) (by decide) (by decide) (fun z13 => ?_)
  refine co_putF (fs := [.int 0, .ref z1, .int 0, .int 0, .int 0, .int 0, .int 0, .int 0, .int 0, .int 0, .int (-1), .int 0, .ref z2, .int 0, .int 0, .ref z3, .ref z4, .ref z5, .ref z6, .ref z7, .ref z8, .ref z9, .int 0, .int 0, .ref z10, .ref z11, .int 0, .int 0, .int 0, .int 0, .ref z12, .int 0, .int 0, .int 0, .null, .null, .int 0, .int 0, .null, .long 0, .long 0, .long 0]) (v := .ref z13) (ws' := [(a, .inr (11, [.int 0, .ref z1, .int 0, .int 0, .int 0, .int 0, .int 0, .int 0, .int 0, .int 0, .int (-1), .int 0, .ref z2, .int 0, .int 0, .ref z3, .ref z4, .ref z5, .ref z6, .ref z7, .ref z8, .ref z9, .int 0, .int 0, .ref z10, .ref z11, .int 0, .int 0, .int 0, .int 0, .ref z12, .int 0, .int 0, .int 0, .ref z13, .null, .int 0, .int 0, .null, .long 0, .long 0, .long 0])), (z1, .inl (t.1, 900, .inl (fun _ => 0))), (z2, .inl (t.1, 8, .inl (fun _ => 0))), (z3, .inl (t.1, 95, .inl (fun _ => 0))), (z4, .inl (t.1, 95, .inl (fun _ => 0))), (z5, .inl (t.1, 36, .inl (fun _ => 0))), (z6, .inl (t.1, 36, .inl (fun _ => 0))), (z7, .inl (t.1, 36, .inl (fun _ => 0))), (z8, .inl (t.1, 576, .inl (fun _ => 0))), (z9, .inl (t.1, 108, .inl (fun _ => 0))), (z10, .inl (t.1, 2600, .inl (fun _ => 0))), (z11, .inl (t.1, 900, .inl (fun _ => 0))), (z12, .inl (t.1, 4, .inl (fun _ => 0))), (z13, .inl (t.1, 5, .inl (fun _ => 0)))]) 0 (kd_I11.at 56 rfl) kf11_50 rfl rfl rfl rfl rfl rfl (Nat.le_of_ble_eq_true rfl) rfl ?_
  refine co_aload_n 0 (kd_I11.at 57 rfl) rfl rfl ?_
  refine co_iconst (v := 5) (kd_I11.at 58 rfl) (by decide) ?_
  refine co_newA (ty := .int) (N := 5) (cA0 := t.1) (a0 := (5, .inl (fun _ => 0))) 0 (kd_I11.at 59 rfl) rfl kaw_I rfl (fun _ _ h => h) (fun _ => rfl) (by decide) (by decide) (by decide) (by decide) (by decide) (fun z14 => ?_)
  refine co_putF (fs := [.int 0, .ref z1, .int 0, .int 0, .int 0, .int 0, .int 0, .int 0, .int 0, .int 0, .int (-1), .int 0, .ref z2, .int 0, .int 0, .ref z3, .ref z4, .ref z5, .ref z6, .ref z7, .ref z8, .ref z9, .int 0, .int 0, .ref z10, .ref z11, .int 0, .int 0, .int 0, .int 0, .ref z12, .int 0, .int 0, .int 0, .ref z13, .null, .int 0, .int 0, .null, .long 0, .long 0, .long 0]) (v := .ref z14) (ws' := [(a, .inr (11, [.int 0, .ref z1, .int 0, .int 0, .int 0, .int 0, .int 0, .int 0, .int 0, .int 0, .int (-1), .int 0, .ref z2, .int 0, .int 0, .ref z3, .ref z4, .ref z5, .ref z6, .ref z7, .ref z8, .ref z9, .int 0, .int 0, .ref z10, .ref z11, .int 0, .int 0, .int 0, .int 0, .ref z12, .int 0, .int 0, .int 0, .ref z13, .ref z14, .int 0, .int 0, .null, .long 0, .long 0, .long 0])), (z1, .inl (t.1, 900, .inl (fun _ => 0))), (z2, .inl (t.1, 8, .inl (fun _ => 0))), (z3, .inl (t.1, 95, .inl (fun _ => 0))), (z4, .inl (t.1, 95, .inl (fun _ => 0))), (z5, .inl (t.1, 36, .inl (fun _ => 0))), (z6, .inl (t.1, 36, .inl (fun _ => 0))), (z7, .inl (t.1, 36, .inl (fun _ => 0))), (z8, .inl (t.1, 576, .inl (fun _ => 0))), (z9, .inl (t.1, 108, .inl (fun _ => 0))), (z10, .inl (t.1, 2600, .inl (fun _ => 0))), (z11, .inl (t.1, 900, .inl (fun _ => 0))), (z12, .inl (t.1, 4, .inl (fun _ => 0))), (z13, .inl (t.1, 5, .inl (fun _ => 0))), (z14, .inl (t.1, 5, .inl (fun _ => 0)))]) 0 (kd_I11.at 60 rfl) kf11_53 rfl rfl rfl rfl rfl rfl (Nat.le_of_ble_eq_true rfl) rfl ?_
  refine co_aload_n 0 (kd_I11.at 61 rfl) rfl rfl ?_
  refine co_iconst (v := 5) (kd_I11.at 62 rfl) (by decide) ?_
  refine co_newA (ty := .int) (N := 5) (cA0 := t.1) (a0 := (5, .inl (fun _ => 0))) 0 (kd_I11.at 63 rfl) rfl kaw_I rfl (fun _ _ h => h) (fun _ => rfl) (by decide) (by decide) (by decide) (by decide) (by decide) (fun z15 => ?_)
  refine co_putF (fs := [.int 0, .ref z1, .int 0, .int 0, .int 0, .int 0, .int 0, .int 0, .int 0, .int 0, .int (-1), .int 0, .ref z2, .int 0, .int 0, .ref z3, .ref z4, .ref z5, .ref z6, .ref z7, .ref z8, .ref z9, .int 0, .int 0, .ref z10, .ref z11, .int 0, .int 0, .int 0, .int 0, .ref z12, .int 0, .int 0, .int 0, .ref z13, .ref z14, .int 0, .int 0, .null, .long 0, .long 0, .long 0]) (v := .ref z15) (ws' := [(a, .inr (11, [.int 0, .ref z1, .int 0, .int 0, .int 0, .int 0, .int 0, .int 0, .int 0, .int 0, .int (-1), .int 0, .ref z2, .int 0, .int 0, .ref z3, .ref z4, .ref z5, .ref z6, .ref z7, .ref z8, .ref z9, .int 0, .int 0, .ref z10, .ref z11, .int 0, .int 0, .int 0, .int 0, .ref z12, .int 0, .int 0, .int 0, .ref z13, .ref z14, .int 0, .int 0, .ref z15, .long 0, .long 0, .long 0])), (z1, .inl (t.1, 900, .inl (fun _ => 0))), (z2, .inl (t.1, 8, .inl (fun _ => 0))), (z3, .inl (t.1, 95, .inl (fun _ => 0))), (z4, .inl (t.1, 95, .inl (fun _ => 0))), (z5, .inl (t.1, 36, .inl (fun _ => 0))), (z6, .inl (t.1, 36, .inl (fun _ => 0))), (z7, .inl (t.1, 36, .inl (fun _ => 0))), (z8, .inl (t.1, 576, .inl (fun _ => 0))), (z9, .inl (t.1, 108, .inl (fun _ => 0))), (z10, .inl (t.1, 2600, .inl (fun _ => 0))), (z11, .inl (t.1, 900, .inl (fun _ => 0))), (z12, .inl (t.1, 4, .inl (fun _ => 0))), (z13, .inl (t.1, 5, .inl (fun _ => 0))), (z14, .inl (t.1, 5, .inl (fun _ => 0))), (z15, .inl (t.1, 5, .inl (fun _ => 0)))]) 0 (kd_I11.at 64 rfl) kf11_56 rfl rfl rfl rfl rfl rfl (Nat.le_of_ble_eq_true rfl) rfl ?_
  exact co_ret (fun i => ([z1, z2, z3, z4, z5, z6, z7, z8, z9, z10, z11, z12, z13, z14, z15] : List Nat).getD i 0) (kd_I11.at 65 rfl) rfl rfl
