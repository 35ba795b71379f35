-- the law: from its entry to its loop
section LST
variable {l : Launch} {D : va_G} {t : ClassId × ClassId × ClassId × ClassId} {X : (Nat → Prop) → State → Prop} {M : kM} {R : Room} {cs sl : Nat} {QQ : cQt} {pc pc' : Nat} {lv lv' : List (Nat × Value)} {st : List Value} {ws : va_W}
theorem co_astore_n {f : Fin 4} {a j : Nat} (hd : kD M pc (.astore_n f) 1 pc') (hj : (f : Nat) = j) (hn : j < M.2.2.1) (hv : (j, Value.ref a) :: lv.filter (fun q => !(q.1 == j) && !(q.1 + 1 == j && q.2.category == 2)) = lv') (k : nOk l D t X M R cs sl QQ pc' lv' st ws) : nOk l D t X M R cs sl QQ pc lv (.ref a :: st) ws := by
  intro p e s m args below meth c A H locs ls hX C hP hD hS hl
  obtain ⟨hdc, rfl⟩ := hd
  exact lv_astore_n C.1.1 C.1.2.1 hdc hj hl hn hv (fun ls hl => k p e s m args below meth c A H locs ls hX C hP hD hS hl)
theorem co_istore {x : Int32} {j : Nat} (hd : kD M pc (.istore j) 2 pc') (hn : j < M.2.2.1) (hv : (j, Value.int x) :: lv.filter (fun q => !(q.1 == j) && !(q.1 + 1 == j && q.2.category == 2)) = lv') (k : nOk l D t X M R cs sl QQ pc' lv' st ws) : nOk l D t X M R cs sl QQ pc lv (.int x :: st) ws := by
  intro p e s m args below meth c A H locs ls hX C hP hD hS hl
  obtain ⟨hdc, rfl⟩ := hd
  exact lv_istore C.1.1 C.1.2.1 hdc hl hn hv (fun ls hl => k p e s m args below meth c A H locs ls hX C hP hD hS hl)
theorem law_start (hm : MNA l D t) {b0 : Nat} (K : ∀ (a : Nat) (u : Nat → Nat) (b : Nat) (v : Nat → Nat) (z : Nat), nOk l D t X mL_law room_1 90 9277 QQ 23 [(4, .int 0), (3, .ref z), (2, .ref b), (1, .ref a), (0, .ref b0)] [] ((([] ++ w_10 t a u) ++ w_11 t b v) ++ [(z, .inl (t.2.2.1, 1, .inr (.inl (fun _ => 0))))])) : nOk l D t X mL_law room_1 0 0 QQ 0 [(0, .ref b0)] [] [] := by
  refine co_new (ci := 10) (fs := fs_10) (kdL_0.at 0 rfl) (kin1 24 (by decide +kernel) rfl) (kin1 25 (by decide +kernel) rfl) (kin1 1 (by decide +kernel) rfl) rfl hfs_10 (by decide) (by decide) (fun a => ?_)
  refine co_dup (kdL_0.at 1 rfl) rfl ?_
  refine co_callI (M' := mI_10) (as := []) (kdL_0.at 2 rfl) (nF_10 (l := l) (D := D) (t := t) hm) (kin1 26 (by decide +kernel) rfl) kI_10 (kin1 1 (by decide +kernel) rfl) kJ_10 rfl rfl rfl kY_10 ⟨by decide, by decide⟩ (by decide) (by decide) rfl (Nat.le_of_ble_eq_true rfl) (fun u => ?_)
  refine co_astore_n (lv' := [(1, .ref a), (0, .ref b0)]) (kdL_0.at 3 rfl) rfl (by decide) rfl ?_
  refine co_new (ci := 11) (fs := fs_11) (kdL_0.at 4 rfl) (kin5 226 (by decide +kernel) rfl) (kin5 227 (by decide +kernel) rfl) (kin1 12 (by decide +kernel) rfl) rfl hfs_11 (by decide) (by decide) (fun b => ?_)
  refine co_dup (kdL_0.at 5 rfl) rfl ?_
  refine co_callI (M' := mI_11) (as := []) (kdL_0.at 6 rfl) (nF_11 (l := l) (D := D) (t := t)) (kin5 228 (by decide +kernel) rfl) kI_11 (kin1 12 (by decide +kernel) rfl) kJ_11 rfl rfl rfl kY_11 ⟨by decide, by decide⟩ (by decide) (by decide) rfl (Nat.le_of_ble_eq_true rfl) (fun v => ?_)
  refine co_astore_n (lv' := [(2, .ref b), (1, .ref a), (0, .ref b0)]) (kdL_0.at 7 rfl) rfl (by decide) rfl ?_
  refine co_iconst (v := 1) (kdL_0.at 8 rfl) (by decide) ?_
  refine co_newA (ty := .long) (N := 1) (cA0 := t.2.2.1) (a0 := (1, .inr (.inl (fun _ => 0)))) 2 (kdL_0.at 9 rfl) rfl kaw_L rfl (fun _ _ h => h) (fun _ => rfl) (by decide) (by decide) (by decide) (by decide) (by decide) (fun z => ?_)
  refine co_astore_n (lv' := [(3, .ref z), (2, .ref b), (1, .ref a), (0, .ref b0)]) (kdL_0.at 10 rfl) rfl (by decide) rfl ?_
  refine co_iconst (v := 0) (kdL_0.at 11 rfl) (by decide) ?_
  refine co_istore (lv' := [(4, .int 0), (3, .ref z), (2, .ref b), (1, .ref a), (0, .ref b0)]) (kdL_0.at 12 rfl) (by decide) rfl ?_
  exact K a u b v z
end LST
