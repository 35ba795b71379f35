section HEAP
variable {ρ : Type} {l : Launch} {G : kG} {E : kE} {Z : (Nat → Prop) → ρ → Array Value → State → Outcome → State → Prop} {M : kM} {d : kDD} {o : Option ρ} {pc pc' : Nat} {lv lv' : List (Nat × Value)} {st : List Value} {S : kSt}
def kIsI (ty : FieldType) : Bool := match ty with
  | .int => true
  | .boolean => true
  | _ => false
def kIsR (ty : FieldType) : Bool := match ty with
  | .array _ => true
  | .object _ => true
  | _ => false
theorem kval_I {k j : Nat} {ty : FieldType} (h : kIsI ty = true) : kval E S k j ty = .int (S.1 k j) := by
  cases ty <;> first | rfl | cases h
theorem kval_R {k j : Nat} {ty : FieldType} (h : kIsR ty = true) : kval E S k j ty = va_rf ((kRf E.2 k j).map E.1) := by
  cases ty <;> first | rfl | cases h
/-- the row of getfield, whatever the place holds -/
theorem ok_getV {k c n j idx : Nat} {v : Value} (hd : kD M pc (.getfield idx) 3 pc') (hf : kFl M.1.cls idx c j) (hs : kSH[k]? = some (0, c, n)) (hv : kval E S k j (kTyp c j) = kcv E.1 v) (kk : kOk l G E Z M d o pc' lv (v :: st) S) : kOk l G E Z M d o pc lv (.ref k :: st) S := by
  intro p e s m args below meth c0 A H locs ls q C hP hS hl ho
  obtain ⟨hdc, rfl⟩ := hd
  obtain ⟨Cn, T, N, h1, h2, h3, h4⟩ := hf
  have hN := kshN hs h1
  subst hN
  refine va_get (a := E.1 k) (v := kcv E.1 v) C.1.1 C.1.2.1 C.1.2.2.2.2.2.2 (kob h1).1 C.1.2.2.2.2.2.1 C.2.1 hP k (fs := kfs E S k c n) (by rw [kws_at (kSH_lt hs), kent_obj hs]) h1 j h2 (C.1.2.2.2.2.2.2 _ h3) (by rw [h4]; exact fun _ h => h) (by rw [kfs_at h2, hv]) hdc (kk p e s m args below meth c0 A H locs ls q C hP hS hl ho)
theorem ok_getI {k c n j idx : Nat} (hd : kD M pc (.getfield idx) 3 pc') (hf : kFl M.1.cls idx c j) (hs : kSH[k]? = some (0, c, n)) (ht : kIsI (kTyp c j) = true) (kk : kOk l G E Z M d o pc' lv (.int (S.1 k j) :: st) S) : kOk l G E Z M d o pc lv (.ref k :: st) S :=
  ok_getV hd hf hs (kval_I ht) kk
theorem ok_getL {k c n j idx : Nat} (hd : kD M pc (.getfield idx) 3 pc') (hf : kFl M.1.cls idx c j) (hs : kSH[k]? = some (0, c, n)) (ht : kTyp c j = .long) (kk : kOk l G E Z M d o pc' lv (.long (S.2 k j) :: st) S) : kOk l G E Z M d o pc lv (.ref k :: st) S :=
  ok_getV (v := .long (S.2 k j)) hd hf hs (by rw [ht]; rfl) kk
theorem ok_getR {k c n j idx r : Nat} (hd : kD M pc (.getfield idx) 3 pc') (hf : kFl M.1.cls idx c j) (hs : kSH[k]? = some (0, c, n)) (ht : kIsR (kTyp c j) = true) (hr : kRf E.2 k j = some r) (kk : kOk l G E Z M d o pc' lv (.ref r :: st) S) : kOk l G E Z M d o pc lv (.ref k :: st) S :=
  ok_getV (v := .ref r) hd hf hs (by rw [kval_R ht, hr]; rfl) kk
/-- the row of putfield: the place j of cell k, by values -/
theorem ok_putV {k c n j idx : Nat} {v : Value} {S' : kSt} (hd : kD M pc (.putfield idx) 3 pc') (hf : kFl M.1.cls idx c j) (hs : kSH[k]? = some (0, c, n)) (hfin : kFin c j = false) (hn : narrow (kTyp c j) v = v) (hfit : fits (kTyp c j) v = true) (hv : kcv E.1 v = v) (h1 : kval E S' k j (kTyp c j) = v) (h2 : ∀ i, i ≠ j → kval E S' k i (kTyp c i) = kval E S k i (kTyp c i)) (h3 : ∀ i, i ≠ k → kent G E S' i = kent G E S i)
    (kk : kOk l G E Z M d o pc' lv st S') : kOk l G E Z M d o pc lv (v :: .ref k :: st) S := by
  intro p e s m args below meth c0 A H locs ls q C hP hS hl ho
  obtain ⟨hdc, rfl⟩ := hd
  obtain ⟨Cn, T, N, g1, g2, g3, g4⟩ := hf
  have hN := kshN hs g1
  subst hN
  have hlt := kSH_lt hs
  have hD : va_D A (kws G E S) := kws_D C.2.2.2.2.2.2.1 C.2.2.2.2.2.1
  have hff : (T j).2.2.2 = false := by
    unfold kFin at hfin
    rw [g1] at hfin
    exact hfin
  show W p l e d.1 s m args below meth c0 H locs d.2.1 d.2.2.1 _ (F0 m pc ls (kcv E.1 v :: .ref (E.1 k) :: st.map (kcv E.1)))
  rw [hv]
  refine va_put (a := E.1 k) (fs := kfs E S k c n) C.1.1 C.1.2.1 C.1.2.2.2.2.2.2 (kob g1).1 (kTyp c) (kob g1).2.1 (kob g1).2.2 C.1.2.2.2.2.2.1 C.2.1 hP hD hS k (by rw [kws_at hlt, kent_obj hs]) g1 j g2 (C.1.2.2.2.2.2.2 _ g3) (by rw [g4]; exact fun _ h => h) hff ((kob g1).2.1 j g2) hn hfit (by simpa [kfs] using g2) hdc (fun H1 locs1 hP1 _ hS1 => ?_)
  rw [← kfs_set (S' := S') h1 h2, kws_set (S' := S') hlt (kent_obj hs) h3] at hP1
  exact kk p e s m args below meth c0 A H1 locs1 ls q C hP1 hS1 hl ho
theorem kval_other {k j i : Nat} {x : Int32} {ty : FieldType} (h : i ≠ j) : kval E (kuI S k j x) k i ty = kval E S k i ty := by
  have h1 : (kuI S k j x).1 k i = S.1 k i := by simp [kuI, upd, h]
  unfold kval
  rw [h1]
  rfl
theorem kval_otherL {k j i : Nat} {x : Int64} {ty : FieldType} (h : i ≠ j) : kval E (kuL S k j x) k i ty = kval E S k i ty := by
  have h1 : (kuL S k j x).2 k i = S.2 k i := by simp [kuL, vp_updL, h]
  unfold kval
  rw [h1]
  rfl
theorem ok_putI {k c n j idx : Nat} {x : Int32} (hd : kD M pc (.putfield idx) 3 pc') (hf : kFl M.1.cls idx c j) (hs : kSH[k]? = some (0, c, n)) (hfin : kFin c j = false) (ht : kTyp c j = .int) (kk : kOk l G E Z M d o pc' lv st (kuI S k j x)) : kOk l G E Z M d o pc lv (.int x :: .ref k :: st) S :=
  ok_putV hd hf hs hfin (by rw [ht]; exact vp_nar_int x) (by rw [ht]; rfl) rfl (by rw [ht]; show Value.int ((kuI S k j x).1 k j) = _; simp [kuI, upd]) (fun i hi => kval_other hi) (fun i hi => kent_congr (kuI_ne S j x hi) rfl) kk
theorem ok_putZ {k c n j idx : Nat} {b : Bool} (hd : kD M pc (.putfield idx) 3 pc') (hf : kFl M.1.cls idx c j) (hs : kSH[k]? = some (0, c, n)) (hfin : kFin c j = false) (ht : kTyp c j = .boolean) (kk : kOk l G E Z M d o pc' lv st (kuI S k j (kb b))) : kOk l G E Z M d o pc lv (.int (kb b) :: .ref k :: st) S :=
  ok_putV hd hf hs hfin (by rw [ht]; cases b <;> decide +kernel) (by rw [ht]; cases b <;> decide +kernel) rfl (by rw [ht]; show Value.int ((kuI S k j (kb b)).1 k j) = _; simp [kuI, upd]) (fun i hi => kval_other hi) (fun i hi => kent_congr (kuI_ne S j (kb b) hi) rfl) kk
theorem ok_putL {k c n j idx : Nat} {x : Int64} (hd : kD M pc (.putfield idx) 3 pc') (hf : kFl M.1.cls idx c j) (hs : kSH[k]? = some (0, c, n)) (hfin : kFin c j = false) (ht : kTyp c j = .long) (kk : kOk l G E Z M d o pc' lv st (kuL S k j x)) : kOk l G E Z M d o pc lv (.long x :: .ref k :: st) S :=
  ok_putV hd hf hs hfin (by rw [ht]; rfl) (by rw [ht]; rfl) rfl (by rw [ht]; show Value.long ((kuL S k j x).2 k j) = _; simp [kuL, vp_updL]) (fun i hi => kval_otherL hi) (fun i hi => kent_congr rfl (kuL_ne S j x hi)) kk
-- arrays
theorem ok_iald {k n : Nat} {i : Int32} (hd : kD M pc .iaload 1 pc') (hs : kSH[k]? = some (1, 0, n)) (kk : kOk l G E Z M d o pc' lv (.int (S.1 k i.toNatClampNeg) :: st) S) : kOk l G E Z M d (kgi i n o) pc lv (.int i :: .ref k :: st) S := by
  intro p e s m args below meth c A H locs ls q C hP hS hl ho
  obtain ⟨hdc, rfl⟩ := hd
  obtain ⟨hi, ho⟩ := kgi_some ho
  exact va_iald (a := E.1 k) (cA := G.2.1.1) (n := n) (f := S.1 k) C.1.1 C.1.2.1 C.2.1 hP k 0 (by rw [kws_at (kSH_lt hs), kent_i hs]) rfl hi hdc (kk p e s m args below meth c A H locs ls q C hP hS hl ho)
theorem ok_bald {k n : Nat} {i : Int32} (hd : kD M pc .baload 1 pc') (hs : kSH[k]? = some (1, 1, n)) (kk : kOk l G E Z M d o pc' lv (.int (S.1 k i.toNatClampNeg) :: st) S) : kOk l G E Z M d (kgi i n o) pc lv (.int i :: .ref k :: st) S := by
  intro p e s m args below meth c A H locs ls q C hP hS hl ho
  obtain ⟨hdc, rfl⟩ := hd
  obtain ⟨hi, ho⟩ := kgi_some ho
  exact va_bald (a := E.1 k) (cA := G.2.1.2.1) (n := n) (f := S.1 k) C.1.1 C.1.2.1 C.2.1 hP k 1 (by rw [kws_at (kSH_lt hs), kent_b hs]) rfl hi hdc (kk p e s m args below meth c A H locs ls q C hP hS hl ho)
theorem ok_iast {k n : Nat} {i x : Int32} (hd : kD M pc .iastore 1 pc') (hs : kSH[k]? = some (1, 0, n)) (kk : kOk l G E Z M d o pc' lv st (kuI S k i.toNatClampNeg x)) : kOk l G E Z M d (kgi i n o) pc lv (.int x :: .int i :: .ref k :: st) S := by
  intro p e s m args below meth c A H locs ls q C hP hS hl ho
  obtain ⟨hdc, rfl⟩ := hd
  obtain ⟨hi, ho⟩ := kgi_some ho
  have hlt := kSH_lt hs
  have hD : va_D A (kws G E S) := kws_D C.2.2.2.2.2.2.1 C.2.2.2.2.2.1
  refine va_iast (a := E.1 k) (cA := G.2.1.1) (n := n) (f := S.1 k) C.1.1 C.1.2.1 C.2.1 hP hD hS k 0 (by rw [kws_at hlt, kent_i hs]) rfl hi hdc (fun H1 locs1 hP1 _ hS1 => ?_)
  rw [kws_set (S' := kuI S k i.toNatClampNeg x) hlt (by rw [kent_i hs, kuI_self]) (fun a ha => kent_congr (kuI_ne S _ _ ha) rfl)] at hP1
  exact kk p e s m args below meth c A H1 locs1 ls q C hP1 hS1 hl ho
theorem ok_bast {k n : Nat} {i x : Int32} (hd : kD M pc .bastore 1 pc') (hs : kSH[k]? = some (1, 1, n)) (kk : kOk l G E Z M d o pc' lv st (kuI S k i.toNatClampNeg x.toInt8.toInt32)) : kOk l G E Z M d (kgi i n o) pc lv (.int x :: .int i :: .ref k :: st) S := by
  intro p e s m args below meth c A H locs ls q C hP hS hl ho
  obtain ⟨hdc, rfl⟩ := hd
  obtain ⟨hi, ho⟩ := kgi_some ho
  have hlt := kSH_lt hs
  have hD : va_D A (kws G E S) := kws_D C.2.2.2.2.2.2.1 C.2.2.2.2.2.1
  refine va_bast (a := E.1 k) (cA := G.2.1.2.1) (n := n) (f := S.1 k) C.1.1 C.1.2.1 C.2.1 hP hD hS k 1 (by rw [kws_at hlt, kent_b hs]) rfl hi hdc (fun H1 locs1 hP1 _ hS1 => ?_)
  rw [vp_nar_byte, kws_set (S' := kuI S k i.toNatClampNeg x.toInt8.toInt32) hlt (by rw [kent_b hs, kuI_self]) (fun a ha => kent_congr (kuI_ne S _ _ ha) rfl)] at hP1
  exact kk p e s m args below meth c A H1 locs1 ls q C hP1 hS1 hl ho
theorem ok_alen {k n : Nat} (hd : kD M pc .arraylength 1 pc') (hs : kSH[k]? = some (1, 0, n)) (kk : kOk l G E Z M d o pc' lv (.int (Int32.ofNat n) :: st) S) : kOk l G E Z M d o pc lv (.ref k :: st) S := by
  intro p e s m args below meth c A H locs ls q C hP hS hl ho
  obtain ⟨hdc, rfl⟩ := hd
  exact va_alen (a := E.1 k) (cA := G.2.1.1) (x := (n, .inl (S.1 k))) (ty := .int) C.1.1 C.1.2.1 C.2.1 hP k 0 (by rw [kws_at (kSH_lt hs), kent_i hs]) rfl rfl hdc (kk p e s m args below meth c A H locs ls q C hP hS hl ho)
theorem ok_alenB {k n : Nat} (hd : kD M pc .arraylength 1 pc') (hs : kSH[k]? = some (1, 1, n)) (kk : kOk l G E Z M d o pc' lv (.int (Int32.ofNat n) :: st) S) : kOk l G E Z M d o pc lv (.ref k :: st) S := by
  intro p e s m args below meth c A H locs ls q C hP hS hl ho
  obtain ⟨hdc, rfl⟩ := hd
  exact va_alen (a := E.1 k) (cA := G.2.1.2.1) (x := (n, .inl (S.1 k))) (ty := .byte) C.1.1 C.1.2.1 C.2.1 hP k 1 (by rw [kws_at (kSH_lt hs), kent_b hs]) rfl rfl hdc (kk p e s m args below meth c A H locs ls q C hP hS hl ho)
theorem ok_aald {k n b : Nat} {i : Int32} (hd : kD M pc .aaload 1 pc') (hs : kSH[k]? = some (1, 3, n)) (hr : ∀ j, j < n → kRf E.2 k j = some (b + j)) (kk : i.toNatClampNeg < n → kOk l G E Z M d o pc' lv (.ref (b + i.toNatClampNeg) :: st) S) : kOk l G E Z M d (kgi i n o) pc lv (.int i :: .ref k :: st) S := by
  intro p e s m args below meth c A H locs ls q C hP hS hl ho
  obtain ⟨hdc, rfl⟩ := hd
  obtain ⟨hi, ho⟩ := kgi_some ho
  have hlt : i.toNatClampNeg < n := Nat.not_le.mp fun q => hi (Or.inr q)
  have hP0 := hP k (E.1 k, kent G E S k) (kws_at (kSH_lt hs))
  rw [kent_q hs] at hP0
  refine W.aald (v := .ref (E.1 (b + i.toNatClampNeg))) (ty := .array .int) C.1.1 C.1.2.1 hP0 ((C.2.1.2 3 _ rfl).1 n (fun j => va_rf ((kRf E.2 k j).map E.1))) rfl (fun q => by cases q) (by show ¬ (i < 0 ∨ (arrV _ _ _).slots.size ≤ _); rw [arrV_size]; exact hi) (by show (arrV _ _ _).slots[_]? = _; rw [arrV_read _ _ hlt]; show some (va_rf ((kRf E.2 k i.toNatClampNeg).map E.1)) = _; rw [hr _ hlt]; rfl) rfl rfl hdc (kk hlt p e s m args below meth c A H locs ls q C hP hS hl ho)
end HEAP
