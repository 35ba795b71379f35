-- the tables' types of arrays
def ktys (G : kG) : List (ClassId × FieldType) := [(G.2.1.1, .int), (G.2.1.2.1, .byte), (G.2.1.2.2.1, .long), (G.2.1.2.2.2, .array .int)]
/-- two static fields that nobody writes: texts are held by bytes; the maker of a message, null or some object -/
def kZs (G : kG) (E : kE) (A : Nat → Prop) (U : State) (H : Heap) : Prop := va_Z "java/lang/String" "COMPACT_STRINGS" "Z" (.int 1) A U H ∧ va_Z "jdk/internal/util/Preconditions" "SIOOBE_FORMATTER" "Ljava/util/function/BiFunction;" (kcv E.1 G.2.2.2.2.1) A U H ∧ (G.2.2.2.2.1 = .null ∨ G.2.2.2.2.1 = .ref 2000) ∧ va_X G.2.2.2.2.2.1 G.2.2.2.2.2.2.1 G.2.2.2.2.2.2.2 U H ∧ ¬ A G.2.2.2.2.2.1 ∧ E.1 3000 = G.2.2.2.2.2.1
/-- what stands still while a method runs -/
def kCx (G : kG) (E : kE) (M : kM) (p : Program) (s : State) (m : MethodId) (args : Array Value) (meth : Method) (c : Code) (A : Nat → Prop) : Prop :=
  (p.tables.exec = Jvm.exec ∧ c.code = M.2.1 ∧ c.maxLocals = M.2.2.1 ∧ meth.sig.returnType = M.2.2.2 ∧ meth.locks = false ∧ s.vm.findClass M.1.cls = some m.cls ∧ (∀ w ∈ kT, w.before args s = true)) ∧
  va_K G.1 kCl (ktys G) s ∧ vk_S 16 kLen kByt G.2.2.1 G.2.2.2.1 A s s.heap ∧ (∀ z ∈ kSi, vk_R z.1 z.2.1 (kTx.getD z.2.2 "") (G.2.2.1 z.2.2) s) ∧
  (∀ q, s.heap.size ≤ q → A q) ∧ (∀ k, k < kN → A (E.1 k)) ∧ (∀ i j, i < kN → j < kN → E.1 i = E.1 j → i = j) ∧ (∀ i, i < 16 → E.1 (1000 + i) = G.2.2.1 i ∧ E.1 (1100 + i) = G.2.2.2.1 i) ∧ (∀ w ∈ kNl, va_Nw w s) ∧ kZs G E A s s.heap
/-- the room, what is used of it, what will be at the end -/
abbrev kDD : Type := Room × Nat × Nat × Nat × Nat
def kdp (d : Nat) : kDD := (krm d, 0, 0, 0, 0)
/-- a callee of depth d' fits -/
def kfit (d' : Nat) (d : kDD) : Prop := d' + 1 ≤ d.1.frames ∧ 60 * d' + 60 ≤ d.1.locals ∧ d.2.1 ≤ d.1.cells ∧ d.2.2.1 ≤ d.1.slots
theorem kfit_of {d' d : Nat} (h : d' < d) : kfit d' (kdp d) := by
  refine ⟨h, ?_, Nat.le_refl 0, Nat.le_refl 0⟩
  show 60 * d' + 60 ≤ 60 * d
  omega
/-- FROM pc ON, with these values at hand: if the picture o ends with q, the machine does, and its end is Z -/
def kOk {ρ : Type} (l : Launch) (G : kG) (E : kE) (Z : (Nat → Prop) → ρ → Array Value → State → Outcome → State → Prop) (M : kM) (d : kDD) (o : Option ρ) (pc : Nat) (lv : List (Nat × Value)) (st : List Value) (S : kSt) : Prop :=
  ∀ (p : Program) (e : Env) (s : State) (m : MethodId) (args : Array Value) (below : List Frame) (meth : Method) (c : Code) (A : Nat → Prop) (H : Heap) (locs : List Loc) (ls : Array Slot) (q : ρ),
    kCx G E M p s m args meth c A → va_P G.1 kCl (kws G E S) H → va_S A s.heap H locs → lv_has ls M.2.2.1 (lv.map (fun x => (x.1, kcv E.1 x.2))) → o = some q →
    W p l e d.1 s m args below meth c H locs d.2.1 d.2.2.1 (MQ below (Z A q) args s d.2.2.2.1 d.2.2.2.2 A) (F0 m pc ls (st.map (kcv E.1)))
section RULES
variable {ρ : Type} {l : Launch} {G : kG} {E : kE} {Z : (Nat → Prop) → ρ → Array Value → State → Outcome → State → Prop} {M : kM} {d : kDD} {o : Option ρ} {pc pc' : Nat} {lv lv' : List (Nat × Value)} {st : List Value} {S : kSt}
theorem ok_none : kOk l G E Z M d (none : Option ρ) pc lv st S := by
  intro p e s m args below meth c A H locs ls q C hP hS hl ho
  cases ho
theorem klv_at {ls : Array Slot} {n : Nat} (h : lv_has ls n (lv.map (fun x => (x.1, kcv E.1 x.2)))) (i : Nat) {k : Nat} {v : Value} (hi : lv[i]? = some (k, v)) : ls[k]? = some (.val (kcv E.1 v)) :=
  h.2.2 (k, kcv E.1 v) (List.mem_map.mpr ⟨(k, v), List.mem_of_getElem? hi, rfl⟩)
theorem ok_sub (ks : List Nat) (h : lv_pick lv ks = lv') (k : kOk l G E Z M d o pc lv' st S) : kOk l G E Z M d o pc lv st S := by
  intro p e s m args below meth c A H locs ls q C hP hS hl ho
  refine k p e s m args below meth c A H locs ls q C hP hS ⟨hl.1, hl.2.1, fun x hx => ?_⟩ ho
  obtain ⟨y, hy, rfl⟩ := List.mem_map.mp hx
  rw [← h] at hy
  obtain ⟨i, -, hi⟩ := List.mem_filterMap.mp hy
  exact hl.2.2 _ (List.mem_map.mpr ⟨y, List.mem_of_getElem? hi, rfl⟩)
theorem kcat (ad : Nat → Nat) (v : Value) : (kcv ad v).category = v.category := by cases v <;> rfl
theorem kfilt (ad : Nat → Nat) (i : Nat) : ∀ l : List (Nat × Value), ((l.map (fun x => (x.1, kcv ad x.2))).filter (fun q => !(q.1 == i) && !(q.1 + 1 == i && q.2.category == 2))) = (l.filter (fun q => !(q.1 == i) && !(q.1 + 1 == i && q.2.category == 2))).map (fun x => (x.1, kcv ad x.2))
  | [] => rfl
  | a :: l => by
    rw [List.map_cons, List.filter_cons, List.filter_cons, kfilt ad i l, kcat]
    split <;> rfl
theorem kfilt2 (ad : Nat → Nat) (i : Nat) : ∀ l : List (Nat × Value), ((l.map (fun x => (x.1, kcv ad x.2))).filter (fun q => !(q.1 == i) && (!(q.1 == i + 1) && !(q.1 + 1 == i && q.2.category == 2)))) = (l.filter (fun q => !(q.1 == i) && (!(q.1 == i + 1) && !(q.1 + 1 == i && q.2.category == 2)))).map (fun x => (x.1, kcv ad x.2))
  | [] => rfl
  | a :: l => by
    rw [List.map_cons, List.filter_cons, List.filter_cons, kfilt2 ad i l, kcat]
    split <;> rfl

theorem ok_iconst {n : Int} {v : Int32} (hd : kD M pc (.iconst n) 1 pc') (hv : Int32.ofInt n = v) (k : kOk l G E Z M d o pc' lv (.int v :: st) S) : kOk l G E Z M d o pc lv st S := by
  intro p e s m args below meth c A H locs ls q C hP hS hl ho
  obtain ⟨hdc, rfl⟩ := hd
  exact lv_iconst C.1.1 C.1.2.1 hdc hv (k p e s m args below meth c A H locs ls q C hP hS hl ho)
theorem ok_bipush {n : Int} {v : Int32} (hd : kD M pc (.bipush n) 2 pc') (hv : (Int8.ofInt n).toInt32 = v) (k : kOk l G E Z M d o pc' lv (.int v :: st) S) : kOk l G E Z M d o pc lv st S := by
  intro p e s m args below meth c A H locs ls q C hP hS hl ho
  obtain ⟨hdc, rfl⟩ := hd
  exact lv_bipush C.1.1 C.1.2.1 hdc hv (k p e s m args below meth c A H locs ls q C hP hS hl ho)
theorem ok_sipush {n : Int} {v : Int32} (hd : kD M pc (.sipush n) 3 pc') (hv : (Int16.ofInt n).toInt32 = v) (k : kOk l G E Z M d o pc' lv (.int v :: st) S) : kOk l G E Z M d o pc lv st S := by
  intro p e s m args below meth c A H locs ls q C hP hS hl ho
  obtain ⟨hdc, rfl⟩ := hd
  exact lv_sipush C.1.1 C.1.2.1 hdc hv (k p e s m args below meth c A H locs ls q C hP hS hl ho)
theorem ok_lconst {n : Fin 2} {v : Int64} (hd : kD M pc (.lconst n) 1 pc') (hv : Int64.ofNat (n : Nat) = v) (k : kOk l G E Z M d o pc' lv (.long v :: st) S) : kOk l G E Z M d o pc lv st S := by
  intro p e s m args below meth c A H locs ls q C hP hS hl ho
  obtain ⟨hdc, rfl⟩ := hd
  exact lv_lconst C.1.1 C.1.2.1 hdc hv (k p e s m args below meth c A H locs ls q C hP hS hl ho)
theorem ok_iadd {x y : Int32} (hd : kD M pc .iadd 1 pc') (k : kOk l G E Z M d o pc' lv (.int (x + y) :: st) S) : kOk l G E Z M d o pc lv (.int y :: .int x :: st) S := by
  intro p e s m args below meth c A H locs ls q C hP hS hl ho
  obtain ⟨hdc, rfl⟩ := hd
  exact lv_iadd C.1.1 C.1.2.1 hdc (k p e s m args below meth c A H locs ls q C hP hS hl ho)
theorem ok_isub {x y : Int32} (hd : kD M pc .isub 1 pc') (k : kOk l G E Z M d o pc' lv (.int (x - y) :: st) S) : kOk l G E Z M d o pc lv (.int y :: .int x :: st) S := by
  intro p e s m args below meth c A H locs ls q C hP hS hl ho
  obtain ⟨hdc, rfl⟩ := hd
  exact lv_isub C.1.1 C.1.2.1 hdc (k p e s m args below meth c A H locs ls q C hP hS hl ho)
theorem ok_imul {x y : Int32} (hd : kD M pc .imul 1 pc') (k : kOk l G E Z M d o pc' lv (.int (x * y) :: st) S) : kOk l G E Z M d o pc lv (.int y :: .int x :: st) S := by
  intro p e s m args below meth c A H locs ls q C hP hS hl ho
  obtain ⟨hdc, rfl⟩ := hd
  exact lv_imul C.1.1 C.1.2.1 hdc (k p e s m args below meth c A H locs ls q C hP hS hl ho)
theorem ok_iand {x y : Int32} (hd : kD M pc .iand 1 pc') (k : kOk l G E Z M d o pc' lv (.int (x &&& y) :: st) S) : kOk l G E Z M d o pc lv (.int y :: .int x :: st) S := by
  intro p e s m args below meth c A H locs ls q C hP hS hl ho
  obtain ⟨hdc, rfl⟩ := hd
  exact lv_iand C.1.1 C.1.2.1 hdc (k p e s m args below meth c A H locs ls q C hP hS hl ho)
theorem ok_ior {x y : Int32} (hd : kD M pc .ior 1 pc') (k : kOk l G E Z M d o pc' lv (.int (x ||| y) :: st) S) : kOk l G E Z M d o pc lv (.int y :: .int x :: st) S := by
  intro p e s m args below meth c A H locs ls q C hP hS hl ho
  obtain ⟨hdc, rfl⟩ := hd
  exact lv_ior C.1.1 C.1.2.1 hdc (k p e s m args below meth c A H locs ls q C hP hS hl ho)
theorem ok_ixor {x y : Int32} (hd : kD M pc .ixor 1 pc') (k : kOk l G E Z M d o pc' lv (.int (x ^^^ y) :: st) S) : kOk l G E Z M d o pc lv (.int y :: .int x :: st) S := by
  intro p e s m args below meth c A H locs ls q C hP hS hl ho
  obtain ⟨hdc, rfl⟩ := hd
  exact lv_ixor C.1.1 C.1.2.1 hdc (k p e s m args below meth c A H locs ls q C hP hS hl ho)
theorem ok_ishl {x y : Int32} (hd : kD M pc .ishl 1 pc') (k : kOk l G E Z M d o pc' lv (.int (x <<< (y &&& 31)) :: st) S) : kOk l G E Z M d o pc lv (.int y :: .int x :: st) S := by
  intro p e s m args below meth c A H locs ls q C hP hS hl ho
  obtain ⟨hdc, rfl⟩ := hd
  exact lv_ishl C.1.1 C.1.2.1 hdc (k p e s m args below meth c A H locs ls q C hP hS hl ho)
theorem ok_ishr {x y : Int32} (hd : kD M pc .ishr 1 pc') (k : kOk l G E Z M d o pc' lv (.int (x >>> (y &&& 31)) :: st) S) : kOk l G E Z M d o pc lv (.int y :: .int x :: st) S := by
  intro p e s m args below meth c A H locs ls q C hP hS hl ho
  obtain ⟨hdc, rfl⟩ := hd
  exact lv_ishr C.1.1 C.1.2.1 hdc (k p e s m args below meth c A H locs ls q C hP hS hl ho)
theorem ok_iushr {x y : Int32} (hd : kD M pc .iushr 1 pc') (k : kOk l G E Z M d o pc' lv (.int ((x.toUInt32 >>> (y.toUInt32 &&& Int32.toUInt32 31)).toInt32) :: st) S) : kOk l G E Z M d o pc lv (.int y :: .int x :: st) S := by
  intro p e s m args below meth c A H locs ls q C hP hS hl ho
  obtain ⟨hdc, rfl⟩ := hd
  exact lv_iushr C.1.1 C.1.2.1 hdc rfl (k p e s m args below meth c A H locs ls q C hP hS hl ho)
theorem ok_ineg {x : Int32} (hd : kD M pc .ineg 1 pc') (k : kOk l G E Z M d o pc' lv (.int (-x) :: st) S) : kOk l G E Z M d o pc lv (.int x :: st) S := by
  intro p e s m args below meth c A H locs ls q C hP hS hl ho
  obtain ⟨hdc, rfl⟩ := hd
  exact lv_ineg C.1.1 C.1.2.1 hdc (k p e s m args below meth c A H locs ls q C hP hS hl ho)
theorem ok_ladd {x y : Int64} (hd : kD M pc .ladd 1 pc') (k : kOk l G E Z M d o pc' lv (.long (x + y) :: st) S) : kOk l G E Z M d o pc lv (.long y :: .long x :: st) S := by
  intro p e s m args below meth c A H locs ls q C hP hS hl ho
  obtain ⟨hdc, rfl⟩ := hd
  exact lv_ladd C.1.1 C.1.2.1 hdc (k p e s m args below meth c A H locs ls q C hP hS hl ho)
theorem ok_lsub {x y : Int64} (hd : kD M pc .lsub 1 pc') (k : kOk l G E Z M d o pc' lv (.long (x - y) :: st) S) : kOk l G E Z M d o pc lv (.long y :: .long x :: st) S := by
  intro p e s m args below meth c A H locs ls q C hP hS hl ho
  obtain ⟨hdc, rfl⟩ := hd
  exact lv_lsub C.1.1 C.1.2.1 hdc (k p e s m args below meth c A H locs ls q C hP hS hl ho)
theorem ok_lmul {x y : Int64} (hd : kD M pc .lmul 1 pc') (k : kOk l G E Z M d o pc' lv (.long (x * y) :: st) S) : kOk l G E Z M d o pc lv (.long y :: .long x :: st) S := by
  intro p e s m args below meth c A H locs ls q C hP hS hl ho
  obtain ⟨hdc, rfl⟩ := hd
  exact lv_lmul C.1.1 C.1.2.1 hdc (k p e s m args below meth c A H locs ls q C hP hS hl ho)
theorem ok_i2l {x : Int32} (hd : kD M pc .i2l 1 pc') (k : kOk l G E Z M d o pc' lv (.long x.toInt64 :: st) S) : kOk l G E Z M d o pc lv (.int x :: st) S := by
  intro p e s m args below meth c A H locs ls q C hP hS hl ho
  obtain ⟨hdc, rfl⟩ := hd
  exact lv_i2l C.1.1 C.1.2.1 hdc rfl (k p e s m args below meth c A H locs ls q C hP hS hl ho)
theorem ok_i2b {x : Int32} (hd : kD M pc .i2b 1 pc') (k : kOk l G E Z M d o pc' lv (.int x.toInt8.toInt32 :: st) S) : kOk l G E Z M d o pc lv (.int x :: st) S := by
  intro p e s m args below meth c A H locs ls q C hP hS hl ho
  obtain ⟨hdc, rfl⟩ := hd
  exact lv_i2b C.1.1 C.1.2.1 hdc rfl (k p e s m args below meth c A H locs ls q C hP hS hl ho)
theorem ok_lcmp {x y : Int64} (hd : kD M pc .lcmp 1 pc') (k : kOk l G E Z M d o pc' lv (.int (lg_cmp x y) :: st) S) : kOk l G E Z M d o pc lv (.long y :: .long x :: st) S := by
  intro p e s m args below meth c A H locs ls q C hP hS hl ho
  obtain ⟨hdc, rfl⟩ := hd
  exact W.lcmp C.1.1 C.1.2.1 hdc (k p e s m args below meth c A H locs ls q C hP hS hl ho)
theorem ok_goto {off : Int} {tgt : Nat} (hd : kD M pc (.goto off) 3 pc') (ht : (pc : Int) + off = (tgt : Int)) (k : kOk l G E Z M d o tgt lv st S) : kOk l G E Z M d o pc lv st S := by
  intro p e s m args below meth c A H locs ls q C hP hS hl ho
  obtain ⟨hdc, rfl⟩ := hd
  exact lv_goto C.1.1 C.1.2.1 hdc ht (k p e s m args below meth c A H locs ls q C hP hS hl ho)
theorem ok_icmp_eq {x y : Int32} {off : Int} {tgt : Nat} {o1 o2 : Option ρ} (hd : kD M pc (.if_icmp .eq off) 3 pc') (ht : (pc : Int) + off = (tgt : Int)) (k1 : x = y → kOk l G E Z M d o1 tgt lv st S) (k2 : ¬ x = y → kOk l G E Z M d o2 pc' lv st S) : kOk l G E Z M d (if x = y then o1 else o2) pc lv (.int y :: .int x :: st) S := by
  intro p e s m args below meth c A H locs ls q C hP hS hl ho
  obtain ⟨hdc, rfl⟩ := hd
  refine lv_icmp_eq C.1.1 C.1.2.1 hdc ht (fun hc => ?_) (fun hc => ?_)
  · rw [if_pos hc] at ho
    exact k1 hc p e s m args below meth c A H locs ls q C hP hS hl ho
  · rw [if_neg hc] at ho
    exact k2 hc p e s m args below meth c A H locs ls q C hP hS hl ho
theorem ok_icmp_lt {x y : Int32} {off : Int} {tgt : Nat} {o1 o2 : Option ρ} (hd : kD M pc (.if_icmp .lt off) 3 pc') (ht : (pc : Int) + off = (tgt : Int)) (k1 : x < y → kOk l G E Z M d o1 tgt lv st S) (k2 : ¬ x < y → kOk l G E Z M d o2 pc' lv st S) : kOk l G E Z M d (if x < y then o1 else o2) pc lv (.int y :: .int x :: st) S := by
  intro p e s m args below meth c A H locs ls q C hP hS hl ho
  obtain ⟨hdc, rfl⟩ := hd
  refine lv_icmp_lt C.1.1 C.1.2.1 hdc ht (fun hc => ?_) (fun hc => ?_)
  · rw [if_pos hc] at ho
    exact k1 hc p e s m args below meth c A H locs ls q C hP hS hl ho
  · rw [if_neg hc] at ho
    exact k2 hc p e s m args below meth c A H locs ls q C hP hS hl ho
theorem ok_icmp_ge {x y : Int32} {off : Int} {tgt : Nat} {o1 o2 : Option ρ} (hd : kD M pc (.if_icmp .ge off) 3 pc') (ht : (pc : Int) + off = (tgt : Int)) (k1 : y ≤ x → kOk l G E Z M d o1 tgt lv st S) (k2 : ¬ y ≤ x → kOk l G E Z M d o2 pc' lv st S) : kOk l G E Z M d (if y ≤ x then o1 else o2) pc lv (.int y :: .int x :: st) S := by
  intro p e s m args below meth c A H locs ls q C hP hS hl ho
  obtain ⟨hdc, rfl⟩ := hd
  refine lv_icmp_ge C.1.1 C.1.2.1 hdc ht (fun hc => ?_) (fun hc => ?_)
  · rw [if_pos hc] at ho
    exact k1 hc p e s m args below meth c A H locs ls q C hP hS hl ho
  · rw [if_neg hc] at ho
    exact k2 hc p e s m args below meth c A H locs ls q C hP hS hl ho
theorem ok_icmp_gt {x y : Int32} {off : Int} {tgt : Nat} {o1 o2 : Option ρ} (hd : kD M pc (.if_icmp .gt off) 3 pc') (ht : (pc : Int) + off = (tgt : Int)) (k1 : y < x → kOk l G E Z M d o1 tgt lv st S) (k2 : ¬ y < x → kOk l G E Z M d o2 pc' lv st S) : kOk l G E Z M d (if y < x then o1 else o2) pc lv (.int y :: .int x :: st) S := by
  intro p e s m args below meth c A H locs ls q C hP hS hl ho
  obtain ⟨hdc, rfl⟩ := hd
  refine lv_icmp_gt C.1.1 C.1.2.1 hdc ht (fun hc => ?_) (fun hc => ?_)
  · rw [if_pos hc] at ho
    exact k1 hc p e s m args below meth c A H locs ls q C hP hS hl ho
  · rw [if_neg hc] at ho
    exact k2 hc p e s m args below meth c A H locs ls q C hP hS hl ho
theorem ok_icmp_le {x y : Int32} {off : Int} {tgt : Nat} {o1 o2 : Option ρ} (hd : kD M pc (.if_icmp .le off) 3 pc') (ht : (pc : Int) + off = (tgt : Int)) (k1 : x ≤ y → kOk l G E Z M d o1 tgt lv st S) (k2 : ¬ x ≤ y → kOk l G E Z M d o2 pc' lv st S) : kOk l G E Z M d (if x ≤ y then o1 else o2) pc lv (.int y :: .int x :: st) S := by
  intro p e s m args below meth c A H locs ls q C hP hS hl ho
  obtain ⟨hdc, rfl⟩ := hd
  refine lv_icmp_le C.1.1 C.1.2.1 hdc ht (fun hc => ?_) (fun hc => ?_)
  · rw [if_pos hc] at ho
    exact k1 hc p e s m args below meth c A H locs ls q C hP hS hl ho
  · rw [if_neg hc] at ho
    exact k2 hc p e s m args below meth c A H locs ls q C hP hS hl ho
theorem ok_icmp_ne {x y : Int32} {off : Int} {tgt : Nat} {o1 o2 : Option ρ} (hd : kD M pc (.if_icmp .ne off) 3 pc') (ht : (pc : Int) + off = (tgt : Int)) (k1 : ¬ x = y → kOk l G E Z M d o1 tgt lv st S) (k2 : x = y → kOk l G E Z M d o2 pc' lv st S) : kOk l G E Z M d (if x = y then o2 else o1) pc lv (.int y :: .int x :: st) S := by
  intro p e s m args below meth c A H locs ls q C hP hS hl ho
  obtain ⟨hdc, rfl⟩ := hd
  refine lv_icmp_ne C.1.1 C.1.2.1 hdc ht (fun hc => ?_) (fun hc => ?_)
  · rw [if_neg hc] at ho
    exact k1 hc p e s m args below meth c A H locs ls q C hP hS hl ho
  · rw [if_pos hc] at ho
    exact k2 hc p e s m args below meth c A H locs ls q C hP hS hl ho
theorem ok_if_eq {x : Int32} {off : Int} {tgt : Nat} {o1 o2 : Option ρ} (hd : kD M pc (.ifCond .eq off) 3 pc') (ht : (pc : Int) + off = (tgt : Int)) (k1 : x = 0 → kOk l G E Z M d o1 tgt lv st S) (k2 : ¬ x = 0 → kOk l G E Z M d o2 pc' lv st S) : kOk l G E Z M d (if x = 0 then o1 else o2) pc lv (.int x :: st) S := by
  intro p e s m args below meth c A H locs ls q C hP hS hl ho
  obtain ⟨hdc, rfl⟩ := hd
  refine lv_if_eq C.1.1 C.1.2.1 hdc ht (fun hc => ?_) (fun hc => ?_)
  · rw [if_pos hc] at ho
    exact k1 hc p e s m args below meth c A H locs ls q C hP hS hl ho
  · rw [if_neg hc] at ho
    exact k2 hc p e s m args below meth c A H locs ls q C hP hS hl ho
theorem ok_if_lt {x : Int32} {off : Int} {tgt : Nat} {o1 o2 : Option ρ} (hd : kD M pc (.ifCond .lt off) 3 pc') (ht : (pc : Int) + off = (tgt : Int)) (k1 : x < 0 → kOk l G E Z M d o1 tgt lv st S) (k2 : ¬ x < 0 → kOk l G E Z M d o2 pc' lv st S) : kOk l G E Z M d (if x < 0 then o1 else o2) pc lv (.int x :: st) S := by
  intro p e s m args below meth c A H locs ls q C hP hS hl ho
  obtain ⟨hdc, rfl⟩ := hd
  refine lv_if_lt C.1.1 C.1.2.1 hdc ht (fun hc => ?_) (fun hc => ?_)
  · rw [if_pos hc] at ho
    exact k1 hc p e s m args below meth c A H locs ls q C hP hS hl ho
  · rw [if_neg hc] at ho
    exact k2 hc p e s m args below meth c A H locs ls q C hP hS hl ho
theorem ok_if_ge {x : Int32} {off : Int} {tgt : Nat} {o1 o2 : Option ρ} (hd : kD M pc (.ifCond .ge off) 3 pc') (ht : (pc : Int) + off = (tgt : Int)) (k1 : 0 ≤ x → kOk l G E Z M d o1 tgt lv st S) (k2 : ¬ 0 ≤ x → kOk l G E Z M d o2 pc' lv st S) : kOk l G E Z M d (if 0 ≤ x then o1 else o2) pc lv (.int x :: st) S := by
  intro p e s m args below meth c A H locs ls q C hP hS hl ho
  obtain ⟨hdc, rfl⟩ := hd
  refine lv_if_ge C.1.1 C.1.2.1 hdc ht (fun hc => ?_) (fun hc => ?_)
  · rw [if_pos hc] at ho
    exact k1 hc p e s m args below meth c A H locs ls q C hP hS hl ho
  · rw [if_neg hc] at ho
    exact k2 hc p e s m args below meth c A H locs ls q C hP hS hl ho
theorem ok_if_gt {x : Int32} {off : Int} {tgt : Nat} {o1 o2 : Option ρ} (hd : kD M pc (.ifCond .gt off) 3 pc') (ht : (pc : Int) + off = (tgt : Int)) (k1 : 0 < x → kOk l G E Z M d o1 tgt lv st S) (k2 : ¬ 0 < x → kOk l G E Z M d o2 pc' lv st S) : kOk l G E Z M d (if 0 < x then o1 else o2) pc lv (.int x :: st) S := by
  intro p e s m args below meth c A H locs ls q C hP hS hl ho
  obtain ⟨hdc, rfl⟩ := hd
  refine lv_if_gt C.1.1 C.1.2.1 hdc ht (fun hc => ?_) (fun hc => ?_)
  · rw [if_pos hc] at ho
    exact k1 hc p e s m args below meth c A H locs ls q C hP hS hl ho
  · rw [if_neg hc] at ho
    exact k2 hc p e s m args below meth c A H locs ls q C hP hS hl ho
theorem ok_if_le {x : Int32} {off : Int} {tgt : Nat} {o1 o2 : Option ρ} (hd : kD M pc (.ifCond .le off) 3 pc') (ht : (pc : Int) + off = (tgt : Int)) (k1 : x ≤ 0 → kOk l G E Z M d o1 tgt lv st S) (k2 : ¬ x ≤ 0 → kOk l G E Z M d o2 pc' lv st S) : kOk l G E Z M d (if x ≤ 0 then o1 else o2) pc lv (.int x :: st) S := by
  intro p e s m args below meth c A H locs ls q C hP hS hl ho
  obtain ⟨hdc, rfl⟩ := hd
  refine lv_if_le C.1.1 C.1.2.1 hdc ht (fun hc => ?_) (fun hc => ?_)
  · rw [if_pos hc] at ho
    exact k1 hc p e s m args below meth c A H locs ls q C hP hS hl ho
  · rw [if_neg hc] at ho
    exact k2 hc p e s m args below meth c A H locs ls q C hP hS hl ho
theorem ok_if_ne {x : Int32} {off : Int} {tgt : Nat} {o1 o2 : Option ρ} (hd : kD M pc (.ifCond .ne off) 3 pc') (ht : (pc : Int) + off = (tgt : Int)) (k1 : ¬ x = 0 → kOk l G E Z M d o1 tgt lv st S) (k2 : x = 0 → kOk l G E Z M d o2 pc' lv st S) : kOk l G E Z M d (if x = 0 then o2 else o1) pc lv (.int x :: st) S := by
  intro p e s m args below meth c A H locs ls q C hP hS hl ho
  obtain ⟨hdc, rfl⟩ := hd
  refine lv_if_ne C.1.1 C.1.2.1 hdc ht (fun hc => ?_) (fun hc => ?_)
  · rw [if_neg hc] at ho
    exact k1 hc p e s m args below meth c A H locs ls q C hP hS hl ho
  · rw [if_pos hc] at ho
    exact k2 hc p e s m args below meth c A H locs ls q C hP hS hl ho
theorem kb_0 (b : Bool) : kb b = 0 ↔ b = false := by cases b <;> decide
theorem ok_ifb_eq {b : Bool} {off : Int} {tgt : Nat} {o1 o2 : Option ρ} (hd : kD M pc (.ifCond .eq off) 3 pc') (ht : (pc : Int) + off = (tgt : Int)) (k1 : b = false → kOk l G E Z M d o1 tgt lv st S) (k2 : b = true → kOk l G E Z M d o2 pc' lv st S) : kOk l G E Z M d (if b then o2 else o1) pc lv (.int (kb b) :: st) S := by
  intro p e s m args below meth c A H locs ls q C hP hS hl ho
  obtain ⟨hdc, rfl⟩ := hd
  refine lv_if_eq C.1.1 C.1.2.1 hdc ht (fun hc => ?_) (fun hc => ?_)
  · have hb := (kb_0 b).mp hc
    subst hb
    exact k1 rfl p e s m args below meth c A H locs ls q C hP hS hl ho
  · have hb : b = true := by cases b with
      | true => rfl
      | false => exact absurd rfl hc
    subst hb
    exact k2 rfl p e s m args below meth c A H locs ls q C hP hS hl ho
theorem ok_ifb_ne {b : Bool} {off : Int} {tgt : Nat} {o1 o2 : Option ρ} (hd : kD M pc (.ifCond .ne off) 3 pc') (ht : (pc : Int) + off = (tgt : Int)) (k1 : b = true → kOk l G E Z M d o1 tgt lv st S) (k2 : b = false → kOk l G E Z M d o2 pc' lv st S) : kOk l G E Z M d (if b then o1 else o2) pc lv (.int (kb b) :: st) S := by
  intro p e s m args below meth c A H locs ls q C hP hS hl ho
  obtain ⟨hdc, rfl⟩ := hd
  refine lv_if_ne C.1.1 C.1.2.1 hdc ht (fun hc => ?_) (fun hc => ?_)
  · have hb : b = true := by cases b with
      | true => rfl
      | false => exact absurd rfl hc
    subst hb
    exact k1 rfl p e s m args below meth c A H locs ls q C hP hS hl ho
  · have hb := (kb_0 b).mp hc
    subst hb
    exact k2 rfl p e s m args below meth c A H locs ls q C hP hS hl ho
theorem ok_iload_n {f : Fin 4} {x : Int32} (i : Nat) {j : Nat} (hd : kD M pc (.iload_n f) 1 pc') (hj : (f : Nat) = j) (hi : lv[i]? = some (j, .int x)) (k : kOk l G E Z M d o pc' lv (.int x :: st) S) : kOk l G E Z M d o pc lv st S := by
  intro p e s m args below meth c A H locs ls q C hP hS hl ho
  obtain ⟨hdc, rfl⟩ := hd
  exact lv_iload_n C.1.1 C.1.2.1 hdc hj (klv_at hl i hi) (k p e s m args below meth c A H locs ls q C hP hS hl ho)
theorem ok_iload {x : Int32} (i : Nat) {j : Nat} (hd : kD M pc (.iload j) 2 pc') (hi : lv[i]? = some (j, .int x)) (k : kOk l G E Z M d o pc' lv (.int x :: st) S) : kOk l G E Z M d o pc lv st S := by
  intro p e s m args below meth c A H locs ls q C hP hS hl ho
  obtain ⟨hdc, rfl⟩ := hd
  exact lv_iload C.1.1 C.1.2.1 hdc (klv_at hl i hi) (k p e s m args below meth c A H locs ls q C hP hS hl ho)
theorem ok_lload_n {f : Fin 4} {x : Int64} (i : Nat) {j : Nat} (hd : kD M pc (.lload_n f) 1 pc') (hj : (f : Nat) = j) (hi : lv[i]? = some (j, .long x)) (k : kOk l G E Z M d o pc' lv (.long x :: st) S) : kOk l G E Z M d o pc lv st S := by
  intro p e s m args below meth c A H locs ls q C hP hS hl ho
  obtain ⟨hdc, rfl⟩ := hd
  exact lv_lload_n C.1.1 C.1.2.1 hdc hj (klv_at hl i hi) (k p e s m args below meth c A H locs ls q C hP hS hl ho)
theorem ok_lload {x : Int64} (i : Nat) {j : Nat} (hd : kD M pc (.lload j) 2 pc') (hi : lv[i]? = some (j, .long x)) (k : kOk l G E Z M d o pc' lv (.long x :: st) S) : kOk l G E Z M d o pc lv st S := by
  intro p e s m args below meth c A H locs ls q C hP hS hl ho
  obtain ⟨hdc, rfl⟩ := hd
  exact lv_lload C.1.1 C.1.2.1 hdc (klv_at hl i hi) (k p e s m args below meth c A H locs ls q C hP hS hl ho)
theorem ok_aload_n {f : Fin 4} {x : Nat} (i : Nat) {j : Nat} (hd : kD M pc (.aload_n f) 1 pc') (hj : (f : Nat) = j) (hi : lv[i]? = some (j, .ref x)) (k : kOk l G E Z M d o pc' lv (.ref x :: st) S) : kOk l G E Z M d o pc lv st S := by
  intro p e s m args below meth c A H locs ls q C hP hS hl ho
  obtain ⟨hdc, rfl⟩ := hd
  exact lv_aload_n C.1.1 C.1.2.1 hdc hj (klv_at hl i hi) (k p e s m args below meth c A H locs ls q C hP hS hl ho)
theorem ok_aload {x : Nat} (i : Nat) {j : Nat} (hd : kD M pc (.aload j) 2 pc') (hi : lv[i]? = some (j, .ref x)) (k : kOk l G E Z M d o pc' lv (.ref x :: st) S) : kOk l G E Z M d o pc lv st S := by
  intro p e s m args below meth c A H locs ls q C hP hS hl ho
  obtain ⟨hdc, rfl⟩ := hd
  exact lv_aload C.1.1 C.1.2.1 hdc (klv_at hl i hi) (k p e s m args below meth c A H locs ls q C hP hS hl ho)
theorem ok_istore_n {f : Fin 4} {x : Int32} {j : Nat} (hd : kD M pc (.istore_n f) 1 pc') (hj : (f : Nat) = j) (hn : j < M.2.2.1) (hv : (j, Value.int x) :: lv.filter (fun q => !(q.1 == j) && !(q.1 + 1 == j && q.2.category == 2)) = lv') (k : kOk l G E Z M d o pc' lv' st S) : kOk l G E Z M d o pc lv (.int x :: st) S := by
  intro p e s m args below meth c A H locs ls q C hP hS hl ho
  obtain ⟨hdc, rfl⟩ := hd
  exact lv_istore_n C.1.1 C.1.2.1 hdc hj hl hn (by rw [kfilt, ← hv]; rfl) (fun ls hl => k p e s m args below meth c A H locs ls q C hP hS hl ho)
theorem ok_istore {x : Int32} {j : Nat} (hd : kD M pc (.istore j) 2 pc') (hn : j < M.2.2.1) (hv : (j, Value.int x) :: lv.filter (fun q => !(q.1 == j) && !(q.1 + 1 == j && q.2.category == 2)) = lv') (k : kOk l G E Z M d o pc' lv' st S) : kOk l G E Z M d o pc lv (.int x :: st) S := by
  intro p e s m args below meth c A H locs ls q C hP hS hl ho
  obtain ⟨hdc, rfl⟩ := hd
  exact lv_istore C.1.1 C.1.2.1 hdc hl hn (by rw [kfilt, ← hv]; rfl) (fun ls hl => k p e s m args below meth c A H locs ls q C hP hS hl ho)
theorem ok_astore_n {f : Fin 4} {x : Nat} {j : Nat} (hd : kD M pc (.astore_n f) 1 pc') (hj : (f : Nat) = j) (hn : j < M.2.2.1) (hv : (j, Value.ref x) :: lv.filter (fun q => !(q.1 == j) && !(q.1 + 1 == j && q.2.category == 2)) = lv') (k : kOk l G E Z M d o pc' lv' st S) : kOk l G E Z M d o pc lv (.ref x :: st) S := by
  intro p e s m args below meth c A H locs ls q C hP hS hl ho
  obtain ⟨hdc, rfl⟩ := hd
  exact lv_astore_n C.1.1 C.1.2.1 hdc hj hl hn (by rw [kfilt, ← hv]; rfl) (fun ls hl => k p e s m args below meth c A H locs ls q C hP hS hl ho)
theorem ok_astore {x : Nat} {j : Nat} (hd : kD M pc (.astore j) 2 pc') (hn : j < M.2.2.1) (hv : (j, Value.ref x) :: lv.filter (fun q => !(q.1 == j) && !(q.1 + 1 == j && q.2.category == 2)) = lv') (k : kOk l G E Z M d o pc' lv' st S) : kOk l G E Z M d o pc lv (.ref x :: st) S := by
  intro p e s m args below meth c A H locs ls q C hP hS hl ho
  obtain ⟨hdc, rfl⟩ := hd
  exact lv_astore C.1.1 C.1.2.1 hdc hl hn (by rw [kfilt, ← hv]; rfl) (fun ls hl => k p e s m args below meth c A H locs ls q C hP hS hl ho)
theorem ok_lstore_n {f : Fin 4} {x : Int64} {j : Nat} (hd : kD M pc (.lstore_n f) 1 pc') (hj : (f : Nat) = j) (hn : j + 1 < M.2.2.1) (hv : (j, Value.long x) :: lv.filter (fun q => !(q.1 == j) && (!(q.1 == j + 1) && !(q.1 + 1 == j && q.2.category == 2))) = lv') (k : kOk l G E Z M d o pc' lv' st S) : kOk l G E Z M d o pc lv (.long x :: st) S := by
  intro p e s m args below meth c A H locs ls q C hP hS hl ho
  obtain ⟨hdc, rfl⟩ := hd
  exact lv_lstore_n C.1.1 C.1.2.1 hdc hj hl hn (by rw [kfilt2, ← hv]; rfl) (fun ls hl => k p e s m args below meth c A H locs ls q C hP hS hl ho)
theorem ok_lstore {x : Int64} {j : Nat} (hd : kD M pc (.lstore j) 2 pc') (hn : j + 1 < M.2.2.1) (hv : (j, Value.long x) :: lv.filter (fun q => !(q.1 == j) && (!(q.1 == j + 1) && !(q.1 + 1 == j && q.2.category == 2))) = lv') (k : kOk l G E Z M d o pc' lv' st S) : kOk l G E Z M d o pc lv (.long x :: st) S := by
  intro p e s m args below meth c A H locs ls q C hP hS hl ho
  obtain ⟨hdc, rfl⟩ := hd
  exact lv_lstore C.1.1 C.1.2.1 hdc hl hn (by rw [kfilt2, ← hv]; rfl) (fun ls hl => k p e s m args below meth c A H locs ls q C hP hS hl ho)
theorem ok_iinc {x v : Int32} {j : Nat} {n : Int} (i : Nat) (hd : kD M pc (.iinc j n) 3 pc') (hi : lv[i]? = some (j, .int x)) (hx : x + Int32.ofInt n = v) (hn : j < M.2.2.1) (hv : (j, Value.int v) :: lv.filter (fun q => !(q.1 == j) && !(q.1 + 1 == j && q.2.category == 2)) = lv') (k : kOk l G E Z M d o pc' lv' st S) : kOk l G E Z M d o pc lv st S := by
  intro p e s m args below meth c A H locs ls q C hP hS hl ho
  obtain ⟨hdc, rfl⟩ := hd
  exact lv_iinc (k := i) C.1.1 C.1.2.1 hdc hl (by rw [List.getElem?_map, hi]; rfl) hx hn (by rw [kfilt, ← hv]; rfl) (fun ls hl => k p e s m args below meth c A H locs ls q C hP hS hl ho)
theorem ok_dup {v : Value} (hd : kD M pc .dup 1 pc') (hv : v.category = 1) (k : kOk l G E Z M d o pc' lv (v :: v :: st) S) : kOk l G E Z M d o pc lv (v :: st) S := by
  intro p e s m args below meth c A H locs ls q C hP hS hl ho
  obtain ⟨hdc, rfl⟩ := hd
  exact lv_dup C.1.1 C.1.2.1 hdc (by rw [kcat]; exact hv) (k p e s m args below meth c A H locs ls q C hP hS hl ho)
theorem ok_pop {v : Value} (hd : kD M pc .pop 1 pc') (hv : v.category = 1) (k : kOk l G E Z M d o pc' lv st S) : kOk l G E Z M d o pc lv (v :: st) S := by
  intro p e s m args below meth c A H locs ls q C hP hS hl ho
  obtain ⟨hdc, rfl⟩ := hd
  exact lv_pop C.1.1 C.1.2.1 hdc (by rw [kcat]; exact hv) (k p e s m args below meth c A H locs ls q C hP hS hl ho)
theorem ok_dup2 {v w : Value} (hd : kD M pc .dup2 1 pc') (hv : v.category = 1) (hw : w.category = 1) (k : kOk l G E Z M d o pc' lv (v :: w :: v :: w :: st) S) : kOk l G E Z M d o pc lv (v :: w :: st) S := by
  intro p e s m args below meth c A H locs ls q C hP hS hl ho
  obtain ⟨hdc, rfl⟩ := hd
  exact lv_dup2_11 C.1.1 C.1.2.1 hdc (by rw [kcat]; exact hv) (by rw [kcat]; exact hw) (k p e s m args below meth c A H locs ls q C hP hS hl ho)
def kgz {α : Type} (y : Int32) (o : Option α) : Option α := if y = 0 then none else o
def kgzL {α : Type} (y : Int64) (o : Option α) : Option α := if y = 0 then none else o
def kgi {α : Type} (i : Int32) (n : Nat) (o : Option α) : Option α := if i < 0 ∨ n ≤ i.toNatClampNeg then none else o
def knx {α β : Type} (a : α) (f : α → β) : β := f a
theorem kgz_some {α : Type} {y : Int32} {o : Option α} {q : α} (h : kgz y o = some q) : ¬ y = 0 ∧ o = some q := by
  unfold kgz at h
  split at h
  · cases h
  · exact ⟨by assumption, h⟩
theorem kgzL_some {α : Type} {y : Int64} {o : Option α} {q : α} (h : kgzL y o = some q) : ¬ y = 0 ∧ o = some q := by
  unfold kgzL at h
  split at h
  · cases h
  · exact ⟨by assumption, h⟩
theorem kgi_some {α : Type} {i : Int32} {n : Nat} {o : Option α} {q : α} (h : kgi i n o = some q) : vp_in i n ∧ o = some q := by
  unfold kgi at h
  split at h
  · cases h
  · exact ⟨by assumption, h⟩
theorem ok_nx {α : Type} {a : α} {f : α → Option ρ} (k : ∀ b, b = a → kOk l G E Z M d (f b) pc lv st S) : kOk l G E Z M d (knx a f) pc lv st S := k a rfl
theorem ok_topi {x : Int32} {f : Int32 → Option ρ} (k : ∀ b, b = x → kOk l G E Z M d (f b) pc lv (.int b :: st) S) : kOk l G E Z M d (knx x f) pc lv (.int x :: st) S := k x rfl
theorem ok_topl {x : Int64} {f : Int64 → Option ρ} (k : ∀ b, b = x → kOk l G E Z M d (f b) pc lv (.long b :: st) S) : kOk l G E Z M d (knx x f) pc lv (.long x :: st) S := k x rfl
theorem ok_topb {x : Bool} {f : Bool → Option ρ} (k : ∀ b, b = x → kOk l G E Z M d (f b) pc lv (.int (kb b) :: st) S) : kOk l G E Z M d (knx x f) pc lv (.int (kb x) :: st) S := k x rfl
theorem ok_nS {T : kSt} {f : kSt → Option ρ} (k : ∀ b, b = T → kOk l G E Z M d (f b) pc lv st b) : kOk l G E Z M d (knx T f) pc lv st T := k T rfl
theorem ok_idiv {x y : Int32} (hd : kD M pc .idiv 1 pc') (k : kOk l G E Z M d o pc' lv (.int (x / y) :: st) S) : kOk l G E Z M d (kgz y o) pc lv (.int y :: .int x :: st) S := by
  intro p e s m args below meth c A H locs ls q C hP hS hl ho
  obtain ⟨hdc, rfl⟩ := hd
  obtain ⟨hy, ho⟩ := kgz_some ho
  exact lv_idiv C.1.1 C.1.2.1 hdc hy (k p e s m args below meth c A H locs ls q C hP hS hl ho)
theorem ok_ldiv {x y : Int64} (hd : kD M pc .ldiv 1 pc') (k : kOk l G E Z M d o pc' lv (.long (x / y) :: st) S) : kOk l G E Z M d (kgzL y o) pc lv (.long y :: .long x :: st) S := by
  intro p e s m args below meth c A H locs ls q C hP hS hl ho
  obtain ⟨hdc, rfl⟩ := hd
  obtain ⟨hy, ho⟩ := kgzL_some ho
  exact lv_ldiv C.1.1 C.1.2.1 hdc hy (k p e s m args below meth c A H locs ls q C hP hS hl ho)
theorem ok_irem {x y : Int32} (hd : kD M pc .irem 1 pc') (k : kOk l G E Z M d o pc' lv (.int (x - x / y * y) :: st) S) : kOk l G E Z M d (kgz y o) pc lv (.int y :: .int x :: st) S := by
  intro p e s m args below meth c A H locs ls q C hP hS hl ho
  obtain ⟨hdc, rfl⟩ := hd
  obtain ⟨hy, ho⟩ := kgz_some ho
  exact lv_irem C.1.1 C.1.2.1 hdc hy (k p e s m args below meth c A H locs ls q C hP hS hl ho)
theorem ok_lrem {x y : Int64} (hd : kD M pc .lrem 1 pc') (k : kOk l G E Z M d o pc' lv (.long (x - x / y * y) :: st) S) : kOk l G E Z M d (kgzL y o) pc lv (.long y :: .long x :: st) S := by
  intro p e s m args below meth c A H locs ls q C hP hS hl ho
  obtain ⟨hdc, rfl⟩ := hd
  obtain ⟨hy, ho⟩ := kgzL_some ho
  exact lv_lrem C.1.1 C.1.2.1 hdc hy (k p e s m args below meth c A H locs ls q C hP hS hl ho)
theorem ok_ldc {idx : Nat} {v : Int32} (hd : kD M pc (.ldc idx) 2 pc') (hw : Cond.constant M.1.cls idx v ∈ kT) (k : kOk l G E Z M d o pc' lv (.int v :: st) S) : kOk l G E Z M d o pc lv st S := by
  intro p e s m args below meth c A H locs ls q C hP hS hl ho
  obtain ⟨hdc, rfl⟩ := hd
  exact lv_ldc C.1.1 C.1.2.1 C.1.2.2.2.2.2.1 (C.1.2.2.2.2.2.2 _ hw) hdc (k p e s m args below meth c A H locs ls q C hP hS hl ho)
theorem ok_ldcw {idx : Nat} {v : Int32} (hd : kD M pc (.ldc_w idx) 3 pc') (hw : Cond.constant M.1.cls idx v ∈ kT) (k : kOk l G E Z M d o pc' lv (.int v :: st) S) : kOk l G E Z M d o pc lv st S := by
  intro p e s m args below meth c A H locs ls q C hP hS hl ho
  obtain ⟨hdc, rfl⟩ := hd
  exact lv_ldcw C.1.1 C.1.2.1 C.1.2.2.2.2.2.1 (C.1.2.2.2.2.2.2 _ hw) hdc (k p e s m args below meth c A H locs ls q C hP hS hl ho)
theorem ok_ldc2 {idx : Nat} {v : Int64} (hd : kD M pc (.ldc2_w idx) 3 pc') (hw : Cond.constantLong M.1.cls idx v ∈ kT) (k : kOk l G E Z M d o pc' lv (.long v :: st) S) : kOk l G E Z M d o pc lv st S := by
  intro p e s m args below meth c A H locs ls q C hP hS hl ho
  obtain ⟨hdc, rfl⟩ := hd
  exact lv_ldc2 C.1.1 C.1.2.1 C.1.2.2.2.2.2.1 (C.1.2.2.2.2.2.2 _ hw) hdc (k p e s m args below meth c A H locs ls q C hP hS hl ho)
end RULES
