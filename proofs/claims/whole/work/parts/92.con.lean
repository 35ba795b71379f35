-- CONSTRUCTORS: worlds that grow, a cell at a time, each at the heap's end
def cty (t : ClassId × ClassId × ClassId × ClassId) : List (ClassId × FieldType) := [(t.1, .int), (t.2.1, .byte), (t.2.2.1, .long), (t.2.2.2, .array .int)]
def kPrI (C : String) : MethodName := ⟨C, "<init>", "()V"⟩
def kNc : List Cond := [.methodLinkNest kR10 15 (kPrI kR5) "FigureKnee", .methodLinkNest kR10 34 (kPrI kR4) "FigureKnee", .methodLinkNest kR10 41 (kPrI kR3) "FigureKnee", .methodLinkNest kR10 53 (kPrI kR9) "FigureKnee", .methodLinkNest kR10 67 (kPrI kR8) "FigureKnee", .methodLinkNest kR10 74 (kPrI kR1) "FigureKnee", .methodLinkNest kR10 81 (kPrI kR0) "FigureKnee", .methodLinkNest kR10 88 (kPrI kR2) "FigureKnee", .methodLinkNest kR10 95 (kPrI kR6) "FigureKnee", .methodLinkNest kR1 11 (kPrI kR9) "FigureKnee"]
theorem kNc_tab : ∀ w ∈ kNc, w.onTables = true := by decide +kernel
theorem kNc_warm {s U : State} (hW : s.WarmedH U.vm) (h : ∀ w ∈ kNc, va_Nw w s) : ∀ w ∈ kNc, va_Nw w U := by
  intro w hw
  have h1 := h w hw
  simp only [kNc, List.mem_cons, List.not_mem_nil, or_false] at hw
  rcases hw with rfl | rfl | rfl | rfl | rfl | rfl | rfl | rfl | rfl | rfl <;> exact va_Nw.warmM hW h1
def nAO (U : State) : Prop := (Cond.arrayOver (.array .int)).before #[] U = true
theorem nAO.moved {u U : State} (hvm : u.vm.Alike U.vm) (h : nAO u) : nAO U := by
  have h1 := Cond.arrayOver_setVmC (args := #[]) (s := u) (vm' := U.vm) hvm (.array .int)
  have h2 : (Cond.arrayOver (.array .int)).before #[] U = (Cond.arrayOver (.array .int)).before #[] (u.setVm U.vm) := rfl
  unfold nAO
  rw [h2, h1]
  exact h
/-- what stands still while a constructor runs -/
def nC (D : va_G) (t : ClassId × ClassId × ClassId × ClassId) (M : kM) (p : Program) (s : State) (m : MethodId) (args : Array Value) (meth : Method) (c : Code) (A : Nat → Prop) : Prop :=
  (p.tables.exec = Jvm.exec ∧ c.code = M.2.1 ∧ c.maxLocals = M.2.2.1 ∧ meth.sig.returnType = M.2.2.2 ∧ meth.locks = false ∧ s.vm.findClass M.1.cls = some m.cls ∧ (∀ w ∈ kT, w.before args s = true)) ∧ va_K D kCl (cty t) s ∧ (∀ q, s.heap.size ≤ q → A q) ∧ (∀ w ∈ kNc, va_Nw w s) ∧ nAO s ∧ (M.1.name = "<init>" → meth.name = "<init>")
def nTr : (Nat → Prop) → State → Prop := fun _ _ => True
abbrev cQt : Type := List Frame → (Nat → Prop) → Array Value → State → State → Prop
def nOk (l : Launch) (D : va_G) (t : ClassId × ClassId × ClassId × ClassId) (X : (Nat → Prop) → State → Prop) (M : kM) (R : Room) (cs sl : Nat) (QQ : cQt) (pc : Nat) (lv : List (Nat × Value)) (st : List Value) (ws : va_W) : Prop :=
  ∀ (p : Program) (e : Env) (s : State) (m : MethodId) (args : Array Value) (below : List Frame) (meth : Method) (c : Code) (A : Nat → Prop) (H : Heap) (locs : List Loc) (ls : Array Slot),
    X A s → nC D t M p s m args meth c A → va_P D kCl ws H → va_D A ws → va_S A s.heap H locs → lv_has ls M.2.2.1 lv →
    W p l e R s m args below meth c H locs cs sl (QQ below A args s) (F0 m pc ls st)
section CON
variable {l : Launch} {D : va_G} {t : ClassId × ClassId × ClassId × ClassId} {X : (Nat → Prop) → State → Prop} {M : kM} {R : Room} {cs sl : Nat} {QQ : cQt} {pc pc' : Nat} {lv : List (Nat × Value)} {st : List Value} {ws ws' : va_W}
theorem co_aload_n {f : Fin 4} {a : Nat} (i : Nat) {j : Nat} (hd : kD M pc (.aload_n f) 1 pc') (hj : (f : Nat) = j) (hi : lv[i]? = some (j, .ref a)) (k : nOk l D t X M R cs sl QQ pc' lv (.ref a :: st) ws) : nOk l D t X M R cs sl QQ pc lv st ws := by
  intro p e s m args below meth c A H locs ls hX C hP hD hS hl
  obtain ⟨hdc, rfl⟩ := hd
  exact lv_aload_n C.1.1 C.1.2.1 hdc hj (lv_at hl i hi) (k p e s m args below meth c A H locs ls hX C hP hD hS hl)
theorem co_iconst {n : Int} {v : Int32} (hd : kD M pc (.iconst n) 1 pc') (hv : Int32.ofInt n = v) (k : nOk l D t X M R cs sl QQ pc' lv (.int v :: st) ws) : nOk l D t X M R cs sl QQ pc lv st ws := by
  intro p e s m args below meth c A H locs ls hX C hP hD hS hl
  obtain ⟨hdc, rfl⟩ := hd
  exact lv_iconst C.1.1 C.1.2.1 hdc hv (k p e s m args below meth c A H locs ls hX C hP hD hS hl)
theorem co_bipush {n : Int} {v : Int32} (hd : kD M pc (.bipush n) 2 pc') (hv : (Int8.ofInt n).toInt32 = v) (k : nOk l D t X M R cs sl QQ pc' lv (.int v :: st) ws) : nOk l D t X M R cs sl QQ pc lv st ws := by
  intro p e s m args below meth c A H locs ls hX C hP hD hS hl
  obtain ⟨hdc, rfl⟩ := hd
  exact lv_bipush C.1.1 C.1.2.1 hdc hv (k p e s m args below meth c A H locs ls hX C hP hD hS hl)
theorem co_sipush {n : Int} {v : Int32} (hd : kD M pc (.sipush n) 3 pc') (hv : (Int16.ofInt n).toInt32 = v) (k : nOk l D t X M R cs sl QQ pc' lv (.int v :: st) ws) : nOk l D t X M R cs sl QQ pc lv st ws := by
  intro p e s m args below meth c A H locs ls hX C hP hD hS hl
  obtain ⟨hdc, rfl⟩ := hd
  exact lv_sipush C.1.1 C.1.2.1 hdc hv (k p e s m args below meth c A H locs ls hX C hP hD hS hl)
theorem co_dup {v : Value} (hd : kD M pc .dup 1 pc') (hv : v.category = 1) (k : nOk l D t X M R cs sl QQ pc' lv (v :: v :: st) ws) : nOk l D t X M R cs sl QQ pc lv (v :: st) ws := by
  intro p e s m args below meth c A H locs ls hX C hP hD hS hl
  obtain ⟨hdc, rfl⟩ := hd
  exact lv_dup C.1.1 C.1.2.1 hdc hv (k p e s m args below meth c A H locs ls hX C hP hD hS hl)
/-- a new row at the heap's end -/
theorem co_newA {at9 : ArrayType} {ty : FieldType} {n : Int32} {N : Nat} {cA0 : ClassId} {a0 : vp_A} (i : Nat) (hd : kD M pc (.newarray at9) 2 pc') (hty : newarray.typeOf at9 = ty) (harr : Cond.arrayClass ty ∈ kT) (ht : (cty t)[i]? = some (cA0, ty)) (hra : ∀ (U : State) (c : ClassId), va_RA U c ty → U.vm.findClass ("[" ++ ty.toString) = some c) (ha : ∀ cA : ClassId, vp_cell cA a0 = arrV cA N (fun _ => defaultValue ty)) (hn : ¬ n < 0) (hN : n.toNatClampNeg = N) (hbt : N * componentBytes ty ≤ 536870912) (hc : cs + 1 ≤ R.cells) (hs : sl + N ≤ R.slots) (k : ∀ z : Nat, nOk l D t X M R (cs + 1) (sl + N) QQ pc' lv (.ref z :: st) (ws ++ [(z, .inl (cA0, a0))])) : nOk l D t X M R cs sl QQ pc lv (.int n :: st) ws := by
  intro p e s m args below meth c A H locs ls hX C hP hD hS hl
  obtain ⟨hdc, rfl⟩ := hd
  subst hty
  refine va_newaK C.1.1 C.1.2.1 (C.1.2.2.2.2.2.2 _ harr) rfl hdc rfl hn hN hbt hc hs rfl (fun H1 cA e1 z1 o1 hAr hNm => ?_)
  have hcA : cA = cA0 := Option.some.inj (hNm.symm.trans (hra _ _ (C.2.1.2 i _ ht).2))
  subst hcA
  have hk : ∀ (k : Nat) (x : Nat × va_E), ws[k]? = some x → H1[x.1]? = H[x.1]? := fun k x hx => o1 x.1 ((hP k x hx).lt)
  refine k H.size p e s m args below meth c A H1 locs ls hX C ((hP.kept hk).app (fun k x hx => ?_)) (hD.push hP rfl (C.2.2.1 _ hS.1)) ⟨Nat.le_trans hS.1 (by omega), fun x h1 h2 => (o1 x (Nat.lt_of_lt_of_le h1 hS.1)).trans (hS.2.1 x h1 h2), hS.2.2⟩ hl
  have hz : k < 1 := (List.getElem?_eq_some_iff.mp hx).1
  rw [show k = 0 by omega] at hx
  cases hx
  show H1[H.size]? = some (vp_cell _ _)
  rw [ha]
  exact e1
/-- a new object at the heap's end -/
theorem co_new {C9 : String} {T : u_T} {N ci index : Nat} {fs : List Value} (hd : kD M pc (.new index) 3 pc') (hcl : Cond.classLink M.1.cls index C9 ∈ kT) (hinst : Cond.instantiable C9 N ∈ kT) (hini : Cond.initialized C9 ∈ kT) (hq : kCl[ci]? = some (C9, T, N)) (hfs : ∀ j, j < N → defaultValue (kTyp ci j) = vp_V fs j) (hc : cs + 1 ≤ R.cells) (hs : sl + N ≤ R.slots) (k : ∀ z : Nat, nOk l D t X M R (cs + 1) (sl + N) QQ pc' lv (.ref z :: st) (ws ++ [(z, .inr (ci, fs))])) : nOk l D t X M R cs sl QQ pc lv st ws := by
  intro p e s m args below meth c A H locs ls hX C hP hD hS hl
  obtain ⟨hdc, rfl⟩ := hd
  have hts := C.1.2.2.2.2.2.2
  have hKn := C.2.1.1 ci _ hq
  refine W.newcK C.1.1 C.1.2.1 C.1.2.2.2.2.2.1 (hts _ hcl) (hts _ hinst) (hts _ hini) rfl hdc hc hs hKn.2.1 rfl (fun H1 kC hkC e1 z1 o1 => ?_)
  have hk : ∀ (k : Nat) (x : Nat × va_E), ws[k]? = some x → H1[x.1]? = H[x.1]? := fun k x hx => o1 x.1 ((hP k x hx).lt)
  refine k H.size p e s m args below meth c A H1 locs ls hX C ((hP.kept hk).app (fun k x hx => ?_)) (hD.push hP rfl (C.2.2.1 _ hS.1)) ⟨Nat.le_trans hS.1 (by omega), fun x h1 h2 => (o1 x (Nat.lt_of_lt_of_le h1 hS.1)).trans (hS.2.1 x h1 h2), hS.2.2⟩ hl
  have hz : k < 1 := (List.getElem?_eq_some_iff.mp hx).1
  rw [show k = 0 by omega] at hx
  cases hx
  exact ⟨_, hq, (u_born (kTyp ci) hts (kob hq).1 hKn hkC e1 (kob hq).2.1).to hfs⟩
theorem co_put {ci j idx a : Nat} {fs : List Value} {v : Value} (q0 : Nat) (hd : kD M pc (.putfield idx) 3 pc') (hf : kFl M.1.cls idx ci j) (hfin : kFin ci j = false) (he : ws[q0]? = some (a, .inr (ci, fs))) (hn : narrow (kTyp ci j) v = v) (hfit : fits (kTyp ci j) v = true) (hl9 : j < fs.length) (hw : ws.set q0 (a, .inr (ci, fs.set j v)) = ws') (k : nOk l D t X M R cs sl QQ pc' lv st ws') : nOk l D t X M R cs sl QQ pc lv (v :: .ref a :: st) ws := by
  subst hw
  intro p e s m args below meth c A H locs ls hX C hP hD hS hl
  obtain ⟨hdc, rfl⟩ := hd
  obtain ⟨Cn, T, N, g1, g2, g3, g4⟩ := hf
  have hff : (T j).2.2.2 = false := by
    unfold kFin at hfin
    rw [g1] at hfin
    exact hfin
  refine va_put (a := a) (fs := fs) C.1.1 C.1.2.1 C.1.2.2.2.2.2.2 (kob g1).1 (kTyp ci) (kob g1).2.1 (kob g1).2.2 C.1.2.2.2.2.2.1 C.2.1 hP hD hS q0 he g1 j g2 (C.1.2.2.2.2.2.2 _ g3) (by rw [g4]; exact fun _ h => h) hff ((kob g1).2.1 j g2) hn hfit hl9 hdc (fun H1 locs1 hP1 hD1 hS1 => ?_)
  exact k p e s m args below meth c A H1 locs1 ls hX C hP1 hD1 hS1 hl
theorem co_putF {ci j idx a : Nat} {fs : List Value} {v : Value} (q0 : Nat) (hd : kD M pc (.putfield idx) 3 pc') (hf : kFl M.1.cls idx ci j) (hfin : kFin ci j = true) (hM : M.1.name = "<init>") (hC : (kCl[ci]?).map (fun q => q.1) = some M.1.cls) (he : ws[q0]? = some (a, .inr (ci, fs))) (hn : narrow (kTyp ci j) v = v) (hfit : fits (kTyp ci j) v = true) (hl9 : j < fs.length) (hw : ws.set q0 (a, .inr (ci, fs.set j v)) = ws') (k : nOk l D t X M R cs sl QQ pc' lv st ws') : nOk l D t X M R cs sl QQ pc lv (v :: .ref a :: st) ws := by
  subst hw
  intro p e s m args below meth c A H locs ls hX C hP hD hS hl
  obtain ⟨hdc, rfl⟩ := hd
  obtain ⟨Cn, T, N, g1, g2, g3, g4⟩ := hf
  have hff : (T j).2.2.2 = true := by
    unfold kFin at hfin
    rw [g1] at hfin
    exact hfin
  have hCn : Cn = M.1.cls := by
    rw [g1] at hC
    exact Option.some.inj hC
  exact va_putF (a := a) (fs := fs) C.1.1 C.1.2.1 C.1.2.2.2.2.2.2 (kob g1).1 (kTyp ci) (kob g1).2.1 (kob g1).2.2 C.1.2.2.2.2.2.1 C.2.1 hP hD hS q0 he g1 j g2 (C.1.2.2.2.2.2.2 _ g3) (by rw [g4]; exact fun _ h => h) hff (C.2.2.2.2.2 hM) (g4.trans hCn) ((kob g1).2.1 j g2) hn hfit hl9 hdc (fun H1 locs1 hP1 hD1 hS1 => k p e s m args below meth c A H1 locs1 ls hX C hP1 hD1 hS1 hl)
theorem co_get {ci j idx a : Nat} {fs : List Value} {v : Value} (q0 : Nat) (hd : kD M pc (.getfield idx) 3 pc') (hf : kFl M.1.cls idx ci j) (he : ws[q0]? = some (a, .inr (ci, fs))) (hv : fs[j]? = some v) (k : nOk l D t X M R cs sl QQ pc' lv (v :: st) ws) : nOk l D t X M R cs sl QQ pc lv (.ref a :: st) ws := by
  intro p e s m args below meth c A H locs ls hX C hP hD hS hl
  obtain ⟨hdc, rfl⟩ := hd
  obtain ⟨Cn, T, N, g1, g2, g3, g4⟩ := hf
  exact va_get (a := a) C.1.1 C.1.2.1 C.1.2.2.2.2.2.2 (kob g1).1 C.1.2.2.2.2.2.1 C.2.1 hP q0 he g1 j g2 (C.1.2.2.2.2.2.2 _ g3) (by rw [g4]; exact fun _ h => h) hv hdc (k p e s m args below meth c A H locs ls hX C hP hD hS hl)
theorem kOI : Cond.instanceMethod Lib.objectInit ∈ kT := kin1 30 (by decide +kernel) rfl
theorem kOC : Cond.code Lib.objectInit ⟨#[0xb1]⟩ 1 none ∈ kT := kin1 31 (by decide +kernel) rfl
theorem co_obj {idx a : Nat} (hd : kD M pc (.invokespecial idx) 3 pc') (hlk : Cond.methodLink M.1.cls idx Lib.objectInit ∈ kT) (h1 : 1 ≤ R.frames) (h2 : (st.map fun v => v.category).sum + 12 ≤ R.locals) (k : nOk l D t X M R cs sl QQ pc' lv st ws) : nOk l D t X M R cs sl QQ pc lv (.ref a :: st) ws := by
  intro p e s m args below meth c A H locs ls hX C hP hD hS hl
  obtain ⟨hdc, rfl⟩ := hd
  have hts := C.1.2.2.2.2.2.2
  refine W.objInit C.1.1 C.1.2.1 C.1.2.2.2.2.2.1 (hts _ hlk) (hts _ kOI) (hts _ kOC) rfl (hl.1.trans C.1.2.2.1.symm) rfl hdc h1 (by show 2 * (F0 m pc ls (.ref a :: st)).monitorRoom + _ + 12 ≤ _; rw [show (F0 m pc ls (.ref a :: st)).monitorRoom = 0 from rfl]; omega) ?_
  exact W.eq (g2 := F0 m (pc + 3) ls st) rfl (k p e s m args below meth c A H locs ls hX C hP hD hS hl)
/-- what a constructor leaves: the cells of w u, u the new cells' addresses -/
def nQ (D : va_G) (w : (Nat → Nat) → va_W) (A : Nat → Prop) : Array Value → State → Outcome → State → Prop := va_Qv (fun (_ : Nat → Nat) => True) (fun u t => va_P D kCl (w u) t.heap ∧ va_D A (w u)) A
def nE (D : va_G) (w : (Nat → Nat) → va_W) (mc ms : Nat) : cQt := fun below A args s => MQ below (nQ D w A) args s mc ms A
theorem co_ret {w : (Nat → Nat) → va_W} (u : Nat → Nat) (hd : kD M pc .return_ 1 pc') (hr : M.2.2.2 = none) (hw : w u = ws) : nOk l D t X M R cs sl (nE D w cs sl) pc lv [] ws := by
  subst hw
  intro p e s m args below meth c A H locs ls hX C hP hD hS hl
  obtain ⟨hdc, rfl⟩ := hd
  exact W.vret C.1.1 C.1.2.1 (by rw [C.1.2.2.2.1, hr]) (fun t2 ht _ => ⟨⟨u, rfl, trivial, by rw [ht]; exact hP, hD⟩, hS.F ht⟩) hS.2.2 hdc C.1.2.2.2.2.1
end CON
