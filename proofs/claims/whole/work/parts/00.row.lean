-- new int[N][K], a row of my own: the rows are made one behind another, each is then named in the row of rows
/-- the row of rows once i of its rows are there: it lies at h, they lie behind it -/
def yy_O (ca : ClassId) (N h i : Nat) : Cell := arrV ca N (fun j => if j < i then .ref (h + 1 + j) else .null)
/-- a row -/
def yy_R (ci : ClassId) (K : Nat) : Cell := arrV ci K (fun _ => .int 0)
/-- one row more -/
def yy_n (ca ci : ClassId) (N K h : Nat) (U : State) (i : Nat) : State := (U.pushCell (yy_R ci K)).setCell h (yy_O ca N h (i + 1))
/-- what a heap G has over a heap H when i rows are made -/
def yy_G (ca ci : ClassId) (N K : Nat) (H : Heap) (i : Nat) (G : Heap) : Prop :=
  G.size = H.size + 1 + i ∧ (∀ q : Nat, q < H.size → G[q]? = H[q]?) ∧ G[H.size]? = some (yy_O ca N H.size i) ∧ ∀ j : Nat, j < i → G[H.size + 1 + j]? = some (yy_R ci K)
theorem yy_O_next (ca : ClassId) (N h i : Nat) : (yy_O ca N h i).setSlot i (.ref (h + 1 + i)) = yy_O ca N h (i + 1) := by
  unfold yy_O
  rw [arrV_store]
  refine congrArg (arrV ca N) (funext fun j => ?_)
  unfold updV
  by_cases e : j = i
  · subst e
    rw [if_pos rfl, if_pos (Nat.lt_succ_self _)]
  · rw [if_neg e]
    by_cases g : j < i
    · show (if j < i then _ else _) = _
      rw [if_pos g, if_pos (Nat.lt_succ_of_lt g)]
    · show (if j < i then _ else _) = _
      rw [if_neg g, if_neg (by omega)]
theorem yy_G_zero {ca ci : ClassId} {N K : Nat} {H : Heap} {U : State} (hU : U.heap = H) : yy_G ca ci N K H 0 (U.pushCell (yy_O ca N H.size 0)).heap := by
  subst hU
  refine ⟨State.heap_size_pushCell .., fun q hq => State.heap_pushCell_of_lt _ _ hq, State.heap_pushCell_size .., fun j hj => absurd hj (Nat.not_lt_zero _)⟩
theorem yy_G_next {ca ci : ClassId} {N K i : Nat} {H : Heap} {U : State} (h : yy_G ca ci N K H i U.heap) : yy_G ca ci N K H (i + 1) (yy_n ca ci N K H.size U i).heap := by
  obtain ⟨h1, h2, h3, h4⟩ := h
  have hlt : H.size < U.heap.size := by rw [h1]; omega
  have hold : ∀ q : Nat, q < U.heap.size → H.size ≠ q → (yy_n ca ci N K H.size U i).heap[q]? = U.heap[q]? := fun q hq hne => by
    show ((U.pushCell (yy_R ci K)).setCell H.size (yy_O ca N H.size (i + 1))).heap[q]? = _
    rw [State.heap_setCell_other hne, State.heap_pushCell_of_lt (h := hq)]
  refine ⟨?_, fun q hq => ?_, ?_, fun j hj => ?_⟩
  · show ((U.heap.push (yy_R ci K)).setIfInBounds H.size (yy_O ca N H.size (i + 1))).size = _
    rw [Array.size_setIfInBounds, Array.size_push, h1]
    omega
  · rw [hold q (by omega) (by omega)]
    exact h2 q hq
  · exact State.heap_setCell_self (c := yy_O ca N H.size i) (by rw [State.heap_pushCell_of_lt (h := hlt)]; exact h3)
  · by_cases e : j = i
    · subst e
      show ((U.pushCell (yy_R ci K)).setCell H.size (yy_O ca N H.size (j + 1))).heap[H.size + 1 + j]? = _
      rw [State.heap_setCell_other (show H.size ≠ H.size + 1 + j by omega), ← h1]
      exact State.heap_pushCell_size ..
    · rw [hold _ (by omega) (by omega)]
      exact h4 j (by omega)
/-- a loop over i, i + 1 .. N - 1 whose body moves U to nx U i -/
theorem yy_for {E : CtlPost} {e : Env} {N : Nat} {f : Nat → PUnit → Sem (ForInStep PUnit)} {nx : State → Nat → State} {I : Nat → State → Prop}
    (hI : ∀ (i : Nat) (U : State), i < N → I i U → I (i + 1) (nx U i))
    (hf : ∀ (i : Nat) (U : State) (d : Bool) (acts : List Action) (Q : ForInStep PUnit → Pre), i < N → I i U → (∀ (d' : Bool) (acts' : List Action), Q (.yield PUnit.unit) d' acts' (nx U i)) → wp (f i PUnit.unit) Q E e d acts U) :
    ∀ (r i : Nat) (U : State) (d : Bool) (acts : List Action) (Q : PUnit → Pre), i + r = N → I i U → (∀ (d' : Bool) (acts' : List Action), Q PUnit.unit d' acts' ((List.range' i r).foldl nx U)) → wp (forIn (List.range' i r) PUnit.unit f) Q E e d acts U
  | 0, i, U, d, acts, Q, _, _, hq => by
    show wp (forIn ([] : List Nat) PUnit.unit f) Q E e d acts U
    rw [List.forIn_nil, wp_pure']
    exact hq d acts
  | r + 1, i, U, d, acts, Q, hr, hU, hq => by
    rw [List.range'_succ, List.forIn_cons, wp_bind']
    exact hf i U d acts _ (by omega) hU (fun d' acts' => yy_for hI hf r (i + 1) (nx U i) d' acts' Q (by omega) (hI i U (by omega) hU) hq)
theorem yy_fold {N : Nat} {nx : State → Nat → State} {I : Nat → State → Prop} (hI : ∀ (i : Nat) (U : State), i < N → I i U → I (i + 1) (nx U i)) : ∀ (r i : Nat) (U : State), i + r = N → I i U → I N ((List.range' i r).foldl nx U)
  | 0, i, U, hr, hU => by
    have e : i = N := hr
    subst e
    exact hU
  | r + 1, i, U, hr, hU => by
    rw [List.range'_succ]
    exact yy_fold hI r (i + 1) (nx U i) (by omega) (hI i U (by omega) hU)
theorem yy_top {ca ci : ClassId} {N K h : Nat} (g : JFrame) : ∀ (xs : List Nat) (U : State), xs.foldl (yy_n ca ci N K h) (U.setTop g) = (xs.foldl (yy_n ca ci N K h) U).setTop g
  | [], _ => rfl
  | x :: xs, U => yy_top g xs (yy_n ca ci N K h U x)
section YYW
variable {p : Program} {l : Launch} {e : Env} {R : Room} {s : State} {m : MethodId} {args : Array Value} {below : List Frame} {meth : Method} {c : Code} {locs : List Loc} {cells slots : Nat}
theorem yy_S {ca ci : ClassId} {N K i : Nat} {H : Heap} {U : State} (hs : s.heap.size ≤ H.size) (X : Stand p l e R s m args below meth c U locs cells slots) (h : yy_G ca ci N K H i U.heap) : Stand p l e R s m args below meth c (yy_n ca ci N K H.size U i) locs (cells + 1) (slots + K) := by
  have X1 := X.pushed (yy_R ci K)
  have e1 : (yy_R ci K).slots.size = K := arrV_size _ _ _
  rw [e1] at X1
  have hlt : H.size < U.heap.size := by rw [h.1]; omega
  have X2 := X1.stored (a := H.size) (cell := yy_O ca N H.size i) (by rw [State.heap_pushCell_of_lt (h := hlt)]; exact h.2.2.1) i (.ref (H.size + 1 + i))
  rw [yy_O_next] at X2
  exact X2.dropFresh (fun x hx => by rw [List.mem_singleton.mp hx]; exact hs)
/-- what stands when i rows are made -/
def yy_I (p : Program) (l : Launch) (e : Env) (R : Room) (s : State) (m : MethodId) (args : Array Value) (below : List Frame) (meth : Method) (c : Code) (locs : List Loc) (cells slots : Nat) (vm : Vm) (ca ci : ClassId) (N K : Nat) (H : Heap) (i : Nat) (U : State) : Prop :=
  Stand p l e R s m args below meth c U locs (cells + 1 + i) (slots + N + i * K) ∧ yy_G ca ci N K H i U.heap ∧ U.vm = vm
theorem yy_I_next {vm : Vm} {ca ci : ClassId} {N K i : Nat} {H : Heap} {U : State} (hs : s.heap.size ≤ H.size) (h : yy_I p l e R s m args below meth c locs cells slots vm ca ci N K H i U) : yy_I p l e R s m args below meth c locs cells slots vm ca ci N K H (i + 1) (yy_n ca ci N K H.size U i) := by
  have h1 := yy_S hs h.1 h.2.1
  rw [show slots + N + i * K + K = slots + N + (i + 1) * K by rw [Nat.succ_mul]; omega] at h1
  exact ⟨h1, yy_G_next h.2.1, h.2.2⟩
/-- one row: the loop's own step -/
theorem yy_row {E : CtlPost} {d : Bool} {acts : List Action} {Q : Addr → Pre} {U : State} {ci cc : ClassId} {kc : Class} {k : Int32} (hkc : U.vm.classes[ci]? = some kc) (hkind : kc.kind = .array cc .int) (hk : ¬ k < 0) (hl : ¬ k.toNatClampNeg > e.platform.arrayLengthLimit) (hh : ¬ k.toNatClampNeg * 4 > e.platform.maxHeapBytes)
    (h1 : U.heap.size < e.platform.maxCells) (h2 : U.slotsUsed + k.toNatClampNeg ≤ e.platform.maxSlots) (hq : ∀ acts' : List Action, Q U.heap.size d acts' (U.pushCell (yy_R ci k.toNatClampNeg))) : wp (multianewarray.make ci [k]) Q E e d acts U := by
  rw [multianewarray.make]
  simp only [wp_bind', Jvm.W.ite, hk, if_false, wp_pure', Jvm.W.theClass, hkc, hkind, Option.some.injEq, exists_eq_left']
  refine Jvm.W.newArray_of hkc hkind hl hh h1 h2 rfl (fun acts' => ?_)
  have e1 : ({ cls := ci, slots := Array.replicate k.toNatClampNeg (defaultValue .int) } : Cell) = yy_R ci k.toNatClampNeg := arrV_new ci k.toNatClampNeg (.int 0)
  rw [e1]
  exact hq acts'
theorem yy_W {cc : ByteArray} {pc : Nat} {ls : Array Slot} {rest : List Value} {H : Heap} {Q : State → Prop} {own : String} {index N K : Nat} {n k : Int32} {ca ci : ClassId} {args9 : Array Value} (hexec : p.tables.exec = Jvm.exec) (hb : c.code = cc) (hown : s.vm.findClass own = some m.cls)
    (hclink : (Cond.classLink own index ("[" ++ (FieldType.array .int).toString)).before args s = true) (hover : (Cond.arrayOver (.array .int)).before args9 s = true) (harr : (Cond.arrayClass .int).before args s = true)
    (hca : s.vm.findClass ("[" ++ (FieldType.array .int).toString) = some ca) (hci : s.vm.findClass (FieldType.array .int).toString = some ci) (hn : ¬ n < 0) (hk : ¬ k < 0) (hN : n.toNatClampNeg = N) (hK : k.toNatClampNeg = K) (hN1 : N ≤ 1000) (hK1 : K ≤ 1000)
    (hc : cells + (1 + N) ≤ R.cells) (hsl : slots + (N + N * K) ≤ R.slots) (hd : decode cc pc = .ok (.multianewarray index 2, 4)) (hs : s.heap.size ≤ H.size)
    (kk : ∀ G : Heap, yy_G ca ci N K H N G → W p l e R s m args below meth c G locs (cells + 1 + N) (slots + N + N * K) Q (F0 m (pc + 4) ls (.ref H.size :: rest))) : W p l e R s m args below meth c H locs cells slots Q (F0 m pc ls (.int k :: .int n :: rest)) := by
  intro T hT X
  subst hT
  subst hb
  subst hN
  subst hK
  obtain ⟨ci0, ca0, ka, hci0, -, hka, hkinda, hca0⟩ := arrayOverA_spec hover
  obtain ⟨ci1, kc, cc0, hci1, hkc, hkindc⟩ := Cond.arrayClass_spec harr
  cases hca0.symm.trans hca
  cases hci0.symm.trans hci
  cases hci1.symm.trans hci
  obtain ⟨ca1, hca1, hlk⟩ := Cond.classLink_spec hown hclink e.platform (by rw [X.admits.platform])
  cases hca1.symm.trans hca
  obtain ⟨hgv, hwv, -⟩ := State.classEntry (e := e) X.warmed hlk
  generalize T.vm.noted m.cls index (.cls ca) = vm at hgv hwv
  obtain ⟨ka1, hka1, ea⟩ := hwv.alike.2.2 _ _ hka
  obtain ⟨kc1, hkc1, ec⟩ := hwv.alike.2.2 _ _ hkc
  have hkinda1 : ka1.kind = .array ci (.array .int) := by rw [ea]; exact hkinda
  have hkindc1 : kc1.kind = .array cc0 .int := by rw [ec]; exact hkindc
  have hlim : ∀ x : Nat, x ≤ 1000 → ¬ x > e.platform.arrayLengthLimit ∧ ¬ x * 4 > e.platform.maxHeapBytes := fun x hx => by
    rw [Launch.admits_arrayLengthLimit X.admits, Launch.admits_maxHeapBytes X.admits]
    omega
  have hI0 : yy_I p l e R s m args below meth c locs cells slots vm ca ci n.toNatClampNeg k.toNatClampNeg T.heap 0 ((T.setVm vm).pushCell (yy_O ca n.toNatClampNeg T.heap.size 0)) := by
    have X0 := (X.noted hwv).pushed (yy_O ca n.toNatClampNeg T.heap.size 0)
    rw [show (yy_O ca n.toNatClampNeg T.heap.size 0).slots.size = n.toNatClampNeg from arrV_size _ _ _] at X0
    rw [show slots + n.toNatClampNeg = slots + n.toNatClampNeg + 0 * k.toNatClampNeg by rw [Nat.zero_mul, Nat.add_zero]] at X0
    exact ⟨X0, yy_G_zero (U := T.setVm vm) rfl, rfl⟩
  have hIN := yy_fold (N := n.toNatClampNeg) (fun i U _ h => yy_I_next hs h) n.toNatClampNeg 0 _ (Nat.zero_add _) hI0
  generalize hF : (List.range' 0 n.toNatClampNeg).foldl (yy_n ca ci n.toNatClampNeg k.toNatClampNeg T.heap.size) ((T.setVm vm).pushCell (yy_O ca n.toNatClampNeg T.heap.size 0)) = F at hIN
  obtain ⟨t, a1, b1⟩ := kk F.heap hIN.2.1 F rfl hIN.1
  refine ⟨t, ?_, b1⟩
  obtain ⟨hr1, hr2⟩ := X.roomAbove hc hsl
  have hfd : List.find? (fun x => decide (x < 0)) [k] = none := by simp [hk]
  have hO0 : ({ cls := ca, slots := Array.replicate n.toNatClampNeg .null } : Cell) = yy_O ca n.toNatClampNeg T.heap.size 0 := by
    refine (arrV_new ca n.toNatClampNeg .null).trans (congrArg (arrV ca n.toNatClampNeg) (funext fun j => ?_))
    rw [if_neg (Nat.not_lt_zero j)]
  jvm_step X.here [hexec, hd]
  simp only [multianewarray.sem, wp_bind', Jvm.W.resolveClassAt_links (State.method?_setTop (F0 m pc ls (.int k :: .int n :: rest)) X.here.top) hgv]
  rw [Jvm.W.popN, if_neg (by decide)]
  refine ⟨F0 m pc ls (.int k :: .int n :: rest), State.topJava?_setTop' (s := T.setVm vm) _ X.here.top, [.int n, .int k], rest, rfl, rfl, ?_⟩
  simp only [List.mapM_cons, List.mapM_nil, wp_bind', wp_pure']
  have eS : ((T.setTop (F0 m pc ls (.int k :: .int n :: rest))).setVm vm).setTop (F0 m pc ls rest) = (T.setVm vm).setTop (F0 m pc ls rest) := by
    show ((T.setVm vm).setTop (F0 m pc ls (.int k :: .int n :: rest))).setTop _ = _
    rw [State.setTop_setTop]
  rw [eS, multianewarray.make]
  simp only [wp_bind', Jvm.W.ite, hn, if_false, wp_pure', Jvm.W.theClass, State.vm_setTop, State.vm_setVm, hka1, hkinda1, Option.some.injEq, exists_eq_left']
  refine Jvm.W.newArray_of (s := (T.setVm vm).setTop (F0 m pc ls rest)) hka1 hkinda1 (hlim _ hN1).1 (hlim _ hN1).2 (by show T.heap.size < _; omega) (by show T.slotsUsed + _ ≤ _; omega) rfl (fun acts1 => ?_)
  rw [hO0]
  simp only [hfd, ite_self]
  rw [wp_bind', Std.Legacy.Range.forIn_eq_forIn_range']
  rw [show ([:n.toNatClampNeg] : Std.Legacy.Range).size = n.toNatClampNeg by simp [Std.Legacy.Range.size]]
  refine yy_for (N := n.toNatClampNeg) (nx := yy_n ca ci n.toNatClampNeg k.toNatClampNeg T.heap.size) (I := fun i U => ∃ V : State, U = V.setTop (F0 m pc ls rest) ∧ yy_I p l e R s m args below meth c locs cells slots vm ca ci n.toNatClampNeg k.toNatClampNeg T.heap i V) ?_ ?_ n.toNatClampNeg 0 (((T.setVm vm).pushCell (yy_O ca n.toNatClampNeg T.heap.size 0)).setTop (F0 m pc ls rest)) _ _ _ (Nat.zero_add _) ⟨_, rfl, hI0⟩ (fun d2 acts2 => ?_)
  · rintro i U - ⟨V, rfl, hV⟩
    exact ⟨yy_n ca ci n.toNatClampNeg k.toNatClampNeg T.heap.size V i, rfl, yy_I_next hs hV⟩
  · rintro i U d2 acts2 Q2 hi ⟨V, rfl, hV⟩ hq
    have hm : i * k.toNatClampNeg + k.toNatClampNeg ≤ n.toNatClampNeg * k.toNatClampNeg := by
      rw [← Nat.succ_mul]
      exact Nat.mul_le_mul_right _ hi
    obtain ⟨g1, g2⟩ := hV.1.roomAbove (a := 1) (b := k.toNatClampNeg) (by omega) (by omega)
    rw [wp_bind']
    refine yy_row (U := V.setTop (F0 m pc ls rest)) (kc := kc1) (cc := cc0) (by show V.vm.classes[ci]? = _; rw [hV.2.2]; exact hkc1) hkindc1 hk (hlim _ hK1).1 (hlim _ hK1).2 g1 g2 (fun acts3 => ?_)
    simp only [wp_bind', Jvm.W.writeLoc, wp_pure']
    have hlt : T.heap.size < V.heap.size := by rw [hV.2.1.1]; omega
    refine ⟨yy_O ca n.toNatClampNeg T.heap.size i, ?_, (fun h => by cases h), ?_, ?_, ?_⟩
    · show (V.pushCell _).heap[T.heap.size]? = _
      rw [State.heap_pushCell_of_lt (h := hlt)]
      exact hV.2.1.2.2.1
    · rw [show (yy_O ca n.toNatClampNeg T.heap.size i).slots.size = n.toNatClampNeg from arrV_size _ _ _]
      exact hi
    · have hvm := hV.2.2
      show State.fitsSlot _ ca .none i _ = true
      simp [State.fitsSlot, State.slotType?, hvm, hka1, hkinda1, fits]
    · rw [show (V.setTop (F0 m pc ls rest)).heap.size = T.heap.size + 1 + i from hV.2.1.1]
      show Q2 _ _ _ (((V.setTop (F0 m pc ls rest)).pushCell _).setCell T.heap.size ((yy_O ca n.toNatClampNeg T.heap.size i).setSlot i (.ref (T.heap.size + 1 + i))))
      rw [yy_O_next]
      exact hq _ _
  · rw [yy_top, hF]
    simp only [wp_bind', wp_pure', Jvm.W.mark, Jvm.W.pushRef, State.topJava?_setTop' _ hIN.1.here.top, Option.some.injEq, exists_eq_left', State.setTop_setTop]
    intro acts4
    simp [jvm, hIN.1.here.top]
    exact a1
end YYW
