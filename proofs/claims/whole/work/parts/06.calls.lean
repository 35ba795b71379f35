-- METHODS: their ends, their contracts, calls
def kQ (A : Nat → Prop) (B : State → Prop) (r : Option Value) : Array Value → State → Outcome → State → Prop := match r with
  | some (.int v) => va_Qi (fun (x : Int32) (_ : Unit) => x = v) (fun _ t => B t) A
  | some (.long v) => va_Ql (fun (x : Int64) (_ : Unit) => x = v) (fun _ t => B t) A
  | none => va_Qv (fun (_ : Unit) => True) (fun _ t => B t) A
  | _ => fun _ _ _ _ => False
def kjI (q : Int32 × kSt) : Option Value × kSt := (some (.int q.1), q.2)
def kjB (q : Bool × kSt) : Option Value × kSt := (some (.int (kb q.1)), q.2)
def kjL (q : Int64 × kSt) : Option Value × kSt := (some (.long q.1), q.2)
def kjV (q : kSt) : Option Value × kSt := (none, q)
def kZ {ρ : Type} (G : kG) (E : kE) (inj : ρ → Option Value × kSt) : (Nat → Prop) → ρ → Array Value → State → Outcome → State → Prop := fun A q => kQ A (fun t => va_P G.1 kCl (kws G E (inj q).2) t.heap) (inj q).1
def kA (E : kE) (sz : Nat) : Nat → Prop := fun q => (∃ k, k < kN ∧ q = E.1 k) ∨ sz ≤ q
def kWd (G : kG) (E : kE) (S : kSt) (sz : Nat) (U : State) : Prop := U.heap.size = sz ∧ va_P G.1 kCl (kws G E S) U.heap ∧ va_K G.1 kCl (ktys G) U ∧ vk_S 16 kLen kByt G.2.2.1 G.2.2.2.1 (kA E sz) U U.heap ∧ (∀ z ∈ kSi, vk_R z.1 z.2.1 (kTx.getD z.2.2 "") (G.2.2.1 z.2.2) U) ∧ (∀ i j, i < kN → j < kN → E.1 i = E.1 j → i = j) ∧ (∀ i, i < 16 → E.1 (1000 + i) = G.2.2.1 i ∧ E.1 (1100 + i) = G.2.2.2.1 i) ∧ (∀ w ∈ kNl, va_Nw w U) ∧ kZs G E (kA E sz) U U.heap
/-- the method's contract: if its picture ends with q, it does -/
def kFn {ρ : Type} (l : Launch) (G : kG) (E E' : kE) (inj : ρ → Option Value × kSt) (M : kM) (d : Nat) (as : List Value) (S : kSt) (o : Option ρ) : Prop :=
  ∀ q, o = some q → ∀ sz, Met l M.1 (kWs M) (krm d) (va_Pc (as.map (kcv E.1)) (kWd G E S sz)) (kZ G E' inj (kA E sz) q) 0 0 (kA E sz)
theorem kNl_tab : ∀ w ∈ kNl, w.onTables = true := by decide +kernel
theorem kNw_warm {s U : State} (hW : s.WarmedH U.vm) (h : ∀ w ∈ kNl, va_Nw w s) : ∀ w ∈ kNl, va_Nw w U := by
  intro w hw
  have h1 := h w hw
  simp only [kNl, List.mem_cons, List.not_mem_nil, or_false] at hw
  rcases hw with rfl | rfl
  · exact va_Nw.warmM hW h1
  · exact va_Nw.warmM hW h1
theorem kargs (ad : Nat → Nat) : ∀ (i : Nat) (as : List Value), lv_args i (as.map (kcv ad)) = (lv_args i as).map (fun x => (x.1, kcv ad x.2))
  | _, [] => rfl
  | i, v :: vs => by
    rw [List.map_cons, lv_args, lv_args, kcat, kargs ad _ vs]
    rfl
theorem kargl (ad : Nat → Nat) : ∀ (as : List Value), (lg_sl (as.map (kcv ad))).length = (lg_sl as).length
  | [] => rfl
  | v :: vs => by
    have h := kargl ad vs
    unfold lg_sl at h ⊢
    rw [List.map_cons, List.flatMap_cons, List.flatMap_cons, List.length_append, List.length_append, h, kcat]
    split <;> rfl
theorem kFn_of {ρ : Type} {l : Launch} {G : kG} {E E' : kE} {inj : ρ → Option Value × kSt} {M : kM} {d : Nat} {as : List Value} {S : kSt} {o : Option ρ} (hy : plainName M.1.cls = true) (hn : (G.2.2.2.2.1 = .null ∨ G.2.2.2.2.1 = .ref 2000) → (lg_sl as).length ≤ M.2.2.1) (h : kOk l G E (kZ G E' inj) M (kdp d) o 0 (lv_args 0 as) [] S) : kFn l G E E' inj M d as S o := by
  intro q hq sz
  refine Met.ofW (cc := M.2.1) (maxL := M.2.2.1) (ret := M.2.2.2) hy rfl ?_
  intro p e s m args below meth c s₁ B hml hv
  obtain ⟨rfl, hsz, hP, hK, hE, hR, hI, hT, hN, hZ⟩ := hv
  subst hsz
  have hts := atoms_spec (ws := kWs M) B.pre
  have hl := lv_entry (as.map (kcv E.1)) (n := M.2.2.1) (by rw [kargl]; exact hn hZ.2.2.1)
  rw [kargs] at hl
  rw [lg_entry_eq]
  exact h p e s m _ below meth c (kA E s.heap.size) s.heap [] _ q ⟨⟨B.exec, B.bytes, hml, B.returns, B.notSynchronized, findClass_of_methodNamed B.named, fun w hw => hts w (List.mem_cons_of_mem _ hw)⟩, hK, hE, hR, fun q h => Or.inr h, fun k hk => Or.inl ⟨k, hk, rfl⟩, hI, hT, hN, hZ⟩ hP va_S.rf hl hq
section ENDS
variable {ρ : Type} {l : Launch} {G : kG} {E : kE} {Z : (Nat → Prop) → ρ → Array Value → State → Outcome → State → Prop} {M : kM} {d : kDD} {o : Option ρ} {pc pc' : Nat} {lv lv' : List (Nat × Value)} {st : List Value} {S : kSt}
theorem ok_ireturn {d : Nat} {x : Int32} (hd : kD M pc .ireturn 1 pc') (hr : M.2.2.2 = some .int) : kOk l G E (kZ G E kjI) M (kdp d) (some (x, S)) pc lv [.int x] S := by
  intro p e s m args below meth c A H locs ls q C hP hS hl ho
  obtain ⟨hdc, rfl⟩ := hd
  cases ho
  exact W.iret C.1.1 C.1.2.1 (by rw [C.1.2.2.2.1, hr]) (fun t ht _ => ⟨⟨x, (), rfl, rfl, by show va_P _ _ _ t.heap; rw [ht]; exact hP⟩, hS.F ht⟩) hS.2.2 hdc C.1.2.2.2.2.1
theorem ok_zreturn {d : Nat} {x : Bool} (hd : kD M pc .ireturn 1 pc') (hr : M.2.2.2 = some .boolean) : kOk l G E (kZ G E kjB) M (kdp d) (some (x, S)) pc lv [.int (kb x)] S := by
  intro p e s m args below meth c A H locs ls q C hP hS hl ho
  obtain ⟨hdc, rfl⟩ := hd
  cases ho
  exact W.zret C.1.1 C.1.2.1 (by rw [C.1.2.2.2.1, hr]) (by cases x <;> decide +kernel) (fun t ht _ => ⟨⟨kb x, (), rfl, rfl, by show va_P _ _ _ t.heap; rw [ht]; exact hP⟩, hS.F ht⟩) hS.2.2 hdc C.1.2.2.2.2.1
theorem ok_lreturn {d : Nat} {x : Int64} (hd : kD M pc .lreturn 1 pc') (hr : M.2.2.2 = some .long) : kOk l G E (kZ G E kjL) M (kdp d) (some (x, S)) pc lv [.long x] S := by
  intro p e s m args below meth c A H locs ls q C hP hS hl ho
  obtain ⟨hdc, rfl⟩ := hd
  cases ho
  exact W.lret C.1.1 C.1.2.1 (by rw [C.1.2.2.2.1, hr]) (fun t ht _ => ⟨⟨x, (), rfl, rfl, by show va_P _ _ _ t.heap; rw [ht]; exact hP⟩, hS.F ht⟩) hS.2.2 hdc C.1.2.2.2.2.1
theorem ok_return {d : Nat} (hd : kD M pc .return_ 1 pc') (hr : M.2.2.2 = none) : kOk l G E (kZ G E kjV) M (kdp d) (some S) pc lv [] S := by
  intro p e s m args below meth c A H locs ls q C hP hS hl ho
  obtain ⟨hdc, rfl⟩ := hd
  cases ho
  exact W.vret C.1.1 C.1.2.1 (by rw [C.1.2.2.2.1, hr]) (fun t ht _ => ⟨⟨(), rfl, trivial, by show va_P _ _ _ t.heap; rw [ht]; exact hP⟩, hS.F ht⟩) hS.2.2 hdc C.1.2.2.2.2.1
/-- what a callee is given -/
theorem kPre {p : Program} {s : State} {m : MethodId} {args : Array Value} {meth : Method} {c : Code} {A : Nat → Prop} {H : Heap} {locs : List Loc} (C : kCx G E M p s m args meth c A) (hP : va_P G.1 kCl (kws G E S) H) (hS : va_S A s.heap H locs) (as : List Value) : PreS s H (va_Pc (as.map (kcv E.1)) (kWd G E S H.size)) (as.map (kcv E.1)) := by
  have hAA : ∀ q, kA E H.size q → A q := fun q h => by
    rcases h with ⟨k, hk, rfl⟩ | h
    · exact C.2.2.2.2.2.1 k hk
    · exact C.2.2.2.2.1 q (Nat.le_trans hS.1 h)
  refine ⟨fun a U g mk q => ?_, fun U hU hW => ⟨rfl, by rw [hU], by rw [hU]; exact hP, va_K.moved hW.alike C.2.1, ?_, fun z hz => (C.2.2.2.1 z hz).warm hW, C.2.2.2.2.2.2.1, C.2.2.2.2.2.2.2.1, kNw_warm hW C.2.2.2.2.2.2.2.2.1, ?_⟩⟩
  · obtain ⟨q0, q1, q2, q3, q4, q5, q6, q7, q8, q9, q10, q11, q12, q13, q14⟩ := q
    exact ⟨q0, q1, q2, va_K.moved (u := U) (U := U.calling g mk a) (Vm.Alike.refl U.vm) q3, vk_S.moved (u := U) (U := U.calling g mk a) (Vm.Alike.refl U.vm) q4, fun z hz => vk_R.same rfl (q5 z hz), q6, q7, fun w hw => va_Nw.same (u := U) (U := U.calling g mk a) (kNl_tab w hw) rfl (q8 w hw), va_Z.moved (u := U) (U := U.calling g mk a) (Vm.Alike.refl U.vm) q9, va_Z.moved (u := U) (U := U.calling g mk a) (Vm.Alike.refl U.vm) q10, q11, va_X.moved (u := U) (U := U.calling g mk a) (Vm.Alike.refl U.vm) q12, q13, q14⟩
  · have h1 := (C.2.2.1.kept hS.2.1).narrow hAA
    rw [hU]
    exact vk_S.moved hW.alike h1
  · have hz := C.2.2.2.2.2.2.2.2.2
    rw [hU]
    exact ⟨va_Z.moved hW.alike ((hz.1.kept hS.2.1).narrow hAA), va_Z.moved hW.alike ((hz.2.1.kept hS.2.1).narrow hAA), hz.2.2.1, va_X.moved hW.alike (hz.2.2.2.1.kept (hS.2.1 _ (by obtain ⟨_, h, _⟩ := hz.2.2.2.1; exact (Array.getElem?_eq_some_iff.mp h).1) hz.2.2.2.2.1)), fun h => hz.2.2.2.2.1 (hAA _ h), hz.2.2.2.2.2⟩
theorem kGood {M' : kM} (h : kcode M' ∈ kT) : GoodIn kT (kWs M') := fun w hw => by
  rcases List.mem_cons.mp hw with rfl | hw
  · exact ⟨h, kT_good h⟩
  · exact ⟨hw, kT_good hw⟩
theorem krm_ok {d : kDD} {d' n : Nat} (h : kfit d' d) (hn : n ≤ 30) : (krm d').frames + 1 ≤ d.1.frames ∧ 8 + (n + 11) + (krm d').locals ≤ d.1.locals := by
  have h2 := h.2.1
  refine ⟨h.1, ?_⟩
  show 8 + (n + 11) + 60 * d' ≤ d.1.locals
  omega
/-- the run of a call -/
theorem kRunV {ρ' : Type} {E' : kE} {inj : ρ' → Option Value × kSt} {M' : kM} {d' idx n k c nf : Nat} {as stk : List Value} {o1 : Option ρ'} {r : ρ'} {p : Program} {e : Env} {s : State} {m : MethodId} {args : Array Value} {below : List Frame} {meth : Method} {c0 : Code} {A : Nat → Prop} {H : Heap} {locs : List Loc} {ls : Array Slot}
    (hdc : decode M.2.1 pc = .ok (.invokevirtual idx, 3)) (hc : kCv M.1.cls idx M' n) (hs : kSH[k]? = some (0, c, nf)) (hcl : (kCl[c]?).map (fun q => q.1) = some M'.1.cls) (hn : as.length = n) (hm : M'.2.2.1 ≤ 30) (hF : kFn l G E E' inj M' d' (.ref k :: as) S o1) (hdd : kfit d' d) (hst : as.reverse ++ .ref k :: st = stk) (hrest : (st.map fun v => v.category).sum ≤ 8)
    (C : kCx G E M p s m args meth c0 A) (hP : va_P G.1 kCl (kws G E S) H) (hS : va_S A s.heap H locs) (hl : lv_has ls M.2.2.1 (lv.map (fun x => (x.1, kcv E.1 x.2)))) (hr : o1 = some r) :
    va_Run p l e d.1 s m args below meth c0 H locs d.2.1 d.2.2.1 0 0 (F0 m pc ls (stk.map (kcv E.1))) (st.map (kcv E.1)) (kZ G E' inj (kA E H.size) r ((Value.ref k :: as).map (kcv E.1)).toArray) (kA E H.size) := by
  subst hst
  obtain ⟨w1, w2, w3, w4, w5, w6⟩ := hc
  have hlt := kSH_lt hs
  have hpre := kPre C hP hS (.ref k :: as)
  cases hq : kCl[c]? with
  | none => rw [hq] at hcl; cases hcl
  | some qc =>
    rw [hq] at hcl
    have hcls : qc.1 = M'.1.cls := Option.some.inj hcl
    have hrv := va_recv (q0 := k) (ci := c) (fs := kfs E S k c nf) C.2.1 hP hq (by rw [kws_at hlt, kent_obj hs])
    rw [hcls] at hrv
    have cw := cwV (R := d.1) (rm := krm d') (mc := 0) (ms := 0) (own := M.1.cls) (index := idx) (C := M'.1.cls) (y := M'.1) (bytes := M'.2.1) (maxL := M'.2.2.1) (ret := M'.2.2.2) (ws := kWs M') (ws' := kT) n C.1.2.2.2.2.2.2 (fun w hw => by
      rcases List.mem_append.mp hw with hw | hw
      · simp only [List.mem_cons, List.not_mem_nil, or_false] at hw
        rcases hw with rfl | rfl | rfl | rfl
        · exact ⟨w1, kT_good w1⟩
        · exact ⟨w2, kT_good w2⟩
        · exact ⟨w3, kT_good w3⟩
        · exact ⟨w4, kT_good w4⟩
      · exact kGood w5 w hw) rfl rfl rfl ⟨rfl, w6.1, w6.2.1, w6.2.2⟩ (krm_ok hdd hm)
    refine va_runV (b := E.1 k) (As := as.map (kcv E.1)) (nL := M.2.2.1) (C := M'.1.cls) ⟨C.1.1, C.1.2.1, C.1.2.2.1, C.1.2.2.2.2.2.1, C.1.2.2.2.2.2.2⟩ (hF r hr H.size) cw ⟨hpre.1, hrv, hpre.2⟩ rfl (by rw [List.length_map]; exact hn) hl.1 ?_ ?_ hdc ⟨hdd.2.2.1, hdd.2.2.2⟩
    · show (as.reverse ++ .ref k :: st).map (kcv E.1) = _
      rw [List.map_append, List.map_reverse]
      rfl
    · refine lv_room ?_
      rw [List.map_map]
      have : (List.map ((fun v => Value.category v) ∘ kcv E.1) st) = st.map (fun v => v.category) := List.map_congr_left (fun v _ => kcat E.1 v)
      rw [this]
      exact hrest
theorem kRunS {ρ' : Type} {E' : kE} {inj : ρ' → Option Value × kSt} {M' : kM} {d' idx n : Nat} {as stk : List Value} {o1 : Option ρ'} {r : ρ'} {p : Program} {e : Env} {s : State} {m : MethodId} {args : Array Value} {below : List Frame} {meth : Method} {c0 : Code} {A : Nat → Prop} {H : Heap} {locs : List Loc} {ls : Array Slot}
    (hdc : decode M.2.1 pc = .ok (.invokestatic idx, 3)) (hc : kCs M.1.cls idx M' n) (hn : as.length = n) (hm : M'.2.2.1 ≤ 30) (hF : kFn l G E E' inj M' d' as S o1) (hdd : kfit d' d) (hst : as.reverse ++ st = stk) (hrest : (st.map fun v => v.category).sum ≤ 8)
    (C : kCx G E M p s m args meth c0 A) (hP : va_P G.1 kCl (kws G E S) H) (hS : va_S A s.heap H locs) (hl : lv_has ls M.2.2.1 (lv.map (fun x => (x.1, kcv E.1 x.2)))) (hr : o1 = some r) :
    va_Run p l e d.1 s m args below meth c0 H locs d.2.1 d.2.2.1 0 0 (F0 m pc ls (stk.map (kcv E.1))) (st.map (kcv E.1)) (kZ G E' inj (kA E H.size) r (as.map (kcv E.1)).toArray) (kA E H.size) := by
  subst hst
  obtain ⟨w1, w2, w4, w5, w6⟩ := hc
  have hpre := kPre C hP hS as
  have cw := va_cwS (R := d.1) (rm := krm d') (mc := 0) (ms := 0) (own := M.1.cls) (index := idx) (y := M'.1) (bytes := M'.2.1) (maxL := M'.2.2.1) (ret := M'.2.2.2) (ws := kWs M') (ws' := kT) n C.1.2.2.2.2.2.2 (fun w hw => by
      rcases List.mem_append.mp hw with hw | hw
      · simp only [List.mem_cons, List.not_mem_nil, or_false] at hw
        rcases hw with rfl | rfl | rfl
        · exact ⟨w1, kT_good w1⟩
        · exact ⟨w2, kT_good w2⟩
        · exact ⟨w4, kT_good w4⟩
      · exact kGood w5 w hw) rfl rfl rfl ⟨w6.1, w6.2.1, w6.2.2⟩ (krm_ok hdd hm)
  refine va_runS (As := as.map (kcv E.1)) (nL := M.2.2.1) ⟨C.1.1, C.1.2.1, C.1.2.2.1, C.1.2.2.2.2.2.1, C.1.2.2.2.2.2.2⟩ (hF r hr H.size) cw hpre rfl (by rw [List.length_map]; exact hn) hl.1 ?_ ?_ hdc ⟨hdd.2.2.1, hdd.2.2.2⟩
  · show (as.reverse ++ st).map (kcv E.1) = _
    rw [List.map_append, List.map_reverse]
  · refine lv_room ?_
    rw [List.map_map]
    have : (List.map ((fun v => Value.category v) ∘ kcv E.1) st) = st.map (fun v => v.category) := List.map_congr_left (fun v _ => kcat E.1 v)
    rw [this]
    exact hrest
theorem kRunN {ρ' : Type} {E' : kE} {inj : ρ' → Option Value × kSt} {M' : kM} {host : String} {d' idx n : Nat} {as stk : List Value} {o1 : Option ρ'} {r : ρ'} {p : Program} {e : Env} {s : State} {m : MethodId} {args : Array Value} {below : List Frame} {meth : Method} {c0 : Code} {A : Nat → Prop} {H : Heap} {locs : List Loc} {ls : Array Slot}
    (hdc : decode M.2.1 pc = .ok (.invokestatic idx, 3)) (hc : kCn M.1.cls host idx M' n) (hn : as.length = n) (hm : M'.2.2.1 ≤ 30) (hF : kFn l G E E' inj M' d' as S o1) (hdd : kfit d' d) (hst : as.reverse ++ st = stk) (hrest : (st.map fun v => v.category).sum ≤ 8)
    (C : kCx G E M p s m args meth c0 A) (hP : va_P G.1 kCl (kws G E S) H) (hS : va_S A s.heap H locs) (hl : lv_has ls M.2.2.1 (lv.map (fun x => (x.1, kcv E.1 x.2)))) (hr : o1 = some r) :
    va_Run p l e d.1 s m args below meth c0 H locs d.2.1 d.2.2.1 0 0 (F0 m pc ls (stk.map (kcv E.1))) (st.map (kcv E.1)) (kZ G E' inj (kA E H.size) r (as.map (kcv E.1)).toArray) (kA E H.size) := by
  subst hst
  obtain ⟨w1, w2, w4, w5, w6⟩ := hc
  have hpre := kPre C hP hS as
  have cw := va_cnB (R := d.1) (rm := krm d') (mc := 0) (ms := 0) (own := M.1.cls) (host := host) (index := idx) (y := M'.1) (bytes := M'.2.1) (maxL := M'.2.2.1) (ret := M'.2.2.2) (ws := kWs M') (ws' := kT) n C.1.2.2.2.2.2.2 (kGood w5) rfl rfl rfl (C.2.2.2.2.2.2.2.2.1 _ w1) (C.1.2.2.2.2.2.2 _ w4) ⟨w6.1, w6.2.1, w6.2.2⟩ (krm_ok hdd hm)
  refine va_runSN (As := as.map (kcv E.1)) (nL := M.2.2.1) ⟨C.1.1, C.1.2.1, C.1.2.2.1, C.1.2.2.2.2.2.1, C.1.2.2.2.2.2.2⟩ (hF r hr H.size) ⟨cw, C.1.2.2.2.2.2.2 _ w2, trivial⟩ hpre rfl (by rw [List.length_map]; exact hn) hl.1 ?_ ?_ hdc ⟨hdd.2.2.1, hdd.2.2.2⟩
  · show (as.reverse ++ st).map (kcv E.1) = _
    rw [List.map_append, List.map_reverse]
  · refine lv_room ?_
    rw [List.map_map]
    have : (List.map ((fun v => Value.category v) ∘ kcv E.1) st) = st.map (fun v => v.category) := List.map_congr_left (fun v _ => kcat E.1 v)
    rw [this]
    exact hrest
/-- the callee's cells are among the caller's -/
theorem kAA {p : Program} {s : State} {m : MethodId} {args : Array Value} {meth : Method} {c : Code} {A : Nat → Prop} {H : Heap} {locs : List Loc} (C : kCx G E M p s m args meth c A) (hS : va_S A s.heap H locs) : ∀ q, kA E H.size q → A q := fun q h => by
  rcases h with ⟨k, hk, rfl⟩ | h
  · exact C.2.2.2.2.2.1 k hk
  · exact C.2.2.2.2.1 q (Nat.le_trans hS.1 h)
theorem kbnd {α β : Type} {o1 : Option α} {o2 : α → Option β} {q : β} (h : o1.bind o2 = some q) : ∃ a, o1 = some a ∧ o2 a = some q := by
  cases o1 with
  | none => cases h
  | some a => exact ⟨a, rfl, h⟩
theorem ok_callVI {M' : kM} {d' idx n : Nat} {k c nf : Nat} {as stk : List Value} {o1 : Option (Int32 × kSt)} {o2 : Int32 × kSt → Option ρ} (hd : kD M pc (.invokevirtual idx) 3 pc') (hc : kCv M.1.cls idx M' n) (hs : kSH[k]? = some (0, c, nf)) (hcl : (kCl[c]?).map (fun q => q.1) = some M'.1.cls) (hn : as.length = n) (hm : M'.2.2.1 ≤ 30) (hF : kFn l G E E kjI M' d' (.ref k :: as) S o1) (hdd : kfit d' d) (hst : as.reverse ++ .ref k :: st = stk) (hrest : (st.map fun v => v.category).sum ≤ 8) (kk : ∀ a, o1 = some a → kOk l G E Z M d (o2 a) pc' lv (.int a.1 :: st) a.2) : kOk l G E Z M d (o1.bind o2) pc lv stk S := by
  intro p e s m args below meth c0 A H locs ls q C hP hS hl ho
  obtain ⟨hdc, rfl⟩ := hd
  obtain ⟨a, ha, ho⟩ := kbnd ho
  refine va_calli (a := ((Value.ref k :: as).map (kcv E.1)).toArray) (kRunV hdc hc hs hcl hn hm hF hdd hst hrest C hP hS hl ha) hS (fun q _ h => kAA C hS q h) (kAA C hS) (fun r u t H1 locs1 ht hvm hw hB _ _ hS1 => ?_)
  dsimp only at hB
  rw [ht] at hB
  cases hw
  exact kk a ha p e s m args below meth c0 A H1 locs1 ls q C hB hS1 hl ho
theorem ok_callSI {M' : kM} {d' idx n : Nat} {as stk : List Value} {o1 : Option (Int32 × kSt)} {o2 : Int32 × kSt → Option ρ} (hd : kD M pc (.invokestatic idx) 3 pc') (hc : kCs M.1.cls idx M' n) (hn : as.length = n) (hm : M'.2.2.1 ≤ 30) (hF : kFn l G E E kjI M' d' as S o1) (hdd : kfit d' d) (hst : as.reverse ++ st = stk) (hrest : (st.map fun v => v.category).sum ≤ 8) (kk : ∀ a, o1 = some a → kOk l G E Z M d (o2 a) pc' lv (.int a.1 :: st) a.2) : kOk l G E Z M d (o1.bind o2) pc lv stk S := by
  intro p e s m args below meth c0 A H locs ls q C hP hS hl ho
  obtain ⟨hdc, rfl⟩ := hd
  obtain ⟨a, ha, ho⟩ := kbnd ho
  refine va_calli (a := (as.map (kcv E.1)).toArray) (kRunS hdc hc hn hm hF hdd hst hrest C hP hS hl ha) hS (fun q _ h => kAA C hS q h) (kAA C hS) (fun r u t H1 locs1 ht hvm hw hB _ _ hS1 => ?_)
  dsimp only at hB
  rw [ht] at hB
  cases hw
  exact kk a ha p e s m args below meth c0 A H1 locs1 ls q C hB hS1 hl ho
theorem ok_callNI {M' : kM} {d' idx n : Nat} {host : String} {as stk : List Value} {o1 : Option (Int32 × kSt)} {o2 : Int32 × kSt → Option ρ} (hd : kD M pc (.invokestatic idx) 3 pc') (hc : kCn M.1.cls host idx M' n) (hn : as.length = n) (hm : M'.2.2.1 ≤ 30) (hF : kFn l G E E kjI M' d' as S o1) (hdd : kfit d' d) (hst : as.reverse ++ st = stk) (hrest : (st.map fun v => v.category).sum ≤ 8) (kk : ∀ a, o1 = some a → kOk l G E Z M d (o2 a) pc' lv (.int a.1 :: st) a.2) : kOk l G E Z M d (o1.bind o2) pc lv stk S := by
  intro p e s m args below meth c0 A H locs ls q C hP hS hl ho
  obtain ⟨hdc, rfl⟩ := hd
  obtain ⟨a, ha, ho⟩ := kbnd ho
  refine va_calli (a := (as.map (kcv E.1)).toArray) (kRunN hdc hc hn hm hF hdd hst hrest C hP hS hl ha) hS (fun q _ h => kAA C hS q h) (kAA C hS) (fun r u t H1 locs1 ht hvm hw hB _ _ hS1 => ?_)
  dsimp only at hB
  rw [ht] at hB
  cases hw
  exact kk a ha p e s m args below meth c0 A H1 locs1 ls q C hB hS1 hl ho
theorem ok_callVB {M' : kM} {d' idx n : Nat} {k c nf : Nat} {as stk : List Value} {o1 : Option (Bool × kSt)} {o2 : Bool × kSt → Option ρ} (hd : kD M pc (.invokevirtual idx) 3 pc') (hc : kCv M.1.cls idx M' n) (hs : kSH[k]? = some (0, c, nf)) (hcl : (kCl[c]?).map (fun q => q.1) = some M'.1.cls) (hn : as.length = n) (hm : M'.2.2.1 ≤ 30) (hF : kFn l G E E kjB M' d' (.ref k :: as) S o1) (hdd : kfit d' d) (hst : as.reverse ++ .ref k :: st = stk) (hrest : (st.map fun v => v.category).sum ≤ 8) (kk : ∀ a, o1 = some a → kOk l G E Z M d (o2 a) pc' lv (.int (kb a.1) :: st) a.2) : kOk l G E Z M d (o1.bind o2) pc lv stk S := by
  intro p e s m args below meth c0 A H locs ls q C hP hS hl ho
  obtain ⟨hdc, rfl⟩ := hd
  obtain ⟨a, ha, ho⟩ := kbnd ho
  refine va_calli (a := ((Value.ref k :: as).map (kcv E.1)).toArray) (kRunV hdc hc hs hcl hn hm hF hdd hst hrest C hP hS hl ha) hS (fun q _ h => kAA C hS q h) (kAA C hS) (fun r u t H1 locs1 ht hvm hw hB _ _ hS1 => ?_)
  dsimp only at hB
  rw [ht] at hB
  cases hw
  exact kk a ha p e s m args below meth c0 A H1 locs1 ls q C hB hS1 hl ho
theorem ok_callSB {M' : kM} {d' idx n : Nat} {as stk : List Value} {o1 : Option (Bool × kSt)} {o2 : Bool × kSt → Option ρ} (hd : kD M pc (.invokestatic idx) 3 pc') (hc : kCs M.1.cls idx M' n) (hn : as.length = n) (hm : M'.2.2.1 ≤ 30) (hF : kFn l G E E kjB M' d' as S o1) (hdd : kfit d' d) (hst : as.reverse ++ st = stk) (hrest : (st.map fun v => v.category).sum ≤ 8) (kk : ∀ a, o1 = some a → kOk l G E Z M d (o2 a) pc' lv (.int (kb a.1) :: st) a.2) : kOk l G E Z M d (o1.bind o2) pc lv stk S := by
  intro p e s m args below meth c0 A H locs ls q C hP hS hl ho
  obtain ⟨hdc, rfl⟩ := hd
  obtain ⟨a, ha, ho⟩ := kbnd ho
  refine va_calli (a := (as.map (kcv E.1)).toArray) (kRunS hdc hc hn hm hF hdd hst hrest C hP hS hl ha) hS (fun q _ h => kAA C hS q h) (kAA C hS) (fun r u t H1 locs1 ht hvm hw hB _ _ hS1 => ?_)
  dsimp only at hB
  rw [ht] at hB
  cases hw
  exact kk a ha p e s m args below meth c0 A H1 locs1 ls q C hB hS1 hl ho
theorem ok_callNB {M' : kM} {d' idx n : Nat} {host : String} {as stk : List Value} {o1 : Option (Bool × kSt)} {o2 : Bool × kSt → Option ρ} (hd : kD M pc (.invokestatic idx) 3 pc') (hc : kCn M.1.cls host idx M' n) (hn : as.length = n) (hm : M'.2.2.1 ≤ 30) (hF : kFn l G E E kjB M' d' as S o1) (hdd : kfit d' d) (hst : as.reverse ++ st = stk) (hrest : (st.map fun v => v.category).sum ≤ 8) (kk : ∀ a, o1 = some a → kOk l G E Z M d (o2 a) pc' lv (.int (kb a.1) :: st) a.2) : kOk l G E Z M d (o1.bind o2) pc lv stk S := by
  intro p e s m args below meth c0 A H locs ls q C hP hS hl ho
  obtain ⟨hdc, rfl⟩ := hd
  obtain ⟨a, ha, ho⟩ := kbnd ho
  refine va_calli (a := (as.map (kcv E.1)).toArray) (kRunN hdc hc hn hm hF hdd hst hrest C hP hS hl ha) hS (fun q _ h => kAA C hS q h) (kAA C hS) (fun r u t H1 locs1 ht hvm hw hB _ _ hS1 => ?_)
  dsimp only at hB
  rw [ht] at hB
  cases hw
  exact kk a ha p e s m args below meth c0 A H1 locs1 ls q C hB hS1 hl ho
theorem ok_callVL {M' : kM} {d' idx n : Nat} {k c nf : Nat} {as stk : List Value} {o1 : Option (Int64 × kSt)} {o2 : Int64 × kSt → Option ρ} (hd : kD M pc (.invokevirtual idx) 3 pc') (hc : kCv M.1.cls idx M' n) (hs : kSH[k]? = some (0, c, nf)) (hcl : (kCl[c]?).map (fun q => q.1) = some M'.1.cls) (hn : as.length = n) (hm : M'.2.2.1 ≤ 30) (hF : kFn l G E E kjL M' d' (.ref k :: as) S o1) (hdd : kfit d' d) (hst : as.reverse ++ .ref k :: st = stk) (hrest : (st.map fun v => v.category).sum ≤ 8) (kk : ∀ a, o1 = some a → kOk l G E Z M d (o2 a) pc' lv (.long a.1 :: st) a.2) : kOk l G E Z M d (o1.bind o2) pc lv stk S := by
  intro p e s m args below meth c0 A H locs ls q C hP hS hl ho
  obtain ⟨hdc, rfl⟩ := hd
  obtain ⟨a, ha, ho⟩ := kbnd ho
  refine va_calll (a := ((Value.ref k :: as).map (kcv E.1)).toArray) (kRunV hdc hc hs hcl hn hm hF hdd hst hrest C hP hS hl ha) hS (fun q _ h => kAA C hS q h) (kAA C hS) (fun r u t H1 locs1 ht hvm hw hB _ _ hS1 => ?_)
  dsimp only at hB
  rw [ht] at hB
  cases hw
  exact kk a ha p e s m args below meth c0 A H1 locs1 ls q C hB hS1 hl ho
theorem ok_callSL {M' : kM} {d' idx n : Nat} {as stk : List Value} {o1 : Option (Int64 × kSt)} {o2 : Int64 × kSt → Option ρ} (hd : kD M pc (.invokestatic idx) 3 pc') (hc : kCs M.1.cls idx M' n) (hn : as.length = n) (hm : M'.2.2.1 ≤ 30) (hF : kFn l G E E kjL M' d' as S o1) (hdd : kfit d' d) (hst : as.reverse ++ st = stk) (hrest : (st.map fun v => v.category).sum ≤ 8) (kk : ∀ a, o1 = some a → kOk l G E Z M d (o2 a) pc' lv (.long a.1 :: st) a.2) : kOk l G E Z M d (o1.bind o2) pc lv stk S := by
  intro p e s m args below meth c0 A H locs ls q C hP hS hl ho
  obtain ⟨hdc, rfl⟩ := hd
  obtain ⟨a, ha, ho⟩ := kbnd ho
  refine va_calll (a := (as.map (kcv E.1)).toArray) (kRunS hdc hc hn hm hF hdd hst hrest C hP hS hl ha) hS (fun q _ h => kAA C hS q h) (kAA C hS) (fun r u t H1 locs1 ht hvm hw hB _ _ hS1 => ?_)
  dsimp only at hB
  rw [ht] at hB
  cases hw
  exact kk a ha p e s m args below meth c0 A H1 locs1 ls q C hB hS1 hl ho
theorem ok_callNL {M' : kM} {d' idx n : Nat} {host : String} {as stk : List Value} {o1 : Option (Int64 × kSt)} {o2 : Int64 × kSt → Option ρ} (hd : kD M pc (.invokestatic idx) 3 pc') (hc : kCn M.1.cls host idx M' n) (hn : as.length = n) (hm : M'.2.2.1 ≤ 30) (hF : kFn l G E E kjL M' d' as S o1) (hdd : kfit d' d) (hst : as.reverse ++ st = stk) (hrest : (st.map fun v => v.category).sum ≤ 8) (kk : ∀ a, o1 = some a → kOk l G E Z M d (o2 a) pc' lv (.long a.1 :: st) a.2) : kOk l G E Z M d (o1.bind o2) pc lv stk S := by
  intro p e s m args below meth c0 A H locs ls q C hP hS hl ho
  obtain ⟨hdc, rfl⟩ := hd
  obtain ⟨a, ha, ho⟩ := kbnd ho
  refine va_calll (a := (as.map (kcv E.1)).toArray) (kRunN hdc hc hn hm hF hdd hst hrest C hP hS hl ha) hS (fun q _ h => kAA C hS q h) (kAA C hS) (fun r u t H1 locs1 ht hvm hw hB _ _ hS1 => ?_)
  dsimp only at hB
  rw [ht] at hB
  cases hw
  exact kk a ha p e s m args below meth c0 A H1 locs1 ls q C hB hS1 hl ho
theorem ok_callVV {M' : kM} {d' idx n : Nat} {k c nf : Nat} {as stk : List Value} {o1 : Option kSt} {o2 : kSt → Option ρ} (hd : kD M pc (.invokevirtual idx) 3 pc') (hc : kCv M.1.cls idx M' n) (hs : kSH[k]? = some (0, c, nf)) (hcl : (kCl[c]?).map (fun q => q.1) = some M'.1.cls) (hn : as.length = n) (hm : M'.2.2.1 ≤ 30) (hF : kFn l G E E kjV M' d' (.ref k :: as) S o1) (hdd : kfit d' d) (hst : as.reverse ++ .ref k :: st = stk) (hrest : (st.map fun v => v.category).sum ≤ 8) (kk : ∀ a, o1 = some a → kOk l G E Z M d (o2 a) pc' lv st a) : kOk l G E Z M d (o1.bind o2) pc lv stk S := by
  intro p e s m args below meth c0 A H locs ls q C hP hS hl ho
  obtain ⟨hdc, rfl⟩ := hd
  obtain ⟨a, ha, ho⟩ := kbnd ho
  refine va_callv (a := ((Value.ref k :: as).map (kcv E.1)).toArray) (kRunV hdc hc hs hcl hn hm hF hdd hst hrest C hP hS hl ha) hS (fun q _ h => kAA C hS q h) (kAA C hS) (fun u t H1 locs1 ht hvm hw hB _ _ hS1 => ?_)
  dsimp only at hB
  rw [ht] at hB
  exact kk a ha p e s m args below meth c0 A H1 locs1 ls q C hB hS1 hl ho
theorem ok_callSV {M' : kM} {d' idx n : Nat} {as stk : List Value} {o1 : Option kSt} {o2 : kSt → Option ρ} (hd : kD M pc (.invokestatic idx) 3 pc') (hc : kCs M.1.cls idx M' n) (hn : as.length = n) (hm : M'.2.2.1 ≤ 30) (hF : kFn l G E E kjV M' d' as S o1) (hdd : kfit d' d) (hst : as.reverse ++ st = stk) (hrest : (st.map fun v => v.category).sum ≤ 8) (kk : ∀ a, o1 = some a → kOk l G E Z M d (o2 a) pc' lv st a) : kOk l G E Z M d (o1.bind o2) pc lv stk S := by
  intro p e s m args below meth c0 A H locs ls q C hP hS hl ho
  obtain ⟨hdc, rfl⟩ := hd
  obtain ⟨a, ha, ho⟩ := kbnd ho
  refine va_callv (a := (as.map (kcv E.1)).toArray) (kRunS hdc hc hn hm hF hdd hst hrest C hP hS hl ha) hS (fun q _ h => kAA C hS q h) (kAA C hS) (fun u t H1 locs1 ht hvm hw hB _ _ hS1 => ?_)
  dsimp only at hB
  rw [ht] at hB
  exact kk a ha p e s m args below meth c0 A H1 locs1 ls q C hB hS1 hl ho
end ENDS
