-- CONSTRUCTORS: their contracts, their calls
def nPr (D : va_G) (t : ClassId × ClassId × ClassId × ClassId) (a ci : Nat) (fs : List Value) (sz : Nat) (U : State) : Prop := U.heap.size = sz ∧ va_P D kCl [(a, .inr (ci, fs))] U.heap ∧ va_K D kCl (cty t) U ∧ (∀ w ∈ kNc, va_Nw w U) ∧ nAO U
def nFn (l : Launch) (D : va_G) (t : ClassId × ClassId × ClassId × ClassId) (M : kM) (rm : Room) (ci : Nat) (fs : List Value) (as : List Value) (w : Nat → (Nat → Nat) → va_W) : Prop :=
  ∀ a sz, Met l M.1 (kWs M) rm (va_Pc (.ref a :: as) (nPr D t a ci fs sz)) (nQ D (w a) (va_A [(a, .inr (ci, fs))] sz)) rm.cells rm.slots (va_A [(a, .inr (ci, fs))] sz)
theorem va_D1 {A : Nat → Prop} {x : Nat × va_E} (h : A x.1) : va_D A [x] := by
  have key : ∀ (k : Nat) (q : Nat × va_E), [x][k]? = some q → k = 0 ∧ q = x := by
    intro k q hk
    have hl : k < 1 := (List.getElem?_eq_some_iff.mp hk).1
    have h0 : k = 0 := by omega
    subst h0
    cases hk
    exact ⟨rfl, rfl⟩
  refine ⟨fun i j p q hp hq _ => ?_, fun k q hk => ?_⟩
  · rw [(key i p hp).1, (key j q hq).1]
  · rw [(key k q hk).2]
    exact h
theorem nFn_of {l : Launch} {D : va_G} {t : ClassId × ClassId × ClassId × ClassId} {M : kM} {rm : Room} {ci : Nat} {fs as : List Value} {w : Nat → (Nat → Nat) → va_W} (hy : plainName M.1.cls = true) (hn : ∀ a : Nat, (lg_sl (.ref a :: as)).length ≤ M.2.2.1) (h : ∀ a : Nat, nOk l D t nTr M rm 0 0 (nE D (w a) rm.cells rm.slots) 0 (lv_args 0 (.ref a :: as)) [] [(a, .inr (ci, fs))]) : nFn l D t M rm ci fs as w := by
  intro a sz
  refine Met.ofW (cc := M.2.1) (maxL := M.2.2.1) (ret := M.2.2.2) hy rfl ?_
  intro p e s m args below meth c s₁ B hml hv
  obtain ⟨rfl, hsz, hP, hK, hN, hO⟩ := hv
  subst hsz
  have hts := atoms_spec (ws := kWs M) B.pre
  have hl := lv_entry (.ref a :: as) (n := M.2.2.1) (hn a)
  rw [lg_entry_eq]
  exact h a p e s m _ below meth c (va_A [(a, .inr (ci, fs))] s.heap.size) s.heap [] _ trivial ⟨⟨B.exec, B.bytes, hml, B.returns, B.notSynchronized, findClass_of_methodNamed B.named, fun w hw => hts w (List.mem_cons_of_mem _ hw)⟩, hK, fun q h => Or.inr h, hN, hO, fun hM => (name_of_methodNamed B.named B.method).1.trans hM⟩ hP (va_D1 (Or.inl ⟨0, _, rfl⟩)) va_S.rf hl
theorem va_pre {D : va_G} {wr w2 : va_W} {H : Heap} (hP : va_P D kCl (wr ++ w2) H) : va_P D kCl wr H := fun k q hk => hP k q (by rw [List.getElem?_append_left (List.getElem?_eq_some_iff.mp hk).1]; exact hk)
/-- the callee's cells and those that it has not touched, side by side -/
theorem n_join {D : va_G} {A : Nat → Prop} {wr w1 : va_W} {a : Nat} {e : va_E} {H H1 : Heap} (hP : va_P D kCl (wr ++ [(a, e)]) H) (hD : va_D A (wr ++ [(a, e)])) (hk : ∀ q : Nat, q < H.size → ¬ va_A [(a, e)] H.size q → H1[q]? = H[q]?) (hF : ∀ q, va_A [(a, e)] H.size q → A q) (hP1 : va_P D kCl w1 H1) (hD1 : va_D (va_A [(a, e)] H.size) w1) : va_P D kCl (wr ++ w1) H1 ∧ va_D A (wr ++ w1) := by
  have hin : ∀ (k : Nat) (q : Nat × va_E), wr[k]? = some q → (wr ++ [(a, e)])[k]? = some q := fun k q h => by
    rw [List.getElem?_append_left (List.getElem?_eq_some_iff.mp h).1]
    exact h
  have hno : ∀ (k : Nat) (q : Nat × va_E), wr[k]? = some q → ¬ va_A [(a, e)] H.size q.1 := by
    intro k q h hA
    rcases hA with ⟨k2, e2, h2⟩ | h2
    · have hl : k2 < 1 := (List.getElem?_eq_some_iff.mp h2).1
      have h0 : k2 = 0 := by omega
      subst h0
      have ea : q.1 = a := by cases h2; rfl
      have hlast : (wr ++ [(a, e)])[wr.length]? = some (a, e) := by
        rw [List.getElem?_append_right (Nat.le_refl _), Nat.sub_self]
        rfl
      have := hD.1 k wr.length _ _ (hin k q h) hlast ea
      have := (List.getElem?_eq_some_iff.mp h).1
      omega
    · have := (hP k q (hin k q h)).lt
      omega
  refine ⟨((va_pre hP).kept (fun k q h => hk q.1 ((hP k q (hin k q h)).lt) (hno k q h))).app hP1, ?_⟩
  refine va_D.app ⟨fun i j p q hp hq => hD.1 i j p q (hin i p hp) (hin j q hq), fun k q h => hD.2 k q (hin k q h)⟩ (hD1.weaken (fun k q _ h => hF _ h)) (fun i j p q hp hq ee => ?_)
  exact hno i p hp (by rw [ee]; exact hD1.2 j q hq)
section CON2
variable {l : Launch} {D : va_G} {t : ClassId × ClassId × ClassId × ClassId} {X : (Nat → Prop) → State → Prop} {M : kM} {R : Room} {cs sl : Nat} {QQ : cQt} {pc pc' : Nat} {lv : List (Nat × Value)} {st : List Value} {wr : va_W}
theorem nPre {p : Program} {s : State} {m : MethodId} {args : Array Value} {meth : Method} {c : Code} {A : Nat → Prop} {H : Heap} {a ci : Nat} {fs : List Value} (C : nC D t M p s m args meth c A) (hP : va_P D kCl (wr ++ [(a, .inr (ci, fs))]) H) (as : List Value) : PreS s H (va_Pc (.ref a :: as) (nPr D t a ci fs H.size)) (.ref a :: as) := by
  refine ⟨fun b U g mk q => ?_, fun U hU hW => ⟨rfl, by rw [hU], ?_, va_K.moved hW.alike C.2.1, kNc_warm hW C.2.2.2.1, nAO.moved hW.alike C.2.2.2.2.1⟩⟩
  · obtain ⟨q0, q1, q2, q3, q4, q5⟩ := q
    exact ⟨q0, q1, q2, va_K.moved (u := U) (U := U.calling g mk b) (Vm.Alike.refl U.vm) q3, fun w hw => va_Nw.same (u := U) (U := U.calling g mk b) (kNc_tab w hw) rfl (q4 w hw), nAO.moved (u := U) (U := U.calling g mk b) (Vm.Alike.refl U.vm) q5⟩
  · rw [hU]
    intro k q hk
    have hl : k < 1 := (List.getElem?_eq_some_iff.mp hk).1
    have h0 : k = 0 := by omega
    subst h0
    cases hk
    exact hP wr.length _ (by rw [List.getElem?_append_right (Nat.le_refl _), Nat.sub_self]; rfl)
/-- a call of a constructor of the nest -/
theorem co_callN {M' : kM} {idx a ci : Nat} {fs : List Value} {host : String} {rm : Room} {w : Nat → (Nat → Nat) → va_W} (hd : kD M pc (.invokespecial idx) 3 pc') (hF : nFn l D t M' rm ci fs [] w) (hlk : Cond.methodLinkNest M.1.cls idx M'.1 host ∈ kNc) (hcode : kcode M' ∈ kT) (hini : Cond.initialized M'.1.cls ∈ kT) (hinst : Cond.instanceMethod M'.1 ∈ kT) (hnm : M'.1.name = "<init>") (hret : M'.2.2.2 = none) (hy : kCy M' 0) (hfr : rm.frames + 1 ≤ R.frames ∧ 8 + (M'.2.2.1 + 11) + rm.locals ≤ R.locals) (hc : cs + rm.cells ≤ R.cells) (hs : sl + rm.slots ≤ R.slots) (hrest : (st.map fun v => v.category).sum ≤ 8) (k : ∀ u, nOk l D t X M R (cs + rm.cells) (sl + rm.slots) QQ pc' lv st (wr ++ w a u)) : nOk l D t X M R cs sl QQ pc lv (.ref a :: st) (wr ++ [(a, .inr (ci, fs))]) := by
  intro p e s m args below meth c A H locs ls hX C hP hD hS hl
  obtain ⟨hdc, rfl⟩ := hd
  obtain ⟨y, cc, mL, rt⟩ := M'
  have hrt : rt = none := hret
  subst hrt
  have hts := C.1.2.2.2.2.2.2
  have hFc : ∀ q, va_A [((a, .inr (ci, fs)) : Nat × va_E)] H.size q → A q := by
    intro q h
    rcases h with ⟨k2, e2, h2⟩ | h2
    · have hl9 : k2 < 1 := (List.getElem?_eq_some_iff.mp h2).1
      have h0 : k2 = 0 := by omega
      subst h0
      cases h2
      exact hD.2 wr.length (a, .inr (ci, fs)) (by rw [List.getElem?_append_right (Nat.le_refl _), Nat.sub_self]; rfl)
    · exact C.2.2.1 q (Nat.le_trans hS.1 h2)
  have cw := va_cnB (R := R) (rm := rm) (mc := rm.cells) (ms := rm.slots) (own := M.1.cls) (host := host) (index := idx) (y := y) (bytes := cc) (maxL := mL) (ret := none) (ws := kWs (y, cc, mL, none)) (ws' := kT) 0 hts (kGood hcode) rfl rfl rfl (C.2.2.2.1 _ hlk) (hts _ hini) ⟨hy.1, hy.2.1, hy.2.2⟩ hfr
  have hrun := va_runIN (p := p) (l := l) (e := e) (below := below) (meth := meth) (b := a) (As := []) (rest := st) (cells := cs) (slots := sl) (locs := locs) (g := F0 m pc ls (.ref a :: st)) (nL := M.2.2.1) ⟨C.1.1, C.1.2.1, C.1.2.2.1, C.1.2.2.2.2.2.1, hts⟩ (hF a H.size) ⟨cw, hnm, hts _ hinst⟩ (nPre C hP []) rfl rfl hl.1 rfl (lv_room hrest) hdc ⟨hc, hs⟩
  refine va_callv (a := #[.ref a]) hrun hS (fun q _ h => hFc q h) hFc (fun u t2 H1 locs1 ht hvm _ hB hz1 hk1 hS1 => ?_)
  obtain ⟨hP1, hD1⟩ := hB
  rw [ht] at hP1
  obtain ⟨hP2, hD2⟩ := n_join hP hD hk1 hFc hP1 hD1
  exact k u p e s m args below meth c A H1 locs1 ls hX C hP2 hD2 hS1 hl
/-- a call of a constructor that the pool names plainly -/
theorem co_callI {M' : kM} {idx a ci n : Nat} {fs as : List Value} {stk : List Value} {rm : Room} {w : Nat → (Nat → Nat) → va_W} (hd : kD M pc (.invokespecial idx) 3 pc') (hF : nFn l D t M' rm ci fs as w) (hlk : Cond.methodLink M.1.cls idx M'.1 ∈ kT) (hcode : kcode M' ∈ kT) (hini : Cond.initialized M'.1.cls ∈ kT) (hinst : Cond.instanceMethod M'.1 ∈ kT) (hnm : M'.1.name = "<init>") (hret : M'.2.2.2 = none) (hn : as.length = n) (hy : kCy M' n) (hfr : rm.frames + 1 ≤ R.frames ∧ 8 + (M'.2.2.1 + 11) + rm.locals ≤ R.locals) (hc : cs + rm.cells ≤ R.cells) (hs : sl + rm.slots ≤ R.slots) (hst : as.reverse ++ .ref a :: st = stk) (hrest : (st.map fun v => v.category).sum ≤ 8) (k : ∀ u, nOk l D t X M R (cs + rm.cells) (sl + rm.slots) QQ pc' lv st (wr ++ w a u)) : nOk l D t X M R cs sl QQ pc lv stk (wr ++ [(a, .inr (ci, fs))]) := by
  subst hst
  intro p e s m args below meth c A H locs ls hX C hP hD hS hl
  obtain ⟨hdc, rfl⟩ := hd
  obtain ⟨y, cc, mL, rt⟩ := M'
  have hrt : rt = none := hret
  subst hrt
  have hts := C.1.2.2.2.2.2.2
  have hFc : ∀ q, va_A [((a, .inr (ci, fs)) : Nat × va_E)] H.size q → A q := by
    intro q h
    rcases h with ⟨k2, e2, h2⟩ | h2
    · have hl9 : k2 < 1 := (List.getElem?_eq_some_iff.mp h2).1
      have h0 : k2 = 0 := by omega
      subst h0
      cases h2
      exact hD.2 wr.length (a, .inr (ci, fs)) (by rw [List.getElem?_append_right (Nat.le_refl _), Nat.sub_self]; rfl)
    · exact C.2.2.1 q (Nat.le_trans hS.1 h2)
  have cw := cwI (R := R) (rm := rm) (mc := rm.cells) (ms := rm.slots) (own := M.1.cls) (index := idx) (y := y) (bytes := cc) (maxL := mL) (ws := kWs (y, cc, mL, none)) (ws' := kT) n hts (kGood hcode) rfl rfl rfl (hts _ hini) (hts _ hlk) (hts _ hinst) hnm ⟨hy.1, hy.2.1, hy.2.2⟩ hfr
  have hrun := va_runI (p := p) (l := l) (e := e) (below := below) (meth := meth) (b := a) (As := as) (rest := st) (cells := cs) (slots := sl) (locs := locs) (g := F0 m pc ls (as.reverse ++ .ref a :: st)) (nL := M.2.2.1) ⟨C.1.1, C.1.2.1, C.1.2.2.1, C.1.2.2.2.2.2.1, hts⟩ (hF a H.size) cw (nPre C hP as) rfl hn hl.1 rfl (lv_room hrest) hdc ⟨hc, hs⟩
  refine va_callv (a := (Value.ref a :: as).toArray) hrun hS (fun q _ h => hFc q h) hFc (fun u t2 H1 locs1 ht hvm _ hB hz1 hk1 hS1 => ?_)
  obtain ⟨hP1, hD1⟩ := hB
  rw [ht] at hP1
  obtain ⟨hP2, hD2⟩ := n_join hP hD hk1 hFc hP1 hD1
  exact k u p e s m args below meth c A H1 locs1 ls hX C hP2 hD2 hS1 hl
end CON2
