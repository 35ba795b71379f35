-- TEXTS (constants i < 16: the text is cell 1000 + i, its bytes cell 1100 + i), static fields, copies of rows, switches
section TEXTS
variable {ρ : Type} {l : Launch} {G : kG} {E : kE} {Z : (Nat → Prop) → ρ → Array Value → State → Outcome → State → Prop} {M : kM} {d : kDD} {o : Option ρ} {pc pc' : Nat} {lv lv' : List (Nat × Value)} {st : List Value} {S : kSt}
theorem kSi_lt : ∀ z ∈ kSi, z.2.2 < 16 := by decide +kernel
theorem ok_ldcS {idx i : Nat} (hd : kD M pc (.ldc idx) 2 pc') (hz : (M.1.cls, idx, i) ∈ kSi) (k : kOk l G E Z M d o pc' lv (.ref (1000 + i) :: st) S) : kOk l G E Z M d o pc lv st S := by
  intro p e s m args below meth c A H locs ls q C hP hS hl ho
  obtain ⟨hdc, rfl⟩ := hd
  have h1 := C.2.2.2.1 _ hz
  have h2 := (C.2.2.2.2.2.2.2.1 i (kSi_lt _ hz)).1
  refine va_ldcS C.1.1 C.1.2.1 C.1.2.2.2.2.2.1 h1 hdc ?_
  have h3 := k p e s m args below meth c A H locs ls q C hP hS hl ho
  rw [List.map_cons, show kcv E.1 (.ref (1000 + i)) = .ref (E.1 (1000 + i)) from rfl, h2] at h3
  exact h3
theorem ok_sval {idx i : Nat} (hd : kD M pc (.getfield idx) 3 pc') (hi : i < 16) (hw : Cond.fieldLink M.1.cls idx "java/lang/String" "value" "[B" ∈ kT) (k : kOk l G E Z M d o pc' lv (.ref (1100 + i) :: st) S) : kOk l G E Z M d o pc lv (.ref (1000 + i) :: st) S := by
  intro p e s m args below meth c A H locs ls q C hP hS hl ho
  obtain ⟨hdc, rfl⟩ := hd
  obtain ⟨h2, h3⟩ := C.2.2.2.2.2.2.2.1 i hi
  have hk := k p e s m args below meth c A H locs ls q C hP hS hl ho
  rw [List.map_cons, show kcv E.1 (.ref (1100 + i)) = .ref (E.1 (1100 + i)) from rfl, h3] at hk
  rw [List.map_cons, show kcv E.1 (.ref (1000 + i)) = .ref (E.1 (1000 + i)) from rfl, h2]
  exact vk_getf C.1.1 C.1.2.1 (C.2.2.1.1 i hi).2.2.1 hS C.1.2.2.2.2.2.1 (C.1.2.2.2.2.2.2 _ hw) (fun _ h => h) hdc hk
theorem ok_scod {idx i : Nat} (hd : kD M pc (.getfield idx) 3 pc') (hi : i < 16) (hw : Cond.fieldLink M.1.cls idx "java/lang/String" "coder" "B" ∈ kT) (k : kOk l G E Z M d o pc' lv (.int 0 :: st) S) : kOk l G E Z M d o pc lv (.ref (1000 + i) :: st) S := by
  intro p e s m args below meth c A H locs ls q C hP hS hl ho
  obtain ⟨hdc, rfl⟩ := hd
  obtain ⟨h2, h3⟩ := C.2.2.2.2.2.2.2.1 i hi
  have hk := k p e s m args below meth c A H locs ls q C hP hS hl ho
  rw [List.map_cons, show kcv E.1 (.ref (1000 + i)) = .ref (E.1 (1000 + i)) from rfl, h2]
  exact vk_getf C.1.1 C.1.2.1 (C.2.2.1.1 i hi).2.1 hS C.1.2.2.2.2.2.1 (C.1.2.2.2.2.2.2 _ hw) (fun _ h => h) hdc hk
theorem ok_slen {i : Nat} (hd : kD M pc .arraylength 1 pc') (hi : i < 16) (k : kOk l G E Z M d o pc' lv (.int (Int32.ofNat (kLen.getD i 0)) :: st) S) : kOk l G E Z M d o pc lv (.ref (1100 + i) :: st) S := by
  intro p e s m args below meth c A H locs ls q C hP hS hl ho
  obtain ⟨hdc, rfl⟩ := hd
  obtain ⟨h2, h3⟩ := C.2.2.2.2.2.2.2.1 i hi
  have hk := k p e s m args below meth c A H locs ls q C hP hS hl ho
  rw [List.map_cons, show kcv E.1 (.ref (1100 + i)) = .ref (E.1 (1100 + i)) from rfl, h3]
  exact va_tlen C.1.1 C.1.2.1 (C.2.2.1.1 i hi).2.2.2 hS rfl hdc hk
theorem ok_sbyt {i : Nat} {j : Int32} (hd : kD M pc .baload 1 pc') (hi : i < 16) (k : kOk l G E Z M d o pc' lv (.int ((kByt.getD i []).getD j.toNatClampNeg 0) :: st) S) : kOk l G E Z M d (kgi j (kLen.getD i 0) o) pc lv (.int j :: .ref (1100 + i) :: st) S := by
  intro p e s m args below meth c A H locs ls q C hP hS hl ho
  obtain ⟨hdc, rfl⟩ := hd
  obtain ⟨hj, ho⟩ := kgi_some ho
  obtain ⟨h2, h3⟩ := C.2.2.2.2.2.2.2.1 i hi
  have hk := k p e s m args below meth c A H locs ls q C hP hS hl ho
  rw [List.map_cons, List.map_cons, show kcv E.1 (.ref (1100 + i)) = .ref (E.1 (1100 + i)) from rfl, h3]
  exact va_tb C.1.1 C.1.2.1 (C.2.2.1.1 i hi).2.2.2 hS hj rfl hdc hk
theorem ok_getsC {idx : Nat} (hd : kD M pc (.getstatic idx) 3 pc') (hw : Cond.fieldLink M.1.cls idx "java/lang/String" "COMPACT_STRINGS" "Z" ∈ kT) (k : kOk l G E Z M d o pc' lv (.int 1 :: st) S) : kOk l G E Z M d o pc lv st S := by
  intro p e s m args below meth c A H locs ls q C hP hS hl ho
  obtain ⟨hdc, rfl⟩ := hd
  exact va_gets C.1.1 C.1.2.1 C.2.2.2.2.2.2.2.2.2.1 hS C.1.2.2.2.2.2.1 (C.1.2.2.2.2.2.2 _ hw) (fun _ h => h) hdc (k p e s m args below meth c A H locs ls q C hP hS hl ho)
theorem ok_getsF {idx : Nat} (hd : kD M pc (.getstatic idx) 3 pc') (hw : Cond.fieldLink M.1.cls idx "jdk/internal/util/Preconditions" "SIOOBE_FORMATTER" "Ljava/util/function/BiFunction;" ∈ kT) (k : kOk l G E Z M d o pc' lv (G.2.2.2.2.1 :: st) S) : kOk l G E Z M d o pc lv st S := by
  intro p e s m args below meth c A H locs ls q C hP hS hl ho
  obtain ⟨hdc, rfl⟩ := hd
  exact va_gets C.1.1 C.1.2.1 C.2.2.2.2.2.2.2.2.2.2.1 hS C.1.2.2.2.2.2.1 (C.1.2.2.2.2.2.2 _ hw) (fun _ h => h) hdc (k p e s m args below meth c A H locs ls q C hP hS hl ho)
theorem ok_i2c {x : Int32} (hd : kD M pc .i2c 1 pc') (k : kOk l G E Z M d o pc' lv (.int (x.toUInt32 % 65536).toInt32 :: st) S) : kOk l G E Z M d o pc lv (.int x :: st) S := by
  intro p e s m args below meth c A H locs ls q C hP hS hl ho
  obtain ⟨hdc, rfl⟩ := hd
  exact lv_i2c C.1.1 C.1.2.1 hdc rfl (k p e s m args below meth c A H locs ls q C hP hS hl ho)
theorem ok_nreturn {d : Nat} {x : Int32} {ty : FieldType} (hd : kD M pc .ireturn 1 pc') (hr : M.2.2.2 = some ty) (hn : narrow ty (.int x) = .int x) : kOk l G E (kZ G E kjI) M (kdp d) (some (x, S)) pc lv [.int x] S := by
  intro p e s m args below meth c A H locs ls q C hP hS hl ho
  obtain ⟨hdc, rfl⟩ := hd
  cases ho
  exact W.zret C.1.1 C.1.2.1 (by rw [C.1.2.2.2.1, hr]) hn (fun t ht _ => ⟨⟨x, (), rfl, rfl, by show va_P _ _ _ t.heap; rw [ht]; exact hP⟩, hS.F ht⟩) hS.2.2 hdc C.1.2.2.2.2.1
-- a call of a text's own method
theorem kRunT {ρ' : Type} {inj : ρ' → Option Value × kSt} {M' : kM} {d' idx n i : Nat} {as stk : List Value} {o1 : Option ρ'} {r : ρ'} {p : Program} {e : Env} {s : State} {m : MethodId} {args : Array Value} {below : List Frame} {meth : Method} {c0 : Code} {A : Nat → Prop} {H : Heap} {locs : List Loc} {ls : Array Slot}
    (hdc : decode M.2.1 pc = .ok (.invokevirtual idx, 3)) (hc : kCv M.1.cls idx M' n) (hi : i < 16) (hcl : M'.1.cls = "java/lang/String") (hn : as.length = n) (hm : M'.2.2.1 ≤ 30) (hF : kFn l G E E inj M' d' (.ref (1000 + i) :: as) S o1) (hdd : kfit d' d) (hst : as.reverse ++ .ref (1000 + i) :: st = stk) (hrest : (st.map fun v => v.category).sum ≤ 8)
    (C : kCx G E M p s m args meth c0 A) (hP : va_P G.1 kCl (kws G E S) H) (hS : va_S A s.heap H locs) (hl : lv_has ls M.2.2.1 (lv.map (fun x => (x.1, kcv E.1 x.2)))) (hr : o1 = some r) :
    va_Run p l e d.1 s m args below meth c0 H locs d.2.1 d.2.2.1 0 0 (F0 m pc ls (stk.map (kcv E.1))) (st.map (kcv E.1)) (kZ G E inj (kA E H.size) r ((Value.ref (1000 + i) :: as).map (kcv E.1)).toArray) (kA E H.size) := by
  subst hst
  obtain ⟨w1, w2, w3, w4, w5, w6⟩ := hc
  have hpre := kPre C hP hS (.ref (1000 + i) :: as)
  have hrv := vk_recv C.2.2.1 hi hS
  rw [← (C.2.2.2.2.2.2.2.1 i hi).1, ← hcl] at hrv
  have cw := cwV (R := d.1) (rm := krm d') (mc := 0) (ms := 0) (own := M.1.cls) (index := idx) (C := M'.1.cls) (y := M'.1) (bytes := M'.2.1) (maxL := M'.2.2.1) (ret := M'.2.2.2) (ws := kWs M') (ws' := kT) n C.1.2.2.2.2.2.2 (fun w hw => by
    rcases List.mem_append.mp hw with hw | hw
    · simp only [List.mem_cons, List.not_mem_nil, or_false] at hw
      rcases hw with rfl | rfl | rfl | rfl
      · exact ⟨w1, kT_good w1⟩
      · exact ⟨w2, kT_good w2⟩
      · exact ⟨w3, kT_good w3⟩
      · exact ⟨w4, kT_good w4⟩
    · exact kGood w5 w hw) rfl rfl rfl ⟨rfl, w6.1, w6.2.1, w6.2.2⟩ (krm_ok hdd hm)
  refine va_runV (b := E.1 (1000 + i)) (As := as.map (kcv E.1)) (nL := M.2.2.1) (C := M'.1.cls) ⟨C.1.1, C.1.2.1, C.1.2.2.1, C.1.2.2.2.2.2.1, C.1.2.2.2.2.2.2⟩ (hF r hr H.size) cw ⟨hpre.1, hrv, hpre.2⟩ rfl (by rw [List.length_map]; exact hn) hl.1 ?_ ?_ hdc ⟨hdd.2.2.1, hdd.2.2.2⟩
  · show (as.reverse ++ .ref (1000 + i) :: st).map (kcv E.1) = _
    rw [List.map_append, List.map_reverse]
    rfl
  · refine lv_room ?_
    rw [List.map_map]
    have : (List.map ((fun v => Value.category v) ∘ kcv E.1) st) = st.map (fun v => v.category) := List.map_congr_left (fun v _ => kcat E.1 v)
    rw [this]
    exact hrest
theorem ok_callTI {M' : kM} {d' idx n i : Nat} {as stk : List Value} {o1 : Option (Int32 × kSt)} {o2 : Int32 × kSt → Option ρ} (hd : kD M pc (.invokevirtual idx) 3 pc') (hc : kCv M.1.cls idx M' n) (hi : i < 16) (hcl : M'.1.cls = "java/lang/String") (hn : as.length = n) (hm : M'.2.2.1 ≤ 30) (hF : kFn l G E E kjI M' d' (.ref (1000 + i) :: as) S o1) (hdd : kfit d' d) (hst : as.reverse ++ .ref (1000 + i) :: st = stk) (hrest : (st.map fun v => v.category).sum ≤ 8) (kk : ∀ a, o1 = some a → kOk l G E Z M d (o2 a) pc' lv (.int a.1 :: st) a.2) : kOk l G E Z M d (o1.bind o2) pc lv stk S := by
  intro p e s m args below meth c0 A H locs ls q C hP hS hl ho
  obtain ⟨hdc, rfl⟩ := hd
  obtain ⟨a, ha, ho⟩ := kbnd ho
  refine va_calli (a := ((Value.ref (1000 + i) :: as).map (kcv E.1)).toArray) (kRunT hdc hc hi hcl hn hm hF hdd hst hrest C hP hS hl ha) hS (fun q _ h => kAA C hS q h) (kAA C hS) (fun r u t H1 locs1 ht hvm hw hB _ _ hS1 => ?_)
  dsimp only at hB
  rw [ht] at hB
  cases hw
  exact kk a ha p e s m args below meth c0 A H1 locs1 ls q C hB hS1 hl ho
theorem ok_callTB {M' : kM} {d' idx n i : Nat} {as stk : List Value} {o1 : Option (Bool × kSt)} {o2 : Bool × kSt → Option ρ} (hd : kD M pc (.invokevirtual idx) 3 pc') (hc : kCv M.1.cls idx M' n) (hi : i < 16) (hcl : M'.1.cls = "java/lang/String") (hn : as.length = n) (hm : M'.2.2.1 ≤ 30) (hF : kFn l G E E kjB M' d' (.ref (1000 + i) :: as) S o1) (hdd : kfit d' d) (hst : as.reverse ++ .ref (1000 + i) :: st = stk) (hrest : (st.map fun v => v.category).sum ≤ 8) (kk : ∀ a, o1 = some a → kOk l G E Z M d (o2 a) pc' lv (.int (kb a.1) :: st) a.2) : kOk l G E Z M d (o1.bind o2) pc lv stk S := by
  intro p e s m args below meth c0 A H locs ls q C hP hS hl ho
  obtain ⟨hdc, rfl⟩ := hd
  obtain ⟨a, ha, ho⟩ := kbnd ho
  refine va_calli (a := ((Value.ref (1000 + i) :: as).map (kcv E.1)).toArray) (kRunT hdc hc hi hcl hn hm hF hdd hst hrest C hP hS hl ha) hS (fun q _ h => kAA C hS q h) (kAA C hS) (fun r u t H1 locs1 ht hvm hw hB _ _ hS1 => ?_)
  dsimp only at hB
  rw [ht] at hB
  cases hw
  exact kk a ha p e s m args below meth c0 A H1 locs1 ls q C hB hS1 hl ho
-- copies
def kgc {α : Type} (sp dp n : Int32) (n0 n1 : Nat) (o : Option α) : Option α := if sp < 0 ∨ dp < 0 ∨ n < 0 ∨ n0 < sp.toNatClampNeg + n.toNatClampNeg ∨ n1 < dp.toNatClampNeg + n.toNatClampNeg then none else o
theorem ok_acopy {idx k0 k1 n0 n1 : Nat} {sp dp n : Int32} (hd : kD M pc (.invokestatic idx) 3 pc') (hw1 : Cond.methodLink M.1.cls idx arraycopyName ∈ kT) (hw2 : Cond.native arraycopyName ∈ kT) (hw3 : Cond.static arraycopyName ∈ kT) (hw4 : Cond.initialized "java/lang/System" ∈ kT) (hs0 : kSH[k0]? = some (1, 0, n0)) (hs1 : kSH[k1]? = some (1, 0, n1)) (hd1 : kfit 0 d) (hrest : (st.map fun v => v.category).sum ≤ 8) (k : kOk l G E Z M d o pc' lv st (kuA S k1 (va_cpy (S.1 k0) (S.1 k1) sp.toNatClampNeg dp.toNatClampNeg n.toNatClampNeg))) : kOk l G E Z M d (kgc sp dp n n0 n1 o) pc lv (.int n :: .int dp :: .ref k1 :: .int sp :: .ref k0 :: st) S := by
  intro p e s m args below meth c A H locs ls q C hP hS hl ho
  obtain ⟨hdc, rfl⟩ := hd
  unfold kgc at ho
  split at ho
  · cases ho
  rename_i hg
  have hlt := kSH_lt hs1
  have hD : va_D A (kws G E S) := kws_D C.2.2.2.2.2.2.1 C.2.2.2.2.2.1
  have hr2 : ((st.map (kcv E.1)).map fun v => v.category).sum ≤ 8 := by
    rw [List.map_map]
    have : (List.map ((fun v => Value.category v) ∘ kcv E.1) st) = st.map (fun v => v.category) := List.map_congr_left (fun v _ => kcat E.1 v)
    rw [this]
    exact hrest
  refine va_copyi (a := E.1 k1) (a0 := E.1 k0) (c0 := G.2.1.1) (c1 := G.2.1.1) (n0 := n0) (n1 := n1) (f := S.1 k0) (g := S.1 k1) (ty := .int) C.1.1 C.1.2.1 (by rw [C.1.2.2.1]; exact hl.1.symm) C.1.2.2.2.2.2.1 (C.1.2.2.2.2.2.2 _ hw1) (C.1.2.2.2.2.2.2 _ hw2) (C.1.2.2.2.2.2.2 _ hw3) (C.1.2.2.2.2.2.2 _ hw4) C.2.1 hP hD hS k0 k1 0 0 (by rw [kws_at (kSH_lt hs0), kent_i hs0]) (by rw [kws_at hlt, kent_i hs1]) rfl rfl rfl (fun h => hg (Or.inl h)) (fun h => hg (Or.inr (Or.inl h))) (fun h => hg (Or.inr (Or.inr (Or.inl h)))) (Nat.not_lt.mp fun h => hg (Or.inr (Or.inr (Or.inr (Or.inl h))))) (Nat.not_lt.mp fun h => hg (Or.inr (Or.inr (Or.inr (Or.inr h))))) (fun _ _ => rfl) hd1.1 ?_ hdc (fun H1 locs1 hP1 _ hS1 => ?_)
  · have h2 := hd1.2.1
    have h1 : nativeFrameWords "java/lang/System" "arraycopy" 5 ≤ 30 := by decide +kernel
    omega
  · rw [kws_set (S' := kuA S k1 (va_cpy (S.1 k0) (S.1 k1) sp.toNatClampNeg dp.toNatClampNeg n.toNatClampNeg)) hlt (by rw [kent_i hs1, kuA_self]) (fun a ha => kent_congr (kuA_ne S _ ha) rfl)] at hP1
    exact k p e s m args below meth c A H1 locs1 ls q C hP1 hS1 hl ho
-- switches over a table: the place of x among lo .. hi
def ksw (lo hi : Int) (x : Int32) : Option Nat := if x.toInt < lo ∨ hi < x.toInt then none else some (x.toInt - lo).toNat
theorem ok_table {dflt lo hi : Int} {offs : Array Int} {n : Nat} {x : Int32} {F : Option Nat → Option ρ} (tg : Nat → Nat) (td : Nat) (hd : kD M pc (.tableswitch dflt lo hi offs) n pc') (h0 : (pc : Int) + dflt = (td : Int)) (h1 : ∀ j : Nat, (j : Int) ≤ hi - lo → ∃ off, offs[j]? = some off ∧ (pc : Int) + off = (tg j : Int)) (k0 : kOk l G E Z M d (F none) td lv st S) (k1 : ∀ j : Nat, (j : Int) ≤ hi - lo → kOk l G E Z M d (F (some j)) (tg j) lv st S) : kOk l G E Z M d (F (ksw lo hi x)) pc lv (.int x :: st) S := by
  intro p e s m args below meth c A H locs ls q C hP hS hl ho
  obtain ⟨hdc, rfl⟩ := hd
  by_cases hc : x.toInt < lo ∨ hi < x.toInt
  · rw [ksw, if_pos hc] at ho
    exact lv_tableOut C.1.1 C.1.2.1 hdc hc h0 (k0 p e s m args below meth c A H locs ls q C hP hS hl ho)
  · rw [ksw, if_neg hc] at ho
    have hj : (((x.toInt - lo).toNat : Nat) : Int) ≤ hi - lo := by omega
    obtain ⟨off, g1, g2⟩ := h1 _ hj
    exact lv_tableIn C.1.1 C.1.2.1 hdc (fun h => hc (Or.inl h)) (fun h => hc (Or.inr h)) g1 g2 (k1 _ hj p e s m args below meth c A H locs ls q C hP hS hl ho)
-- the script: cell 3000
theorem ok_sld {i : Int32} (hd : kD M pc .iaload 1 pc') (k : kOk l G E Z M d o pc' lv (.int (G.2.2.2.2.2.2.2 i.toNatClampNeg) :: st) S) : kOk l G E Z M d (kgi i G.2.2.2.2.2.2.1 o) pc lv (.int i :: .ref 3000 :: st) S := by
  intro p e s m args below meth c A H locs ls q C hP hS hl ho
  obtain ⟨hdc, rfl⟩ := hd
  obtain ⟨hi, ho⟩ := kgi_some ho
  obtain ⟨-, -, -, hX, hb, hE⟩ := C.2.2.2.2.2.2.2.2.2
  have hk := k p e s m args below meth c A H locs ls q C hP hS hl ho
  rw [List.map_cons, List.map_cons, show kcv E.1 (.ref 3000) = .ref (E.1 3000) from rfl, hE]
  exact va_sld C.1.1 C.1.2.1 hX (by obtain ⟨_, h, _⟩ := hX; exact (Array.getElem?_eq_some_iff.mp h).1) hb hS hi hdc hk
theorem ok_slenX (hd : kD M pc .arraylength 1 pc') (k : kOk l G E Z M d o pc' lv (.int (Int32.ofNat G.2.2.2.2.2.2.1) :: st) S) : kOk l G E Z M d o pc lv (.ref 3000 :: st) S := by
  intro p e s m args below meth c A H locs ls q C hP hS hl ho
  obtain ⟨hdc, rfl⟩ := hd
  obtain ⟨-, -, -, hX, hb, hE⟩ := C.2.2.2.2.2.2.2.2.2
  have hk := k p e s m args below meth c A H locs ls q C hP hS hl ho
  rw [List.map_cons, show kcv E.1 (.ref 3000) = .ref (E.1 3000) from rfl, hE]
  exact va_slen C.1.1 C.1.2.1 hX (by obtain ⟨_, h, _⟩ := hX; exact (Array.getElem?_eq_some_iff.mp h).1) hb hS hdc hk
-- rows of longs
theorem kent_l {k n : Nat} (h : kSH[k]? = some (1, 2, n)) : kent G E S k = .inl (G.2.1.2.2.1, n, .inr (.inl (S.2 k))) := by
  unfold kent
  rw [h] <;> rfl
theorem ok_laldK {k n j : Nat} {i : Int32} (hd : kD M pc .laload 1 pc') (hs : kSH[k]? = some (1, 2, n)) (hi : ¬ (i < 0 ∨ n ≤ i.toNatClampNeg)) (hj : i.toNatClampNeg = j) (kk : kOk l G E Z M d o pc' lv (.long (S.2 k j) :: st) S) : kOk l G E Z M d o pc lv (.int i :: .ref k :: st) S := by
  subst hj
  intro p e s m args below meth c A H locs ls q C hP hS hl ho
  obtain ⟨hdc, rfl⟩ := hd
  exact va_lald (a := E.1 k) (cA := G.2.1.2.2.1) (n := n) (f := S.2 k) C.1.1 C.1.2.1 C.2.1 hP k 2 (by rw [kws_at (kSH_lt hs), kent_l hs]) rfl hi hdc (kk p e s m args below meth c A H locs ls q C hP hS hl ho)
theorem ok_lastK {k n j : Nat} {i : Int32} {x : Int64} (hd : kD M pc .lastore 1 pc') (hs : kSH[k]? = some (1, 2, n)) (hi : ¬ (i < 0 ∨ n ≤ i.toNatClampNeg)) (hj : i.toNatClampNeg = j) (kk : kOk l G E Z M d o pc' lv st (kuL S k j x)) : kOk l G E Z M d o pc lv (.long x :: .int i :: .ref k :: st) S := by
  subst hj
  intro p e s m args below meth c A H locs ls q C hP hS hl ho
  obtain ⟨hdc, rfl⟩ := hd
  have hlt := kSH_lt hs
  have hD : va_D A (kws G E S) := kws_D C.2.2.2.2.2.2.1 C.2.2.2.2.2.1
  refine va_last (a := E.1 k) (cA := G.2.1.2.2.1) (n := n) (f := S.2 k) C.1.1 C.1.2.1 C.2.1 hP hD hS k 2 (by rw [kws_at hlt, kent_l hs]) rfl hi hdc (fun H1 locs1 hP1 _ hS1 => ?_)
  rw [kws_set (S := S) (S' := kuL S k i.toNatClampNeg x) hlt (by rw [kent_l hs, kuL_self]) (fun a ha => kent_congr (S := S) (S' := kuL S k i.toNatClampNeg x) rfl (kuL_ne S _ _ ha))] at hP1
  exact kk p e s m args below meth c A H1 locs1 ls q C hP1 hS1 hl ho
end TEXTS
