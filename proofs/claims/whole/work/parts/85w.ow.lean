-- the rules of kOk once more: for any end QQ, and with a premise XX more
def kOw {ρ : Type} (l : Launch) (G : kG) (E : kE) (XX : (Nat → Prop) → Array Value → State → Code → Prop) (QQ : List Frame → (Nat → Prop) → ρ → Array Value → State → State → Prop) (M : kM) (d : kDD) (o : Option ρ) (pc : Nat) (lv : List (Nat × Value)) (st : List Value) (S : kSt) : Prop :=
  ∀ (p : Program) (e : Env) (s : State) (m : MethodId) (args : Array Value) (below : List Frame) (meth : Method) (c : Code) (A : Nat → Prop) (H : Heap) (locs : List Loc) (ls : Array Slot) (q : ρ),
    XX A args s c → kCx G E M p s m args meth c A → va_P G.1 kCl (kws G E S) H → va_S A s.heap H locs → lv_has ls M.2.2.1 (lv.map (fun x => (x.1, kcv E.1 x.2))) → o = some q →
    W p l e d.1 s m args below meth c H locs d.2.1 d.2.2.1 (QQ below A q args s) (F0 m pc ls (st.map (kcv E.1)))
section OW
variable {ρ : Type} {l : Launch} {G : kG} {E : kE} {XX : (Nat → Prop) → Array Value → State → Code → Prop} {QQ : List Frame → (Nat → Prop) → ρ → Array Value → State → State → Prop} {M : kM} {d : kDD} {o : Option ρ} {pc pc' : Nat} {lv lv' : List (Nat × Value)} {st : List Value} {S : kSt}
theorem ow_none : kOw l G E XX QQ M d (none : Option ρ) pc lv st S := by
  intro p e s m args below meth c A H locs ls q hXX C hP hS hl ho
  cases ho
theorem ow_sub (ks : List Nat) (h : lv_pick lv ks = lv') (k : kOw l G E XX QQ M d o pc lv' st S) : kOw l G E XX QQ M d o pc lv st S := by
  intro p e s m args below meth c A H locs ls q hXX C hP hS hl ho
  refine k p e s m args below meth c A H locs ls q hXX C hP hS ⟨hl.1, hl.2.1, fun x hx => ?_⟩ ho
  obtain ⟨y, hy, rfl⟩ := List.mem_map.mp hx
  rw [← h] at hy
  obtain ⟨i, -, hi⟩ := List.mem_filterMap.mp hy
  exact hl.2.2 _ (List.mem_map.mpr ⟨y, List.mem_of_getElem? hi, rfl⟩)
theorem ow_iconst {n : Int} {v : Int32} (hd : kD M pc (.iconst n) 1 pc') (hv : Int32.ofInt n = v) (k : kOw l G E XX QQ M d o pc' lv (.int v :: st) S) : kOw l G E XX QQ M d o pc lv st S := by
  intro p e s m args below meth c A H locs ls q hXX C hP hS hl ho
  obtain ⟨hdc, rfl⟩ := hd
  exact lv_iconst C.1.1 C.1.2.1 hdc hv (k p e s m args below meth c A H locs ls q hXX C hP hS hl ho)
theorem ow_bipush {n : Int} {v : Int32} (hd : kD M pc (.bipush n) 2 pc') (hv : (Int8.ofInt n).toInt32 = v) (k : kOw l G E XX QQ M d o pc' lv (.int v :: st) S) : kOw l G E XX QQ M d o pc lv st S := by
  intro p e s m args below meth c A H locs ls q hXX C hP hS hl ho
  obtain ⟨hdc, rfl⟩ := hd
  exact lv_bipush C.1.1 C.1.2.1 hdc hv (k p e s m args below meth c A H locs ls q hXX C hP hS hl ho)
theorem ow_iadd {x y : Int32} (hd : kD M pc .iadd 1 pc') (k : kOw l G E XX QQ M d o pc' lv (.int (x + y) :: st) S) : kOw l G E XX QQ M d o pc lv (.int y :: .int x :: st) S := by
  intro p e s m args below meth c A H locs ls q hXX C hP hS hl ho
  obtain ⟨hdc, rfl⟩ := hd
  exact lv_iadd C.1.1 C.1.2.1 hdc (k p e s m args below meth c A H locs ls q hXX C hP hS hl ho)
theorem ow_isub {x y : Int32} (hd : kD M pc .isub 1 pc') (k : kOw l G E XX QQ M d o pc' lv (.int (x - y) :: st) S) : kOw l G E XX QQ M d o pc lv (.int y :: .int x :: st) S := by
  intro p e s m args below meth c A H locs ls q hXX C hP hS hl ho
  obtain ⟨hdc, rfl⟩ := hd
  exact lv_isub C.1.1 C.1.2.1 hdc (k p e s m args below meth c A H locs ls q hXX C hP hS hl ho)
theorem ow_iand {x y : Int32} (hd : kD M pc .iand 1 pc') (k : kOw l G E XX QQ M d o pc' lv (.int (x &&& y) :: st) S) : kOw l G E XX QQ M d o pc lv (.int y :: .int x :: st) S := by
  intro p e s m args below meth c A H locs ls q hXX C hP hS hl ho
  obtain ⟨hdc, rfl⟩ := hd
  exact lv_iand C.1.1 C.1.2.1 hdc (k p e s m args below meth c A H locs ls q hXX C hP hS hl ho)
theorem ow_i2l {x : Int32} (hd : kD M pc .i2l 1 pc') (k : kOw l G E XX QQ M d o pc' lv (.long x.toInt64 :: st) S) : kOw l G E XX QQ M d o pc lv (.int x :: st) S := by
  intro p e s m args below meth c A H locs ls q hXX C hP hS hl ho
  obtain ⟨hdc, rfl⟩ := hd
  exact lv_i2l C.1.1 C.1.2.1 hdc rfl (k p e s m args below meth c A H locs ls q hXX C hP hS hl ho)
theorem ow_lcmp {x y : Int64} (hd : kD M pc .lcmp 1 pc') (k : kOw l G E XX QQ M d o pc' lv (.int (lg_cmp x y) :: st) S) : kOw l G E XX QQ M d o pc lv (.long y :: .long x :: st) S := by
  intro p e s m args below meth c A H locs ls q hXX C hP hS hl ho
  obtain ⟨hdc, rfl⟩ := hd
  exact W.lcmp C.1.1 C.1.2.1 hdc (k p e s m args below meth c A H locs ls q hXX C hP hS hl ho)
theorem ow_goto {off : Int} {tgt : Nat} (hd : kD M pc (.goto off) 3 pc') (ht : (pc : Int) + off = (tgt : Int)) (k : kOw l G E XX QQ M d o tgt lv st S) : kOw l G E XX QQ M d o pc lv st S := by
  intro p e s m args below meth c A H locs ls q hXX C hP hS hl ho
  obtain ⟨hdc, rfl⟩ := hd
  exact lv_goto C.1.1 C.1.2.1 hdc ht (k p e s m args below meth c A H locs ls q hXX C hP hS hl ho)
theorem ow_icmp_eq {x y : Int32} {off : Int} {tgt : Nat} {o1 o2 : Option ρ} (hd : kD M pc (.if_icmp .eq off) 3 pc') (ht : (pc : Int) + off = (tgt : Int)) (k1 : x = y → kOw l G E XX QQ M d o1 tgt lv st S) (k2 : ¬ x = y → kOw l G E XX QQ M d o2 pc' lv st S) : kOw l G E XX QQ M d (if x = y then o1 else o2) pc lv (.int y :: .int x :: st) S := by
  intro p e s m args below meth c A H locs ls q hXX C hP hS hl ho
  obtain ⟨hdc, rfl⟩ := hd
  refine lv_icmp_eq C.1.1 C.1.2.1 hdc ht (fun hc => ?_) (fun hc => ?_)
  · rw [if_pos hc] at ho
    exact k1 hc p e s m args below meth c A H locs ls q hXX C hP hS hl ho
  · rw [if_neg hc] at ho
    exact k2 hc p e s m args below meth c A H locs ls q hXX C hP hS hl ho
theorem ow_icmp_ge {x y : Int32} {off : Int} {tgt : Nat} {o1 o2 : Option ρ} (hd : kD M pc (.if_icmp .ge off) 3 pc') (ht : (pc : Int) + off = (tgt : Int)) (k1 : y ≤ x → kOw l G E XX QQ M d o1 tgt lv st S) (k2 : ¬ y ≤ x → kOw l G E XX QQ M d o2 pc' lv st S) : kOw l G E XX QQ M d (if y ≤ x then o1 else o2) pc lv (.int y :: .int x :: st) S := by
  intro p e s m args below meth c A H locs ls q hXX C hP hS hl ho
  obtain ⟨hdc, rfl⟩ := hd
  refine lv_icmp_ge C.1.1 C.1.2.1 hdc ht (fun hc => ?_) (fun hc => ?_)
  · rw [if_pos hc] at ho
    exact k1 hc p e s m args below meth c A H locs ls q hXX C hP hS hl ho
  · rw [if_neg hc] at ho
    exact k2 hc p e s m args below meth c A H locs ls q hXX C hP hS hl ho
theorem ow_icmp_gt {x y : Int32} {off : Int} {tgt : Nat} {o1 o2 : Option ρ} (hd : kD M pc (.if_icmp .gt off) 3 pc') (ht : (pc : Int) + off = (tgt : Int)) (k1 : y < x → kOw l G E XX QQ M d o1 tgt lv st S) (k2 : ¬ y < x → kOw l G E XX QQ M d o2 pc' lv st S) : kOw l G E XX QQ M d (if y < x then o1 else o2) pc lv (.int y :: .int x :: st) S := by
  intro p e s m args below meth c A H locs ls q hXX C hP hS hl ho
  obtain ⟨hdc, rfl⟩ := hd
  refine lv_icmp_gt C.1.1 C.1.2.1 hdc ht (fun hc => ?_) (fun hc => ?_)
  · rw [if_pos hc] at ho
    exact k1 hc p e s m args below meth c A H locs ls q hXX C hP hS hl ho
  · rw [if_neg hc] at ho
    exact k2 hc p e s m args below meth c A H locs ls q hXX C hP hS hl ho
theorem ow_if_eq {x : Int32} {off : Int} {tgt : Nat} {o1 o2 : Option ρ} (hd : kD M pc (.ifCond .eq off) 3 pc') (ht : (pc : Int) + off = (tgt : Int)) (k1 : x = 0 → kOw l G E XX QQ M d o1 tgt lv st S) (k2 : ¬ x = 0 → kOw l G E XX QQ M d o2 pc' lv st S) : kOw l G E XX QQ M d (if x = 0 then o1 else o2) pc lv (.int x :: st) S := by
  intro p e s m args below meth c A H locs ls q hXX C hP hS hl ho
  obtain ⟨hdc, rfl⟩ := hd
  refine lv_if_eq C.1.1 C.1.2.1 hdc ht (fun hc => ?_) (fun hc => ?_)
  · rw [if_pos hc] at ho
    exact k1 hc p e s m args below meth c A H locs ls q hXX C hP hS hl ho
  · rw [if_neg hc] at ho
    exact k2 hc p e s m args below meth c A H locs ls q hXX C hP hS hl ho
theorem ow_if_ne {x : Int32} {off : Int} {tgt : Nat} {o1 o2 : Option ρ} (hd : kD M pc (.ifCond .ne off) 3 pc') (ht : (pc : Int) + off = (tgt : Int)) (k1 : ¬ x = 0 → kOw l G E XX QQ M d o1 tgt lv st S) (k2 : x = 0 → kOw l G E XX QQ M d o2 pc' lv st S) : kOw l G E XX QQ M d (if x = 0 then o2 else o1) pc lv (.int x :: st) S := by
  intro p e s m args below meth c A H locs ls q hXX C hP hS hl ho
  obtain ⟨hdc, rfl⟩ := hd
  refine lv_if_ne C.1.1 C.1.2.1 hdc ht (fun hc => ?_) (fun hc => ?_)
  · rw [if_neg hc] at ho
    exact k1 hc p e s m args below meth c A H locs ls q hXX C hP hS hl ho
  · rw [if_pos hc] at ho
    exact k2 hc p e s m args below meth c A H locs ls q hXX C hP hS hl ho
theorem ow_ifb_eq {b : Bool} {off : Int} {tgt : Nat} {o1 o2 : Option ρ} (hd : kD M pc (.ifCond .eq off) 3 pc') (ht : (pc : Int) + off = (tgt : Int)) (k1 : b = false → kOw l G E XX QQ M d o1 tgt lv st S) (k2 : b = true → kOw l G E XX QQ M d o2 pc' lv st S) : kOw l G E XX QQ M d (if b then o2 else o1) pc lv (.int (kb b) :: st) S := by
  intro p e s m args below meth c A H locs ls q hXX C hP hS hl ho
  obtain ⟨hdc, rfl⟩ := hd
  refine lv_if_eq C.1.1 C.1.2.1 hdc ht (fun hc => ?_) (fun hc => ?_)
  · have hb := (kb_0 b).mp hc
    subst hb
    exact k1 rfl p e s m args below meth c A H locs ls q hXX C hP hS hl ho
  · have hb : b = true := by cases b with
      | true => rfl
      | false => exact absurd rfl hc
    subst hb
    exact k2 rfl p e s m args below meth c A H locs ls q hXX C hP hS hl ho
theorem ow_iload_n {f : Fin 4} {x : Int32} (i : Nat) {j : Nat} (hd : kD M pc (.iload_n f) 1 pc') (hj : (f : Nat) = j) (hi : lv[i]? = some (j, .int x)) (k : kOw l G E XX QQ M d o pc' lv (.int x :: st) S) : kOw l G E XX QQ M d o pc lv st S := by
  intro p e s m args below meth c A H locs ls q hXX C hP hS hl ho
  obtain ⟨hdc, rfl⟩ := hd
  exact lv_iload_n C.1.1 C.1.2.1 hdc hj (klv_at hl i hi) (k p e s m args below meth c A H locs ls q hXX C hP hS hl ho)
theorem ow_iload {x : Int32} (i : Nat) {j : Nat} (hd : kD M pc (.iload j) 2 pc') (hi : lv[i]? = some (j, .int x)) (k : kOw l G E XX QQ M d o pc' lv (.int x :: st) S) : kOw l G E XX QQ M d o pc lv st S := by
  intro p e s m args below meth c A H locs ls q hXX C hP hS hl ho
  obtain ⟨hdc, rfl⟩ := hd
  exact lv_iload C.1.1 C.1.2.1 hdc (klv_at hl i hi) (k p e s m args below meth c A H locs ls q hXX C hP hS hl ho)
theorem ow_aload_n {f : Fin 4} {x : Nat} (i : Nat) {j : Nat} (hd : kD M pc (.aload_n f) 1 pc') (hj : (f : Nat) = j) (hi : lv[i]? = some (j, .ref x)) (k : kOw l G E XX QQ M d o pc' lv (.ref x :: st) S) : kOw l G E XX QQ M d o pc lv st S := by
  intro p e s m args below meth c A H locs ls q hXX C hP hS hl ho
  obtain ⟨hdc, rfl⟩ := hd
  exact lv_aload_n C.1.1 C.1.2.1 hdc hj (klv_at hl i hi) (k p e s m args below meth c A H locs ls q hXX C hP hS hl ho)
theorem ow_istore_n {f : Fin 4} {x : Int32} {j : Nat} (hd : kD M pc (.istore_n f) 1 pc') (hj : (f : Nat) = j) (hn : j < M.2.2.1) (hv : (j, Value.int x) :: lv.filter (fun q => !(q.1 == j) && !(q.1 + 1 == j && q.2.category == 2)) = lv') (k : kOw l G E XX QQ M d o pc' lv' st S) : kOw l G E XX QQ M d o pc lv (.int x :: st) S := by
  intro p e s m args below meth c A H locs ls q hXX C hP hS hl ho
  obtain ⟨hdc, rfl⟩ := hd
  exact lv_istore_n C.1.1 C.1.2.1 hdc hj hl hn (by rw [kfilt, ← hv]; rfl) (fun ls hl => k p e s m args below meth c A H locs ls q hXX C hP hS hl ho)
theorem ow_istore {x : Int32} {j : Nat} (hd : kD M pc (.istore j) 2 pc') (hn : j < M.2.2.1) (hv : (j, Value.int x) :: lv.filter (fun q => !(q.1 == j) && !(q.1 + 1 == j && q.2.category == 2)) = lv') (k : kOw l G E XX QQ M d o pc' lv' st S) : kOw l G E XX QQ M d o pc lv (.int x :: st) S := by
  intro p e s m args below meth c A H locs ls q hXX C hP hS hl ho
  obtain ⟨hdc, rfl⟩ := hd
  exact lv_istore C.1.1 C.1.2.1 hdc hl hn (by rw [kfilt, ← hv]; rfl) (fun ls hl => k p e s m args below meth c A H locs ls q hXX C hP hS hl ho)
theorem ow_astore_n {f : Fin 4} {x : Nat} {j : Nat} (hd : kD M pc (.astore_n f) 1 pc') (hj : (f : Nat) = j) (hn : j < M.2.2.1) (hv : (j, Value.ref x) :: lv.filter (fun q => !(q.1 == j) && !(q.1 + 1 == j && q.2.category == 2)) = lv') (k : kOw l G E XX QQ M d o pc' lv' st S) : kOw l G E XX QQ M d o pc lv (.ref x :: st) S := by
  intro p e s m args below meth c A H locs ls q hXX C hP hS hl ho
  obtain ⟨hdc, rfl⟩ := hd
  exact lv_astore_n C.1.1 C.1.2.1 hdc hj hl hn (by rw [kfilt, ← hv]; rfl) (fun ls hl => k p e s m args below meth c A H locs ls q hXX C hP hS hl ho)
theorem ow_iinc {x v : Int32} {j : Nat} {n : Int} (i : Nat) (hd : kD M pc (.iinc j n) 3 pc') (hi : lv[i]? = some (j, .int x)) (hx : x + Int32.ofInt n = v) (hn : j < M.2.2.1) (hv : (j, Value.int v) :: lv.filter (fun q => !(q.1 == j) && !(q.1 + 1 == j && q.2.category == 2)) = lv') (k : kOw l G E XX QQ M d o pc' lv' st S) : kOw l G E XX QQ M d o pc lv st S := by
  intro p e s m args below meth c A H locs ls q hXX C hP hS hl ho
  obtain ⟨hdc, rfl⟩ := hd
  exact lv_iinc (k := i) C.1.1 C.1.2.1 hdc hl (by rw [List.getElem?_map, hi]; rfl) hx hn (by rw [kfilt, ← hv]; rfl) (fun ls hl => k p e s m args below meth c A H locs ls q hXX C hP hS hl ho)
theorem ow_nx {α : Type} {a : α} {f : α → Option ρ} (k : ∀ b, b = a → kOw l G E XX QQ M d (f b) pc lv st S) : kOw l G E XX QQ M d (knx a f) pc lv st S := k a rfl
theorem ow_getV {k c n j idx : Nat} {v : Value} (hd : kD M pc (.getfield idx) 3 pc') (hf : kFl M.1.cls idx c j) (hs : kSH[k]? = some (0, c, n)) (hv : kval E S k j (kTyp c j) = kcv E.1 v) (kk : kOw l G E XX QQ M d o pc' lv (v :: st) S) : kOw l G E XX QQ M d o pc lv (.ref k :: st) S := by
  intro p e s m args below meth c0 A H locs ls q hXX C hP hS hl ho
  obtain ⟨hdc, rfl⟩ := hd
  obtain ⟨Cn, T, N, h1, h2, h3, h4⟩ := hf
  have hN := kshN hs h1
  subst hN
  refine va_get (a := E.1 k) (v := kcv E.1 v) C.1.1 C.1.2.1 C.1.2.2.2.2.2.2 (kob h1).1 C.1.2.2.2.2.2.1 C.2.1 hP k (fs := kfs E S k c n) (by rw [kws_at (kSH_lt hs), kent_obj hs]) h1 j h2 (C.1.2.2.2.2.2.2 _ h3) (by rw [h4]; exact fun _ h => h) (by rw [kfs_at h2, hv]) hdc (kk p e s m args below meth c0 A H locs ls q hXX C hP hS hl ho)
theorem ow_getI {k c n j idx : Nat} (hd : kD M pc (.getfield idx) 3 pc') (hf : kFl M.1.cls idx c j) (hs : kSH[k]? = some (0, c, n)) (ht : kIsI (kTyp c j) = true) (kk : kOw l G E XX QQ M d o pc' lv (.int (S.1 k j) :: st) S) : kOw l G E XX QQ M d o pc lv (.ref k :: st) S :=
  ow_getV hd hf hs (kval_I ht) kk
theorem ow_getR {k c n j idx r : Nat} (hd : kD M pc (.getfield idx) 3 pc') (hf : kFl M.1.cls idx c j) (hs : kSH[k]? = some (0, c, n)) (ht : kIsR (kTyp c j) = true) (hr : kRf E.2 k j = some r) (kk : kOw l G E XX QQ M d o pc' lv (.ref r :: st) S) : kOw l G E XX QQ M d o pc lv (.ref k :: st) S :=
  ow_getV (v := .ref r) hd hf hs (by rw [kval_R ht, hr]; rfl) kk
theorem ow_iald {k n : Nat} {i : Int32} (hd : kD M pc .iaload 1 pc') (hs : kSH[k]? = some (1, 0, n)) (kk : kOw l G E XX QQ M d o pc' lv (.int (S.1 k i.toNatClampNeg) :: st) S) : kOw l G E XX QQ M d (kgi i n o) pc lv (.int i :: .ref k :: st) S := by
  intro p e s m args below meth c A H locs ls q hXX C hP hS hl ho
  obtain ⟨hdc, rfl⟩ := hd
  obtain ⟨hi, ho⟩ := kgi_some ho
  exact va_iald (a := E.1 k) (cA := G.2.1.1) (n := n) (f := S.1 k) C.1.1 C.1.2.1 C.2.1 hP k 0 (by rw [kws_at (kSH_lt hs), kent_i hs]) rfl hi hdc (kk p e s m args below meth c A H locs ls q hXX C hP hS hl ho)
theorem ow_callVI {M' : kM} {d' idx n : Nat} {k c nf : Nat} {as stk : List Value} {o1 : Option (Int32 × kSt)} {o2 : Int32 × kSt → Option ρ} (hd : kD M pc (.invokevirtual idx) 3 pc') (hc : kCv M.1.cls idx M' n) (hs : kSH[k]? = some (0, c, nf)) (hcl : (kCl[c]?).map (fun q => q.1) = some M'.1.cls) (hn : as.length = n) (hm : M'.2.2.1 ≤ 30) (hF : kFn l G E E kjI M' d' (.ref k :: as) S o1) (hdd : kfit d' d) (hst : as.reverse ++ .ref k :: st = stk) (hrest : (st.map fun v => v.category).sum ≤ 8) (kk : ∀ a, o1 = some a → kOw l G E XX QQ M d (o2 a) pc' lv (.int a.1 :: st) a.2) : kOw l G E XX QQ M d (o1.bind o2) pc lv stk S := by
  intro p e s m args below meth c0 A H locs ls q hXX C hP hS hl ho
  obtain ⟨hdc, rfl⟩ := hd
  obtain ⟨a, ha, ho⟩ := kbnd ho
  refine va_calli (a := ((Value.ref k :: as).map (kcv E.1)).toArray) (kRunV hdc hc hs hcl hn hm hF hdd hst hrest C hP hS hl ha) hS (fun q _ h => kAA C hS q h) (kAA C hS) (fun r u t H1 locs1 ht hvm hw hB _ _ hS1 => ?_)
  dsimp only at hB
  rw [ht] at hB
  cases hw
  exact kk a ha p e s m args below meth c0 A H1 locs1 ls q hXX C hB hS1 hl ho
theorem ow_callVB {M' : kM} {d' idx n : Nat} {k c nf : Nat} {as stk : List Value} {o1 : Option (Bool × kSt)} {o2 : Bool × kSt → Option ρ} (hd : kD M pc (.invokevirtual idx) 3 pc') (hc : kCv M.1.cls idx M' n) (hs : kSH[k]? = some (0, c, nf)) (hcl : (kCl[c]?).map (fun q => q.1) = some M'.1.cls) (hn : as.length = n) (hm : M'.2.2.1 ≤ 30) (hF : kFn l G E E kjB M' d' (.ref k :: as) S o1) (hdd : kfit d' d) (hst : as.reverse ++ .ref k :: st = stk) (hrest : (st.map fun v => v.category).sum ≤ 8) (kk : ∀ a, o1 = some a → kOw l G E XX QQ M d (o2 a) pc' lv (.int (kb a.1) :: st) a.2) : kOw l G E XX QQ M d (o1.bind o2) pc lv stk S := by
  intro p e s m args below meth c0 A H locs ls q hXX C hP hS hl ho
  obtain ⟨hdc, rfl⟩ := hd
  obtain ⟨a, ha, ho⟩ := kbnd ho
  refine va_calli (a := ((Value.ref k :: as).map (kcv E.1)).toArray) (kRunV hdc hc hs hcl hn hm hF hdd hst hrest C hP hS hl ha) hS (fun q _ h => kAA C hS q h) (kAA C hS) (fun r u t H1 locs1 ht hvm hw hB _ _ hS1 => ?_)
  dsimp only at hB
  rw [ht] at hB
  cases hw
  exact kk a ha p e s m args below meth c0 A H1 locs1 ls q hXX C hB hS1 hl ho
theorem ow_callVL {M' : kM} {d' idx n : Nat} {k c nf : Nat} {as stk : List Value} {o1 : Option (Int64 × kSt)} {o2 : Int64 × kSt → Option ρ} (hd : kD M pc (.invokevirtual idx) 3 pc') (hc : kCv M.1.cls idx M' n) (hs : kSH[k]? = some (0, c, nf)) (hcl : (kCl[c]?).map (fun q => q.1) = some M'.1.cls) (hn : as.length = n) (hm : M'.2.2.1 ≤ 30) (hF : kFn l G E E kjL M' d' (.ref k :: as) S o1) (hdd : kfit d' d) (hst : as.reverse ++ .ref k :: st = stk) (hrest : (st.map fun v => v.category).sum ≤ 8) (kk : ∀ a, o1 = some a → kOw l G E XX QQ M d (o2 a) pc' lv (.long a.1 :: st) a.2) : kOw l G E XX QQ M d (o1.bind o2) pc lv stk S := by
  intro p e s m args below meth c0 A H locs ls q hXX C hP hS hl ho
  obtain ⟨hdc, rfl⟩ := hd
  obtain ⟨a, ha, ho⟩ := kbnd ho
  refine va_calll (a := ((Value.ref k :: as).map (kcv E.1)).toArray) (kRunV hdc hc hs hcl hn hm hF hdd hst hrest C hP hS hl ha) hS (fun q _ h => kAA C hS q h) (kAA C hS) (fun r u t H1 locs1 ht hvm hw hB _ _ hS1 => ?_)
  dsimp only at hB
  rw [ht] at hB
  cases hw
  exact kk a ha p e s m args below meth c0 A H1 locs1 ls q hXX C hB hS1 hl ho
theorem ow_table {dflt lo hi : Int} {offs : Array Int} {n : Nat} {x : Int32} {F : Option Nat → Option ρ} (tg : Nat → Nat) (td : Nat) (hd : kD M pc (.tableswitch dflt lo hi offs) n pc') (h0 : (pc : Int) + dflt = (td : Int)) (h1 : ∀ j : Nat, (j : Int) ≤ hi - lo → ∃ off, offs[j]? = some off ∧ (pc : Int) + off = (tg j : Int)) (k0 : kOw l G E XX QQ M d (F none) td lv st S) (k1 : ∀ j : Nat, (j : Int) ≤ hi - lo → kOw l G E XX QQ M d (F (some j)) (tg j) lv st S) : kOw l G E XX QQ M d (F (ksw lo hi x)) pc lv (.int x :: st) S := by
  intro p e s m args below meth c A H locs ls q hXX C hP hS hl ho
  obtain ⟨hdc, rfl⟩ := hd
  by_cases hc : x.toInt < lo ∨ hi < x.toInt
  · rw [ksw, if_pos hc] at ho
    exact lv_tableOut C.1.1 C.1.2.1 hdc hc h0 (k0 p e s m args below meth c A H locs ls q hXX C hP hS hl ho)
  · rw [ksw, if_neg hc] at ho
    have hj : (((x.toInt - lo).toNat : Nat) : Int) ≤ hi - lo := by omega
    obtain ⟨off, g1, g2⟩ := h1 _ hj
    exact lv_tableIn C.1.1 C.1.2.1 hdc (fun h => hc (Or.inl h)) (fun h => hc (Or.inr h)) g1 g2 (k1 _ hj p e s m args below meth c A H locs ls q hXX C hP hS hl ho)
theorem ow_sld {i : Int32} (hd : kD M pc .iaload 1 pc') (k : kOw l G E XX QQ M d o pc' lv (.int (G.2.2.2.2.2.2.2 i.toNatClampNeg) :: st) S) : kOw l G E XX QQ M d (kgi i G.2.2.2.2.2.2.1 o) pc lv (.int i :: .ref 3000 :: st) S := by
  intro p e s m args below meth c A H locs ls q hXX C hP hS hl ho
  obtain ⟨hdc, rfl⟩ := hd
  obtain ⟨hi, ho⟩ := kgi_some ho
  obtain ⟨-, -, -, hX, hb, hE⟩ := C.2.2.2.2.2.2.2.2.2
  have hk := k p e s m args below meth c A H locs ls q hXX C hP hS hl ho
  rw [List.map_cons, List.map_cons, show kcv E.1 (.ref 3000) = .ref (E.1 3000) from rfl, hE]
  exact va_sld C.1.1 C.1.2.1 hX (by obtain ⟨_, h, _⟩ := hX; exact (Array.getElem?_eq_some_iff.mp h).1) hb hS hi hdc hk
theorem ow_slenX (hd : kD M pc .arraylength 1 pc') (k : kOw l G E XX QQ M d o pc' lv (.int (Int32.ofNat G.2.2.2.2.2.2.1) :: st) S) : kOw l G E XX QQ M d o pc lv (.ref 3000 :: st) S := by
  intro p e s m args below meth c A H locs ls q hXX C hP hS hl ho
  obtain ⟨hdc, rfl⟩ := hd
  obtain ⟨-, -, -, hX, hb, hE⟩ := C.2.2.2.2.2.2.2.2.2
  have hk := k p e s m args below meth c A H locs ls q hXX C hP hS hl ho
  rw [List.map_cons, show kcv E.1 (.ref 3000) = .ref (E.1 3000) from rfl, hE]
  exact va_slen C.1.1 C.1.2.1 hX (by obtain ⟨_, h, _⟩ := hX; exact (Array.getElem?_eq_some_iff.mp h).1) hb hS hdc hk
theorem ow_laldK {k n j : Nat} {i : Int32} (hd : kD M pc .laload 1 pc') (hs : kSH[k]? = some (1, 2, n)) (hi : ¬ (i < 0 ∨ n ≤ i.toNatClampNeg)) (hj : i.toNatClampNeg = j) (kk : kOw l G E XX QQ M d o pc' lv (.long (S.2 k j) :: st) S) : kOw l G E XX QQ M d o pc lv (.int i :: .ref k :: st) S := by
  subst hj
  intro p e s m args below meth c A H locs ls q hXX C hP hS hl ho
  obtain ⟨hdc, rfl⟩ := hd
  exact va_lald (a := E.1 k) (cA := G.2.1.2.2.1) (n := n) (f := S.2 k) C.1.1 C.1.2.1 C.2.1 hP k 2 (by rw [kws_at (kSH_lt hs), kent_l hs]) rfl hi hdc (kk p e s m args below meth c A H locs ls q hXX C hP hS hl ho)
theorem ow_lastK {k n j : Nat} {i : Int32} {x : Int64} (hd : kD M pc .lastore 1 pc') (hs : kSH[k]? = some (1, 2, n)) (hi : ¬ (i < 0 ∨ n ≤ i.toNatClampNeg)) (hj : i.toNatClampNeg = j) (kk : kOw l G E XX QQ M d o pc' lv st (kuL S k j x)) : kOw l G E XX QQ M d o pc lv (.long x :: .int i :: .ref k :: st) S := by
  subst hj
  intro p e s m args below meth c A H locs ls q hXX C hP hS hl ho
  obtain ⟨hdc, rfl⟩ := hd
  have hlt := kSH_lt hs
  have hD : va_D A (kws G E S) := kws_D C.2.2.2.2.2.2.1 C.2.2.2.2.2.1
  refine va_last (a := E.1 k) (cA := G.2.1.2.2.1) (n := n) (f := S.2 k) C.1.1 C.1.2.1 C.2.1 hP hD hS k 2 (by rw [kws_at hlt, kent_l hs]) rfl hi hdc (fun H1 locs1 hP1 _ hS1 => ?_)
  rw [kws_set (S := S) (S' := kuL S k i.toNatClampNeg x) hlt (by rw [kent_l hs, kuL_self]) (fun a ha => kent_congr (S := S) (S' := kuL S k i.toNatClampNeg x) rfl (kuL_ne S _ _ ha))] at hP1
  exact kk p e s m args below meth c A H1 locs1 ls q hXX C hP1 hS1 hl ho
theorem ow_getZ {k c n j idx : Nat} {F : Bool → Option ρ} (hd : kD M pc (.getfield idx) 3 pc') (hf : kFl M.1.cls idx c j) (hs : kSH[k]? = some (0, c, n)) (ht : kIsI (kTyp c j) = true) (kk : ∀ b : Bool, kOw l G E XX QQ M d (F b) pc' lv (.int (kb b) :: st) S) : kOw l G E XX QQ M d (kgb (S.1 k j) F) pc lv (.ref k :: st) S := by
  unfold kgb
  split
  · rename_i h
    refine ow_getI hd hf hs ht ?_
    rw [h]
    exact kk false
  · split
    · rename_i h
      refine ow_getI hd hf hs ht ?_
      rw [h]
      exact kk true
    · exact ow_none
end OW
