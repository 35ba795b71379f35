-- rules that the generator uses
def krem (x y : Int32) : Int32 := x - x / y * y
def kremL (x y : Int64) : Int64 := x - x / y * y
def kcp (S : kSt) (k0 k1 sp dp n : Nat) : kSt := kuA S k1 (va_cpy (S.1 k0) (S.1 k1) sp dp n)
def kgb {α : Type} (x : Int32) (F : Bool → Option α) : Option α := if x = 0 then F false else if x = 1 then F true else none
def kmax (x y : Int32) : Int32 := if x < y then y else x
def kmin (x y : Int32) : Int32 := if y < x then y else x
def kabs (x : Int32) : Int32 := if 0 ≤ x then x else 0 - x
section GR
variable {ρ : Type} {l : Launch} {G : kG} {E : kE} {Z : (Nat → Prop) → ρ → Array Value → State → Outcome → State → Prop} {M : kM} {d : kDD} {o : Option ρ} {pc pc' : Nat} {lv lv' : List (Nat × Value)} {st : List Value} {S : kSt}
theorem ok_sndi {x : Int32} {v : Value} {f : Int32 → Option ρ} (k : ∀ b, b = x → kOk l G E Z M d (f b) pc lv (v :: .int b :: st) S) : kOk l G E Z M d (knx x f) pc lv (v :: .int x :: st) S := k x rfl
theorem ok_fold {α : Type} {F : α → Option ρ} {a : α} {pcJ : Nat} {lvJ : List (Nat × Value)} {stJ : List Value} {mk : α → Value} (h : (∀ v, kOk l G E Z M d (F v) pcJ lvJ (mk v :: stJ) S) → kOk l G E Z M d (knx a F) pc lv st S) (K : ∀ v, kOk l G E Z M d (F v) pcJ lvJ (mk v :: stJ) S) : kOk l G E Z M d (knx a F) pc lv st S := h K
theorem ok_getZ {k c n j idx : Nat} {F : Bool → Option ρ} (hd : kD M pc (.getfield idx) 3 pc') (hf : kFl M.1.cls idx c j) (hs : kSH[k]? = some (0, c, n)) (ht : kIsI (kTyp c j) = true) (kk : ∀ b : Bool, kOk l G E Z M d (F b) pc' lv (.int (kb b) :: st) S) : kOk l G E Z M d (kgb (S.1 k j) F) pc lv (.ref k :: st) S := by
  unfold kgb
  split
  · rename_i h
    refine ok_getI hd hf hs ht ?_
    rw [h]
    exact kk false
  · split
    · rename_i h
      refine ok_getI hd hf hs ht ?_
      rw [h]
      exact kk true
    · exact ok_none
theorem ok_idivG {x y : Int32} (hd : kD M pc .idiv 1 pc') (k : kOk l G E Z M d o pc' lv (.int (x / y) :: st) S) : kOk l G E Z M d (kgz y o) pc lv (.int y :: .int x :: st) S := ok_idiv hd k
theorem ok_iremG {x y : Int32} (hd : kD M pc .irem 1 pc') (k : kOk l G E Z M d o pc' lv (.int (krem x y) :: st) S) : kOk l G E Z M d (kgz y o) pc lv (.int y :: .int x :: st) S := ok_irem hd k
theorem ok_ldivG {x y : Int64} (hd : kD M pc .ldiv 1 pc') (k : kOk l G E Z M d o pc' lv (.long (x / y) :: st) S) : kOk l G E Z M d (kgzL y o) pc lv (.long y :: .long x :: st) S := ok_ldiv hd k
theorem ok_lremG {x y : Int64} (hd : kD M pc .lrem 1 pc') (k : kOk l G E Z M d o pc' lv (.long (kremL x y) :: st) S) : kOk l G E Z M d (kgzL y o) pc lv (.long y :: .long x :: st) S := ok_lrem hd k
theorem ok_idivK {x y : Int32} (hd : kD M pc .idiv 1 pc') (hy : ¬ y = 0) (k : kOk l G E Z M d o pc' lv (.int (x / y) :: st) S) : kOk l G E Z M d o pc lv (.int y :: .int x :: st) S := by
  have h := ok_idiv (x := x) hd k
  rw [kgz, if_neg hy] at h
  exact h
theorem ok_iremK {x y : Int32} (hd : kD M pc .irem 1 pc') (hy : ¬ y = 0) (k : kOk l G E Z M d o pc' lv (.int (krem x y) :: st) S) : kOk l G E Z M d o pc lv (.int y :: .int x :: st) S := by
  have h := ok_irem (x := x) hd k
  rw [kgz, if_neg hy] at h
  exact h
theorem ok_acopyK {idx k0 k1 n0 n1 a b n' : Nat} {sp dp n : Int32} (hd : kD M pc (.invokestatic idx) 3 pc') (hw1 : Cond.methodLink M.1.cls idx arraycopyName ∈ kT) (hw2 : Cond.native arraycopyName ∈ kT) (hw3 : Cond.static arraycopyName ∈ kT) (hw4 : Cond.initialized "java/lang/System" ∈ kT) (hs0 : kSH[k0]? = some (1, 0, n0)) (hs1 : kSH[k1]? = some (1, 0, n1)) (hc : ¬ (sp < 0 ∨ dp < 0 ∨ n < 0 ∨ n0 < sp.toNatClampNeg + n.toNatClampNeg ∨ n1 < dp.toNatClampNeg + n.toNatClampNeg)) (ha : sp.toNatClampNeg = a) (hb : dp.toNatClampNeg = b) (hn : n.toNatClampNeg = n') (hd1 : kfit 0 d) (hrest : (st.map fun v => v.category).sum ≤ 8) (k : kOk l G E Z M d o pc' lv st (kcp S k0 k1 a b n')) : kOk l G E Z M d o pc lv (.int n :: .int dp :: .ref k1 :: .int sp :: .ref k0 :: st) S := by
  subst ha
  subst hb
  subst hn
  have h := ok_acopy hd hw1 hw2 hw3 hw4 hs0 hs1 hd1 hrest k
  rw [kgc, if_neg hc] at h
  exact h
def kcase3 {α : Type} (q : Option Nat) (a0 a1 a2 d : α) : α := match q with
  | some 0 => a0
  | some 1 => a1
  | some 2 => a2
  | _ => d
theorem ok_table3 {dflt lo hi : Int} {offs : Array Int} {n : Nat} {x : Int32} {o0 o1 o2 o : Option ρ} (td t0 t1 t2 : Nat) (hd : kD M pc (.tableswitch dflt lo hi offs) n pc') (h0 : (pc : Int) + dflt = (td : Int)) (hN : hi - lo = 2) (g0 : offs[0]?.map (fun z => (pc : Int) + z) = some (t0 : Int)) (g1 : offs[1]?.map (fun z => (pc : Int) + z) = some (t1 : Int)) (g2 : offs[2]?.map (fun z => (pc : Int) + z) = some (t2 : Int)) (k : kOk l G E Z M d o td lv st S) (k0 : kOk l G E Z M d o0 t0 lv st S) (k1 : kOk l G E Z M d o1 t1 lv st S) (k2 : kOk l G E Z M d o2 t2 lv st S) : kOk l G E Z M d (kcase3 (ksw lo hi x) o0 o1 o2 o) pc lv (.int x :: st) S := by
  refine ok_table (F := fun q => kcase3 q o0 o1 o2 o) (fun j => match j with | 0 => t0 | 1 => t1 | _ => t2) td hd h0 (fun j hj => ?_) k (fun j hj => ?_)
  · have hj2 : j < 3 := by omega
    have key : ∀ (t : Nat) (i : Nat), offs[i]?.map (fun z => (pc : Int) + z) = some (t : Int) → ∃ off, offs[i]? = some off ∧ (pc : Int) + off = (t : Int) := by
      intro t i h
      cases ho : offs[i]? with
      | none => rw [ho] at h; cases h
      | some z => rw [ho] at h; exact ⟨z, rfl, Option.some.inj h⟩
    match j, hj2 with
    | 0, _ => exact key _ _ g0
    | 1, _ => exact key _ _ g1
    | 2, _ => exact key _ _ g2
  · have hj2 : j < 3 := by omega
    match j, hj2 with
    | 0, _ => exact k0
    | 1, _ => exact k1
    | 2, _ => exact k2
def kcase4 {α : Type} (q : Option Nat) (a0 a1 a2 a3 d : α) : α := match q with
  | some 0 => a0
  | some 1 => a1
  | some 2 => a2
  | some 3 => a3
  | _ => d
theorem ok_table4 {dflt lo hi : Int} {offs : Array Int} {n : Nat} {x : Int32} {o0 o1 o2 o3 o : Option ρ} (td t0 t1 t2 t3 : Nat) (hd : kD M pc (.tableswitch dflt lo hi offs) n pc') (h0 : (pc : Int) + dflt = (td : Int)) (hN : hi - lo = 3) (g0 : offs[0]?.map (fun z => (pc : Int) + z) = some (t0 : Int)) (g1 : offs[1]?.map (fun z => (pc : Int) + z) = some (t1 : Int)) (g2 : offs[2]?.map (fun z => (pc : Int) + z) = some (t2 : Int)) (g3 : offs[3]?.map (fun z => (pc : Int) + z) = some (t3 : Int)) (k : kOk l G E Z M d o td lv st S) (k0 : kOk l G E Z M d o0 t0 lv st S) (k1 : kOk l G E Z M d o1 t1 lv st S) (k2 : kOk l G E Z M d o2 t2 lv st S) (k3 : kOk l G E Z M d o3 t3 lv st S) : kOk l G E Z M d (kcase4 (ksw lo hi x) o0 o1 o2 o3 o) pc lv (.int x :: st) S := by
  refine ok_table (F := fun q => kcase4 q o0 o1 o2 o3 o) (fun j => match j with | 0 => t0 | 1 => t1 | 2 => t2 | _ => t3) td hd h0 (fun j hj => ?_) k (fun j hj => ?_)
  · have hj2 : j < 4 := by omega
    have key : ∀ (t : Nat) (i : Nat), offs[i]?.map (fun z => (pc : Int) + z) = some (t : Int) → ∃ off, offs[i]? = some off ∧ (pc : Int) + off = (t : Int) := by
      intro t i h
      cases ho : offs[i]? with
      | none => rw [ho] at h; cases h
      | some z => rw [ho] at h; exact ⟨z, rfl, Option.some.inj h⟩
    match j, hj2 with
    | 0, _ => exact key _ _ g0
    | 1, _ => exact key _ _ g1
    | 2, _ => exact key _ _ g2
    | 3, _ => exact key _ _ g3
  · have hj2 : j < 4 := by omega
    match j, hj2 with
    | 0, _ => exact k0
    | 1, _ => exact k1
    | 2, _ => exact k2
    | 3, _ => exact k3
def kcase5 {α : Type} (q : Option Nat) (a0 a1 a2 a3 a4 d : α) : α := match q with
  | some 0 => a0
  | some 1 => a1
  | some 2 => a2
  | some 3 => a3
  | some 4 => a4
  | _ => d
theorem ok_table5 {dflt lo hi : Int} {offs : Array Int} {n : Nat} {x : Int32} {o0 o1 o2 o3 o4 o : Option ρ} (td t0 t1 t2 t3 t4 : Nat) (hd : kD M pc (.tableswitch dflt lo hi offs) n pc') (h0 : (pc : Int) + dflt = (td : Int)) (hN : hi - lo = 4) (g0 : offs[0]?.map (fun z => (pc : Int) + z) = some (t0 : Int)) (g1 : offs[1]?.map (fun z => (pc : Int) + z) = some (t1 : Int)) (g2 : offs[2]?.map (fun z => (pc : Int) + z) = some (t2 : Int)) (g3 : offs[3]?.map (fun z => (pc : Int) + z) = some (t3 : Int)) (g4 : offs[4]?.map (fun z => (pc : Int) + z) = some (t4 : Int)) (k : kOk l G E Z M d o td lv st S) (k0 : kOk l G E Z M d o0 t0 lv st S) (k1 : kOk l G E Z M d o1 t1 lv st S) (k2 : kOk l G E Z M d o2 t2 lv st S) (k3 : kOk l G E Z M d o3 t3 lv st S) (k4 : kOk l G E Z M d o4 t4 lv st S) : kOk l G E Z M d (kcase5 (ksw lo hi x) o0 o1 o2 o3 o4 o) pc lv (.int x :: st) S := by
  refine ok_table (F := fun q => kcase5 q o0 o1 o2 o3 o4 o) (fun j => match j with | 0 => t0 | 1 => t1 | 2 => t2 | 3 => t3 | _ => t4) td hd h0 (fun j hj => ?_) k (fun j hj => ?_)
  · have hj2 : j < 5 := by omega
    have key : ∀ (t : Nat) (i : Nat), offs[i]?.map (fun z => (pc : Int) + z) = some (t : Int) → ∃ off, offs[i]? = some off ∧ (pc : Int) + off = (t : Int) := by
      intro t i h
      cases ho : offs[i]? with
      | none => rw [ho] at h; cases h
      | some z => rw [ho] at h; exact ⟨z, rfl, Option.some.inj h⟩
    match j, hj2 with
    | 0, _ => exact key _ _ g0
    | 1, _ => exact key _ _ g1
    | 2, _ => exact key _ _ g2
    | 3, _ => exact key _ _ g3
    | 4, _ => exact key _ _ g4
  · have hj2 : j < 5 := by omega
    match j, hj2 with
    | 0, _ => exact k0
    | 1, _ => exact k1
    | 2, _ => exact k2
    | 3, _ => exact k3
    | 4, _ => exact k4
def kcase7 {α : Type} (q : Option Nat) (a0 a1 a2 a3 a4 a5 a6 d : α) : α := match q with
  | some 0 => a0
  | some 1 => a1
  | some 2 => a2
  | some 3 => a3
  | some 4 => a4
  | some 5 => a5
  | some 6 => a6
  | _ => d
theorem ok_table7 {dflt lo hi : Int} {offs : Array Int} {n : Nat} {x : Int32} {o0 o1 o2 o3 o4 o5 o6 o : Option ρ} (td t0 t1 t2 t3 t4 t5 t6 : Nat) (hd : kD M pc (.tableswitch dflt lo hi offs) n pc') (h0 : (pc : Int) + dflt = (td : Int)) (hN : hi - lo = 6) (g0 : offs[0]?.map (fun z => (pc : Int) + z) = some (t0 : Int)) (g1 : offs[1]?.map (fun z => (pc : Int) + z) = some (t1 : Int)) (g2 : offs[2]?.map (fun z => (pc : Int) + z) = some (t2 : Int)) (g3 : offs[3]?.map (fun z => (pc : Int) + z) = some (t3 : Int)) (g4 : offs[4]?.map (fun z => (pc : Int) + z) = some (t4 : Int)) (g5 : offs[5]?.map (fun z => (pc : Int) + z) = some (t5 : Int)) (g6 : offs[6]?.map (fun z => (pc : Int) + z) = some (t6 : Int)) (k : kOk l G E Z M d o td lv st S) (k0 : kOk l G E Z M d o0 t0 lv st S) (k1 : kOk l G E Z M d o1 t1 lv st S) (k2 : kOk l G E Z M d o2 t2 lv st S) (k3 : kOk l G E Z M d o3 t3 lv st S) (k4 : kOk l G E Z M d o4 t4 lv st S) (k5 : kOk l G E Z M d o5 t5 lv st S) (k6 : kOk l G E Z M d o6 t6 lv st S) : kOk l G E Z M d (kcase7 (ksw lo hi x) o0 o1 o2 o3 o4 o5 o6 o) pc lv (.int x :: st) S := by
  refine ok_table (F := fun q => kcase7 q o0 o1 o2 o3 o4 o5 o6 o) (fun j => match j with | 0 => t0 | 1 => t1 | 2 => t2 | 3 => t3 | 4 => t4 | 5 => t5 | _ => t6) td hd h0 (fun j hj => ?_) k (fun j hj => ?_)
  · have hj2 : j < 7 := by omega
    have key : ∀ (t : Nat) (i : Nat), offs[i]?.map (fun z => (pc : Int) + z) = some (t : Int) → ∃ off, offs[i]? = some off ∧ (pc : Int) + off = (t : Int) := by
      intro t i h
      cases ho : offs[i]? with
      | none => rw [ho] at h; cases h
      | some z => rw [ho] at h; exact ⟨z, rfl, Option.some.inj h⟩
    match j, hj2 with
    | 0, _ => exact key _ _ g0
    | 1, _ => exact key _ _ g1
    | 2, _ => exact key _ _ g2
    | 3, _ => exact key _ _ g3
    | 4, _ => exact key _ _ g4
    | 5, _ => exact key _ _ g5
    | 6, _ => exact key _ _ g6
  · have hj2 : j < 7 := by omega
    match j, hj2 with
    | 0, _ => exact k0
    | 1, _ => exact k1
    | 2, _ => exact k2
    | 3, _ => exact k3
    | 4, _ => exact k4
    | 5, _ => exact k5
    | 6, _ => exact k6
theorem ok_mmax {idx : Nat} {x y : Int32} (hd : kD M pc (.invokestatic idx) 3 pc') (hc : kCs M.1.cls idx mJ_max_J9 2) (hd1 : kfit 0 d) (hrest : (st.map fun v => v.category).sum ≤ 8) (k : kOk l G E Z M d o pc' lv (.int (kmax x y) :: st) S) : kOk l G E Z M d o pc lv (.int y :: .int x :: st) S := by
  intro p e s m args below meth c A H locs ls q C hP hS hl ho
  obtain ⟨hdc, rfl⟩ := hd
  obtain ⟨w1, w2, w3, w4, -⟩ := hc
  have hr2 : ((st.map (kcv E.1)).map fun v => v.category).sum ≤ 8 := by
    rw [List.map_map]
    have : (List.map ((fun v => Value.category v) ∘ kcv E.1) st) = st.map (fun v => v.category) := List.map_congr_left (fun v _ => kcat E.1 v)
    rw [this]
    exact hrest
  exact va_mmax C.1.1 C.1.2.1 (by rw [C.1.2.2.1]; exact hl.1.symm) C.1.2.2.2.2.2.1 (C.1.2.2.2.2.2.2 _ w1) (C.1.2.2.2.2.2.2 _ w2) (C.1.2.2.2.2.2.2 _ w3) (C.1.2.2.2.2.2.2 _ w4) hd1.1 (by have h2 := hd1.2.1; omega) hd1.2.2.1 hd1.2.2.2 hdc (k p e s m args below meth c A H locs ls q C hP hS hl ho)
theorem ok_mmin {idx : Nat} {x y : Int32} (hd : kD M pc (.invokestatic idx) 3 pc') (hc : kCs M.1.cls idx mJ_min_J9 2) (hd1 : kfit 0 d) (hrest : (st.map fun v => v.category).sum ≤ 8) (k : kOk l G E Z M d o pc' lv (.int (kmin x y) :: st) S) : kOk l G E Z M d o pc lv (.int y :: .int x :: st) S := by
  intro p e s m args below meth c A H locs ls q C hP hS hl ho
  obtain ⟨hdc, rfl⟩ := hd
  obtain ⟨w1, w2, w3, w4, -⟩ := hc
  have hr2 : ((st.map (kcv E.1)).map fun v => v.category).sum ≤ 8 := by
    rw [List.map_map]
    have : (List.map ((fun v => Value.category v) ∘ kcv E.1) st) = st.map (fun v => v.category) := List.map_congr_left (fun v _ => kcat E.1 v)
    rw [this]
    exact hrest
  exact va_mmin C.1.1 C.1.2.1 (by rw [C.1.2.2.1]; exact hl.1.symm) C.1.2.2.2.2.2.1 (C.1.2.2.2.2.2.2 _ w1) (C.1.2.2.2.2.2.2 _ w2) (C.1.2.2.2.2.2.2 _ w3) (C.1.2.2.2.2.2.2 _ w4) hd1.1 (by have h2 := hd1.2.1; omega) hd1.2.2.1 hd1.2.2.2 hdc (k p e s m args below meth c A H locs ls q C hP hS hl ho)
theorem ok_mabs {idx : Nat} {x y : Int32} (hd : kD M pc (.invokestatic idx) 3 pc') (hc : kCs M.1.cls idx mJ_abs_J9 1) (hd1 : kfit 0 d) (hrest : (st.map fun v => v.category).sum ≤ 8) (k : kOk l G E Z M d o pc' lv (.int (kabs x) :: st) S) : kOk l G E Z M d o pc lv (.int x :: st) S := by
  intro p e s m args below meth c A H locs ls q C hP hS hl ho
  obtain ⟨hdc, rfl⟩ := hd
  obtain ⟨w1, w2, w3, w4, -⟩ := hc
  have hr2 : ((st.map (kcv E.1)).map fun v => v.category).sum ≤ 8 := by
    rw [List.map_map]
    have : (List.map ((fun v => Value.category v) ∘ kcv E.1) st) = st.map (fun v => v.category) := List.map_congr_left (fun v _ => kcat E.1 v)
    rw [this]
    exact hrest
  exact va_mabs C.1.1 C.1.2.1 (by rw [C.1.2.2.1]; exact hl.1.symm) C.1.2.2.2.2.2.1 (C.1.2.2.2.2.2.2 _ w1) (C.1.2.2.2.2.2.2 _ w2) (C.1.2.2.2.2.2.2 _ w3) (C.1.2.2.2.2.2.2 _ w4) hd1.1 (by have h2 := hd1.2.1; omega) hd1.2.2.1 hd1.2.2.2 hdc (k p e s m args below meth c A H locs ls q C hP hS hl ho)
end GR
