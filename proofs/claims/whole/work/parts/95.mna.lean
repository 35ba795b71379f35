-- new int[N][K] among the constructors' rules
def MNA (l : Launch) (D : va_G) (t : ClassId × ClassId × ClassId × ClassId) : Prop := ∀ (X : (Nat → Prop) → State → Prop) (M : kM) (R : Room) (cs sl : Nat) (QQ : cQt) (pc pc' : Nat) (lv : List (Nat × Value)) (st : List Value) (ws : va_W) (idx N K : Nat) (n k : Int32), kD M pc (.multianewarray idx 2) 4 pc' → Cond.classLink M.1.cls idx "[[I" ∈ kT → ¬ n < 0 → ¬ k < 0 → n.toNatClampNeg = N → k.toNatClampNeg = K → N ≤ 1000 → K ≤ 1000 → cs + (1 + N) ≤ R.cells → sl + (N + N * K) ≤ R.slots →
  (∀ (z : Nat) (r : Nat → Nat), nOk l D t X M R (cs + 1 + N) (sl + N + N * K) QQ pc' lv (.ref z :: st) (ws ++ ((z, .inl (t.2.2.2, N, .inr (.inr (.inr (.inr (fun j => ((List.range N).map r)[j]?)))))) :: (List.range N).map (fun j => (r j, .inl (t.1, K, .inl (fun _ => 0))))))) → nOk l D t X M R cs sl QQ pc lv (.int k :: .int n :: st) ws
theorem n_rows (N : Nat) (r : Nat → Nat) : (fun i => if i < N then some (r i) else none) = fun j => ((List.range N).map r)[j]? := by
  funext j
  rw [List.getElem?_map]
  by_cases h : j < N
  · rw [if_pos h, List.getElem?_range h]
    rfl
  · rw [if_neg h, List.getElem?_eq_none (by rw [List.length_range]; omega)]
    rfl
theorem mna_ok {l : Launch} {D : va_G} {t : ClassId × ClassId × ClassId × ClassId} : MNA l D t := by
  intro X M R cs sl QQ pc pc' lv st ws idx N K n k hd hcl hn hk hN hK hN1 hK1 hc hs kk
  intro p e s m args below meth c A H locs ls hX C hP hD hS hl
  obtain ⟨hdc, rfl⟩ := hd
  have hts := C.1.2.2.2.2.2.2
  have hcy : s.vm.findClass (FieldType.array .int).toString = some t.1 := (C.2.1.2 0 (t.1, .int) rfl).2
  have e0 : ws ++ va_pl [] (fun _ => (.inr (0, []) : va_E)) = ws := by
    show ws ++ [] = ws
    rw [List.append_nil]
  refine va_mna (X := ws) (L := []) (f := fun _ => .inr (0, [])) (ty := .int) (cy := t.1) (N' := N) (K' := K) (z := (K, .inl (fun _ => 0))) C.1.1 C.1.2.1 C.1.2.2.2.2.2.1 (hts _ hcl) C.2.2.2.2.1 (hts _ kaw_I) hcy C.2.1 (by rw [e0]; exact hP) (by rw [e0]; exact hD) hS C.2.2.1 hn hk hN hK (by omega) (by show K * 4 ≤ _; omega) (by omega) rfl rfl hc hs (fun c => ?_) hdc (fun q r cA H1 hr1 hr2 hK2 hP2 hD2 hS2 => ?_)
  · show ({ cls := c, slots := Array.replicate K (.int 0), vm := .none } : Cell) = _
    rw [arrV_new]
    rfl
  · have h4 : s.vm.findClass ("[" ++ (FieldType.array .int).toString) = some cA := (hK2.2 4 (cA, .array .int) rfl).2
    have h3 : s.vm.findClass ("[" ++ (FieldType.array .int).toString) = some t.2.2.2 := (C.2.1.2 3 (t.2.2.2, .array .int) rfl).2
    have hcA : cA = t.2.2.2 := Option.some.inj (h4.symm.trans h3)
    subst hcA
    rw [← vr_rows (L := []) (fun a _ h => nomatch h), n_rows] at hP2 hD2
    have ee : ∀ (x : Nat × va_E), (ws ++ [x]) ++ (va_pl [] (fun _ => (.inr (0, []) : va_E)) ++ ((List.range N).map r).map (fun a => ((a, .inl (t.1, K, .inl (fun _ => 0))) : Nat × va_E))) = ws ++ (x :: (List.range N).map (fun j => (r j, .inl (t.1, K, .inl (fun _ => 0))))) := by
      intro x
      show (ws ++ [x]) ++ ([] ++ _) = _
      rw [List.nil_append, List.append_assoc, List.map_map]
      rfl
    rw [ee] at hP2 hD2
    exact kk q r p e s m args below meth c A H1 locs ls hX C hP2 hD2 hS2 hl
