-- new int[N][K] among the constructors' rules
def MNA (l : Launch) (D : va_G) (t : ClassId × ClassId × ClassId × ClassId) : Prop := ∀ (X : (Nat → Prop) → State → Prop) (M : kM) (R : Room) (cs sl : Nat) (QQ : cQt) (pc pc' : Nat) (lv : List (Nat × Value)) (st : List Value) (ws : va_W) (idx N K : Nat) (n k : Int32), kD M pc (.multianewarray idx 2) 4 pc' → Cond.classLink M.1.cls idx "[[I" ∈ kT → ¬ n < 0 → ¬ k < 0 → n.toNatClampNeg = N → k.toNatClampNeg = K → N ≤ 1000 → K ≤ 1000 → cs + (1 + N) ≤ R.cells → sl + (N + N * K) ≤ R.slots →
  (∀ (z : Nat) (r : Nat → Nat), nOk l D t X M R (cs + 1 + N) (sl + N + N * K) QQ pc' lv (.ref z :: st) (ws ++ ((z, .inl (t.2.2.2, N, .inr (.inr (.inr (.inr (fun j => ((List.range N).map r)[j]?)))))) :: (List.range N).map (fun j => (r j, .inl (t.1, K, .inl (fun _ => 0))))))) → nOk l D t X M R cs sl QQ pc lv (.int k :: .int n :: st) ws
theorem n_rows (N : Nat) (r : Nat → Nat) : (fun i => if i < N then some (r i) else none) = fun j => ((List.range N).map r)[j]? := by
  funext j
  rw [List.getElem?_map]
  by_cases h : j < N
  · rw [if_pos h, List.getElem?_range h]
    rfl
  · rw [if_neg h, List.getElem?_eq_none (by rw [List.length_range]; omega)]
    rfl
theorem mna_ok {l : Launch} {D : va_G} {t : ClassId × ClassId × ClassId × ClassId} : MNA l D t := by
  intro X M R cs sl QQ pc pc' lv st ws idx N K n k hd hcl hn hk hN hK hN1 hK1 hc hs kk
  intro p e s m args below meth c A H locs ls hX C hP hD hS hl
  obtain ⟨hdc, rfl⟩ := hd
  have hts := C.1.2.2.2.2.2.2
  have hci : s.vm.findClass (FieldType.array .int).toString = some t.1 := (C.2.1.2 0 (t.1, .int) rfl).2
  have hca : s.vm.findClass ("[" ++ (FieldType.array .int).toString) = some t.2.2.2 := (C.2.1.2 3 (t.2.2.2, .array .int) rfl).2
  refine yy_W (H := H) C.1.1 C.1.2.1 C.1.2.2.2.2.2.1 (hts _ hcl) C.2.2.2.2.1 (hts _ kaw_I) hca hci hn hk hN hK hN1 hK1 hc hs hdc hS.1 (fun G hG => ?_)
  have key : ∀ (k9 : Nat) (x : Nat × va_E), ((H.size, .inl (t.2.2.2, N, .inr (.inr (.inr (.inr (fun j => ((List.range N).map (fun j => H.size + 1 + j))[j]?)))))) :: (List.range N).map (fun j => (H.size + 1 + j, .inl (t.1, K, .inl (fun _ => 0)))) : va_W)[k9]? = some x → x.1 = H.size + k9 ∧ va_at D kCl x G := by
    intro k9 x hx
    cases k9 with
    | zero =>
      cases hx
      refine ⟨rfl, ?_⟩
      show G[H.size]? = some (arrV t.2.2.2 N (fun j => va_rf (((List.range N).map (fun j => H.size + 1 + j))[j]?)))
      rw [hG.2.2.1]
      refine congrArg (fun z => some (arrV t.2.2.2 N z)) (funext fun j => ?_)
      have hr : (if j < N then some (H.size + 1 + j) else none) = ((List.range N).map (fun j => H.size + 1 + j))[j]? := congrFun (n_rows N (fun j => H.size + 1 + j)) j
      rw [← hr]
      by_cases h : j < N
      · rw [if_pos h, if_pos h]
        rfl
      · rw [if_neg h, if_neg h]
        rfl
    | succ j =>
      rw [List.getElem?_cons_succ, List.getElem?_map] at hx
      by_cases h : j < N
      · rw [List.getElem?_range h] at hx
        cases hx
        exact ⟨by show H.size + 1 + j = H.size + (j + 1); omega, hG.2.2.2 j h⟩
      · rw [List.getElem?_eq_none (by rw [List.length_range]; omega)] at hx
        cases hx
  refine kk H.size (fun j => H.size + 1 + j) p e s m args below meth c A G locs ls hX C ((hP.kept (fun k9 x hx => hG.2.1 x.1 ((hP k9 x hx).lt))).app (fun k9 x hx => (key k9 x hx).2)) (hD.app ⟨fun i j x y hi hj he => ?_, fun k9 x hx => ?_⟩ (fun i j x y hi hj he => ?_)) ⟨?_, fun x h1 h2 => (hG.2.1 x (Nat.lt_of_lt_of_le h1 hS.1)).trans (hS.2.1 x h1 h2), hS.2.2⟩ hl
  · have h1 := (key i x hi).1
    have h2 := (key j y hj).1
    omega
  · rw [(key k9 x hx).1]
    exact C.2.2.1 _ (Nat.le_trans hS.1 (Nat.le_add_right _ _))
  · have h1 := (hP i x hi).lt
    have h2 := (key j y hj).1
    omega
  · rw [hG.1]
    have h1 := hS.1
    omega
