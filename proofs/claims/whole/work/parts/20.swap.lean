-- reader.pier is written; told and draft change over
def kσ (k : Nat) : Nat := if k = 1 then 2 else if k = 2 then 1 else if 18 ≤ k ∧ k < 28 then k + 10 else if 28 ≤ k ∧ k < 38 then k - 10 else k
def ksig (S : kSt) : kSt := (fun k => S.1 (kσ k), fun k => S.2 (kσ k))
theorem kσ_lt {k : Nat} (h : k < kN) : kσ k < kN := by
  have : kN = 90 := rfl
  unfold kσ
  repeat (first | split | omega)
theorem kσ_σ (k : Nat) : kσ (kσ k) = k := by
  unfold kσ
  repeat (first | omega | split)
theorem kσ_hi {k : Nat} (h : 38 ≤ k) : kσ k = k := by
  unfold kσ
  repeat (first | omega | split)
theorem kσ_sh : ∀ k, k < 90 → kSH[kσ k]? = kSH[k]? := by decide +kernel
theorem kσ_rf : ∀ k, k < 16 → ¬ k = 0 → ∀ j, j < 42 → kRf 2 (kσ k) j = (kRf 1 k j).map kσ := by decide +kernel
theorem kRf_ne {z z' i j : Nat} (h : i ≠ 3) : kRf z i j = kRf z' i j := by
  unfold kRf
  simp [h]
theorem kent_z {G : kG} {ad : Nat → Nat} {z z' : Nat} {S : kSt} {i : Nat} (h : i ≠ 3) : kent G (ad, z') S i = kent G (ad, z) S i := by
  have hv : ∀ j ty, kval (ad, z') S i j ty = kval (ad, z) S i j ty := by
    intro j ty
    unfold kval
    cases ty <;> simp [kRf_ne (z := z') (z' := z) h]
  have hf : ∀ c n, kfs (ad, z') S i c n = kfs (ad, z) S i c n := by
    intro c n
    unfold kfs
    exact List.map_congr_left (fun j _ => hv j _)
  unfold kent
  have hr : (fun j => Option.map (ad, z').1 (kRf (ad, z').2 i j)) = (fun j => Option.map (ad, z).1 (kRf (ad, z).2 i j)) := by
    funext j
    show Option.map ad (kRf z' i j) = Option.map ad (kRf z i j)
    rw [kRf_ne (z := z') (z' := z) h]
  rw [hr]
  split <;> simp [hf]
section RP
variable {ρ : Type} {l : Launch} {G : kG} {ad : Nat → Nat} {z : Nat} {Z : (Nat → Prop) → ρ → Array Value → State → Outcome → State → Prop} {M : kM} {d : kDD} {o : Option ρ} {pc pc' : Nat} {lv lv' : List (Nat × Value)} {st : List Value} {S : kSt}
theorem ok_putP {idx : Nat} (hd : kD M pc (.putfield idx) 3 pc') (hf : kFl M.1.cls idx 7 6) (kk : kOk l G (ad, 2) Z M d o pc' lv st S) : kOk l G (ad, z) Z M d o pc lv (.ref 2 :: .ref 3 :: st) S := by
  intro p e s m args below meth c0 A H locs ls q C hP hS hl ho
  obtain ⟨hdc, rfl⟩ := hd
  obtain ⟨Cn, T, N, g1, g2, g3, g4⟩ := hf
  have hs := sh_3
  have hN := kshN hs g1
  subst hN
  have hlt := kSH_lt hs
  have hD : va_D A (kws G (ad, z) S) := kws_D C.2.2.2.2.2.2.1 C.2.2.2.2.2.1
  have hff : (T 6).2.2.2 = false := by
    have hfin : kFin 7 6 = false := rfl
    unfold kFin at hfin
    rw [g1] at hfin
    exact hfin
  refine va_put (v := .ref (ad 2)) (a := ad 3) (fs := kfs (ad, z) S 3 7 11) C.1.1 C.1.2.1 C.1.2.2.2.2.2.2 (kob g1).1 (kTyp 7) (kob g1).2.1 (kob g1).2.2 C.1.2.2.2.2.2.1 C.2.1 hP hD hS 3 (by rw [kws_at hlt, kent_obj hs]) g1 6 g2 (C.1.2.2.2.2.2.2 _ g3) (by rw [g4]; exact fun _ h => h) hff ((kob g1).2.1 6 g2) rfl rfl (by simpa [kfs] using g2) hdc (fun H1 locs1 hP1 _ hS1 => ?_)
  have hw : (kws G (ad, z) S).set 3 (ad 3, .inr (7, (kfs (ad, z) S 3 7 11).set 6 (.ref (ad 2)))) = kws G (ad, 2) S := by
    apply List.ext_getElem?
    intro i
    by_cases hi : i < kN
    · by_cases hik : i = 3
      · subst hik
        rw [List.getElem?_set_self (by simpa [kws] using hi), kws_at hi, kent_obj hs]
        rfl
      · rw [List.getElem?_set_ne (Ne.symm hik), kws_at hi, kws_at hi, kent_z (z := z) (z' := 2) hik]
    · rw [List.getElem?_eq_none (by simpa [kws] using hi), List.getElem?_eq_none (by simpa [kws] using hi)]
  rw [hw] at hP1
  exact kk p e s m args below meth c0 A H1 locs1 ls q C hP1 hS1 hl ho
theorem ok_callP {M' : kM} {d' idx n : Nat} {k c nf : Nat} {as stk : List Value} {o1 : Option (Bool × kSt)} {o2 : Bool × kSt → Option ρ} (hd : kD M pc (.invokevirtual idx) 3 pc') (hc : kCv M.1.cls idx M' n) (hs : kSH[k]? = some (0, c, nf)) (hcl : (kCl[c]?).map (fun q => q.1) = some M'.1.cls) (hn : as.length = n) (hm : M'.2.2.1 ≤ 30) (hF : kFn l G (ad, z) (ad, 2) kjB M' d' (.ref k :: as) S o1) (hdd : kfit d' d) (hst : as.reverse ++ .ref k :: st = stk) (hrest : (st.map fun v => v.category).sum ≤ 8) (kk : ∀ a, o1 = some a → kOk l G (ad, 2) Z M d (o2 a) pc' lv (.int (kb a.1) :: st) a.2) : kOk l G (ad, z) Z M d (o1.bind o2) pc lv stk S := by
  intro p e s m args below meth c0 A H locs ls q C hP hS hl ho
  obtain ⟨hdc, rfl⟩ := hd
  obtain ⟨a, ha, ho⟩ := kbnd ho
  refine va_calli (a := ((Value.ref k :: as).map (kcv ad)).toArray) (kRunV hdc hc hs hcl hn hm hF hdd hst hrest C hP hS hl ha) hS (fun q _ h => kAA C hS q h) (kAA C hS) (fun r u t H1 locs1 ht hvm hw hB _ _ hS1 => ?_)
  dsimp only at hB
  rw [ht] at hB
  cases hw
  exact kk a ha p e s m args below meth c0 A H1 locs1 ls q C hB hS1 hl ho
theorem ok_ireturnZ {E : kE} {d : Nat} {x : Int32} {Z : (Nat → Prop) → Int32 × kSt → Array Value → State → Outcome → State → Prop} (hd : kD M pc .ireturn 1 pc') (hr : M.2.2.2 = some .int) (hZ : ∀ A a s oc t, kZ G E kjI A (x, S) a s oc t → Z A (x, S) a s oc t) : kOk l G E Z M (kdp d) (some (x, S)) pc lv [.int x] S := by
  intro p e s m args below meth c A H locs ls q C hP hS hl ho
  obtain ⟨hdc, rfl⟩ := hd
  cases ho
  exact W.iret C.1.1 C.1.2.1 (by rw [C.1.2.2.2.1, hr]) (fun t ht _ => hZ _ _ _ _ _ ⟨⟨x, (), rfl, rfl, by show va_P _ _ _ t.heap; rw [ht]; exact hP⟩, hS.F ht⟩) hS.2.2 hdc C.1.2.2.2.2.1
end RP
theorem kMet_of {ρ : Type} {l : Launch} {G : kG} {E : kE} {Z : (Nat → Prop) → ρ → Array Value → State → Outcome → State → Prop} {M : kM} {d : Nat} {as : List Value} {S : kSt} {o : Option ρ} (hy : plainName M.1.cls = true) (hn : (lg_sl as).length ≤ M.2.2.1) (h : kOk l G E Z M (kdp d) o 0 (lv_args 0 as) [] S) : ∀ q, o = some q → ∀ sz, Met l M.1 (kWs M) (krm d) (va_Pc (as.map (kcv E.1)) (kWd G E S sz)) (Z (kA E sz) q) 0 0 (kA E sz) := by
  intro q hq sz
  refine Met.ofW (cc := M.2.1) (maxL := M.2.2.1) (ret := M.2.2.2) hy rfl ?_
  intro p e s m args below meth c s₁ B hml hv
  obtain ⟨rfl, hsz, hP, hK, hE, hR, hI, hT, hN, hZ⟩ := hv
  subst hsz
  have hts := atoms_spec (ws := kWs M) B.pre
  have hl := lv_entry (as.map (kcv E.1)) (n := M.2.2.1) (by rw [kargl]; exact hn)
  rw [kargs] at hl
  rw [lg_entry_eq]
  exact h p e s m _ below meth c (kA E s.heap.size) s.heap [] _ q ⟨⟨B.exec, B.bytes, hml, B.returns, B.notSynchronized, findClass_of_methodNamed B.named, fun w hw => hts w (List.mem_cons_of_mem _ hw)⟩, hK, hE, hR, fun q h => Or.inr h, fun k hk => Or.inl ⟨k, hk, rfl⟩, hI, hT, hN, hZ⟩ hP va_S.rf hl hq
/-- the same facts, cells renumbered -/
theorem kCx_σ {G : kG} {ad : Nat → Nat} {z z' : Nat} {M : kM} {p : Program} {s : State} {m : MethodId} {args : Array Value} {meth : Method} {c : Code} {A : Nat → Prop} (C : kCx G (ad, z) M p s m args meth c A) : kCx G (fun k => ad (kσ k), z') M p s m args meth c A := by
  obtain ⟨h1, h2, h3, h4, h5, h6, h7, h8, h9, h10⟩ := C
  refine ⟨h1, h2, h3, h4, h5, fun k hk => h6 _ (kσ_lt hk), fun i j hi hj e => ?_, fun i hi => ?_, h9, h10.1, ?_, h10.2.2.1, h10.2.2.2.1, h10.2.2.2.2.1, ?_⟩
  · have h := h7 _ _ (kσ_lt hi) (kσ_lt hj) e
    rw [← kσ_σ i, ← kσ_σ j, h]
  · show ad (kσ (1000 + i)) = _ ∧ ad (kσ (1100 + i)) = _
    rw [kσ_hi (by omega), kσ_hi (by omega)]
    exact h8 i hi
  · have hv : kcv (fun k => ad (kσ k)) G.2.2.2.2.1 = kcv ad G.2.2.2.2.1 := by
      rcases h10.2.2.1 with h | h
      · rw [h]; rfl
      · rw [h]
        show Value.ref (ad (kσ 2000)) = Value.ref (ad 2000)
        rw [kσ_hi (by omega)]
    show va_Z _ _ _ (kcv (fun k => ad (kσ k)) G.2.2.2.2.1) A s s.heap
    rw [hv]
    exact h10.2.1
  · show ad (kσ 3000) = _
    rw [kσ_hi (by omega)]
    exact h10.2.2.2.2.2
theorem kent_σ {G : kG} {ad : Nat → Nat} {S : kSt} {k : Nat} (hk : k < kN) (h0 : k ≠ 0) : kent G (fun i => ad (kσ i), 1) (ksig S) k = kent G (ad, 2) S (kσ k) := by
  have hk9 : k < 90 := hk
  have hsh := kσ_sh k hk9
  have hrf : ∀ j, j < 42 → (kRf 1 k j).map (fun i => ad (kσ i)) = (kRf 2 (kσ k) j).map ad := by
    intro j hj
    by_cases h16 : k < 16
    · rw [kσ_rf k h16 h0 j hj, Option.map_map]
      rfl
    · by_cases h17 : k = 17
      · subst h17
        show (kRf 1 17 j).map _ = (kRf 2 17 j).map _
        unfold kRf
        simp only [if_true]
        split
        · show some (ad (kσ (70 + j))) = some (ad (70 + j))
          rw [kσ_hi (by omega)]
        · rfl
      · by_cases h43 : k = 43
        · subst h43
          show (kRf 1 43 j).map _ = (kRf 2 43 j).map _
          unfold kRf
          simp only [show ¬ (43 : Nat) = 17 by decide, if_true, if_false]
          split
          · show some (ad (kσ (73 + j))) = some (ad (73 + j))
            rw [kσ_hi (by omega)]
          · rfl
        · have hn : ∀ z i, 16 ≤ i → i ≠ 17 → i ≠ 43 → kRf z i j = none := by
            intro z i h1 h2 h3
            unfold kRf
            rw [if_neg h2, if_neg h3, if_neg (by omega)]
            have : kRT.getD i [] = [] := by
              have hl : kRT.length ≤ 16 := by decide +kernel
              rw [List.getD_eq_getElem?_getD, List.getElem?_eq_none (by omega)]
              rfl
            rw [this]
            rfl
          have hb : 16 ≤ kσ k ∧ kσ k ≠ 17 ∧ kσ k ≠ 43 := by
            unfold kσ
            repeat (first | omega | split)
          rw [hn 1 k (by omega) h17 h43, hn 2 (kσ k) hb.1 hb.2.1 hb.2.2]
          rfl
  have hq : ∀ n, kSH[k]? = some (1, 3, n) → (fun j => (kRf 1 k j).map (fun i => ad (kσ i))) = (fun j => (kRf 2 (kσ k) j).map ad) := by
    intro n hn
    funext j
    by_cases hj : j < 42
    · exact hrf j hj
    · have hk2 : k = 17 ∨ k = 43 := by
        have : ∀ i, i < 90 → (∃ n, kSH[i]? = some (1, 3, n)) → i = 17 ∨ i = 43 := by
          intro i hi ⟨n, h⟩
          have h2 : ∀ i, i < 90 → (kSH[i]?.map (fun q => decide (q.1 = 1 ∧ q.2.1 = 3))) = some true → i = 17 ∨ i = 43 := by decide +kernel
          exact h2 i hi (by rw [h]; rfl)
        exact this k hk9 ⟨n, hn⟩
      have hz : ∀ z i, (i = 17 ∨ i = 43) → kRf z i j = none := by
        intro z i hi
        unfold kRf
        rcases hi with rfl | rfl
        · simp; omega
        · simp; omega
      have hσk : kσ k = 17 ∨ kσ k = 43 := by rcases hk2 with rfl | rfl <;> decide
      rw [hz 1 k hk2, hz 2 (kσ k) hσk]
      rfl
  have hfs : ∀ c n, n ≤ 42 → kfs (fun i => ad (kσ i), 1) (ksig S) k c n = kfs (ad, 2) S (kσ k) c n := by
    intro c n hn
    unfold kfs
    refine List.map_congr_left (fun j hj => ?_)
    have hj2 := List.mem_range.mp hj
    have hr := hrf j (by omega)
    unfold kval
    cases kTyp c j <;> first | rfl | exact congrArg va_rf hr
  have hN : ∀ q ∈ kSH, q.1 = 0 → q.2.2 ≤ 42 := by decide +kernel
  have hT : ∀ q ∈ kSH, q.1 = 1 → q.2.1 ≤ 3 := by decide +kernel
  cases hc : kSH[k]? with
  | none =>
    rw [hc] at hsh
    unfold kent
    rw [hsh, hc]
  | some q =>
    obtain ⟨a, b, n⟩ := q
    rw [hc] at hsh
    unfold kent
    rw [hsh, hc]
    match a, b, hc with
    | 0, c, hc => exact congrArg (fun w => Sum.inr (c, w)) (hfs c n (hN _ (List.mem_of_getElem? hc) rfl))
    | 1, 0, hc => rfl
    | 1, 1, hc => rfl
    | 1, 2, hc => rfl
    | 1, b + 3, hc =>
      have h3 : b + 3 ≤ 3 := hT _ (List.mem_of_getElem? hc) rfl
      have hb : b = 0 := by omega
      subst hb
      exact congrArg (fun w => Sum.inl (G.2.1.2.2.2, n, Sum.inr (Sum.inr (Sum.inr (Sum.inr w))))) (hq n hc)
    | a + 2, b, hc => rfl
/-- one renumbered world out of the swapped one -/
theorem kws_σ {G : kG} {ad : Nat → Nat} {S : kSt} {H : Heap} {fs : List Value} (hfs : fs = kfs (fun i => ad (kσ i), 1) (ksig S) 0 10 19) (hP : va_P G.1 kCl ((kws G (ad, 2) S).set 0 (ad 0, .inr (10, fs))) H) : va_P G.1 kCl (kws G (fun i => ad (kσ i), 1) (ksig S)) H := by
  intro k q hq
  obtain ⟨hk, rfl⟩ := kws_inv hq
  by_cases h0 : k = 0
  · subst h0
    refine hP 0 (ad (kσ 0), kent G (fun i => ad (kσ i), 1) (ksig S) 0) ?_
    rw [List.getElem?_set_self (by simpa [kws] using hk), kent_obj sh_0, hfs]
    rfl
  · refine hP (kσ k) (ad (kσ k), kent G (fun i => ad (kσ i), 1) (ksig S) k) ?_
    have hne : (0 : Nat) ≠ kσ k := by
      intro h
      apply h0
      rw [← kσ_σ k, ← h]
      rfl
    rw [List.getElem?_set_ne hne, kws_at (kσ_lt hk), kent_σ hk h0]
