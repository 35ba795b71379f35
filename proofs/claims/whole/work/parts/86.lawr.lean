-- the law: rules
def kZL : (Nat → Prop) → Unit → Array Value → State → Outcome → State → Prop := fun _ _ _ _ o _ => o = .returned (some (.int 1))
/-- what the throw of led needs of the world -/
def kNSE : String := "java/util/NoSuchElementException"
def kCh : List String := ["java/lang/RuntimeException", "java/lang/Exception"]
def kBd : List Cond := (vx_at0 kR10 412 kNSE kCh).filter (fun w => !goodWord w)
def XZ (A : Nat → Prop) (s : State) : Prop := vx_Zq Bundle.tN "UNASSIGNED_STACK" Bundle.steD A s s.heap ∧ vx_Zq Bundle.tN "SUPPRESSED_SENTINEL" Bundle.listD A s s.heap ∧ ∀ w ∈ kBd, w.before #[] s = true
def XL : (Nat → Prop) → Array Value → State → Code → Prop := fun A _ s _ => XZ A s
def QL : List Frame → (Nat → Prop) → Unit → Array Value → State → State → Prop := fun below A q args s => MQ below (kZL A q) args s 601024 7293034 A
abbrev LOk (l : Launch) (G : kG) (E : kE) (n : Nat × Nat) (pc : Nat) (lv : List (Nat × Value)) (st : List Value) (S : kSt) : Prop := kOw l G E XL QL mL_law (room_1, n.1, n.2, 601024, 7293034) (some ()) pc lv st S
def LV (i : Nat) : List (Nat × Value) := [(0, .ref 3000), (1, .ref 0), (2, .ref 14), (3, .ref 89), (4, .int (nI i))]
section LAWR
variable {l : Launch} {G : kG} {E : kE} {n : Nat × Nat} {pc p1 p2 p3 p4 p5 : Nat} {lv : List (Nat × Value)} {st : List Value} {S : kSt}
theorem lk_arg {i : Nat} {k : Int} {j : Nat} (h0 : kD mL_law pc (.aload_n 0) 1 p1) (h1 : kD mL_law p1 (.iload 4) 2 p2) (h2 : kD mL_law p2 (.iconst k) 1 p3) (h3 : kD mL_law p3 .iadd 1 p4) (h4 : kD mL_law p4 .iaload 1 p5) (hk : Int32.ofInt k = nI j) (hi : i + j < G.2.2.2.2.2.2.1) (hL : G.2.2.2.2.2.2.1 ≤ 3072) (kk : LOk l G E n p5 (LV i) (.int (G.2.2.2.2.2.2.2 (i + j)) :: st) S) : LOk l G E n pc (LV i) st S := by
  refine ow_aload_n 0 h0 rfl rfl ?_
  refine ow_iload 4 h1 rfl ?_
  refine ow_iconst h2 hk ?_
  refine ow_iadd h3 ?_
  rw [nI_add]
  have e : (some () : Option Unit) = kgi (nI (i + j)) G.2.2.2.2.2.2.1 (some ()) := (kgi_nI hi (by omega)).symm
  show kOw l G E XL QL mL_law (room_1, n.1, n.2, 601024, 7293034) (some ()) p4 (LV i) (.int (nI (i + j)) :: .ref 3000 :: st) S
  rw [e]
  refine ow_sld h4 ?_
  rw [nI_clamp (by omega)]
  exact kk
theorem lk_bool {x : Int32} (h0 : kD mL_law pc (.ifCond .eq 7) 3 p1) (h1 : kD mL_law p1 (.iconst 1) 1 p2) (h2 : kD mL_law p2 (.goto 4) 3 p3) (h3 : kD mL_law p3 (.iconst 0) 1 p4) (e1 : p4 = pc + 8) (e2 : p3 = pc + 7) (e3 : p2 = pc + 4) (kk : LOk l G E n p4 lv (.int (kb (decide (x ≠ 0))) :: st) S) : LOk l G E n pc lv (.int x :: st) S := by
  have h := ow_if_eq (x := x) (o1 := some ()) (o2 := some ()) (XX := XL) (QQ := QL) (d := (room_1, n.1, n.2, 601024, 7293034)) (l := l) (G := G) (E := E) (lv := lv) (st := st) (S := S) (tgt := p3) h0 (by omega) (fun q => by
    refine ow_iconst (v := 0) h3 (by decide) ?_
    rw [decide_eq_false (fun r => r q)] at kk
    exact kk) (fun q => by
    refine ow_iconst (v := 1) h1 (by decide) ?_
    refine ow_goto (tgt := p4) h2 (by omega) ?_
    rw [decide_eq_true q] at kk
    exact kk)
  rw [ite_self] at h
  exact h
theorem lk_eq {x y : Int32} {off : Int} {tgt : Nat} (h0 : kD mL_law pc (.if_icmp .eq off) 3 p1) (ht : (pc : Int) + off = (tgt : Int)) (hxy : x = y) (kk : LOk l G E n tgt lv st S) : LOk l G E n pc lv (.int y :: .int x :: st) S := by
  have h := ow_icmp_eq (x := x) (y := y) (o1 := some ()) (o2 := some ()) (XX := XL) (QQ := QL) (d := (room_1, n.1, n.2, 601024, 7293034)) (l := l) (G := G) (E := E) (lv := lv) (st := st) (S := S) h0 ht (fun _ => kk) (fun q => absurd hxy q)
  rw [ite_self] at h
  exact h
theorem lk_leq {x y : Int64} {off : Int} {tgt : Nat} (h0 : kD mL_law pc .lcmp 1 p1) (h1 : kD mL_law p1 (.ifCond .eq off) 3 p2) (ht : (p1 : Int) + off = (tgt : Int)) (hxy : x = y) (kk : LOk l G E n tgt lv st S) : LOk l G E n pc lv (.long y :: .long x :: st) S := by
  refine ow_lcmp h0 ?_
  have h := ow_if_eq (x := lg_cmp x y) (o1 := some ()) (o2 := some ()) (XX := XL) (QQ := QL) (d := (room_1, n.1, n.2, 601024, 7293034)) (l := l) (G := G) (E := E) (lv := lv) (st := st) (S := S) h1 ht (fun _ => kk) (fun q => absurd (by rw [hxy]; unfold lg_cmp; simp) q)
  rw [ite_self] at h
  exact h
theorem lk_fit {d' : Nat} (hd : d' ≤ 1000) (h1 : n.1 ≤ 601024) (h2 : n.2 ≤ 7293034) : kfit d' (room_1, n.1, n.2, 601024, 7293034) := by
  refine ⟨?_, ?_, h1, h2⟩
  · show d' + 1 ≤ 2048
    omega
  · show 60 * d' + 60 ≤ 84000
    omega
theorem lk_cI {M' : kM} {d' idx na k c nf : Nat} {as stk : List Value} {o1 : Option (Int32 × kSt)} {r : Int32} {S1 : kSt} (hd : kD mL_law pc (.invokevirtual idx) 3 p1) (hc : kCv mL_law.1.cls idx M' na) (hs : kSH[k]? = some (0, c, nf)) (hcl : (kCl[c]?).map (fun q => q.1) = some M'.1.cls) (hn : as.length = na) (hm : M'.2.2.1 ≤ 30) (hF : kFn l G E E kjI M' d' (.ref k :: as) S o1) (ho : o1 = some (r, S1)) (hd' : d' ≤ 1000) (hst : as.reverse ++ .ref k :: st = stk) (hrest : (st.map fun v => v.category).sum ≤ 8) (h1 : n.1 ≤ 601024) (h2 : n.2 ≤ 7293034) (kk : LOk l G E n p1 lv (.int r :: st) S1) : LOk l G E n pc lv stk S := by
  have h := ow_callVI (o2 := fun _ => some ()) (XX := XL) (QQ := QL) (d := (room_1, n.1, n.2, 601024, 7293034)) (lv := lv) hd hc hs hcl hn hm hF (lk_fit hd' h1 h2) hst hrest (fun a ha => by
    rw [ho] at ha
    cases ha
    exact kk)
  rw [ho] at h
  exact h
theorem lk_cB {M' : kM} {d' idx na k c nf : Nat} {as stk : List Value} {o1 : Option (Bool × kSt)} {r : Bool} {S1 : kSt} (hd : kD mL_law pc (.invokevirtual idx) 3 p1) (hc : kCv mL_law.1.cls idx M' na) (hs : kSH[k]? = some (0, c, nf)) (hcl : (kCl[c]?).map (fun q => q.1) = some M'.1.cls) (hn : as.length = na) (hm : M'.2.2.1 ≤ 30) (hF : kFn l G E E kjB M' d' (.ref k :: as) S o1) (ho : o1 = some (r, S1)) (hd' : d' ≤ 1000) (hst : as.reverse ++ .ref k :: st = stk) (hrest : (st.map fun v => v.category).sum ≤ 8) (h1 : n.1 ≤ 601024) (h2 : n.2 ≤ 7293034) (kk : LOk l G E n p1 lv (.int (kb r) :: st) S1) : LOk l G E n pc lv stk S := by
  have h := ow_callVB (o2 := fun _ => some ()) (XX := XL) (QQ := QL) (d := (room_1, n.1, n.2, 601024, 7293034)) (lv := lv) hd hc hs hcl hn hm hF (lk_fit hd' h1 h2) hst hrest (fun a ha => by
    rw [ho] at ha
    cases ha
    exact kk)
  rw [ho] at h
  exact h
theorem lk_cL {M' : kM} {d' idx na k c nf : Nat} {as stk : List Value} {o1 : Option (Int64 × kSt)} {r : Int64} {S1 : kSt} (hd : kD mL_law pc (.invokevirtual idx) 3 p1) (hc : kCv mL_law.1.cls idx M' na) (hs : kSH[k]? = some (0, c, nf)) (hcl : (kCl[c]?).map (fun q => q.1) = some M'.1.cls) (hn : as.length = na) (hm : M'.2.2.1 ≤ 30) (hF : kFn l G E E kjL M' d' (.ref k :: as) S o1) (ho : o1 = some (r, S1)) (hd' : d' ≤ 1000) (hst : as.reverse ++ .ref k :: st = stk) (hrest : (st.map fun v => v.category).sum ≤ 8) (h1 : n.1 ≤ 601024) (h2 : n.2 ≤ 7293034) (kk : LOk l G E n p1 lv (.long r :: st) S1) : LOk l G E n pc lv stk S := by
  have h := ow_callVL (o2 := fun _ => some ()) (XX := XL) (QQ := QL) (d := (room_1, n.1, n.2, 601024, 7293034)) (lv := lv) hd hc hs hcl hn hm hF (lk_fit hd' h1 h2) hst hrest (fun a ha => by
    rw [ho] at ha
    cases ha
    exact kk)
  rw [ho] at h
  exact h
/-- pier: the told one and the draft may have changed over -/
theorem lk_pier {ad : Nat → Nat} {z idx : Nat} {a : Int32} {r : Int32} {S1 : kSt} (hd : kD mL_law pc (.invokevirtual idx) 3 p1) (hc : kCv mL_law.1.cls idx m10_pier 1) (ho : f_m10_pier a S = some (r, S1)) (hrest : (st.map fun v => v.category).sum ≤ 8) (hst0 : st = []) (hlv : ∀ q ∈ lv, ∀ k, q.2 = .ref k → kσ k = k) (h1 : n.1 ≤ 601024) (h2 : n.2 ≤ 7293034) (kk : ∀ ad' z', LOk l G (ad', z') n p1 lv [.int r] S1) : LOk l G (ad, z) n pc lv [.int a, .ref 0] S := by
  intro p e s m args below meth c0 A H locs ls q hX C hP hS hl ho'
  obtain ⟨hdc, rfl⟩ := hd
  have hF := ok_m10_pier (l := l) (G := G) (ad := ad) (z := z) a S (r, S1) ho H.size
  obtain ⟨w1, w2, w3, w4, w5, w6⟩ := hc
  have hlt := kSH_lt sh_0
  have hpre := kPre C hP hS [.ref 0, .int a]
  have hrv := va_recv (q0 := 0) (ci := 10) (fs := kfs (ad, z) S 0 10 19) C.2.1 hP (show kCl[10]? = some _ from rfl) (by rw [kws_at hlt, kent_obj sh_0])
  have cw := cwV (R := room_1) (rm := krm 11) (mc := 0) (ms := 0) (own := mL_law.1.cls) (index := idx) (C := m10_pier.1.cls) (y := m10_pier.1) (bytes := m10_pier.2.1) (maxL := m10_pier.2.2.1) (ret := m10_pier.2.2.2) (ws := kWs m10_pier) (ws' := kT) 1 C.1.2.2.2.2.2.2 (fun w hw => by
      rcases List.mem_append.mp hw with hw | hw
      · simp only [List.mem_cons, List.not_mem_nil, or_false] at hw
        rcases hw with rfl | rfl | rfl | rfl
        · exact ⟨w1, kT_good w1⟩
        · exact ⟨w2, kT_good w2⟩
        · exact ⟨w3, kT_good w3⟩
        · exact ⟨w4, kT_good w4⟩
      · exact kGood w5 w hw) rfl rfl rfl ⟨rfl, w6.1, w6.2.1, w6.2.2⟩ (krm_ok (d := (room_1, n.1, n.2, 601024, 7293034)) (lk_fit (by omega) h1 h2) (by decide))
  have hrun := va_runV (e := e) (below := below) (meth := meth) (b := ad 0) (As := [Value.int a]) (rest := []) (cells := n.1) (slots := n.2) (locs := locs) (g := F0 m pc ls [.int a, .ref (ad 0)]) (nL := mL_law.2.2.1) (C := m10_pier.1.cls) ⟨C.1.1, C.1.2.1, C.1.2.2.1, C.1.2.2.2.2.2.1, C.1.2.2.2.2.2.2⟩ hF cw ⟨hpre.1, hrv, hpre.2⟩ rfl rfl hl.1 rfl (lv_room (by decide)) hdc ⟨h1, h2⟩
  intro T hT X
  obtain ⟨v, st₀, t, T', L, h0, X', hL, e1, e2, hq, hst⟩ := hrun T hT X
  rcases hq with ⟨z', ⟨⟨x, u, hv, hx, hB⟩, hfz⟩⟩ | ⟨z', ⟨⟨x, u, hv, hx, hB⟩, hfz⟩⟩
  · have hv' : v = some (.int x) := by cases hv; rfl
    cases hx
    subst hv'
    have hS1 : va_S A s.heap T'.heap (locs ++ L) := by
      refine ⟨Nat.le_trans hS.1 (by rw [e1, ← h0]; exact hfz.1), fun q9 hq1 hq2 => ?_, fun l9 hl9 => ?_⟩
      · have hlt9 : q9 < H.size := Nat.lt_of_lt_of_le hq1 hS.1
        have hn : ¬ kA (ad, z) H.size q9 := fun h => hq2 (kAA C hS q9 h)
        rw [e1, hfz.2 q9 (by rw [h0]; exact hlt9) hn, h0]
        exact hS.2.1 q9 hq1 hq2
      · rcases List.mem_append.mp hl9 with h | h
        · exact hS.2.2 l9 h
        · exact kAA C hS _ (hL l9 h)
    obtain ⟨t2, b1, b2⟩ := kk ad z' p e s m args below meth c0 A T'.heap (locs ++ L) ls q hX C (by rw [e1]; exact hB) hS1 hl ho' T' rfl X'
    exact ⟨t2, hst _ b1, b2⟩
  · have hv' : v = some (.int x) := by cases hv; rfl
    cases hx
    subst hv'
    have hS1 : va_S A s.heap T'.heap (locs ++ L) := by
      refine ⟨Nat.le_trans hS.1 (by rw [e1, ← h0]; exact hfz.1), fun q9 hq1 hq2 => ?_, fun l9 hl9 => ?_⟩
      · have hlt9 : q9 < H.size := Nat.lt_of_lt_of_le hq1 hS.1
        have hn : ¬ kA (ad, z) H.size q9 := fun h => hq2 (kAA C hS q9 h)
        rw [e1, hfz.2 q9 (by rw [h0]; exact hlt9) hn, h0]
        exact hS.2.1 q9 hq1 hq2
      · rcases List.mem_append.mp hl9 with h | h
        · exact hS.2.2 l9 h
        · exact kAA C hS _ (hL l9 h)
    have hl2 : lv_has ls mL_law.2.2.1 (lv.map (fun x => (x.1, kcv (fun i => ad (kσ i)) x.2))) := by
      have e9 : lv.map (fun x => (x.1, kcv (fun i => ad (kσ i)) x.2)) = lv.map (fun x => (x.1, kcv ad x.2)) := List.map_congr_left (fun x hx => by
        obtain ⟨a9, v9⟩ := x
        cases v9 with
        | ref k => exact congrArg (fun y => (a9, Value.ref (ad y))) (hlv _ hx k rfl)
        | _ => rfl)
      rw [e9]
      exact hl
    obtain ⟨t2, b1, b2⟩ := kk (fun i => ad (kσ i)) z' p e s m args below meth c0 A T'.heap (locs ++ L) ls q hX (kCx_σ C) (by rw [e1]; exact hB) hS1 hl2 ho' T' rfl X'
    exact ⟨t2, hst _ b1, b2⟩
theorem lk_ret (hd : kD mL_law pc .ireturn 1 p1) (h1 : n.1 ≤ 601024) (h2 : n.2 ≤ 7293034) : LOk l G E n pc lv [.int 1] S := by
  intro p e s m args below meth c A H locs ls q hX C hP hS hl ho
  obtain ⟨hdc, rfl⟩ := hd
  refine W.widen (k := 601024) (n := 7293034) h1 h2 ?_
  exact W.zret (ty := .boolean) C.1.1 C.1.2.1 C.1.2.2.2.1 (by decide +kernel) (fun t ht _ => rfl) hS.2.2 hdc C.1.2.2.2.2.1
end LAWR
