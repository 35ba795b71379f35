-- the start: what the Statement gives
theorem lwi1 {w : Cond} (i : Nat) (h : tables_1_1[i]? = some w) : w ∈ lw_tbl := List.mem_append_right _ ((fun h => List.mem_append_left _ h) (List.mem_of_getElem? h))
theorem lwi2 {w : Cond} (i : Nat) (h : tables_1_2[i]? = some w) : w ∈ lw_tbl := List.mem_append_right _ ((fun h => List.mem_append_right _ (List.mem_append_left _ h)) (List.mem_of_getElem? h))
theorem lwi3 {w : Cond} (i : Nat) (h : tables_1_3[i]? = some w) : w ∈ lw_tbl := List.mem_append_right _ ((fun h => List.mem_append_right _ (List.mem_append_right _ (List.mem_append_left _ h))) (List.mem_of_getElem? h))
theorem lwi4 {w : Cond} (i : Nat) (h : tables_1_4[i]? = some w) : w ∈ lw_tbl := List.mem_append_right _ ((fun h => List.mem_append_right _ (List.mem_append_right _ (List.mem_append_right _ (List.mem_append_left _ h)))) (List.mem_of_getElem? h))
theorem lwi5 {w : Cond} (i : Nat) (h : tables_1_5[i]? = some w) : w ∈ lw_tbl := List.mem_append_right _ ((fun h => List.mem_append_right _ (List.mem_append_right _ (List.mem_append_right _ (List.mem_append_right _ (List.mem_append_left _ h))))) (List.mem_of_getElem? h))
theorem lwi6 {w : Cond} (i : Nat) (h : tables_1_6[i]? = some w) : w ∈ lw_tbl := List.mem_append_right _ ((fun h => List.mem_append_right _ (List.mem_append_right _ (List.mem_append_right _ (List.mem_append_right _ (List.mem_append_right _ (List.mem_append_left _ h)))))) (List.mem_of_getElem? h))
theorem lwi7 {w : Cond} (i : Nat) (h : tables_1_7[i]? = some w) : w ∈ lw_tbl := List.mem_append_right _ ((fun h => List.mem_append_right _ (List.mem_append_right _ (List.mem_append_right _ (List.mem_append_right _ (List.mem_append_right _ (List.mem_append_right _ (List.mem_append_left _ h))))))) (List.mem_of_getElem? h))
theorem lwi8 {w : Cond} (i : Nat) (h : tables_1_8[i]? = some w) : w ∈ lw_tbl := List.mem_append_right _ ((fun h => List.mem_append_right _ (List.mem_append_right _ (List.mem_append_right _ (List.mem_append_right _ (List.mem_append_right _ (List.mem_append_right _ (List.mem_append_right _ (h)))))))) (List.mem_of_getElem? h))
def kFlt : List Cond := flatC (Jvm.Cond.and given_1 narrow_1)
def kTm (i : Nat) : Term := .string kR7 (([98, 103, 105, 107, 109, 111, 133, 143, 113, 117, 119, 121, 168, 173, 184, 210] : List Nat).getD i 0)
def kSd : List Nat := [23, 31, 39, 51, 59, 69, 78, 87, 95, 107, 118, 128, 140, 150, 158, 167]
def kSl (i : Nat) : List Cond := [.exactly (kTm i) "java/lang/String", .eq (.field (kTm i) "java/lang/String" "code\x72" "B") (.int 0), .arrayOf (.field (kTm i) "java/lang/String" "value" "[B") .byte, .eq (.length (.field (kTm i) "java/lang/String" "value" "[B")) (.int (Int32.ofNat (kLen.getD i 0)))] ++ (List.range (kLen.getD i 0)).map (fun j => .eq (.elem (.field (kTm i) "java/lang/String" "value" "[B") (.int (Int32.ofNat j))) (.int ((kByt.getD i []).getD j 0)))
theorem kSl_is : ∀ i : Fin 16, (kFlt.drop (kSd.getD i.1 0)).take (4 + kLen.getD i.1 0) = kSl i.1 := by decide +kernel
theorem kSl_in {i : Nat} (hi : i < 16) {c : Cond} (hc : c ∈ kSl i) : c ∈ kFlt := by
  have h := kSl_is ⟨i, hi⟩
  rw [← h] at hc
  exact List.mem_of_mem_drop (List.mem_of_mem_take hc)
theorem kLen_ok : ∀ i : Fin 16, 2 ≤ kLen.getD i.1 0 ∧ kLen.getD i.1 0 ≤ 8 := by decide +kernel
theorem kByt_ne : ∀ i j : Fin 16, (kByt.getD i.1 []).getD 0 0 = (kByt.getD j.1 []).getD 0 0 → (kByt.getD i.1 []).getD 1 0 = (kByt.getD j.1 []).getD 1 0 → i = j := by decide +kernel
/-- two texts at one place have the same first letters -/
theorem kS_apart {s : State} {A : Nat → Prop} {H : Heap} {a1 a2 v1 v2 n1 n2 : Nat} {f1 f2 : Nat → Int32} (h1 : va_OF "java/lang/String" "value" "[B" (.ref v1) a1 A s H) (h2 : va_OF "java/lang/String" "value" "[B" (.ref v2) a2 A s H) (t1 : va_T .byte v1 n1 (fun j => .int (f1 j)) A s H) (t2 : va_T .byte v2 n2 (fun j => .int (f2 j)) A s H) (e : a1 = a2) {j : Nat} (j1 : j < n1) (j2 : j < n2) : f1 j = f2 j := by
  subst e
  obtain ⟨cf, k, i, f, cell, g1, -, g3, -, g5, -⟩ := h1
  obtain ⟨cf', k', i', f', cell', g1', -, g3', -, g5', -⟩ := h2
  have e1 := Option.some.inj (g1.symm.trans g1')
  have e2 := Option.some.inj (g3.symm.trans g3')
  have ef : f = f' := congrArg (fun q => q.2.2.2) e1
  subst ef
  subst e2
  have e3 := Option.some.inj (g5.symm.trans g5')
  have ev : v1 = v2 := Value.ref.inj e3
  subst ev
  obtain ⟨c1, q1, -, -, -, -, q6, -⟩ := t1
  obtain ⟨c2, r1, -, -, -, -, r6, -⟩ := t2
  have ec := Option.some.inj (q1.symm.trans r1)
  subst ec
  exact Value.int.inj (Option.some.inj ((q6 j j1).symm.trans (r6 j j2)))
theorem kS_of {args : Array Value} {s : State} {A : Nat → Prop} (hs : ∀ c ∈ kFlt, c.before args s = true) (hA : ∀ a : Nat, a < s.heap.size → ¬ A a) : ∃ adK adV : Nat → Nat, vk_S 16 kLen kByt adK adV A s s.heap ∧ ∀ i : Nat, i < 16 → (kTm i).eval args s none [] s = some (.ref (adK i)) := by
  have hin : ∀ i : Nat, i < 16 → ∀ c ∈ kSl i, c.before args s = true := fun i hi c hc => hs c (kSl_in hi hc)
  have hex : ∀ i : Nat, i < 16 → (Cond.exactly (kTm i) "java/lang/String").before args s = true := fun i hi => hin i hi _ (List.mem_append_left _ (List.mem_of_getElem? (i := 0) rfl))
  have hco : ∀ i : Nat, i < 16 → (Cond.eq (.field (kTm i) "java/lang/String" "code\x72" "B") (.int 0)).before args s = true := fun i hi => hin i hi _ (List.mem_append_left _ (List.mem_of_getElem? (i := 1) rfl))
  have har : ∀ i : Nat, i < 16 → (Cond.arrayOf (.field (kTm i) "java/lang/String" "value" "[B") .byte).before args s = true := fun i hi => hin i hi _ (List.mem_append_left _ (List.mem_of_getElem? (i := 2) rfl))
  have hle : ∀ i : Nat, i < 16 → (Cond.eq (.length (.field (kTm i) "java/lang/String" "value" "[B")) (.int (Int32.ofNat (kLen.getD i 0)))).before args s = true := fun i hi => hin i hi _ (List.mem_append_left _ (List.mem_of_getElem? (i := 3) rfl))
  have hel : ∀ i : Nat, i < 16 → ∀ j : Nat, j < kLen.getD i 0 → (Cond.eq (.elem (.field (kTm i) "java/lang/String" "value" "[B") (.int (Int32.ofNat j))) (.int ((kByt.getD i []).getD j 0))).before args s = true := fun i hi j hj => hin i hi _ (List.mem_append_right _ (List.mem_map.mpr ⟨j, List.mem_range.mpr hj, rfl⟩))
  have h0 : ∀ i : Nat, ∃ q : Nat × Nat, i < 16 → (kTm i).eval args s none [] s = some (.ref q.1) ∧ va_O "java/lang/String" q.1 A s s.heap ∧ va_OF "java/lang/String" "code\x72" "B" (.int 0) q.1 A s s.heap ∧ va_OF "java/lang/String" "value" "[B" (.ref q.2) q.1 A s s.heap ∧ va_T .byte q.2 (kLen.getD i 0) (fun j => .int ((kByt.getD i []).getD j 0)) A s s.heap := by
    intro i
    by_cases hi : i < 16
    · obtain ⟨a, c, cA, kA, q1, q2, q3, q4, q5, q6, -⟩ := Cond.exactly_spec (args := args) (first := s) (o := none) (s := s) (idx := []) (t := kTm i) (cls := "java/lang/String") (hex i hi)
      obtain ⟨t, ht, hT⟩ := va_Tof (f := fun j => .int ((kByt.getD i []).getD j 0)) (A := A) (Nat.lt_of_le_of_lt (kLen_ok ⟨i, hi⟩).2 (by decide)) (har i hi) (va_eqt (hle i hi)) (fun j hj => va_eqt (hel i hi j hj)) hA
      exact ⟨(a, t), fun _ => ⟨q1, ⟨cA, q3, q5, by rw [q6]; exact q2, hA a (Array.getElem?_eq_some_iff.mp q3).1⟩, vk_OFof q1 (va_eqt (hco i hi)) hA, vk_OFof q1 ht hA, hT⟩⟩
    · exact ⟨(0, 0), fun h => absurd h hi⟩
  obtain ⟨ad, had⟩ := Classical.axiomOfChoice h0
  refine ⟨fun i => (ad i).1, fun i => (ad i).2, ⟨fun i hi => (had i hi).2, fun i j hi hj e => ?_⟩, fun i hi => (had i hi).1⟩
  have l1 := (kLen_ok ⟨i, hi⟩).1
  have l2 := (kLen_ok ⟨j, hj⟩).1
  have k0 := kS_apart (j := 0) (had i hi).2.2.2.1 (had j hj).2.2.2.1 (had i hi).2.2.2.2 (had j hj).2.2.2.2 e (Nat.lt_of_lt_of_le (by decide) l1) (Nat.lt_of_lt_of_le (by decide) l2)
  have k1 := kS_apart (j := 1) (had i hi).2.2.2.1 (had j hj).2.2.2.1 (had i hi).2.2.2.2 (had j hj).2.2.2.2 e (Nat.lt_of_lt_of_le (by decide) l1) (Nat.lt_of_lt_of_le (by decide) l2)
  exact congrArg Fin.val (kByt_ne ⟨i, hi⟩ ⟨j, hj⟩ k0 k1)
theorem kSi_n : kSi.length = 32 := by decide +kernel
theorem kR_of {b : Nat} {s : State} {adK : Nat → Nat} (hts : ∀ w ∈ lw_tbl, w.before #[Value.ref b] s = true) (hs : ∀ c ∈ kFlt, c.before #[Value.ref b] s = true) (hev : ∀ i : Nat, i < 16 → (kTm i).eval #[Value.ref b] s none [] s = some (.ref (adK i))) : ∀ z ∈ kSi, vk_R z.1 z.2.1 (kTx.getD z.2.2 "") (adK z.2.2) s := by
  intro z hz
  obtain ⟨n, hn⟩ := List.getElem?_of_mem hz
  match n, hn with
  | 0, hn => cases hn; exact vk_R.of (hts _ (lwi3 1 (by decide +kernel))) (hev 0 (by decide))
  | 1, hn => cases hn; exact vk_R.of (hts _ (lwi3 58 (by decide +kernel))) (hev 1 (by decide))
  | 2, hn => cases hn; exact vk_R.of (hts _ (lwi3 59 (by decide +kernel))) (hev 2 (by decide))
  | 3, hn => cases hn; exact vk_R.of (hts _ (lwi3 60 (by decide +kernel))) (hev 3 (by decide))
  | 4, hn => cases hn; exact vk_R.of (hts _ (lwi3 61 (by decide +kernel))) (hev 4 (by decide))
  | 5, hn => cases hn; exact vk_R.of (hts _ (lwi3 62 (by decide +kernel))) (hev 5 (by decide))
  | 6, hn => cases hn; exact vk_R.of (hts _ (lwi3 67 (by decide +kernel))) (hev 6 (by decide))
  | 7, hn => cases hn; exact vk_R.of (hts _ (lwi3 76 (by decide +kernel))) (hev 7 (by decide))
  | 8, hn => cases hn; exact vk_R.of (hts _ (lwi3 97 (by decide +kernel))) (hev 8 (by decide))
  | 9, hn => cases hn; exact vk_R.of (hts _ (lwi3 98 (by decide +kernel))) (hev 9 (by decide))
  | 10, hn => cases hn; exact vk_R.of (hts _ (lwi3 99 (by decide +kernel))) (hev 10 (by decide))
  | 11, hn => cases hn; exact vk_R.of (hts _ (lwi3 100 (by decide +kernel))) (hev 11 (by decide))
  | 12, hn => cases hn; exact vk_R.of (hts _ (lwi3 101 (by decide +kernel))) (hev 12 (by decide))
  | 13, hn => cases hn; exact vk_R.of (hts _ (lwi3 102 (by decide +kernel))) (hev 13 (by decide))
  | 14, hn => cases hn; exact vk_R.of (hts _ (lwi3 111 (by decide +kernel))) (hev 14 (by decide))
  | 15, hn => cases hn; exact vk_R.of (hts _ (lwi3 128 (by decide +kernel))) (hev 15 (by decide))
  | 16, hn => cases hn; exact vk_R.of (hts _ (lwi6 160 (by decide +kernel))) (va_eqR (hs _ (List.mem_of_getElem? (i := 185) (by decide +kernel))) (hev 0 (by decide)))
  | 17, hn => cases hn; exact vk_R.of (hts _ (lwi6 175 (by decide +kernel))) (va_eqR (hs _ (List.mem_of_getElem? (i := 195) (by decide +kernel))) (hev 6 (by decide)))
  | 18, hn => cases hn; exact vk_R.of (hts _ (lwi6 200 (by decide +kernel))) (va_eqR (hs _ (List.mem_of_getElem? (i := 204) (by decide +kernel))) (hev 7 (by decide)))
  | 19, hn => cases hn; exact vk_R.of (hts _ (lwi6 201 (by decide +kernel))) (va_eqR (hs _ (List.mem_of_getElem? (i := 213) (by decide +kernel))) (hev 1 (by decide)))
  | 20, hn => cases hn; exact vk_R.of (hts _ (lwi6 218 (by decide +kernel))) (va_eqR (hs _ (List.mem_of_getElem? (i := 226) (by decide +kernel))) (hev 2 (by decide)))
  | 21, hn => cases hn; exact vk_R.of (hts _ (lwi6 219 (by decide +kernel))) (va_eqR (hs _ (List.mem_of_getElem? (i := 235) (by decide +kernel))) (hev 3 (by decide)))
  | 22, hn => cases hn; exact vk_R.of (hts _ (lwi6 220 (by decide +kernel))) (va_eqR (hs _ (List.mem_of_getElem? (i := 246) (by decide +kernel))) (hev 4 (by decide)))
  | 23, hn => cases hn; exact vk_R.of (hts _ (lwi6 221 (by decide +kernel))) (va_eqR (hs _ (List.mem_of_getElem? (i := 256) (by decide +kernel))) (hev 5 (by decide)))
  | 24, hn => cases hn; exact vk_R.of (hts _ (lwi6 226 (by decide +kernel))) (va_eqR (hs _ (List.mem_of_getElem? (i := 269) (by decide +kernel))) (hev 8 (by decide)))
  | 25, hn => cases hn; exact vk_R.of (hts _ (lwi6 227 (by decide +kernel))) (va_eqR (hs _ (List.mem_of_getElem? (i := 281) (by decide +kernel))) (hev 9 (by decide)))
  | 26, hn => cases hn; exact vk_R.of (hts _ (lwi6 228 (by decide +kernel))) (va_eqR (hs _ (List.mem_of_getElem? (i := 292) (by decide +kernel))) (hev 10 (by decide)))
  | 27, hn => cases hn; exact vk_R.of (hts _ (lwi6 229 (by decide +kernel))) (va_eqR (hs _ (List.mem_of_getElem? (i := 305) (by decide +kernel))) (hev 11 (by decide)))
  | 28, hn => cases hn; exact vk_R.of (hts _ (lwi6 230 (by decide +kernel))) (va_eqR (hs _ (List.mem_of_getElem? (i := 316) (by decide +kernel))) (hev 12 (by decide)))
  | 29, hn => cases hn; exact vk_R.of (hts _ (lwi6 231 (by decide +kernel))) (va_eqR (hs _ (List.mem_of_getElem? (i := 325) (by decide +kernel))) (hev 13 (by decide)))
  | 30, hn => cases hn; exact vk_R.of (hts _ (lwi7 0 (by decide +kernel))) (va_eqR (hs _ (List.mem_of_getElem? (i := 335) (by decide +kernel))) (hev 14 (by decide)))
  | 31, hn => cases hn; exact vk_R.of (hts _ (lwi7 13 (by decide +kernel))) (va_eqR (hs _ (List.mem_of_getElem? (i := 346) (by decide +kernel))) (hev 15 (by decide)))
  | n + 32, hn =>
    have h9 := (List.getElem?_eq_some_iff.mp hn).1
    rw [kSi_n] at h9
    exact absurd h9 (by omega)
theorem kIns {c : Nat} {q : vw_C} (h : kCl[c]? = some q) : ∃ n, Cond.instantiable q.1 n ∈ kT := by
  match c, h with
  | 0, h => cases h; exact ⟨7, kin2 66 (by decide +kernel) rfl⟩
  | 1, h => cases h; exact ⟨5, kin2 40 (by decide +kernel) rfl⟩
  | 2, h => cases h; exact ⟨3, kin2 97 (by decide +kernel) rfl⟩
  | 3, h => cases h; exact ⟨3, kin1 206 (by decide +kernel) rfl⟩
  | 4, h => cases h; exact ⟨4, kin1 179 (by decide +kernel) rfl⟩
  | 5, h => cases h; exact ⟨17, kin1 33 (by decide +kernel) rfl⟩
  | 6, h => cases h; exact ⟨2, kin2 116 (by decide +kernel) rfl⟩
  | 7, h => cases h; exact ⟨11, kin1 137 (by decide +kernel) rfl⟩
  | 8, h => cases h; exact ⟨4, kin2 19 (by decide +kernel) rfl⟩
  | 9, h => cases h; exact ⟨6, kin1 226 (by decide +kernel) rfl⟩
  | 10, h => cases h; exact ⟨19, kin1 25 (by decide +kernel) rfl⟩
  | 11, h => cases h; exact ⟨42, kin5 227 (by decide +kernel) rfl⟩
  | c + 12, h => simp [kCl] at h
theorem kK_of {args : Array Value} {s : State} (hts : ∀ w ∈ kT, w.before args s = true) : ∃ D : va_G, ∀ (c : Nat) (q : vw_C), kCl[c]? = some q → u_Kn s q.1 q.2.1 q.2.2 (D.1 c) (D.2 c) := by
  have h0 : ∀ c : Nat, ∃ d : ClassId × (Nat → Nat), ∀ q : vw_C, kCl[c]? = some q → u_Kn s q.1 q.2.1 q.2.2 d.1 d.2 := by
    intro c
    cases hq : kCl[c]? with
    | none => exact ⟨(0, fun _ => 0), fun q h => nomatch h⟩
    | some q =>
      obtain ⟨C, T, N⟩ := q
      obtain ⟨n, hn⟩ := kIns hq
      obtain ⟨cC, iS, h⟩ := u_known (C := C) (T := T) (N := N) (n := n) hts (kob hq).1 (hts _ hn)
      exact ⟨(cC, iS), fun q h' => by cases h'; exact h⟩
  obtain ⟨f, hf⟩ := Classical.axiomOfChoice h0
  exact ⟨(fun c => (f c).1, fun c => (f c).2), hf⟩
theorem kA_of {args : Array Value} {s : State} {ty : FieldType} (h : (Cond.arrayClass ty).before args s = true) : ∃ c : ClassId, ArrOfT s c ty ∧ s.vm.findClass ("[" ++ ty.toString) = some c := by
  obtain ⟨c, k, comp, h1, h2, h3⟩ := Cond.arrayClass_spec (args := args) (first := s) (o := none) (s := s) (idx := []) h
  exact ⟨c, fun n z => ⟨fun k h => (by cases h), k, h2, comp, h3⟩, h1⟩
theorem kAA_of {args : Array Value} {s : State} (h : (Cond.arrayOver (.array .int)).before args s = true) : ∃ c : ClassId, ArrOfT s c (.array .int) ∧ s.vm.findClass ("[" ++ (FieldType.array .int).toString) = some c := by
  obtain ⟨comp, c, k, h1, h2, h3, h4, h5⟩ := arrayOverA_spec (args := args) (first := s) (o := none) (s := s) (idx := []) h
  exact ⟨c, fun n z => ⟨fun k h => (by cases h), k, h3, comp, h4⟩, h5⟩
theorem kKt_of {b : Nat} {s : State} (hts : ∀ w ∈ lw_tbl, w.before #[Value.ref b] s = true) : ∃ (D : va_G) (t : ClassId × ClassId × ClassId × ClassId), va_K D kCl (cty t) s := by
  have htk : ∀ w ∈ kT, w.before #[Value.ref b] s = true := fun w hw => hts w (List.mem_filter.mp hw).1
  obtain ⟨D, hD⟩ := kK_of htk
  obtain ⟨c1, a1, f1⟩ := kA_of (htk _ kaw_I)
  obtain ⟨c2, a2, f2⟩ := kA_of (htk _ kaw_B)
  obtain ⟨c3, a3, f3⟩ := kA_of (htk _ kaw_L)
  obtain ⟨c4, a4, f4⟩ := kAA_of (hts _ (lwi1 212 (by decide +kernel)))
  refine ⟨D, (c1, c2, c3, c4), hD, fun k q hk => ?_⟩
  match k, hk with
  | 0, hk => cases hk; exact ⟨a1, f1⟩
  | 1, hk => cases hk; exact ⟨a2, f2⟩
  | 2, hk => cases hk; exact ⟨a3, f3⟩
  | 3, hk => cases hk; exact ⟨a4, f4⟩
  | k + 4, hk => simp [cty] at hk
theorem kNc_of {b : Nat} {s : State} (hts : ∀ w ∈ lw_tbl, w.before #[Value.ref b] s = true) : ∀ w ∈ kNc, va_Nw w s := by
  have key : ∀ w ∈ kNc, w ∈ lw_tbl := by
    intro w hw
    simp only [kNc, List.mem_cons, List.not_mem_nil, or_false] at hw
    rcases hw with rfl | rfl | rfl | rfl | rfl | rfl | rfl | rfl | rfl | rfl
    · exact lwi1 34 (by decide +kernel)
    · exact lwi1 180 (by decide +kernel)
    · exact lwi1 207 (by decide +kernel)
    · exact lwi1 227 (by decide +kernel)
    · exact lwi2 20 (by decide +kernel)
    · exact lwi2 41 (by decide +kernel)
    · exact lwi2 67 (by decide +kernel)
    · exact lwi2 98 (by decide +kernel)
    · exact lwi2 117 (by decide +kernel)
    · exact lwi2 46 (by decide +kernel)
  exact fun w hw => va_tabs (kNc_tab w hw) rfl (hts w (key w hw))
theorem kNl_of {b : Nat} {s : State} (hts : ∀ w ∈ lw_tbl, w.before #[Value.ref b] s = true) : ∀ w ∈ kNl, va_Nw w s := by
  have key : ∀ w ∈ kNl, w ∈ lw_tbl := by
    intro w hw
    simp only [kNl, List.mem_cons, List.not_mem_nil, or_false] at hw
    rcases hw with rfl | rfl
    · exact lwi5 45 (by decide +kernel)
    · exact lwi5 63 (by decide +kernel)
  exact fun w hw => va_tabs (kNl_tab w hw) rfl (hts w (key w hw))
theorem kBd_in : ∀ w ∈ kBd, w ∈ (tables_1_5.drop 155).take 75 := by decide +kernel
theorem XZ_of {b : Nat} {s : State} {A : Nat → Prop} (hts : ∀ w ∈ lw_tbl, w.before #[Value.ref b] s = true) (hs : ∀ c ∈ kFlt, c.before #[Value.ref b] s = true) (hA : ∀ a : Nat, a < s.heap.size → ¬ A a) : XZ A s := by
  refine ⟨vx_Zqof (hts _ (lwi5 192 (by decide +kernel))) (hts _ (lwi1 20 (by decide +kernel))) (hs _ (List.mem_of_getElem? (i := 9) (by decide +kernel))) hA, vx_Zqof (hts _ (lwi5 194 (by decide +kernel))) (hts _ (lwi1 20 (by decide +kernel))) (hs _ (List.mem_of_getElem? (i := 10) (by decide +kernel))) hA, fun w hw => ?_⟩
  obtain ⟨i, hi⟩ := List.getElem?_of_mem (List.mem_of_mem_drop (List.mem_of_mem_take (kBd_in w hw)))
  exact va_tabs (kBd_ok w hw).1 rfl (hts w (lwi5 i hi))
theorem kZ1_of {b : Nat} {s : State} {A : Nat → Prop} (hts : ∀ w ∈ lw_tbl, w.before #[Value.ref b] s = true) (hs : ∀ c ∈ kFlt, c.before #[Value.ref b] s = true) (hA : ∀ a : Nat, a < s.heap.size → ¬ A a) : va_Z "java/lang/String" "COMPACT_STRINGS" "Z" (.int 1) A s s.heap := va_Zof (hts _ (lwi3 15 (by decide +kernel))) (hts _ (lwi1 15 (by decide +kernel))) (va_eqi (hs _ (List.mem_of_getElem? (i := 4) (by decide +kernel)))) hA
theorem kZ2_of {b : Nat} {s : State} {A : Nat → Prop} (hts : ∀ w ∈ lw_tbl, w.before #[Value.ref b] s = true) (hs : ∀ c ∈ kFlt, c.before #[Value.ref b] s = true) (hA : ∀ a : Nat, a < s.heap.size → ¬ A a) : ∃ (fv : Value) (fm : Nat), (fv = .null ∨ fv = .ref 2000) ∧ va_Z "jdk/internal/util/Preconditions" "SIOOBE_FORMATTER" "Ljava/util/function/BiFunction;" (kcv (fun _ => fm) fv) A s s.heap := by
  rcases va_Zqof (A := A) (hts (.laysStatic "jdk/internal/util/Preconditions" "SIOOBE_FORMATTER" "Ljava/util/function/BiFunction;") (lwi3 31 (by decide +kernel))) (hts _ (lwi1 17 (by decide +kernel))) (hs _ (List.mem_of_getElem? (i := 5) (by decide +kernel))) hA with h | ⟨t, h⟩
  · exact ⟨.null, 0, Or.inl rfl, h⟩
  · exact ⟨.ref 2000, t, Or.inr rfl, h⟩
