-- the law's own led: it calls led, it catches
theorem mt_ofWH {l : Launch} {y : MethodName} {ws ws' : List Cond} {rm : Room} {Pc : Array Value → State → Prop} {Qc : Array Value → State → Outcome → State → Prop} {mc ms : Nat} {free : Addr → Prop} {cc : ByteArray} {maxL : Nat} {ret : Option FieldType} {hh : List (Nat × Nat × Nat × Nat)}
    (hy : plainName y.cls = true) (hw : ws = Cond.codeWith y cc maxL ret hh :: ws')
    (body : ∀ p e s m args below meth c s₁, BodyLoose p l y (headSpec ws rm) cc maxL ret e s m args below meth c s₁ → c.maxLocals = maxL → Pc args s →
      W p l e (headSpec ws rm).room s m args below meth c s.heap [] 0 0 (MQ below Qc args s mc ms free) (entryFrame m args maxL)) : Met l y ws rm Pc Qc mc ms free := by
  refine MetFree.of_bodyS (code := cc) (maxLocals := maxL) (ret := ret) hy ?_ ?_
  · intro args s m h hn
    obtain ⟨m9, meth, c, hn9, h1, h2, h3, h4, -, h5, h6, -⟩ := Cond.codeWith_spec (atoms_spec (ws := ws) h _ (by rw [hw]; exact List.mem_cons_self))
    cases hn.symm.trans hn9
    exact ⟨meth, c, h1, h2, h3, h4, h5, h6⟩
  · intro p e s m args below meth c s₁ B hml hP _
    have hh0 : s₁.heap = s.heap := by rw [B.state]; rfl
    obtain ⟨t, a1, o, b1, b2, b3⟩ := body p e s m args below meth c s₁ B hml hP s₁ hh0 (Stand.of_body B)
    exact ⟨t, o, a1, b1, b2, b3⟩
def yL_led : MethodName := ⟨"FigureKneeLaw", "led", "(LFigureKnee;I[J)I"⟩
def mL_led : kM := (yL_led, method_3_code, 4, some .int)
def kHH : List (Nat × Nat × Nat × Nat) := [(0, 9, 12, 13)]
def kCwL : Cond := Cond.codeWith yL_led method_3_code 4 (some .int) kHH
def kWsL : List Cond := kCwL :: kT
theorem kCwL_in : kCwL ∈ kT := kin5 159 (by decide +kernel) rfl
def klL_led : List (Nat × Instr × Nat × Nat) := [(0, .aload_n 2, 1, 1), (1, .iconst 0, 1, 2), (2, .aload_n 0, 1, 3), (3, .iload_n 1, 1, 4), (4, .invokevirtual 7, 3, 7), (7, .i2l, 1, 8), (8, .lastore, 1, 9), (9, .goto 6, 3, 12), (12, .astore_n 3, 1, 13), (13, .iconst 1, 1, 14), (14, .ireturn, 1, 15), (15, .iconst 0, 1, 16), (16, .ireturn, 1, 17)]
theorem kdL_led : kDec mL_led klL_led := kDec_of (by decide +kernel)
def rmM : Room := { frames := 10, cells := 1, slots := 6, locals := 600 }
def XLl : (Nat → Prop) → Array Value → State → Code → Prop := fun A _ s c => XZ A s ∧ c.exceptionTable.toList = tableOf kHH
def Ql (G : kG) (E : kE) : List Frame → (Nat → Prop) → Int32 × kSt → Array Value → State → State → Prop := fun below A q args s => MQ below (kZ G E kjI A q) args s 1 6 A
def ledR (S : kSt) (a : Int32) : Int32 × kSt := match ledP S a with
  | some p => (0, kuL S 89 0 (nI p).toInt64)
  | none => (1, S)
def ledQ (S : kSt) (a : Int32) : Int32 × kSt := match ledP S a with
  | some p => (nI p, S)
  | none => (-1, S)
theorem ldF_lt {S : kSt} {a : Int32} : ∀ (j p c r : Nat), ldF S a j p c = some r → r < p + j := by
  intro j
  induction j with
  | zero =>
    intro p c r h
    rw [ldF] at h
    cases h
  | succ j ih =>
    intro p c r h
    rw [ldF] at h
    split at h
    · split at h
      · cases h
        omega
      · have := ih _ _ _ h
        omega
    · have := ih _ _ _ h
      omega
theorem ledP_lt {S : kSt} (hI : Inv S) {a : Int32} {p : Nat} (h : ledP S a = some p) : p < 2 ^ 31 := by
  unfold ledP at h
  cases hb : hB S
  · rw [hb, if_neg (by decide)] at h
    cases h
  · rw [hb, if_pos rfl] at h
    have hm := hB_ok hI hb
    have hP5 := hm.2.2.1.2.2
    have := ldF_lt _ _ _ _ h
    omega
theorem led_q {S : kSt} (hI : Inv S) (a : Int32) : f_m10_led_L4 K1L K2L kFU a 0 S = some (ledQ S a) := by
  rw [c_led hI]
  unfold ledQ
  cases h : ledP S a with
  | none => rfl
  | some p =>
    show (if nI p = -1 then none else some (nI p, S)) = some (nI p, S)
    rw [if_neg (nI_m1 (ledP_lt hI h))]
theorem led_thr {S : kSt} (hI : Inv S) {a : Int32} (h : (ledQ S a).1 = -1) : ledR S a = (1, S) ∧ (ledQ S a).2 = S := by
  unfold ledQ at h ⊢
  unfold ledR
  cases hp : ledP S a with
  | none => exact ⟨rfl, rfl⟩
  | some p =>
    rw [hp] at h
    exact absurd h (nI_m1 (ledP_lt hI hp))
theorem led_ret {S : kSt} {a : Int32} (h : (ledQ S a).1 ≠ -1) : ledR S a = (0, kuL S 89 0 (ledQ S a).1.toInt64) ∧ (ledQ S a).2 = S := by
  unfold ledQ at h ⊢
  unfold ledR
  cases hp : ledP S a with
  | none =>
    rw [hp] at h
    exact absurd rfl h
  | some p => exact ⟨rfl, rfl⟩
section LED2
variable {l : Launch} {G : kG} {E : kE} {M : kM} {S : kSt}
theorem kPreX {p : Program} {s : State} {m : MethodId} {args : Array Value} {meth : Method} {c : Code} {A : Nat → Prop} {H : Heap} {locs : List Loc} (C : kCx G E M p s m args meth c A) (hP : va_P G.1 kCl (kws G E S) H) (hS : va_S A s.heap H locs) (hX : XZ A s) (as : List Value) : PreS s H (va_Pc (as.map (kcv E.1)) (kWdX G E S H.size)) (as.map (kcv E.1)) := by
  have h := kPre C hP hS as
  refine ⟨fun a U g mk q => ?_, fun U hU hW => ?_⟩
  · exact ⟨q.1, (h.1 a U g mk ⟨q.1, q.2.1⟩).2, vx_Zq.moved (u := U) (U := U.calling g mk a) (Vm.Alike.refl U.vm) q.2.2.1, vx_Zq.moved (u := U) (U := U.calling g mk a) (Vm.Alike.refl U.vm) q.2.2.2.1, kBd_warm (s := U) (U := U.calling g mk a) (Vm.Alike.refl U.vm) q.2.2.2.2⟩
  · exact ⟨rfl, (h.2 U hU hW).2, hX.mv hS hU hW.alike (kAA C hS)⟩
theorem ow_lled (h9 : l.stackTraces = false) (hI : Inv S) (a : Int32) : kOw l G E XLl (Ql G E) mL_led (rmM, 0, 0, 1, 6) (some (ledR S a)) 0 [(0, .ref 0), (1, .int a), (2, .ref 89)] [] S := by
  refine ow_aload_n 2 (kdL_led.at 0 rfl) rfl rfl ?_
  refine ow_iconst (v := 0) (kdL_led.at 1 rfl) (by decide) ?_
  refine ow_aload_n 0 (kdL_led.at 2 rfl) rfl rfl ?_
  refine ow_iload_n 1 (kdL_led.at 3 rfl) rfl rfl ?_
  intro p e s m args below meth c0 A H locs ls q hXX C hP hS hl ho
  cases ho
  have hd : kD mL_led 4 (.invokevirtual 7) 3 7 := kdL_led.at 4 rfl
  obtain ⟨hdc, -⟩ := hd
  obtain ⟨w1, w2, w3, w4, w5, w6⟩ := kcL_7
  have hM := mt_led (l := l) (G := G) (E := E) h9 a S (ledQ S a) (led_q hI a) H.size
  have hlt := kSH_lt sh_0
  have hprX := kPreX C hP hS hXX.1 [.ref 0, .int a]
  have hrv := va_recv (q0 := 0) (ci := 10) (fs := kfs E S 0 10 19) C.2.1 hP (show kCl[10]? = some _ from rfl) (by rw [kws_at hlt, kent_obj sh_0])
  have cw := cwV (R := rmM) (rm := rmL) (mc := 1) (ms := 6) (own := mL_led.1.cls) (index := 7) (C := m10_led.1.cls) (y := m10_led.1) (bytes := m10_led.2.1) (maxL := m10_led.2.2.1) (ret := m10_led.2.2.2) (ws := kWs m10_led) (ws' := kT) 1 C.1.2.2.2.2.2.2 (fun w hw => by
      rcases List.mem_append.mp hw with hw | hw
      · simp only [List.mem_cons, List.not_mem_nil, or_false] at hw
        rcases hw with rfl | rfl | rfl | rfl
        · exact ⟨w1, kT_good w1⟩
        · exact ⟨w2, kT_good w2⟩
        · exact ⟨w3, kT_good w3⟩
        · exact ⟨w4, kT_good w4⟩
      · exact kGood w5 w hw) rfl rfl rfl ⟨rfl, w6.1, w6.2.1, w6.2.2⟩ ⟨by decide, by decide⟩
  have hrun := vx_runV (p := p) (l := l) (e := e) (below := below) (meth := meth) (b := E.1 0) (As := [Value.int a]) (rest := [.int 0, .ref (E.1 89)]) (cells := 0) (slots := 0) (locs := locs) (g := F0 m 4 ls [.int a, .ref (E.1 0), .int 0, .ref (E.1 89)]) (nL := mL_led.2.2.1) (C := m10_led.1.cls) ⟨C.1.1, C.1.2.1, C.1.2.2.1, C.1.2.2.2.2.2.1, C.1.2.2.2.2.2.2⟩ hM cw ⟨hprX.1, hrv, hprX.2⟩ rfl rfl hl.1 rfl (lv_room (Nat.le_of_ble_eq_true rfl)) hdc ⟨Nat.le_refl 1, Nat.le_refl 6⟩
  refine vx_calli hrun hS (fun q _ h => kAA C hS q h) (kAA C hS) (fun q _ h => kAA C hS q h) ?_ ?_
  · intro X ce q9 u t H1 locs1 ht hvm hpx hBX hz hk hS1 hce hcv hcl
    obtain ⟨rfl, hB⟩ := hBX
    have hr := led_thr hI hpx
    rw [ht, hr.2] at hB
    rw [hr.1]
    refine vx_catch (own := mL_led.1.cls) (name := kNSE) (E := kNSE) (ce := ce) C.1.2.2.2.2.2.1 [] ⟨0, 9, 12, 13⟩ [] (hXX.2.trans rfl) (fun z hz => nomatch hz) (by decide) (by decide) (C.1.2.2.2.2.2.2 _ (kin5 160 (by decide +kernel) rfl)) (kBd_at kBd_cast (hXX.1.2.2 _ kBd_cast)) hce hcv hcl ?_
    refine lv_astore_n (i := 3) (nL := 4) C.1.1 C.1.2.1 (show kD mL_led 12 (.astore_n 3) 1 13 from kdL_led.at 8 rfl).1 rfl hl (by decide) rfl (fun ls2 hl2 => ?_)
    refine lv_iconst (v := 1) C.1.1 C.1.2.1 (show kD mL_led 13 (.iconst 1) 1 14 from kdL_led.at 9 rfl).1 (by decide) ?_
    exact W.iret C.1.1 C.1.2.1 C.1.2.2.2.1 (fun t2 ht2 _ => ⟨⟨1, (), rfl, rfl, by show va_P _ _ _ t2.heap; rw [ht2]; exact hB⟩, hS1.F ht2⟩) hS1.2.2 (show kD mL_led 14 .ireturn 1 15 from kdL_led.at 10 rfl).1 C.1.2.2.2.2.1
  · intro r u t H1 locs1 ht hvm hpo hB hz hk hS1
    obtain ⟨rfl, hne⟩ := hpo
    have hr := led_ret hne
    rw [ht, hr.2] at hB
    have K : kOw l G E XLl (Ql G E) mL_led (rmM, 1, 6, 1, 6) (some (ledR S a)) 7 [(0, .ref 0), (1, .int a), (2, .ref 89)] [.int (ledQ S a).1, .int 0, .ref 89] S := by
      refine ow_i2l (kdL_led.at 5 rfl) ?_
      refine ow_lastK (j := 0) (kdL_led.at 6 rfl) sh_89 (by decide) rfl ?_
      refine ow_goto (tgt := 15) (kdL_led.at 7 rfl) (by decide) ?_
      refine ow_iconst (v := 0) (kdL_led.at 11 rfl) (by decide) ?_
      intro p e s m args below meth c A H locs ls q hXX C hP hS hl ho
      rw [hr.1] at ho
      cases ho
      exact W.iret C.1.1 C.1.2.1 C.1.2.2.2.1 (fun t ht _ => ⟨⟨0, (), rfl, rfl, by show va_P _ _ _ t.heap; rw [ht]; exact hP⟩, hS.F ht⟩) hS.2.2 (show kD mL_led 16 .ireturn 1 17 from kdL_led.at 12 rfl).1 C.1.2.2.2.2.1
    exact K p e s m args below meth c0 A H1 locs1 ls _ hXX C hB hS1 hl rfl
theorem mt_lled (h9 : l.stackTraces = false) (hI : Inv S) (a : Int32) (sz : Nat) : Met l yL_led kWsL rmM (va_Pc (([.ref 0, .int a, .ref 89] : List Value).map (kcv E.1)) (kWdX G E S sz)) (kZ G E kjI (kA E sz) (ledR S a)) 1 6 (kA E sz) := by
  refine mt_ofWH (cc := mL_led.2.1) (maxL := mL_led.2.2.1) (ret := mL_led.2.2.2) (hh := kHH) (by decide +kernel) rfl ?_
  intro p e s m args below meth c s₁ B hml hv
  obtain ⟨rfl, ⟨hsz, hP, hK, hE, hR, hI2, hT, hN, hZ⟩, hX⟩ := hv
  subst hsz
  have hts := atoms_spec (ws := kWsL) B.pre
  have htb : c.exceptionTable.toList = tableOf kHH := vx_table (x := yL_led) B (hts _ List.mem_cons_self)
  have hl := lv_entry (([.ref 0, .int a, .ref 89] : List Value).map (kcv E.1)) (n := mL_led.2.2.1) (by rw [kargl]; exact Nat.le_of_ble_eq_true rfl)
  rw [kargs] at hl
  rw [lg_entry_eq]
  exact ow_lled h9 hI a p e s m _ below meth c (kA E s.heap.size) s.heap [] _ _ ⟨hX, htb⟩ ⟨⟨B.exec, B.bytes, hml, B.returns, B.notSynchronized, findClass_of_methodNamed B.named, fun w hw => hts w (List.mem_cons_of_mem _ hw)⟩, hK, hE, hR, fun q h => Or.inr h, fun k hk => Or.inl ⟨k, hk, rfl⟩, hI2, hT, hN, hZ⟩ hP va_S.rf hl rfl
end LED2
