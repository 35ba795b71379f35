-- led: it answers, or it throws
theorem kx_ot : ∀ w ∈ vx_at0 kR10 412 kNSE kCh, vx_ot w = true := by decide +kernel
theorem kBd_ok : ∀ w ∈ kBd, w.onTables = true ∧ w.faceAtom = true := by decide +kernel
theorem kBd_cast : Cond.castable kNSE kNSE ∈ kBd := by decide +kernel
theorem kx_in : ∀ w ∈ (vx_at0 kR10 412 kNSE kCh).filter goodWord, w ∈ (tables_1_5.drop 155).take 75 ∨ w ∈ tables_1_1 := by decide +kernel
theorem kx_kT : ∀ w ∈ (vx_at0 kR10 412 kNSE kCh).filter goodWord, w ∈ kT := by
  intro w hw
  have hg := (List.mem_filter.mp hw).2
  rcases kx_in w hw with h | h
  · obtain ⟨i, hi⟩ := List.getElem?_of_mem (List.mem_of_mem_drop (List.mem_of_mem_take h))
    exact kin5 i hi hg
  · obtain ⟨i, hi⟩ := List.getElem?_of_mem h
    exact kin1 i hi hg
theorem kBd_at {a : Array Value} {s : State} {w : Cond} (hw : w ∈ kBd) (h : w.before #[] s = true) : w.before a s = true := va_tabs (kBd_ok w hw).1 rfl h
theorem kBd_warm {s U : State} (hW : s.vm.Alike U.vm) (h : ∀ w ∈ kBd, w.before #[] s = true) : ∀ w ∈ kBd, w.before #[] U = true := fun w hw => va_tabs (u := s.setVm U.vm) (kBd_ok w hw).1 rfl (Cond.faceAtom_setVm hW w (kBd_ok w hw).2 (h w hw))
theorem kx_at {a : Array Value} {s : State} (ht : ∀ w ∈ kT, w.before a s = true) (h : ∀ w ∈ kBd, w.before #[] s = true) : ∀ w ∈ vx_at0 kR10 412 kNSE kCh, w.before a s = true := by
  intro w hw
  by_cases g : goodWord w = true
  · exact ht w (kx_kT w (List.mem_filter.mpr ⟨hw, g⟩))
  · have hb : w ∈ kBd := List.mem_filter.mpr ⟨hw, by cases hgw : goodWord w with
      | true => exact absurd hgw g
      | false => rfl⟩
    exact kBd_at hb (h w hb)
theorem XZ.mv {A B : Nat → Prop} {s U : State} {H : Heap} {locs : List Loc} (h : XZ A s) (hS : va_S A s.heap H locs) (hU : U.heap = H) (hW : s.vm.Alike U.vm) (hAB : ∀ q, B q → A q) : XZ B U := by
  unfold XZ
  rw [hU]
  exact ⟨vx_Zq.moved hW ((h.1.kept hS.2.1).narrow hAB), vx_Zq.moved hW ((h.2.1.kept hS.2.1).narrow hAB), kBd_warm hW h.2.2⟩
def rmL : Room := { frames := 8, cells := 1, slots := 6, locals := 480 }
theorem rmL_fit {d' : Nat} (h : d' < 7) : kfit d' (rmL, 0, 0, 1, 6) := by
  refine ⟨?_, ?_, Nat.zero_le 1, Nat.zero_le 6⟩
  · show d' + 1 ≤ 8
    omega
  · show 60 * d' + 60 ≤ 480
    omega
def QcL (G : kG) (E : kE) (q : Int32 × kSt) (A : Nat → Prop) : Array Value → State → Outcome → State → Prop := va_Qi (fun (x : Int32) (_ : Unit) => x = q.1 ∧ q.1 ≠ -1) (fun _ t => va_P G.1 kCl (kws G E q.2) t.heap) A
def XcL (G : kG) (E : kE) (q : Int32 × kSt) (A : Nat → Prop) : String → State → State → Prop := vx_X (fun (_ : Unit) => q.1 = -1) (fun X _ t => X = kNSE ∧ va_P G.1 kCl (kws G E q.2) t.heap) A
def Qx (G : kG) (E : kE) : List Frame → (Nat → Prop) → Int32 × kSt → Array Value → State → State → Prop := fun below A q args s => vx_MQ below (QcL G E q A) (XcL G E q A) args s 1 6 A
def XLed : (Nat → Prop) → Array Value → State → Code → Prop := fun A _ s c => XZ A s ∧ ∀ x ∈ c.exceptionTable.toList, False
section LEDP
variable {l : Launch} {G : kG} {E : kE}
theorem ow_led_ret (v : Int32) (S : kSt) : kOw l G E XLed (Qx G E) m10_led (rmL, 0, 0, 1, 6) (if v = -1 then none else some (v, S)) 42 [(3, .int v)] [] S := by
  refine ow_iload_n 0 (kd_m10_led.at 22 rfl) rfl rfl ?_
  intro p e s m args below meth c A H locs ls q hXX C hP hS hl ho
  by_cases h : v = -1
  · rw [if_pos h] at ho
    cases ho
  · rw [if_neg h] at ho
    cases ho
    have hd : kD m10_led 43 .ireturn 1 44 := kd_m10_led.at 23 rfl
    refine vx_ret ?_
    refine W.widen (k := 1) (n := 6) (Nat.zero_le 1) (Nat.zero_le 6) ?_
    exact W.iret C.1.1 C.1.2.1 C.1.2.2.2.1 (fun t ht _ => ⟨⟨v, (), rfl, ⟨rfl, h⟩, by show va_P _ _ _ t.heap; rw [ht]; exact hP⟩, hS.F ht⟩) hS.2.2 hd.1 C.1.2.2.2.2.1
theorem ow_led_throw (h9 : l.stackTraces = false) (S : kSt) : kOw l G E XLed (Qx G E) m10_led (rmL, 0, 0, 1, 6) (some (-1, S)) 53 [] [] S := by
  intro p e s m args below meth c A H locs ls q hXX C hP hS hl ho
  cases ho
  have d0 : kD m10_led 53 (.new 410) 3 56 := kd_m10_led.at 27 rfl
  have d1 : kD m10_led 56 .dup 1 57 := kd_m10_led.at 28 rfl
  have d2 : kD m10_led 57 (.invokespecial 412) 3 60 := kd_m10_led.at 29 rfl
  have d3 : kD m10_led 60 .athrow 1 61 := kd_m10_led.at 30 rfl
  have ht := C.1.2.2.2.2.2.2
  have hw1 : Cond.classLink kR10 410 kNSE ∈ kT := kin5 165 (by decide +kernel) rfl
  have hw2 : Cond.initialized kNSE ∈ kT := kin1 23 (by decide +kernel) rfl
  refine vx_throw0 (cc := m10_led.2.1) (own := kR10) (cls := kNSE) (names := kCh) (ik := 410) (ic := 412) (mc := 1) (ms := 6) (A := A) (rest := []) C.1.1 C.1.2.1 h9 C.1.2.2.2.2.2.1 (by decide +kernel) (by decide +kernel) (ht _ hw1) (ht _ hw2) (kx_at ht hXX.1.2.2) (fun w hw => ?_) hXX.1.1 hXX.1.2.1 hS (hl.1.trans C.1.2.2.1.symm) d0.1 d1.1 d2.1 d3.1 (fun x hx => (hXX.2 x hx).elim) (by decide) (by decide) (by decide) (by decide) C.1.2.2.2.2.1 (fun t hv hz hk => ?_) hS.2.2 (by decide) (by decide)
  · rcases List.mem_cons.mp hw with rfl | hw
    · unfold vx_ot
      rw [(List.mem_filter.mp hw1).2, Bool.or_true]
    · rcases List.mem_cons.mp hw with rfl | hw
      · unfold vx_ot
        rw [(List.mem_filter.mp hw2).2, Bool.or_true]
      · exact kx_ot w hw
  · refine ⟨(), rfl, ⟨rfl, ?_⟩, Nat.le_trans hS.1 hz, fun q h1 h2 => ?_⟩
    · exact hP.kept (fun k q hk9 => hk _ (vx_lt hP hk9))
    · rw [hk q (Nat.lt_of_lt_of_le h1 hS.1)]
      exact hS.2.1 q h1 h2
theorem ow_m10_led_L4     (k42 : Int32 → kSt → Option (Int32 × kSt)) (k53 : kSt → Option (Int32 × kSt)) (hk42 : ∀ (v3 : Int32) (S : kSt), kOw l G E XLed (Qx G E) m10_led (rmL, 0, 0, 1, 6) (k42 v3 S) 42 [(3, .int v3)] [] S) (hk53 : ∀  (S : kSt), kOw l G E XLed (Qx G E) m10_led (rmL, 0, 0, 1, 6) (k53  S) 53 [] [] S) : ∀ (n : Nat) (v2 : Int32) (v3 : Int32) (S : kSt), kOw l G E XLed (Qx G E) m10_led (rmL, 0, 0, 1, 6) (f_m10_led_L4 k42 k53 n v2 v3 S) 4 [(0, .ref 0), (2, .int v2), (3, .int v3)] [] S := by
  intro n
  induction n with
  | zero => intro v2 v3 S; exact ow_none
  | succ n ih =>
    intro v2 v3 S
    rw [f_m10_led_L4]
    refine ow_aload_n 0 (kd_m10_led.at 4 rfl) rfl rfl ?_
    refine ow_getZ (kd_m10_led.at 5 rfl) kf10_108 sh_0 rfl (fun b1 => ?_)
    refine ow_ifb_eq (tgt := 53) (kd_m10_led.at 6 rfl) (by decide) (fun h2 => ?_) (fun h2 => ?_)
    · refine ow_sub (lv' := []) [] rfl ?_
      exact hk53  S
    · refine ow_iload_n 2 (kd_m10_led.at 7 rfl) rfl rfl ?_
      refine ow_aload_n 0 (kd_m10_led.at 8 rfl) rfl rfl ?_
      refine ow_getR (kd_m10_led.at 9 rfl) kf10_16 sh_0 rfl (kr_0_2 _) ?_
      refine ow_getI (kd_m10_led.at 10 rfl) kf10_112 sh_1 rfl ?_
      refine ow_icmp_ge (tgt := 53) (kd_m10_led.at 11 rfl) (by decide) (fun h3 => ?_) (fun h3 => ?_)
      · refine ow_sub (lv' := []) [] rfl ?_
        exact hk53  S
      · refine ow_aload_n 0 (kd_m10_led.at 12 rfl) rfl rfl ?_
        refine ow_aload_n 0 (kd_m10_led.at 13 rfl) rfl rfl ?_
        refine ow_getR (kd_m10_led.at 14 rfl) kf10_35 sh_0 rfl (kr_0_6 _) ?_
        refine ow_getR (kd_m10_led.at 15 rfl) kf10_157 sh_4 rfl (kr_4_1 _) ?_
        refine ow_iload_n 2 (kd_m10_led.at 16 rfl) rfl rfl ?_
        refine ow_iald (kd_m10_led.at 17 rfl) sh_40 ?_
        refine ow_callVB (M' := m10_isMore) (as := [.int (S.1 40 v3.toNatClampNeg)]) (st := []) (kd_m10_led.at 18 rfl) kc10_172 sh_0 rfl rfl (by decide) (ok_m10_isMore (S.1 40 v3.toNatClampNeg) S) (rmL_fit (by decide)) rfl (Nat.le_of_ble_eq_true rfl) (fun q4 hq4 => ?_)
        refine ow_nx (fun j47 hj47 => ?_)
        have K47 : ∀ (x5 : Int32) (S6 : kSt), kOw l G E XLed (Qx G E) m10_led (rmL, 0, 0, 1, 6) (j47 x5 S6) 47 [(0, .ref 0), (2, .int x5), (3, .int v3)] [] S6 := by
          subst hj47
          intro x5 S6
          refine ow_nx (fun x7 hx7 => ?_)
          refine ow_iinc (v := x7) (lv' := [(3, .int x7), (0, .ref 0), (2, .int x5)]) 2 (kd_m10_led.at 25 rfl) rfl hx7.symm (by decide) rfl ?_
          refine ow_goto (tgt := 4) (kd_m10_led.at 26 rfl) (by decide) ?_
          refine ow_sub (lv' := [(0, .ref 0), (2, .int x5), (3, .int x7)]) [1, 2, 0] rfl ?_
          exact ih x5 x7 S6
        clear hj47
        refine ow_ifb_eq (tgt := 47) (kd_m10_led.at 19 rfl) (by decide) (fun h8 => ?_) (fun h8 => ?_)
        · exact K47 v2 q4.2
        · refine ow_iload_n 1 (kd_m10_led.at 20 rfl) rfl rfl ?_
          refine ow_if_ne (tgt := 44) (kd_m10_led.at 21 rfl) (by decide) (fun h9 => ?_) (fun h9 => ?_)
          · refine ow_nx (fun x10 hx10 => ?_)
            refine ow_iinc (v := x10) (lv' := [(2, .int x10), (0, .ref 0), (3, .int v3)]) 1 (kd_m10_led.at 24 rfl) rfl hx10.symm (by decide) rfl ?_
            refine ow_sub (lv' := [(0, .ref 0), (2, .int x10), (3, .int v3)]) [1, 0, 2] rfl ?_
            exact K47 x10 q4.2
          · refine ow_sub (lv' := [(3, .int v3)]) [2] rfl ?_
            exact hk42 v3 q4.2
def K1L : Int32 → kSt → Option (Int32 × kSt) := fun v S => if v = -1 then none else some (v, S)
def K2L : kSt → Option (Int32 × kSt) := fun S => some (-1, S)
theorem ow_led (h9 : l.stackTraces = false) (a1 : Int32) (S : kSt) : kOw l G E XLed (Qx G E) m10_led (rmL, 0, 0, 1, 6) (f_m10_led_L4 K1L K2L kFU a1 0 S) 0 [(0, .ref 0), (1, .int a1)] [] S := by
  refine ow_iload_n 1 (kd_m10_led.at 0 rfl) rfl rfl ?_
  refine ow_istore_n (lv' := [(2, .int a1), (0, .ref 0), (1, .int a1)]) (kd_m10_led.at 1 rfl) rfl (by decide) rfl ?_
  refine ow_iconst (v := 0) (kd_m10_led.at 2 rfl) (by decide) ?_
  refine ow_istore_n (lv' := [(3, .int 0), (2, .int a1), (0, .ref 0), (1, .int a1)]) (kd_m10_led.at 3 rfl) rfl (by decide) rfl ?_
  refine ow_sub (lv' := [(0, .ref 0), (2, .int a1), (3, .int 0)]) [2, 1, 0] rfl ?_
  exact ow_m10_led_L4 _ _ (fun x11 S12 => ow_led_ret x11 S12) (fun S13 => ow_led_throw h9 S13) kFU a1 0 S
def kWdX (G : kG) (E : kE) (S : kSt) (sz : Nat) (U : State) : Prop := kWd G E S sz U ∧ XZ (kA E sz) U
theorem mt_led (h9 : l.stackTraces = false) (a1 : Int32) (S : kSt) (q : Int32 × kSt) (ho : f_m10_led_L4 K1L K2L kFU a1 0 S = some q) (sz : Nat) : vx_Met l m10_led.1 (kWs m10_led) rmL (va_Pc (([.ref 0, .int a1] : List Value).map (kcv E.1)) (kWdX G E S sz)) (QcL G E q (kA E sz)) (XcL G E q (kA E sz)) 1 6 (kA E sz) := by
  refine vx_ofW (cc := m10_led.2.1) (maxL := m10_led.2.2.1) (ret := m10_led.2.2.2) (by decide +kernel) rfl ?_
  intro p e s m args below meth c s₁ B hml hT0 hv
  obtain ⟨rfl, ⟨hsz, hP, hK, hE, hR, hI, hT, hN, hZ⟩, hX⟩ := hv
  subst hsz
  have hts := atoms_spec (ws := kWs m10_led) B.pre
  have hl := lv_entry (([.ref 0, .int a1] : List Value).map (kcv E.1)) (n := m10_led.2.2.1) (by rw [kargl]; exact Nat.le_of_ble_eq_true rfl)
  rw [kargs] at hl
  rw [lg_entry_eq]
  exact ow_led h9 a1 S p e s m _ below meth c (kA E s.heap.size) s.heap [] _ q ⟨hX, hT0⟩ ⟨⟨B.exec, B.bytes, hml, B.returns, B.notSynchronized, findClass_of_methodNamed B.named, fun w hw => hts w (List.mem_cons_of_mem _ hw)⟩, hK, hE, hR, fun q h => Or.inr h, fun k hk => Or.inl ⟨k, hk, rfl⟩, hI, hT, hN, hZ⟩ hP va_S.rf hl ho
end LEDP
