-- the law: the case of led
theorem inv_L {S S' : kSt} (hI : Inv S) (h : S'.1 = S.1) : Inv S' := by
  have h4 := hI.2.2.2.1.1
  exact (keep_L h).inv hI (by rw [h]; exact h4) (by rw [h]; exact id)
theorem ldF_c {S T : kSt} (h : T.1 = S.1) (a : Int32) : ∀ (j p c : Nat), ldF T a j p c = ldF S a j p c := by
  intro j
  induction j with
  | zero =>
    intro p c
    rw [ldF, ldF]
  | succ j ih =>
    intro p c
    rw [ldF, ldF, gN_c (S := S) (S' := T) (k := 57) (j := 0) (by rw [h]), gN_c (S := S) (S' := T) (k := 61) (j := p) (by rw [h]), ih, ih]
theorem ledP_c {S T : kSt} (h : T.1 = S.1) (a : Int32) : ledP T a = ledP S a := by
  have hb : hB T = hB S := by
    unfold hB
    rw [h]
  unfold ledP
  rw [hb, ldF_c h, gN_c (S := S) (S' := T) (k := 57) (j := 2) (by rw [h])]
theorem led_key {S : kSt} (hI : Inv S) (a : Int32) : ∃ (r v : Int32) (S1 : kSt), ledR S a = (r, S1) ∧ Inv S1 ∧ f_m11_led a S1 = some (v, kuI S1 14 0 r) ∧ (r = 0 → S1.2 89 0 = v.toInt64) := by
  cases hp : ledP S a with
  | none =>
    refine ⟨1, 0, S, ?_, hI, ?_, fun h => absurd h (by decide)⟩
    · unfold ledR
      rw [hp]
    · rw [m_led hI, hp]
  | some p =>
    have hI1 : Inv (kuL S 89 0 (nI p).toInt64) := inv_L hI rfl
    refine ⟨0, nI p, kuL S 89 0 (nI p).toInt64, ?_, hI1, ?_, fun _ => ?_⟩
    · unfold ledR
      rw [hp]
    · have e : ledP (kuL S 89 0 (nI p).toInt64) a = some p := (ledP_c (S := S) (T := kuL S 89 0 (nI p).toInt64) rfl a).trans hp
      rw [m_led hI1, e]
    · rw [kuL_self]
      simp [vp_updL]
section LED3
variable {l : Launch} {G : kG}
theorem led_tail {E : kE} {n : Nat × Nat} {i : Nat} {S1 : kSt} {r v : Int32} (hI : Inv S1) (e2 : f_m11_led (G.2.2.2.2.2.2.2 (i + 1)) S1 = some (v, kuI S1 14 0 r)) (hlast : r = 0 → S1.2 89 0 = v.toInt64) (hi : i + 6 ≤ G.2.2.2.2.2.2.1) (hL : G.2.2.2.2.2.2.1 ≤ 3072) (h1 : n.1 ≤ 601024) (h2 : n.2 ≤ 7293034) (kk : ∀ S2, Inv S2 → LOk l G E n 2125 (LV i) [] S2) : LOk l G E n 2042 (LV i) [.int r] S1 := by
  refine ow_istore (lv' := (5, .int r) :: LV i) (kdL_19.at 20 rfl) (by decide) rfl ?_
  refine ow_aload_n 3 (kdL_19.at 21 rfl) rfl rfl ?_
  refine ow_aload_n 1 (kdL_19.at 22 rfl) rfl rfl ?_
  refine ow_iload 5 (kdL_19.at 23 rfl) rfl ?_
  refine ow_iconst (v := nI 1) (kdL_19.at 24 rfl) (by decide) ?_
  refine ow_iadd (kdL_19.at 25 rfl) ?_
  rw [nI_add]
  have e : (some () : Option Unit) = kgi (nI (i + 1)) G.2.2.2.2.2.2.1 (some ()) := (kgi_nI (by omega) (by omega)).symm
  show kOw l G E XL QL mL_law (room_1, n.1, n.2, 601024, 7293034) (some ()) 2050 ((5, .int r) :: LV i) [.int (nI (i + 1)), .ref 3000, .ref 14] S1
  rw [e]
  refine ow_sld (kdL_19.at 26 rfl) ?_
  rw [nI_clamp (by omega)]
  refine lk_cI (as := [.int (G.2.2.2.2.2.2.2 (i + 1))]) (st := []) (kdL_19.at 27 rfl) kcL_258 sh_14 rfl rfl (by decide) (ok_m11_led (G.2.2.2.2.2.2.2 (i + 1)) S1) e2 (by decide) rfl (by decide) h1 h2 ?_
  refine ow_istore (lv' := (6, .int v) :: (5, .int r) :: LV i) (kdL_19.at 28 rfl) (by decide) rfl ?_
  refine ow_aload_n 4 (kdL_19.at 29 rfl) rfl rfl ?_
  refine lk_cI (as := []) (st := []) (kdL_19.at 30 rfl) kcL_259 sh_14 rfl rfl (by decide) (ok_m11_thrown (kuI S1 14 0 r)) rfl (by decide) rfl (by decide) h1 h2 ?_
  refine ow_iload 1 (kdL_19.at 31 rfl) rfl ?_
  refine lk_eq (tgt := 2067) (kdL_19.at 32 rfl) (by decide) (by rw [kuI_self]; simp [upd]) ?_
  refine ow_iload 1 (kdL_19.at 35 rfl) rfl ?_
  have fin : LOk l G E n 2084 ((6, .int v) :: (5, .int r) :: LV i) [] (kuI S1 14 0 r) := by
    refine ow_goto (tgt := 2125) (kdL_19.at 46 rfl) (by decide) ?_
    refine ow_sub (lv' := LV i) [2, 3, 4, 5, 6] rfl ?_
    exact kk _ (inv_140 hI r)
  have h := ow_if_ne (x := r) (o1 := some ()) (o2 := some ()) (XX := XL) (QQ := QL) (d := (room_1, n.1, n.2, 601024, 7293034)) (l := l) (G := G) (E := E) (lv := (6, .int v) :: (5, .int r) :: LV i) (st := []) (S := kuI S1 14 0 r) (tgt := 2084) (kdL_19.at 36 rfl) (by decide) (fun _ => fin) (fun q => by
    refine ow_aload_n 5 (kdL_19.at 37 rfl) rfl rfl ?_
    refine ow_iconst (v := 0) (kdL_19.at 38 rfl) (by decide) ?_
    refine ow_laldK (j := 0) (kdL_19.at 39 rfl) sh_89 (by decide) rfl ?_
    refine ow_iload 0 (kdL_19.at 40 rfl) rfl ?_
    refine ow_i2l (kdL_19.at 41 rfl) ?_
    exact lk_leq (tgt := 2084) (kdL_19.at 42 rfl) (kdL_19.at 43 rfl) (by decide) (hlast q) fin)
  rw [ite_self] at h
  exact h
theorem kcs_led : ∀ w ∈ va_wsS mL_law.1.cls 253 yL_led kWsL, w ∈ kT := by
  intro w hw
  rcases List.mem_append.mp hw with hw | hw
  · simp only [List.mem_cons, List.not_mem_nil, or_false] at hw
    rcases hw with rfl | rfl | rfl
    · exact kin5 157 (by decide +kernel) rfl
    · exact kin5 158 (by decide +kernel) rfl
    · exact kin1 0 (by decide +kernel) rfl
  · rcases List.mem_cons.mp hw with rfl | hw
    · exact kCwL_in
    · exact hw
theorem led_case (h9 : l.stackTraces = false) : LED l G := by
  intro ad z n S i hI hi hL h1 h2 kk
  refine ow_aload_n 1 (kdL_19.at 12 rfl) rfl rfl ?_
  refine lk_arg (i := i) (j := 1) (kdL_19.at 13 rfl) (kdL_19.at 14 rfl) (kdL_19.at 15 rfl) (kdL_19.at 16 rfl) (kdL_19.at 17 rfl) (by decide) (by omega) hL ?_
  refine ow_aload_n 3 (kdL_19.at 18 rfl) rfl rfl ?_
  generalize ha : G.2.2.2.2.2.2.2 (i + 1) = a
  obtain ⟨r, v, S1, k1, k2, k3, k4⟩ := led_key hI a
  have K : LOk l G (ad, z) (n.1 + 1, n.2 + 6) 2042 (LV i) [.int r] S1 := led_tail (n := (n.1 + 1, n.2 + 6)) k2 (by rw [ha]; exact k3) k4 hi hL h1 h2 (fun S2 hI2 => kk (n.1 + 1, n.2 + 6) S2 hI2 (Nat.le_refl _) (Nat.le_refl _))
  intro p e s m args below meth c0 A H locs ls q hXX C hP hS hl ho
  have hd : kD mL_law 2039 (.invokestatic 253) 3 2042 := kdL_19.at 19 rfl
  have hM := mt_lled (l := l) (G := G) (E := (ad, z)) h9 hI a H.size
  have hprX := kPreX C hP hS hXX [.ref 0, .int a, .ref 89]
  have cw := vx_cwSW (R := room_1) (rm := rmM) (mc := 1) (ms := 6) (own := mL_law.1.cls) (index := 253) (y := yL_led) (bytes := method_3_code) (maxL := 4) (ret := some .int) (hh := kHH) (ws := kWsL) (ws' := kT) 3 C.1.2.2.2.2.2.2 (fun w hw => ⟨kcs_led w hw, kT_good (kcs_led w hw)⟩) rfl rfl rfl ⟨by decide, by decide, by decide +kernel⟩ ⟨by decide, by decide⟩
  have hrun := vx_runSW (p := p) (l := l) (e := e) (below := below) (meth := meth) (As := [.ref (ad 0), .int a, .ref (ad 89)]) (rest := []) (cells := n.1) (slots := n.2) (locs := locs) (g := F0 m 2039 ls [.ref (ad 89), .int a, .ref (ad 0)]) (nL := mL_law.2.2.1) ⟨C.1.1, C.1.2.1, C.1.2.2.1, C.1.2.2.2.2.2.1, C.1.2.2.2.2.2.2⟩ hM cw hprX rfl rfl hl.1 rfl (lv_room (Nat.le_of_ble_eq_true rfl)) hd.1 ⟨h1, h2⟩
  rw [k1] at hrun
  refine va_calli (a := #[Value.ref (ad 0), Value.int a, Value.ref (ad 89)]) hrun hS (fun q _ h => kAA C hS q h) (kAA C hS) (fun r2 u t H1 locs1 ht hvm hw hB _ _ hS1 => ?_)
  dsimp only at hB
  rw [ht] at hB
  cases hw
  exact K p e s m args below meth c0 A H1 locs1 ls q hXX C hB hS1 hl ho
/-- from the loop's head on: whatever the script, the law answers 1 -/
theorem law_runs (h9 : l.stackTraces = false) (hL : G.2.2.2.2.2.2.1 ≤ 3072) {ad : Nat → Nat} {z : Nat} {n : Nat × Nat} {S : kSt} (hI : Inv S) (h1 : n.1 + 512 ≤ 601024) (h2 : n.2 + 3072 ≤ 7293034) : LOk l G (ad, z) n 23 (LV 0) [] S := law_go (led_case h9) hL 512 0 ad z n S hI (by omega) (by omega) (by omega) (by omega)
end LED3
