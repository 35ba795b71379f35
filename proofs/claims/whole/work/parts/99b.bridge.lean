-- the bridge: what the start knows carries the law from its loop's head on
def xSt (G : kG) (fm : Nat) (A : Nat → Prop) (s : State) : Prop :=
  vk_S 16 kLen kByt G.2.2.1 G.2.2.2.1 A s s.heap ∧ (∀ z ∈ kSi, vk_R z.1 z.2.1 (kTx.getD z.2.2 "") (G.2.2.1 z.2.2) s) ∧ (∀ w ∈ kNl, va_Nw w s) ∧ va_Z "java/lang/String" "COMPACT_STRINGS" "Z" (.int 1) A s s.heap ∧ va_Z "jdk/internal/util/Preconditions" "SIOOBE_FORMATTER" "Ljava/util/function/BiFunction;" (kcv (fun _ => fm) G.2.2.2.2.1) A s s.heap ∧ va_X G.2.2.2.2.2.1 G.2.2.2.2.2.2.1 G.2.2.2.2.2.2.2 s s.heap ∧ ¬ A G.2.2.2.2.2.1 ∧ XZ A s
theorem kPos_inj : ∀ i j : Fin 90, kPos.getD i.1 0 = kPos.getD j.1 0 → i = j := by decide +kernel
theorem kAd_tx {L : List Nat} {tx ty : Nat → Nat} {fm sc i : Nat} (h : i < 16) : kAd L tx ty fm sc (1000 + i) = tx i := by
  unfold kAd
  rw [if_neg (by omega), if_pos (by omega), Nat.add_sub_cancel_left]
theorem kAd_ty {L : List Nat} {tx ty : Nat → Nat} {fm sc i : Nat} (h : i < 16) : kAd L tx ty fm sc (1100 + i) = ty i := by
  unfold kAd
  rw [if_neg (by omega), if_neg (by omega), if_pos (by omega), Nat.add_sub_cancel_left]
theorem kAd_sc {L : List Nat} {tx ty : Nat → Nat} {fm sc : Nat} : kAd L tx ty fm sc 3000 = sc := by
  unfold kAd
  rw [if_neg (by omega), if_neg (by omega), if_neg (by omega), if_pos rfl]
theorem kAd_fm {L : List Nat} {tx ty : Nat → Nat} {fm sc : Nat} : kAd L tx ty fm sc 2000 = fm := by
  unfold kAd
  rw [if_neg (by omega), if_neg (by omega), if_neg (by omega), if_neg (by omega)]
theorem kcv_fm {L : List Nat} {tx ty : Nat → Nat} {fm sc : Nat} {v : Value} (h : v = .null ∨ v = .ref 2000) : kcv (fun _ => fm) v = kcv (kAd L tx ty fm sc) v := by
  rcases h with h | h
  · subst h
    rfl
  · subst h
    show Value.ref fm = Value.ref (kAd L tx ty fm sc 2000)
    rw [kAd_fm]
theorem kLV0 {a b z b0 : Nat} {ad : Nat → Nat} {ls : Array Slot} (h0 : ad 3000 = b0) (h1 : ad 0 = a) (h2 : ad 14 = b) (h3 : ad 89 = z) (hl : lv_has ls 7 [(4, .int 0), (3, .ref z), (2, .ref b), (1, .ref a), (0, .ref b0)]) : lv_has ls 7 ((LV 0).map (fun x => (x.1, kcv ad x.2))) := by
  subst h0
  subst h1
  subst h2
  subst h3
  rw [← nI_0] at hl
  exact lv_sub hl [4, 3, 2, 1, 0] rfl
theorem bridge {l : Launch} {G : kG} {fm : Nat} (h9 : l.stackTraces = false) (hL : G.2.2.2.2.2.2.1 ≤ 3072) (hf : G.2.2.2.2.1 = .null ∨ G.2.2.2.2.1 = .ref 2000) (a : Nat) (u : Nat → Nat) (b : Nat) (v : Nat → Nat) (z : Nat) : nOk l G.1 G.2.1 (xSt G fm) mL_law room_1 90 9277 (fun below A args s => QL below A () args s) 23 [(4, .int 0), (3, .ref z), (2, .ref b), (1, .ref a), (0, .ref G.2.2.2.2.2.1)] [] ((([] ++ w_10 G.2.1 a u) ++ w_11 G.2.1 b v) ++ [(z, .inl (G.2.1.2.2.1, 1, .inr (.inl (fun _ => 0))))]) := by
  intro p e s m args below meth c A H locs ls hX C hP hD hS hl
  obtain ⟨x1, x2, x3, x4, x5, x6, x7, x8⟩ := hX
  have hw := w_at (G := G) (a := a) (u := u) (b := b) (v := v) (z := z) (tx := G.2.2.1) (ty := G.2.2.2.1) (fm := fm) (sc := G.2.2.2.2.2.1)
  have hR := law_runs (l := l) (G := G) h9 hL (ad := kAd (kAL a u b v z) G.2.2.1 G.2.2.2.1 fm G.2.2.2.2.2.1) (z := 2) (n := (90, 9277)) inv0 (Nat.le_of_ble_eq_true rfl) (Nat.le_of_ble_eq_true rfl)
  rw [kcv_fm (L := kAL a u b v z) (tx := G.2.2.1) (ty := G.2.2.2.1) (sc := G.2.2.2.2.2.1) hf] at x5
  have hsc := kAd_sc (L := kAL a u b v z) (tx := G.2.2.1) (ty := G.2.2.2.1) (fm := fm) (sc := G.2.2.2.2.2.1)
  refine hR p e s m args below meth c A H locs ls () x8 ⟨C.1, C.2.1, x1, x2, C.2.2.1, fun k hk => hD.2 _ _ (hw ⟨k, hk⟩), fun i j hi hj e9 => ?_, fun i hi => ⟨kAd_tx hi, kAd_ty hi⟩, x3, x4, x5, hf, x6, x7, hsc⟩ (w_world hP) hS (kLV0 hsc rfl rfl rfl hl) rfl
  exact congrArg Fin.val (kPos_inj ⟨i, hi⟩ ⟨j, hj⟩ (hD.1 _ _ _ _ (hw ⟨i, hi⟩) (hw ⟨j, hj⟩) e9))
