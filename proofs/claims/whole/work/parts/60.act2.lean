-- acts: the invariant behind them
def imgs (S : kSt) : Prop := kB S 14 23 3 ∧ S.1 0 9 = S.1 14 23 ∧ ∀ i, i < gN S 14 23 → rowEq S (70 + i) 63 (36 * i) ∧ rowOk S 63 (36 * i)
def kp0 (a : Nat) : Bool := a == 1 || a == 15 || (18 ≤ a && a < 28) || a == 55 || a == 57 || a == 59
def rest0 (S S' : kSt) : Prop := (∀ a, kp0 a = true → S'.1 a = S.1 a) ∧ (S'.1 0 1 = S.1 0 1 ∧ S'.1 0 5 = S.1 0 5) ∧ (S'.1 3 9 = S.1 3 9 ∧ S'.1 3 10 = S.1 3 10) ∧ (S'.1 14 2 = S.1 14 2 ∧ S'.1 14 9 = S.1 14 9 ∧ S'.1 14 10 = S.1 14 10 ∧ S'.1 14 14 = S.1 14 14)
theorem kp0_kpA : ∀ a, kp0 a = true → kpA a = true := by
  intro a h
  by_cases h2 : a < 90
  · have : ∀ a, a < 90 → kp0 a = true → kpA a = true := by decide +kernel
    exact this a h2 h
  · exfalso
    unfold kp0 at h
    simp only [Bool.or_eq_true, Bool.and_eq_true, decide_eq_true_eq, beq_iff_eq] at h
    omega
theorem rest.r0 {S S' : kSt} (h : rest S S') : rest0 S S' := by
  obtain ⟨a1, ⟨a2, a3, a4⟩, a5, a7, a8, a9, a10, a12⟩ := h
  exact ⟨fun a ha => a1 a (kp0_kpA a ha), ⟨a2, a3⟩, a5, a7, a8, a9, a10⟩
theorem rest.im {S S' : kSt} (h : rest S S') (hi : imgs S) : imgs S' := by
  obtain ⟨a1, ⟨a2, a3, a4⟩, a5, a7, a8, a9, a10, a12⟩ := h
  obtain ⟨i1, i2, i3⟩ := hi
  refine ⟨(kB_c a12).mpr i1, by rw [a4, a12]; exact i2, fun i hi => ?_⟩
  rw [gN_c a12] at hi
  have h3 : gN S 14 23 ≤ 3 := i1.2
  have h70 : kpA (70 + i) = true := by
    have : ∀ i, i < 3 → kpA (70 + i) = true := by decide +kernel
    exact this i (by omega)
  have := i3 i hi
  exact ⟨rowEq_c (fun k _ => by rw [a1 63 rfl]) (fun j => by rw [a1 _ h70]) this.1, rowOk_c (fun k _ => by rw [a1 63 rfl]) (by rw [a1 57 rfl]) this.2⟩
theorem Inv.im {S : kSt} (h : Inv S) : imgs S := h.2.2.2.2.2
theorem Inv.hi {S : kSt} (h : Inv S) : hist S := h.2.2.2.2.1
theorem cOk.now {S : kSt} (h : cOk S) : nowE S := ⟨fun p hp => (h.2.2.1 p hp).2.2.2, fun j hj => (h.2.2.2.1 j hj).2, h.2.2.2.2.2.2⟩
theorem mOk.row {S : kSt} (h : mOk S) : rowOk S 61 0 := h.2.2.2.2.2.2.2.2.2
theorem mOk_61 {S S' : kSt} (h : mOk S) (h57 : S'.1 57 = S.1 57) (h59 : S'.1 59 = S.1 59) (ho : rowOk S' 61 0) : mOk S' := by
  obtain ⟨m1, m2, m3, m4, m5, m6, m7, m8, m9, m10⟩ := h
  have e : ∀ j, S'.1 57 j = S.1 57 j := fun j => by rw [h57]
  have g : ∀ j, gN S' 57 j = gN S 57 j := fun j => gN_c (e j)
  have b : ∀ j b, kB S' 57 j b ↔ kB S 57 j b := fun j b => kB_c (e j)
  refine ⟨?_, ?_, ?_, ?_, ?_, ?_, ?_, ?_, rowOk_c (fun k _ => by rw [h59]) (e 0) m9, ho⟩
  · simp only [g, b]; exact m1
  · simp only [b]; exact m2
  · simp only [g, b]; exact m3
  · simp only [b]; exact m4
  · simp only [b]; exact m5
  · simp only [b]; exact m6
  · simp only [g, b]; exact m7
  · simp only [g, b]; exact m8
theorem act_inv {S S' : kSt} (hI : Inv S) (hb : hB S = true) (hr : rest0 S S') (hi : imgs S') (hh : hist S') (hn : nowE S') (ho : rowOk S' 61 0) (ht : S'.1 0 18 = S'.1 14 11) (h4 : ¬ S'.1 14 11 = 4) : Inv S' := by
  have hm := hB_ok hI hb
  obtain ⟨⟨⟨i1, i2⟩, i3⟩, ⟨b, i4, i5, i6, i7⟩, i8, ⟨i9, i10, i11⟩, -, -⟩ := hI
  obtain ⟨a1, ⟨a2, a3⟩, ⟨a5, a6⟩, a7, a8, a9, a10⟩ := hr
  have e57 : S'.1 57 = S.1 57 := a1 57 rfl
  have e59 : S'.1 59 = S.1 59 := a1 59 rfl
  refine ⟨⟨⟨(kB_c a7).mpr i1, by rw [a2, a7]; exact i2⟩, fun j hj => ?_⟩, ⟨b, by rw [a10]; exact i4, by rw [a3]; exact i5, fun _ => mOk_61 hm e57 e59 ho, fun q => ?_⟩, ?_, ⟨ht, by rw [a5, a8]; exact i10, fun q => absurd q h4⟩, hh, hi⟩
  · have := i3 j hj
    exact ⟨(kB_c (by rw [a1 55 rfl])).mpr this.1, by rw [a1 15 rfl, a1 55 rfl]; exact this.2⟩
  · exfalso
    have h1 := of_decide_eq_true hb
    rw [i4, q] at h1
    exact absurd h1 (by decide)
  · obtain ⟨c1, c2, c3, c4, c5, c6, c7⟩ := i8
    obtain ⟨n1, n2, n3⟩ := hn
    have g : ∀ j, gN S' 57 j = gN S 57 j := fun j => gN_c (by rw [e57])
    refine ⟨fun i hi => ?_, fun p hp => ?_, fun p hp => ?_, fun j hj => ?_, fun k hk => ?_, fun k hk => ?_, n3⟩
    · rw [a1 1 rfl, e57]; exact c1 i hi
    · rw [g] at hp; rw [a1 18 rfl, e57]; exact c2 p hp
    · have := c3 p hp
      exact ⟨by rw [a1 21 rfl, e57]; exact this.1, by rw [a1 19 rfl, e59]; exact this.2.1, by rw [a1 20 rfl, e59]; exact this.2.2.1, n1 p hp⟩
    · exact ⟨by rw [a1 22 rfl, e59]; exact (c4 j hj).1, n2 j hj⟩
    · rw [g] at hk; rw [a1 23 rfl, a1 24 rfl, e57]; exact c5 k hk
    · rw [g] at hk; rw [a1 25 rfl, a1 26 rfl, a1 27 rfl, e57]; exact c6 k hk
/-- the class behind its part of an act -/
def Cact (S T : kSt) : Prop := (∀ a, a ≠ 0 → a ≠ 5 → a ≠ 73 + gN S 5 1 → a ≠ 4 → ¬ (40 ≤ a ∧ a ≤ 42) → csc a = false → T.1 a = S.1 a) ∧ ((∀ j, j ≠ 18 → T.1 0 j = S.1 0 j) ∧ T.1 0 18 = 0) ∧ T.1 5 1 = nI ((gN S 5 1 + 1) % 16) ∧ T.1 5 2 = nI (min (gN S 14 22 + 1) 16) ∧ (∀ j, j < 35 → T.1 (73 + gN S 5 1) (j + 1) = S.1 61 j) ∧ T.1 (73 + gN S 5 1) 0 = S.1 61 35
def Mact (S T T' : kSt) : Prop := (∀ a, a ≠ 14 → a ≠ 61 → a ≠ 62 → T'.1 a = T.1 a) ∧ ((∀ j, j ≠ 0 → j ≠ 11 → j ≠ 22 → T'.1 14 j = S.1 14 j) ∧ T'.1 14 11 = 0) ∧ T'.1 14 22 = nI (min (gN S 14 22 + 1) 16) ∧ (∀ k, k < 36 → T'.1 62 (36 * (if gN S 14 22 = 16 then 15 else gN S 14 22) + k) = S.1 61 k) ∧ ∀ k, k < 36 * (if gN S 14 22 = 16 then 15 else gN S 14 22) → T'.1 62 k = S.1 62 (if gN S 14 22 = 16 then k + 36 else k)
theorem act_push {S T T' : kSt} (hI : Inv S) (hb : hB S = true) (hC : Cact S T) (hM : Mact S T T') (hn : nowE T') (ho : rowOk T' 61 0) : Inv T' := by
  have hm := hB_ok hI hb
  have f15 : gN S 5 1 ≤ 15 := hI.hi.2.2.1.2
  obtain ⟨c1, ⟨c2, c3⟩, c4, c5, c6, c7⟩ := hC
  obtain ⟨m1, ⟨m2, m3⟩, m4, m5, m6⟩ := hM
  have hk : ∀ a, kpA a = true → T'.1 a = S.1 a := by
    intro a ha
    have hd : a < 73 ∧ a ≠ 0 ∧ a ≠ 5 ∧ a ≠ 4 ∧ ¬ (40 ≤ a ∧ a ≤ 42) ∧ a ≠ 14 ∧ a ≠ 61 ∧ a ≠ 62 := by
      unfold kpA at ha
      simp only [Bool.or_eq_true, Bool.and_eq_true, decide_eq_true_eq, beq_iff_eq] at ha
      omega
    rw [m1 a hd.2.2.2.2.2.1 hd.2.2.2.2.2.2.1 hd.2.2.2.2.2.2.2]
    exact c1 a hd.2.1 hd.2.2.1 (by omega) hd.2.2.2.1 hd.2.2.2.2.1 (csc_kpc a (kpA_kpc a ha))
  have h0 : ∀ j, j ≠ 18 → T'.1 0 j = S.1 0 j := fun j hj => by rw [m1 0 (by decide) (by decide) (by decide)]; exact c2 j hj
  have h3 : T'.1 3 = S.1 3 := by rw [m1 3 (by decide) (by decide) (by decide)]; exact c1 3 (by decide) (by decide) (by omega) (by decide) (by decide) rfl
  have h57 : T'.1 57 = S.1 57 := hk 57 rfl
  have hr : rest S T' := ⟨hk, ⟨h0 1 (by decide), h0 5 (by decide), h0 9 (by decide)⟩, ⟨by rw [h3], by rw [h3]⟩, m2 2 (by decide) (by decide) (by decide), m2 9 (by decide) (by decide) (by decide), m2 10 (by decide) (by decide) (by decide), m2 14 (by decide) (by decide) (by decide), m2 23 (by decide) (by decide) (by decide)⟩
  have e5 : T'.1 5 = T.1 5 := m1 5 (by decide) (by decide) (by decide)
  have eR : ∀ c, c < 16 → T'.1 (73 + c) = T.1 (73 + c) := fun c hc => m1 _ (by omega) (by omega) (by omega)
  refine act_inv hI hb hr.r0 (hr.im hI.im) ?_ hn ho ?_ ?_
  · refine hist_push hI.hi hm.row (by rw [h57]) (by rw [e5]; exact c4) (by rw [e5]; exact c5) m4 (fun c hc hcf j => ?_) ⟨fun j hj => ?_, ?_⟩ m5 m6
    · rw [eR c hc]
      have : csc (73 + c) = false := csc_kpc _ (by have := kpc_row (3 + c) (by omega); rw [show 73 + c = 70 + (3 + c) by omega]; exact this)
      rw [c1 (73 + c) (by omega) (by omega) (by omega) (by omega) (by omega) this]
    · rw [eR _ (by omega)]; exact c6 j hj
    · rw [eR _ (by omega)]; exact c7
  · rw [m1 0 (by decide) (by decide) (by decide), c3, m3]
  · rw [m3]; decide
theorem hist_k {S T : kSt} (hk : keep S T) (h : hist S) : hist T := by
  obtain ⟨k1, ⟨k2, k3, k4⟩, ⟨k5, k6⟩, k7, k8, k9, k10, k11, k12⟩ := id hk
  obtain ⟨i12, i13, i14, i15⟩ := h
  refine ⟨(kB_c k11).mpr i12, by rw [hk.at (a := 5) rfl, k11]; exact i13, (kB_c (hk.at (a := 5) rfl _)).mpr i14, fun i hi => ?_⟩
  rw [gN_c k11] at hi ⊢
  rw [hk.gn (a := 5) rfl]
  have hr : kpc (73 + (gN S 5 1 + 15 - i) % 16) = true := by
    have := kpc_row (3 + (gN S 5 1 + 15 - i) % 16) (by omega)
    rw [show 73 + (gN S 5 1 + 15 - i) % 16 = 70 + (3 + (gN S 5 1 + 15 - i) % 16) by omega]
    exact this
  have := i15 i hi
  exact ⟨(hk.req hr rfl).mpr this.1, (hk.row rfl).mpr this.2⟩
theorem c_act0 {S : kSt} (hI : Inv S) : ∃ T, f_m3_keep (kuI S 0 18 0) = some T ∧ Cact S T ∧ T.1 4 = S.1 4 ∧ T.1 40 = S.1 40 ∧ T.1 41 = S.1 41 ∧ T.1 42 = S.1 42 := by
  have hk : keep S (kuI S 0 18 0) := k018_keep
  have f15 : gN S 5 1 ≤ 15 := hI.hi.2.2.1.2
  obtain ⟨T, e1, e2, e3, e4, e5, e6⟩ := c_keep (hist_k hk hI.hi) (hk.ck.mpr hI.c).now
  rw [hk.gn (a := 5) rfl] at e2 e3 e5 e6
  have g22 : gN (kuI S 0 18 0) 14 22 = gN S 14 22 := gN_c (by rw [uI_get, if_neg (by omega)])
  rw [g22] at e4
  have hn : ∀ a, a ≠ 0 → (kuI S 0 18 0).1 a = S.1 a := fun a ha => kuI_ne S 18 0 ha
  refine ⟨T, e1, ⟨fun a h0 h5 h7 _ _ _ => ?_, ⟨fun j hj => ?_, ?_⟩, e3, e4, fun j hj => ?_, ?_⟩, ?_, ?_, ?_, ?_⟩
  · rw [e2 a h5 h7, hn a h0]
  · rw [e2 0 (by decide) (by omega), uI_get, if_neg (fun q => hj q.2)]
  · rw [e2 0 (by decide) (by omega), uI_get, if_pos ⟨rfl, rfl⟩]
  · rw [e5 j hj, hn 61 (by decide)]
  · rw [e6, hn 61 (by decide)]
  · rw [e2 4 (by decide) (by omega), hn 4 (by decide)]
  · rw [e2 40 (by decide) (by omega), hn 40 (by decide)]
  · rw [e2 41 (by decide) (by omega), hn 41 (by decide)]
  · rw [e2 42 (by decide) (by omega), hn 42 (by decide)]
theorem Cact.u {S T : kSt} (hI : Inv S) (h : Cact S T) {k : Nat} (hk : k = 4 ∨ 40 ≤ k ∧ k ≤ 42) (j : Nat) (x : Int32) : Cact S (kuI T k j x) := by
  have f15 : gN S 5 1 ≤ 15 := hI.hi.2.2.1.2
  obtain ⟨c1, ⟨c2, c3⟩, c4, c5, c6, c7⟩ := h
  have hn : ∀ a, a ≠ k → (kuI T k j x).1 a = T.1 a := fun a ha => kuI_ne T j x ha
  refine ⟨fun a h0 h5 h7 h4 h40 hc => ?_, ⟨fun i hi => ?_, ?_⟩, ?_, ?_, fun i hi => ?_, ?_⟩
  · rw [hn a (by omega)]; exact c1 a h0 h5 h7 h4 h40 hc
  · rw [hn 0 (by omega)]; exact c2 i hi
  · rw [hn 0 (by omega)]; exact c3
  · rw [hn 5 (by omega)]; exact c4
  · rw [hn 5 (by omega)]; exact c5
  · rw [hn _ (by omega)]; exact c6 i hi
  · rw [hn _ (by omega)]; exact c7
theorem m_act0 {S T : kSt} (hI : Inv S) (hC : Cact S T) : ∃ T', f_m11_note (kG0 T) = some T' ∧ Mact S T T' ∧ T'.1 61 = S.1 61 := by
  obtain ⟨c1, ⟨c2, c3⟩, c4, c5, c6, c7⟩ := hC
  have f15 : gN S 5 1 ≤ 15 := hI.hi.2.2.1.2
  obtain ⟨u1, u16⟩ := hI.hi.1
  have h14 : T.1 14 = S.1 14 := c1 14 (by decide) (by decide) (by omega) (by decide) (by decide) rfl
  have h61 : T.1 61 = S.1 61 := c1 61 (by decide) (by decide) (by omega) (by decide) (by decide) rfl
  have h62 : T.1 62 = S.1 62 := c1 62 (by decide) (by decide) (by omega) (by decide) (by decide) rfl
  have hg : ∀ a, a ≠ 14 → (kG0 T).1 a = T.1 a := fun a ha => by unfold kG0; rw [kuI_ne _ _ _ ha, kuI_ne _ _ _ ha]
  have hg14 : ∀ j, j ≠ 0 → j ≠ 11 → (kG0 T).1 14 j = S.1 14 j := fun j h0 h11 => by unfold kG0; rw [uI_get, if_neg (fun q => h11 q.2), uI_get, if_neg (fun q => h0 q.2), h14]
  obtain ⟨T', e1, e2, e3, e4, e5⟩ := m_note (S := kG0 T) (u := gN S 14 22) u16 (by rw [hg14 22 (by decide) (by decide)]; exact u1)
  refine ⟨T', e1, ⟨fun a h1 h2 h3 => ?_, ⟨fun j h0 h11 h22 => ?_, ?_⟩, e3, fun k hk => ?_, fun k hk => ?_⟩, ?_⟩
  · rw [e2.1 a h1 h3, hg a h1]
  · rw [e2.2 j h22, hg14 j h0 h11]
  · rw [e2.2 11 (by decide), kG0_11]
  · rw [e4 k hk, hg 61 (by decide), h61]
  · rw [e5 k hk, hg 62 (by decide), h62]
  · rw [e2.1 61 (by decide) (by decide), hg 61 (by decide), h61]
theorem Mact.u {S T T' : kSt} (h : Mact S T T') (j : Nat) (x : Int32) : Mact S T (kuI T' 61 j x) := by
  obtain ⟨m1, ⟨m2, m3⟩, m4, m5, m6⟩ := h
  have hn : ∀ a, a ≠ 61 → (kuI T' 61 j x).1 a = T'.1 a := fun a ha => kuI_ne T' j x ha
  refine ⟨fun a h1 h2 h3 => ?_, ⟨fun i h1 h2 h3 => ?_, ?_⟩, ?_, fun k hk => ?_, fun k hk => ?_⟩
  · rw [hn a h2]; exact m1 a h1 h2 h3
  · rw [hn 14 (by decide)]; exact m2 i h1 h2 h3
  · rw [hn 14 (by decide)]; exact m3
  · rw [hn 14 (by decide)]; exact m4
  · rw [hn 62 (by decide)]; exact m5 k hk
  · rw [hn 62 (by decide)]; exact m6 k hk
/-- bounds of a row, place by place -/
def okV (S : kSt) (k : Nat) (x : Int32) : Prop := ∃ n, x = nI n ∧ (k < 5 → n ≤ gN S 57 0) ∧ (5 ≤ k → k < 10 → n ≤ 20) ∧ (10 ≤ k → k < 35 → n ≤ 99) ∧ (10 ≤ k → k < 35 → (k - 10) % 6 = 0 → n = 0) ∧ n ≤ 999
theorem rowOk_of {S : kSt} {c : Nat} (hw : gN S 57 0 ≤ 99) (h : ∀ k, k < 36 → okV S k (S.1 c k)) : rowOk S c 0 := by
  refine ⟨fun p hp => ⟨?_, ?_⟩, fun j hj => ?_, fun p hp => ?_, ?_⟩
  · obtain ⟨n, h1, h2, -⟩ := h p (by omega)
    rw [Nat.zero_add]
    exact kB_of h1 (h2 hp) (by omega)
  · obtain ⟨n, h1, -, h2, -⟩ := h (5 + p) (by omega)
    rw [Nat.zero_add]
    exact kB_of h1 (h2 (by omega) (by omega)) (by omega)
  · obtain ⟨n, h1, -, -, h2, -⟩ := h (10 + j) (by omega)
    rw [Nat.zero_add]
    exact kB_of h1 (h2 (by omega) (by omega)) (by omega)
  · obtain ⟨n, h1, -, -, -, h2, -⟩ := h (10 + 6 * p) (by omega)
    rw [Nat.zero_add, h1, h2 (by omega) (by omega) (by omega)]
    rfl
  · obtain ⟨n, h1, -, -, -, -, h2⟩ := h 35 (by omega)
    rw [Nat.zero_add]
    exact kB_of h1 h2 (by omega)
theorem rowOk_at {S : kSt} {c : Nat} (hw : gN S 57 0 ≤ 99) (h : rowOk S c 0) : ∀ k, k < 36 → okV S k (S.1 c k) := by
  obtain ⟨h1, h2, h3, h4⟩ := h
  simp only [Nat.zero_add] at h1 h2 h3 h4
  intro k hk
  by_cases a : k < 5
  · obtain ⟨⟨b1, b2⟩, -⟩ := h1 k a
    exact ⟨_, b1, fun _ => b2, fun q => by omega, fun q => by omega, fun q => by omega, by omega⟩
  · by_cases b : k < 10
    · obtain ⟨-, b1, b2⟩ := h1 (k - 5) (by omega)
      rw [show 5 + (k - 5) = k by omega] at b1 b2
      exact ⟨_, b1, fun q => by omega, fun _ _ => b2, fun q => by omega, fun q => by omega, by omega⟩
    · by_cases c0 : k < 35
      · obtain ⟨b1, b2⟩ := h2 (k - 10) (by omega)
        rw [show 10 + (k - 10) = k by omega] at b1 b2
        refine ⟨_, b1, fun q => by omega, fun _ q => by omega, fun _ _ => b2, fun _ _ q => ?_, by omega⟩
        have h5 := h3 ((k - 10) / 6) (by omega)
        rw [show 10 + 6 * ((k - 10) / 6) = k by omega] at h5
        exact gN_of (n := 0) h5 (by omega)
      · obtain ⟨b1, b2⟩ := h4
        rw [show k = 35 by omega]
        exact ⟨_, b1, fun q => by omega, fun _ q => by omega, fun _ q => by omega, fun _ q => by omega, b2⟩
theorem rowOk_u {S S' : kSt} (hm : mOk S) (h57 : S'.1 57 0 = S.1 57 0) {j : Nat} (h : ∀ k, k ≠ j → S'.1 61 k = S.1 61 k) (hj : okV S j (S'.1 61 j)) : rowOk S' 61 0 := by
  have g : gN S' 57 0 = gN S 57 0 := gN_c h57
  have e : ∀ k x, okV S k x → okV S' k x := fun k x q => by unfold okV at *; rw [g]; exact q
  refine rowOk_of (by rw [g]; exact hm.1.2.2) (fun k hk => e k _ ?_)
  by_cases q : k = j
  · rw [q]; exact hj
  · rw [h k q]; exact rowOk_at hm.1.2.2 hm.row k hk
