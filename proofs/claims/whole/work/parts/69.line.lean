-- what has been read so far
section LIN
variable {t : Nat → Nat} {n : Nat}
def dA (P U H : Nat) (C M : kSt) : Prop := (P ≤ 5 ∧ M.1 58 2 = nI P) ∧ (U ≤ 4 ∧ M.1 58 5 = nI U) ∧ (H ≤ 8 ∧ M.1 58 6 = nI H) ∧ (∀ i, i < 7 → C.1 2 i = M.1 58 i) ∧ (2 ≤ gN M 58 0 ∧ kB M 58 0 99) ∧ kB M 58 1 100 ∧ M.1 58 7 = 1
def dL (P : Nat) (C M : kSt) : Prop := ∀ p, p < 5 → kB M 58 (8 + p) 3 ∧ (p < P → C.1 28 p = M.1 58 (8 + p))
def dE (C M : kSt) : Prop := ∀ p, p < 5 → kB M 58 (13 + p) 9 ∧ C.1 31 p = M.1 58 (13 + p)
def dF (w : Nat) (C M : kSt) : Prop := ∀ p, p < 5 → C.1 29 p = M.1 60 p ∧ C.1 30 p = M.1 60 (5 + p) ∧ kB M 60 p w ∧ kB M 60 (5 + p) 20
def dO (C M : kSt) : Prop := (∀ j, j < 25 → C.1 32 j = M.1 60 (10 + j) ∧ kB M 60 (10 + j) 99) ∧ (∀ p, p < 5 → M.1 60 (10 + 6 * p) = 0) ∧ M.1 60 35 = 0
def dU (P U : Nat) (C M : kSt) : Prop := ∀ k, k < 4 → kB M 58 (18 + 2 * k) 4 ∧ kB M 58 (19 + 2 * k) 20 ∧ (k < U → C.1 33 k = M.1 58 (18 + 2 * k) ∧ C.1 34 k = M.1 58 (19 + 2 * k) ∧ gN M 58 (18 + 2 * k) < P ∧ ∀ i, i < k → ¬ gN M 58 (18 + 2 * i) = gN M 58 (18 + 2 * k))
def dHd (P H : Nat) (C M : kSt) : Prop := ∀ k, k < 8 → kB M 58 (26 + 3 * k) 4 ∧ kB M 58 (27 + 3 * k) 30 ∧ kB M 58 (28 + 3 * k) 99 ∧ (k < H → C.1 35 k = M.1 58 (26 + 3 * k) ∧ C.1 36 k = M.1 58 (27 + 3 * k) ∧ C.1 37 k = M.1 58 (28 + 3 * k) ∧ gN M 58 (26 + 3 * k) < P)
def DR (t : Nat → Nat) (n P U H : Nat) (aS aL : Nat → Nat) (C M : kSt) : Prop := dA P U H C M ∧ dL P C M ∧ dE C M ∧ dF (gN M 58 0) C M ∧ dO C M ∧ dU P U C M ∧ dHd P H C M ∧ nmC t n P aS aL C ∧ nmM t P aS aL M
theorem dA_u {P U H P' U' H' i0 : Nat} {C M D E : kSt} (h : dA P U H C M) (hi : 2 ≤ i0) (h6 : i0 ≤ 6) (e : ∀ j, j < 8 → j ≠ i0 → E.1 58 j = M.1 58 j) (c : ∀ j, j ≠ i0 → D.1 2 j = C.1 2 j) (ei : E.1 58 i0 = M.1 58 i0 + 1) (ci : D.1 2 i0 = C.1 2 i0 + 1) (hP : P' ≤ 5 ∧ E.1 58 2 = nI P') (hU : U' ≤ 4 ∧ E.1 58 5 = nI U') (hH : H' ≤ 8 ∧ E.1 58 6 = nI H') : dA P' U' H' D E := by
  obtain ⟨-, -, -, a4, a5, a6, a7⟩ := h
  refine ⟨hP, hU, hH, fun i q => ?_, ⟨by rw [gN_c (e 0 (by omega) (by omega))]; exact a5.1, (kB_c (e 0 (by omega) (by omega))).mpr a5.2⟩, (kB_c (e 1 (by omega) (by omega))).mpr a6, by rw [e 7 (by omega) (by omega)]; exact a7⟩
  by_cases r : i = i0
  · rw [r, ei, ci, a4 i0 (by omega)]
  · rw [e i (by omega) r, c i r, a4 i q]
theorem dA_c {P U H : Nat} {C M D E : kSt} (h : dA P U H C M) (e : ∀ j, j < 8 → E.1 58 j = M.1 58 j) (c : D.1 2 = C.1 2) : dA P U H D E := by
  obtain ⟨a1, a2, a3, a4, a5, a6, a7⟩ := h
  exact ⟨⟨a1.1, by rw [e 2 (by omega)]; exact a1.2⟩, ⟨a2.1, by rw [e 5 (by omega)]; exact a2.2⟩, ⟨a3.1, by rw [e 6 (by omega)]; exact a3.2⟩, fun i q => by rw [c, e i (by omega)]; exact a4 i q, ⟨by rw [gN_c (e 0 (by omega))]; exact a5.1, (kB_c (e 0 (by omega))).mpr a5.2⟩, (kB_c (e 1 (by omega))).mpr a6, by rw [e 7 (by omega)]; exact a7⟩
theorem dL_c {P : Nat} {C M D E : kSt} (h : dL P C M) (e : ∀ j, 8 ≤ j → j < 13 → E.1 58 j = M.1 58 j) (c : D.1 28 = C.1 28) : dL P D E := fun p hp => ⟨(kB_c (e _ (by omega) (by omega))).mpr (h p hp).1, fun q => by rw [c, e _ (by omega) (by omega)]; exact (h p hp).2 q⟩
theorem dE_c {C M D E : kSt} (h : dE C M) (e : ∀ j, 13 ≤ j → j < 18 → E.1 58 j = M.1 58 j) (c : D.1 31 = C.1 31) : dE D E := fun p hp => ⟨(kB_c (e _ (by omega) (by omega))).mpr (h p hp).1, by rw [c, e _ (by omega) (by omega)]; exact (h p hp).2⟩
theorem dF_c {w w' : Nat} {C M D E : kSt} (h : dF w C M) (hw : w' = w) (e : ∀ j, j < 10 → E.1 60 j = M.1 60 j) (c : D.1 29 = C.1 29) (c' : D.1 30 = C.1 30) : dF w' D E := by
  subst hw
  exact fun p hp => ⟨by rw [c, e _ (by omega)]; exact (h p hp).1, by rw [c', e _ (by omega)]; exact (h p hp).2.1, (kB_c (e _ (by omega))).mpr (h p hp).2.2.1, (kB_c (e _ (by omega))).mpr (h p hp).2.2.2⟩
theorem dO_c {C M D E : kSt} (h : dO C M) (e : ∀ j, 10 ≤ j → j < 36 → E.1 60 j = M.1 60 j) (c : D.1 32 = C.1 32) : dO D E := ⟨fun j hj => ⟨by rw [c, e _ (by omega) (by omega)]; exact (h.1 j hj).1, (kB_c (e _ (by omega) (by omega))).mpr (h.1 j hj).2⟩, fun p hp => by rw [e _ (by omega) (by omega)]; exact h.2.1 p hp, by rw [e _ (by omega) (by omega)]; exact h.2.2⟩
theorem dU_c {P P' U : Nat} {C M D E : kSt} (h : dU P U C M) (hP : P ≤ P') (e : ∀ j, 18 ≤ j → j < 26 → E.1 58 j = M.1 58 j) (c : D.1 33 = C.1 33) (c' : D.1 34 = C.1 34) : dU P' U D E := by
  intro k hk
  obtain ⟨h1, h2, h3⟩ := h k hk
  refine ⟨(kB_c (e _ (by omega) (by omega))).mpr h1, (kB_c (e _ (by omega) (by omega))).mpr h2, fun q => ?_⟩
  obtain ⟨h4, h5, h6, h7⟩ := h3 q
  refine ⟨by rw [c, e _ (by omega) (by omega)]; exact h4, by rw [c', e _ (by omega) (by omega)]; exact h5, ?_, fun i hi => ?_⟩
  · rw [gN_c (e _ (by omega) (by omega))]
    omega
  · rw [gN_c (e _ (by omega) (by omega)), gN_c (e _ (by omega) (by omega))]
    exact h7 i hi
theorem dHd_c {P P' H : Nat} {C M D E : kSt} (h : dHd P H C M) (hP : P ≤ P') (e : ∀ j, 26 ≤ j → j < 50 → E.1 58 j = M.1 58 j) (c : D.1 35 = C.1 35) (c' : D.1 36 = C.1 36) (c'' : D.1 37 = C.1 37) : dHd P' H D E := by
  intro k hk
  obtain ⟨h1, h2, h2', h3⟩ := h k hk
  refine ⟨(kB_c (e _ (by omega) (by omega))).mpr h1, (kB_c (e _ (by omega) (by omega))).mpr h2, (kB_c (e _ (by omega) (by omega))).mpr h2', fun q => ?_⟩
  obtain ⟨h4, h5, h6, h7⟩ := h3 q
  refine ⟨by rw [c, e _ (by omega) (by omega)]; exact h4, by rw [c', e _ (by omega) (by omega)]; exact h5, by rw [c'', e _ (by omega) (by omega)]; exact h6, ?_⟩
  rw [gN_c (e _ (by omega) (by omega))]
  omega
theorem nmC_c {P : Nat} {aS aL : Nat → Nat} {C D : kSt} (h : nmC t n P aS aL C) (c : D.1 38 = C.1 38) (c' : D.1 39 = C.1 39) : nmC t n P aS aL D := fun p hp => by
  rw [c, c']
  exact h p hp
theorem nmM_c {P : Nat} {aS aL : Nat → Nat} {M E : kSt} (hP : P ≤ 5) (hl : ∀ p, p < P → aL p ≤ 8) (h : nmM t P aS aL M) (e : ∀ j, 50 ≤ j → j < 95 → E.1 58 j = M.1 58 j) : nmM t P aS aL E := by
  refine ⟨fun p hp => ⟨by rw [e _ (by omega) (by omega)]; exact (h.1 p hp).1, fun k hk => ?_⟩, fun p h1 h2 => by rw [e _ (by omega) (by omega)]; exact h.2 p h1 h2⟩
  have := hl p hp
  rw [e _ (by omega) (by omega)]
  exact (h.1 p hp).2 k hk
theorem DR.c {P U H : Nat} {aS aL : Nat → Nat} {C M C' M' : kSt} (h : DR t n P U H aS aL C M) (hC : ∀ a, a = 2 ∨ (28 ≤ a ∧ a ≤ 39) → C'.1 a = C.1 a) (h58 : M'.1 58 = M.1 58) (h60 : M'.1 60 = M.1 60) : DR t n P U H aS aL C' M' := by
  obtain ⟨a1, a2, a3, a4, a5, a6, a7, a8, a9⟩ := h
  have e : ∀ j, M'.1 58 j = M.1 58 j := fun j => by rw [h58]
  have e' : ∀ j, M'.1 60 j = M.1 60 j := fun j => by rw [h60]
  exact ⟨dA_c a1 (fun j _ => e j) (hC 2 (by omega)), dL_c a2 (fun j _ _ => e j) (hC 28 (by omega)), dE_c a3 (fun j _ _ => e j) (hC 31 (by omega)), dF_c a4 (gN_c (e 0)) (fun j _ => e' j) (hC 29 (by omega)) (hC 30 (by omega)), dO_c a5 (fun j _ _ => e' j) (hC 32 (by omega)), dU_c a6 (Nat.le_refl _) (fun j _ _ => e j) (hC 33 (by omega)) (hC 34 (by omega)), dHd_c a7 (Nat.le_refl _) (fun j _ _ => e j) (hC 35 (by omega)) (hC 36 (by omega)) (hC 37 (by omega)), nmC_c a8 (hC 38 (by omega)) (hC 39 (by omega)), nmM_c a1.1.1 (fun p hp => (a8 p hp).2.2.2.1) a9 (fun j _ _ => e j)⟩
-- frames, outcomes
def frC (C C' : kSt) : Prop := ∀ a, a ≠ 2 → a ≠ 3 → ¬ (28 ≤ a ∧ a ≤ 39) → C'.1 a = C.1 a
def frR (M M' : kSt) : Prop := (∀ a, a ≠ 14 → a ≠ 56 → a ≠ 58 → a ≠ 60 → M'.1 a = M.1 a) ∧ ∀ j, ¬ (4 ≤ j ∧ j ≤ 10) → j ≠ 13 → M'.1 14 j = M.1 14 j
theorem frC.rf {C : kSt} : frC C C := fun _ _ _ _ => rfl
theorem frR.rf {M : kSt} : frR M M := ⟨fun _ _ _ _ _ => rfl, fun _ _ _ => rfl⟩
theorem frC.tr {C C1 C2 : kSt} (h1 : frC C C1) (h2 : frC C1 C2) : frC C C2 := fun a x y z => (h2 a x y z).trans (h1 a x y z)
theorem frR.tr {M M1 M2 : kSt} (h1 : frR M M1) (h2 : frR M1 M2) : frR M M2 := ⟨fun a x y z w => (h2.1 a x y z w).trans (h1.1 a x y z w), fun j x y => (h2.2 j x y).trans (h1.2 j x y)⟩
theorem eqC.fr {C C' : kSt} (h : eqC C C') : frC C C' := fun a _ h3 _ => h a h3
theorem eqM.fr {M M' : kSt} (h : eqM M M') : frR M M' := ⟨fun a x y _ _ => h.1 a x y, h.2⟩
theorem frC.u {C C' : kSt} (h : frC C C') {k : Nat} (hk : k = 2 ∨ k = 3 ∨ (28 ≤ k ∧ k ≤ 39)) (j : Nat) (x : Int32) : frC C (kuI C' k j x) := fun a a2 a3 a4 => by
  rw [kuI_ne _ _ _ (by omega)]
  exact h a a2 a3 a4
theorem frR.u {M M' : kSt} (h : frR M M') {k : Nat} (hk : k = 58 ∨ k = 60) (j : Nat) (x : Int32) : frR M (kuI M' k j x) := ⟨fun a x y z w => by rw [kuI_ne _ _ _ (by omega)]; exact h.1 a x y z w, fun i x y => by rw [kuI_ne _ _ _ (by omega)]; exact h.2 i x y⟩
theorem frC.fd {C C' : kSt} (h : frC C C') (k s : Nat) : frC C (fdC C' k s) := (h.u (by omega) _ _).u (by omega) _ _
theorem frR.fl {M M' : kSt} (h : frR M M') (k s : Nat) : frR M (flM M' k s) := by
  refine ⟨fun a x y z w => ?_, fun i x y => ?_⟩
  · unfold flM
    rw [kuI_ne _ _ _ x, kuI_ne _ _ _ x, kuI_ne _ _ _ x]
    exact h.1 a x y z w
  · unfold flM
    rw [uI_no _ _ (by omega), uI_no _ _ (by omega), uI_no _ _ (by omega)]
    exact h.2 i x y
def Fail (C M : kSt) : Prop := ∃ k s : Nat, C.1 3 9 = nI k ∧ C.1 3 10 = nI s ∧ M.1 14 13 = 1 ∧ M.1 14 9 = nI k ∧ M.1 14 10 = nI s
def Sim (t : Nat → Nat) (n s0 : Nat) (C M : kSt) (oc : Option (Bool × kSt)) (om : Option kSt) : Prop := ∃ C' M', om = some M' ∧ frC C C' ∧ frR M M' ∧ ((oc = some (true, C') ∧ ∃ s', s0 ≤ s' ∧ cR t n C' s' ∧ mR t n M' s' ∧ ∃ P U H aS aL, DR t n P U H aS aL C' M') ∨ (oc = some (false, C') ∧ Fail C' M'))
theorem fail_of (C M : kSt) (k s : Nat) : Fail (fdC C k s) (flM M k s) := by
  refine ⟨k, s, ?_, ?_, flM_13 M k s, ?_, ?_⟩
  · unfold fdC
    rw [uI_no _ _ (by omega), uI_at]
  · unfold fdC
    rw [uI_at]
  · unfold flM
    rw [uI_no _ _ (by omega), uI_at]
  · unfold flM
    rw [uI_at]
theorem sim_fail {s0 : Nat} {C M C1 M1 : kSt} (hC : frC C C1) (hM : frR M M1) (k s : Nat) : Sim t n s0 C M (some (false, fdC C1 k s)) (some (flM M1 k s)) := ⟨_, _, rfl, hC.fd k s, hM.fl k s, Or.inr ⟨rfl, fail_of C1 M1 k s⟩⟩
theorem nxS_ge {s : Nat} (h : s ≤ n) : s ≤ nxS t n s := Nat.le_trans (lexE_b h).1 (nxS_b h).1
-- a pair that was told
def pnI (t : Nat → Nat) (n s : Nat) (aS aL : Nat → Nat) (P : Nat) : Nat := fndP (smB t n s aS aL) P 0
def pq (t : Nat → Nat) (n s : Nat) (aS aL : Nat → Nat) (P : Nat) : Nat := if lexK t n s = 1 ∧ hdB t n s = false then (if pnI t n s aS aL P < P then 0 else 2) else 1
theorem pq_0 {s P : Nat} {aS aL : Nat → Nat} (h : pq t n s aS aL P = 0) : pnI t n s aS aL P < P := by
  unfold pq at h
  by_cases h1 : lexK t n s = 1 ∧ hdB t n s = false
  · rw [if_pos h1] at h
    by_cases h2 : pnI t n s aS aL P < P
    · exact h2
    · rw [if_neg h2] at h; omega
  · rw [if_neg h1] at h; omega
theorem c_seen {C M : kSt} {s P U H : Nat} {aS aL : Nat → Nat} (h : cR t n C s) (hd : DR t n P U H aS aL C M) : (pq t n s aS aL P = 0 → f_m7_seenPair C = some (nI (pnI t n s aS aL P), C)) ∧ (¬ pq t n s aS aL P = 0 → f_m7_seenPair C = some (-1, fdC C (pq t n s aS aL P) s)) := by
  have h4 := lexK_4 (t := t) (n := n) s
  obtain ⟨hA, -, -, -, -, -, -, hN, -⟩ := hd
  have h22 : C.1 2 2 = nI P := by rw [hA.2.2.2.1 2 (by omega)]; exact hA.1.2
  have hle : pnI t n s aS aL P ≤ 0 + P := fndP_le _ _ _
  have hP := hA.1.1
  unfold f_m7_seenPair pq
  simp only [knx_e]
  rw [h.2.2.2.2.1, kite (show nI (lexK t n s) = 1 ↔ lexK t n s = 1 from nI_eq (b := 1) (by omega) (by omega)), show (f_m7_found 1 C) = _ from c_found h 1]
  simp only [Option.bind_some]
  by_cases hK : lexK t n s = 1
  · rw [if_pos hK, c_head h]
    simp only [Option.bind_some]
    cases hh : hdB t n s
    · rw [if_neg (show ¬ (false = true) by decide), if_pos (show lexK t n s = 1 ∧ false = false from ⟨hK, rfl⟩), c_pairOfName h hK hN hP h22]
      simp only [Option.bind_some]
      by_cases q : pnI t n s aS aL P < P
      · rw [if_pos q, show fndP (smB t n s aS aL) P 0 = pnI t n s aS aL P from rfl, if_pos q, if_pos (nI_pos' (by omega))]
        exact ⟨fun _ => rfl, fun q => absurd rfl q⟩
      · rw [if_neg q, show fndP (smB t n s aS aL) P 0 = pnI t n s aS aL P from rfl, if_neg q, if_neg (by decide), show (f_m7_found 2 C) = _ from c_found h 2]
        exact ⟨fun q => absurd q (by decide), fun _ => rfl⟩
    · rw [if_pos rfl, if_neg (fun q => absurd q.2 (by decide)), show (f_m7_found 1 C) = _ from c_found h 1]
      exact ⟨fun q => absurd q (by decide), fun _ => rfl⟩
  · rw [if_neg hK, if_neg (fun q => hK q.1)]
    exact ⟨fun q => absurd q (by decide), fun _ => rfl⟩
theorem m_pairH {C M : kSt} {s P U H : Nat} {aS aL : Nat → Nat} (h : mR t n M s) (hd : DR t n P U H aS aL C M) : (pq t n s aS aL P = 0 → f_m11_pairHere M = some (nI (pnI t n s aS aL P), M)) ∧ (¬ pq t n s aS aL P = 0 → f_m11_pairHere M = some (0, flM M (pq t n s aS aL P) s)) := by
  obtain ⟨hA, -, -, -, -, -, -, hN, hN2⟩ := hd
  have hle : pnI t n s aS aL P ≤ 0 + P := fndP_le _ _ _
  have hP := hA.1.1
  obtain ⟨n1, n2⟩ := m_mustName h
  unfold f_m11_pairHere pq
  rw [kg0 h.ok]
  simp only [Bool.false_eq_true, if_false]
  by_cases hK : lexK t n s = 1 ∧ hdB t n s = false
  · rw [if_pos hK, n1 hK]
    simp only [Option.bind_some]
    rw [kg0 h.ok]
    simp only [Bool.false_eq_true, if_false]
    rw [m_find h hK.1 (fun p hp => ⟨(hN p hp).2.2.1, (hN p hp).2.2.2.1, (hN p hp).2.2.2.2.1⟩) hN2 hP]
    simp only [Option.bind_some, knx_e]
    by_cases q : pnI t n s aS aL P < P
    · rw [if_pos q, show fndP (smB t n s aS aL) P 0 = pnI t n s aS aL P from rfl, if_pos q, if_pos (nI_pos' (by omega)), kg0 h.ok]
      exact ⟨fun _ => rfl, fun q => absurd rfl q⟩
    · rw [if_neg q, show fndP (smB t n s aS aL) P 0 = pnI t n s aS aL P from rfl, if_neg q, if_neg (by decide), h.at, show f_m11_wrong 2 (nI s) M = _ from m_wrg h.ok 2 s]
      simp only [Option.bind_some]
      rw [kg1 (flM_13 M 2 s)]
      exact ⟨fun q => absurd q (by decide), fun _ => rfl⟩
  · rw [if_neg hK, n2 hK]
    simp only [Option.bind_some]
    rw [kg1 (flM_13 M 1 s)]
    exact ⟨fun q => absurd q (by decide), fun _ => rfl⟩
end LIN
