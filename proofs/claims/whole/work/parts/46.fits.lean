-- which sets fit
def alF (P : Nat → Bool) : Nat → Nat → Bool
  | 0, _ => true
  | j + 1, i => P i && alF P j (i + 1)
theorem alF_iff (P : Nat → Bool) : ∀ j i, alF P j i = true ↔ ∀ k, i ≤ k → k < i + j → P k = true
  | 0, i => by
    constructor
    · intro _ k h1 h2
      omega
    · intro _
      rfl
  | j + 1, i => by
    rw [alF, Bool.and_eq_true, alF_iff P j (i + 1)]
    constructor
    · rintro ⟨h1, h2⟩ k h3 h4
      by_cases h : k = i
      · rw [h]; exact h1
      · exact h2 k (by omega) (by omega)
    · intro h
      exact ⟨h i (by omega) (by omega), fun k h1 h2 => h k (by omega) (by omega)⟩
theorem fnd_m2 (P : Nat → Bool) : ∀ j i, i + j < 2 ^ 31 → (fnd P j i = -2 ↔ alF (fun k => !P k) j i = true)
  | 0, i, _ => by simp [fnd, alF]
  | j + 1, i, h => by
    rw [fnd, alF]
    cases hp : P i
    · rw [if_neg (by decide)]
      have := fnd_m2 P j (i + 1) (by omega)
      simpa using this
    · rw [if_pos rfl]
      simp only [Bool.not_true, Bool.false_and]
      constructor
      · intro q
        exfalso
        have h1 := nI_pos' (n := i) (by omega)
        rw [q] at h1
        exact absurd h1 (by decide)
      · intro q
        cases q
/-- the reference's scratch -/
def frM (S T : kSt) : Prop := (∀ a, a ≠ 14 → ¬ (64 ≤ a ∧ a < 70) → T.1 a = S.1 a) ∧ ∀ j, j < 24 → T.1 14 j = S.1 14 j
theorem frM.rf {S : kSt} : frM S S := ⟨fun _ _ _ => rfl, fun _ _ => rfl⟩
theorem frM.tr {S T U : kSt} (h1 : frM S T) (h2 : frM T U) : frM S U := ⟨fun a ha hb => (h2.1 a ha hb).trans (h1.1 a ha hb), fun j hj => (h2.2 j hj).trans (h1.2 j hj)⟩
theorem kpc_m : ∀ a, kpc a = true → a ≠ 14 ∧ ¬ (64 ≤ a ∧ a < 70) := by
  intro a h
  refine ⟨fun q => ?_, fun q => ?_⟩
  · rw [q] at h
    cases h
  · have : ∀ a, a < 70 → 64 ≤ a → kpc a = false := by decide +kernel
    rw [this a q.2 q.1] at h
    cases h
theorem frM.kp {S T : kSt} (h : frM S T) : keep S T ∧ T.1 14 11 = S.1 14 11 ∧ T.1 0 18 = S.1 0 18 := by
  have e0 := h.1 0 (by decide) (by decide)
  have e3 := h.1 3 (by decide) (by decide)
  refine ⟨⟨fun a ha => h.1 a (kpc_m a ha).1 (kpc_m a ha).2, ?_, ?_, ?_⟩, h.2 11 (by decide), by rw [e0]⟩
  · rw [e0]; exact ⟨rfl, rfl, rfl⟩
  · rw [e3]; exact ⟨rfl, rfl⟩
  · exact ⟨h.2 2 (by decide), h.2 9 (by decide), h.2 10 (by decide), h.2 14 (by decide), h.2 22 (by decide), h.2 23 (by decide)⟩
theorem frM.u {S T : kSt} (h : frM S T) {k : Nat} (hk : 64 ≤ k ∧ k < 70) (j : Nat) (x : Int32) : frM S (kuI T k j x) := ⟨fun a ha hb => by rw [kuI_ne T j x (fun q => hb (by rw [q]; exact hk))]; exact h.1 a ha hb, fun i hi => by rw [uI_get, if_neg (by omega)]; exact h.2 i hi⟩
theorem frM.u14 {S T : kSt} (h : frM S T) {j : Nat} (hj : 24 ≤ j) (x : Int32) : frM S (kuI T 14 j x) := ⟨fun a ha hb => by rw [kuI_ne T j x ha]; exact h.1 a ha hb, fun i hi => by rw [uI_get, if_neg (by omega)]; exact h.2 i hi⟩
theorem body_cm {ρ : Type} {cb mb : kSt → Option (ρ × kSt)} {S : kSt} (r : ρ) (hc : ∃ S1, cb S = some (r, S1) ∧ frc S S1) (hm : ∀ T, keep S T → ∃ T', mb T = some (r, T') ∧ frM T T') : Body cb mb S := by
  obtain ⟨S1, h1, h2⟩ := hc
  refine ⟨r, ⟨S1, h1, h2.kp⟩, fun T hk => ?_⟩
  obtain ⟨T', e1, e2⟩ := hm T hk
  exact ⟨T', e1, e2.kp⟩
theorem ag_gen {ρ : Type} {f g : kSt → Option (ρ × kSt)} {S : kSt} (hI : Inv S) (h : ∃ r S1 S2, f S = some (r, S1) ∧ keep S S1 ∧ g S1 = some (r, S2) ∧ keep S1 S2 ∧ S2.1 0 18 = S2.1 14 11 ∧ (S2.1 14 11 = 4 → S.1 14 11 = 4)) : Agree f g S := by
  obtain ⟨r, S1, S2, h1, h2, h3, h4, h5, h6⟩ := h
  exact ⟨r, S1, S2, h1, h3, (h2.tr h4).inv hI h5 h6⟩
-- sets that fit
def fB (S : kSt) (set : Nat) : Bool := alF (fun h => !hW S set h) (gN S 57 6) 0
def lsF (S : kSt) : Nat → List Nat
  | 0 => []
  | n + 1 => if fB S n then lsF S n ++ [n] else lsF S n
def LF (S : kSt) : List Nat := lsF S (2 ^ gN S 57 5)
theorem alF_c {P Q : Nat → Bool} (h : ∀ i, P i = Q i) : ∀ j i, alF P j i = alF Q j i
  | 0, _ => rfl
  | j + 1, i => by rw [alF, alF, h i, alF_c h j]
theorem fB_k {S T : kSt} (hk : keep S T) (set : Nat) : fB T set = fB S set := by
  unfold fB
  rw [hk.gn (a := 57) rfl, alF_c (fun i => by rw [hW_k hk])]
theorem lsF_k {S T : kSt} (hk : keep S T) : ∀ n, lsF T n = lsF S n
  | 0 => rfl
  | n + 1 => by rw [lsF, lsF, lsF_k hk n, fB_k hk]
theorem LF_k {S T : kSt} (hk : keep S T) : LF T = LF S := by
  unfold LF
  rw [lsF_k hk, hk.gn (a := 57) rfl]
theorem lsF_len (S : kSt) : ∀ n, (lsF S n).length ≤ n
  | 0 => Nat.le_refl _
  | n + 1 => by
    have := lsF_len S n
    rw [lsF]
    split
    · rw [List.length_append, List.length_singleton]; omega
    · omega
theorem lsF_lt (S : kSt) : ∀ n x, x ∈ lsF S n → x < n
  | 0, x, h => by cases h
  | n + 1, x, h => by
    rw [lsF] at h
    split at h
    · rw [List.mem_append, List.mem_singleton] at h
      rcases h with h | h
      · have := lsF_lt S n x h; omega
      · omega
    · have := lsF_lt S n x h; omega
theorem p2U {S : kSt} (h : mOk S) : 2 ^ gN S 57 5 ≤ 16 := by
  have := h.uns.2
  have h2 : ∀ u, u ≤ 4 → 2 ^ u ≤ 16 := by decide
  exact h2 _ this
theorem shlU : ∀ u, u ≤ 4 → (1 : Int32) <<< (nI u &&& 31) = nI (2 ^ u) := by decide +kernel
def fdF (L : List Nat) (w : Int32) : Int32 := if w < 0 then -1 else match L[w.toNatClampNeg]? with
  | some x => nI x
  | none => -1
theorem fdF_app {L : List Nat} (hL : L.length < 2 ^ 31) (w : Int32) (n : Nat) : fdF (L ++ [n]) w = if nI L.length = w then nI n else fdF L w := by
  unfold fdF
  by_cases h0 : w < 0
  · rw [if_pos h0, if_pos h0, if_neg]
    intro q
    rw [← q] at h0
    exact nI_pos hL h0
  · rw [if_neg h0, if_neg h0]
    obtain ⟨j, hj, rfl⟩ := nI_of h0
    rw [nI_clamp hj, kite (nI_eq hL hj)]
    by_cases h1 : L.length = j
    · rw [if_pos h1, List.getElem?_append_right (by omega), h1, Nat.sub_self]
      rfl
    · rw [if_neg h1]
      by_cases h2 : j < L.length
      · rw [List.getElem?_append_left h2]
      · rw [List.getElem?_eq_none (by rw [List.length_append, List.length_singleton]; omega), List.getElem?_eq_none (by omega)]
def orF (L : List Nat) : Int32 := L.foldl (fun a s => a ||| nI s) 0
def anF (L : List Nat) (U : Nat) : Int32 := L.foldl (fun a s => a &&& nI s) (nI (2 ^ U) - 1)
def ofF (L : List Nat) (k : Nat) : Nat := L.foldl (fun a s => a + s / 2 ^ k % 2) 0
theorem m_seekZ {S : kSt} (K : kSt → Option (Int32 × kSt)) (c1 c2 : Int32) : ∀ (j i fu : Nat) (T : kSt), i + j = 4 → j < fu → frM S T → (∀ k, k < i → T.1 66 k = 0) → ∃ T', f_m11_seekSets_L28 K c1 c2 fu (nI i) T = K T' ∧ frM S T' ∧ T'.1 14 = T.1 14 ∧ ∀ k, k < 4 → T'.1 66 k = 0 := by
  intro j
  induction j with
  | zero =>
    intro i fu T hi hfu hf hz
    obtain ⟨fu, rfl⟩ : ∃ m, fu = m + 1 := ⟨fu - 1, by omega⟩
    rw [f_m11_seekSets_L28, if_pos (show (4 : Int32) ≤ nI i from nI_le (a := 4) (by omega) (by omega))]
    exact ⟨T, rfl, hf, rfl, fun k hk => hz k (by omega)⟩
  | succ j ih =>
    intro i fu T hi hfu hf hz
    obtain ⟨fu, rfl⟩ : ∃ m, fu = m + 1 := ⟨fu - 1, by omega⟩
    rw [f_m11_seekSets_L28, if_neg (show ¬ (4 : Int32) ≤ nI i from nI_ge (b := 4) (by omega) (by omega)), kgi_nI (by omega) (by omega), nI_clamp (by omega)]
    simp only [knx_e]
    rw [nI_1]
    obtain ⟨T', e1, e2, e3, e4⟩ := ih (i + 1) fu (kuI T 66 i 0) (by omega) (by omega) (hf.u (by decide) _ _) (fun k hk => by
      rw [uI_get]
      by_cases h : k = i
      · rw [if_pos ⟨rfl, h⟩]
      · rw [if_neg (fun q => h q.2)]
        exact hz k (by omega))
    exact ⟨T', e1, e2, e3.trans (kuI_ne T i 0 (by decide)), e4⟩
theorem m_seekO {S : kSt} (hm : mOk S) (K : kSt → Option (Int32 × kSt)) (c1 c2 : Int32) {set : Nat} (hs : set < 16) {c : Nat → Nat} : ∀ (j i fu : Nat) (T : kSt), i + j = gN S 57 5 → j < fu → frM S T → (∀ k, k < gN S 57 5 → T.1 66 k = nI (if k < i then c k + set / 2 ^ k % 2 else c k)) → ∃ T', f_m11_seekSets_L116 K c1 c2 (nI set) fu (nI i) T = K T' ∧ frM S T' ∧ T'.1 14 = T.1 14 ∧ ∀ k, k < gN S 57 5 → T'.1 66 k = nI (c k + set / 2 ^ k % 2) := by
  intro j
  have hU := hm.uns.1
  have hU4 := hm.uns.2
  induction j with
  | zero =>
    intro i fu T hi hfu hf hz
    obtain ⟨fu, rfl⟩ : ∃ m, fu = m + 1 := ⟨fu - 1, by omega⟩
    rw [f_m11_seekSets_L116, hf.1 57 (by decide) (by decide), hU, if_pos (nI_le (by omega) (by omega))]
    refine ⟨T, rfl, hf, rfl, fun k hk => ?_⟩
    rw [hz k hk, if_pos (by omega)]
  | succ j ih =>
    intro i fu T hi hfu hf hz
    obtain ⟨fu, rfl⟩ : ∃ m, fu = m + 1 := ⟨fu - 1, by omega⟩
    rw [f_m11_seekSets_L116, hf.1 57 (by decide) (by decide), hU, if_neg (nI_ge (by omega) (by omega)), kgi_nI (by omega) (by omega), kgi_nI (by omega) (by omega), nI_clamp (by omega)]
    simp only [knx_e]
    rw [nI_1, tb_bit set (by omega) i (by omega), hz i (by omega), if_neg (by omega), nI_add]
    obtain ⟨T', e1, e2, e3, e4⟩ := ih (i + 1) fu (kuI T 66 i (nI (c i + set / 2 ^ i % 2))) (by omega) (by omega) (hf.u (by decide) _ _) (fun k hk => by
      rw [uI_get]
      by_cases h : k = i
      · rw [if_pos ⟨rfl, h⟩, if_pos (by omega), h]
      · rw [if_neg (fun q => h q.2), hz k hk]
        by_cases h2 : k < i
        · rw [if_pos h2, if_pos (by omega)]
        · rw [if_neg h2, if_neg (by omega)])
    exact ⟨T', e1, e2, e3.trans (kuI_ne T i _ (by decide)), e4⟩
def skS (T : kSt) (L : List Nat) (U : Nat) : Prop := T.1 14 31 = nI L.length ∧ T.1 14 32 = orF L ∧ T.1 14 33 = anF L U ∧ ∀ k, k < U → T.1 66 k = nI (ofF L k)
theorem m_seekL {S : kSt} (hm : mOk S) (w : Int32) (K : Int32 → kSt → Option (Int32 × kSt)) : ∀ (j i fu : Nat) (T : kSt), i + j = 2 ^ gN S 57 5 → j < fu → frM S T → skS T (lsF S i) (gN S 57 5) → ∃ T', f_m11_seekSets_L48 K w fu (fdF (lsF S i) w) (nI i) T = K (fdF (LF S) w) T' ∧ frM S T' ∧ skS T' (LF S) (gN S 57 5) := by
  intro j
  have hU := hm.uns.1
  have hU4 := hm.uns.2
  have h16 := p2U hm
  induction j with
  | zero =>
    intro i fu T hi hfu hf hz
    obtain ⟨fu, rfl⟩ : ∃ m, fu = m + 1 := ⟨fu - 1, by omega⟩
    rw [f_m11_seekSets_L48, hf.1 57 (by decide) (by decide), hU, shlU _ hU4, if_pos (nI_le (by omega) (by omega))]
    unfold LF
    rw [show 2 ^ gN S 57 5 = i by omega]
    exact ⟨T, rfl, hf, hz⟩
  | succ j ih =>
    intro i fu T hi hfu hf hz
    obtain ⟨fu, rfl⟩ : ∃ m, fu = m + 1 := ⟨fu - 1, by omega⟩
    have hFU := kFU_big
    have hk := hf.kp.1
    have hlen := lsF_len S i
    rw [f_m11_seekSets_L48]
    generalize kFU = FU at hFU ⊢
    rw [hf.1 57 (by decide) (by decide), hU, shlU _ hU4, if_neg (nI_ge (by omega) (by omega)), m_wrong (hk.mk.mpr hm) (by omega), fnd_c (hW_k hk i), hk.gn (a := 57) rfl]
    simp only [Option.bind_some, knx_e]
    rw [kite (fnd_m2 (hW S i) (gN S 57 6) 0 (by have := hm.hrs.2; omega))]
    show ∃ T', (if fB S i = true then _ else _) = _ ∧ _
    cases hb : fB S i
    · rw [if_neg (by decide), nI_1]
      have := ih (i + 1) fu T (by omega) (by omega) hf (by rw [lsF, hb]; exact hz)
      rw [lsF, hb] at this
      exact this
    · rw [if_pos rfl, hz.1]
      have hl : lsF S (i + 1) = lsF S i ++ [i] := by rw [lsF, hb]; rfl
      have e : ∀ x : Int32, ∃ T', f_m11_seekSets_L116 (fun S22 => f_m11_seekSets_L48 K w fu x (nI i + 1) S22) w x (nI i) FU 0 (kuI (kuI (kuI T 14 31 (T.1 14 31 + 1)) 14 32 ((kuI T 14 31 (T.1 14 31 + 1)).1 14 32 ||| nI i)) 14 33 ((kuI (kuI T 14 31 (T.1 14 31 + 1)) 14 32 ((kuI T 14 31 (T.1 14 31 + 1)).1 14 32 ||| nI i)).1 14 33 &&& nI i)) = f_m11_seekSets_L48 K w fu x (nI (i + 1)) T' ∧ frM S T' ∧ skS T' (lsF S (i + 1)) (gN S 57 5) := by
        intro x
        obtain ⟨T', e1, e2, e3, e4⟩ := m_seekO hm (fun S22 => f_m11_seekSets_L48 K w fu x (nI i + 1) S22) w x (set := i) (by omega) (c := fun k => ofF (lsF S i) k) (gN S 57 5) 0 FU (kuI (kuI (kuI T 14 31 (T.1 14 31 + 1)) 14 32 ((kuI T 14 31 (T.1 14 31 + 1)).1 14 32 ||| nI i)) 14 33 ((kuI (kuI T 14 31 (T.1 14 31 + 1)) 14 32 ((kuI T 14 31 (T.1 14 31 + 1)).1 14 32 ||| nI i)).1 14 33 &&& nI i)) (by omega) (by omega) (((hf.u14 (by decide) _).u14 (by decide) _).u14 (by decide) _) (fun k hk => by
          rw [if_neg (by omega)]
          simp only [uI_get]
          exact hz.2.2.2 k hk)
        rw [nI_0] at e1
        refine ⟨T', by rw [e1, nI_1], e2, ?_⟩
        obtain ⟨z1, z2, z3, z4⟩ := hz
        rw [hl]
        refine ⟨?_, ?_, ?_, fun k hk => ?_⟩
        · rw [e3, List.length_append, List.length_singleton, ← nI_1, ← z1]
          simp [uI_get]
        · rw [e3]
          unfold orF
          rw [List.foldl_append]
          show _ = orF (lsF S i) ||| nI i
          rw [← z2]
          simp [uI_get]
        · rw [e3]
          unfold anF
          rw [List.foldl_append]
          show _ = anF (lsF S i) (gN S 57 5) &&& nI i
          rw [← z3]
          simp [uI_get]
        · rw [e4 k hk]
          unfold ofF
          rw [List.foldl_append]
          rfl
      rw [hz.1] at e
      by_cases hw : nI (lsF S i).length = w
      · rw [if_pos hw]
        obtain ⟨T', e1, e2, e3⟩ := e (nI i)
        rw [e1]
        have := ih (i + 1) fu T' (by omega) (by omega) e2 e3
        rw [hl, fdF_app (by omega), if_pos hw] at this
        exact this
      · rw [if_neg hw]
        obtain ⟨T', e1, e2, e3⟩ := e (fdF (lsF S i) w)
        rw [e1]
        have := ih (i + 1) fu T' (by omega) (by omega) e2 e3
        rw [hl, fdF_app (by omega), if_neg hw] at this
        exact this
def suF (L : List Nat) (U : Nat) : Int32 := if L.length = 0 then 0 else anF L U
theorem m_seek {S T : kSt} (hm : mOk S) (hk : keep S T) (w : Int32) : ∃ T', f_m11_seekSets w T = some (fdF (LF S) w, T') ∧ frM T T' ∧ T'.1 14 31 = nI (LF S).length ∧ T'.1 14 32 = orF (LF S) ∧ T'.1 14 33 = suF (LF S) (gN S 57 5) ∧ ∀ k, k < gN S 57 5 → T'.1 66 k = nI (ofF (LF S) k) := by
  have hmT := hk.mk.mpr hm
  have hU := hmT.uns.1
  have hU4 := hmT.uns.2
  have h16 := p2U hmT
  have hFU := kFU_big
  unfold f_m11_seekSets
  simp only [knx_e]
  generalize kFU = FU at hFU ⊢
  have e57 : (kuI (kuI T 14 31 0) 14 32 0).1 57 5 = T.1 57 5 := by simp [uI_get]
  rw [e57, hU, shlU _ hU4]
  obtain ⟨T1, e1, e2, e3, e4⟩ := m_seekZ (S := T) (fun S7 => f_m11_seekSets_L48 (fun x24 S25 => if S25.1 14 31 = 0 then some (x24, kuI S25 14 33 0) else some (x24, S25)) w FU (-1) 0 S7) w (-1) 4 0 FU (kuI (kuI (kuI T 14 31 0) 14 32 0) 14 33 (nI (2 ^ gN T 57 5) - 1)) (by omega) (by omega) (((frM.rf.u14 (by decide) _).u14 (by decide) _).u14 (by decide) _) (fun k hk => absurd hk (by omega))
  rw [nI_0] at e1
  obtain ⟨T2, g1, g2, g3⟩ := m_seekL hmT w (fun x24 S25 => if S25.1 14 31 = 0 then some (x24, kuI S25 14 33 0) else some (x24, S25)) (2 ^ gN T 57 5) 0 FU T1 (by omega) (by omega) e2 (by
    refine ⟨?_, ?_, ?_, fun k hk => e4 k (by omega)⟩
    · rw [e3]; simp [uI_get, lsF, nI_0]
    · rw [e3]; simp [uI_get, lsF, orF]
    · rw [e3]; simp [uI_get, lsF, anF])
  have e0 : fdF (lsF T 0) w = -1 := by
    unfold fdF
    simp [lsF]
  rw [nI_0, e0] at g1
  rw [e1, g1]
  obtain ⟨z1, z2, z3, z4⟩ := g3
  rw [LF_k hk] at z1 z2 z3 z4 ⊢
  rw [hk.gn (a := 57) rfl] at z3 z4
  have hlen : (LF S).length ≤ 16 := Nat.le_trans (lsF_len S _) (p2U hm)
  have hz : T2.1 14 31 = 0 ↔ (LF S).length = 0 := by
    rw [z1, show (0 : Int32) = nI 0 from rfl]
    exact nI_eq (by omega) (by omega)
  rw [kite hz]
  unfold suF
  by_cases h0 : (LF S).length = 0
  · rw [if_pos h0, if_pos h0]
    refine ⟨_, rfl, g2.u14 (by decide) _, ?_, ?_, ?_, fun k hk => ?_⟩
    · rw [uI_get, if_neg (by decide)]; exact z1
    · rw [uI_get, if_neg (by decide)]; exact z2
    · rw [uI_get, if_pos ⟨rfl, rfl⟩]
    · rw [uI_get, if_neg (by omega)]; exact z4 k hk
  · rw [if_neg h0, if_neg h0]
    exact ⟨T2, rfl, g2, z1, z2, z3, z4⟩
