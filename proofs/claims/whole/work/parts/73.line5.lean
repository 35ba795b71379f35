-- pair
section LI5
variable {t : Nat → Nat} {n : Nat}
theorem DR_pair {C M D E : kSt} {P U H g f st s1 L : Nat} {aS aL : Nat → Nat} (hd : DR t n P U H aS aL C M) (hP5 : P < 5) (hg : g ≤ 3) (hf : f ≤ gN M 58 0) (hst : st ≤ 20) (hL1 : 1 ≤ L) (hL8 : L ≤ 8) (hLn : s1 + L ≤ n) (hlt : ∀ k, k < L → ltB (t (s1 + k)) = true)
    (e58 : ∀ j, E.1 58 j = if j = 2 then M.1 58 2 + 1 else if j = 8 + P then nI g else if j = 50 + P then nI L else if 55 + 8 * P ≤ j ∧ j < 55 + 8 * P + L then nI (t (s1 + (j - (55 + 8 * P)))) else M.1 58 j)
    (e60 : ∀ j, E.1 60 j = if j = P then nI f else if j = 5 + P then nI st else M.1 60 j)
    (dC : ∀ a j, a ≠ 3 → D.1 a j = if a = 2 ∧ j = 2 then C.1 2 2 + 1 else if a = 30 ∧ j = P then nI st else if a = 29 ∧ j = P then nI f else if a = 28 ∧ j = P then nI g else if a = 39 ∧ j = P then nI L else if a = 38 ∧ j = P then nI s1 else C.1 a j) : DR t n (P + 1) U H (fun p => if p = P then s1 else aS p) (fun p => if p = P then L else aL p) D E := by
  have hW9 : gN M 58 0 ≤ 99 := hd.1.2.2.2.2.1.2.2
  have h582 := hd.1.1.2
  have c58 : ∀ j, j ≠ 2 → j ≠ 8 + P → j < 50 → E.1 58 j = M.1 58 j := fun j j1 j2 j3 => by rw [e58, if_neg j1, if_neg j2, if_neg (by omega), if_neg (by omega)]
  have c582 : E.1 58 2 = M.1 58 2 + 1 := by rw [e58, if_pos rfl]
  have c58p : E.1 58 (8 + P) = nI g := by rw [e58, if_neg (by omega), if_pos rfl]
  have d2 : ∀ j, j ≠ 2 → D.1 2 j = C.1 2 j := fun j hj => by rw [dC 2 j (by decide), if_neg (by omega), if_neg (by omega), if_neg (by omega), if_neg (by omega), if_neg (by omega), if_neg (by omega)]
  have d22 : D.1 2 2 = C.1 2 2 + 1 := by rw [dC 2 2 (by decide), if_pos ⟨rfl, rfl⟩]
  have dN : ∀ a j, a ≠ 2 → a ≠ 3 → j ≠ P → D.1 a j = C.1 a j := fun a j h1 h2 h3 => by rw [dC a j h2, if_neg (by omega), if_neg (by omega), if_neg (by omega), if_neg (by omega), if_neg (by omega), if_neg (by omega)]
  have dd : ∀ a, a ≠ 2 → a ≠ 3 → a ≠ 28 → a ≠ 29 → a ≠ 30 → a ≠ 38 → a ≠ 39 → D.1 a = C.1 a := fun a h1 h2 h3 h4 h5 h6 h7 => funext fun j => by rw [dC a j h2, if_neg (by omega), if_neg (by omega), if_neg (by omega), if_neg (by omega), if_neg (by omega), if_neg (by omega)]
  have d30 : D.1 30 P = nI st := by rw [dC 30 P (by decide), if_neg (by omega), if_pos ⟨rfl, rfl⟩]
  have d29 : D.1 29 P = nI f := by rw [dC 29 P (by decide), if_neg (by omega), if_neg (by omega), if_pos ⟨rfl, rfl⟩]
  have d28 : D.1 28 P = nI g := by rw [dC 28 P (by decide), if_neg (by omega), if_neg (by omega), if_neg (by omega), if_pos ⟨rfl, rfl⟩]
  have d39 : D.1 39 P = nI L := by rw [dC 39 P (by decide), if_neg (by omega), if_neg (by omega), if_neg (by omega), if_neg (by omega), if_pos ⟨rfl, rfl⟩]
  have d38 : D.1 38 P = nI s1 := by rw [dC 38 P (by decide), if_neg (by omega), if_neg (by omega), if_neg (by omega), if_neg (by omega), if_neg (by omega), if_pos ⟨rfl, rfl⟩]
  have hW : gN E 58 0 = gN M 58 0 := gN_c (c58 0 (by omega) (by omega) (by omega))
  obtain ⟨z1, z2, z3, z4, z5, z6, z7, z8, z9⟩ := hd
  refine ⟨dA_u (i0 := 2) z1 (by omega) (by omega) (fun j j1 j2 => c58 j j2 (by omega) (by omega)) d2 c582 d22 ⟨by omega, by rw [c582, h582, nI_1]⟩ ⟨z1.2.1.1, by rw [c58 5 (by omega) (by omega) (by omega)]; exact z1.2.1.2⟩ ⟨z1.2.2.1.1, by rw [c58 6 (by omega) (by omega) (by omega)]; exact z1.2.2.1.2⟩, fun p hp => ?_, dE_c z3 (fun j _ _ => c58 j (by omega) (by omega) (by omega)) (dd 31 (by decide) (by decide) (by decide) (by decide) (by decide) (by decide) (by decide)), fun p hp => ?_, dO_c z5 (fun j j1 j2 => by rw [e60, if_neg (by omega), if_neg (by omega)]) (dd 32 (by decide) (by decide) (by decide) (by decide) (by decide) (by decide) (by decide)), dU_c z6 (by omega) (fun j _ _ => c58 j (by omega) (by omega) (by omega)) (dd 33 (by decide) (by decide) (by decide) (by decide) (by decide) (by decide) (by decide)) (dd 34 (by decide) (by decide) (by decide) (by decide) (by decide) (by decide) (by decide)), dHd_c z7 (by omega) (fun j _ _ => c58 j (by omega) (by omega) (by omega)) (dd 35 (by decide) (by decide) (by decide) (by decide) (by decide) (by decide) (by decide)) (dd 36 (by decide) (by decide) (by decide) (by decide) (by decide) (by decide) (by decide)) (dd 37 (by decide) (by decide) (by decide) (by decide) (by decide) (by decide) (by decide)), fun p hp => ?_, fun p hp => ?_, fun p h1 h2 => ?_⟩
  · by_cases q : p = P
    · subst q
      exact ⟨kB_of c58p hg (by omega), fun _ => by rw [d28, c58p]⟩
    · exact ⟨(kB_c (c58 _ (by omega) (by omega) (by omega))).mpr (z2 p hp).1, fun h => by rw [dN 28 p (by decide) (by decide) q, c58 _ (by omega) (by omega) (by omega)]; exact (z2 p hp).2 (by omega)⟩
  · obtain ⟨y1, y2, y3, y4⟩ := z4 p hp
    rw [hW]
    by_cases q : p = P
    · subst q
      have c60 : E.1 60 p = nI f := by rw [e60, if_pos rfl]
      have c60' : E.1 60 (5 + p) = nI st := by rw [e60, if_neg (by omega), if_pos rfl]
      exact ⟨by rw [d29, c60], by rw [d30, c60'], kB_of c60 hf (by omega), kB_of c60' hst (by omega)⟩
    · have c60 : E.1 60 p = M.1 60 p := by rw [e60, if_neg q, if_neg (by omega)]
      have c60' : E.1 60 (5 + p) = M.1 60 (5 + p) := by rw [e60, if_neg (by omega), if_neg (by omega)]
      exact ⟨by rw [dN 29 p (by decide) (by decide) q, c60]; exact y1, by rw [dN 30 p (by decide) (by decide) q, c60']; exact y2, (kB_c c60).mpr y3, (kB_c c60').mpr y4⟩
  · by_cases q : p = P
    · subst q
      simp only [if_true]
      exact ⟨d38, d39, hL1, hL8, hLn, hlt⟩
    · simp only [if_neg q]
      rw [dN 38 p (by decide) (by decide) q, dN 39 p (by decide) (by decide) q]
      exact z8 p (by omega)
  · by_cases q : p = P
    · subst q
      simp only [if_true]
      refine ⟨by rw [e58, if_neg (by omega), if_neg (by omega), if_pos rfl], fun k hk => ?_⟩
      rw [e58, if_neg (by omega), if_neg (by omega), if_neg (by omega), if_pos (by omega)]
      congr 3
      omega
    · simp only [if_neg q]
      have h8 := (z8 p (by omega)).2.2.2.1
      refine ⟨by rw [e58, if_neg (by omega), if_neg (by omega), if_neg (by omega), if_neg (by omega)]; exact (z9.1 p (by omega)).1, fun k hk => ?_⟩
      rw [e58, if_neg (by omega), if_neg (by omega), if_neg (by omega), if_neg (by omega)]
      exact (z9.1 p (by omega)).2 k hk
  · rw [e58, if_neg (by omega), if_neg (by omega), if_neg (by omega), if_neg (by omega)]
    exact z9.2 p (by omega) h2
def lwN (t : Nat → Nat) (n s : Nat) : Int32 := if wq t n s 8 = true then 0 else if wq t n s 9 = true then 1 else if wq t n s 10 = true then 2 else if wq t n s 11 = true then 3 else -1
theorem lwN_v (s : Nat) : lwN t n s = -1 ∨ ∃ g, g ≤ 3 ∧ lwN t n s = nI g := by
  unfold lwN
  by_cases h8 : wq t n s 8 = true
  · rw [if_pos h8]; exact Or.inr ⟨0, by omega, rfl⟩
  · rw [if_neg h8]
    by_cases h9 : wq t n s 9 = true
    · rw [if_pos h9]; exact Or.inr ⟨1, by omega, rfl⟩
    · rw [if_neg h9]
      by_cases h10 : wq t n s 10 = true
      · rw [if_pos h10]; exact Or.inr ⟨2, by omega, rfl⟩
      · rw [if_neg h10]
        by_cases h11 : wq t n s 11 = true
        · rw [if_pos h11]; exact Or.inr ⟨3, by omega, rfl⟩
        · rw [if_neg h11]; exact Or.inl rfl
theorem c_law {C : kSt} {s : Nat} (h : cR t n C s) : f_m7_lawOfWord C = some (lwN t n s, C) := by
  have w8 := c_isWord (i := 8) (by omega) h
  have w9 := c_isWord (i := 9) (by omega) h
  have w10 := c_isWord (i := 10) (by omega) h
  have w11 := c_isWord (i := 11) (by omega) h
  unfold f_m7_lawOfWord lwN
  simp only [w8, w9, w10, w11, Option.bind_some]
  cases wq t n s 8 <;> cases wq t n s 9 <;> cases wq t n s 10 <;> cases wq t n s 11 <;> rfl
-- the reference's new name
theorem m_nnL {L s P : Nat} (hL : L ≤ 8) (hP : P < 5) (K : kSt → Option kSt) : ∀ (d k fu : Nat) (M : kSt), k + d = L → d < fu → M.1 14 8 = nI L → (∀ j, j < L → M.1 56 j = nI (t (s + j))) → ∃ M', f_m11_newName_L45 K (nI P) fu (nI k) M = K M' ∧ (∀ a, a ≠ 58 → M'.1 a = M.1 a) ∧ ∀ j, M'.1 58 j = if 55 + 8 * P + k ≤ j ∧ j < 55 + 8 * P + L then nI (t (s + (j - (55 + 8 * P)))) else M.1 58 j := by
  intro d
  induction d with
  | zero =>
    intro k fu M hk hfu h8 h56
    obtain ⟨fu, rfl⟩ : ∃ m, fu = m + 1 := ⟨fu - 1, by omega⟩
    refine ⟨M, ?_, fun _ _ => rfl, fun j => ?_⟩
    · rw [f_m11_newName_L45, h8, if_pos (nI_le (by omega) (by omega))]
    · rw [if_neg (by omega)]
  | succ d ih =>
    intro k fu M hk hfu h8 h56
    obtain ⟨fu, rfl⟩ : ∃ m, fu = m + 1 := ⟨fu - 1, by omega⟩
    rw [f_m11_newName_L45, h8, if_neg (nI_ge (by omega) (by omega)), kgi_nI (by omega) (by omega)]
    simp only [knx_e]
    rw [show 8 * nI P = nI (8 * P) from pk_mul 8 P, show 55 + nI (8 * P) = nI (55 + 8 * P) from nI_add 55 (8 * P), nI_add, kgi_nI (by omega) (by omega), nI_clamp (by omega), nI_clamp (by omega), h56 k (by omega), nI_1]
    obtain ⟨M', g1, g2, g3⟩ := ih (k + 1) fu (kuI M 58 (55 + 8 * P + k) (nI (t (s + k)))) (by omega) (by omega) (by rw [kuI_ne _ _ _ (by decide)]; exact h8) (fun j hj => by rw [kuI_ne _ _ _ (by decide)]; exact h56 j hj)
    refine ⟨M', g1, fun a ha => by rw [g2 a ha, kuI_ne _ _ _ ha], fun j => ?_⟩
    rw [g3 j, uI_get]
    by_cases q : j = 55 + 8 * P + k
    · rw [if_neg (by omega), if_pos ⟨rfl, q⟩, if_pos (by omega), q]
      congr 3
      omega
    · by_cases q2 : 55 + 8 * P + (k + 1) ≤ j ∧ j < 55 + 8 * P + L
      · rw [if_pos q2, if_pos (by omega)]
      · rw [if_neg q2, if_neg (fun h => q h.2), if_neg (by omega)]
theorem m_newName {M : kSt} {s P : Nat} {aS aL : Nat → Nat} (h : mR t n M s) (hC : ∀ p, p < P → 1 ≤ aL p ∧ aL p ≤ 8 ∧ aS p + aL p ≤ n) (hN : nmM t P aS aL M) (hP : P < 5) :
    (¬ (lexK t n s = 1 ∧ hdB t n s = false) → f_m11_newName (nI P) M = some (flM M 1 s)) ∧
    ((lexK t n s = 1 ∧ hdB t n s = false) → pnI t n s aS aL P < P → f_m11_newName (nI P) M = some (flM M 3 s)) ∧
    ((lexK t n s = 1 ∧ hdB t n s = false) → ¬ pnI t n s aS aL P < P → ∃ M', f_m11_newName (nI P) M = some M' ∧ mR t n M' (nxS t n s) ∧ (∀ a, a ≠ 14 → a ≠ 56 → a ≠ 58 → M'.1 a = M.1 a) ∧ (∀ j, ¬ (4 ≤ j ∧ j ≤ 10) → j ≠ 13 → M'.1 14 j = M.1 14 j) ∧ ∀ j, M'.1 58 j = if j = 50 + P then nI (lexE t n s - s) else if 55 + 8 * P ≤ j ∧ j < 55 + 8 * P + (lexE t n s - s) then nI (t (s + (j - (55 + 8 * P)))) else M.1 58 j) := by
  have hF := kFU_big
  obtain ⟨n1, n2⟩ := m_mustName h
  have hle : pnI t n s aS aL P ≤ 0 + P := fndP_le _ _ _
  refine ⟨fun q => ?_, fun q q2 => ?_, fun q q2 => ?_⟩
  · unfold f_m11_newName
    rw [kg0 h.ok]
    simp only [Bool.false_eq_true, if_false]
    rw [n2 q]
    simp only [Option.bind_some]
    rw [kg1 (flM_13 _ _ _)]
    simp only [knx_e, if_true]
    rw [kg1 (flM_13 _ _ _)]
    simp only [if_true]
  · unfold f_m11_newName
    rw [kg0 h.ok]
    simp only [Bool.false_eq_true, if_false]
    rw [n1 q]
    simp only [Option.bind_some]
    rw [kg0 h.ok]
    simp only [knx_e, Bool.false_eq_true, if_false]
    rw [m_find h q.1 hC hN (by omega)]
    simp only [Option.bind_some]
    rw [show fndP (smB t n s aS aL) P 0 = pnI t n s aS aL P from rfl, if_pos q2, if_neg (nI_pos (by omega)), h.at, show f_m11_wrong 3 (nI s) M = _ from m_wrg h.ok 3 s]
    simp only [Option.bind_some]
    rw [kg1 (flM_13 _ _ _)]
    simp only [if_true]
  · obtain ⟨h8, h56⟩ := h.2.2.2.2.2.1 q.1
    have hl8 := (lexK_1 q.1).2.1
    unfold f_m11_newName
    rw [kg0 h.ok]
    simp only [Bool.false_eq_true, if_false]
    rw [n1 q]
    simp only [Option.bind_some]
    rw [kg0 h.ok]
    simp only [knx_e, Bool.false_eq_true, if_false]
    rw [m_find h q.1 hC hN (by omega)]
    simp only [Option.bind_some]
    rw [show fndP (smB t n s aS aL) P 0 = pnI t n s aS aL P from rfl, if_neg q2, if_pos (show (-1 : Int32) < 0 by decide), kg0 h.ok]
    simp only [Bool.false_eq_true, if_false]
    rw [show (0 : Int32) = nI 0 from rfl]
    obtain ⟨M', g1, g2, g3⟩ := m_nnL (t := t) (s := s) hl8 hP (fun (S12 : kSt) => kgi (50 + nI P) 95 ((f_m11_next (kuI S12 58 (50 + nI P).toNatClampNeg (S12.1 14 8))).bind fun q15 => some q15)) (lexE t n s - s) 0 kFU M (by omega) (by omega) h8 h56
    rw [g1, show 50 + nI P = nI (50 + P) from nI_add 50 P, kgi_nI (by omega) (by omega), nI_clamp (by omega), g2 14 (by decide), h8]
    have hm' : mR t n (kuI M' 58 (50 + P) (nI (lexE t n s - s))) s := h.c (by rw [kuI_ne _ _ _ (by decide), g2 14 (by decide)]) (by rw [kuI_ne _ _ _ (by decide), g2 55 (by decide)]) (by rw [kuI_ne _ _ _ (by decide), g2 56 (by decide)])
    obtain ⟨M2, e1, e2, e3⟩ := hm'.nx
    rw [e1]
    refine ⟨M2, rfl, e2, fun a a1 a2 a3 => ?_, fun j j1 j2 => ?_, fun j => ?_⟩
    · rw [e3.1 a a1 a2, kuI_ne _ _ _ a3, g2 a a3]
    · rw [e3.2 j j1 j2, kuI_ne _ _ _ (by decide), g2 14 (by decide)]
    · rw [e3.1 58 (by decide) (by decide), uI_get, g3 j, Nat.add_zero]
      by_cases q3 : j = 50 + P
      · rw [if_pos ⟨rfl, q3⟩, if_pos q3]
      · rw [if_neg (fun h => q3 h.2), if_neg q3]
end LI5
