-- rounds, the reference
section RM
variable {S : kSt} {p : Nat}
def frG (S S' : kSt) : Prop := (∀ a, a ≠ 14 → a ≠ 64 → a ≠ 65 → S'.1 a = S.1 a) ∧ ∀ j, ¬ (26 ≤ j ∧ j ≤ 29) → S'.1 14 j = S.1 14 j
theorem frG.rf {S : kSt} : frG S S := ⟨fun _ _ _ _ => rfl, fun _ _ => rfl⟩
theorem frG.tr {S S1 S2 : kSt} (h1 : frG S S1) (h2 : frG S1 S2) : frG S S2 := ⟨fun a x y z => (h2.1 a x y z).trans (h1.1 a x y z), fun j hj => (h2.2 j hj).trans (h1.2 j hj)⟩
theorem frG.u {S S' : kSt} (h : frG S S') {k j : Nat} (hk : k = 64 ∨ k = 65 ∨ (k = 14 ∧ 26 ≤ j ∧ j ≤ 29)) (x : Int32) : frG S (kuI S' k j x) := by
  refine ⟨fun a a1 a2 a3 => ?_, fun i hi => ?_⟩
  · rw [kuI_ne _ _ _ (by omega)]
    exact h.1 a a1 a2 a3
  · rw [uI_no _ _ (by omega)]
    exact h.2 i hi
theorem frG.kp {S S' : kSt} (h : frG S S') : keep S S' ∧ S'.1 14 11 = S.1 14 11 ∧ S'.1 0 18 = S.1 0 18 := by
  have e0 := h.1 0 (by decide) (by decide) (by decide)
  have e3 := h.1 3 (by decide) (by decide) (by decide)
  refine ⟨⟨fun a ha => h.1 a ?_ ?_ ?_, ?_, ?_, ?_⟩, h.2 11 (by omega), by rw [e0]⟩
  · rintro rfl; exact absurd ha (by decide)
  · rintro rfl; exact absurd ha (by decide)
  · rintro rfl; exact absurd ha (by decide)
  · rw [e0]; exact ⟨rfl, rfl, rfl⟩
  · rw [e3]; exact ⟨rfl, rfl⟩
  · exact ⟨h.2 2 (by omega), h.2 9 (by omega), h.2 10 (by omega), h.2 14 (by omega), h.2 22 (by omega), h.2 23 (by omega)⟩
theorem m_rsL (K : kSt → Option kSt) (c1 c2 : Int32) : ∀ (d k fu : Nat) (U : kSt), k + d = 900 → d < fu → (∀ j, j < k → U.1 65 j = -1) → ∃ U', f_m11_goRound_L28 K c1 c2 fu (nI k) U = K U' ∧ (∀ j, j < 900 → U'.1 65 j = -1) ∧ frG U U' := by
  intro d
  induction d with
  | zero =>
    intro k fu U hk hfu hj
    obtain ⟨fu, rfl⟩ : ∃ q, fu = q + 1 := ⟨fu - 1, by omega⟩
    refine ⟨U, ?_, fun j q => hj j (by omega), frG.rf⟩
    rw [f_m11_goRound_L28, if_pos (show (900 : Int32) ≤ nI k from nI_le (a := 900) (by omega) (by omega))]
  | succ d ih =>
    intro k fu U hk hfu hj
    obtain ⟨fu, rfl⟩ : ∃ q, fu = q + 1 := ⟨fu - 1, by omega⟩
    rw [f_m11_goRound_L28, if_neg (show ¬ (900 : Int32) ≤ nI k from nI_ge (b := 900) (by omega) (by omega)), kgi_nI (by omega) (by omega), nI_clamp (by omega)]
    simp only [knx_e]
    rw [nI_1]
    obtain ⟨U', g1, g2, g3⟩ := ih (k + 1) fu (kuI U 65 k (-1)) (by omega) (by omega) (fun j q => by
      rw [uI_get]
      by_cases e : j = k
      · rw [if_pos ⟨rfl, e⟩]
      · rw [if_neg (fun h => e h.2)]
        exact hj j (by omega))
    exact ⟨U', g1, g2, (frG.rf.u (by omega) _).tr g3⟩
theorem m_grL (hm : mOk S) (hp : p < 5) {m F L A : Nat} (hR : RP S p m F L A) (K : Int32 → Int32 → kSt → Option kSt) : ∀ (d c fu : Nat) (U : kSt), c + d = m → d < fu → frG S U → (∀ i, i < c → U.1 65 (sq S p i) = nI i ∧ U.1 64 i = nI (sayS S p i)) → (∀ x, x < 900 → (∀ i, i < c → ¬ sq S p i = x) → U.1 65 x = -1) → ∃ U', f_m11_goRound_L74 K (nI p) (nI (stT S p)) fu (nI (sayS S p c)) (nI c) (nI (sq S p c)) U = K (nI m) (nI (sq S p m)) U' ∧ frG S U' ∧ U'.1 65 (sq S p m) = nI F ∧ ∀ i, i < m → U'.1 64 i = nI (sayS S p i) := by
  obtain ⟨⟨hF, hm9, hFm, hdis⟩, -⟩ := hR
  have ht := stT_b hm hp
  have hse := hm.sea
  have hst := (hm.f61 hp).2
  have hev := (hm.2.2.2.2.2.1 p hp).2
  have h35 : S.1 61 35 = nI (gN S 61 35) := by
    have := hm.row.2.2.2.1
    rw [Nat.zero_add] at this
    exact this
  intro d
  induction d with
  | zero =>
    intro c fu U hc hfu hU h1 h2
    obtain ⟨fu, rfl⟩ : ∃ q, fu = q + 1 := ⟨fu - 1, by omega⟩
    have e : c = m := by omega
    subst e
    have h65 : U.1 65 (sq S p c) = nI F := by rw [← hFm]; exact (h1 F hF).1
    have hq := (sq_lt hm hp c).1
    refine ⟨U, ?_, hU, h65, fun i hi => (h1 i hi).2⟩
    rw [f_m11_goRound_L74, kgi_nI hq (by omega), nI_clamp (by omega), h65, if_pos (nI_pos' (by omega))]
  | succ d ih =>
    intro c fu U hc hfu hU h1 h2
    obtain ⟨fu, rfl⟩ : ∃ q, fu = q + 1 := ⟨fu - 1, by omega⟩
    have hq := (sq_lt hm hp c).1
    have h65 : U.1 65 (sq S p c) = -1 := h2 _ hq (fun i hi e => hdis i c hi (by omega) e)
    have kg : ∀ o : Option kSt, kgi (nI (sq S p c)) 900 o = o := fun o => kgi_nI hq (by omega)
    have kg2 : ∀ o : Option kSt, kgi (nI c) 2600 o = o := fun o => kgi_nI (by omega) (by omega)
    have kg3 : ∀ o : Option kSt, kgi (nI (5 + p)) 36 o = o := fun o => kgi_nI (by omega) (by omega)
    have kg4 : ∀ o : Option kSt, kgi (nI (13 + p)) 95 o = o := fun o => kgi_nI (by omega) (by omega)
    have kg5 : ∀ o : Option kSt, kgz (nI (stT S p)) o = o := fun o => kgz_nI (by omega) (by omega)
    have c1 : (nI (sq S p c)).toNatClampNeg = sq S p c := nI_clamp (by omega)
    have c2 : (nI c).toNatClampNeg = c := nI_clamp (by omega)
    have c3 : (nI (5 + p)).toNatClampNeg = 5 + p := nI_clamp (by omega)
    have c4 : (nI (13 + p)).toNatClampNeg = 13 + p := nI_clamp (by omega)
    rw [f_m11_goRound_L74]
    simp only [knx_e, kg, kg2, nI5, nI13, kg3, kg4, kg5, c1, c2, c3, c4]
    rw [h65, if_neg (by decide), nI_1]
    have hU2 : frG S (kuI (kuI U 65 (sq S p c) (nI c)) 64 c (nI (sayS S p c))) := (hU.u (by omega) _).u (by omega) _
    have x65 : ∀ x, (kuI (kuI U 65 (sq S p c) (nI c)) 64 c (nI (sayS S p c))).1 65 x = if x = sq S p c then nI c else U.1 65 x := fun x => by
      rw [uI_no _ _ (by omega), uI_get]
      by_cases e : x = sq S p c
      · rw [if_pos ⟨rfl, e⟩, if_pos e]
      · rw [if_neg (fun h => e h.2), if_neg e]
    have x64 : ∀ x, (kuI (kuI U 65 (sq S p c) (nI c)) 64 c (nI (sayS S p c))).1 64 x = if x = c then nI (sayS S p c) else U.1 64 x := fun x => by
      rw [uI_get, uI_no _ _ (show ¬ ((64 : Nat) = 65 ∧ x = sq S p c) by omega)]
      by_cases e : x = c
      · rw [if_pos ⟨rfl, e⟩, if_pos e]
      · rw [if_neg (fun h => e h.2), if_neg e]
    generalize kuI (kuI U 65 (sq S p c) (nI c)) 64 c (nI (sayS S p c)) = U2 at *
    have e57 : U2.1 57 = S.1 57 := hU2.1 57 (by decide) (by decide) (by decide)
    have e61 : U2.1 61 = S.1 61 := hU2.1 61 (by decide) (by decide) (by decide)
    have e59 : U2.1 59 = S.1 59 := hU2.1 59 (by decide) (by decide) (by decide)
    have hm2 : mOk U2 := mOk_e e57 e59 e61 hm
    have g57 : ∀ j, gN U2 57 j = gN S 57 j := fun j => gN_c (by rw [e57])
    rw [e61, e57, hst, hev.1, h35, nI_add, m_behind hm2 hp (by rw [g57]; exact sayS_le hm hp c) (hm.stp hp) hev.2 (by omega) false]
    simp only [Option.bind_some, Bool.false_eq_true, if_false]
    rw [g57, g57, ← Nat.add_assoc, ← sayS_s, e61, h35, nI_add, krem_nI (by omega) (by omega) (by omega), show nI (sayS S p (c + 1)) * 9 = nI (sayS S p (c + 1) * 9) from pk_mul _ 9, nI_add, show sayS S p (c + 1) * 9 + (gN S 61 35 + (c + 1)) % stT S p = sq S p (c + 1) from rfl]
    exact ih (c + 1) fu U2 (by omega) (by omega) hU2 (fun i hi => by
      by_cases e : i = c
      · subst e
        exact ⟨by rw [x65, if_pos rfl], by rw [x64, if_pos rfl]⟩
      · have hne : ¬ sq S p i = sq S p c := fun q => hdis i c (by omega) (by omega) q
        exact ⟨by rw [x65, if_neg hne]; exact (h1 i (by omega)).1, by rw [x64, if_neg e]; exact (h1 i (by omega)).2⟩) (fun x hx hn => by
      rw [x65, if_neg (fun e => hn c (by omega) e.symm)]
      exact h2 x hx (fun i hi => hn i (by omega)))
theorem m_exL (hm : mOk S) (hp : p < 5) {m F L A : Nat} (hR : RP S p m F L A) (K : kSt → Option kSt) : ∀ (d v fu : Nat) (U : kSt), v + d = F + 2 * (m - F) → d < fu → m ≤ v → U.1 14 26 = nI F → U.1 14 27 = nI (m - F) → (∀ i, i < v → U.1 64 i = nI (sayS S p i)) → ∃ U', f_m11_goRound_L187 K fu (nI v) U = K U' ∧ frG U U' ∧ U'.1 14 = U.1 14 ∧ ∀ i, i < F + 2 * (m - F) → U'.1 64 i = nI (sayS S p i) := by
  obtain ⟨⟨hF, hm9, hFm, hdis⟩, -⟩ := hR
  intro d
  induction d with
  | zero =>
    intro v fu U hv hfu hmv h26 h27 h64
    obtain ⟨fu, rfl⟩ : ∃ q, fu = q + 1 := ⟨fu - 1, by omega⟩
    refine ⟨U, ?_, frG.rf, rfl, fun i hi => h64 i (by omega)⟩
    rw [f_m11_goRound_L187, h26, h27, nI2m, nI_add, if_pos (nI_le (by omega) (by omega))]
  | succ d ih =>
    intro v fu U hv hfu hmv h26 h27 h64
    obtain ⟨fu, rfl⟩ : ∃ q, fu = q + 1 := ⟨fu - 1, by omega⟩
    rw [f_m11_goRound_L187, h26, h27, nI2m, nI_add, if_neg (nI_ge (by omega) (by omega))]
    simp only [knx_e]
    have hpv := say_P hm hp (by omega) hFm (show F ≤ v - (m - F) by omega)
    rw [show v - (m - F) + (m - F) = v by omega] at hpv
    rw [pk_sub (by omega), kgi_nI (by omega) (by omega), kgi_nI (by omega) (by omega), nI_clamp (by omega), nI_clamp (by omega), h64 _ (by omega), hpv, nI_1]
    obtain ⟨U', g1, g2, g3, g4⟩ := ih (v + 1) fu (kuI U 64 v (nI (sayS S p v))) (by omega) (by omega) (by omega) (by rw [kuI_ne _ _ _ (by decide)]; exact h26) (by rw [kuI_ne _ _ _ (by decide)]; exact h27) (fun i hi => by
      rw [uI_get]
      by_cases e : i = v
      · rw [if_pos ⟨rfl, e⟩, e]
      · rw [if_neg (fun h => e h.2)]
        exact h64 i (by omega))
    exact ⟨U', g1, (frG.rf.u (by omega) _).tr g2, by rw [g3, kuI_ne _ _ _ (by decide)], g4⟩
theorem m_irL (hm : mOk S) (hp : p < 5) {m F d : Nat} (hF : F < m) (hm9 : m ≤ 900) (hd : d ≤ m - F) {U : kSt} (h26 : U.1 14 26 = nI F) (h27 : U.1 14 27 = nI (m - F)) (h64 : ∀ i, i < F + 2 * (m - F) → U.1 64 i = nI (sayS S p i)) (K1 K2 : kSt → Option (Bool × kSt)) (hK1 : ∀ T, K1 T = some (false, T)) (hK2 : ∀ T, K2 T = some (true, T)) : ∀ (j i fu : Nat), i + j = m - F → j < fu → (∀ k, k < i → sayS S p (F + k) = sayS S p (F + k + d)) → ∃ b : Bool, f_m11_isRoundOf_L13 K1 K2 (nI d) fu (nI i) U = some (b, U) ∧ (b = true ↔ ∀ k, k < m - F → sayS S p (F + k) = sayS S p (F + k + d)) := by
  intro j
  induction j with
  | zero =>
    intro i fu hi hfu hk
    obtain ⟨fu, rfl⟩ : ∃ q, fu = q + 1 := ⟨fu - 1, by omega⟩
    refine ⟨true, ?_, ⟨fun _ k k1 => hk k (by omega), fun _ => rfl⟩⟩
    rw [f_m11_isRoundOf_L13, h27, if_pos (nI_le (by omega) (by omega)), hK2]
  | succ j ih =>
    intro i fu hi hfu hk
    obtain ⟨fu, rfl⟩ : ∃ q, fu = q + 1 := ⟨fu - 1, by omega⟩
    have s1 := say99 hm hp (F + i)
    have s2 := say99 hm hp (F + i + d)
    rw [f_m11_isRoundOf_L13, h27, if_neg (nI_ge (by omega) (by omega)), h26]
    simp only [knx_e]
    rw [nI_add, kgi_nI (by omega) (by omega), nI_add, kgi_nI (by omega) (by omega), nI_clamp (by omega), nI_clamp (by omega), h64 _ (by omega), h64 _ (by omega), kite (nI_eq (by omega) (by omega)), nI_1]
    by_cases e : sayS S p (F + i) = sayS S p (F + i + d)
    · rw [if_pos e]
      refine ih (i + 1) fu (by omega) (by omega) (fun k k1 => ?_)
      by_cases e2 : k = i
      · rw [e2]; exact e
      · exact hk k (by omega)
    · rw [if_neg e, hK1]
      exact ⟨false, rfl, ⟨fun h => absurd h (by decide), fun h => absurd (h i (by omega)) e⟩⟩
theorem m_isRound (hm : mOk S) (hp : p < 5) {m F d : Nat} (hF : F < m) (hm9 : m ≤ 900) (hd1 : 1 ≤ d) (hd : d ≤ m - F) {U : kSt} (h26 : U.1 14 26 = nI F) (h27 : U.1 14 27 = nI (m - F)) (h64 : ∀ i, i < F + 2 * (m - F) → U.1 64 i = nI (sayS S p i)) : ∃ b : Bool, f_m11_isRoundOf (nI d) U = some (b, U) ∧ (b = true ↔ (m - F) % d = 0 ∧ ∀ k, k < m - F → sayS S p (F + k) = sayS S p (F + k + d)) := by
  have hFF := kFU_big
  have hmod : (m - F) % d < 2 ^ 31 := Nat.lt_of_le_of_lt (Nat.mod_le _ _) (by omega)
  unfold f_m11_isRoundOf
  rw [kgz_nI (by omega) (by omega), h27, krem_nI (by omega) (by omega) (by omega), kite (show nI ((m - F) % d) = 0 ↔ (m - F) % d = 0 from nI_eq (b := 0) hmod (by omega))]
  by_cases q : (m - F) % d = 0
  · rw [if_pos q]
    obtain ⟨b, b1, b2⟩ := m_irL hm hp hF hm9 hd h26 h27 h64 (fun (S7 : kSt) => some (false, S7)) (fun (S8 : kSt) => some (true, S8)) (fun _ => rfl) (fun _ => rfl) (m - F) 0 kFU (by omega) (by omega) (fun k hk => by omega)
    exact ⟨b, b1, ⟨fun h => ⟨q, b2.mp h⟩, fun h => b2.mpr h.2⟩⟩
  · rw [if_neg q]
    exact ⟨false, rfl, ⟨fun h => absurd h (by decide), fun h => absurd h.1 q⟩⟩
theorem m_rlL (hm : mOk S) (hp : p < 5) {m F L A : Nat} (hR : RP S p m F L A) (K : kSt → Option kSt) : ∀ (j d fu : Nat) (U : kSt), d + j = L → j < fu → 1 ≤ d → U.1 14 26 = nI F → U.1 14 27 = nI (m - F) → U.1 14 29 = nI d → (∀ i, i < F + 2 * (m - F) → U.1 64 i = nI (sayS S p i)) → f_m11_goRound_L233 K fu U = K (kuI U 14 29 (nI L)) := by
  obtain ⟨⟨hF, hm9, hFm, hdis⟩, ⟨hL1, hLR, hLd, hLf⟩, hmin, -⟩ := id hR
  intro j
  induction j with
  | zero =>
    intro d fu U hd hfu hd1 h26 h27 h29 h64
    obtain ⟨fu, rfl⟩ : ∃ q, fu = q + 1 := ⟨fu - 1, by omega⟩
    have e : d = L := by omega
    subst e
    obtain ⟨b, b1, b2⟩ := m_isRound hm hp hF hm9 hd1 hLR h26 h27 h64
    have hb : b = true := b2.mpr ⟨hLd, fun k hk => hLf _ (by omega)⟩
    rw [f_m11_goRound_L233, h29, b1, hb]
    simp only [Option.bind_some, if_true]
    rw [kuI_id h29]
  | succ j ih =>
    intro d fu U hd hfu hd1 h26 h27 h29 h64
    obtain ⟨fu, rfl⟩ : ∃ q, fu = q + 1 := ⟨fu - 1, by omega⟩
    obtain ⟨b, b1, b2⟩ := m_isRound hm hp hF hm9 hd1 (by omega) h26 h27 h64
    have hb : b = false := by
      cases hq : b
      · rfl
      · exact absurd (b2.mp hq) (hmin d hd1 (by omega))
    rw [f_m11_goRound_L233, h29, b1, hb]
    simp only [Option.bind_some, Bool.false_eq_true, if_false, knx_e]
    rw [h29, nI_1, ih (d + 1) fu (kuI U 14 29 (nI (d + 1))) (by omega) (by omega) (by omega) (by rw [uI_no _ _ (by omega)]; exact h26) (by rw [uI_no _ _ (by omega)]; exact h27) (uI_at _ _ _ _) (fun i hi => by rw [kuI_ne _ _ _ (by decide)]; exact h64 i hi), kuI_2w]
theorem m_frL (hm : mOk S) (hp : p < 5) {m F L A : Nat} (hR : RP S p m F L A) (K : kSt → Option kSt) : ∀ (j x fu : Nat) (U : kSt), A + j = x → x ≤ F → j < fu → U.1 14 28 = nI x → U.1 14 29 = nI L → (∀ i, i < F + 2 * (m - F) → U.1 64 i = nI (sayS S p i)) → f_m11_goRound_L265 K fu U = K (kuI U 14 28 (nI A)) := by
  obtain ⟨⟨hF, hm9, hFm, hdis⟩, ⟨hL1, hLR, hLd, hLf⟩, hmin, hAF, hA, hA0⟩ := hR
  intro j
  induction j with
  | zero =>
    intro x fu T hx hxF hfu h2 h3 h45
    obtain ⟨fu, rfl⟩ : ∃ q, fu = q + 1 := ⟨fu - 1, by omega⟩
    have e : x = A := by omega
    subst e
    rw [f_m11_goRound_L265, h2]
    by_cases q : x = 0
    · rw [if_pos (show nI x ≤ 0 from by rw [q]; decide), kuI_id h2]
    · have s1 := say99 hm hp (x - 1)
      have s2 := say99 hm hp (x - 1 + L)
      rw [if_neg (nI_nle (by omega) (by omega))]
      simp only [knx_e]
      rw [show nI x - 1 = nI (x - 1) from pk_sub (b := 1) (by omega), kgi_nI (by omega) (by omega), h3, nI_add, kgi_nI (by omega) (by omega), nI_clamp (by omega), nI_clamp (by omega), h45 (x - 1) (by omega), h45 (x - 1 + L) (by omega), kite (nI_eq (by omega) (by omega)), if_neg (by rcases hA0 with h | h; exact absurd h q; exact h), kuI_id h2]
  | succ j ih =>
    intro x fu T hx hxF hfu h2 h3 h45
    obtain ⟨fu, rfl⟩ : ∃ q, fu = q + 1 := ⟨fu - 1, by omega⟩
    have s1 := say99 hm hp (x - 1)
    have s2 := say99 hm hp (x - 1 + L)
    rw [f_m11_goRound_L265, h2, if_neg (nI_nle (by omega) (by omega))]
    simp only [knx_e]
    rw [show nI x - 1 = nI (x - 1) from pk_sub (b := 1) (by omega), kgi_nI (by omega) (by omega), h3, nI_add, kgi_nI (by omega) (by omega), nI_clamp (by omega), nI_clamp (by omega), h45 (x - 1) (by omega), h45 (x - 1 + L) (by omega), kite (nI_eq (by omega) (by omega)), if_pos (hA _ (by omega))]
    rw [ih (x - 1) fu (kuI T 14 28 (nI (x - 1))) (by omega) (by omega) (by omega) (uI_at _ _ _ _) (by rw [uI_no _ _ (by omega)]; exact h3) (fun i hi => by rw [kuI_ne _ _ _ (by decide)]; exact h45 i hi), kuI_2w]
theorem m_goRound {m F L A : Nat} (hm : mOk S) (hp : p < 5) (hR : RP S p m F L A) : ∃ U, f_m11_goRound (nI p) S = some U ∧ frG S U ∧ U.1 14 26 = nI F ∧ U.1 14 27 = nI (m - F) ∧ U.1 14 28 = nI A ∧ U.1 14 29 = nI L ∧ ∀ i, i < F + 2 * (m - F) → U.1 64 i = nI (sayS S p i) := by
  have hFF := kFU_big
  obtain ⟨⟨hF, hm9, hFm, hdis⟩, ⟨hL1, hLR, hLd, hLf⟩, hmin, hAF, hA, hA0⟩ := id hR
  have ht := stT_b hm hp
  have hev := (hm.2.2.2.2.2.1 p hp).2
  have h35 : S.1 61 35 = nI (gN S 61 35) := by
    have := hm.row.2.2.2.1
    rw [Nat.zero_add] at this
    exact this
  have hse := hm.sea
  have hq0 := (sq_lt hm hp 0).1
  have hqm := (sq_lt hm hp m).1
  have hf := (hm.f61 hp).1
  have s0 : sayS S p 0 = gN S 61 p := rfl
  unfold f_m11_goRound
  rw [nI13]
  simp only [knx_e]
  have main : ∃ U, f_m11_goRound_L28 (fun (S7 : kSt) => kgi (nI p) 36 (kgz (nI (stT S p)) (f_m11_goRound_L74 (fun (x18 : Int32) (x19 : Int32) (S20 : kSt) => kgi x19 900 (f_m11_goRound_L187 (fun (S27 : kSt) => f_m11_goRound_L233 (fun (S32 : kSt) => f_m11_goRound_L265 (fun (S39 : kSt) => some S39) kFU (kuI S32 14 28 (S32.1 14 26))) kFU (kuI S27 14 29 1)) kFU x18 (kuI (kuI S20 14 26 (S20.1 65 x19.toNatClampNeg)) 14 27 (x18 - (kuI S20 14 26 (S20.1 65 x19.toNatClampNeg)).1 14 26)))) (nI p) (nI (stT S p)) kFU (S7.1 61 (nI p).toNatClampNeg) 0 ((S7.1 61 (nI p).toNatClampNeg * 9) + (krem (S7.1 61 35) (nI (stT S p)))) S7))) (nI p) (nI (stT S p)) kFU 0 S = some U ∧ frG S U ∧ U.1 14 26 = nI F ∧ U.1 14 27 = nI (m - F) ∧ U.1 14 28 = nI A ∧ U.1 14 29 = nI L ∧ ∀ i, i < F + 2 * (m - F) → U.1 64 i = nI (sayS S p i) := by
    obtain ⟨U1, a1, a2, a3⟩ := m_rsL (fun (S7 : kSt) => kgi (nI p) 36 (kgz (nI (stT S p)) (f_m11_goRound_L74 (fun (x18 : Int32) (x19 : Int32) (S20 : kSt) => kgi x19 900 (f_m11_goRound_L187 (fun (S27 : kSt) => f_m11_goRound_L233 (fun (S32 : kSt) => f_m11_goRound_L265 (fun (S39 : kSt) => some S39) kFU (kuI S32 14 28 (S32.1 14 26))) kFU (kuI S27 14 29 1)) kFU x18 (kuI (kuI S20 14 26 (S20.1 65 x19.toNatClampNeg)) 14 27 (x18 - (kuI S20 14 26 (S20.1 65 x19.toNatClampNeg)).1 14 26)))) (nI p) (nI (stT S p)) kFU (S7.1 61 (nI p).toNatClampNeg) 0 ((S7.1 61 (nI p).toNatClampNeg * 9) + (krem (S7.1 61 35) (nI (stT S p)))) S7))) (nI p) (nI (stT S p)) 900 0 kFU S (by omega) (by omega) (fun j hj => by omega)
    rw [show f_m11_goRound_L28 _ (nI p) (nI (stT S p)) kFU 0 S = _ from a1]
    have e61 : U1.1 61 = S.1 61 := a3.1 61 (by decide) (by decide) (by decide)
    have eq0 : nI (gN S 61 p) * 9 + krem (nI (gN S 61 35)) (nI (stT S p)) = nI (sq S p 0) := by
      rw [krem_nI (by omega) (by omega) (by omega), show nI (gN S 61 p) * 9 = nI (gN S 61 p * 9) from pk_mul _ 9, nI_add]
      rfl
    rw [kgi_nI (by omega) (by omega), kgz_nI (by omega) (by omega), nI_clamp (by omega), e61, hf, h35, eq0, ← s0]
    obtain ⟨U2, b1, b2, b3, b4⟩ := m_grL hm hp hR (fun (x18 : Int32) (x19 : Int32) (S20 : kSt) => kgi x19 900 (f_m11_goRound_L187 (fun (S27 : kSt) => f_m11_goRound_L233 (fun (S32 : kSt) => f_m11_goRound_L265 (fun (S39 : kSt) => some S39) kFU (kuI S32 14 28 (S32.1 14 26))) kFU (kuI S27 14 29 1)) kFU x18 (kuI (kuI S20 14 26 (S20.1 65 x19.toNatClampNeg)) 14 27 (x18 - (kuI S20 14 26 (S20.1 65 x19.toNatClampNeg)).1 14 26)))) m 0 kFU U1 (by omega) (by omega) a3 (fun i hi => by omega) (fun x hx _ => a2 x hx)
    rw [show f_m11_goRound_L74 _ (nI p) (nI (stT S p)) kFU (nI (sayS S p 0)) 0 (nI (sq S p 0)) U1 = _ from b1, kgi_nI hqm (by omega), nI_clamp (by omega), b3, uI_at, pk_sub (by omega)]
    obtain ⟨U3, c1, c2, c3, c4⟩ := m_exL hm hp hR (fun (S27 : kSt) => f_m11_goRound_L233 (fun (S32 : kSt) => f_m11_goRound_L265 (fun (S39 : kSt) => some S39) kFU (kuI S32 14 28 (S32.1 14 26))) kFU (kuI S27 14 29 1)) (F + 2 * (m - F) - m) m kFU (kuI (kuI U2 14 26 (nI F)) 14 27 (nI (m - F))) (by omega) (by omega) (Nat.le_refl m) (by rw [uI_no _ _ (by omega), uI_at]) (uI_at _ _ _ _) (fun i hi => by rw [kuI_ne _ _ _ (by decide), kuI_ne _ _ _ (by decide)]; exact b4 i hi)
    rw [c1]
    have d26 : U3.1 14 26 = nI F := by rw [c3, uI_no _ _ (by omega), uI_at]
    have d27 : U3.1 14 27 = nI (m - F) := by rw [c3, uI_at]
    rw [m_rlL hm hp hR _ (L - 1) 1 kFU (kuI U3 14 29 1) (by omega) (by omega) (by omega) (by rw [uI_no _ _ (by omega)]; exact d26) (by rw [uI_no _ _ (by omega)]; exact d27) (uI_at _ _ _ _) (fun i hi => by rw [kuI_ne _ _ _ (by decide)]; exact c4 i hi), kuI_2w, uI_no _ _ (show ¬ ((14 : Nat) = 14 ∧ 26 = 29) by omega), d26]
    rw [m_frL hm hp hR _ (F - A) F kFU (kuI (kuI U3 14 29 (nI L)) 14 28 (nI F)) (by omega) (Nat.le_refl F) (by omega) (uI_at _ _ _ _) (by rw [uI_no _ _ (by omega), uI_at]) (fun i hi => by rw [kuI_ne _ _ _ (by decide), kuI_ne _ _ _ (by decide)]; exact c4 i hi), kuI_2w]
    refine ⟨_, rfl, ((((b2.u (by omega) _).u (by omega) _).tr c2).u (by omega) _).u (by omega) _, ?_, ?_, uI_at _ _ _ _, ?_, fun i hi => ?_⟩
    · rw [uI_no _ _ (by omega), uI_no _ _ (by omega), d26]
    · rw [uI_no _ _ (by omega), uI_no _ _ (by omega), d27]
    · rw [uI_no _ _ (by omega), uI_at]
    · rw [kuI_ne _ _ _ (by decide), kuI_ne _ _ _ (by decide)]
      exact c4 i hi
  have he9 : gN S 57 (13 + p) ≤ 9 := hev.2
  rw [kgi_nI (by omega) (by omega), kgi_nI (by omega) (by omega), nI_clamp (by omega), hev.1, kite (show nI (gN S 57 (13 + p)) = 0 ↔ gN S 57 (13 + p) = 0 from nI_eq (b := 0) (by omega) (by omega))]
  by_cases q : gN S 57 (13 + p) = 0
  · rw [if_pos q]
    have e : stT S p = 1 := by unfold stT; rw [q]; rfl
    rw [e] at main
    exact main
  · rw [if_neg q]
    have e : stT S p = gN S 57 (13 + p) := by unfold stT; omega
    rw [e] at main
    exact main
end RM
