-- the start: all zero, but the model's place
def S0 : kSt := (fun k j => if k = 14 ∧ j = 10 then -1 else 0, fun _ _ => 0)
theorem z0 {k : Nat} (j : Nat) (h : k ≠ 14) : S0.1 k j = 0 := if_neg (fun q => h q.1)
theorem z14 {j : Nat} (h : j ≠ 10) : S0.1 14 j = 0 := if_neg (fun q => h q.2)
theorem g0 {S : kSt} {k j : Nat} (h : S.1 k j = 0) : gN S k j = 0 := by
  unfold gN
  rw [h]
  rfl
theorem kB_z0 {S : kSt} {k j b : Nat} (h : S.1 k j = 0) : kB S k j b := by
  unfold kB
  rw [g0 h, h]
  exact ⟨rfl, Nat.zero_le b⟩
theorem inv0 : Inv S0 := by
  refine ⟨⟨⟨kB_z0 (z14 (by decide)), by rw [z0 _ (by decide), z14 (by decide)]⟩, fun j _ => ⟨kB_z0 (z0 _ (by decide)), by rw [z0 _ (by decide), z0 _ (by decide)]; rfl⟩⟩, ⟨false, z14 (by decide), z0 _ (by decide), (fun h => by cases h), fun _ => ⟨fun i _ => z0 _ (by decide), z0 _ (by decide), z14 (by decide), z14 (by decide)⟩⟩, ?_, ⟨by rw [z0 _ (by decide), z14 (by decide)], by rw [z0 _ (by decide), z14 (by decide)], fun h => absurd h (by rw [z14 (by decide)]; decide)⟩, ⟨kB_z0 (z14 (by decide)), by rw [z0 _ (by decide), z14 (by decide)], kB_z0 (z0 _ (by decide)), fun i hi => absurd hi (by rw [g0 (z14 (by decide))]; omega)⟩, ⟨kB_z0 (z14 (by decide)), by rw [z0 _ (by decide), z14 (by decide)], fun i hi => absurd hi (by rw [g0 (z14 (by decide))]; omega)⟩⟩
  have e : ∀ (k k' j j' : Nat), k ≠ 14 → k' ≠ 14 → S0.1 k j = S0.1 k' j' := fun k k' j j' h h' => by rw [z0 j h, z0 j' h']
  exact ⟨fun i _ => e _ _ _ _ (by decide) (by decide), fun p _ => e _ _ _ _ (by decide) (by decide), fun p _ => ⟨e _ _ _ _ (by decide) (by decide), e _ _ _ _ (by decide) (by decide), e _ _ _ _ (by decide) (by decide), e _ _ _ _ (by decide) (by decide), e _ _ _ _ (by decide) (by decide)⟩, fun j _ => ⟨e _ _ _ _ (by decide) (by decide), e _ _ _ _ (by decide) (by decide)⟩, fun k _ => ⟨e _ _ _ _ (by decide) (by decide), e _ _ _ _ (by decide) (by decide)⟩, fun k _ => ⟨e _ _ _ _ (by decide) (by decide), e _ _ _ _ (by decide) (by decide), e _ _ _ _ (by decide) (by decide)⟩, e _ _ _ _ (by decide) (by decide)⟩
