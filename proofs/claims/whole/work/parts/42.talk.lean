theorem b_talks {S : kSt} (a : Int32) (b c d : Bool) : Body (cb_talks a b c d) (mb_talks a b c d) S := by
  refine ⟨if d then (if c then (if b then 1 - a else 4) else (if b then -1 else 0)) else (if b then (if c then 1 - a else 4) else (if c then -1 else 0)), ⟨S, ?_, keep.rf, rfl⟩, fun T hk => ⟨T, ?_, keep.rf, rfl, rfl⟩⟩
  · unfold cb_talks f_m10_share
    cases b <;> cases c <;> cases d <;> rfl
  · unfold mb_talks f_m11_talksOf
    cases b <;> cases c <;> cases d <;> rfl
theorem k37_keep {S : kSt} {x : Int32} : keep S (kuI S 14 37 x) := keep_u (k := 14) (j := 37) rfl (by decide) (by decide) (by decide)
theorem k37_11 (S : kSt) (x : Int32) : (kuI S 14 37 x).1 14 11 = S.1 14 11 := by simp [uI_get]
theorem k37_18 (S : kSt) (x : Int32) : (kuI S 14 37 x).1 0 18 = S.1 0 18 := by simp [uI_get]
theorem b_rests {S : kSt} {n : Nat} (hn : n ≤ 9) : Body (cb_rests (nI n)) (mb_rests (nI n)) S := by
  refine ⟨if n < 2 then 1 else if n = 2 then 3 else 2, ⟨S, ?_, keep.rf, rfl⟩, fun T hk => ⟨kuI (kuI T 14 37 (-2)) 14 37 (if n < 2 then 11 else 1), ?_, k37_keep.tr k37_keep, by rw [k37_11, k37_11], by rw [k37_18, k37_18]⟩⟩
  · rcases (show n = 0 ∨ n = 1 ∨ n = 2 ∨ n = 3 ∨ n = 4 ∨ n = 5 ∨ n = 6 ∨ n = 7 ∨ n = 8 ∨ n = 9 by omega) with rfl | rfl | rfl | rfl | rfl | rfl | rfl | rfl | rfl | rfl <;> rfl
  · rcases (show n = 0 ∨ n = 1 ∨ n = 2 ∨ n = 3 ∨ n = 4 ∨ n = 5 ∨ n = 6 ∨ n = 7 ∨ n = 8 ∨ n = 9 by omega) with rfl | rfl | rfl | rfl | rfl | rfl | rfl | rfl | rfl | rfl <;> rfl
theorem b_rest {S : kSt} {n : Nat} (hn : n ≤ 9) : Body (cb_rest (nI n)) (mb_rest (nI n)) S := by
  refine ⟨if n < 2 then 11 else 1, ⟨S, ?_, keep.rf, rfl⟩, fun T hk => ⟨kuI (kuI T 14 37 (-2)) 14 37 (if n < 2 then 11 else 1), ?_, k37_keep.tr k37_keep, by rw [k37_11, k37_11], by rw [k37_18, k37_18]⟩⟩
  · rcases (show n = 0 ∨ n = 1 ∨ n = 2 ∨ n = 3 ∨ n = 4 ∨ n = 5 ∨ n = 6 ∨ n = 7 ∨ n = 8 ∨ n = 9 by omega) with rfl | rfl | rfl | rfl | rfl | rfl | rfl | rfl | rfl | rfl <;> rfl
  · rcases (show n = 0 ∨ n = 1 ∨ n = 2 ∨ n = 3 ∨ n = 4 ∨ n = 5 ∨ n = 6 ∨ n = 7 ∨ n = 8 ∨ n = 9 by omega) with rfl | rfl | rfl | rfl | rfl | rfl | rfl | rfl | rfl | rfl <;> rfl
-- owes
theorem nI5m (p q : Nat) : nI p * 5 + nI q = nI (p * 5 + q) := by
  rw [show (5 : Int32) = nI 5 from rfl, pk_mul, nI_add]
theorem b_owes {S : kSt} (hc : cOk S) (hm : mOk S) {p q : Nat} (hp : p < gN S 57 2) (hq : q < gN S 57 2) : Body (cb_owes (nI p) (nI q)) (mb_owes (nI p) (nI q)) S := by
  have h5 := p5 hm hp
  have h5q := p5 hm hq
  refine body_c (S.1 61 (10 + 5 * p + q)) ⟨S, ?_, frc.rf⟩ (fun T hk => ?_)
  · unfold cb_owes
    simp only [knx]
    rw [nI5m, kgi_nI (by omega) (by omega), nI_clamp (by omega), (hc.2.2.2.1 (p * 5 + q) (by omega)).2, show 10 + (p * 5 + q) = 10 + 5 * p + q by omega]
  · unfold mb_owes f_m11_debtOf
    simp only [knx]
    rw [show (10 : Int32) + 5 * nI p + nI q = nI (10 + 5 * p + q) by rw [show (10 : Int32) = nI 10 from rfl, show (5 : Int32) = nI 5 from rfl, pk_mul, nI_add, nI_add], kgi_nI (by omega) (by omega), nI_clamp (by omega)]
    simp only [Option.bind_some]
    rw [hk.at (a := 61) rfl]
