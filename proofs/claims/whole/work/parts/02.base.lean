-- THE WORLD: S holds every int and long by cell and place; G: what the tables number; E: where the cells lie, and the cell that reader.pier names
abbrev kSt : Type := (Nat → Nat → Int32) × (Nat → Nat → Int64)
abbrev kG : Type := va_G × (ClassId × ClassId × ClassId × ClassId) × (Nat → Nat) × (Nat → Nat) × Value × Nat × Nat × (Nat → Int32)
abbrev kE : Type := (Nat → Nat) × Nat
def kuI (S : kSt) (k j : Nat) (x : Int32) : kSt := (fun a => if a = k then upd (S.1 a) j x else S.1 a, S.2)
def kuL (S : kSt) (k j : Nat) (x : Int64) : kSt := (S.1, fun a => if a = k then vp_updL (S.2 a) j x else S.2 a)
def kuA (S : kSt) (k : Nat) (f : Nat → Int32) : kSt := (fun a => if a = k then f else S.1 a, S.2)
def kcv (ad : Nat → Nat) (v : Value) : Value := match v with
  | .ref k => .ref (ad k)
  | v => v
def kb (b : Bool) : Int32 := if b then 1 else 0
def kval (E : kE) (S : kSt) (k j : Nat) (ty : FieldType) : Value := match ty with
  | .long => .long (S.2 k j)
  | .array _ => va_rf ((kRf E.2 k j).map E.1)
  | .object _ => va_rf ((kRf E.2 k j).map E.1)
  | _ => .int (S.1 k j)
def kfs (E : kE) (S : kSt) (k c n : Nat) : List Value := (List.range n).map (fun j => kval E S k j (kTyp c j))
def kent (G : kG) (E : kE) (S : kSt) (k : Nat) : va_E := match kSH[k]? with
  | some (0, c, n) => .inr (c, kfs E S k c n)
  | some (1, 0, n) => .inl (G.2.1.1, n, .inl (S.1 k))
  | some (1, 1, n) => .inl (G.2.1.2.1, n, .inl (S.1 k))
  | some (1, 2, n) => .inl (G.2.1.2.2.1, n, .inr (.inl (S.2 k)))
  | some (1, _, n) => .inl (G.2.1.2.2.2, n, .inr (.inr (.inr (.inr (fun j => (kRf E.2 k j).map E.1)))))
  | _ => .inr (0, [])
def kws (G : kG) (E : kE) (S : kSt) : va_W := (List.range kN).map (fun k => (E.1 k, kent G E S k))
theorem kws_at {G : kG} {E : kE} {S : kSt} {k : Nat} (h : k < kN) : (kws G E S)[k]? = some (E.1 k, kent G E S k) := by
  simp [kws, List.getElem?_map, List.getElem?_range h]
theorem kws_inv {G : kG} {E : kE} {S : kSt} {k : Nat} {q : Nat × va_E} (h : (kws G E S)[k]? = some q) : k < kN ∧ q = (E.1 k, kent G E S k) := by
  have hl := (List.getElem?_eq_some_iff.mp h).1
  have hk : k < kN := by simpa [kws] using hl
  rw [kws_at hk] at h
  exact ⟨hk, (Option.some.inj h).symm⟩
theorem kws_set {G : kG} {E : kE} {S S' : kSt} {k : Nat} {e : va_E} (hk : k < kN) (he : kent G E S' k = e) (h : ∀ i, i ≠ k → kent G E S' i = kent G E S i) : (kws G E S).set k (E.1 k, e) = kws G E S' := by
  subst he
  apply List.ext_getElem?
  intro i
  by_cases hi : i < kN
  · by_cases hik : i = k
    · subst hik
      rw [List.getElem?_set_self (by simpa [kws] using hi), kws_at hi]
    · rw [List.getElem?_set_ne (Ne.symm hik), kws_at hi, kws_at hi, h i hik]
  · rw [List.getElem?_eq_none (by simpa [kws] using hi), List.getElem?_eq_none (by simpa [kws] using hi)]
theorem kws_D {G : kG} {E : kE} {S : kSt} {A : Nat → Prop} (hi : ∀ i j, i < kN → j < kN → E.1 i = E.1 j → i = j) (hA : ∀ k, k < kN → A (E.1 k)) : va_D A (kws G E S) := by
  refine ⟨fun i j p q hp hq e => ?_, fun k q hq => ?_⟩
  · obtain ⟨h1, rfl⟩ := kws_inv hp
    obtain ⟨h2, rfl⟩ := kws_inv hq
    exact hi i j h1 h2 e
  · obtain ⟨h1, rfl⟩ := kws_inv hq
    exact hA k h1
theorem kfs_at {E : kE} {S : kSt} {k c n j : Nat} (h : j < n) : (kfs E S k c n)[j]? = some (kval E S k j (kTyp c j)) := by
  simp [kfs, List.getElem?_map, List.getElem?_range h]
theorem kfs_set {E : kE} {S S' : kSt} {k c n j : Nat} {v : Value} (hv : kval E S' k j (kTyp c j) = v) (h : ∀ i, i ≠ j → kval E S' k i (kTyp c i) = kval E S k i (kTyp c i)) : kfs E S' k c n = (kfs E S k c n).set j v := by
  subst hv
  apply List.ext_getElem?
  intro i
  by_cases hi : i < n
  · by_cases hij : i = j
    · subst hij
      rw [List.getElem?_set_self (by simpa [kfs] using hi), kfs_at hi]
    · rw [List.getElem?_set_ne (Ne.symm hij), kfs_at hi, kfs_at hi, h i hij]
  · rw [List.getElem?_eq_none (by simpa [kfs] using hi), List.getElem?_eq_none (by simpa [kfs] using hi)]
theorem kuI_self (S : kSt) (k j : Nat) (x : Int32) : (kuI S k j x).1 k = upd (S.1 k) j x := by simp [kuI]
theorem kuI_ne (S : kSt) {k a : Nat} (j : Nat) (x : Int32) (h : a ≠ k) : (kuI S k j x).1 a = S.1 a := by simp [kuI, h]
theorem kuI_2 (S : kSt) (k j : Nat) (x : Int32) : (kuI S k j x).2 = S.2 := rfl
theorem kuA_self (S : kSt) (k : Nat) (f : Nat → Int32) : (kuA S k f).1 k = f := by simp [kuA]
theorem kuA_ne (S : kSt) {k a : Nat} (f : Nat → Int32) (h : a ≠ k) : (kuA S k f).1 a = S.1 a := by simp [kuA, h]
theorem kuL_self (S : kSt) (k j : Nat) (x : Int64) : (kuL S k j x).2 k = vp_updL (S.2 k) j x := by simp [kuL]
theorem kuL_ne (S : kSt) {k a : Nat} (j : Nat) (x : Int64) (h : a ≠ k) : (kuL S k j x).2 a = S.2 a := by simp [kuL, h]
theorem kent_congr {G : kG} {E : kE} {S S' : kSt} {i : Nat} (h1 : S'.1 i = S.1 i) (h2 : S'.2 i = S.2 i) : kent G E S' i = kent G E S i := by
  have hv : ∀ j ty, kval E S' i j ty = kval E S i j ty := by
    intro j ty
    unfold kval
    rw [h1, h2]
  have hf : ∀ c n, kfs E S' i c n = kfs E S i c n := by
    intro c n
    unfold kfs
    exact List.map_congr_left (fun j _ => hv j _)
  unfold kent
  rw [h1, h2]
  split <;> simp [hf]
theorem kent_obj {G : kG} {E : kE} {S : kSt} {k c n : Nat} (h : kSH[k]? = some (0, c, n)) : kent G E S k = .inr (c, kfs E S k c n) := by
  unfold kent
  rw [h] <;> rfl
theorem kent_i {G : kG} {E : kE} {S : kSt} {k n : Nat} (h : kSH[k]? = some (1, 0, n)) : kent G E S k = .inl (G.2.1.1, n, .inl (S.1 k)) := by
  unfold kent
  rw [h] <;> rfl
theorem kent_b {G : kG} {E : kE} {S : kSt} {k n : Nat} (h : kSH[k]? = some (1, 1, n)) : kent G E S k = .inl (G.2.1.2.1, n, .inl (S.1 k)) := by
  unfold kent
  rw [h] <;> rfl
theorem kent_q {G : kG} {E : kE} {S : kSt} {k n : Nat} (h : kSH[k]? = some (1, 3, n)) : kent G E S k = .inl (G.2.1.2.2.2, n, .inr (.inr (.inr (.inr (fun j => (kRf E.2 k j).map E.1))))) := by
  unfold kent
  rw [h] <;> rfl
theorem kSH_lt {k : Nat} {q : Nat × Nat × Nat} (h : kSH[k]? = some q) : k < kN := by
  have h1 := (List.getElem?_eq_some_iff.mp h).1
  have h2 : kSH.length = kN := by decide +kernel
  omega
-- the words
def kT : List Cond := lw_tbl.filter goodWord
theorem kin {w : Cond} (i : Nat) (h : tables_1[i]? = some w) (hg : goodWord w = true) : w ∈ kT := List.mem_filter.mpr ⟨List.mem_append_right _ (List.mem_of_getElem? h), hg⟩
theorem kinS {w : Cond} (i : Nat) (h : (k2_sels lw_privs)[i]? = some w) (hg : goodWord w = true) : w ∈ kT := List.mem_filter.mpr ⟨List.mem_append_left _ (List.mem_of_getElem? h), hg⟩
theorem kT_good {w : Cond} (h : w ∈ kT) : (w.onTables && w.keeps) = true ∨ ∃ ty, w = .arrayClass ty := good_of_word (List.mem_filter.mp h).2
def kcode (M : kM) : Cond := .code M.1 M.2.1 M.2.2.1 M.2.2.2
def kWs (M : kM) : List Cond := kcode M :: kT
def kD (M : kM) (pc : Nat) (i : Instr) (n pc' : Nat) : Prop := decode M.2.1 pc = .ok (i, n) ∧ pc' = pc + n
def kDec (M : kM) (L : List (Nat × Instr × Nat × Nat)) : Prop := ∀ q ∈ L, kD M q.1 q.2.1 q.2.2.1 q.2.2.2
theorem kDec.at {M : kM} {L : List (Nat × Instr × Nat × Nat)} (h : kDec M L) (i : Nat) {pc n pc' : Nat} {ins : Instr} (hi : L[i]? = some (pc, ins, n, pc')) : kD M pc ins n pc' := h (pc, ins, n, pc') (List.mem_of_getElem? hi)
def kNl : List Cond := [.methodLinkNest kR2 26 m10_firstMost.1 "FigureKnee", .methodLinkNest kR2 36 m10_drawFrom.1 "FigureKnee"]
def krm (d : Nat) : Room := { frames := d, cells := 0, slots := 0, locals := 60 * d }
