-- where the cells lie after the constructors; the world out of theirs
def kAL (a : Nat) (u : Nat → Nat) (b : Nat) (v : Nat → Nat) (z : Nat) : List Nat := [a, u 1, u 12, u 23, u 26, u 30, u 52, u 53, u 55, u 58, u 63, u 69, u 71, u 59, b, u 0, u 54, u 48, u 2, u 3, u 4, u 5, u 6, u 7, u 8, u 9, u 10, u 11, u 13, u 14, u 15, u 16, u 17, u 18, u 19, u 20, u 21, u 22, u 24, u 25, u 27, u 28, u 29, u 31, u 56, u 57, u 60, u 61, u 62, u 64, u 65, u 66, u 67, u 68, u 70, v 0, v 1, v 2, v 3, v 4, v 5, v 6, v 7, v 8, v 9, v 10, v 11, v 12, v 13, v 14, u 49, u 50, u 51, u 32, u 33, u 34, u 35, u 36, u 37, u 38, u 39, u 40, u 41, u 42, u 43, u 44, u 45, u 46, u 47, z]
def kAd (L : List Nat) (tx ty : Nat → Nat) (fm sc : Nat) : Nat → Nat := fun k => if k < 90 then L.getD k 0 else if k < 1100 then tx (k - 1000) else if k < 2000 then ty (k - 1100) else if k = 3000 then sc else fm
def kPos : List Nat := [0, 2, 13, 24, 27, 31, 53, 54, 56, 59, 64, 70, 72, 60, 73, 1, 55, 49, 3, 4, 5, 6, 7, 8, 9, 10, 11, 12, 14, 15, 16, 17, 18, 19, 20, 21, 22, 23, 25, 26, 28, 29, 30, 32, 57, 58, 61, 62, 63, 65, 66, 67, 68, 69, 71, 74, 75, 76, 77, 78, 79, 80, 81, 82, 83, 84, 85, 86, 87, 88, 50, 51, 52, 33, 34, 35, 36, 37, 38, 39, 40, 41, 42, 43, 44, 45, 46, 47, 48, 89]
theorem w_at {G : kG} {a : Nat} {u : Nat → Nat} {b : Nat} {v : Nat → Nat} {z : Nat} {tx ty : Nat → Nat} {fm sc : Nat} : ∀ k : Fin 90, ((([] ++ w_10 G.2.1 a u) ++ w_11 G.2.1 b v) ++ [(z, .inl (G.2.1.2.2.1, 1, .inr (.inl (fun _ => 0))))])[kPos.getD k.1 0]? = some (kAd (kAL a u b v z) tx ty fm sc k.1, kent G (kAd (kAL a u b v z) tx ty fm sc, 2) S0 k.1) := by
  intro k
  match k with
  | ⟨0, _⟩ => rfl
  | ⟨1, _⟩ => rfl
  | ⟨2, _⟩ => rfl
  | ⟨3, _⟩ => rfl
  | ⟨4, _⟩ => rfl
  | ⟨5, _⟩ => rfl
  | ⟨6, _⟩ => rfl
  | ⟨7, _⟩ => rfl
  | ⟨8, _⟩ => rfl
  | ⟨9, _⟩ => rfl
  | ⟨10, _⟩ => rfl
  | ⟨11, _⟩ => rfl
  | ⟨12, _⟩ => rfl
  | ⟨13, _⟩ => rfl
  | ⟨14, _⟩ => rfl
  | ⟨15, _⟩ => rfl
  | ⟨16, _⟩ => rfl
  | ⟨17, _⟩ =>
    refine congrArg some (Prod.ext rfl (congrArg (fun f => (Sum.inl (G.2.1.2.2.2, 3, .inr (.inr (.inr (.inr f)))) : va_E)) (funext fun j => ?_)))
    match j with
    | 0 => rfl
    | 1 => rfl
    | 2 => rfl
    | n9 + 3 => show (none : Option Nat) = Option.map _ (if n9 + 3 < 3 then some (70 + (n9 + 3)) else none); rw [if_neg (by omega)]; rfl
  | ⟨18, _⟩ => rfl
  | ⟨19, _⟩ => rfl
  | ⟨20, _⟩ => rfl
  | ⟨21, _⟩ => rfl
  | ⟨22, _⟩ => rfl
  | ⟨23, _⟩ => rfl
  | ⟨24, _⟩ => rfl
  | ⟨25, _⟩ => rfl
  | ⟨26, _⟩ => rfl
  | ⟨27, _⟩ => rfl
  | ⟨28, _⟩ => rfl
  | ⟨29, _⟩ => rfl
  | ⟨30, _⟩ => rfl
  | ⟨31, _⟩ => rfl
  | ⟨32, _⟩ => rfl
  | ⟨33, _⟩ => rfl
  | ⟨34, _⟩ => rfl
  | ⟨35, _⟩ => rfl
  | ⟨36, _⟩ => rfl
  | ⟨37, _⟩ => rfl
  | ⟨38, _⟩ => rfl
  | ⟨39, _⟩ => rfl
  | ⟨40, _⟩ => rfl
  | ⟨41, _⟩ => rfl
  | ⟨42, _⟩ => rfl
  | ⟨43, _⟩ =>
    refine congrArg some (Prod.ext rfl (congrArg (fun f => (Sum.inl (G.2.1.2.2.2, 16, .inr (.inr (.inr (.inr f)))) : va_E)) (funext fun j => ?_)))
    match j with
    | 0 => rfl
    | 1 => rfl
    | 2 => rfl
    | 3 => rfl
    | 4 => rfl
    | 5 => rfl
    | 6 => rfl
    | 7 => rfl
    | 8 => rfl
    | 9 => rfl
    | 10 => rfl
    | 11 => rfl
    | 12 => rfl
    | 13 => rfl
    | 14 => rfl
    | 15 => rfl
    | n9 + 16 => show (none : Option Nat) = Option.map _ (if n9 + 16 < 16 then some (73 + (n9 + 16)) else none); rw [if_neg (by omega)]; rfl
  | ⟨44, _⟩ => rfl
  | ⟨45, _⟩ => rfl
  | ⟨46, _⟩ => rfl
  | ⟨47, _⟩ => rfl
  | ⟨48, _⟩ => rfl
  | ⟨49, _⟩ => rfl
  | ⟨50, _⟩ => rfl
  | ⟨51, _⟩ => rfl
  | ⟨52, _⟩ => rfl
  | ⟨53, _⟩ => rfl
  | ⟨54, _⟩ => rfl
  | ⟨55, _⟩ => rfl
  | ⟨56, _⟩ => rfl
  | ⟨57, _⟩ => rfl
  | ⟨58, _⟩ => rfl
  | ⟨59, _⟩ => rfl
  | ⟨60, _⟩ => rfl
  | ⟨61, _⟩ => rfl
  | ⟨62, _⟩ => rfl
  | ⟨63, _⟩ => rfl
  | ⟨64, _⟩ => rfl
  | ⟨65, _⟩ => rfl
  | ⟨66, _⟩ => rfl
  | ⟨67, _⟩ => rfl
  | ⟨68, _⟩ => rfl
  | ⟨69, _⟩ => rfl
  | ⟨70, _⟩ => rfl
  | ⟨71, _⟩ => rfl
  | ⟨72, _⟩ => rfl
  | ⟨73, _⟩ => rfl
  | ⟨74, _⟩ => rfl
  | ⟨75, _⟩ => rfl
  | ⟨76, _⟩ => rfl
  | ⟨77, _⟩ => rfl
  | ⟨78, _⟩ => rfl
  | ⟨79, _⟩ => rfl
  | ⟨80, _⟩ => rfl
  | ⟨81, _⟩ => rfl
  | ⟨82, _⟩ => rfl
  | ⟨83, _⟩ => rfl
  | ⟨84, _⟩ => rfl
  | ⟨85, _⟩ => rfl
  | ⟨86, _⟩ => rfl
  | ⟨87, _⟩ => rfl
  | ⟨88, _⟩ => rfl
  | ⟨89, _⟩ => rfl
  | ⟨n9 + 90, h9⟩ => exact absurd h9 (by omega)
theorem w_world {G : kG} {D : va_G} {H : Heap} {a : Nat} {u : Nat → Nat} {b : Nat} {v : Nat → Nat} {z : Nat} {tx ty : Nat → Nat} {fm sc : Nat} (hP : va_P D kCl ((([] ++ w_10 G.2.1 a u) ++ w_11 G.2.1 b v) ++ [(z, .inl (G.2.1.2.2.1, 1, .inr (.inl (fun _ => 0))))]) H) : va_P D kCl (kws G (kAd (kAL a u b v z) tx ty fm sc, 2) S0) H :=
  hP.by (fun k => kPos.getD k 0) (fun k q hk => by
    obtain ⟨h1, rfl⟩ := kws_inv hk
    exact w_at ⟨k, h1⟩)
