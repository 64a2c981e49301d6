-- the constructed cells are the world at its start
def adq (q0 : Nat) (f : Nat → Nat) (q1 : Nat) (g x : Nat → Nat) (k : Nat) : Nat := if k = 0 then q0 else if k < 35 then f (k - 1) else if k = 35 then q1 else if k < 54 then g (k - 36) else x k
abbrev Gz (D : va_G) (cA : Nat → ClassId) (q0 : Nat) (f : Nat → Nat) (q1 : Nat) (g x : Nat → Nat) : Gq := (D, adq q0 f q1 g x, cA)
section WL
variable {D : va_G} {cA : Nat → ClassId} {q0 : Nat} {f : Nat → Nat} {q1 : Nat} {g x : Nat → Nat}
set_option maxRecDepth 20000 in
theorem wl_all : ∀ k : Nat, k < 54 → (w1_Cs (Gz D cA q0 f q1 g x) q0 f ++ w1_Mo (Gz D cA q0 f q1 g x) q1 g)[k]? = some (adq q0 f q1 g x k, ent (Gz D cA q0 f q1 g x) S0 k)
  | 0, _ => rfl
  | 1, _ => rfl
  | 2, _ => rfl
  | 3, _ => rfl
  | 4, _ => rfl
  | 5, _ => rfl
  | 6, _ => rfl
  | 7, _ => rfl
  | 8, _ => rfl
  | 9, _ => rfl
  | 10, _ => rfl
  | 11, _ => rfl
  | 12, _ => rfl
  | 13, _ => rfl
  | 14, _ => rfl
  | 15, _ => congrArg (fun F : Nat → Int32 => some ((f 14 : Nat), (.inl (cA 0, 5, .inl F) : va_E))) fn_tmq
  | 16, _ => rfl
  | 17, _ => rfl
  | 18, _ => rfl
  | 19, _ => rfl
  | 20, _ => rfl
  | 21, _ => rfl
  | 22, _ => rfl
  | 23, _ => rfl
  | 24, _ => rfl
  | 25, _ => rfl
  | 26, _ => rfl
  | 27, _ => rfl
  | 28, _ => rfl
  | 29, _ => rfl
  | 30, _ => rfl
  | 31, _ => rfl
  | 32, _ => rfl
  | 33, _ => rfl
  | 34, _ => rfl
  | 35, _ => rfl
  | 36, _ => congrArg (fun F : Nat → Int32 => some ((g 0 : Nat), (.inl (cA 0, 5, .inl F) : va_E))) fn_tmq
  | 37, _ => congrArg (fun F : Nat → Int32 => some ((g 1 : Nat), (.inl (cA 0, 5, .inl F) : va_E))) fn_ltq
  | 38, _ => congrArg (fun F : Nat → Int32 => some ((g 2 : Nat), (.inl (cA 0, 5, .inl F) : va_E))) fn_gtq
  | 39, _ => rfl
  | 40, _ => rfl
  | 41, _ => rfl
  | 42, _ => rfl
  | 43, _ => congrArg (fun F : Nat → Int32 => some ((g 7 : Nat), (.inl (cA 1, 9, .inl F) : va_E))) fn_wbq
  | 44, _ => rfl
  | 45, _ => rfl
  | 46, _ => rfl
  | 47, _ => rfl
  | 48, _ => rfl
  | 49, _ => rfl
  | 50, _ => rfl
  | 51, _ => rfl
  | 52, _ => rfl
  | 53, _ => rfl
  | k + 54, h => absurd h (by omega)
end WL
