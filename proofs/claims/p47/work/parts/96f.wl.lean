-- the constructed cells are the world at its start
/-- where a cell stands in the order in which the constructors make them -/
def pmq : Nat → Nat := fun k => match k with
  | 0 => 0
  | 1 => 1
  | 2 => 2
  | 3 => 3
  | 4 => 4
  | 5 => 5
  | 6 => 6
  | 7 => 7
  | 8 => 8
  | 9 => 9
  | 10 => 10
  | 11 => 11
  | 12 => 12
  | 13 => 13
  | 14 => 14
  | 15 => 15
  | 16 => 16
  | 17 => 17
  | 18 => 19
  | 19 => 20
  | 20 => 22
  | 21 => 23
  | 22 => 24
  | 23 => 25
  | 24 => 26
  | 25 => 27
  | 26 => 28
  | 27 => 29
  | 28 => 30
  | 29 => 31
  | 30 => 33
  | 31 => 34
  | 32 => 35
  | 33 => 36
  | 34 => 37
  | 35 => 18
  | 36 => 21
  | _ => 32
theorem pmq_inj : ∀ i, i < 38 → ∀ j, j < 38 → pmq i = pmq j → i = j := by decide +kernel
def adq (q0 : Nat) (f x : Nat → Nat) (k : Nat) : Nat := if 38 ≤ k then x k else if k = 0 then q0 else f (pmq k - 1)
abbrev Gz (D : va_G) (cA : Nat → ClassId) (q0 : Nat) (f x : Nat → Nat) : Gq := (D, adq q0 f x, cA)
section WL
variable {D : va_G} {cA : Nat → ClassId} {q0 : Nat} {f : Nat → Nat} {x : Nat → Nat}
set_option maxRecDepth 20000 in
theorem wl_all : ∀ k : Nat, k < 38 → (w1_Cs (Gz D cA q0 f x) q0 f)[pmq k]? = some (adq q0 f x k, ent (Gz D cA q0 f x) S0 k)
  | 0, _ => rfl
  | 1, _ => rfl
  | 2, _ => rfl
  | 3, _ => rfl
  | 4, _ => rfl
  | 5, _ => rfl
  | 6, _ => rfl
  | 7, _ => rfl
  | 8, _ => rfl
  | 9, _ => rfl
  | 10, _ => rfl
  | 11, _ => rfl
  | 12, _ => rfl
  | 13, _ => rfl
  | 14, _ => rfl
  | 15, _ => congrArg (fun F : Nat → Int32 => some ((f 14 : Nat), (.inl (cA 0, 5, .inl F) : va_E))) fn_tmq
  | 16, _ => rfl
  | 17, _ => rfl
  | 18, _ => rfl
  | 19, _ => rfl
  | 20, _ => rfl
  | 21, _ => rfl
  | 22, _ => rfl
  | 23, _ => rfl
  | 24, _ => rfl
  | 25, _ => rfl
  | 26, _ => rfl
  | 27, _ => rfl
  | 28, _ => rfl
  | 29, _ => rfl
  | 30, _ => rfl
  | 31, _ => rfl
  | 32, _ => rfl
  | 33, _ => rfl
  | 34, _ => rfl
  | 35, _ => rfl
  | 36, _ => rfl
  | 37, _ => rfl
  | k + 38, h => absurd h (by omega)
end WL
