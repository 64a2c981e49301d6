-- how the class stands after its constructor
def S0 : St := fun c => match c with
  | 8 => fun j => if j = 2 then -1 else 0
  | 15 => tmq
  | 20 => fun j => if j = 0 then 7 else 0
  | 26 => fun j => if j = 1 then -1 else if j = 2 then -1 else 0
  | _ => fun _ => 0
theorem Az_0 : Az 0 0 = 0 := rfl
theorem Az_1 : Az 0 1 = 0 := rfl
theorem Az_2 : Az 0 2 = 0 := rfl
theorem Az_4 : Az 0 4 = 0 := rfl
theorem S0_wf : WF S0 := fun c j => by
  unfold S0 tmq
  split <;> (dsimp only) <;> (repeat' split) <;> omega
theorem fiveS {P : Int → Prop} (h0 : P 0) (h1 : P 1) (h2 : P 2) (h3 : P 3) (h4 : P 4) : ∀ k : Int, 0 ≤ k → k < 5 → P k := fun k a b => by
  have : k = 0 ∨ k = 1 ∨ k = 2 ∨ k = 3 ∨ k = 4 := by omega
  rcases this with rfl | rfl | rfl | rfl | rfl <;> assumption
theorem CR_0 : CR Az S0 := by
  refine ⟨⟨rfl, fun i a b => ?_⟩, ?_, ⟨rfl, rfl, rfl, fun i a b => ?_, fun i a b => ?_⟩, ⟨rfl, rfl, fun r a b => ?_, fun k a b => ?_⟩, ⟨rfl, fun i a b => ?_⟩, ⟨rfl, rfl⟩⟩
  · rw [Az_0] at b; omega
  · exact fiveS rfl rfl rfl rfl rfl
  · rw [Az_0] at b; omega
  · rw [Az_0] at b; omega
  · rw [Az_2] at b; omega
  · rw [Az_2] at b
    have : hb Az 0 = 0 := rfl
    omega
  · rw [Az_4] at b; omega
theorem FC_0 : FC S0 := fun k _ _ h => absurd rfl h
theorem fn_tmq : upd (upd (upd (upd (upd (fun _ => 0) 0 50000) 1 50) 2 0) 3 0) 4 7 = fun j : Nat => Int32.ofInt (tmq (j : Int)) := by
  funext j
  unfold upd tmq
  by_cases h4 : j = 4
  · subst h4; rfl
  by_cases h3 : j = 3
  · subst h3; rfl
  by_cases h2 : j = 2
  · subst h2; rfl
  by_cases h1 : j = 1
  · subst h1; rfl
  by_cases h0 : j = 0
  · subst h0; rfl
  rw [if_neg h4, if_neg h3, if_neg h2, if_neg h1, if_neg h0, if_neg (by omega), if_neg (by omega), if_neg (by omega)]
  rfl
