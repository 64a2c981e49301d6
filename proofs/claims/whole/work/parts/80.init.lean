-- how everything stands after the constructors
def tmq (j : Int) : Int := if j = 0 then 50000 else if j = 1 then 50 else if j = 4 then 7 else 0
def ltq (j : Int) : Int := if j = 0 then 1 else if j = 1 then 1 else 0
def gtq (j : Int) : Int := if j = 0 then 9999999 else if j = 1 then 500 else if j = 2 then 9 else if j = 3 then 1 else if j = 4 then 1000003 else 0
def wbq (j : Int) : Int := if j = 0 then 105 else if j = 1 then 116 else if j = 2 then 101 else if j = 3 then 109 else if j = 4 then 97 else if j = 5 then 117 else if j = 6 then 100 else if j = 7 then 105 else if j = 8 then 116 else 0
def S0 : St := fun c => match c with
  | 8 => fun j => if j = 2 then -1 else 0
  | 15 => tmq
  | 20 => fun j => if j = 0 then 7 else 0
  | 26 => fun j => if j = 1 then -1 else if j = 2 then -1 else 0
  | 35 => fun j => if j = 11 then 7 else if j = 17 then -1 else if j = 27 then -1 else 0
  | 36 => tmq
  | 37 => ltq
  | 38 => gtq
  | 43 => wbq
  | _ => fun _ => 0
def Az : St := fun c j => if c = 0 then (if j = 3 then 7 else if j = 6 then -1 else 0) else if c = 6 then tmq j else 0
theorem Az_0 : Az 0 0 = 0 := rfl
theorem Az_1 : Az 0 1 = 0 := rfl
theorem Az_2 : Az 0 2 = 0 := rfl
theorem Az_4 : Az 0 4 = 0 := rfl
theorem S0_wf : WF S0 := fun c j => by
  unfold S0 tmq ltq gtq wbq
  split <;> (dsimp only) <;> (repeat' split) <;> omega
theorem five {P : Int → Prop} (h0 : P 0) (h1 : P 1) (h2 : P 2) (h3 : P 3) (h4 : P 4) : ∀ k : Int, 0 ≤ k → k < 5 → P k := fun k a b => by
  have : k = 0 ∨ k = 1 ∨ k = 2 ∨ k = 3 ∨ k = 4 := by omega
  rcases this with rfl | rfl | rfl | rfl | rfl <;> assumption
theorem RL_0 : RL S0 := by
  refine ⟨Az, ⟨⟨rfl, fun i a b => ?_⟩, ?_, ⟨rfl, rfl, rfl, fun i a b => ?_, fun i a b => ?_⟩, ⟨rfl, rfl, fun r a b => ?_, fun k a b => ?_⟩, ⟨rfl, fun i a b => ?_⟩, ⟨rfl, rfl⟩⟩, fun k _ _ h => absurd rfl h, ⟨⟨rfl, fun i a b => ?_⟩, ⟨rfl, rfl, fun r a b => ?_⟩, rfl, ?_, ?_, ⟨rfl, fun i a b => ?_⟩, ⟨rfl, rfl⟩, ?_⟩, fun k _ _ h => absurd rfl h, ⟨⟨?_, ?_, fun i a b => ?_⟩, ?_, ⟨?_, ?_, fun h => ?_, fun r a b => ?_⟩, ?_, ?_, ?_⟩, fun i a b => ?_⟩
  · rw [Az_0] at b; omega
  · exact five rfl rfl rfl rfl rfl
  · rw [Az_0] at b; omega
  · rw [Az_0] at b; omega
  · rw [Az_2] at b; omega
  · rw [Az_2] at b
    have : hb Az 0 = 0 := rfl
    omega
  · rw [Az_4] at b; omega
  · rw [Az_0] at b; omega
  · rw [Az_2] at b; omega
  · exact five rfl rfl rfl rfl rfl
  · exact five ⟨rfl, rfl⟩ ⟨rfl, rfl⟩ ⟨rfl, rfl⟩ ⟨rfl, rfl⟩ ⟨rfl, rfl⟩
  · rw [Az_4] at b; omega
  · intro k a b
    have : k = 0 ∨ k = 1 ∨ k = 2 ∨ k = 3 ∨ k = 4 ∨ k = 5 ∨ k = 6 ∨ k = 7 ∨ k = 8 := by omega
    rcases this with rfl | rfl | rfl | rfl | rfl | rfl | rfl | rfl | rfl <;> rfl
  · rw [Az_0]; omega
  · rw [Az_0]; omega
  · rw [Az_0] at b; omega
  · rw [Az_1]; omega
  · rw [Az_2]; omega
  · rw [Az_2]; omega
  · rw [Az_2] at h; omega
  · rw [Az_2] at b; omega
  · have : Az 0 3 = 7 := rfl
    omega
  · rw [Az_4]; omega
  · have h0 : Az 6 0 = 50000 := rfl
    have h1 : Az 6 1 = 50 := rfl
    have h2 : Az 6 2 = 0 := rfl
    have h3 : Az 6 3 = 0 := rfl
    have h4 : Az 6 4 = 7 := rfl
    omega
  · rw [Az_4] at b; omega
theorem fn_tmq : upd (upd (upd (upd (upd (fun _ => 0) 0 50000) 1 50) 2 0) 3 0) 4 7 = fun j : Nat => Int32.ofInt (tmq (j : Int)) := by
  funext j
  unfold upd tmq
  by_cases h4 : j = 4
  · subst h4; rfl
  by_cases h3 : j = 3
  · subst h3; rfl
  by_cases h2 : j = 2
  · subst h2; rfl
  by_cases h1 : j = 1
  · subst h1; rfl
  by_cases h0 : j = 0
  · subst h0; rfl
  rw [if_neg h4, if_neg h3, if_neg h2, if_neg h1, if_neg h0, if_neg (by omega), if_neg (by omega), if_neg (by omega)]
  rfl
theorem fn_ltq : upd (upd (upd (upd (upd (fun _ => 0) 0 1) 1 1) 2 0) 3 0) 4 0 = fun j : Nat => Int32.ofInt (ltq (j : Int)) := by
  funext j
  unfold upd ltq
  by_cases h4 : j = 4
  · subst h4; rfl
  by_cases h3 : j = 3
  · subst h3; rfl
  by_cases h2 : j = 2
  · subst h2; rfl
  by_cases h1 : j = 1
  · subst h1; rfl
  by_cases h0 : j = 0
  · subst h0; rfl
  rw [if_neg h4, if_neg h3, if_neg h2, if_neg h1, if_neg h0, if_neg (by omega), if_neg (by omega)]
  rfl
theorem fn_gtq : upd (upd (upd (upd (upd (fun _ => 0) 0 9999999) 1 500) 2 9) 3 1) 4 1000003 = fun j : Nat => Int32.ofInt (gtq (j : Int)) := by
  funext j
  unfold upd gtq
  by_cases h4 : j = 4
  · subst h4; rfl
  by_cases h3 : j = 3
  · subst h3; rfl
  by_cases h2 : j = 2
  · subst h2; rfl
  by_cases h1 : j = 1
  · subst h1; rfl
  by_cases h0 : j = 0
  · subst h0; rfl
  rw [if_neg h4, if_neg h3, if_neg h2, if_neg h1, if_neg h0, if_neg (by omega), if_neg (by omega), if_neg (by omega), if_neg (by omega), if_neg (by omega)]
  rfl
theorem fn_wbq : upd (upd (upd (upd (upd (upd (upd (upd (upd (fun _ => 0) 0 105) 1 116) 2 101) 3 109) 4 97) 5 117) 6 100) 7 105) 8 116 = fun j : Nat => Int32.ofInt (wbq (j : Int)) := by
  funext j
  unfold upd wbq
  by_cases h8 : j = 8
  · subst h8; rfl
  by_cases h7 : j = 7
  · subst h7; rfl
  by_cases h6 : j = 6
  · subst h6; rfl
  by_cases h5 : j = 5
  · subst h5; rfl
  by_cases h4 : j = 4
  · subst h4; rfl
  by_cases h3 : j = 3
  · subst h3; rfl
  by_cases h2 : j = 2
  · subst h2; rfl
  by_cases h1 : j = 1
  · subst h1; rfl
  by_cases h0 : j = 0
  · subst h0; rfl
  rw [if_neg h8, if_neg h7, if_neg h6, if_neg h5, if_neg h4, if_neg h3, if_neg h2, if_neg h1, if_neg h0, if_neg (by omega), if_neg (by omega), if_neg (by omega), if_neg (by omega), if_neg (by omega), if_neg (by omega), if_neg (by omega), if_neg (by omega), if_neg (by omega)]
  rfl
