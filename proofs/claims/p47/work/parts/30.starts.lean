/-- who is marked -/
def MKR (A : St) (f : Int → Bool) (σ : St) : Prop := ∀ i, 0 ≤ i → i < A 0 0 → σ 31 i = bi (f i)
theorem MKR.sm {S : List Nat} {A σ σ' : St} {f : Int → Bool} (h : MKR A f σ) (hs : Sm S σ σ') (h31 : 31 ∉ S) : MKR A f σ' := fun i a b => by rw [hs 31 h31]; exact h i a b
/-- the cuts are laid -/
def CTR (A σ : St) : Prop := ∃ m, σ 30 4 = m ∧ m ≤ 49 ∧ SCq (A 0 1) m (σ 32) ∧ CAq A (A 0 1) m (σ 32)
