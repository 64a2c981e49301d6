-- binomial sums, exactly
def Xq (p : Rat) : Nat → Nat → Rat
  | 0, 0 => 1
  | 0, _ + 1 => 0
  | n + 1, 0 => (1 - p) * Xq p n 0
  | n + 1, j + 1 => (1 - p) * Xq p n (j + 1) + p * Xq p n j
def GS (p : Rat) (n : Nat) : Nat → Rat
  | 0 => Xq p n 0
  | k + 1 => GS p n k + Xq p n (k + 1)
theorem Xq_z (p : Rat) (n : Nat) : Xq p (n + 1) 0 = (1 - p) * Xq p n 0 := by rw [Xq]
theorem Xq_s (p : Rat) (n j : Nat) : Xq p (n + 1) (j + 1) = (1 - p) * Xq p n (j + 1) + p * Xq p n j := by rw [Xq]
theorem Xq_nn {p : Rat} (h0 : 0 ≤ p) (h1 : p ≤ 1) : ∀ n j : Nat, 0 ≤ Xq p n j := by
  have h2 : 0 ≤ 1 - p := by grind
  intro n
  induction n with
  | zero =>
    intro j
    cases j with
    | zero => show (0 : Rat) ≤ 1; decide
    | succ j => show (0 : Rat) ≤ 0; exact Rat.le_refl
  | succ n ih =>
    intro j
    cases j with
    | zero => rw [Xq_z]; exact Rat.mul_nonneg h2 (ih 0)
    | succ j =>
      rw [Xq_s]
      have a1 := Rat.mul_nonneg h2 (ih (j + 1))
      have a2 := Rat.mul_nonneg h0 (ih j)
      grind
theorem ncs (n : Nat) : ((n + 1 : Nat) : Rat) = (n : Rat) + 1 := by rw [Rat.natCast_add]; rfl
theorem Xq_r (p : Rat) : ∀ n j : Nat, ((j : Rat) + 1) * (1 - p) * Xq p n (j + 1) = ((n : Rat) - (j : Rat)) * p * Xq p n j := by
  intro n
  induction n with
  | zero =>
    intro j
    have z : Xq p 0 (j + 1) = 0 := by unfold Xq; rfl
    have z0 : ((0 : Nat) : Rat) = 0 := rfl
    cases j with
    | zero => rw [z, z0]; grind
    | succ j =>
      have z2 : Xq p 0 (j + 1) = 0 := by unfold Xq; rfl
      rw [z, z2]; grind
  | succ n ih =>
    intro j
    cases j with
    | zero =>
      have i0 := ih 0
      have z0 : ((0 : Nat) : Rat) = 0 := rfl
      rw [z0] at i0 ⊢
      rw [Xq_s, Xq_z, ncs]
      generalize Xq p n (0 + 1) = a at *
      generalize Xq p n 0 = b at *
      generalize (n : Rat) = N at *
      grind
    | succ j =>
      have i0 := ih j
      have i1 := ih (j + 1)
      rw [Xq_s, Xq_s, ncs n, ncs j]
      rw [ncs j] at i1
      generalize Xq p n (j + 1 + 1) = a at *
      generalize Xq p n (j + 1) = b at *
      generalize Xq p n j = d at *
      generalize (n : Rat) = N at *
      generalize (j : Rat) = J at *
      grind
theorem GS_z (p : Rat) (n : Nat) : GS p (n + 1) 0 = (1 - p) * GS p n 0 := by unfold GS; exact Xq_z p n
theorem GS_s (p : Rat) (n : Nat) : ∀ k : Nat, GS p (n + 1) (k + 1) = (1 - p) * GS p n (k + 1) + p * GS p n k := by
  intro k
  induction k with
  | zero =>
    have e1 : GS p (n + 1) (0 + 1) = GS p (n + 1) 0 + Xq p (n + 1) (0 + 1) := rfl
    have e2 : GS p n (0 + 1) = GS p n 0 + Xq p n (0 + 1) := rfl
    have e3 : GS p n 0 = Xq p n 0 := rfl
    rw [e1, e2, GS_z, Xq_s, e3]
    generalize Xq p n (0 + 1) = a
    generalize Xq p n 0 = b
    grind
  | succ k ih =>
    have e1 : GS p (n + 1) (k + 1 + 1) = GS p (n + 1) (k + 1) + Xq p (n + 1) (k + 1 + 1) := rfl
    have e2 : GS p n (k + 1 + 1) = GS p n (k + 1) + Xq p n (k + 1 + 1) := rfl
    have e3 : GS p n (k + 1) = GS p n k + Xq p n (k + 1) := rfl
    rw [e1, e2, ih, Xq_s, e3]
    generalize Xq p n (k + 1 + 1) = a
    generalize Xq p n (k + 1) = b
    generalize GS p n k = d
    grind
theorem GS_nn {p : Rat} (h0 : 0 ≤ p) (h1 : p ≤ 1) (n : Nat) : ∀ k : Nat, 0 ≤ GS p n k := by
  intro k
  induction k with
  | zero => exact Xq_nn h0 h1 n 0
  | succ k ih =>
    have := Xq_nn h0 h1 n (k + 1)
    show 0 ≤ GS p n k + Xq p n (k + 1)
    grind
theorem GS_0 (p : Rat) : ∀ k : Nat, GS p 0 k = 1 := by
  intro k
  induction k with
  | zero => rfl
  | succ k ih =>
    show GS p 0 k + Xq p 0 (k + 1) = 1
    have z : Xq p 0 (k + 1) = 0 := by unfold Xq; rfl
    rw [ih, z]; grind
theorem GS_p {p r : Rat} (h0 : 0 ≤ p) (h : p ≤ r) (h1 : r ≤ 1) : ∀ n k : Nat, GS r n k ≤ GS p n k := by
  intro n
  induction n with
  | zero => intro k; rw [GS_0, GS_0]; exact Rat.le_refl
  | succ n ih =>
    intro k
    have hr : 0 ≤ 1 - r := by grind
    have hp : 0 ≤ 1 - p := by grind
    cases k with
    | zero =>
      rw [GS_z, GS_z]
      have a1 := GS_nn (p := r) (by grind) h1 n 0
      have a2 := Rat.mul_le_mul_of_nonneg_left (ih 0) hp
      have a3 := Rat.mul_le_mul_of_nonneg_right (show 1 - r ≤ 1 - p by grind) a1
      grind
    | succ k =>
      rw [GS_s, GS_s]
      have a1 := Rat.mul_le_mul_of_nonneg_left (ih (k + 1)) hp
      have a2 := Rat.mul_le_mul_of_nonneg_left (ih k) h0
      have x := Xq_nn (p := r) (by grind) h1 n (k + 1)
      have e3 : GS r n (k + 1) = GS r n k + Xq r n (k + 1) := rfl
      have a3 := Rat.mul_nonneg (show 0 ≤ r - p by grind) x
      rw [e3] at a1 ⊢
      generalize GS r n k = A at *
      generalize Xq r n (k + 1) = B at *
      generalize GS p n (k + 1) = C at *
      generalize GS p n k = E at *
      grind
-- in whole numbers
def tmN (n k : Nat) : Nat → Nat
  | 0 => (n - k) ^ n
  | j + 1 => tmN n k j * ((n - j) * k) / ((j + 1) * (n - k))
def smN (n k : Nat) : Nat → Nat
  | 0 => tmN n k 0
  | j + 1 => smN n k j + tmN n k (j + 1)
theorem cert : ∀ n, n < 400 → ∀ k, k < 10 → 0 < k → k < n → 55 * n ^ n ≤ 100 * smN n k k ∧ n ^ n ≤ 10000000000 * (n - k) ^ n := by decide +kernel

