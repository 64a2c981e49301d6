theorem sub_c {n k : Nat} (h : k ≤ n) : ((n - k : Nat) : Rat) = (n : Rat) - (k : Rat) := by
  have : ((n - k + k : Nat) : Rat) = (n : Rat) := by rw [Nat.sub_add_cancel h]
  rw [Rat.natCast_add] at this
  grind
theorem tm_0 {n k : Nat} {ρ : Rat} (hk : k ≤ n) (hρ : ρ * (n : Rat) = (k : Rat)) : ∀ m : Nat, (((n - k) ^ m : Nat) : Rat) = ((n ^ m : Nat) : Rat) * Xq ρ m 0 := by
  intro m
  induction m with
  | zero =>
    show ((1 : Nat) : Rat) = ((1 : Nat) : Rat) * 1
    grind
  | succ m ih =>
    rw [Nat.pow_succ, Nat.pow_succ, Rat.natCast_mul, Rat.natCast_mul, ih, Xq_z, sub_c hk]
    generalize ((n ^ m : Nat) : Rat) = A at *
    generalize Xq ρ m 0 = B at *
    grind
theorem tm_le {n k : Nat} {ρ : Rat} (hk : k < n) (hρ : ρ * (n : Rat) = (k : Rat)) : ∀ j : Nat, j ≤ n → ((tmN n k j : Nat) : Rat) ≤ ((n ^ n : Nat) : Rat) * Xq ρ n j := by
  intro j
  induction j with
  | zero =>
    intro _
    show (((n - k) ^ n : Nat) : Rat) ≤ _
    rw [tm_0 (Nat.le_of_lt hk) hρ]
    exact Rat.le_refl
  | succ j ih =>
    intro hj
    have h1 := ih (by omega)
    have h2 : tmN n k (j + 1) * ((j + 1) * (n - k)) ≤ tmN n k j * ((n - j) * k) := Nat.div_mul_le_self _ _
    have h3 : ((tmN n k (j + 1) * ((j + 1) * (n - k)) : Nat) : Rat) ≤ ((tmN n k j * ((n - j) * k) : Nat) : Rat) := Rat.natCast_le_natCast.mpr h2
    rw [Rat.natCast_mul, Rat.natCast_mul, Rat.natCast_mul, Rat.natCast_mul, ncs, sub_c (Nat.le_of_lt hk), sub_c (by omega : j ≤ n)] at h3
    have hr := Xq_r ρ n j
    have n0 : (0 : Rat) < (n : Rat) - (k : Rat) := by
      rw [← sub_c (Nat.le_of_lt hk)]
      exact Rat.natCast_pos.mpr (by omega)
    have j0 : (0 : Rat) ≤ (j : Rat) := Rat.natCast_nonneg
    have jn : (0 : Rat) ≤ (n : Rat) - (j : Rat) := by rw [← sub_c (by omega : j ≤ n)]; exact Rat.natCast_nonneg
    have k0 : (0 : Rat) ≤ (k : Rat) := Rat.natCast_nonneg
    have m1 := Rat.mul_le_mul_of_nonneg_right h1 (Rat.mul_nonneg jn k0)
    have pos : (0 : Rat) < ((j : Rat) + 1) * ((n : Rat) - (k : Rat)) := Rat.mul_pos (by grind) n0
    refine Rat.le_of_mul_le_mul_right (c := ((j : Rat) + 1) * ((n : Rat) - (k : Rat))) ?_ pos
    have key : ((n ^ n : Nat) : Rat) * Xq ρ n (j + 1) * (((j : Rat) + 1) * ((n : Rat) - (k : Rat))) = ((n ^ n : Nat) : Rat) * Xq ρ n j * (((n : Rat) - (j : Rat)) * (k : Rat)) := by
      rw [← hρ]
      generalize Xq ρ n (j + 1) = a at *
      generalize Xq ρ n j = b at *
      generalize ((n ^ n : Nat) : Rat) = A at *
      generalize (n : Rat) = N at *
      generalize (j : Rat) = J at *
      grind
    rw [key]
    exact Rat.le_trans h3 m1
theorem sm_le {n k : Nat} {ρ : Rat} (hk : k < n) (hρ : ρ * (n : Rat) = (k : Rat)) : ∀ j : Nat, j ≤ n → ((smN n k j : Nat) : Rat) ≤ ((n ^ n : Nat) : Rat) * GS ρ n j := by
  intro j
  induction j with
  | zero => intro h; exact tm_le hk hρ 0 h
  | succ j ih =>
    intro hj
    have h1 := ih (by omega)
    have h2 := tm_le hk hρ (j + 1) hj
    show ((smN n k j + tmN n k (j + 1) : Nat) : Rat) ≤ ((n ^ n : Nat) : Rat) * (GS ρ n j + Xq ρ n (j + 1))
    rw [Rat.natCast_add]
    grind
theorem cert_r {n k : Nat} {ρ : Rat} (h0 : 0 < k) (hk : k < n) (h9 : k < 10) (hn : n < 400) (hρ : ρ * (n : Rat) = (k : Rat)) : 55 / 100 ≤ GS ρ n k ∧ 1 / 10000000000 ≤ GS ρ n 0 := by
  obtain ⟨c1, c2⟩ := cert n hn k h9 h0 hk
  have s1 := sm_le hk hρ k (Nat.le_of_lt hk)
  have s2 := tm_0 (Nat.le_of_lt hk) hρ n
  have d1 : ((55 * n ^ n : Nat) : Rat) ≤ ((100 * smN n k k : Nat) : Rat) := Rat.natCast_le_natCast.mpr c1
  have d2 : ((n ^ n : Nat) : Rat) ≤ ((10000000000 * (n - k) ^ n : Nat) : Rat) := Rat.natCast_le_natCast.mpr c2
  rw [Rat.natCast_mul, Rat.natCast_mul] at d1
  rw [Rat.natCast_mul] at d2
  have np : (0 : Rat) < ((n ^ n : Nat) : Rat) := Rat.natCast_pos.mpr (Nat.pow_pos (by omega))
  have e1 : ((55 : Nat) : Rat) = 55 := rfl
  have e2 : ((100 : Nat) : Rat) = 100 := rfl
  have e3 : ((10000000000 : Nat) : Rat) = 10000000000 := rfl
  rw [e1, e2] at d1
  rw [e3] at d2
  have g0 : GS ρ n 0 = Xq ρ n 0 := rfl
  rw [s2, ← g0] at d2
  constructor
  · refine Rat.le_of_mul_le_mul_right (c := ((n ^ n : Nat) : Rat)) ?_ np
    grind
  · refine Rat.le_of_mul_le_mul_right (c := ((n ^ n : Nat) : Rat)) ?_ np
    grind

