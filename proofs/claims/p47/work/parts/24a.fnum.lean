-- doubles that are not below 0: what they stand for, how they are rounded
theorem b64_t : FP.Core.b64.tails = 4503599627370496 := by decide
theorem b64_x : FP.Core.b64.exps = 2048 := by decide
theorem b64_n : FP.Core.b64.qmin = -1074 := by decide
theorem b64_m : FP.Core.b64.qmax = 971 := by decide
theorem b64_p : 2 ^ FP.Core.b64.p = 9007199254740992 := by decide
/-- a number of the format, in the one way it is written -/
def ftq (c : Nat) (q : Int) : Prop := c < 9007199254740992 ∧ -1074 ≤ q ∧ q ≤ 971 ∧ (q = -1074 ∨ 4503599627370496 ≤ c)
def FN (x : UInt64) (c : Nat) (q : Int) : Prop := FP.Core.decode FP.Core.b64 x.toNat = .fin false c q ∧ ftq c q ∧ x.toNat ≤ 9218868437227405312
def FI (x : UInt64) : Prop := FP.Core.decode FP.Core.b64 x.toNat = .inf false ∧ x.toNat ≤ 9218868437227405312
theorem fn_of {c : Nat} {q : Int} (h : ftq c q) : FN (.ofNat (FP.Core.encode FP.Core.b64 (.fin false c q))) c q := by
  obtain ⟨h1, h2, h3, h4⟩ := h
  by_cases hc : c < 4503599627370496
  · have e : FP.Core.encode FP.Core.b64 (.fin false c q) = c := by
      show (if c < FP.Core.b64.tails then FP.Core.assemble FP.Core.b64 false 0 c else FP.Core.assemble FP.Core.b64 false ((q - FP.Core.b64.qmin).toNat + 1) (c - FP.Core.b64.tails)) = _
      unfold FP.Core.assemble
      rw [b64_t, if_pos hc]
      simp
    have en : (UInt64.ofNat c).toNat = c := UInt64.toNat_ofNat_of_lt' (by show c < 2 ^ 64; omega)
    rw [e]
    refine ⟨?_, ⟨h1, h2, h3, h4⟩, by rw [en]; omega⟩
    rw [en]
    unfold FP.Core.decode FP.Core.fieldE FP.Core.fieldT FP.Core.fieldS
    rw [b64_t, b64_x, b64_n, show c / 4503599627370496 = 0 by omega, show c % 4503599627370496 = c by omega, show q = -1074 by omega]
    rfl
  · have e : FP.Core.encode FP.Core.b64 (.fin false c q) = ((q + 1074).toNat + 1) * 4503599627370496 + (c - 4503599627370496) := by
      show (if c < FP.Core.b64.tails then FP.Core.assemble FP.Core.b64 false 0 c else FP.Core.assemble FP.Core.b64 false ((q - FP.Core.b64.qmin).toNat + 1) (c - FP.Core.b64.tails)) = _
      unfold FP.Core.assemble
      rw [b64_t, b64_x, b64_n, if_neg hc]
      simp
    generalize hE : (q + 1074).toNat + 1 = E at e
    have hE1 : 1 ≤ E ∧ E ≤ 2046 := by omega
    have hq : q = -1074 + ((E : Int) - 1) := by omega
    generalize hn : FP.Core.encode FP.Core.b64 (.fin false c q) = n at e
    have en : (UInt64.ofNat n).toNat = n := UInt64.toNat_ofNat_of_lt' (by show n < 2 ^ 64; omega)
    refine ⟨?_, ⟨h1, h2, h3, h4⟩, by rw [en]; omega⟩
    rw [en]
    unfold FP.Core.decode FP.Core.fieldE FP.Core.fieldT FP.Core.fieldS
    rw [b64_t, b64_x, b64_n, show n / 4503599627370496 = E by omega, show n % 4503599627370496 = c - 4503599627370496 by omega, show E % 2048 = E by omega, if_neg (by omega), if_neg (by omega), hq, show E / 2048 = 0 by omega, show 4503599627370496 + (c - 4503599627370496) = c by omega]
    rfl
theorem fi_of : FI (.ofNat (FP.Core.encode FP.Core.b64 (.inf false))) := by
  constructor <;> decide
/-- no NaN -/
theorem n64_le {x : UInt64} (h : x.toNat ≤ 9218868437227405312) : vf_n64 x := by
  unfold vf_n64
  rw [UInt64.le_iff_toNat_le, UInt64.toNat_and]
  have h1 := Nat.and_le_left (n := x.toNat) (m := (0x7fffffffffffffff : UInt64).toNat)
  have h2 : (0x7ff0000000000000 : UInt64).toNat = 9218868437227405312 := by decide
  omega
theorem FN.n64 {x : UInt64} {c : Nat} {q : Int} (h : FN x c q) : vf_n64 x := n64_le h.2.2
theorem FI.n64 {x : UInt64} (h : FI x) : vf_n64 x := n64_le h.2
-- powers of two
abbrev tw (q : Int) : Rat := (2 : Rat) ^ q
theorem tw_pos (q : Int) : 0 < tw q := Rat.zpow_pos (by decide)
theorem tw_add (a b : Int) : tw (a + b) = tw a * tw b := Rat.zpow_add (by decide) a b
theorem tw_nat (n : Nat) : tw (n : Int) = ((2 ^ n : Nat) : Rat) := by
  unfold tw
  rw [Rat.zpow_natCast]
  induction n with
  | zero => rfl
  | succ n ih => rw [Rat.pow_succ, ih, Nat.pow_succ, Rat.natCast_mul]; rfl
theorem tw_sub (a b : Int) : tw (a - b) * tw b = tw a := by rw [← tw_add]; congr 1; omega
theorem tw_le {a b : Int} (h : a ≤ b) : tw a ≤ tw b := by
  have e : tw b = tw (b - a) * tw a := (tw_sub b a).symm
  have h1 : (1 : Rat) ≤ tw (b - a) := by
    obtain ⟨k, hk⟩ := Int.eq_ofNat_of_zero_le (show 0 ≤ b - a by omega)
    rw [hk, tw_nat]
    exact Rat.natCast_le_natCast.mpr (Nat.one_le_two_pow)
  have := Rat.mul_le_mul_of_nonneg_right h1 (Rat.le_of_lt (tw_pos a))
  rwa [Rat.one_mul, ← e] at this
theorem tw_lt {a b : Int} (h : a < b) : 2 * tw a ≤ tw b := by
  have := tw_le (show a + 1 ≤ b by omega)
  rw [tw_add, Rat.mul_comm] at this
  exact this
/-- the value -/
def rv (c : Nat) (q : Int) : Rat := (c : Rat) * tw q
theorem rv_nn (c : Nat) (q : Int) : 0 ≤ rv c q := Rat.mul_nonneg Rat.natCast_nonneg (Rat.le_of_lt (tw_pos q))
theorem log2_in {n : Nat} (h : 0 < n) : 2 ^ n.log2 ≤ n ∧ n < 2 ^ (n.log2 + 1) := ⟨Nat.log2_self_le (by omega), Nat.lt_log2_self⟩

