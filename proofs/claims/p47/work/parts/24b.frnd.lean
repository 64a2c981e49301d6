-- rounding
theorem tw_cast (n : Nat) : ((2 ^ n : Nat) : Rat) = tw (n : Int) := (tw_nat n).symm
theorem tw_max (a b : Int) : ((2 ^ (a - b).toNat : Nat) : Rat) * tw b = ((2 ^ (b - a).toNat : Nat) : Rat) * tw a := by
  rw [tw_cast, tw_cast, ← tw_add, ← tw_add]
  congr 1
  omega
theorem ld_cond {A B : Nat} {k : Int} : B * 2 ^ k.toNat ≤ A * 2 ^ (-k).toNat ↔ (B : Rat) * tw k ≤ (A : Rat) := by
  have h1 : ((B * 2 ^ k.toNat : Nat) : Rat) = (B : Rat) * tw (k.toNat : Int) := by rw [Rat.natCast_mul, tw_cast]
  have h2 : ((A * 2 ^ (-k).toNat : Nat) : Rat) = (A : Rat) * tw ((-k).toNat : Int) := by rw [Rat.natCast_mul, tw_cast]
  rw [← Rat.natCast_le_natCast, h1, h2]
  have hp := tw_pos ((-k).toNat : Int)
  have e : tw (k.toNat : Int) = tw k * tw ((-k).toNat : Int) := by rw [← tw_add]; congr 1; omega
  rw [e, ← Rat.mul_assoc]
  exact ⟨fun h => Rat.le_of_mul_le_mul_right h hp, fun h => Rat.mul_le_mul_of_nonneg_right h (Rat.le_of_lt hp)⟩
theorem ld_spec {A B : Nat} (hA : 0 < A) (hB : 0 < B) : tw (FP.Core.leading A B) * (B : Rat) ≤ (A : Rat) ∧ (A : Rat) < 2 * tw (FP.Core.leading A B) * (B : Rat) := by
  have ha := log2_in hA
  have hb := log2_in hB
  have a1 : tw (A.log2 : Int) ≤ (A : Rat) := by rw [← tw_cast]; exact Rat.natCast_le_natCast.mpr ha.1
  have a2 : (A : Rat) < tw ((A.log2 : Int) + 1) := by
    have : (A : Rat) < ((2 ^ (A.log2 + 1) : Nat) : Rat) := Rat.natCast_lt_natCast.mpr ha.2
    rwa [tw_cast] at this
  have b1 : tw (B.log2 : Int) ≤ (B : Rat) := by rw [← tw_cast]; exact Rat.natCast_le_natCast.mpr hb.1
  have b2 : (B : Rat) < tw ((B.log2 : Int) + 1) := by
    have : (B : Rat) < ((2 ^ (B.log2 + 1) : Nat) : Rat) := Rat.natCast_lt_natCast.mpr hb.2
    rwa [tw_cast] at this
  unfold FP.Core.leading
  dsimp only
  generalize hk : (A.log2 : Int) - (B.log2 : Int) = k
  have hkp := tw_pos k
  have hk1 := tw_pos (k - 1)
  have e2 : 2 * tw (k - 1) = tw k := by
    have := tw_add (k - 1) 1
    rw [show k - 1 + 1 = k by omega] at this
    rw [this, Rat.mul_comm]
    rfl
  split
  · next h =>
    refine ⟨by rw [Rat.mul_comm]; exact ld_cond.mp h, ?_⟩
    have e1 : tw ((A.log2 : Int) + 1) = 2 * tw k * tw (B.log2 : Int) := by
      have : (A.log2 : Int) + 1 = 1 + k + (B.log2 : Int) := by omega
      rw [this, tw_add, tw_add]
      rfl
    have : 2 * tw k * tw (B.log2 : Int) ≤ 2 * tw k * (B : Rat) := Rat.mul_le_mul_of_nonneg_left b1 (by grind)
    grind
  · next h =>
    have h' : ¬ (B : Rat) * tw k ≤ (A : Rat) := fun q => h (ld_cond.mpr q)
    refine ⟨?_, by rw [e2, Rat.mul_comm]; grind⟩
    have e1 : tw (A.log2 : Int) = tw (k - 1) * tw ((B.log2 : Int) + 1) := by rw [← tw_add]; congr 1; omega
    have : tw (k - 1) * (B : Rat) ≤ tw (k - 1) * tw ((B.log2 : Int) + 1) := Rat.mul_le_mul_of_nonneg_left (Rat.le_of_lt b2) (Rat.le_of_lt hk1)
    grind
theorem nr_ge {N D M : Nat} (hD : 0 < D) (h : M * D ≤ N) : M ≤ FP.Core.nearest N D := by
  have h1 : M ≤ N / D := (Nat.le_div_iff_mul_le hD).mpr h
  unfold FP.Core.nearest
  split
  · exact h1
  · split
    · omega
    · omega
theorem nr_le {N D M : Nat} (hD : 0 < D) (h : N ≤ M * D) : FP.Core.nearest N D ≤ M := by
  have h1 := Nat.div_add_mod N D
  have h2 := Nat.mod_lt N hD
  by_cases hr : N % D = 0
  · have : N / D ≤ M := Nat.div_le_of_le_mul (by rw [Nat.mul_comm]; exact h)
    unfold FP.Core.nearest
    rw [if_pos (by omega)]
    exact this
  · have : N / D < M := by
      refine (Nat.div_lt_iff_lt_mul hD).mpr ?_
      rcases Nat.lt_or_ge N (M * D) with g | g
      · exact g
      · have : N = M * D := by omega
        rw [this, Nat.mul_mod_left] at hr
        exact absurd rfl hr
    unfold FP.Core.nearest
    split
    · omega
    · split
      · omega
      · omega
theorem nr_err {N D : Nat} (hD : 0 < D) : 2 * (FP.Core.nearest N D * D) ≤ 2 * N + D ∧ 2 * N ≤ 2 * (FP.Core.nearest N D * D) + D := by
  have h1 := Nat.div_add_mod N D
  have h2 := Nat.mod_lt N hD
  have e1 : N / D * D = D * (N / D) := Nat.mul_comm _ _
  unfold FP.Core.nearest
  split
  · omega
  · split
    · rw [Nat.add_mul]; omega
    · rw [Nat.add_mul]
      have h3 : N / D % 2 = 0 ∨ N / D % 2 = 1 := by omega
      rcases h3 with h3 | h3 <;> rw [h3] <;> omega
/-- what is known of a rounded number: nothing of the format lies between, and it is near -/
def Rd (v x : Rat) : Prop := (∀ (c : Nat) (q : Int), c < 9007199254740992 → -1074 ≤ q → rv c q ≤ x → rv c q ≤ v) ∧ (∀ (c : Nat) (q : Int), c < 9007199254740992 → -1074 ≤ q → x ≤ rv c q → v ≤ rv c q) ∧ (tw (-1000) ≤ x → v ≤ x * (1 + tw (-53)) ∧ x ≤ v * (1 + tw (-53)))
theorem n53 : ((9007199254740992 : Nat) : Rat) = tw 53 := by decide +kernel
theorem n52 : ((4503599627370496 : Nat) : Rat) = tw 52 := by decide +kernel
theorem rv_carry (q : Int) : rv 9007199254740992 q = rv 4503599627370496 (q + 1) := by
  unfold rv
  rw [n53, n52, ← tw_add, ← tw_add]
  congr 1
  omega
theorem rv_shift {c : Nat} {q0 q : Int} (h : q ≤ q0) : rv c q0 = rv (c * 2 ^ (q0 - q).toNat) q := by
  unfold rv
  rw [Rat.natCast_mul, tw_cast, Rat.mul_assoc, ← tw_add]
  congr 2
  omega
theorem rr {A B : Nat} {e : Int} (hA : 0 < A) (hB : 0 < B) {x : Rat} (hx : x * (B : Rat) = (A : Rat) * tw e) :
    ∃ (c : Nat) (q : Int), FP.Core.roundRatio FP.Core.b64 false A B e = (if q ≤ 971 then .fin false c q else .inf false) ∧ c < 9007199254740992 ∧ -1074 ≤ q ∧ (q = -1074 ∨ 4503599627370496 ≤ c) ∧ Rd (rv c q) x := by
  have hBp : (0 : Rat) < (B : Rat) := Rat.natCast_pos.mpr hB
  have hl := ld_spec hA hB
  generalize hL : FP.Core.leading A B = L at hl
  -- the last digit's place
  generalize hq : FP.Core.quantum FP.Core.b64 A B e = q
  have hq' : q = max (-1074) (L + e - 52) := by
    rw [← hq]
    unfold FP.Core.quantum
    rw [b64_n, hL]
    rfl
  have hqn : -1074 ≤ q := by omega
  have hqp := tw_pos q
  have hep := tw_pos e
  generalize hN : FP.Core.unitsNum A e q = N
  generalize hD : FP.Core.unitsDen B e q = D
  have hD0 : 0 < D := by rw [← hD]; exact Nat.mul_pos hB (Nat.two_pow_pos _)
  have hDp : (0 : Rat) < (D : Rat) := Rat.natCast_pos.mpr hD0
  -- in units
  have hu : (N : Rat) * tw q = (D : Rat) * x := by
    have e1 : (N : Rat) = (A : Rat) * ((2 ^ (e - q).toNat : Nat) : Rat) := by rw [← hN]; exact Rat.natCast_mul _ _
    have e2 : (D : Rat) = (B : Rat) * ((2 ^ (q - e).toNat : Nat) : Rat) := by rw [← hD]; exact Rat.natCast_mul _ _
    have e3 := tw_max e q
    rw [e1, e2]
    grind
  -- its size
  have hx1 : x < tw 53 * tw q := by
    have h1 : x * (B : Rat) < 2 * tw L * tw e * (B : Rat) := by
      rw [hx]
      have := Rat.mul_lt_mul_of_pos_right hl.2 hep
      grind
    have h2 := Rat.lt_of_mul_lt_mul_right h1 (Rat.le_of_lt hBp)
    have h3 : 2 * tw L * tw e = tw (1 + L + e) := by rw [tw_add, tw_add]; rfl
    have h4 : tw (1 + L + e) ≤ tw (53 + q) := tw_le (by omega)
    rw [tw_add 53 q] at h4
    grind
  have hx2 : -1074 < q → tw 52 * tw q ≤ x := fun hgt => by
    have h1 : tw L * tw e * (B : Rat) ≤ x * (B : Rat) := by
      rw [hx]
      have := Rat.mul_le_mul_of_nonneg_right hl.1 (Rat.le_of_lt hep)
      grind
    have h2 := Rat.le_of_mul_le_mul_right h1 hBp
    have h3 : tw L * tw e = tw 52 * tw q := by rw [← tw_add, ← tw_add]; congr 1; omega
    rw [← h3]; exact h2
  -- whole numbers of units below and above
  have lo : ∀ M : Nat, (M : Rat) * tw q ≤ x → M ≤ FP.Core.nearest N D := fun M hM => by
    refine nr_ge hD0 (Rat.natCast_le_natCast.mp ?_)
    rw [Rat.natCast_mul]
    have h1 := Rat.mul_le_mul_of_nonneg_left hM (Rat.le_of_lt hDp)
    rw [← hu] at h1
    refine Rat.le_of_mul_le_mul_right (c := tw q) ?_ hqp
    grind
  have hi : ∀ M : Nat, x ≤ (M : Rat) * tw q → FP.Core.nearest N D ≤ M := fun M hM => by
    refine nr_le hD0 (Rat.natCast_le_natCast.mp ?_)
    rw [Rat.natCast_mul]
    have h1 := Rat.mul_le_mul_of_nonneg_left hM (Rat.le_of_lt hDp)
    rw [← hu] at h1
    refine Rat.le_of_mul_le_mul_right (c := tw q) ?_ hqp
    grind
  have er := nr_err (N := N) hD0
  generalize hc : FP.Core.nearest N D = c at lo hi er
  have er1 : 2 * rv c q ≤ 2 * x + tw q := by
    have h1 : ((2 * (c * D) : Nat) : Rat) ≤ ((2 * N + D : Nat) : Rat) := Rat.natCast_le_natCast.mpr er.1
    rw [Rat.natCast_mul, Rat.natCast_mul, Rat.natCast_add, Rat.natCast_mul] at h1
    have h2 := Rat.mul_le_mul_of_nonneg_right h1 (Rat.le_of_lt hqp)
    refine Rat.le_of_mul_le_mul_right (c := (D : Rat)) ?_ hDp
    unfold rv
    grind
  have er2 : 2 * x ≤ 2 * rv c q + tw q := by
    have h1 : ((2 * N : Nat) : Rat) ≤ ((2 * (c * D) + D : Nat) : Rat) := Rat.natCast_le_natCast.mpr er.2
    rw [Rat.natCast_mul, Rat.natCast_add, Rat.natCast_mul, Rat.natCast_mul] at h1
    have h2 := Rat.mul_le_mul_of_nonneg_right h1 (Rat.le_of_lt hqp)
    refine Rat.le_of_mul_le_mul_right (c := (D : Rat)) ?_ hDp
    unfold rv
    grind
  have hc53 : c ≤ 9007199254740992 := hi _ (by rw [n53]; exact Rat.le_of_lt hx1)
  have hc52 : -1074 < q → 4503599627370496 ≤ c := fun h => lo _ (by rw [n52]; exact hx2 h)
  have rc : -1074 < q → tw 52 * tw q ≤ rv c q := fun h => by
    unfold rv
    rw [← n52]
    exact Rat.mul_le_mul_of_nonneg_right (Rat.natCast_le_natCast.mpr (hc52 h)) (Rat.le_of_lt hqp)
  have small : ∀ (c0 : Nat) (q0 : Int), c0 < 9007199254740992 → q0 < q → rv c0 q0 < tw 52 * tw q := fun c0 q0 h1 h2 => by
    have h3 : (c0 : Rat) < tw 53 := by rw [← n53]; exact Rat.natCast_lt_natCast.mpr h1
    have h4 := Rat.mul_lt_mul_of_pos_right h3 (tw_pos q0)
    have h5 := tw_lt h2
    have h6 : tw 53 = 2 * tw 52 := by decide +kernel
    have h7 := tw_pos 52
    have h8 := Rat.mul_le_mul_of_nonneg_left h5 (Rat.le_of_lt h7)
    unfold rv
    grind
  have hR : Rd (rv c q) x := by
    refine ⟨fun c0 q0 h1 h2 h3 => ?_, fun c0 q0 h1 h2 h3 => ?_, fun h1 => ?_⟩
    · rcases Int.lt_or_le q0 q with g | g
      · have a1 := small c0 q0 h1 g
        have a2 := rc (by omega)
        grind
      · rw [rv_shift g] at h3 ⊢
        exact Rat.mul_le_mul_of_nonneg_right (Rat.natCast_le_natCast.mpr (lo _ h3)) (Rat.le_of_lt hqp)
    · rcases Int.lt_or_le q0 q with g | g
      · have a1 := small c0 q0 h1 g
        have a2 := hx2 (by omega)
        grind
      · rw [rv_shift g] at h3 ⊢
        exact Rat.mul_le_mul_of_nonneg_right (Rat.natCast_le_natCast.mpr (hi _ h3)) (Rat.le_of_lt hqp)
    · have hgt : -1074 < q := by
        rcases Int.lt_or_le (-1074) q with g | g
        · exact g
        · have e : q = -1074 := by omega
          rw [e, ← tw_add] at hx1
          have := tw_le (show (53 : Int) + -1074 ≤ -1000 by omega)
          grind
      have a1 := hx2 hgt
      have a2 := rc hgt
      have e1 : tw 52 * tw q * tw (-53) = tw q * tw (-1) := by rw [← tw_add, ← tw_add, ← tw_add]; congr 1; omega
      have e2 : 2 * tw (-1) = 1 := by decide +kernel
      have hp := tw_pos (-53)
      have a3 := Rat.mul_le_mul_of_nonneg_right a1 (Rat.le_of_lt hp)
      have a4 := Rat.mul_le_mul_of_nonneg_right a2 (Rat.le_of_lt hp)
      rw [e1] at a3 a4
      constructor <;> grind
  -- written down
  have eR : FP.Core.roundRatio FP.Core.b64 false A B e = FP.Core.settle FP.Core.b64 false c q := by
    unfold FP.Core.roundRatio FP.Core.roundAt
    rw [if_neg (by omega), hq, hN, hD, hc]
  rw [eR]
  unfold FP.Core.settle FP.Core.bound
  rw [b64_p, b64_m, b64_t]
  by_cases h53 : c < 9007199254740992
  · rw [if_pos h53]
    refine ⟨c, q, rfl, h53, hqn, ?_, hR⟩
    rcases Int.lt_or_le (-1074) q with g | g
    · exact Or.inr (hc52 g)
    · exact Or.inl (by omega)
  · rw [if_neg h53]
    refine ⟨4503599627370496, q + 1, rfl, by omega, by omega, Or.inr (Nat.le_refl _), ?_⟩
    have : c = 9007199254740992 := by omega
    rw [← rv_carry, ← this]
    exact hR

