-- what the instructions answer of doubles that are not below 0
def FV (x : UInt64) (v : Rat) : Prop := ∃ (c : Nat) (q : Int), FN x c q ∧ v = rv c q
def NN (x : UInt64) : Prop := FI x ∨ ∃ v, FV x v
theorem NN.n64 {x : UInt64} (h : NN x) : vf_n64 x := by
  rcases h with h | ⟨v, c, q, h, _⟩
  · exact h.n64
  · exact h.n64
theorem FV.n64 {x : UInt64} {v : Rat} (h : FV x v) : vf_n64 x := NN.n64 (Or.inr ⟨v, h⟩)
theorem FV.nn {x : UInt64} {v : Rat} (h : FV x v) : 0 ≤ v := by
  obtain ⟨c, q, _, e⟩ := h
  rw [e]; exact rv_nn c q
theorem FV.one {x : UInt64} {v w : Rat} (h : FV x v) (g : FV x w) : v = w := by
  obtain ⟨c, q, h1, e1⟩ := h
  obtain ⟨d, r, g1, e2⟩ := g
  have := h1.1.symm.trans g1.1
  injection this with _ a b
  rw [e1, e2, a, b]
/-- what comes out of a rounding -/
def Out (z : UInt64) (x : Rat) : Prop := (FI z ∧ tw 1000 < x) ∨ ∃ v, FV z v ∧ Rd v x
theorem Out.nn {z : UInt64} {x : Rat} (h : Out z x) : NN z := by
  rcases h with ⟨h, _⟩ | ⟨v, h, _⟩
  · exact Or.inl h
  · exact Or.inr ⟨v, h⟩
theorem Out.fv {z : UInt64} {x : Rat} (h : Out z x) (hx : x ≤ tw 1000) : ∃ v, FV z v ∧ Rd v x := by
  rcases h with ⟨_, h⟩ | h
  · exact absurd hx (Rat.not_le.mpr h)
  · exact h
theorem rv_1 (q : Int) : rv 1 q = tw q := by unfold rv; exact Rat.one_mul _
theorem out_rr {A B : Nat} {e : Int} (hB : 0 < B) {x : Rat} (hx : x * (B : Rat) = (A : Rat) * tw e) {n : Nat} (hn : n = FP.Core.encode FP.Core.b64 (FP.Core.roundRatio FP.Core.b64 false A B e)) : Out (.ofNat n) x := by
  have hBp : (0 : Rat) < (B : Rat) := Rat.natCast_pos.mpr hB
  by_cases hA : A = 0
  · subst hA
    have e0 : FP.Core.roundRatio FP.Core.b64 false 0 B e = .fin false 0 (-1074) := by
      unfold FP.Core.roundRatio
      rw [if_pos rfl, b64_n]
    have hx0 : x = 0 := by
      have h0 : ((0 : Nat) : Rat) = 0 := rfl
      rw [h0, Rat.zero_mul] at hx
      rcases Rat.mul_eq_zero.mp hx with h | h
      · exact h
      · grind
    refine Or.inr ⟨0, ⟨0, -1074, ?_, ?_⟩, ?_, ?_, ?_⟩
    · rw [hn, e0]
      exact fn_of ⟨by omega, by omega, by omega, Or.inl rfl⟩
    · unfold rv; exact (Rat.zero_mul _).symm
    · intro c q _ _ h
      rw [hx0] at h; exact h
    · intro c q _ _ _
      exact rv_nn c q
    · intro h
      rw [hx0] at h
      have := tw_pos (-1000)
      grind
  · obtain ⟨c, q, h1, h2, h3, h4, h5⟩ := rr (by omega) hB hx
    rw [h1] at hn
    by_cases hq : q ≤ 971
    · rw [if_pos hq] at hn
      refine Or.inr ⟨rv c q, ⟨c, q, ?_, rfl⟩, h5⟩
      rw [hn]
      exact fn_of ⟨h2, h3, hq, h4⟩
    · rw [if_neg hq] at hn
      refine Or.inl ⟨by rw [hn]; exact fi_of, ?_⟩
      refine Rat.not_le.mp fun hle => ?_
      have a1 := h5.2.1 1 1000 (by omega) (by omega) (by rw [rv_1]; exact hle)
      rw [rv_1] at a1
      have a2 : tw 52 * tw q ≤ rv c q := by
        unfold rv
        rw [← n52]
        exact Rat.mul_le_mul_of_nonneg_right (Rat.natCast_le_natCast.mpr (by omega)) (Rat.le_of_lt (tw_pos q))
      rw [← tw_add] at a2
      have a3 := tw_lt (show (1000 : Int) < 52 + q by omega)
      have := tw_pos 1000
      grind
theorem mul_v {a b : UInt64} {x y : Rat} (ha : FV a x) (hb : FV b y) : Out (FP.dmul a b) (x * y) := by
  obtain ⟨c, q, h1, rfl⟩ := ha
  obtain ⟨d, r, g1, rfl⟩ := hb
  refine out_rr (A := c * d) (B := 1) (e := q + r) (by omega) ?_ (n := FP.Core.mul FP.Core.b64 a.toNat b.toNat) ?_
  · rw [Rat.natCast_mul, tw_add]
    have : ((1 : Nat) : Rat) = 1 := rfl
    rw [this]
    unfold rv
    grind
  · unfold FP.Core.mul
    rw [h1.1, g1.1]
    rfl
theorem rv_pos {d : Nat} {r : Int} (h : 0 < rv d r) : 0 < d := by
  rcases Nat.eq_zero_or_pos d with g | g
  · subst g
    have h0 : rv 0 r = 0 := by unfold rv; exact Rat.zero_mul _
    rw [h0] at h
    exact absurd h (Rat.lt_irrefl)
  · exact g
theorem div_v {a b : UInt64} {x y z : Rat} (ha : FV a x) (hb : FV b y) (hy : 0 < y) (hz : z * y = x) : Out (FP.ddiv a b) z := by
  obtain ⟨c, q, h1, rfl⟩ := ha
  obtain ⟨d, r, g1, rfl⟩ := hb
  have hd := rv_pos hy
  refine out_rr (A := c) (B := d) (e := q - r) hd ?_ (n := FP.Core.div FP.Core.b64 a.toNat b.toNat) ?_
  · have hr := tw_pos r
    have e1 := tw_sub q r
    refine (?_ : z * (d : Rat) = (c : Rat) * tw (q - r))
    have h2 : z * (d : Rat) * tw r = (c : Rat) * tw (q - r) * tw r := by
      unfold rv at hz
      rw [Rat.mul_assoc (c : Rat), e1]
      grind
    have h3 : (z * (d : Rat) - (c : Rat) * tw (q - r)) * tw r = 0 := by grind
    rcases Rat.mul_eq_zero.mp h3 with h | h
    · grind
    · grind
  · unfold FP.Core.div
    rw [h1.1, g1.1]
    have e0 : FP.Core.quotient FP.Core.b64 (.fin false c q) (.fin false d r) = FP.Core.roundRatio FP.Core.b64 false c d (q - r) := by
      show (if d = 0 then (if c = 0 then FP.Core.Datum.nan else FP.Core.Datum.inf (false != false)) else FP.Core.roundRatio FP.Core.b64 (false != false) c d (q - r)) = _
      rw [if_neg (by omega)]
      rfl
    rw [e0]
theorem units_rv {c : Nat} {q m : Int} (h : m ≤ q) : rv c q = ((FP.Core.inUnits c q m : Nat) : Rat) * tw m := by
  unfold rv FP.Core.inUnits
  rw [Rat.natCast_mul, tw_cast, Rat.mul_assoc, ← tw_add]
  congr 2
  omega
theorem sum_ff (c : Nat) (q : Int) (d : Nat) (r : Int) : FP.Core.exactSum (.fin false c q) (.fin false d r) = .fin false (FP.Core.inUnits c q (min q r) + FP.Core.inUnits d r (min q r)) (min q r) := by
  show FP.Core.Datum.fin (FP.Core.sumSign false false (FP.Core.sumUnits false c q false d r (min q r))) (FP.Core.sumUnits false c q false d r (min q r)).natAbs (min q r) = _
  have hs : FP.Core.sumUnits false c q false d r (min q r) = ((FP.Core.inUnits c q (min q r) + FP.Core.inUnits d r (min q r) : Nat) : Int) := by
    show ((FP.Core.inUnits c q (min q r) : Nat) : Int) + ((FP.Core.inUnits d r (min q r) : Nat) : Int) = _
    omega
  rw [hs]
  generalize FP.Core.inUnits c q (min q r) + FP.Core.inUnits d r (min q r) = m
  have h1 : FP.Core.sumSign false false (m : Int) = false := by
    show (if (m : Int) = 0 then false else decide ((m : Int) < 0)) = false
    split
    · rfl
    · exact decide_eq_false (by omega)
  rw [h1]
  rfl
theorem sum_ft {c : Nat} {q : Int} {d : Nat} {r : Int} (h : FP.Core.inUnits d r (min q r) ≤ FP.Core.inUnits c q (min q r)) : FP.Core.exactSum (.fin false c q) (FP.Core.negate (.fin false d r)) = .fin false (FP.Core.inUnits c q (min q r) - FP.Core.inUnits d r (min q r)) (min q r) := by
  show FP.Core.Datum.fin (FP.Core.sumSign false true (FP.Core.sumUnits false c q true d r (min q r))) (FP.Core.sumUnits false c q true d r (min q r)).natAbs (min q r) = _
  have hs : FP.Core.sumUnits false c q true d r (min q r) = ((FP.Core.inUnits c q (min q r) - FP.Core.inUnits d r (min q r) : Nat) : Int) := by
    show ((FP.Core.inUnits c q (min q r) : Nat) : Int) + -((FP.Core.inUnits d r (min q r) : Nat) : Int) = _
    omega
  rw [hs]
  generalize FP.Core.inUnits c q (min q r) - FP.Core.inUnits d r (min q r) = m
  have h1 : FP.Core.sumSign false true (m : Int) = false := by
    show (if (m : Int) = 0 then false else decide ((m : Int) < 0)) = false
    split
    · rfl
    · exact decide_eq_false (by omega)
  rw [h1]
  rfl
theorem add_v {a b : UInt64} {x y : Rat} (ha : FV a x) (hb : FV b y) : Out (FP.dadd a b) (x + y) := by
  obtain ⟨c, q, h1, rfl⟩ := ha
  obtain ⟨d, r, g1, rfl⟩ := hb
  have e1 := units_rv (c := c) (q := q) (m := min q r) (by omega)
  have e2 := units_rv (c := d) (q := r) (m := min q r) (by omega)
  refine out_rr (A := FP.Core.inUnits c q (min q r) + FP.Core.inUnits d r (min q r)) (B := 1) (e := min q r) (by omega) ?_ (n := FP.Core.add FP.Core.b64 a.toNat b.toNat) ?_
  · rw [Rat.natCast_add, e1, e2]
    have : ((1 : Nat) : Rat) = 1 := rfl
    rw [this]
    grind
  · unfold FP.Core.add
    rw [h1.1, g1.1]
    rw [sum_ff]
    rfl
theorem units_le {c : Nat} {q : Int} {d : Nat} {r : Int} : FP.Core.inUnits d r (min q r) ≤ FP.Core.inUnits c q (min q r) ↔ rv d r ≤ rv c q := by
  rw [units_rv (c := c) (q := q) (m := min q r) (by omega), units_rv (c := d) (q := r) (m := min q r) (by omega), ← Rat.natCast_le_natCast]
  have hp := tw_pos (min q r)
  exact ⟨fun h => Rat.mul_le_mul_of_nonneg_right h (Rat.le_of_lt hp), fun h => Rat.le_of_mul_le_mul_right h hp⟩
theorem sub_v {a b : UInt64} {x y : Rat} (ha : FV a x) (hb : FV b y) (hyx : y ≤ x) : Out (FP.dsub a b) (x - y) := by
  obtain ⟨c, q, h1, rfl⟩ := ha
  obtain ⟨d, r, g1, rfl⟩ := hb
  have hle := units_le.mpr hyx
  have e1 := units_rv (c := c) (q := q) (m := min q r) (by omega)
  have e2 := units_rv (c := d) (q := r) (m := min q r) (by omega)
  refine out_rr (A := FP.Core.inUnits c q (min q r) - FP.Core.inUnits d r (min q r)) (B := 1) (e := min q r) (by omega) ?_ (n := FP.Core.sub FP.Core.b64 a.toNat b.toNat) ?_
  · have e3 : ((FP.Core.inUnits c q (min q r) : Nat) : Rat) = ((FP.Core.inUnits c q (min q r) - FP.Core.inUnits d r (min q r) : Nat) : Rat) + ((FP.Core.inUnits d r (min q r) : Nat) : Rat) := by
      rw [← Rat.natCast_add]
      congr 1
      omega
    rw [e3] at e1
    rw [e1, e2]
    have : ((1 : Nat) : Rat) = 1 := rfl
    rw [this]
    grind
  · unfold FP.Core.sub
    rw [h1.1, g1.1]
    rw [sum_ft hle]
    rfl
theorem rd_exact {v : Rat} {c : Nat} {q : Int} (hc : c < 9007199254740992) (hq : -1074 ≤ q) (h : Rd v (rv c q)) : v = rv c q := by
  have h1 := h.1 c q hc hq Rat.le_refl
  have h2 := h.2.1 c q hc hq Rat.le_refl
  exact Rat.le_antisymm h2 h1
theorem tw_z : tw 0 = 1 := by decide +kernel
theorem i2d_v {m : Nat} (h : m ≤ 2147483647) : FV (FP.i2d (Int32.ofInt m)) (m : Rat) := by
  have e0 : (Int32.ofInt (m : Int)).toInt = (m : Int) := Int32.toInt_ofInt_of_le (by show -(2 ^ 31 : Int) ≤ _; omega) (by show _ < (2 ^ 31 : Int); omega)
  have ho : Out (FP.i2d (Int32.ofInt m)) (rv m 0) := by
    refine out_rr (A := m) (B := 1) (e := 0) (by omega) ?_ (n := FP.Core.fromInt FP.Core.b64 (Int32.ofInt m).toInt) ?_
    · have : ((1 : Nat) : Rat) = 1 := rfl
      rw [this]
      unfold rv
      exact Rat.mul_one _
    · rw [e0]
      have : decide ((m : Int) < 0) = false := decide_eq_false (by omega)
      unfold FP.Core.fromInt FP.Core.ofInt
      rw [this]
      rfl
  have hm : rv m 0 = (m : Rat) := by unfold rv; rw [tw_z, Rat.mul_one]
  have hle : rv m 0 ≤ tw 1000 := by
    rw [hm]
    refine Rat.le_trans (b := ((2 ^ 1000 : Nat) : Rat)) (Rat.natCast_le_natCast.mpr ?_) (by rw [tw_cast]; exact Rat.le_refl)
    have : 2147483647 ≤ 2 ^ 1000 := by decide +kernel
    omega
  obtain ⟨v, h1, h2⟩ := ho.fv hle
  have := rd_exact (by omega) (by omega) h2
  rw [this, hm] at h1
  exact h1
theorem fv_1 : FV FP.dconst1 1 := ⟨4503599627370496, -52, ⟨by decide +kernel, by unfold ftq; omega, by decide⟩, by decide +kernel⟩
theorem fv_0 : FV FP.dconst0 0 := ⟨0, -1074, ⟨by decide +kernel, by unfold ftq; omega, by decide⟩, by decide +kernel⟩
theorem fv_m : FV 4696837146684686336 1000000 := ⟨8589934592000000, -33, ⟨by decide +kernel, by unfold ftq; omega, by decide⟩, by decide +kernel⟩
theorem fv_k : FV 4652007308841189376 1000 := ⟨8796093022208000, -43, ⟨by decide +kernel, by unfold ftq; omega, by decide⟩, by decide +kernel⟩
-- comparing
theorem cmp_v {a b : UInt64} {x y : Rat} (ha : FV a x) (hb : FV b y) : (0 < dcq .g a b ↔ y < x) ∧ (dcq .l a b = 0 ↔ x = y) := by
  obtain ⟨c, q, h1, rfl⟩ := ha
  obtain ⟨d, r, g1, rfl⟩ := hb
  have hc : FP.dcmp a b = some (compare ((FP.Core.inUnits c q (min q r) : Nat) : Int) ((FP.Core.inUnits d r (min q r) : Nat) : Int)) := by
    show FP.Core.order (FP.Core.decode FP.Core.b64 a.toNat) (FP.Core.decode FP.Core.b64 b.toNat) = _
    rw [h1.1, g1.1]
    rfl
  have l1 := units_le (c := c) (q := q) (d := d) (r := r)
  have l2 := units_le (c := d) (q := r) (d := c) (r := q)
  rw [Int.min_comm] at l2
  generalize FP.Core.inUnits c q (min q r) = A at *
  generalize FP.Core.inUnits d r (min q r) = B at *
  unfold dcq
  rw [hc]
  rcases Nat.lt_trichotomy A B with h | h | h
  · have e : compare (A : Int) (B : Int) = .lt := Int.compare_eq_lt.mpr (by omega)
    rw [e]
    have e1 : (Op.cmpValue (some .lt) CmpOp.g).toInt = -1 := by decide
    have e2 : (Op.cmpValue (some .lt) CmpOp.l).toInt = -1 := by decide
    rw [e1, e2]
    have n1 : ¬ rv d r ≤ rv c q := fun g => by have := l1.mpr g; omega
    constructor <;> constructor <;> intro g <;> first | omega | grind
  · have e : compare (A : Int) (B : Int) = .eq := Int.compare_eq_eq.mpr (by omega)
    rw [e]
    have e1 : (Op.cmpValue (some .eq) CmpOp.g).toInt = 0 := by decide
    have e2 : (Op.cmpValue (some .eq) CmpOp.l).toInt = 0 := by decide
    rw [e1, e2]
    have n1 := l1.mp (by omega)
    have n2 := l2.mp (by omega)
    constructor <;> constructor <;> intro g <;> first | omega | grind
  · have e : compare (A : Int) (B : Int) = .gt := Int.compare_eq_gt.mpr (by omega)
    rw [e]
    have e1 : (Op.cmpValue (some .gt) CmpOp.g).toInt = 1 := by decide
    have e2 : (Op.cmpValue (some .gt) CmpOp.l).toInt = 1 := by decide
    rw [e1, e2]
    have n1 : ¬ rv c q ≤ rv d r := fun g => by have := l2.mpr g; omega
    constructor <;> constructor <;> intro g <;> first | omega | grind
theorem cmp_i {a b : UInt64} {y : Rat} (ha : FI a) (hb : FV b y) : 0 < dcq .g a b := by
  obtain ⟨d, r, g1, rfl⟩ := hb
  have hc : FP.dcmp a b = some .gt := by
    show FP.Core.order (FP.Core.decode FP.Core.b64 a.toNat) (FP.Core.decode FP.Core.b64 b.toNat) = _
    rw [ha.1, g1.1]
    rfl
  unfold dcq
  rw [hc]
  decide
-- no NaN comes out
theorem dat_i {n : Nat} (hn : n = FP.Core.encode FP.Core.b64 (.inf false)) : FI (.ofNat n) := by rw [hn]; exact fi_of
theorem nn_mul {a b : UInt64} {y : Rat} (ha : NN a) (hb : FV b y) (hy : 0 < y) : NN (FP.dmul a b) := by
  rcases ha with ha | ⟨x, ha⟩
  · obtain ⟨d, r, g1, rfl⟩ := hb
    have hd := rv_pos hy
    refine Or.inl (dat_i (n := FP.Core.mul FP.Core.b64 a.toNat b.toNat) ?_)
    unfold FP.Core.mul
    rw [ha.1, g1.1]
    have : FP.Core.exactProduct (.inf false) (.fin false d r) = .inf false := by
      show (if d = 0 then FP.Core.Datum.nan else .inf (false != false)) = _
      rw [if_neg (by omega)]
      rfl
    rw [this]
    rfl
  · exact (mul_v ha hb).nn
theorem nn_div {a b : UInt64} {y : Rat} (ha : NN a) (hb : FV b y) (hy : 0 < y) : NN (FP.ddiv a b) := by
  rcases ha with ha | ⟨x, ha⟩
  · obtain ⟨d, r, g1, rfl⟩ := hb
    refine Or.inl (dat_i (n := FP.Core.div FP.Core.b64 a.toNat b.toNat) ?_)
    unfold FP.Core.div
    rw [ha.1, g1.1]
    rfl
  · exact (div_v ha hb hy (z := x / y) (by rw [Rat.div_mul_cancel]; grind)).nn
/-- adding makes nothing less -/
theorem nn_add {a b : UInt64} (ha : NN a) (hb : NN b) : NN (FP.dadd a b) ∧ ((FI a ∨ FI b → FI (FP.dadd a b))) ∧ (∀ x v, FV a x → FV (FP.dadd a b) v → x ≤ v) := by
  have inf1 : FI a → FI b ∨ (∃ v, FV b v) → FI (FP.dadd a b) := fun h g => by
    refine dat_i (n := FP.Core.add FP.Core.b64 a.toNat b.toNat) ?_
    unfold FP.Core.add
    rcases g with g | ⟨v, d, r, g, _⟩
    · rw [h.1, g.1]; rfl
    · rw [h.1, g.1]; rfl
  have inf2 : FI b → (∃ v, FV a v) → FI (FP.dadd a b) := fun h ⟨v, d, r, g, _⟩ => by
    refine dat_i (n := FP.Core.add FP.Core.b64 a.toNat b.toNat) ?_
    unfold FP.Core.add
    rw [h.1, g.1]; rfl
  have ii : FI a ∨ FI b → FI (FP.dadd a b) := fun h => by
    rcases ha with g | g
    · exact inf1 g hb
    · rcases hb with k | k
      · exact inf2 k g
      · rcases h with h | h
        · exact inf1 h (Or.inr k)
        · exact inf2 h g
  refine ⟨?_, ii, fun x v hx hv => ?_⟩
  · rcases ha with g | ⟨x, g⟩
    · exact Or.inl (ii (Or.inl g))
    · rcases hb with k | ⟨y, k⟩
      · exact Or.inl (ii (Or.inr k))
      · exact (add_v g k).nn
  · have no : ∀ {z : UInt64} {w : Rat}, FI z → FV z w → False := fun h ⟨c, q, g, _⟩ => by
      have := h.1.symm.trans g.1
      cases this
    rcases hb with k | ⟨y, k⟩
    · exact (no (ii (Or.inr k)) hv).elim
    · rcases add_v hx k with ⟨h, _⟩ | ⟨w, h1, h2⟩
      · exact (no h hv).elim
      · rw [hv.one h1]
        obtain ⟨c, q, hcq, rfl⟩ := hx
        refine h2.1 c q hcq.2.1.1 hcq.2.1.2.1 ?_
        have := k.nn
        grind
theorem ri_no {z : UInt64} {w : Rat} (h : FI z) (g : FV z w) : False := by
  obtain ⟨c, q, g, _⟩ := g
  have := h.1.symm.trans g.1
  cases this
/-- what is over a limit stays over it -/
theorem add_over {a b l : UInt64} {y : Rat} (ha : NN a) (hb : NN b) (hl : FV l y) (h : 0 < dcq .g a l) : 0 < dcq .g (FP.dadd a b) l := by
  have hn := nn_add ha hb
  rcases hn.1 with g | ⟨v, g⟩
  · exact cmp_i g hl
  · rcases ha with k | ⟨x, k⟩
    · exact cmp_i (hn.2.1 (Or.inl k)) hl
    · have a1 := (cmp_v k hl).1.mp h
      have a2 := hn.2.2 x v k g
      exact (cmp_v g hl).1.mpr (by grind)

