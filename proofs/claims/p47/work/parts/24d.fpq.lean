-- the doubles of an upper bound's words
theorem i2d_z {i : Int} (h0 : 0 ≤ i) (h1 : i ≤ 2147483647) : FV (FP.i2d (Int32.ofInt i)) (i : Rat) := by
  obtain ⟨m, rfl⟩ := Int.eq_ofNat_of_zero_le h0
  have := i2d_v (m := m) (by omega)
  rwa [← Rat.intCast_natCast] at this
abbrev eq53 : Rat := tw (-53)
theorem eq53_v : eq53 = 1 / 9007199254740992 := by decide +kernel
theorem tw1000_v : tw (-1000) ≤ 1 / 1000000000000 := by decide +kernel
theorem tw1000_w : (1000000000000 : Rat) ≤ tw 1000 := by decide +kernel
theorem rv_one : rv 1 0 = 1 := by decide +kernel
theorem rv_half : rv 1 (-1) = 1 / 2 := by decide +kernel
theorem zc_in {a b : Int} (h : a ≤ b) : (a : Rat) ≤ (b : Rat) := Rat.intCast_le_intCast.mpr h
theorem pq_v {u : Int} (h1 : 1 ≤ u) (h2 : u ≤ 999999) : ∃ P Q : Rat, FV (ppq u) P ∧ FV (qqq u) Q ∧ 0 < P ∧ 0 < Q ∧ Q ≤ 1 ∧ P * 1000000 ≤ (u : Rat) * (1 + eq53) ∧ (u : Rat) ≤ P * 1000000 * (1 + eq53) ∧ Q ≤ (1 - P) * (1 + eq53) ∧ 1 - P ≤ Q * (1 + eq53) := by
  have he := eq53_v
  have l1 := tw1000_v
  have l2 := tw1000_w
  have u1 : (1 : Rat) ≤ (u : Rat) := zc_in (a := 1) h1
  have u2 : (u : Rat) ≤ 999999 := zc_in (b := 999999) h2
  have hu := i2d_z (i := u) (by omega) (by omega)
  have ho := div_v hu fv_m (by decide +kernel) (z := (u : Rat) / 1000000) (by rw [Rat.div_mul_cancel]; decide)
  have ez : (u : Rat) / 1000000 * 1000000 = (u : Rat) := by rw [Rat.div_mul_cancel]; decide
  generalize (u : Rat) / 1000000 = z at ho ez
  obtain ⟨P, p1, p2⟩ := ho.fv (by grind)
  obtain ⟨p3, p4⟩ := p2.2.2 (by grind)
  have hP0 : 0 < P := by grind
  have hP1 : P ≤ 1 - 1 / 10000000 := by grind
  have ho2 := sub_v fv_1 p1 (by grind)
  obtain ⟨Q, q1, q2⟩ := ho2.fv (by grind)
  obtain ⟨q3, q4⟩ := q2.2.2 (by grind)
  have hQ1 := q2.2.1 1 0 (by omega) (by omega) (by rw [rv_one]; grind)
  rw [rv_one] at hQ1
  exact ⟨P, Q, p1, q1, hP0, by grind, hQ1, by grind, by grind, q3, q4⟩
theorem al_v {r : Int} (h1 : 1 ≤ r) (h2 : r ≤ 500) : ∃ a : Rat, FV (alq r) a ∧ 1 / 2000 ≤ a ∧ a ≤ 1 / 2 := by
  have he := eq53_v
  have l1 := tw1000_v
  have l2 := tw1000_w
  have u1 : (1 : Rat) ≤ (r : Rat) := zc_in (a := 1) h1
  have u2 : (r : Rat) ≤ 500 := zc_in (b := 500) h2
  have hu := i2d_z (i := r) (by omega) (by omega)
  have ho := div_v hu fv_k (by decide +kernel) (z := (r : Rat) / 1000) (by rw [Rat.div_mul_cancel]; decide)
  have ez : (r : Rat) / 1000 * 1000 = (r : Rat) := by rw [Rat.div_mul_cancel]; decide
  generalize (r : Rat) / 1000 = z at ho ez
  obtain ⟨P, p1, p2⟩ := ho.fv (by grind)
  obtain ⟨p3, p4⟩ := p2.2.2 (by grind)
  have hh := p2.2.1 1 (-1) (by omega) (by omega) (by rw [rv_half]; grind)
  rw [rv_half] at hh
  exact ⟨P, p1, by grind, hh⟩
/-- powers of what is not above 1 -/
theorem tpw_v {q : UInt64} {Q : Rat} (hq : FV q Q) (h1 : Q ≤ 1) : ∀ m : Nat, ∃ t : Rat, FV (tpw q m) t ∧ t ≤ 1 := by
  have l2 := tw1000_w
  intro m
  induction m with
  | zero => exact ⟨1, fv_1, Rat.le_refl⟩
  | succ m ih =>
    obtain ⟨t, a, b⟩ := ih
    have ht := a.nn
    have hQ := hq.nn
    have hx : t * Q ≤ 1 := by
      have := Rat.mul_le_mul_of_nonneg_left h1 ht
      grind
    obtain ⟨v, c, d⟩ := (mul_v a hq).fv (by grind)
    refine ⟨v, c, ?_⟩
    have := d.2.1 1 0 (by omega) (by omega) (by rw [rv_one]; exact hx)
    rwa [rv_one] at this
theorem i2d_p {i : Int} (h0 : 1 ≤ i) (h1 : i ≤ 2147483647) : ∃ y : Rat, FV (FP.i2d (Int32.ofInt i)) y ∧ 0 < y := by
  refine ⟨(i : Rat), i2d_z (by omega) h1, ?_⟩
  have := zc_in (a := 1) h0
  have e : ((1 : Int) : Rat) = 1 := rfl
  grind
/-- each step of a term -/
theorem tst_n {n u j : Int} {t : UInt64} (h1 : 1 ≤ u) (h2 : u ≤ 999999) (hj : 1 ≤ j) (hn : j ≤ n) (hn1 : n ≤ 1000000) (ht : NN t) : NN (FP.dmul t (FP.i2d (Int32.ofInt ((n - j) + 1)))) ∧ NN (FP.ddiv (FP.dmul t (FP.i2d (Int32.ofInt ((n - j) + 1)))) (FP.i2d (Int32.ofInt j))) ∧ NN (FP.dmul (FP.ddiv (FP.dmul t (FP.i2d (Int32.ofInt ((n - j) + 1)))) (FP.i2d (Int32.ofInt j))) (ppq u)) ∧ NN (tst n (ppq u) (qqq u) t j) := by
  obtain ⟨P, Q, p1, q1, p2, q2, -⟩ := pq_v h1 h2
  obtain ⟨y, y1, y2⟩ := i2d_p (i := (n - j) + 1) (by omega) (by omega)
  obtain ⟨z, z1, z2⟩ := i2d_p (i := j) (by omega) (by omega)
  have a1 := nn_mul ht y1 y2
  have a2 := nn_div a1 z1 z2
  have a3 := nn_mul a2 p1 p2
  exact ⟨a1, a2, a3, nn_div a3 q1 q2⟩
theorem tpw_n {u : Int} (h1 : 1 ≤ u) (h2 : u ≤ 999999) (m : Nat) : NN (tpw (qqq u) m) := by
  obtain ⟨P, Q, p1, q1, p2, q2, q3, -⟩ := pq_v h1 h2
  obtain ⟨t, ht, -⟩ := tpw_v q1 q3 m
  exact Or.inr ⟨t, ht⟩
theorem tsq_n {n u : Int} (h1 : 1 ≤ u) (h2 : u ≤ 999999) (hn1 : n ≤ 1000000) : ∀ k : Nat, (k : Int) ≤ n → NN (tsq n u k).1 ∧ NN (tsq n u k).2 := by
  intro k
  induction k with
  | zero => intro _; exact ⟨tpw_n h1 h2 _, tpw_n h1 h2 _⟩
  | succ k ih =>
    intro hk
    obtain ⟨a, b⟩ := ih (by omega)
    have := (tst_n h1 h2 (j := (k : Int) + 1) (by omega) (by omega) hn1 a).2.2.2
    exact ⟨this, (nn_add b this).1⟩
/-- over the limit once, over it for good -/
theorem tsq_over {n u r : Int} (h1 : 1 ≤ u) (h2 : u ≤ 999999) (hn1 : n ≤ 1000000) (hr0 : 1 ≤ r) (hr1 : r ≤ 500) {k : Nat} (hk : (k : Int) + 1 ≤ n) (h : 0 < dcq .g (tsq n u k).2 (alq r)) : 0 < dcq .g (tsq n u (k + 1)).2 (alq r) := by
  obtain ⟨a, a1, -⟩ := al_v hr0 hr1
  have b1 := tsq_n h1 h2 hn1 k (by omega)
  have b2 := tsq_n h1 h2 hn1 (k + 1) (by omega)
  exact add_over b1.2 b2.1 a1 h
theorem tsq_over_le {n u r : Int} (h1 : 1 ≤ u) (h2 : u ≤ 999999) (hn1 : n ≤ 1000000) (hr0 : 1 ≤ r) (hr1 : r ≤ 500) {k : Nat} (h : 0 < dcq .g (tsq n u k).2 (alq r)) : ∀ d : Nat, ((k + d : Nat) : Int) ≤ n → 0 < dcq .g (tsq n u (k + d)).2 (alq r) := by
  intro d
  induction d with
  | zero => intro _; exact h
  | succ d ih =>
    intro hd
    have g1 := ih (by omega)
    have g2 : ((k + d : Nat) : Int) + 1 ≤ n := by omega
    exact tsq_over (k := k + d) h1 h2 hn1 hr0 hr1 g2 g1
theorem UP_k' {n k r : Int} (hk0 : 0 ≤ k) (hn : n ≤ 1000) (hr0 : 1 ≤ r) (hr1 : r ≤ 500) : UP n k r ≤ UP n (k + 1) r := by
  unfold UP
  by_cases h : k + 1 < n
  · rw [if_pos (by omega), if_pos h]
    refine bq_le 60 0 1000000 (by omega) (fun u h1 h2 hw => ?_)
    unfold wiq at hw ⊢
    obtain ⟨m, rfl⟩ := Int.eq_ofNat_of_zero_le hk0
    have e : ((m : Int) + 1).toNat = m + 1 := by omega
    rw [e] at hw
    simp only [decide_eq_true_eq] at hw ⊢
    exact fun g => hw (tsq_over (by omega) (by omega) (by omega) hr0 hr1 (by omega) (by simpa using g))
  · rw [if_neg h]
    exact (UP_in n k r).2

