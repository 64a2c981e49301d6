-- an upper bound falls as n grows: where few coins are drawn, the sum is over 1/2
def pwq : Nat → Rat
  | 0 => 1
  | m + 1 => pwq m * cq
theorem pwq_1 : ∀ m : Nat, 1 ≤ pwq m := by
  have hc := cq_v
  intro m
  induction m with
  | zero => exact Rat.le_refl
  | succ m ih =>
    show 1 ≤ pwq m * cq
    have := Rat.mul_le_mul_of_nonneg_left (show (1 : Rat) ≤ cq by grind) (show 0 ≤ pwq m by grind)
    grind
theorem pwq_le (m : Nat) : ∀ d : Nat, pwq m ≤ pwq (m + d) := by
  have hc := cq_v
  intro d
  induction d with
  | zero => exact Rat.le_refl
  | succ d ih =>
    show pwq m ≤ pwq (m + d) * cq
    have h1 := pwq_1 (m + d)
    have := Rat.mul_le_mul_of_nonneg_left (show (1 : Rat) ≤ cq by grind) (show 0 ≤ pwq (m + d) by grind)
    grind
theorem pwq_b {m : Nat} (h : m ≤ 400) : pwq m ≤ 1 + 1 / 1000000000 := by
  have h1 := pwq_le m (400 - m)
  rw [show m + (400 - m) = 400 by omega] at h1
  have h2 : pwq 400 ≤ 1 + 1 / 1000000000 := by decide +kernel
  exact Rat.le_trans h1 h2
theorem twm40 : tw (-40) ≤ 1 / 100000000000 := by decide +kernel
theorem tw0 : tw 0 = 1 := tw_z
theorem Xq_dec {p : Rat} (h0 : 0 ≤ p) (h1 : p ≤ 1) (m : Nat) : ∀ d : Nat, Xq p (m + d) 0 ≤ Xq p m 0 := by
  intro d
  induction d with
  | zero => exact Rat.le_refl
  | succ d ih =>
    have e : Xq p (m + (d + 1)) 0 = (1 - p) * Xq p (m + d) 0 := Xq_z p (m + d)
    have a1 := Xq_nn h0 h1 (m + d) 0
    have a2 := Rat.mul_nonneg h0 a1
    rw [e]
    grind
abbrev dq9 : Rat := 1 + 1 / 1000000000
def Mq9 (A : Rat) : Nat → Rat
  | 0 => A
  | j + 1 => Mq9 A j * (dq9 * (cq * cq * cq * cq) * cq)
theorem Dq_v : dq9 * (cq * cq * cq * cq) * cq ≤ 1 + 1 / 100000000 ∧ 1 ≤ dq9 * (cq * cq * cq * cq) ∧ 1 ≤ dq9 * (cq * cq * cq * cq) * cq ∧ dq9 * (cq * cq * cq * cq) ≤ dq9 * (cq * cq * cq * cq) * cq := by decide +kernel
theorem Mq9_b {A : Rat} (h1 : 1 ≤ A) (h2 : A ≤ 1 + 1 / 1000000000) : ∀ j : Nat, j ≤ 9 → 1 ≤ Mq9 A j ∧ Mq9 A j ≤ 1 + ((j : Rat) + 1) / 10000000 := by
  obtain ⟨D1, -, D2, -⟩ := Dq_v
  intro j
  induction j with
  | zero =>
    intro _
    have z0 : ((0 : Nat) : Rat) = 0 := rfl
    rw [z0]
    show 1 ≤ A ∧ A ≤ _
    constructor
    · exact h1
    · grind
  | succ j ih =>
    intro hj
    obtain ⟨a1, a2⟩ := ih (by omega)
    show 1 ≤ Mq9 A j * (dq9 * (cq * cq * cq * cq) * cq) ∧ Mq9 A j * (dq9 * (cq * cq * cq * cq) * cq) ≤ _
    generalize dq9 * (cq * cq * cq * cq) * cq = D at *
    have j9 : (j : Rat) ≤ 8 := Rat.natCast_le_natCast.mpr (show j ≤ 8 by omega)
    have j0 : (0 : Rat) ≤ (j : Rat) := Rat.natCast_nonneg
    rw [ncs]
    generalize (j : Rat) = J at *
    have m1 := Rat.mul_le_mul_of_nonneg_left D2 (show 0 ≤ Mq9 A j by grind)
    have m2 := Rat.mul_le_mul_of_nonneg_left D1 (show 0 ≤ Mq9 A j by grind)
    constructor <;> grind
theorem cast_s (N j : Nat) : (((((N : Int) - ((j : Int) + 1)) + 1 : Int)) : Rat) = (N : Rat) - (j : Rat) := by
  have e : ((N : Int) - ((j : Int) + 1)) + 1 = (N : Int) - (j : Int) := by omega
  rw [e, Rat.intCast_sub, Rat.intCast_natCast, Rat.intCast_natCast]
theorem cast_1 (j : Nat) : (((j : Int) + 1 : Int) : Rat) = (j : Rat) + 1 := by
  rw [Rat.intCast_add, Rat.intCast_natCast]; rfl
theorem tw_two {e : Int} {a b : Rat} (h1 : a ≤ tw (e - 1)) (h2 : b ≤ tw (e - 1)) : a + b ≤ tw e := by
  have := tw_lt (show e - 1 < e by omega)
  grind
theorem pow_B {u : Int} {Q p : Rat} {N : Nat} (fQ : FV (qqq u) Q) (Q0 : 0 < Q) (Q1 : Q ≤ 1) (hp : 1 - p = Q) (hN : N ≤ 400) (hX : 1 / 10000000000 ≤ Xq p N 0) : ∀ m : Nat, m ≤ N → ∃ v : Rat, FV (tpw (qqq u) m) v ∧ tw (-40) ≤ v ∧ v ≤ tw 0 ∧ Xq p m 0 ≤ v * pwq m := by
  have t40 := twm40
  have hc := cq_v
  have p0 : 0 ≤ p := by grind
  have p1 : p ≤ 1 := by grind
  intro m
  induction m with
  | zero =>
    intro _
    refine ⟨1, fv_1, by grind, by rw [tw0]; exact Rat.le_refl, ?_⟩
    show (1 : Rat) ≤ 1 * 1
    grind
  | succ m ih =>
    intro hm
    obtain ⟨v, f, a1, a2, a3⟩ := ih (by omega)
    have b1 := pwq_1 m
    have b2 := pwq_b (show m ≤ 400 by omega)
    have e1 : Xq p (m + 1) 0 = Q * Xq p m 0 := by rw [Xq_z, hp]
    have d := Xq_dec p0 p1 (m + 1) (N - (m + 1))
    rw [show m + 1 + (N - (m + 1)) = N by omega] at d
    have c1 := Rat.mul_le_mul_of_nonneg_left a3 (Rat.le_of_lt Q0)
    rw [← e1] at c1
    have v0 : 0 ≤ v := f.nn
    have x0 : 0 ≤ v * Q := Rat.mul_nonneg v0 (Rat.le_of_lt Q0)
    have c2 := Rat.mul_le_mul_of_nonneg_left b2 x0
    have l1 : tw (-40) ≤ v * Q := by grind
    have l2 : v * Q ≤ tw 0 := by
      rw [tw0] at a2 ⊢
      have := Rat.mul_le_mul_of_nonneg_left Q1 v0
      grind
    obtain ⟨w, g, r1, r2, r3, r4⟩ := out_e (mul_v f fQ) l1 l2 (by omega) (by omega) (by omega)
    refine ⟨w, g, r1, r2, ?_⟩
    show Xq p (m + 1) 0 ≤ w * (pwq m * cq)
    have c3 := Rat.mul_le_mul_of_nonneg_right r4 (show 0 ≤ pwq m by grind)
    grind
theorem loop_B {u : Int} {P Q p A : Rat} {N : Nat} (fP : FV (ppq u) P) (fQ : FV (qqq u) Q) (P1 : 1 / 2000000 ≤ P) (P2 : P ≤ 1) (Q1 : 1 / 2000000 ≤ Q) (Q2 : Q ≤ 1) (hp : 1 - p = Q) (hpP : p ≤ P * dq9) (hN : N ≤ 400) (hA1 : 1 ≤ A) (hA2 : A ≤ 1 + 1 / 1000000000)
    (h0 : ∃ v : Rat, FV (tpw (qqq u) N) v ∧ tw (-40) ≤ v ∧ v ≤ tw 0 ∧ Xq p N 0 ≤ v * A) : ∀ j : Nat, j ≤ 9 → j ≤ N → ∃ t s : Rat, FV (tsq (N : Int) u j).1 t ∧ FV (tsq (N : Int) u j).2 s ∧ tw (-40 - 25 * (j : Int)) ≤ t ∧ t ≤ tw (30 * (j : Int)) ∧ tw (-40) ≤ s ∧ s ≤ tw (31 * (j : Int)) ∧ Xq p N j ≤ t * Mq9 A j ∧ GS p N j ≤ s * Mq9 A j := by
  have p0 : 0 ≤ p := by grind
  have p1 : p ≤ 1 := by grind
  obtain ⟨-, D1, -, D2⟩ := Dq_v
  intro j
  induction j with
  | zero =>
    intro _ _
    obtain ⟨v, f, a1, a2, a3⟩ := h0
    exact ⟨v, v, f, f, a1, a2, a1, a2, a3, a3⟩
  | succ j ih =>
    intro h9 hN'
    obtain ⟨t, s, ft, fs, t1, t2, s1, s2, hX, hG⟩ := ih (by omega) (by omega)
    obtain ⟨v, fv, v1, v2, v3, v4⟩ := step_v (n := (N : Int)) (j := (j : Int) + 1) fP fQ P1 P2 Q1 Q2 (by omega) (by omega) (by omega) (by omega) ft t1 t2 (by omega) (by omega) (by omega)
    rw [cast_s, cast_1] at v4
    have e1 : -40 - 25 * (j : Int) - 25 = -40 - 25 * ((j + 1 : Nat) : Int) := by omega
    have e2 : 30 * (j : Int) + 30 = 30 * ((j + 1 : Nat) : Int) := by omega
    rw [e1] at v1
    rw [e2] at v2
    have v0 : 0 ≤ v := fv.nn
    have s0 : 0 ≤ s := fs.nn
    have x1 : tw (-40) ≤ s + v := by grind
    have x2 : s + v ≤ tw (31 * ((j + 1 : Nat) : Int)) := tw_two (Rat.le_trans s2 (tw_le (by omega))) (Rat.le_trans v2 (tw_le (by omega)))
    obtain ⟨w, fw, w1, w2, w3, w4⟩ := out_e (add_v fs fv) x1 x2 (by omega) (by omega) (by omega)
    obtain ⟨M1, M2⟩ := Mq9_b hA1 hA2 j (by omega)
    have hr := Xq_r p N j
    rw [hp] at hr
    have N0 : (0 : Rat) ≤ (N : Rat) - (j : Rat) := by rw [← sub_c (show j ≤ N by omega)]; exact Rat.natCast_nonneg
    have j0 : (0 : Rat) < (j : Rat) + 1 := by
      have : (0 : Rat) ≤ (j : Rat) := Rat.natCast_nonneg
      grind
    have Xn := Xq_nn p0 p1 N j
    have eM : Mq9 A (j + 1) = Mq9 A j * (dq9 * (cq * cq * cq * cq) * cq) := rfl
    -- the term
    have k1 : Xq p N (j + 1) ≤ v * (Mq9 A j * (dq9 * (cq * cq * cq * cq))) := by
      have jq : 0 < ((j : Rat) + 1) * Q := Rat.mul_pos j0 (by grind)
      refine Rat.le_of_mul_le_mul_right (c := ((j : Rat) + 1) * Q) ?_ jq
      have m1 := Rat.mul_le_mul_of_nonneg_left hpP (Rat.mul_nonneg N0 Xn)
      have m2 := Rat.mul_le_mul_of_nonneg_left hX (Rat.mul_nonneg N0 (show 0 ≤ P * dq9 from Rat.mul_nonneg (by grind) (by decide +kernel)))
      have m3 := Rat.mul_le_mul_of_nonneg_right v4 (show 0 ≤ Mq9 A j * dq9 from Rat.mul_nonneg (by grind) (by decide +kernel))
      generalize Mq9 A j = M at *
      generalize (N : Rat) - (j : Rat) = B at *
      generalize (j : Rat) + 1 = J at *
      generalize cq * cq * cq * cq = C at *
      generalize dq9 = d at *
      generalize Xq p N j = X at *
      generalize Xq p N (j + 1) = Y at *
      grind
    refine ⟨v, w, fv, fw, v1, v2, w1, w2, ?_, ?_⟩
    · rw [eM]
      have m1 := Rat.mul_le_mul_of_nonneg_left D2 (show 0 ≤ v * Mq9 A j from Rat.mul_nonneg v0 (by grind))
      generalize dq9 * (cq * cq * cq * cq) * cq = E at *
      generalize dq9 * (cq * cq * cq * cq) = F at *
      grind
    · show GS p N j + Xq p N (j + 1) ≤ w * Mq9 A (j + 1)
      rw [eM]
      have m1 := Rat.mul_le_mul_of_nonneg_left D1 (show 0 ≤ s * Mq9 A j from Rat.mul_nonneg s0 (by grind))
      have F0 : 0 ≤ Mq9 A j * (dq9 * (cq * cq * cq * cq)) := Rat.mul_nonneg (by grind) (by grind)
      have m2 := Rat.mul_le_mul_of_nonneg_right w4 F0
      generalize dq9 * (cq * cq * cq * cq) = F at *
      grind

