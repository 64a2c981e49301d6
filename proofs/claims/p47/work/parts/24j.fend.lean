theorem nat_in {a : Nat} {b : Nat} (h : a ≤ b) : (a : Rat) ≤ (b : Rat) := Rat.natCast_le_natCast.mpr h
theorem over_B {N K : Nat} {u r : Int} (k1 : 1 ≤ K) (k9 : K ≤ 9) (hk : K < N) (hn : N < 400) (h1 : 1 ≤ u) (h2 : u ≤ 999999) (hB : (N : Int) * u < 1000000 * (K : Int)) (hr0 : 1 ≤ r) (hr1 : r ≤ 500) : 0 < dcq .g (tsq (N : Int) u K).2 (alq r) := by
  obtain ⟨P, Q, fP, fQ, P0, Q0, Q1, pa, pb, qa, qb⟩ := pq_v h1 h2
  obtain ⟨a, fa, -, a2⟩ := al_v hr0 hr1
  have he := eq53_v
  have u1 : (1 : Rat) ≤ (u : Rat) := zc_in (a := 1) h1
  have u2 : (u : Rat) ≤ 999999 := zc_in (b := 999999) h2
  have N1 : (2 : Rat) ≤ (N : Rat) := nat_in (a := 2) (by omega)
  have N2 : (N : Rat) ≤ 399 := nat_in (b := 399) (by omega)
  have K1 : (1 : Rat) ≤ (K : Rat) := nat_in (a := 1) k1
  have KN : (K : Rat) ≤ (N : Rat) := nat_in (by omega)
  have hB' : (N : Rat) * (u : Rat) + 1 ≤ 1000000 * (K : Rat) := by
    have h : (((N : Int) * u + 1 : Int) : Rat) ≤ ((1000000 * (K : Int) : Int) : Rat) := zc_in (by omega)
    rw [Rat.intCast_add, Rat.intCast_mul, Rat.intCast_mul, Rat.intCast_natCast, Rat.intCast_natCast] at h
    exact h
  have P1 : 1 / 2000000 ≤ P := by grind
  have P2 : P ≤ 1 := by grind
  have Q3 : 1 / 2000000 ≤ Q := by grind
  have hpP : 1 - Q ≤ P * dq9 := by
    have : dq9 = 1 + 1 / 1000000000 := rfl
    grind
  have i1 : 1000000 * (1 - Q) ≤ (u : Rat) + 2000000 * eq53 := by grind
  have i2 := Rat.mul_le_mul_of_nonneg_right i1 (show 0 ≤ (N : Rat) by grind)
  have i3 : (1 - Q) * (N : Rat) ≤ (K : Rat) := by grind
  have Np : (0 : Rat) < (N : Rat) := by grind
  have hρ : (K : Rat) / (N : Rat) * (N : Rat) = (K : Rat) := by rw [Rat.div_mul_cancel]; grind
  generalize (K : Rat) / (N : Rat) = ρ at hρ
  have i4 : 1 - Q ≤ ρ := Rat.le_of_mul_le_mul_right (c := (N : Rat)) (by rw [hρ]; exact i3) Np
  have i5 : ρ ≤ 1 := Rat.le_of_mul_le_mul_right (c := (N : Rat)) (by rw [hρ]; grind) Np
  obtain ⟨c1, c2⟩ := cert_r (by omega) hk (by omega) hn hρ
  have g1 := GS_p (p := 1 - Q) (by grind) i4 i5 N K
  have g2 := GS_p (p := 1 - Q) (by grind) i4 i5 N 0
  have hX : 1 / 10000000000 ≤ Xq (1 - Q) N 0 := Rat.le_trans c2 g2
  have hp : 1 - (1 - Q) = Q := by grind
  have hA := pwq_1 N
  have hA2 := pwq_b (show N ≤ 400 by omega)
  obtain ⟨t, s, ft, fs, -, -, -, -, -, hG⟩ := loop_B fP fQ P1 P2 Q3 Q1 hp hpP (by omega) hA hA2 (pow_B fQ Q0 Q1 hp (by omega) hX N (Nat.le_refl N)) K k9 (by omega)
  obtain ⟨M1, M2⟩ := Mq9_b hA hA2 K k9
  have K9 : (K : Rat) ≤ 9 := nat_in (b := 9) k9
  have s0 := fs.nn
  have m1 := Rat.mul_le_mul_of_nonneg_left M2 s0
  have m2 := Rat.mul_le_mul_of_nonneg_left K9 s0
  refine (cmp_v fs fa).1.mpr ?_
  grind
theorem step_u {n u j : Int} {t : UInt64} {x0 P Q : Rat} {e2 : Int} (hP : FV (ppq u) P) (hQ : FV (qqq u) Q) (P0 : 0 ≤ P) (P2 : P ≤ 1) (Q1 : 1 / 2000000 ≤ Q) (hj : 1 ≤ j) (hj9 : j ≤ 9) (hn : j ≤ n) (hn1 : n ≤ 400) (ht : FV t x0) (l2 : x0 ≤ tw e2) (he2 : e2 ≤ 900) (he3 : -900 ≤ e2) : ∃ v : Rat, FV (tst n (ppq u) (qqq u) t j) v ∧ v ≤ tw (e2 + 30) := by
  have y2 : (((n - j) + 1 : Int) : Rat) ≤ 400 := zc_in (b := 400) (by omega)
  have hy := i2d_z (i := (n - j) + 1) (by omega) (by omega)
  have j1 : (1 : Rat) ≤ (j : Rat) := zc_in (a := 1) hj
  have hjj := i2d_z (i := j) (by omega) (by omega)
  have y0 : 0 ≤ (((n - j) + 1 : Int) : Rat) := hy.nn
  generalize (((n - j) + 1 : Int) : Rat) = y at y0 y2 hy
  generalize (j : Rat) = jj at j1 hjj
  have x00 := ht.nn
  have p2 := tw_pos e2
  have a2 : x0 * y ≤ tw (e2 + 9) := by
    rw [tw_add, tw9]
    have h1 := Rat.mul_le_mul_of_nonneg_left y2 x00
    grind
  obtain ⟨v1, f1, b2⟩ := out_u (mul_v ht hy) a2 (by omega) (by omega)
  have jp : 0 < jj := by grind
  have e2' : v1 / jj * jj = v1 := by rw [Rat.div_mul_cancel]; grind
  have o2 := div_v f1 hjj jp e2'
  have n2 := zz_nn e2' jp f1.nn
  generalize v1 / jj = z2 at e2' o2 n2
  have c2 : z2 ≤ tw (e2 + 9) := by
    have h2 := Rat.mul_le_mul_of_nonneg_left j1 n2
    grind
  obtain ⟨v2, f2, d2⟩ := out_u o2 c2 (by omega) (by omega)
  have g2 : v2 * P ≤ tw (e2 + 9) := by
    have h2 := Rat.mul_le_mul_of_nonneg_left P2 f2.nn
    grind
  obtain ⟨v3, f3, h2⟩ := out_u (mul_v f2 hP) g2 (by omega) (by omega)
  have Qp : 0 < Q := by grind
  have e4' : v3 / Q * Q = v3 := by rw [Rat.div_mul_cancel]; grind
  have o4 := div_v f3 hQ Qp e4'
  have n4 := zz_nn e4' Qp f3.nn
  generalize v3 / Q = z4 at e4' o4 n4
  have i2 : z4 ≤ tw (e2 + 30) := by
    have e : e2 + 30 = (e2 + 9) + 21 := by omega
    rw [e, tw_add, tw21]
    have h2 := Rat.mul_le_mul_of_nonneg_left Q1 n4
    grind
  exact out_u o4 i2 (by omega) (by omega)
theorem loop_T {u : Int} {P Q : Rat} {N : Nat} (fP : FV (ppq u) P) (fQ : FV (qqq u) Q) (P0 : 0 ≤ P) (P2 : P ≤ 1) (Q1 : 1 / 2000000 ≤ Q) (hN : N ≤ 400) (h0 : ∃ v : Rat, FV (tpw (qqq u) N) v ∧ v ≤ tw (-600)) : ∀ j : Nat, j ≤ 9 → j ≤ N → ∃ t s : Rat, FV (tsq (N : Int) u j).1 t ∧ FV (tsq (N : Int) u j).2 s ∧ t ≤ tw (-600 + 30 * (j : Int)) ∧ s ≤ tw (-600 + 31 * (j : Int)) := by
  intro j
  induction j with
  | zero =>
    intro _ _
    obtain ⟨v, f, a2⟩ := h0
    exact ⟨v, v, f, f, a2, a2⟩
  | succ j ih =>
    intro h9 hN'
    obtain ⟨t, s, ft, fs, t2, s2⟩ := ih (by omega) (by omega)
    obtain ⟨v, fv, v2⟩ := step_u (n := (N : Int)) (j := (j : Int) + 1) fP fQ P0 P2 Q1 (by omega) (by omega) (by omega) (by omega) ft t2 (by omega) (by omega)
    have e2 : -600 + 30 * (j : Int) + 30 = -600 + 30 * ((j + 1 : Nat) : Int) := by omega
    rw [e2] at v2
    have x2 : s + v ≤ tw (-600 + 31 * ((j + 1 : Nat) : Int)) := tw_two (Rat.le_trans s2 (tw_le (by omega))) (Rat.le_trans v2 (tw_le (by omega)))
    obtain ⟨w, fw, w2⟩ := out_u (add_v fs fv) x2 (by omega) (by omega)
    exact ⟨v, w, fv, fw, v2, w2⟩
def wq8 (A : Rat) : Nat → Rat
  | 0 => A
  | j + 1 => wq8 A j * ((cq * cq * cq * cq) * (cq * cq * cq * cq))
def zq2 : Nat → Rat
  | 0 => 1
  | j + 1 => zq2 j * (cq * cq)
theorem cq8_v : (cq * cq * cq * cq) * (cq * cq * cq * cq) ≤ 1 + 1 / 10000000000000 ∧ 1 ≤ (cq * cq * cq * cq) * (cq * cq * cq * cq) ∧ cq * cq ≤ 1 + 1 / 1000000000000000 ∧ 1 ≤ cq * cq ∧ 0 ≤ cq * cq * cq * cq := by decide +kernel
theorem wq8_b {B : Rat} (h1 : 0 ≤ B) : ∀ j : Nat, j ≤ 9 → 0 ≤ wq8 (B * cq) j ∧ wq8 (B * cq) j ≤ B * (1 + ((j : Rat) + 1) / 1000000000000) := by
  obtain ⟨D1, D2, -, -, -⟩ := cq8_v
  have hc := cq_v
  intro j
  induction j with
  | zero =>
    intro _
    have z0 : ((0 : Nat) : Rat) = 0 := rfl
    rw [z0]
    show 0 ≤ B * cq ∧ B * cq ≤ _
    constructor <;> grind
  | succ j ih =>
    intro hj
    obtain ⟨a1, a2⟩ := ih (by omega)
    show 0 ≤ wq8 (B * cq) j * _ ∧ wq8 (B * cq) j * _ ≤ _
    generalize (cq * cq * cq * cq) * (cq * cq * cq * cq) = D at *
    have j9 : (j : Rat) ≤ 8 := nat_in (b := 8) (by omega)
    have j0 : (0 : Rat) ≤ (j : Rat) := Rat.natCast_nonneg
    rw [ncs]
    generalize (j : Rat) = J at *
    generalize wq8 (B * cq) j = w at *
    have m1 := Rat.mul_le_mul_of_nonneg_left D2 a1
    have m2 := Rat.mul_le_mul_of_nonneg_left D1 a1
    have m3 := Rat.mul_le_mul_of_nonneg_left j9 h1
    have m4 := Rat.mul_le_mul_of_nonneg_left j0 h1
    constructor <;> grind
theorem zq2_b : ∀ j : Nat, j ≤ 9 → 1 ≤ zq2 j ∧ zq2 j ≤ 1 + 1 / 1000000000 := by
  intro j hj
  have h : ∀ j, j < 10 → 1 ≤ zq2 j ∧ zq2 j ≤ 1 + 1 / 1000000000 := by decide +kernel
  exact h j (by omega)

