-- relative errors of a term's steps
abbrev cq : Rat := 1 + eq53
theorem cq_v : cq = 1 + 1 / 9007199254740992 := by decide +kernel
theorem rd_up {v x : Rat} {e : Int} (h : Rd v x) (he : -1074 ≤ e) (hx : x ≤ tw e) : v ≤ tw e := by
  have := h.2.1 1 e (by omega) he (by rw [rv_1]; exact hx)
  rwa [rv_1] at this
theorem rd_lo {v x : Rat} {e : Int} (h : Rd v x) (he : -1074 ≤ e) (hx : tw e ≤ x) : tw e ≤ v := by
  have := h.1 1 e (by omega) he (by rw [rv_1]; exact hx)
  rwa [rv_1] at this
theorem out_e {z : UInt64} {x : Rat} {e1 e2 : Int} (h : Out z x) (h1 : tw e1 ≤ x) (h2 : x ≤ tw e2) (a1 : -1000 ≤ e1) (a2 : e2 ≤ 1000) (a3 : -1074 ≤ e2) : ∃ v, FV z v ∧ tw e1 ≤ v ∧ v ≤ tw e2 ∧ v ≤ x * cq ∧ x ≤ v * cq := by
  obtain ⟨v, p1, p2⟩ := h.fv (Rat.le_trans h2 (tw_le a2))
  obtain ⟨q1, q2⟩ := p2.2.2 (Rat.le_trans (tw_le a1) h1)
  exact ⟨v, p1, rd_lo p2 (by omega) h1, rd_up p2 a3 h2, q1, q2⟩
theorem out_u {z : UInt64} {x : Rat} {e2 : Int} (h : Out z x) (h2 : x ≤ tw e2) (a2 : e2 ≤ 1000) (a3 : -1074 ≤ e2) : ∃ v, FV z v ∧ v ≤ tw e2 := by
  obtain ⟨v, p1, p2⟩ := h.fv (Rat.le_trans h2 (tw_le a2))
  exact ⟨v, p1, rd_up p2 a3 h2⟩
theorem tw9 : tw 9 = 512 := by decide +kernel
theorem tw21 : tw 21 = 2097152 := by decide +kernel
theorem twm4 : tw (-4) = 1 / 16 := by decide +kernel
theorem twm21 : tw (-21) = 1 / 2097152 := by decide +kernel
theorem zz_nn {z y x : Rat} (h : z * y = x) (hy : 0 < y) (hx : 0 ≤ x) : 0 ≤ z := Rat.le_of_mul_le_mul_right (c := y) (by rw [Rat.zero_mul, h]; exact hx) hy
theorem step_v {n u j : Int} {t : UInt64} {x0 P Q : Rat} {e1 e2 : Int} (hP : FV (ppq u) P) (hQ : FV (qqq u) Q) (P1 : 1 / 2000000 ≤ P) (P2 : P ≤ 1) (Q1 : 1 / 2000000 ≤ Q) (Q2 : Q ≤ 1) (hj : 1 ≤ j) (hj9 : j ≤ 9) (hn : j ≤ n) (hn1 : n ≤ 400) (ht : FV t x0) (l1 : tw e1 ≤ x0) (l2 : x0 ≤ tw e2) (he1 : -900 ≤ e1) (he2 : e2 ≤ 900) (he3 : -900 ≤ e2) :
    ∃ v : Rat, FV (tst n (ppq u) (qqq u) t j) v ∧ tw (e1 - 25) ≤ v ∧ v ≤ tw (e2 + 30) ∧ v * Q * (j : Rat) ≤ x0 * (((n - j) + 1 : Int) : Rat) * P * (cq * cq * cq * cq) ∧ x0 * (((n - j) + 1 : Int) : Rat) * P ≤ v * Q * (j : Rat) * (cq * cq * cq * cq) := by
  have hc := cq_v
  have y1 : (1 : Rat) ≤ (((n - j) + 1 : Int) : Rat) := zc_in (a := 1) (by omega)
  have y2 : (((n - j) + 1 : Int) : Rat) ≤ 400 := zc_in (b := 400) (by omega)
  have hy := i2d_z (i := (n - j) + 1) (by omega) (by omega)
  have j1 : (1 : Rat) ≤ (j : Rat) := zc_in (a := 1) hj
  have j2 : (j : Rat) ≤ 9 := zc_in (b := 9) hj9
  have hjj := i2d_z (i := j) (by omega) (by omega)
  generalize (((n - j) + 1 : Int) : Rat) = y at y1 y2 hy ⊢
  generalize (j : Rat) = jj at j1 j2 hjj ⊢
  have p1 := tw_pos e1
  have p2 := tw_pos e2
  -- times the number of places left
  have a1 : tw e1 ≤ x0 * y := by
    have := Rat.mul_le_mul_of_nonneg_left y1 (Rat.le_trans (Rat.le_of_lt p1) l1)
    grind
  have a2 : x0 * y ≤ tw (e2 + 9) := by
    rw [tw_add, tw9]
    have h1 := Rat.mul_le_mul_of_nonneg_left y2 (Rat.le_trans (Rat.le_of_lt p1) l1)
    grind
  obtain ⟨v1, f1, b1, b2, b3, b4⟩ := out_e (mul_v ht hy) a1 a2 (by omega) (by omega) (by omega)
  -- divided by the place
  have jp : 0 < jj := by grind
  have e2' : v1 / jj * jj = v1 := by rw [Rat.div_mul_cancel]; grind
  have o2 := div_v f1 hjj jp e2'
  have n2 := zz_nn e2' jp (Rat.le_trans (Rat.le_of_lt p1) b1)
  generalize v1 / jj = z2 at e2' o2 n2
  have c1 : tw (e1 - 4) ≤ z2 := by
    have := tw_add e1 (-4)
    rw [twm4] at this
    have h2 := Rat.mul_le_mul_of_nonneg_left j2 n2
    have e : e1 - 4 = e1 + -4 := by omega
    rw [e]
    grind
  have c2 : z2 ≤ tw (e2 + 9) := by
    have h2 := Rat.mul_le_mul_of_nonneg_left j1 n2
    grind
  obtain ⟨v2, f2, d1, d2, d3, d4⟩ := out_e o2 c1 c2 (by omega) (by omega) (by omega)
  have q4 := tw_pos (e1 - 4)
  have v2n : 0 ≤ v2 := Rat.le_trans (Rat.le_of_lt q4) d1
  -- times p
  have g1 : tw (e1 - 25) ≤ v2 * P := by
    have e : e1 - 25 = (e1 - 4) + -21 := by omega
    rw [e, tw_add, twm21]
    have h2 := Rat.mul_le_mul_of_nonneg_left P1 v2n
    grind
  have g2 : v2 * P ≤ tw (e2 + 9) := by
    have h2 := Rat.mul_le_mul_of_nonneg_left P2 v2n
    grind
  obtain ⟨v3, f3, h1, h2, h3, h4⟩ := out_e (mul_v f2 hP) g1 g2 (by omega) (by omega) (by omega)
  -- divided by q
  have Qp : 0 < Q := by grind
  have q25 := tw_pos (e1 - 25)
  have v3n : 0 ≤ v3 := Rat.le_trans (Rat.le_of_lt q25) h1
  have e4' : v3 / Q * Q = v3 := by rw [Rat.div_mul_cancel]; grind
  have o4 := div_v f3 hQ Qp e4'
  have n4 := zz_nn e4' Qp v3n
  generalize v3 / Q = z4 at e4' o4 n4
  have i1 : tw (e1 - 25) ≤ z4 := by
    have h2 := Rat.mul_le_mul_of_nonneg_left Q2 n4
    grind
  have i2 : z4 ≤ tw (e2 + 30) := by
    have e : e2 + 30 = (e2 + 9) + 21 := by omega
    rw [e, tw_add, tw21]
    have h2 := Rat.mul_le_mul_of_nonneg_left Q1 n4
    grind
  obtain ⟨v4, f4, k1, k2, k3, k4⟩ := out_e o4 i1 i2 (by omega) (by omega) (by omega)
  refine ⟨v4, f4, k1, k2, ?_, ?_⟩
  · have cp : 0 < cq := by grind
    have s4 : v4 * Q ≤ v3 * cq := by
      have := Rat.mul_le_mul_of_nonneg_right k3 (Rat.le_of_lt Qp)
      grind
    have s2 : v2 * jj ≤ v1 * cq := by
      have := Rat.mul_le_mul_of_nonneg_right d3 (Rat.le_of_lt jp)
      grind
    have t1 := Rat.mul_le_mul_of_nonneg_right s4 (Rat.le_of_lt jp)
    have t2 := Rat.mul_le_mul_of_nonneg_right h3 (Rat.le_of_lt (Rat.mul_pos cp jp))
    have pn : 0 ≤ P := by grind
    have t3 := Rat.mul_le_mul_of_nonneg_right s2 (Rat.mul_nonneg (Rat.mul_nonneg pn (Rat.le_of_lt cp)) (Rat.le_of_lt cp))
    have t4 := Rat.mul_le_mul_of_nonneg_right b3 (Rat.mul_nonneg (Rat.mul_nonneg (Rat.mul_nonneg (Rat.le_of_lt cp) pn) (Rat.le_of_lt cp)) (Rat.le_of_lt cp))
    generalize cq = cc at *
    grind
  · have cp : 0 < cq := by grind
    have s4 : v3 ≤ v4 * Q * cq := by
      have := Rat.mul_le_mul_of_nonneg_right k4 (Rat.le_of_lt Qp)
      grind
    have s2 : v1 ≤ v2 * jj * cq := by
      have := Rat.mul_le_mul_of_nonneg_right d4 (Rat.le_of_lt jp)
      grind
    have pn : 0 ≤ P := by grind
    have cj := Rat.mul_nonneg (Rat.mul_nonneg (Rat.le_of_lt cp) (Rat.le_of_lt cp)) (Rat.mul_nonneg (Rat.le_of_lt cp) (Rat.le_of_lt jp))
    have cj2 := Rat.mul_nonneg (Rat.mul_nonneg (Rat.le_of_lt cp) (Rat.le_of_lt cp)) (Rat.le_of_lt jp)
    have t1 := Rat.mul_le_mul_of_nonneg_right b4 pn
    have t2 := Rat.mul_le_mul_of_nonneg_right s2 (Rat.mul_nonneg (Rat.le_of_lt cp) pn)
    have t3 := Rat.mul_le_mul_of_nonneg_right h4 cj2
    have t4 := Rat.mul_le_mul_of_nonneg_right s4 cj
    generalize cq = cc at *
    grind

