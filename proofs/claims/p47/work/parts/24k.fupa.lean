-- where many are drawn, each term falls
abbrev lq6 : Rat := 1 - 1 / 1000000
theorem loop_A {u : Int} {P Q : Rat} {N K : Nat} (fP : FV (ppq u) P) (fQ : FV (qqq u) Q) (P1 : 1 / 2000000 ≤ P) (P2 : P ≤ 1) (Q1 : 1 / 2000000 ≤ Q) (Q2 : Q ≤ 1) (hN : N ≤ 399) (hK : K < N) (hlam : Q * ((N : Rat) + 1) * (1 + 1 / 1000000000) ≤ lq6 * ((N : Rat) + 1 - (K : Rat)))
    (h0 : ∃ t t' : Rat, FV (tpw (qqq u) N) t ∧ FV (tpw (qqq u) (N + 1)) t' ∧ tw (-600) ≤ t ∧ tw (-600) ≤ t' ∧ t ≤ tw 0 ∧ t' ≤ tw 0 ∧ t' ≤ t * Q * cq) :
    ∀ j : Nat, j ≤ 9 → j ≤ K → ∃ t t' s s' : Rat, FV (tsq (N : Int) u j).1 t ∧ FV (tsq ((N + 1 : Nat) : Int) u j).1 t' ∧ FV (tsq (N : Int) u j).2 s ∧ FV (tsq ((N + 1 : Nat) : Int) u j).2 s' ∧ (tw (-600 - 25 * (j : Int)) ≤ t ∧ t ≤ tw (30 * (j : Int))) ∧ (tw (-600 - 25 * (j : Int)) ≤ t' ∧ t' ≤ tw (30 * (j : Int))) ∧ (tw (-600) ≤ s ∧ s ≤ tw (31 * (j : Int))) ∧ (tw (-600) ≤ s' ∧ s' ≤ tw (31 * (j : Int))) ∧ t' * ((N : Rat) + 1 - (j : Rat)) ≤ wq8 (Q * ((N : Rat) + 1) * cq) j * t ∧ s' ≤ lq6 * zq2 j * s := by
  obtain ⟨-, -, -, -, C0⟩ := cq8_v
  have hc := cq_v
  have N0 : (0 : Rat) ≤ (N : Rat) := Rat.natCast_nonneg
  have B0 : 0 ≤ Q * ((N : Rat) + 1) := Rat.mul_nonneg (by grind) (by grind)
  -- what the ratio says
  have fall : ∀ (j : Nat) (t t' : Rat), j ≤ 9 → j ≤ K → 0 ≤ t → t' * ((N : Rat) + 1 - (j : Rat)) ≤ wq8 (Q * ((N : Rat) + 1) * cq) j * t → t' ≤ lq6 * t := fun j t t' h9 hjK ht h => by
    obtain ⟨-, w2⟩ := wq8_b B0 j h9
    have j9 : (j : Rat) ≤ 9 := nat_in (b := 9) h9
    have jK : (j : Rat) ≤ (K : Rat) := nat_in hjK
    have KN : (K : Rat) ≤ (N : Rat) := nat_in (by omega)
    have pos : (0 : Rat) < (N : Rat) + 1 - (j : Rat) := by grind
    refine Rat.le_of_mul_le_mul_right (c := (N : Rat) + 1 - (j : Rat)) ?_ pos
    have m0 := Rat.mul_le_mul_of_nonneg_left j9 B0
    have m1 : wq8 (Q * ((N : Rat) + 1) * cq) j ≤ lq6 * ((N : Rat) + 1 - (j : Rat)) := by grind
    have m2 := Rat.mul_le_mul_of_nonneg_right m1 ht
    grind
  intro j
  induction j with
  | zero =>
    intro h9 hjK
    obtain ⟨t, t', f, f', a1, a2, a3, a4, a5⟩ := h0
    have z0 : ((0 : Nat) : Rat) = 0 := rfl
    have r0 : t' * ((N : Rat) + 1 - ((0 : Nat) : Rat)) ≤ wq8 (Q * ((N : Rat) + 1) * cq) 0 * t := by
      rw [z0]
      show _ ≤ Q * ((N : Rat) + 1) * cq * t
      have := Rat.mul_le_mul_of_nonneg_right a5 (show (0 : Rat) ≤ (N : Rat) + 1 by grind)
      grind
    refine ⟨t, t', t, t', f, f', f, f', ⟨a1, a3⟩, ⟨a2, a4⟩, ⟨a1, a3⟩, ⟨a2, a4⟩, r0, ?_⟩
    have := fall 0 t t' h9 hjK f.nn r0
    show t' ≤ lq6 * 1 * t
    grind
  | succ j ih =>
    intro h9 hjK
    obtain ⟨t, t', s, s', ft, ft', fs, fs', ⟨t1, t2⟩, ⟨t1', t2'⟩, ⟨s1, s2⟩, ⟨s1', s2'⟩, hR, hS⟩ := ih (by omega) (by omega)
    obtain ⟨v, fv, v1, v2, v3, v4⟩ := step_v (n := (N : Int)) (j := (j : Int) + 1) fP fQ P1 P2 Q1 Q2 (by omega) (by omega) (by omega) (by omega) ft t1 t2 (by omega) (by omega) (by omega)
    obtain ⟨v', fv', v1', v2', v3', v4'⟩ := step_v (n := ((N + 1 : Nat) : Int)) (j := (j : Int) + 1) fP fQ P1 P2 Q1 Q2 (by omega) (by omega) (by omega) (by omega) ft' t1' t2' (by omega) (by omega) (by omega)
    rw [cast_s, cast_1] at v4
    rw [cast_s, cast_1, ncs] at v3'
    have e1 : -600 - 25 * (j : Int) - 25 = -600 - 25 * ((j + 1 : Nat) : Int) := by omega
    have e2 : 30 * (j : Int) + 30 = 30 * ((j + 1 : Nat) : Int) := by omega
    rw [e1] at v1 v1'
    rw [e2] at v2 v2'
    have v0 : 0 ≤ v := fv.nn
    have v0' : 0 ≤ v' := fv'.nn
    have s0 : 0 ≤ s := fs.nn
    have x2 : s + v ≤ tw (31 * ((j + 1 : Nat) : Int)) := tw_two (Rat.le_trans s2 (tw_le (by omega))) (Rat.le_trans v2 (tw_le (by omega)))
    have x2' : s' + v' ≤ tw (31 * ((j + 1 : Nat) : Int)) := tw_two (Rat.le_trans s2' (tw_le (by omega))) (Rat.le_trans v2' (tw_le (by omega)))
    obtain ⟨w, fw, w1, w2, w3, w4⟩ := out_e (add_v fs fv) (show tw (-600) ≤ s + v by grind) x2 (by omega) (by omega) (by omega)
    obtain ⟨w', fw', w1', w2', w3', w4'⟩ := out_e (add_v fs' fv') (show tw (-600) ≤ s' + v' by grind) x2' (by omega) (by omega) (by omega)
    have jN : (0 : Rat) ≤ (N : Rat) - (j : Rat) := by rw [← sub_c (show j ≤ N by omega)]; exact Rat.natCast_nonneg
    have j0 : (0 : Rat) < (j : Rat) + 1 := by
      have : (0 : Rat) ≤ (j : Rat) := Rat.natCast_nonneg
      grind
    obtain ⟨wn, -⟩ := wq8_b B0 j (by omega)
    have r1 : v' * ((N : Rat) + 1 - ((j + 1 : Nat) : Rat)) ≤ wq8 (Q * ((N : Rat) + 1) * cq) (j + 1) * v := by
      rw [ncs]
      show _ ≤ wq8 (Q * ((N : Rat) + 1) * cq) j * ((cq * cq * cq * cq) * (cq * cq * cq * cq)) * v
      have jq : 0 < ((j : Rat) + 1) * Q := Rat.mul_pos j0 (by grind)
      refine Rat.le_of_mul_le_mul_right (c := ((j : Rat) + 1) * Q) ?_ jq
      have m1 := Rat.mul_le_mul_of_nonneg_right v3' jN
      have m2 := Rat.mul_le_mul_of_nonneg_right hR (Rat.mul_nonneg (Rat.mul_nonneg (show 0 ≤ P by grind) C0) jN)
      have m3 := Rat.mul_le_mul_of_nonneg_right v4 (Rat.mul_nonneg wn C0)
      clear hS w3 w4 w3' w4' hlam fall
      generalize wq8 (Q * ((N : Rat) + 1) * cq) j = W at *
      generalize cq * cq * cq * cq = C at *
      generalize (N : Rat) = n at *
      generalize (j : Rat) = J at *
      grind
    refine ⟨v, v', w, w', fv, fv', fw, fw', ⟨v1, v2⟩, ⟨v1', v2'⟩, ⟨w1, w2⟩, ⟨w1', w2'⟩, r1, ?_⟩
    have f1 := fall (j + 1) v v' h9 hjK v0 r1
    obtain ⟨z1, -⟩ := zq2_b j (by omega)
    show w' ≤ lq6 * (zq2 j * (cq * cq)) * w
    have l0 : (0 : Rat) ≤ lq6 := by decide +kernel
    have m1 := Rat.mul_le_mul_of_nonneg_left z1 (Rat.mul_nonneg l0 v0)
    have c0 : (0 : Rat) ≤ cq := by grind
    have m2 : s' + v' ≤ lq6 * zq2 j * (s + v) := by grind
    have m3 := Rat.mul_le_mul_of_nonneg_right m2 c0
    have m4 := Rat.mul_le_mul_of_nonneg_left w4 (Rat.mul_nonneg (Rat.mul_nonneg l0 (show 0 ≤ zq2 j by grind)) c0)
    clear m1 f1 r1 hR hS v3 v4 v3' v4' hlam fall
    generalize lq6 = Λ at *
    generalize zq2 j = Z at *
    generalize cq = cc at *
    grind
theorem over_A {N K : Nat} {u r : Int} (k9 : K ≤ 9) (hk : K < N) (hn : N < 400) (h1 : 1 ≤ u) (h2 : u ≤ 999999) (hA : 1000000 * (K : Int) ≤ (N : Int) * u) (hr0 : 1 ≤ r) (hr1 : r ≤ 500) (ho : 0 < dcq .g (tsq ((N + 1 : Nat) : Int) u K).2 (alq r)) : 0 < dcq .g (tsq (N : Int) u K).2 (alq r) := by
  obtain ⟨P, Q, fP, fQ, P0, Q0, Q1, pa, pb, qa, qb⟩ := pq_v h1 h2
  obtain ⟨a, fa, a1, a2⟩ := al_v hr0 hr1
  have he := eq53_v
  have t0' := tw0
  have u1 : (1 : Rat) ≤ (u : Rat) := zc_in (a := 1) h1
  have u2 : (u : Rat) ≤ 999999 := zc_in (b := 999999) h2
  have P1 : 1 / 2000000 ≤ P := by grind
  have P2 : P ≤ 1 := by grind
  have Q3 : 1 / 2000000 ≤ Q := by grind
  obtain ⟨t, ft, t2⟩ := tpw_v fQ Q1 N
  have t0 := ft.nn
  have x1 : t * Q ≤ t := by
    have := Rat.mul_le_mul_of_nonneg_left Q1 t0
    grind
  have oq : Out (tpw (qqq u) (N + 1)) (t * Q) := mul_v ft fQ
  obtain ⟨t', ft', rd⟩ := oq.fv (by have := tw1000_w; grind)
  have tt : t' ≤ t := by
    obtain ⟨c, q, hcq, e⟩ := ft
    have := rd.2.1 c q hcq.2.1.1 hcq.2.1.2.1 (by rw [← e]; exact x1)
    rwa [← e] at this
  rcases Nat.eq_zero_or_pos K with hK0 | hKp
  · subst hK0
    have f1 : FV (tsq ((N + 1 : Nat) : Int) u 0).2 t' := ft'
    have f2 : FV (tsq (N : Int) u 0).2 t := ft
    have := (cmp_v f1 fa).1.mp ho
    exact (cmp_v f2 fa).1.mpr (by grind)
  · by_cases ht : t' ≤ tw (-600)
    · obtain ⟨_, s, _, fs, _, s2⟩ := loop_T fP fQ (by grind) P2 Q3 (show N + 1 ≤ 400 by omega) ⟨t', ft', ht⟩ K k9 (by omega)
      have h := (cmp_v fs fa).1.mp ho
      have h3 : tw (-600 + 31 * (K : Int)) ≤ tw (-40) := tw_le (by omega)
      have := twm40
      grind
    · have ht' : tw (-600) ≤ t' := by grind
      have x3 : tw (-1000) ≤ t * Q := by
        rcases @Rat.le_total (t * Q) (tw (-601)) with g | g
        · have g1 := rd_up rd (by omega) g
          have g2 := tw_lt (show (-601 : Int) < -600 by omega)
          have := tw_pos (-601)
          grind
        · exact Rat.le_trans (tw_le (by omega)) g
      have x4 := (rd.2.2 x3).1
      have N1 : (2 : Rat) ≤ (N : Rat) := nat_in (a := 2) (by omega)
      have N2 : (N : Rat) ≤ 399 := nat_in (b := 399) (by omega)
      have K1 : (1 : Rat) ≤ (K : Rat) := nat_in (a := 1) hKp
      have KN : (K : Rat) ≤ (N : Rat) := nat_in (by omega)
      have hA' : 1000000 * (K : Rat) ≤ (N : Rat) * (u : Rat) := by
        have h : ((1000000 * (K : Int) : Int) : Rat) ≤ (((N : Int) * u : Int) : Rat) := zc_in hA
        rw [Rat.intCast_mul, Rat.intCast_mul, Rat.intCast_natCast, Rat.intCast_natCast] at h
        exact h
      have i1 : 1000000 * Q ≤ 1000000 * (1 + eq53) - (u : Rat) := by grind
      have i2 := Rat.mul_le_mul_of_nonneg_right i1 (show 0 ≤ (N : Rat) by grind)
      have i3 : Q * (N : Rat) ≤ (1 + eq53) * (N : Rat) - (K : Rat) := by grind
      have i4 := Rat.mul_le_mul_of_nonneg_right i3 (show 0 ≤ (N : Rat) + 1 by grind)
      have i5 := Rat.mul_le_mul_of_nonneg_right N2 (show 0 ≤ (N : Rat) + 1 by grind)
      have i6 := Rat.mul_nonneg (show 0 ≤ (N : Rat) by grind) (show 0 ≤ (N : Rat) + 1 - (K : Rat) by grind)
      have i7 := Rat.mul_le_mul_of_nonneg_left K1 (show 0 ≤ (N : Rat) by grind)
      have hlam : Q * ((N : Rat) + 1) * (1 + 1 / 1000000000) ≤ lq6 * ((N : Rat) + 1 - (K : Rat)) := by
        refine Rat.le_of_mul_le_mul_right (c := (N : Rat)) ?_ (by grind)
        grind
      obtain ⟨_, _, s, s', _, _, fs, fs', _, _, _, _, _, hS⟩ := loop_A fP fQ P1 P2 Q3 Q1 (show N ≤ 399 by omega) hk hlam ⟨t, t', ft, ft', by grind, ht', by grind, by grind, x4⟩ K k9 (Nat.le_refl K)
      obtain ⟨z1, z2⟩ := zq2_b K k9
      have s0 := fs.nn
      have m1 : lq6 * zq2 K ≤ 1 := by
        have : lq6 = 1 - 1 / 1000000 := rfl
        grind
      have m2 := Rat.mul_le_mul_of_nonneg_right m1 s0
      have h := (cmp_v fs' fa).1.mp ho
      exact (cmp_v fs fa).1.mpr (by grind)
theorem UP_n' {n k r : Int} (hk0 : 0 ≤ k) (hk1 : k ≤ 9) (hn0 : 1 ≤ n) (hn1 : n < 400) (hr0 : 1 ≤ r) (hr1 : r ≤ 500) : UP (n + 1) k r ≤ UP n k r := by
  by_cases h : k < n
  · unfold UP
    rw [if_pos h, if_pos (by omega)]
    obtain ⟨N, rfl⟩ := Int.eq_ofNat_of_zero_le (show 0 ≤ n by omega)
    obtain ⟨K, rfl⟩ := Int.eq_ofNat_of_zero_le hk0
    refine bq_le 60 0 1000000 (by omega) (fun u h1 h2 hw => ?_)
    rw [wiq_over] at hw ⊢
    rw [Int.toNat_natCast] at hw ⊢
    intro ho
    refine hw ?_
    rcases Int.lt_or_le ((N : Int) * u) (1000000 * (K : Int)) with g | g
    · have k1 : 1 ≤ K := by
        rcases Nat.eq_zero_or_pos K with e | e
        · subst e
          have := Int.mul_nonneg (show (0 : Int) ≤ (N : Int) by omega) (show (0 : Int) ≤ u by omega)
          omega
        · exact e
      exact over_B k1 (by omega) (by omega) (by omega) (by omega) (by omega) g hr0 hr1
    · exact over_A (by omega) (by omega) (by omega) (by omega) (by omega) g hr0 hr1 ho
  · have e : UP n k r = 1000000 := by unfold UP; rw [if_neg h]
    rw [e]
    exact (UP_in _ _ _).2

