-- halving, as the class and as the model do it
theorem ppq_n {u : Int} (h1 : 1 ≤ u) (h2 : u ≤ 999999) : vf_n64 (ppq u) ∧ vf_n64 (qqq u) ∧ 0 < dcq .g (qqq u) FP.dconst0 ∧ ¬ dcq .l (qqq u) FP.dconst0 = 0 := by
  obtain ⟨P, Q, p1, q1, p2, q2, -⟩ := pq_v h1 h2
  refine ⟨p1.n64, q1.n64, (cmp_v q1 fv_0).1.mpr q2, fun h => ?_⟩
  have := (cmp_v q1 fv_0).2.mp h
  grind
theorem wiq_over {n k r u : Int} : (wiq n k r u = true ↔ ¬ 0 < dcq .g (tsq n u k.toNat).2 (alq r)) := by
  unfold wiq
  simp only [decide_eq_true_eq]
theorem v_isWithin {K : Int → St → Prop} {σ : St} {n k r u : Int} (hn : n ≤ 1000) (hk0 : 0 ≤ k) (hk : k < n) (hr0 : 1 ≤ r) (hr1 : r ≤ 500) (h1 : 1 ≤ u) (h2 : u ≤ 999999) (hK : K (if wiq n k r u = true then 1 else 0) σ) : CI M_Fa_isWithin [vR 26, vD (alq r), vI n, vI k, vI u] σ K := by
  have hpq := ppq_n h1 h2
  -- the sum
  have L2 : ∀ (d : Nat) (j : Nat), j + d = k.toNat → WM M_Fa_isWithin 56 [(1, vD (alq r)), (3, vI n), (4, vI k), (6, vD (ppq u)), (8, vD (qqq u)), (10, vD (tsq n u j).1), (12, vD (tsq n u j).2), (14, vI ((j : Int) + 1))] [] σ (QI K) := by
    intro d
    induction d with
    | zero =>
      intro j hj
      refine l_Fa_isWithin_2 _ _ _ _ _ _ _ _ ?_
      have e : j = k.toNat := by omega
      refine ⟨fun _ => ⟨fun g => ?_, fun g => ?_⟩, fun g => absurd (by omega) g⟩
      · rw [e] at g
        have : ¬ wiq n k r u = true := fun w => wiq_over.mp w g
        rwa [if_neg this] at hK
      · rw [e] at g
        rwa [if_pos (wiq_over.mpr g)] at hK
    | succ d ih =>
      intro j hj
      refine l_Fa_isWithin_2 _ _ _ _ _ _ _ _ ?_
      refine ⟨fun g => absurd g (by omega), fun _ => ⟨fun g => ?_, fun g => ?_⟩⟩
      · have g2 := tsq_over_le h1 h2 (by omega) hr0 hr1 g (d + 1) (by omega)
        rw [hj] at g2
        have : ¬ wiq n k r u = true := fun w => wiq_over.mp w g2
        rwa [if_neg this] at hK
      · have b1 := tsq_n (n := n) h1 h2 (by omega) j (by omega)
        have b2 := tsq_n (n := n) h1 h2 (by omega) (j + 1) (by omega)
        have b3 := tst_n (n := n) h1 h2 (j := (j : Int) + 1) (by omega) (by omega) (by omega) b1.1
        have := ih (j + 1) (by omega)
        exact ⟨by omega, by omega, b3.1.n64, b3.2.1.n64, b3.2.2.1.n64, b3.2.2.2.n64, (nn_add b1.2 b2.1).1.n64, by omega, this⟩
  -- the power
  have L1 : ∀ (d : Nat) (j : Nat), (j : Int) + d = n → WM M_Fa_isWithin 30 [(1, vD (alq r)), (3, vI n), (4, vI k), (6, vD (ppq u)), (8, vD (qqq u)), (10, vD (tpw (qqq u) j)), (12, vI j)] [] σ (QI K) := by
    intro d
    induction d with
    | zero =>
      intro j hj
      refine l_Fa_isWithin_1 _ _ _ _ _ _ _ ?_
      refine ⟨fun _ => ?_, fun g => absurd (by omega) g⟩
      have := L2 k.toNat 0 (by omega)
      have e : n.toNat = j := by omega
      unfold tsq at this
      rw [e] at this
      exact this
    | succ d ih =>
      intro j hj
      refine l_Fa_isWithin_1 _ _ _ _ _ _ _ ?_
      refine ⟨fun g => absurd g (by omega), fun _ => ⟨(tpw_n h1 h2 (j + 1)).n64, by omega, ?_⟩⟩
      exact ih (j + 1) (by omega)
  refine e_Fa_isWithin _ _ _ _ ?_
  refine ⟨hpq.1, hpq.2.1, fun _ => ?_, fun g => absurd hpq.2.2.1 g⟩
  exact L1 n.toNat 0 (by omega)
theorem f_halved_c' {K : Int → St → Prop} {σ : St} {n k r : Int} (hn0 : 0 ≤ n) (hn1 : n ≤ 1000) (hk0 : 0 ≤ k) (hk1 : k ≤ 400) (hr0 : 1 ≤ r) (hr1 : r ≤ 500) (hK : K (UP n k r) σ) : CI M_Fa_halved [vR 26, vI n, vI k, vI r] σ K := by
  obtain ⟨a, a1, -⟩ := al_v hr0 hr1
  refine e_Fa_halved _ _ _ ?_
  unfold UP at hK
  refine ⟨fun g => ?_, fun g => ?_⟩
  · rw [if_pos g] at hK
    refine ⟨a1.n64, ?_⟩
    generalize hV : bq (wiq n k r) 60 0 1000000 = V at hK
    have L : ∀ (m : Nat) (lo hi : Int), (m : Int) ≤ 60 → 0 ≤ lo → lo < hi → hi ≤ 1000000 → bq (wiq n k r) m lo hi = V → WM M_Fa_halved 26 [(0, vR 26), (1, vI n), (2, vI k), (4, vD (alq r)), (6, vI lo), (7, vI hi), (8, vI (60 - (m : Int)))] [] σ (QI K) := by
      intro m
      induction m with
      | zero =>
        intro lo hi _ h1 h2 h3 hb
        refine l_Fa_halved_1 _ _ _ _ _ _ ?_
        refine ⟨fun _ => ?_, fun g => absurd (by omega) g⟩
        rw [← hb] at hK
        exact hK
      | succ m ih =>
        intro lo hi hm h1 h2 h3 hb
        refine l_Fa_halved_1 _ _ _ _ _ _ ?_
        refine ⟨fun g => absurd g (by omega), fun _ => ⟨by omega, fun g2 => ?_, fun g2 => ⟨by omega, by omega, ?_⟩⟩⟩
        · unfold bq at hb
          rw [if_pos g2] at hb
          rw [← hb] at hK
          exact hK
        · have hb' : bq (wiq n k r) (m + 1) lo hi = (if wiq n k r ((lo + hi) / 2) = true then bq (wiq n k r) m lo ((lo + hi) / 2) else bq (wiq n k r) m ((lo + hi) / 2) hi) := by
            show (if hi - lo ≤ 1 then hi else _) = _
            rw [if_neg g2]
          have ex : (60 : Int) - ((m + 1 : Nat) : Int) + 1 = 60 - (m : Int) := by omega
          refine v_isWithin hn1 hk0 g hr0 hr1 (by omega) (by omega) ?_
          rw [ex]
          cases hw : wiq n k r ((lo + hi) / 2) with
          | true =>
            refine ⟨fun z => by simp at z, fun _ => ⟨by omega, ?_⟩⟩
            exact ih lo ((lo + hi) / 2) (by omega) h1 (by omega) (by omega) (by rw [← hb, hb', hw]; rfl)
          | false =>
            refine ⟨fun _ => ⟨by omega, ?_⟩, fun z => by simp at z⟩
            exact ih ((lo + hi) / 2) hi (by omega) (by omega) (by omega) h3 (by rw [← hb, hb', hw]; rfl)
    exact L 60 0 1000000 (by omega) (by omega) (by omega) (by omega) hV
  · rw [if_neg g] at hK
    exact hK
