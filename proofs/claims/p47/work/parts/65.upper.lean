-- an upper bound by halving, as the law does it
section UPP
variable {G : Gq} {w : Wd} {mc ms : Nat}
theorem y_upper {K : Int → Wd → Prop} {n k r : Int} (hn1 : n ≤ 1000) (hk0 : 0 ≤ k) (hk1 : k ≤ 1000) (hr0 : 1 ≤ r) (hr1 : r ≤ 500) (hK : K (UP n k r) w) : DI G M_Bo_upper [vI n, vI k, vI r] w mc ms K := by
  obtain ⟨a, a1, -⟩ := al_v hr0 hr1
  refine e_Bo_upper _ _ _ ?_
  unfold UP at hK
  refine ⟨fun hkn => ?_, fun g => by rw [if_neg g] at hK; exact hK⟩
  rw [if_pos hkn] at hK
  generalize hV : bq (wiq n k r) 60 0 1000000 = V at hK
  have L : ∀ (m : Nat) (lo hi : Int), hi - lo ≤ 2 ^ m → 0 ≤ lo → lo < hi → hi ≤ 1000000 → bq (wiq n k r) m lo hi = V → WD G M_Bo_upper 14 [(0, vI n), (1, vI k), (2, vI r), (3, vI lo), (4, vI hi)] [] w mc ms (yI K) := by
    intro m
    induction m with
    | zero =>
      intro lo hi hm h1 h2 h3 hb
      refine l_Bo_upper_1 _ _ _ _ _ ?_
      refine ⟨by omega, fun _ => ?_, fun g => absurd hm g⟩
      rw [← hb] at hK
      exact hK
    | succ m ih =>
      intro lo hi hm h1 h2 h3 hb
      have hm2 : hi - lo ≤ 2 * 2 ^ m := by rw [Int.pow_succ] at hm; omega
      refine l_Bo_upper_1 _ _ _ _ _ ?_
      refine ⟨by omega, fun g2 => ?_, fun g2 => ?_⟩
      · unfold bq at hb
        rw [if_pos g2] at hb
        rw [← hb] at hK
        exact hK
      have hb' : bq (wiq n k r) (m + 1) lo hi = (if wiq n k r ((lo + hi) / 2) = true then bq (wiq n k r) m lo ((lo + hi) / 2) else bq (wiq n k r) m ((lo + hi) / 2) hi) := by
        show (if hi - lo ≤ 1 then hi else _) = _
        rw [if_neg g2]
      have u1 : 1 ≤ (lo + hi) / 2 := by omega
      have u2 : (lo + hi) / 2 ≤ 999999 := by omega
      have hlo := fun g : 0 < dcq .g (tsq n ((lo + hi) / 2) k.toNat).2 (alq r) => ih ((lo + hi) / 2) hi (by omega) (by omega) (by omega) h3 (by rw [← hb, hb', if_neg (fun w => wiq_over.mp w g)])
      have hhi := fun g : ¬ 0 < dcq .g (tsq n ((lo + hi) / 2) k.toNat).2 (alq r) => ih lo ((lo + hi) / 2) (by omega) h1 (by omega) (by omega) (by rw [← hb, hb', if_pos (wiq_over.mpr g)])
      generalize hu : (lo + hi) / 2 = u at u1 u2 hlo hhi
      have hpq := ppq_n u1 u2
      have L2 : ∀ (d : Nat) (j : Nat), j + d = k.toNat → WD G M_Bo_upper 76 [(0, vI n), (1, vI k), (2, vI r), (3, vI lo), (4, vI hi), (5, vI u), (6, vD (ppq u)), (8, vD (qqq u)), (10, vD (tsq n u j).1), (12, vD (tsq n u j).2), (14, vI ((j : Int) + 1))] [] w mc ms (yI K) := by
        intro d
        induction d with
        | zero =>
          intro j hj
          refine l_Bo_upper_3 _ _ _ _ _ _ _ _ _ _ _ ?_
          have e : j = k.toNat := by omega
          rw [e]
          exact ⟨fun _ => ⟨a1.n64, fun g => hlo g, fun g => hhi g⟩, fun g => absurd (by omega) g⟩
        | succ d ih2 =>
          intro j hj
          refine l_Bo_upper_3 _ _ _ _ _ _ _ _ _ _ _ ?_
          refine ⟨fun g => absurd g (by omega), fun _ => ?_⟩
          have b1 := tsq_n (n := n) u1 u2 (by omega) j (by omega)
          have b2 := tsq_n (n := n) u1 u2 (by omega) (j + 1) (by omega)
          have b3 := tst_n (n := n) u1 u2 (j := (j : Int) + 1) (by omega) (by omega) (by omega) b1.1
          have := ih2 (j + 1) (by omega)
          exact ⟨by omega, by omega, b3.1.n64, b3.2.1.n64, b3.2.2.1.n64, b3.2.2.2.n64, (nn_add b1.2 b2.1).1.n64, by omega, this⟩
      have L1 : ∀ (d : Nat) (j : Nat), (j : Int) + d = n → WD G M_Bo_upper 51 [(0, vI n), (1, vI k), (2, vI r), (3, vI lo), (4, vI hi), (5, vI u), (6, vD (ppq u)), (8, vD (qqq u)), (10, vD (tpw (qqq u) j)), (12, vI (d : Int))] [] w mc ms (yI K) := by
        intro d
        induction d with
        | zero =>
          intro j hj
          refine l_Bo_upper_2 _ _ _ _ _ _ _ _ _ _ ?_
          refine ⟨fun _ => ?_, fun g => absurd (by omega) g⟩
          have := L2 k.toNat 0 (by omega)
          have e : n.toNat = j := by omega
          unfold tsq at this
          rw [e] at this
          exact this
        | succ d ih2 =>
          intro j hj
          refine l_Bo_upper_2 _ _ _ _ _ _ _ _ _ _ ?_
          refine ⟨fun g => absurd g (by omega), fun _ => ⟨(tpw_n u1 u2 (j + 1)).n64, inR_of (by omega) (by omega), ?_⟩⟩
          have := ih2 (j + 1) (by omega)
          rw [show ((d + 1 : Nat) : Int) + (-1) = (d : Int) by omega]
          exact this
      refine ⟨by omega, by omega, ?_, ?_, ?_⟩
      · exact hpq.1
      · exact hpq.2.1
      · have := L1 n.toNat 0 (by omega)
        rw [show ((n.toNat : Nat) : Int) = n by omega] at this
        exact this
  exact L 60 0 1000000 (by decide) (by omega) (by omega) (by omega) hV
end UPP
