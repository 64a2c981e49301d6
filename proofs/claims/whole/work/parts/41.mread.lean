-- the model's methods that change nothing, the second half
theorem p_trial {K : Int → St → Prop} {A σ : St} (hM : MR A σ) (hF : FM σ) (hA : OKA A) {s w : Int} (hK : EM A σ (q_trial A s w) K) : CI M_Mo_trial [vR 35, vI s, vI w] σ K := by
  apply e_Mo_trial
  have hM0 := t0_M hM
  have hi := hA.2.1
  have h48 := hA.1.2.1
  have hMq := Mq_in hA.1 (v := A 0 1)
  refine s_isIn (fun w0 w1 => ⟨fun _ => ?_, fun h => by omega⟩) (fun h => ⟨fun h => absurd rfl h, fun _ => (mrd hM hK t0_s (t0_F hF) (by unfold q_trial; (repeat' split) <;> first | (exfalso; omega) | rfl | simp_all))⟩)
  rw [hM0.2.1.1]
  refine ⟨fun hv => s_isIn (fun g0 g1 => ⟨fun _ => ?_, fun h => by omega⟩) (fun h => ⟨fun h => absurd rfl h, fun _ => (mrd hM hK t0_s (t0_F hF) (by unfold q_trial; (repeat' split) <;> first | (exfalso; omega) | rfl | simp_all))⟩), fun hv => (mrd hM hK t0_s (t0_F hF) (by unfold q_trial; (repeat' split) <;> first | (exfalso; omega) | rfl | simp_all))⟩
  rw [hM0.2.1.1]
  refine s_laysRest hM0.1 hA.1 (fun σ1 s1 b1 => ?_)
  have t1 : Mm scM scP σ σ1 := t0_s.tr (s1.wk (by decide) (by decide))
  have m1 := hM0.sm s1 (by decide) (by decide)
  have f1 := (t0_F hF).sm s1 (by decide) (by decide) (by decide) (by decide)
  have go : ∀ v, q_trial A s w = v → K v σ1 := fun v e => mrd hM hK t1 f1 e
  have eq : q_trial A s w = if w = 0 then nh A (A 0 1) s else if w = 1 then na A s else if w = 2 then tb A s else if nh A (A 0 1) s = 0 then 0 else s + (nh A (A 0 1) s - 1) * A 0 1 := by
    unfold q_trial
    rw [if_neg (by omega), if_neg hv, if_neg (by omega)]
  rw [b1.1, m1.2.1.1]
  refine ⟨fun h3 => ?_, fun h3 => ⟨fun hle => ?_, fun hle => go _ ?_⟩⟩
  · -- the item by item sums: 0 hit, 1 not audited, 2 taints above
    have key : ∀ i, 0 ≤ i → i ≤ A 0 0 → ∀ x, x = (if w = 0 then cI (sk A (A 0 1) s) i else if w = 1 then cI (fun i => decide (A 4 i = -1) && (ce A (A 0 1) i || sk A (A 0 1) s i)) i else sI (fun i => if sk A (A 0 1) s i then mx (ta A i) else 0) i) → WM M_Mo_trial 96 [(0, vR 35), (1, vI s), (2, vI w), (3, vI x), (4, vI i)] [] σ1 (QI K) := by
      refine up_ind (fun x hx => ?_) (fun i a b ih x hx => ?_)
      · apply l_Mo_trial_1
        rw [m1.1.1]
        refine ⟨fun _ => go _ ?_, fun h => by omega⟩
        rw [eq, hx]
        by_cases e0 : w = 0
        · rw [if_pos e0, if_pos e0, nh_cnt hA.1 (by omega) g0 g1]
        · rw [if_neg e0, if_neg e0]
          by_cases e1 : w = 1
          · rw [if_pos e1, if_pos e1]; rfl
          · rw [if_neg e1, if_neg e1, if_pos (by omega)]; rfl
      · apply l_Mo_trial_1
        rw [m1.1.1]
        have c0 := cI_in (p := sk A (A 0 1) s) a
        have c1 := cI_in (p := fun i => decide (A 4 i = -1) && (ce A (A 0 1) i || sk A (A 0 1) s i)) a
        have c2 := tb_in hA.1 (s := s) a (show i ≤ A 0 0 by omega)
        have ht := ta_in hA.1 a b
        have hx2 : 0 ≤ x ∧ x ≤ 10000 * i + i := by
          rw [hx]
          (repeat' split) <;> omega
        refine ⟨fun h => by omega, fun _ => v_catches m1.1 hA.1 m1.2.1.1 (by omega) (by omega) b1.2 g0 g1 a b ?_⟩
        rw [Int.add_zero]
        -- the third test, then on
        have third : ∀ y, (w = 2 → y = x) → (w ≠ 2 → y = (if w = 0 then cI (sk A (A 0 1) s) (i + 1) else if w = 1 then cI (fun i => decide (A 4 i = -1) && (ce A (A 0 1) i || sk A (A 0 1) s i)) (i + 1) else sI (fun i => if sk A (A 0 1) s i then mx (ta A i) else 0) (i + 1))) → WM M_Mo_trial 168 [(0, vR 35), (1, vI s), (2, vI w), (3, vI y), (4, vI i), (5, vI (bi (sk A (A 0 1) s i)))] [] σ1 (QI K) := by
          intro y h2 hn2
          apply l_Mo_trial_3
          rw [Int.add_zero]
          refine ⟨fun hw => ⟨by omega, ih y (hn2 hw)⟩, fun hw => ?_⟩
          have hy := h2 hw
          have hx3 : x = sI (fun i => if sk A (A 0 1) s i then mx (ta A i) else 0) i := by rw [hx, if_neg (by omega), if_neg (by omega)]
          have nx : ∀ z, z = y + (if sk A (A 0 1) s i then mx (ta A i) else 0) → WM M_Mo_trial 96 [(0, vR 35), (1, vI s), (2, vI w), (3, vI z), (4, vI (i + 1))] [] σ1 (QI K) := fun z hz => ih z (by rw [if_neg (by omega), if_neg (by omega), sI_s a, ← hx3, ← hy]; exact hz)
          cases hk : sk A (A 0 1) s i with
          | false => exact ⟨fun _ => ⟨by omega, by omega, nx y (by rw [hk, if_neg (by decide), Int.add_zero])⟩, fun h => absurd rfl h⟩
          | true =>
            refine ⟨fun h => by simp [bi] at h, fun _ => m_taintOf m1.1 hA.1 a b ⟨fun h => ⟨by omega, by omega, nx y ?_⟩, fun h => m_taintOf m1.1 hA.1 a b ⟨by omega, by omega, nx _ ?_⟩⟩⟩
            · rw [hk, if_pos rfl, show mx (ta A i) = 0 by unfold mx; rw [if_neg (by omega)], Int.add_zero]
            · rw [hk, if_pos rfl, show mx (ta A i) = ta A i by unfold mx; rw [if_pos (by omega)]]
        have second : ∀ y, (w ≠ 0 → y = x) → (w = 0 → y = cI (sk A (A 0 1) s) (i + 1)) → WM M_Mo_trial 131 [(0, vR 35), (1, vI s), (2, vI w), (3, vI y), (4, vI i), (5, vI (bi (sk A (A 0 1) s i)))] [] σ1 (QI K) := by
          intro y hn0 h0
          apply l_Mo_trial_2
          rw [Int.add_zero]
          refine ⟨fun hw => third y (fun h2 => hn0 (by omega)) (fun h2 => by rw [if_pos (by omega)]; exact h0 (by omega)), fun hw => ?_⟩
          have hy := hn0 (by omega)
          have hx3 : x = cI (fun i => decide (A 4 i = -1) && (ce A (A 0 1) i || sk A (A 0 1) s i)) i := by rw [hx, if_neg (by omega), if_pos hw]
          have nx : ∀ z, z = cI (fun i => decide (A 4 i = -1) && (ce A (A 0 1) i || sk A (A 0 1) s i)) (i + 1) → WM M_Mo_trial 168 [(0, vR 35), (1, vI s), (2, vI w), (3, vI z), (4, vI i), (5, vI (bi (sk A (A 0 1) s i)))] [] σ1 (QI K) := fun z hz => third z (fun h2 => by omega) (fun _ => by rw [if_neg (by omega), if_pos hw]; exact hz)
          cases hk : sk A (A 0 1) s i with
          | true =>
            rw [hk] at nx
            refine ⟨fun _ => v_audited m1.1 hA.1 a b ⟨fun h => ⟨by omega, nx y ?_⟩, fun h => ⟨by omega, nx _ ?_⟩⟩, fun h => by simp [bi] at h⟩
            · rw [cI_f a (by simp [h]), hy, hx3]
            · rw [cI_t a (by simp [h, hk]), hy, hx3]
          | false =>
            rw [hk] at nx
            refine ⟨fun h => absurd rfl h, fun _ => m_isCertain m1.1 hA.1 m1.2.1.1 a b ?_⟩
            cases hc : ce A (A 0 1) i with
            | false => exact ⟨fun _ => ⟨by omega, nx y (by rw [cI_f a (by simp [hc, hk]), hy, hx3])⟩, fun h => absurd rfl h⟩
            | true =>
              refine ⟨fun h => by simp [bi] at h, fun _ => v_audited m1.1 hA.1 a b ⟨fun h => ⟨by omega, nx y ?_⟩, fun h => ⟨by omega, nx _ ?_⟩⟩⟩
              · rw [cI_f a (by simp [h]), hy, hx3]
              · rw [cI_t a (by simp [h, hc]), hy, hx3]
        refine ⟨fun hw => second x (fun _ => rfl) (fun h => absurd h hw), fun hw => ?_⟩
        have hx3 : x = cI (sk A (A 0 1) s) i := by rw [hx, if_pos hw]
        cases hk : sk A (A 0 1) s i with
        | false => rw [hk] at second; exact ⟨fun _ => ⟨by omega, second x (fun h => absurd hw h) (fun _ => by rw [cI_f a hk, hx3])⟩, fun h => absurd rfl h⟩
        | true => rw [hk] at second; exact ⟨fun h => by simp [bi] at h, fun _ => ⟨by omega, second _ (fun h => absurd hw h) (fun _ => by rw [cI_t a hk, hx3])⟩⟩
    exact key 0 (by omega) hA.1.1 0 (by (repeat' split) <;> rfl)
  · have hd := Int.ediv_nonneg (show 0 ≤ Mq A (A 0 1) - s by omega) hi.1
    have hd2 := Int.ediv_mul_le (Mq A (A 0 1) - s) (show A 0 1 ≠ 0 by omega)
    have hd3 := Int.mul_nonneg hd hi.1
    refine ⟨by omega, by omega, by omega, by omega, by omega, go _ ?_⟩
    have en : nh A (A 0 1) s = (Mq A (A 0 1) - s) / A 0 1 + 1 := by unfold nh; rw [if_neg (by omega)]
    rw [eq, if_neg (by omega), if_neg (by omega), if_neg (by omega), en, if_neg (by omega), show (Mq A (A 0 1) - s) / A 0 1 + 1 - 1 = (Mq A (A 0 1) - s) / A 0 1 by omega]
  · have en : nh A (A 0 1) s = 0 := by unfold nh; rw [if_pos (by omega)]
    rw [eq, if_neg (by omega), if_neg (by omega), if_neg (by omega), if_pos en]
theorem p_covered {K : Int → St → Prop} {A σ : St} (hM : MR A σ) (hF : FM σ) (hA : OKA A) (hK : EM A σ (q_covered A) K) : CI M_Mo_covered [vR 35] σ K := by
  apply e_Mo_covered
  have h48 := hA.1.2.1
  have ha := al_in hA.1
  refine hits hM hF hA (fun σ1 s1 m1 f1 t1 => ?_)
  have key : ∀ i, 0 ≤ i → i ≤ A 0 0 → WM M_Mo_covered 13 [(0, vR 35), (1, vL (sI (lkc A) i)), (3, vI i)] [] σ1 (QI K) := by
    refine up_ind ?_ (fun i a b ih => ?_)
    · apply l_Mo_covered_1
      rw [m1.1.1]
      have h1 := lkc_in hA hA.1.1 (Int.le_refl _)
      have e : al A = sI (co A) (A 0 0) := rfl
      refine ⟨fun _ => m_allCoins m1.1 hA.1 ⟨fun h0 => ?_, fun h0 => mrd hM hK s1 f1 (by unfold q_covered; (repeat' split) <;> first | (exfalso; omega) | rfl | simp_all)⟩, fun h => by omega⟩
      have hc := cov_in hA h0
      rw [Int.mul_comm] at hc
      exact ⟨by omega, m_allCoins m1.1 hA.1 ⟨by omega, by omega, by omega, mrd hM hK s1 f1 (by unfold q_covered; rw [if_neg h0, Int.mul_comm])⟩⟩
    · apply l_Mo_covered_1
      rw [m1.1.1]
      have h1 := lkc_in hA a (show i ≤ A 0 0 by omega)
      have h2 := sI_mono (f := co A) a (show i ≤ A 0 0 by omega) (fun j x y => (co_in hA.1 (by omega) y).1)
      have e : al A = sI (co A) (A 0 0) := rfl
      have hc := co_in hA.1 a b
      rw [sI_s a] at ih
      refine ⟨fun h => by omega, fun _ => v_isDrawn m1 hA t1.2.2.2 a b ?_⟩
      rw [Int.add_zero]
      unfold lkc at ih
      cases hl : lk A (A 0 2) i with
      | false =>
        rw [hl, if_neg (by decide), Int.add_zero] at ih
        exact ⟨fun _ => ⟨by omega, by omega, ih⟩, fun h => absurd rfl h⟩
      | true =>
        rw [hl, if_pos rfl] at ih
        exact ⟨fun h => by simp [bi] at h, fun _ => m_coinsOf m1.1 hA.1 a b ⟨by omega, by omega, ih⟩⟩
  exact key 0 (by omega) hA.1.1
/-- turns are laid: what is known there -/
theorem turned {K : St → Prop} {A σ σ0 : St} (hM : MR A σ0) (hz : Mm scM scP σ σ0) (hF : FM σ0) (hA : OKA A) (hiv : 0 < A 0 1) (hK : ∀ σ' m, Mm scM scP σ σ' → MR A σ' → FM σ' → BG A (A 0 1) σ' → σ' 35 34 = m → m ≤ 98 → SCq (A 0 1) m (σ' 52) → CAq A (A 0 1) m (σ' 52) → K σ') : CV M_Mo_laysTurns [vR 35] σ0 K := by
  refine s_laysTurns hM hA hiv (fun σ1 s1 b1 ⟨m, h1, h2, h3, h4⟩ => hK σ1 m (hz.tr (s1.wk (by decide) (by decide))) (hM.sm s1 (by decide) (by decide)) (hF.sm s1 (by decide) (by decide) (by decide) (by decide)) b1 h1 h2 h3 h4)
theorem p_caught {K : Int → St → Prop} {A σ : St} (hM : MR A σ) (hF : FM σ) (hA : OKA A) {k : Int} (hK : EM A σ (q_caught A k) K) : CI M_Mo_caught [vR 35, vI k] σ K := by
  apply e_Mo_caught
  have hi := hA.2.1
  rw [hM.2.1.1]
  refine ⟨fun h0 => ⟨fun h1 => turned (t0_M hM) t0_s (t0_F hF) hA (by omega) (fun σ1 m s1 m1 f1 b1 t1 t2 t3 t4 => ?_), fun h1 => (mrd hM hK t0_s (t0_F hF) (by unfold q_caught; (repeat' split) <;> first | (exfalso; omega) | rfl | simp_all))⟩, fun h0 => (mrd hM hK t0_s (t0_F hF) (by unfold q_caught; (repeat' split) <;> first | (exfalso; omega) | rfl | simp_all))⟩
  have hch : CHq (A 0 1) m (σ1 52) (fun s => decide (mh A (erm A) s = k)) := ch_of hA.1 t4 (fun s _ _ hs => by rw [mh_congr hA.1 hs])
  have hm1 := t3.1
  have key : ∀ c, 0 ≤ c → c ≤ m → WM M_Mo_caught 30 [(0, vR 35), (1, vI k), (2, vI (ssq (A 0 1) m (σ1 52) (fun s => decide (mh A (erm A) s = k)) c)), (3, vI c)] [] σ1 (QI K) := by
    refine up_ind ?_ (fun c a b ih => ?_)
    · apply l_Mo_caught_1
      rw [t1]
      refine ⟨fun _ => ?_, fun h => by omega⟩
      rw [ssq_all t3 hch]
      exact mrd hM hK s1 f1 (by unfold q_caught; rw [if_neg (by omega), if_neg h1]; rfl)
    · apply l_Mo_caught_1
      rw [t1, Int.add_zero]
      have hr := t3.2.2.1 c a b
      have hn := t3.nx a b
      have hs1 := ssq_in t3 hch a (show c ≤ m by omega)
      have hs2 := ssq_in t3 hch (show 0 ≤ c + 1 by omega) (show c + 1 ≤ m by omega)
      rw [ssq_s a] at ih hs2
      refine ⟨fun h => by omega, fun _ => ⟨a, by omega, v_caughtBy m1 hA (by omega) b1 hr.1 hr.2 ⟨fun hne => ⟨by omega, by omega, ?_⟩, fun he => v_turnLong m1 hA t1 t2 t3 a b ?_⟩⟩⟩
      · rw [if_neg (by simpa using hne), Int.add_zero] at ih
        exact ih
      · rw [if_pos (by simpa using he)] at ih hs2
        exact ⟨by omega, by omega, ih⟩
  exact key 0 (by omega) (by omega)
theorem p_worst {K : Int → St → Prop} {A σ : St} (hM : MR A σ) (hF : FM σ) (hA : OKA A) {w : Int} (hK : EM A σ (q_worst A w) K) : CI M_Mo_worst [vR 35, vI w] σ K := by
  apply e_Mo_worst
  have hi := hA.2.1
  have h48 := hA.1.2.1
  refine s_isIn (fun w0 w1 => ⟨fun _ => ?_, fun h => by omega⟩) (fun h => ⟨fun h => absurd rfl h, fun _ => (mrd hM hK t0_s (t0_F hF) (by unfold q_worst; (repeat' split) <;> first | (exfalso; omega) | rfl | simp_all))⟩)
  rw [(t0_M hM).2.1.1]
  refine ⟨fun h1 => turned (t0_M hM) t0_s (t0_F hF) hA (by omega) (fun σ1 m s1 m1 f1 b1 t1 t2 t3 t4 => ?_), fun h1 => (mrd hM hK t0_s (t0_F hF) (by unfold q_worst; (repeat' split) <;> first | (exfalso; omega) | rfl | simp_all))⟩
  have hm1 := t3.1
  have key : ∀ c, 0 ≤ c → c ≤ m → ∀ best most, ((c = 0 ∧ best = -1 ∧ most = -1) ∨ ∃ q, 0 ≤ q ∧ q < c ∧ best = σ1 52 q ∧ most = tb A best ∧ (∀ i, 0 ≤ i → i < q → tb A (σ1 52 i) < tb A best) ∧ (∀ i, 0 ≤ i → i < c → tb A (σ1 52 i) ≤ tb A best)) → WM M_Mo_worst 39 [(0, vR 35), (1, vI w), (2, vI best), (3, vI most), (4, vI c)] [] σ1 (QI K) := by
    refine up_ind (fun best most hq => ?_) (fun c a b ih best most hq => ?_)
    · apply l_Mo_worst_1
      rw [t1]
      refine ⟨fun _ => ?_, fun h => by omega⟩
      rcases hq with ⟨h, _⟩ | ⟨q, q0, q1, q2, q3, q4, q5⟩
      · omega
      · have hW := isW_of hA.1 t3 t4 q0 q1 q2 q4 q5
        refine ⟨fun h => mrd hM hK s1 f1 ?_, fun h => mrd hM hK s1 f1 ?_⟩
        · unfold q_worst; rw [if_neg (by omega), if_neg h1, if_neg h, Wq_eq hW, q3]
        · unfold q_worst; rw [if_neg (by omega), if_neg h1, if_pos h, Wq_eq hW]
    · apply l_Mo_worst_1
      rw [t1]
      have hr := t3.2.2.1 c a b
      refine ⟨fun h => by omega, fun _ => ?_⟩
      have sum : ∀ i, 0 ≤ i → i ≤ A 0 0 → WM M_Mo_worst 54 [(0, vR 35), (1, vI w), (2, vI best), (3, vI most), (4, vI c), (5, vI (sI (fun i => if sk A (A 0 1) (σ1 52 c) i then mx (ta A i) else 0) i)), (6, vI i)] [] σ1 (QI K) := by
        refine up_ind ?_ (fun i x y ih2 => ?_)
        · apply l_Mo_worst_2
          rw [m1.1.1, show sI (fun i => if sk A (A 0 1) (σ1 52 c) i then mx (ta A i) else 0) (A 0 0) = tb A (σ1 52 c) from rfl]
          have htb := tb_in hA.1 (s := σ1 52 c) hA.1.1 (Int.le_refl _)
          rw [show sI (fun i => if sk A (A 0 1) (σ1 52 c) i then mx (ta A i) else 0) (A 0 0) = tb A (σ1 52 c) from rfl] at htb
          refine ⟨fun _ => ⟨fun hlt => ⟨a, by omega, by omega, ih _ _ (Or.inr ⟨c, a, by omega, rfl, rfl, fun i p q => ?_, fun i p q => ?_⟩)⟩, fun hge => ⟨by omega, ih _ _ ?_⟩⟩, fun h => by omega⟩
          · rcases hq with ⟨h, _⟩ | ⟨q', q0, q1, q2, q3, q4, q5⟩
            · omega
            · have := q5 i p q; omega
          · rcases hq with ⟨h, _⟩ | ⟨q', q0, q1, q2, q3, q4, q5⟩
            · have : i = c := by omega
              rw [this]; exact Int.le_refl _
            · by_cases e : i = c
              · rw [e]; exact Int.le_refl _
              · have := q5 i p (by omega); omega
          · rcases hq with ⟨_, _, h⟩ | ⟨q', q0, q1, q2, q3, q4, q5⟩
            · omega
            · refine Or.inr ⟨q', q0, by omega, q2, q3, q4, fun i p q => ?_⟩
              by_cases e : i = c
              · rw [e]; omega
              · exact q5 i p (by omega)
        · apply l_Mo_worst_2
          rw [m1.1.1, Int.add_zero]
          have htb := tb_in hA.1 (s := σ1 52 c) x (show i ≤ A 0 0 by omega)
          have ht := ta_in hA.1 x y
          rw [sI_s x] at ih2
          refine ⟨fun h => by omega, fun _ => ⟨a, by omega, v_catches m1.1 hA.1 m1.2.1.1 (by omega) (by omega) b1.2 hr.1 hr.2 x y ?_⟩⟩
          cases hk : sk A (A 0 1) (σ1 52 c) i with
          | false =>
            rw [hk, if_neg (by decide), Int.add_zero] at ih2
            exact ⟨fun _ => ⟨by omega, by omega, ih2⟩, fun h => absurd rfl h⟩
          | true =>
            rw [hk, if_pos rfl] at ih2
            refine ⟨fun h => by simp [bi] at h, fun _ => m_taintOf m1.1 hA.1 x y ⟨fun h => ⟨by omega, by omega, ?_⟩, fun h => m_taintOf m1.1 hA.1 x y ⟨by omega, by omega, ?_⟩⟩⟩
            · rw [show mx (ta A i) = 0 by unfold mx; rw [if_neg (by omega)], Int.add_zero] at ih2; exact ih2
            · rw [show mx (ta A i) = ta A i by unfold mx; rw [if_pos (by omega)]] at ih2; exact ih2
      exact sum 0 (by omega) hA.1.1
  exact key 0 (by omega) (by omega) (-1) (-1) (Or.inl ⟨rfl, rfl, rfl⟩)
theorem cI_not {p : Int → Bool} : ∀ n, 0 ≤ n → cI (fun i => !p i) n = n - cI p n := by
  refine nn_ind rfl (fun i hi ih => ?_)
  cases hp : p i with
  | true => rw [cI_t hi hp, cI_f hi (by simp [hp]), ih]; omega
  | false => rw [cI_f hi hp, cI_t hi (by simp [hp]), ih]; omega
theorem mh_in {A : St} (hA : OKL A) {f : Int → Bool} {s : Int} : 0 ≤ mh A f s := (cI_in hA.1).1
theorem p_chance {K : Int → St → Prop} {A σ : St} (hM : MR A σ) (hF : FM σ) (hA : OKA A) {w : Int} (hK : EM A σ (q_chance A w) K) : CI M_Mo_chance [vR 35, vI w] σ K := by
  apply e_Mo_chance
  have hi := hA.2.1
  refine s_isIn (fun w0 w1 => ⟨fun _ => ?_, fun h => by omega⟩) (fun h => ⟨fun h => absurd rfl h, fun _ => (mrd hM hK t0_s (t0_F hF) (by unfold q_chance; (repeat' split) <;> first | (exfalso; omega) | rfl | simp_all))⟩)
  rw [(t0_M hM).2.1.1]
  refine ⟨fun h1 => turned (t0_M hM) t0_s (t0_F hF) hA (by omega) (fun σ1 m s1 m1 f1 b1 t1 t2 t3 t4 => ?_), fun h1 => (mrd hM hK t0_s (t0_F hF) (by unfold q_chance; (repeat' split) <;> first | (exfalso; omega) | rfl | simp_all))⟩
  have hch : CHq (A 0 1) m (σ1 52) (fun s => decide (0 < mh A (erm A) s)) := ch_of hA.1 t4 (fun s _ _ hs => by rw [mh_congr hA.1 hs])
  have hm1 := t3.1
  have hcq := caq_in hA (f := erm A) (k := 0)
  have ecg : cgq A = A 0 1 - caq A (erm A) 0 := rfl
  have hpos := gq_pos (b := cgq A) (show 0 < A 0 1 by omega)
  have e : cI (fun s => decide (0 < mh A (erm A) (s + 1))) (A 0 1) = cgq A := by
    unfold cgq caq
    rw [← cI_not _ hi.1]
    refine cI_congr hi.1 (fun j _ _ => ?_)
    have := mh_in hA.1 (f := erm A) (s := j + 1)
    by_cases hz : mh A (erm A) (j + 1) = 0
    · simp [hz]
    · have : 0 < mh A (erm A) (j + 1) := by omega
      simp [hz, this]
  have key : ∀ c, 0 ≤ c → c ≤ m → WM M_Mo_chance 36 [(0, vR 35), (1, vI w), (2, vI (ssq (A 0 1) m (σ1 52) (fun s => decide (0 < mh A (erm A) s)) c)), (3, vI c)] [] σ1 (QI K) := by
    refine up_ind ?_ (fun c a b ih => ?_)
    · apply l_Mo_chance_1
      rw [t1, ssq_all t3 hch, e, m1.2.1.1]
      refine ⟨fun _ => ⟨fun h => v_common (by omega) hi.1 ?_, fun h => v_common (by omega) hi.1 ?_⟩, fun h => by omega⟩
      · rw [gq_comm]
        exact ⟨hi.1, hpos, mrd hM hK s1 f1 (by unfold q_chance; rw [if_neg (by omega), if_neg h1, if_neg h])⟩
      · rw [gq_comm]
        exact ⟨by omega, hpos, mrd hM hK s1 f1 (by unfold q_chance; rw [if_neg (by omega), if_neg h1, if_pos h])⟩
    · apply l_Mo_chance_1
      rw [t1, Int.add_zero]
      have hr := t3.2.2.1 c a b
      have hn := t3.nx a b
      have hs1 := ssq_in t3 hch a (show c ≤ m by omega)
      have hs2 := ssq_in t3 hch (show 0 ≤ c + 1 by omega) (show c + 1 ≤ m by omega)
      rw [ssq_s a] at ih hs2
      refine ⟨fun h => by omega, fun _ => ⟨a, by omega, v_caughtBy m1 hA (by omega) b1 hr.1 hr.2 ⟨fun hne => ⟨by omega, by omega, ?_⟩, fun he => v_turnLong m1 hA t1 t2 t3 a b ?_⟩⟩⟩
      · rw [if_neg (by simp; omega), Int.add_zero] at ih
        exact ih
      · rw [if_pos (by simp; omega)] at ih hs2
        exact ⟨by omega, by omega, ih⟩
  exact key 0 (by omega) (by omega)
/-- one item counted, two items counted -/
theorem cI_pick {q : Int → Bool} {n i : Int} (h0 : 0 ≤ i) (h1 : i < n) : cI (fun x => decide (x = i) && q x) n = bi (q i) := by
  cases hq : q i with
  | true =>
    refine cI_uniq h0 h1 (fun j a b => ?_)
    by_cases e : j = i
    · subst e; simp [hq]
    · simp [e]
  | false =>
    refine cI_none n (by omega) (fun j a b => ?_)
    by_cases e : j = i
    · subst e; simp [hq]
    · simp [e]
theorem mh_two {A : St} {i j s : Int} (hi0 : 0 ≤ i) (hi1 : i < A 0 0) (hj0 : 0 ≤ j) (hj1 : j < A 0 0) : mh A (fun x => decide (x = i ∨ x = j)) s = if i = j then bi (sk A (A 0 1) s i) else bi (sk A (A 0 1) s i) + bi (sk A (A 0 1) s j) := by
  unfold mh
  by_cases e : i = j
  · subst e
    rw [if_pos rfl, ← cI_pick (q := sk A (A 0 1) s) hi0 hi1]
    exact cI_congr (by omega) (fun x _ _ => by simp)
  · rw [if_neg e, ← cI_pick (q := sk A (A 0 1) s) hi0 hi1, ← cI_pick (q := sk A (A 0 1) s) hj0 hj1]
    unfold cI
    rw [← sI_add (by omega)]
    refine sI_congr (by omega) (fun x _ _ => ?_)
    by_cases h1 : x = i
    · subst h1
      cases hk : sk A (A 0 1) s x <;> simp [bi, e, hk]
    · by_cases h2 : x = j
      · subst h2
        cases hk : sk A (A 0 1) s x <;> simp [bi, h1, hk]
      · simp [bi, h1, h2]
theorem p_both {K : Int → St → Prop} {A σ : St} (hM : MR A σ) (hF : FM σ) (hA : OKA A) {i j : Int} (hK : EM A σ (q_both A i j) K) : CI M_Mo_both [vR 35, vI i, vI j] σ K := by
  apply e_Mo_both
  have hi := hA.2.1
  have h48 := hA.1.2.1
  rw [hM.2.1.1]
  refine s_laysRest (t0_M hM).1 hA.1 (fun σ0 s0 b0 => ?_)
  have z0 : Mm scM scP σ σ0 := t0_s.tr (s0.wk (by decide) (by decide))
  have m0 := (t0_M hM).sm s0 (by decide) (by decide)
  have f0 := (t0_F hF).sm s0 (by decide) (by decide) (by decide) (by decide)
  have bad : (i < 0 ∨ A 0 0 ≤ i ∨ j < 0 ∨ A 0 0 ≤ j ∨ fc A (A 0 1) i = 0 ∨ fc A (A 0 1) j = 0) → K (-2) σ0 := fun h => mrd hM hK z0 f0 (by unfold q_both; rw [if_pos h])
  refine s_isItem m0.1 hA.1 (fun i0 i1 => ⟨fun h => by omega, fun _ => s_isItem m0.1 hA.1 (fun j0 j1 => ⟨fun h => by omega, fun _ => ⟨i0, by omega, ?_⟩⟩) (fun h => ⟨fun _ => bad (by omega), fun h => absurd rfl h⟩)⟩) (fun h => ⟨fun _ => bad (by omega), fun h => absurd rfl h⟩)
  rw [b0.2 i i0 i1, b0.2 j j0 j1, m0.2.1.1]
  refine ⟨fun h => bad (by omega), fun g1 => ⟨j0, by omega, fun g2 => ⟨fun g3 => ?_, fun g3 => mrd hM hK z0 f0 (by unfold q_both; rw [if_neg (by omega), if_pos g3])⟩, fun h => bad (by omega)⟩⟩
  refine turned m0 z0 f0 hA (by omega) (fun σ1 m s1 m1 f1 b1 t1 t2 t3 t4 => ?_)
  have hch : CHq (A 0 1) m (σ1 52) (fun s => sk A (A 0 1) s i && sk A (A 0 1) s j) := ch_of hA.1 t4 (fun s _ _ hs => by rw [hs i i0 i1, hs j j0 j1])
  have hm1 := t3.1
  have e : cI (fun s => sk A (A 0 1) (s + 1) i && sk A (A 0 1) (s + 1) j) (A 0 1) = caq A (fun x => decide (x = i ∨ x = j)) (if i = j then 1 else 2) := by
    unfold caq
    refine cI_congr hi.1 (fun x _ _ => ?_)
    rw [mh_two i0 i1 j0 j1]
    by_cases e : i = j
    · subst e
      cases hk : sk A (A 0 1) (x + 1) i <;> simp [bi]
    · cases hk : sk A (A 0 1) (x + 1) i <;> cases hl : sk A (A 0 1) (x + 1) j <;> simp [bi, e]
  have key : ∀ c, 0 ≤ c → c ≤ m → WM M_Mo_both 69 [(0, vR 35), (1, vI i), (2, vI j), (3, vI (ssq (A 0 1) m (σ1 52) (fun s => sk A (A 0 1) s i && sk A (A 0 1) s j) c)), (4, vI c)] [] σ1 (QI K) := by
    refine up_ind ?_ (fun c a b ih => ?_)
    · apply l_Mo_both_1
      rw [t1, ssq_all t3 hch, e]
      exact ⟨fun _ => mrd hM hK s1 f1 (by unfold q_both; rw [if_neg (by omega), if_neg g3]), fun h => by omega⟩
    · apply l_Mo_both_1
      rw [t1, Int.add_zero]
      have hr := t3.2.2.1 c a b
      have hn := t3.nx a b
      have hs1 := ssq_in t3 hch a (show c ≤ m by omega)
      have hs2 := ssq_in t3 hch (show 0 ≤ c + 1 by omega) (show c + 1 ≤ m by omega)
      rw [ssq_s a] at ih hs2
      have hct : ∀ (x : Int) (K : Int → St → Prop), 0 ≤ x → x < A 0 0 → K (bi (sk A (A 0 1) (σ1 52 c) x)) σ1 → CI M_Mo_catches [vR 35, vI (σ1 52 c), vI x] σ1 K := fun x K x0 x1 hk => v_catches m1.1 hA.1 m1.2.1.1 (by omega) (by omega) b1.2 hr.1 hr.2 x0 x1 hk
      refine ⟨fun h => by omega, fun _ => ⟨a, by omega, hct i _ i0 i1 ?_⟩⟩
      cases hk : sk A (A 0 1) (σ1 52 c) i with
      | false =>
        rw [if_neg (by simp [hk]), Int.add_zero] at ih
        exact ⟨fun _ => ⟨by omega, by omega, ih⟩, fun h => absurd rfl h⟩
      | true =>
        refine ⟨fun h => by simp [bi] at h, fun _ => hct j _ j0 j1 ?_⟩
        cases hl : sk A (A 0 1) (σ1 52 c) j with
        | false =>
          rw [if_neg (by simp [hl]), Int.add_zero] at ih
          exact ⟨fun _ => ⟨by omega, by omega, ih⟩, fun h => absurd rfl h⟩
        | true =>
          rw [if_pos (by simp [hk, hl])] at ih hs2
          exact ⟨fun h => by simp [bi] at h, fun _ => v_turnLong m1 hA t1 t2 t3 a b ⟨by omega, by omega, ih⟩⟩
  exact key 0 (by omega) (by omega)
theorem p_were {K : Int → St → Prop} {A σ : St} (hM : MR A σ) (hF : FM σ) (hA : OKA A) {v s w : Int} (hK : EM A σ (q_were A v s w) K) : CI M_Mo_were [vR 35, vI v, vI s, vI w] σ K := by
  apply e_Mo_were
  have h48 := hA.1.2.1
  refine s_isIn (fun w0 w1 => ⟨fun _ => s_isIn (fun v0 v1 => ⟨fun h => by omega, fun _ => s_isIn (fun g0 g1 => ⟨fun _ => hits hM hF hA (fun σ1 s1 m1 f1 t1 => ?_), fun h => by omega⟩) (fun h => ⟨fun h => absurd rfl h, fun _ => (mrd hM hK t0_s (t0_F hF) (by unfold q_were; (repeat' split) <;> first | (exfalso; omega) | rfl | simp_all))⟩)⟩) (fun h => ⟨fun _ => (mrd hM hK t0_s (t0_F hF) (by unfold q_were; (repeat' split) <;> first | (exfalso; omega) | rfl | simp_all)), fun h => absurd rfl h⟩), fun h => by omega⟩) (fun h => ⟨fun h => absurd rfl h, fun _ => (mrd hM hK t0_s (t0_F hF) (by unfold q_were; (repeat' split) <;> first | (exfalso; omega) | rfl | simp_all))⟩)
  have eq : q_were A v s w = if w = 0 then cI (ce A v) (A 0 0) else if w = 1 then Mq A v else if w = 2 then nh A v s else cI (kpp A v s) (A 0 0) := by
    unfold q_were
    rw [if_neg (by omega), if_neg (by omega)]
  rw [m1.2.1.1]
  have fill : ∀ i, 0 ≤ i → i ≤ A 0 0 → ∀ τ, Mm [53] [] σ1 τ → (∀ j, 0 ≤ j → j < i → τ 53 j = bi (lk A (A 0 2) j)) → WM M_Mo_were 62 [(0, vR 35), (1, vI v), (2, vI s), (3, vI w), (4, vI (A 0 1)), (5, vI 0), (6, vI i)] [] τ (QI K) := by
    refine up_ind (fun τ z hz => ?_) (fun i a b ih τ z hz => ?_)
    · apply l_Mo_were_1
      have m2 := m1.sm z (by decide) (by decide)
      rw [m2.1.1]
      refine ⟨fun _ => ?_, fun h => by omega⟩
      have lm : LM A (ups τ 35 9 v) := m2.1
      refine s_laysRest lm hA.1 (fun σ2 s2 b2 => ?_)
      -- what stands while another interval does
      have L2 : LM A σ2 := lm.sm s2 (by decide) (by decide) (by decide)
      have e9 : σ2 35 9 = v := by rw [s2 35 9 (by decide) (by decide), ups_s]
      have e53 : ∀ j, 0 ≤ j → j < A 0 0 → σ2 53 j = bi (lk A (A 0 2) j) := fun j p q => by
        rw [s2 53 j (by decide) (by simp), ups_c (by decide)]
        exact hz j p q
      have m3 : MR A (ups σ2 35 9 (A 0 1)) := by
        have hmid : MR (ups A 0 1 v) (ups τ 35 9 v) := m2.iv
        have hm := hmid.sm s2 (by decide) (by decide)
        exact ⟨hm.1, ⟨rfl, hm.2.1.2⟩, hm.2.2⟩
      have f2 : FM σ2 := by
        have ff : FM (ups τ 35 9 v) := fun k a b => f1.sm z (by decide) (by decide) (by decide) (by decide) k a b
        exact ff.sm s2 (by decide) (by decide) (by decide) (by decide)
      have u3 : UM σ (ups σ2 35 9 (A 0 1)) := ((((s1.um (by decide)).tr (z.um (by decide))).up (by decide)).tr (s2.um (by decide))).up (by decide)
      have out : ∀ x, q_were A v s w = x → K x (ups σ2 35 9 (A 0 1)) := fun x e => by
        have := hK _ m3 (fun k a b => f2 k a b) u3
        rw [e] at this
        exact this
      have cnt : ∀ i, 0 ≤ i → i ≤ A 0 0 → ∀ x, x = (if w = 0 then cI (ce A v) i else if w = 1 then 0 else if w = 2 then cI (sk A v s) i else cI (kpp A v s) i) → WM M_Mo_were 103 [(0, vR 35), (2, vI s), (3, vI w), (4, vI (A 0 1)), (5, vI x), (6, vI i)] [] σ2 (QI K) := by
        refine up_ind (fun x hx => ?_) (fun i a b ih x hx => ?_)
        · apply l_Mo_were_2
          rw [L2.1, b2.1]
          refine ⟨fun _ => ⟨fun hw => out _ ?_, fun hw => out _ ?_⟩, fun h => by omega⟩
          · rw [eq, hx]
            by_cases e0 : w = 0
            · rw [if_pos e0, if_pos e0]
            · rw [if_neg e0, if_neg e0, if_neg hw, if_neg hw]
              by_cases e2 : w = 2
              · rw [if_pos e2, if_pos e2, nh_cnt hA.1 (by omega) g0 g1]
              · rw [if_neg e2, if_neg e2]
          · rw [eq, if_neg (by omega), if_pos hw]
        · apply l_Mo_were_2
          rw [L2.1, Int.add_zero]
          have c0 := cI_in (p := ce A v) a
          have c1 := cI_in (p := sk A v s) a
          have c2 := cI_in (p := kpp A v s) a
          have hx2 : 0 ≤ x ∧ x ≤ i := by
            rw [hx]
            (repeat' split) <;> omega
          have nx : ∀ y, y = (if w = 0 then cI (ce A v) (i + 1) else if w = 1 then 0 else if w = 2 then cI (sk A v s) (i + 1) else cI (kpp A v s) (i + 1)) → WM M_Mo_were 103 [(0, vR 35), (2, vI s), (3, vI w), (4, vI (A 0 1)), (5, vI y), (6, vI (i + 1))] [] σ2 (QI K) := fun y hy => ih y hy
          -- the last test
          have last : ∀ y, (w = 3 → y = x) → (w ≠ 3 → y = (if w = 0 then cI (ce A v) (i + 1) else if w = 1 then 0 else if w = 2 then cI (sk A v s) (i + 1) else cI (kpp A v s) (i + 1))) → WM M_Mo_were 186 [(0, vR 35), (2, vI s), (3, vI w), (4, vI (A 0 1)), (5, vI y), (6, vI i), (7, vI (bi (ce A v i || sk A v s i)))] [] σ2 (QI K) := by
            intro y h3 hn3
            apply l_Mo_were_4
            rw [Int.add_zero, e53 i a b]
            refine ⟨fun hw => ⟨by omega, nx y (hn3 hw)⟩, fun hw => ⟨a, by omega, ?_⟩⟩
            have hy := h3 hw
            have hx3 : x = cI (kpp A v s) i := by rw [hx, if_neg (by omega), if_neg (by omega), if_neg (by omega)]
            have nx3 : ∀ z, z = cI (kpp A v s) (i + 1) → WM M_Mo_were 103 [(0, vR 35), (2, vI s), (3, vI w), (4, vI (A 0 1)), (5, vI z), (6, vI (i + 1))] [] σ2 (QI K) := fun z hz => nx z (by rw [if_neg (by omega), if_neg (by omega), if_neg (by omega)]; exact hz)
            cases hl : lk A (A 0 2) i with
            | false => exact ⟨fun _ => ⟨by omega, by omega, nx3 y (by rw [cI_f a (by unfold kpp; simp [hl]), hy, hx3])⟩, fun h => absurd rfl h⟩
            | true =>
              refine ⟨fun h => by simp [bi] at h, fun _ => ?_⟩
              cases ho : (ce A v i || sk A v s i) with
              | false => exact ⟨fun _ => ⟨by omega, by omega, nx3 y (by rw [cI_f a (by unfold kpp; rw [ho]; simp), hy, hx3])⟩, fun h => absurd rfl h⟩
              | true => exact ⟨fun h => by simp [bi] at h, fun _ => ⟨by omega, by omega, nx3 _ (by rw [cI_t a (by unfold kpp; rw [ho, hl]; rfl), hy, hx3])⟩⟩
          have third : ∀ y, (w ≠ 0 → y = x) → (w = 0 → y = cI (ce A v) (i + 1)) → WM M_Mo_were 161 [(0, vR 35), (2, vI s), (3, vI w), (4, vI (A 0 1)), (5, vI y), (6, vI i), (7, vI (bi (ce A v i || sk A v s i)))] [] σ2 (QI K) := by
            intro y hn0 h0
            apply l_Mo_were_3
            rw [Int.add_zero]
            refine ⟨fun hw => last y (fun h => hn0 (by omega)) (fun h => ?_), fun hw => v_catches L2 hA.1 e9 (by omega) v1 b2.2 g0 g1 a b ?_⟩
            · by_cases e0 : w = 0
              · rw [if_pos e0]; exact h0 e0
              · rw [if_neg e0, if_pos (by omega), hn0 e0, hx, if_neg e0, if_pos (by omega)]
            · have hy := hn0 (by omega)
              have hx3 : x = cI (sk A v s) i := by rw [hx, if_neg (by omega), if_neg (by omega), if_pos hw]
              have nx2 : ∀ z, z = cI (sk A v s) (i + 1) → WM M_Mo_were 186 [(0, vR 35), (2, vI s), (3, vI w), (4, vI (A 0 1)), (5, vI z), (6, vI i), (7, vI (bi (ce A v i || sk A v s i)))] [] σ2 (QI K) := fun z hz => last z (fun h => by omega) (fun _ => by rw [if_neg (by omega), if_neg (by omega), if_pos hw]; exact hz)
              have hyr : 0 ≤ y ∧ y ≤ i := by rw [hy]; exact hx2
              cases hk : sk A v s i with
              | false => rw [hk] at nx2; exact ⟨fun _ => ⟨by omega, nx2 y (by rw [cI_f a hk, hy, hx3])⟩, fun h => absurd rfl h⟩
              | true => rw [hk] at nx2; exact ⟨fun h => by simp [bi] at h, fun _ => ⟨by omega, nx2 _ (by rw [cI_t a hk, hy, hx3])⟩⟩
          -- whether certain, counted
          have first : ∀ b7, b7 = bi (ce A v i || sk A v s i) → (¬ w = 0 → WM M_Mo_were 161 [(0, vR 35), (2, vI s), (3, vI w), (4, vI (A 0 1)), (5, vI x), (6, vI i), (7, vI b7)] [] σ2 (QI K)) ∧ (w = 0 → CI M_Mo_isCertain [vR 35, vI i] σ2 (fun v28 σ27 => (v28 = 0 → (inR x) ∧ WM M_Mo_were 161 [(0, vR 35), (2, vI s), (3, vI w), (4, vI (A 0 1)), (5, vI x), (6, vI i), (7, vI b7)] [] σ27 (QI K)) ∧ (¬ v28 = 0 → (inR (x + 1)) ∧ WM M_Mo_were 161 [(0, vR 35), (2, vI s), (3, vI w), (4, vI (A 0 1)), (5, vI (x + 1)), (6, vI i), (7, vI b7)] [] σ27 (QI K)))) := by
            intro b7 hb7
            subst hb7
            refine ⟨fun hw => third x (fun _ => rfl) (fun h => absurd h hw), fun hw => m_isCertain L2 hA.1 e9 a b ?_⟩
            have hx3 : x = cI (ce A v) i := by rw [hx, if_pos hw]
            cases hc : ce A v i with
            | false =>
              rw [hc] at third
              exact ⟨fun _ => ⟨by omega, third x (fun h => absurd hw h) (fun _ => by rw [cI_f a hc, hx3])⟩, fun h => absurd rfl h⟩
            | true =>
              rw [hc] at third
              exact ⟨fun h => by simp [bi] at h, fun _ => ⟨by omega, third _ (fun h => absurd hw h) (fun _ => by rw [cI_t a hc, hx3])⟩⟩
          refine ⟨fun h => by omega, fun _ => m_isCertain L2 hA.1 e9 a b ?_⟩
          cases hc : ce A v i with
          | true => exact ⟨fun _ => first 1 (by rw [hc]; rfl), fun h => by simp [bi] at h⟩
          | false =>
            refine ⟨fun h => absurd rfl h, fun _ => v_catches L2 hA.1 e9 (by omega) v1 b2.2 g0 g1 a b ?_⟩
            cases hk : sk A v s i with
            | false => exact ⟨fun _ => first 0 (by rw [hc, hk]; rfl), fun h => absurd rfl h⟩
            | true => exact ⟨fun h => by simp [bi] at h, fun _ => first 1 (by rw [hc, hk]; rfl)⟩
      exact cnt 0 (by omega) hA.1.1 0 (by (repeat' split) <;> rfl)
    · apply l_Mo_were_1
      have m2 := m1.sm z (by decide) (by decide)
      rw [m2.1.1]
      refine ⟨fun h => by omega, fun _ => v_isDrawn m2 hA (fun j p q => by rw [z 48 j (by decide) (by simp)]; exact t1.2.2.2 j p q) a b ⟨a, by omega, bi_01 _, by omega, ih _ (z.up (by decide)) (fun j p q => ?_)⟩⟩
      by_cases hj : j = i
      · subst hj; rw [ups_s]
      · rw [ups_f hj]; exact hz j p (by omega)
  exact fill 0 (by omega) hA.1.1 σ1 Mm.rf (fun j a b => by omega)
theorem p_count {K : Int → St → Prop} {A σ : St} (hM : MR A σ) (hF : FM σ) (hA : OKA A) {w : Int} (hK : EM A σ (q_count A w) K) : CI M_Mo_count [vR 35, vI w] σ K := by
  apply e_Mo_count
  refine hits hM hF hA (fun σ1 s1 m1 f1 t1 => ?_)
  have go : ∀ v, q_count A w = v → K v σ1 := fun v e => mrd hM hK s1 f1 e
  have e5 : hmq A = hb A (A 0 2) := rfl
  refine s_isIn (fun h0 h1 => ⟨fun h => by omega, fun _ => ?_⟩) (fun h => ⟨fun _ => ?_, fun h => absurd rfl h⟩)
  · rw [m1.2.2.2.1 (w - 10) (by omega) (by omega)]
    exact ⟨by omega, by omega, by omega, go _ (by unfold q_count; (repeat' split) <;> first | (exfalso; omega) | rfl | simp_all)⟩
  · rw [m1.1.1, t1.1.1, m1.2.1.1, m1.2.1.2.1, t1.2.1, m1.2.2.2.2.2.1.1, m1.2.2.1]
    have q6 : w = 6 → q_count A w = cI (if w = 6 then hitp A else audp A) (A 0 0) := fun h => by subst h; rfl
    have q8 : w = 8 → q_count A w = cI (if w = 6 then hitp A else audp A) (A 0 0) := fun h => by subst h; rfl
    exact ⟨fun h => go _ (by unfold q_count; (repeat' split) <;> first | (exfalso; omega) | rfl | simp_all), fun h => m_allCoins m1.1 hA.1 (go _ (by unfold q_count; (repeat' split) <;> first | (exfalso; omega) | rfl | simp_all)), fun h => go _ (by unfold q_count; (repeat' split) <;> first | (exfalso; omega) | rfl | simp_all), fun h => go _ (by unfold q_count; (repeat' split) <;> first | (exfalso; omega) | rfl | simp_all), fun h => go _ (by unfold q_count; (repeat' split) <;> first | (exfalso; omega) | rfl | simp_all), fun h => go _ (by subst h; rfl), fun h => v_manyOf m1 hA t1 (Or.inl h) (go _ (q6 h)), fun h => go _ (by unfold q_count; (repeat' split) <;> first | (exfalso; omega) | rfl | simp_all), fun h => v_manyOf m1 hA t1 (Or.inr h) (go _ (q8 h)), fun h => go _ (by unfold q_count; (repeat' split) <;> first | (exfalso; omega) | rfl | simp_all), fun h => go _ (by unfold q_count; (repeat' split) <;> first | (exfalso; omega) | rfl | simp_all)⟩
