-- the model's methods that change nothing
/-- as many coins as items are hit by a start -/
theorem nh_cnt {A : St} (hA : OKL A) {v s : Int} (hv : 0 < v) (hs0 : 1 ≤ s) (hs1 : s ≤ v) : nh A v s = cI (sk A v s) (A 0 0) := by
  have e : ∀ m, 0 ≤ m → (if v = 0 ∨ m < s then 0 else (m - s) / v + 1) = (m - s + v) / v := fun m hm => by
    split
    · rw [Int.ediv_eq_zero_of_lt (by omega) (by omega)]
    · rw [Int.add_ediv_of_dvd_right (Int.dvd_refl v), Int.ediv_self (by omega)]
  have key : ∀ i, 0 ≤ i → i ≤ A 0 0 → (prq A v i - s + v) / v = cI (sk A v s) i := by
    refine nn_ind (fun _ => ?_) (fun i hi ih h1 => ?_)
    · rw [cI_0, show prq A v 0 = 0 from rfl, Int.ediv_eq_zero_of_lt (by omega) (by omega)]
    · have hr := rc_in hA (v := v) hi (by omega)
      have hr2 := rc_lt (A := A) (i := i) hv
      have hf := fc_in hA (v := v) hi (by omega)
      have hp := prq_in hA (v := v) hi (by omega)
      have ih := ih (by omega)
      rw [prq_s hi]
      -- y = q v + t
      have d1 := Int.emod_add_mul_ediv (prq A v i - s + v) v
      have d2 := Int.emod_nonneg (prq A v i - s + v) (show v ≠ 0 by omega)
      have d3 := Int.emod_lt_of_pos (prq A v i - s + v) hv
      generalize ht : (prq A v i - s + v) % v = t at d1 d2 d3
      rw [ih] at d1
      have em : 0 < rc A v i → (s - fc A v i) % v = v - 1 - t := fun hz => by
        rw [show s - fc A v i = (v - 1 - t) + v * (-(cI (sk A v s) i)) by rw [Int.mul_neg]; omega, Int.add_mul_emod_self_left]
        exact Int.emod_eq_of_lt (by omega) (by omega)
      by_cases hh : v ≤ t + rc A v i
      · have hk : sk A v s i = true := by
          unfold sk
          simp only [decide_eq_true_eq]
          refine ⟨hv, by omega, ?_⟩
          rw [em (by omega)]; omega
        rw [cI_t hi hk, show prq A v i + rc A v i - s + v = (t + rc A v i - v) + v * (cI (sk A v s) i + 1) by rw [Int.mul_add]; omega, Int.add_mul_ediv_left _ _ (by omega), Int.ediv_eq_zero_of_lt (by omega) (by omega)]
        omega
      · have hk : sk A v s i = false := by
          unfold sk
          simp only [decide_eq_false_iff_not]
          intro q
          rw [em q.2.1] at q
          omega
        rw [cI_f hi hk, show prq A v i + rc A v i - s + v = (t + rc A v i) + v * (cI (sk A v s) i) by omega, Int.add_mul_ediv_left _ _ (by omega), Int.ediv_eq_zero_of_lt (by omega) (by omega)]
        omega
  have hM := Mq_in hA (v := v)
  unfold nh
  rw [e _ hM.1]
  exact key (A 0 0) hA.1 (Int.le_refl _)
theorem HT.sc {A σ : St} (h : HT A σ) {S : List Nat} {P : List Int} {σ' : St} (hs : Mm S P σ σ') (hS : ∀ x ∈ S, 49 ≤ x) (hP : ∀ x ∈ P, x ≠ 20 ∧ x ≠ 25) : HT A σ' := h.sm hs (fun q => (hP 20 q).1 rfl) (fun q => (hP 25 q).2 rfl) (fun q => by have := hS 35 q; omega) (fun q => by have := hS 44 q; omega) (fun q => by have := hS 45 q; omega) (fun q => by have := hS 46 q; omega) (fun q => by have := hS 47 q; omega) (fun q => by have := hS 48 q; omega)
theorem p_find {K : Int → St → Prop} {A σ : St} (hM : MR A σ) (hF : FM σ) (hA : OKA A) {a v : Int} (hK : EM A σ (plcq A a v) K) : CI M_Mo_find [vR 35, vI a, vI v] σ K := by
  apply e_Mo_find
  rw [hM.1.1]
  exact v_placeIn (t0_M hM).1 hA.1 (mrd hM hK t0_s (t0_F hF) rfl)
/-- hits are laid: what is known there -/
theorem hits {K : St → Prop} {A σ : St} (hM : MR A σ) (hF : FM σ) (hA : OKA A) (hK : ∀ σ', Mm scM scP σ σ' → MR A σ' → FM σ' → HT A σ' → K σ') : CV M_Mo_laysHits [vR 35] (ups σ 35 0 0) K := by
  refine s_laysHits (t0_M hM) hA (fun σ1 s1 h1 => hK σ1 (t0_s.tr (s1.wk (by decide) (by decide))) ((t0_M hM).sm s1 (by decide) (by decide)) ((t0_F hF).sm s1 (by decide) (by decide) (by decide) (by decide)) h1)
theorem p_item {K : Int → St → Prop} {A σ : St} (hM : MR A σ) (hF : FM σ) (hA : OKA A) {i w : Int} (hK : EM A σ (q_item A i w) K) : CI M_Mo_item [vR 35, vI i, vI w] σ K := by
  apply e_Mo_item
  have h48 := hA.1.2.1
  have hM0 := t0_M hM
  refine s_isItem hM0.1 hA.1 (fun h0 h1 => ⟨fun h => by omega, fun _ => s_isIn (fun w0 w1 => ⟨fun _ => hits hM hF hA (fun σ1 s1 m1 f1 t1 => ?_), fun h => by omega⟩) (fun h => ⟨fun h => absurd rfl h, fun _ => (mrd hM hK t0_s (t0_F hF) (by unfold q_item; (repeat' split) <;> first | (exfalso; omega) | rfl | simp_all))⟩)⟩) (fun h => ⟨fun _ => (mrd hM hK t0_s (t0_F hF) (by unfold q_item; (repeat' split) <;> first | (exfalso; omega) | rfl | simp_all)), fun h => absurd rfl h⟩)
  have go : ∀ v, q_item A i w = v → K v σ1 := fun v e => mrd hM hK s1 f1 e
  obtain ⟨g1, g2, g3, g4⟩ := m1.1.2 i h0 h1
  rw [t1.2.2.2 i h0 h1, t1.1.2 i h0 h1]
  refine ⟨fun h => m_errorOf m1.1 hA.1 h0 h1 (go _ (by unfold q_item; (repeat' split) <;> first | (exfalso; omega) | rfl | simp_all)), fun h => m_taintOf m1.1 hA.1 h0 h1 (go _ (by unfold q_item; (repeat' split) <;> first | (exfalso; omega) | rfl | simp_all)), fun h => m_isCertain m1.1 hA.1 m1.2.1.1 h0 h1 ?_, fun h => ⟨h0, by omega, go _ (by unfold q_item; (repeat' split) <;> first | (exfalso; omega) | rfl | simp_all)⟩, fun h => ⟨h0, by omega, go _ (by unfold q_item; (repeat' split) <;> first | (exfalso; omega) | rfl | simp_all)⟩, fun h => ⟨by omega, by omega, by omega, by omega, ?_⟩⟩
  · have e : q_item A i w = bi (ce A (A 0 1) i) := (by unfold q_item; (repeat' split) <;> first | (exfalso; omega) | rfl | simp_all)
    cases hc : ce A (A 0 1) i with
    | true => rw [hc] at e; exact ⟨fun h => by simp [bi] at h, fun _ => go _ e⟩
    | false => rw [hc] at e; exact ⟨fun _ => go _ e, fun h => absurd rfl h⟩
  · have hw : w = 0 ∨ w = 1 ∨ w = 2 ∨ w = 3 := by omega
    rcases hw with e | e | e | e <;> subst e
    · rw [g1]; exact go _ (by unfold q_item; (repeat' split) <;> first | (exfalso; omega) | rfl | simp_all)
    · rw [g2]; exact go _ (by unfold q_item; (repeat' split) <;> first | (exfalso; omega) | rfl | simp_all)
    · rw [g3]; exact go _ (by unfold q_item; (repeat' split) <;> first | (exfalso; omega) | rfl | simp_all)
    · rw [g4]; exact go _ (by unfold q_item; (repeat' split) <;> first | (exfalso; omega) | rfl | simp_all)
theorem p_coin {K : Int → St → Prop} {A σ : St} (hM : MR A σ) (hF : FM σ) (hA : OKA A) {c w : Int} (hK : EM A σ (q_coin A c w) K) : CI M_Mo_coin [vR 35, vI c, vI w] σ K := by
  apply e_Mo_coin
  have hi := hA.2.1
  have hMq := Mq_in hA.1 (v := A 0 1)
  rw [hM.2.1.1]
  refine s_laysRest (t0_M hM).1 hA.1 (fun σ1 s1 b1 => ?_)
  have t1 : Mm scM scP σ σ1 := t0_s.tr (s1.wk (by decide) (by decide))
  have M1 := hM.sm t1 (fun x hx => Or.inl hx) (fun x hx => hx)
  have f1 := (t0_F hF).sm s1 (by decide) (by decide) (by decide) (by decide)
  have go : ∀ v, q_coin A c w = v → K v σ1 := fun v e => mrd hM hK t1 f1 e
  rw [b1.1]
  refine s_isIn (fun h0 h1 => ⟨fun h => by omega, fun _ => s_isIn (fun w0 w1 => ⟨fun _ => ?_, fun h => by omega⟩) (fun h => ⟨fun h => absurd rfl h, fun _ => go _ (by unfold q_coin; (repeat' split) <;> first | (exfalso; omega) | rfl | simp_all)⟩)⟩) (fun h => ⟨fun _ => go _ (by unfold q_coin; (repeat' split) <;> first | (exfalso; omega) | rfl | simp_all), fun h => absurd rfl h⟩)
  rw [M1.2.1.1]
  refine ⟨fun hv => ⟨fun hw => ?_, fun hw => ⟨fun hw1 => ⟨by omega, by omega, by omega, go _ (by unfold q_coin; (repeat' split) <;> first | (exfalso; omega) | rfl | simp_all)⟩, fun hw0 => m_ownerOf M1.1 hA.1 b1 h0 h1 (go _ (by unfold q_coin; (repeat' split) <;> first | (exfalso; omega) | rfl | simp_all))⟩⟩, fun hv => go _ (by unfold q_coin; (repeat' split) <;> first | (exfalso; omega) | rfl | simp_all)⟩
  have e : q_coin A c w = cI (fun r => decide ((c - 1) % A 0 1 + 1 = A 5 r)) (A 0 2) := by unfold q_coin; rw [if_neg (by omega), if_neg hv, if_neg (by omega), if_neg (by omega)]
  have m0 := Int.emod_nonneg (c - 1) (show A 0 1 ≠ 0 by omega)
  have m1 := Int.emod_lt_of_pos (c - 1) (show 0 < A 0 1 by omega)
  have h5 := hA.2.2.1.2.1
  have key : ∀ r, 0 ≤ r → r ≤ A 0 2 → WM M_Mo_coin 83 [(0, vR 35), (1, vI c), (3, vI (cI (fun r => decide ((c - 1) % A 0 1 + 1 = A 5 r)) r)), (4, vI r)] [] σ1 (QI K) := by
    refine up_ind ?_ (fun r a b ih => ?_)
    · apply l_Mo_coin_1
      rw [M1.2.1.2.1]
      exact ⟨fun _ => go _ e, fun h => by omega⟩
    · apply l_Mo_coin_1
      rw [M1.2.1.2.1, M1.2.1.1, M1.2.1.2.2 r a b, Int.add_zero]
      have hc := cI_in (p := fun r => decide ((c - 1) % A 0 1 + 1 = A 5 r)) a
      refine ⟨fun h => by omega, fun _ => ⟨by omega, by omega, by omega, by omega, a, by omega, fun h => ⟨by omega, by omega, ?_⟩, fun h => ⟨by omega, by omega, ?_⟩⟩⟩
      · rw [cI_f a (by simpa using h)] at ih; exact ih
      · rw [cI_t a (by simpa using h)] at ih; exact ih
  exact key 0 (by omega) hA.2.2.1.1
theorem p_hit {K : Int → St → Prop} {A σ : St} (hM : MR A σ) (hF : FM σ) (hA : OKA A) {k w : Int} (hK : EM A σ (q_hit A k w) K) : CI M_Mo_hit [vR 35, vI k, vI w] σ K := by
  apply e_Mo_hit
  have hh := hb_in hA hA.2.2.1.1 (Int.le_refl _)
  have h5 := hA.2.2.1.2.1
  have eh : hmq A = hb A (A 0 2) := rfl
  refine hits hM hF hA (fun σ1 s1 m1 f1 t1 => ?_)
  have go : ∀ v, q_hit A k w = v → K v σ1 := fun v e => mrd hM hK s1 f1 e
  rw [t1.2.1]
  refine ⟨by omega, s_isIn (fun h0 h1 => ⟨fun _ => ?_, fun h => by omega⟩) (fun h => ⟨fun h => absurd rfl h, fun _ => go _ (by unfold q_hit; (repeat' split) <;> first | (exfalso; omega) | rfl | simp_all)⟩)⟩
  have hw := t1.2.2.1 k h0 (by omega)
  have hi := hI_in hA h0 (show k < hb A (A 0 2) by omega)
  have ht := ta_in hA.1 hi.1 hi.2.1
  rw [hw.1, hw.2.1, hw.2.2]
  exact ⟨fun h => ⟨h0, by omega, go _ (by unfold q_hit; (repeat' split) <;> first | (exfalso; omega) | rfl | simp_all)⟩, fun h => ⟨h0, by omega, go _ (by unfold q_hit; (repeat' split) <;> first | (exfalso; omega) | rfl | simp_all)⟩, fun h => ⟨h0, by omega, go _ (by unfold q_hit; (repeat' split) <;> first | (exfalso; omega) | rfl | simp_all)⟩, fun h => ⟨h0, by omega, m_taintOf m1.1 hA.1 hi.1 hi.2.1 ⟨by omega, go _ (by unfold q_hit; (repeat' split) <;> first | (exfalso; omega) | rfl | simp_all)⟩⟩, fun h => go _ (by unfold q_hit; (repeat' split) <;> first | (exfalso; omega) | rfl | simp_all)⟩
theorem p_start {K : Int → St → Prop} {A σ : St} (hM : MR A σ) (hF : FM σ) (hA : OKA A) {k : Int} (hK : EM A σ (q_start A k) K) : CI M_Mo_start [vR 35, vI k] σ K := by
  apply e_Mo_start
  have h5 := hA.2.2.1
  rw [hM.2.1.2.1]
  refine ⟨by omega, s_isIn (fun h0 h1 => ⟨fun h => by omega, fun _ => ⟨h0, by omega, ?_⟩⟩) (fun h => ⟨fun _ => (mrd hM hK t0_s (t0_F hF) (by unfold q_start; (repeat' split) <;> first | (exfalso; omega) | rfl | simp_all)), fun h => absurd rfl h⟩)⟩
  rw [(t0_M hM).2.1.2.2 k h0 (by omega)]
  exact (mrd hM hK t0_s (t0_F hF) (by unfold q_start; (repeat' split) <;> first | (exfalso; omega) | rfl | simp_all))
theorem amg {K : Int → St → Prop} {A σ : St} (hM : MR A σ) (hF : FM σ) (hA : OKA A) {w k : Int} (hw : w = 0 ∨ w = 1 ∨ w = 2) (hK : ∀ σ', Mm scM scP σ σ' → MR A σ' → FM σ' → (-1 ≤ k → HT A σ') → K (q_list A w k) σ') : CI M_Mo_among [vR 35, vI k, vI w] (ups σ 35 0 0) K :=
  v_among (t0_M hM) hA hw (fun σ1 s1 h1 => hK σ1 (t0_s.tr (s1.wk (by decide) (by decide))) ((t0_M hM).sm s1 (by decide) (by decide)) ((t0_F hF).sm s1 (by decide) (by decide) (by decide) (by decide)) h1)
theorem p_certain {K : Int → St → Prop} {A σ : St} (hM : MR A σ) (hF : FM σ) (hA : OKA A) {k : Int} (hK : EM A σ (q_list A 0 k) K) : CI M_Mo_certain [vR 35, vI k] σ K := by
  apply e_Mo_certain
  exact amg hM hF hA (by omega) (fun σ1 s1 m1 f1 _ => mrd hM hK s1 f1 rfl)
theorem p_lacking {K : Int → St → Prop} {A σ : St} (hM : MR A σ) (hF : FM σ) (hA : OKA A) {k : Int} (hK : EM A σ (q_list A 1 k) K) : CI M_Mo_lacking [vR 35, vI k] σ K := by
  apply e_Mo_lacking
  exact amg hM hF hA (by omega) (fun σ1 s1 m1 f1 _ => mrd hM hK s1 f1 rfl)
theorem p_drawn {K : Int → St → Prop} {A σ : St} (hM : MR A σ) (hF : FM σ) (hA : OKA A) {k : Int} (hK : EM A σ (q_list A 2 k) K) : CI M_Mo_drawn [vR 35, vI k] σ K := by
  apply e_Mo_drawn
  exact amg hM hF hA (by omega) (fun σ1 s1 m1 f1 _ => mrd hM hK s1 f1 rfl)
theorem p_account {K : Int → St → Prop} {A σ : St} (hM : MR A σ) (hF : FM σ) (hA : OKA A) {a w : Int} (hK : EM A σ (q_account A a w) K) : CI M_Mo_account [vR 35, vI a, vI w] σ K := by
  apply e_Mo_account
  have h48 := hA.1.2.1
  have hR := hA.2.2.1
  refine s_isIn (fun a0 a1 => ⟨fun h => by omega, fun _ => s_isIn (fun w0 w1 => ⟨fun _ => hits hM hF hA (fun σ1 s1 m1 f1 t1 => ?_), fun h => by omega⟩) (fun h => ⟨fun h => absurd rfl h, fun _ => (mrd hM hK t0_s (t0_F hF) (by unfold q_account; (repeat' split) <;> first | (exfalso; omega) | rfl | simp_all))⟩)⟩) (fun h => ⟨fun _ => (mrd hM hK t0_s (t0_F hF) (by unfold q_account; (repeat' split) <;> first | (exfalso; omega) | rfl | simp_all)), fun h => absurd rfl h⟩)
  have e : q_account A a w = sI (fun i => if A 1 i = a then shq A w i else 0) (A 0 0) := by unfold q_account; rw [if_neg (by omega)]
  have key : ∀ i, 0 ≤ i → i ≤ A 0 0 → WM M_Mo_account 41 [(0, vR 35), (1, vI a), (2, vI w), (3, vI (sI (fun i => if A 1 i = a then shq A w i else 0) i)), (4, vI i)] [] σ1 (QI K) := by
    refine up_ind ?_ (fun i h0 h1 ih => ?_)
    · apply l_Mo_account_1
      rw [m1.1.1]
      exact ⟨fun _ => mrd hM hK s1 f1 e, fun h => by omega⟩
    · apply l_Mo_account_1
      obtain ⟨g1, g2, g3, g4⟩ := m1.1.2 i h0 h1
      rw [m1.1.1, g1, t1.2.2.2 i h0 h1]
      have hs := shq_in hA (w := w) h0 h1
      have hq := acs_in hA (a := a) (w := w) h0 (show i ≤ A 0 0 by omega)
      have hth := th_in hA (i := i) hR.1 (Int.le_refl _)
      have hpt := pjth_in hA h0 h1
      rw [sI_s h0] at ih
      generalize sI (fun i => if A 1 i = a then shq A w i else 0) i = S at ih hq ⊢
      refine ⟨fun h => by omega, fun _ => ⟨by omega, by omega, by omega, by omega, fun he => ?_, fun hne => ⟨by omega, ?_⟩⟩⟩
      · rw [if_pos he] at ih
        have go : ∀ v, shq A w i = v → inR (S + v) ∧ WM M_Mo_account 41 [(0, vR 35), (1, vI a), (2, vI w), (3, vI (S + v)), (4, vI (i + 1))] [] σ1 (QI K) := fun v ev => by
          rw [ev] at ih hs
          exact ⟨by omega, ih⟩
        have go2 : ∀ v, shq A w i = v → inR (S + v) ∧ inR (i + 1) ∧ WM M_Mo_account 41 [(0, vR 35), (1, vI a), (2, vI w), (3, vI (S + v)), (4, vI (i + 1))] [] σ1 (QI K) := fun v ev => ⟨(go v ev).1, by omega, (go v ev).2⟩
        refine ⟨fun h => go2 1 (by unfold shq; (repeat' split) <;> first | (exfalso; omega) | rfl | simp_all), fun h => v_book m1.1 hA.1 h0 h1 (go2 _ (by unfold shq; (repeat' split) <;> first | (exfalso; omega) | rfl | simp_all)), fun h => ⟨h0, by omega, go2 _ (by unfold shq; (repeat' split) <;> first | (exfalso; omega) | rfl | simp_all)⟩, fun h => m_errorOf m1.1 hA.1 h0 h1 (go2 _ (by unfold shq; (repeat' split) <;> first | (exfalso; omega) | rfl | simp_all)), fun h => m_isCertain m1.1 hA.1 m1.2.1.1 h0 h1 ?_, fun h => ⟨h0, by omega, fun hz => go2 0 ?_, fun hz => v_partOfm m1 hA (by omega) h0 h1 ?_⟩⟩
        · have ee : shq A w i = bi (ce A (A 0 1) i) := (by unfold shq; (repeat' split) <;> first | (exfalso; omega) | rfl | simp_all)
          cases hc : ce A (A 0 1) i with
          | true => rw [hc] at ee; exact ⟨fun h => by simp [bi] at h, fun _ => go2 1 ee⟩
          | false => rw [hc] at ee; exact ⟨fun _ => go2 0 ee, fun h => absurd rfl h⟩
        · unfold shq
          rw [if_neg (by omega), if_neg (by omega), if_neg (by omega), if_neg (by omega), if_neg (by omega), show th A (A 0 2) i = 0 by omega, Int.mul_zero]
        · rw [Int.mul_comm]
          exact ⟨by omega, go2 _ (by unfold shq; (repeat' split) <;> first | (exfalso; omega) | rfl | simp_all)⟩
      · rw [if_neg hne, Int.add_zero] at ih; exact ih
  exact key 0 (by omega) hA.1.1
theorem fstq_t {A : St} {i : Int} (h0 : 0 ≤ i) (h1 : i < A 0 0) (h : ∀ j, 0 ≤ j → j < i → A 1 j ≠ A 1 i) : fstq A i = true := by
  unfold fstq
  rw [fI_eq h0 h1 (by simp) (fun j a b => by simpa using h j a b)]
  simp
theorem fstq_f {A : St} {i j : Int} (hn : i < A 0 0) (h0 : 0 ≤ j) (h1 : j < i) (h : A 1 j = A 1 i) : fstq A i = false := by
  unfold fstq
  simp only [decide_eq_false_iff_not]
  intro e
  rcases fI_spec (fun j => decide (A 1 j = A 1 i)) (n := A 0 0) (by omega) with ⟨g, _⟩ | ⟨_, _, _, g⟩
  · omega
  · rw [e] at g
    have := g j h0 h1
    simp [h] at this
theorem p_accounts {K : Int → St → Prop} {A σ : St} (hM : MR A σ) (hF : FM σ) (hA : OKA A) {k : Int} (hK : EM A σ (q_accounts A k) K) : CI M_Mo_accounts [vR 35, vI k] σ K := by
  apply e_Mo_accounts
  have h48 := hA.1.2.1
  have hM0 := t0_M hM
  have go : ∀ v, q_accounts A k = v → K v (ups σ 35 0 0) := fun v e => mrd hM hK t0_s (t0_F hF) e
  refine ⟨fun hk => ?_, fun hk => go _ (by unfold q_accounts; rw [if_pos (Or.inl (by omega)), kI_low (by omega)])⟩
  have key : ∀ i, 0 ≤ i → i ≤ A 0 0 → (∀ j, 0 ≤ j → j < i → fstq A j = true → cI (fstq A) j ≠ k) → WM M_Mo_accounts 17 [(0, vR 35), (1, vI k), (2, vI (cI (fstq A) i)), (3, vI i)] [] (ups σ 35 0 0) (QI K) := by
    refine up_ind (fun hf => ?_) (fun i h0 h1 ih hf => ?_)
    · apply l_Mo_accounts_1
      rw [hM0.1.1]
      have e := kI_end hA.1.1 hk hf
      refine ⟨fun _ => ⟨fun h => ?_, fun h => ?_⟩, fun h => by omega⟩
      · rw [if_neg h] at e
        exact go _ (by unfold q_accounts; rw [if_pos (Or.inr (Or.inr e)), e])
      · rw [if_pos h] at e
        exact go _ (by unfold q_accounts; rw [if_pos (Or.inr (Or.inl h)), e])
    · apply l_Mo_accounts_1
      obtain ⟨g1, _, _, _⟩ := hM0.1.2 i h0 h1
      rw [hM0.1.1, g1]
      have hc := cI_in (p := fstq A) h0
      refine ⟨fun h => by omega, fun _ => ⟨by omega, by omega, by omega, by omega, ?_⟩⟩
      -- looking back
      have done : ∀ x5, x5 = bi (fstq A i) → (¬ x5 = 0 → (¬ (cI (fstq A) i) = k → (inR ((cI (fstq A) i) + 1)) ∧ (inR (i + 1)) ∧ WM M_Mo_accounts 17 [(0, vR 35), (1, vI k), (2, vI ((cI (fstq A) i) + 1)), (3, vI (i + 1))] [] (ups σ 35 0 0) (QI K)) ∧ ((cI (fstq A) i) = k → K (A 1 i) (ups σ 35 0 0))) ∧ (x5 = 0 → (inR (i + 1)) ∧ WM M_Mo_accounts 17 [(0, vR 35), (1, vI k), (2, vI (cI (fstq A) i)), (3, vI (i + 1))] [] (ups σ 35 0 0) (QI K)) := by
        intro x5 hx
        subst hx
        cases hp : fstq A i with
        | false =>
          rw [cI_f h0 hp] at ih
          refine ⟨fun h => absurd rfl h, fun _ => ⟨by omega, ih (fun j a b => ?_)⟩⟩
          by_cases hj : j = i
          · subst hj; simp [hp]
          · exact hf j a (by omega)
        | true =>
          rw [cI_t h0 hp] at ih
          refine ⟨fun _ => ⟨fun hne => ⟨by omega, by omega, ih (fun j a b => ?_)⟩, fun he => ?_⟩, fun h => by simp [bi] at h⟩
          · by_cases hj : j = i
            · subst hj; exact fun _ => hne
            · exact hf j a (by omega)
          · have e := kI_hit h0 h1 hp he
            exact go _ (by unfold q_accounts; rw [e, if_neg (by omega)])
      have back : ∀ j, 0 ≤ j → j ≤ i → ∀ x5, ((x5 = 1 ∧ ∀ q, 0 ≤ q → q < j → A 1 q ≠ A 1 i) ∨ (x5 = 0 ∧ ∃ q, 0 ≤ q ∧ q < j ∧ A 1 q = A 1 i)) → WM M_Mo_accounts 43 [(0, vR 35), (1, vI k), (2, vI (cI (fstq A) i)), (3, vI i), (4, vI (A 1 i)), (5, vI x5), (6, vI j)] [] (ups σ 35 0 0) (QI K) := by
        refine up_ind (fun x5 hx => ?_) (fun j a b ih2 x5 hx => ?_)
        · apply l_Mo_accounts_2
          refine ⟨fun _ => done x5 ?_, fun h => by omega⟩
          rcases hx with ⟨hx, hq⟩ | ⟨hx, q, q0, q1, q2⟩
          · rw [hx, fstq_t h0 h1 hq]; rfl
          · rw [hx, fstq_f h1 q0 q1 q2]; rfl
        · apply l_Mo_accounts_2
          obtain ⟨y1, _, _, _⟩ := hM0.1.2 j a (by omega)
          rw [y1]
          refine ⟨fun h => by omega, fun _ => ⟨fun hz => ⟨by omega, ih2 0 ?_⟩, fun hz => ⟨by omega, by omega, by omega, by omega, fun he => ⟨by omega, ih2 0 (Or.inr ⟨rfl, j, a, by omega, he⟩)⟩, fun hne => ⟨by omega, ih2 1 ?_⟩⟩⟩⟩
          · rcases hx with ⟨hx, hq⟩ | ⟨hx, q, q0, q1, q2⟩
            · omega
            · exact Or.inr ⟨rfl, q, q0, by omega, q2⟩
          · rcases hx with ⟨hx, hq⟩ | ⟨hx, q, q0, q1, q2⟩
            · refine Or.inl ⟨rfl, fun q q0 q1 => ?_⟩
              by_cases e : q = j
              · rw [e]; exact hne
              · exact hq q q0 (by omega)
            · omega
      exact back 0 (by omega) h0 1 (Or.inl ⟨rfl, fun q a b => by omega⟩)
  exact key 0 (by omega) hA.1.1 (fun j a b => by omega)
theorem p_line {K : Int → St → Prop} {A σ : St} (hM : MR A σ) (hF : FM σ) (hA : OKA A) {k i : Int} (hK : EM A σ (q_line A k i) K) : CI M_Mo_line_ [vR 35, vI k, vI i] σ K := by
  apply e_Mo_line_
  have h48 := hA.1.2.1
  refine ⟨fun hk => amg hM hF hA (by omega) (fun σ1 s1 m1 f1 t1 => ?_), fun hk => (mrd hM hK t0_s (t0_F hF) (by unfold q_line; (repeat' split) <;> first | (exfalso; omega) | rfl | simp_all))⟩
  have go1 : ∀ v, q_line A k i = v → K v σ1 := fun v e => mrd hM hK s1 f1 e
  refine ⟨fun h1 => ⟨fun h2 => ?_, fun h2 => go1 _ (by unfold q_line; (repeat' split) <;> first | (exfalso; omega) | rfl | simp_all)⟩, fun h1 => go1 _ (by unfold q_line; (repeat' split) <;> first | (exfalso; omega) | rfl | simp_all)⟩
  have hin := kI_in (p := kdp A 2) (k := k) hA.1.1 hk
  rw [show kI (kdp A 2) k (A 0 0) = q_list A 2 k from rfl] at hin
  obtain ⟨g0, g1, g2⟩ : 0 ≤ q_list A 2 k ∧ q_list A 2 k < A 0 0 ∧ kdp A 2 (q_list A 2 k) = true := by
    rcases hin with h | h
    · exact absurd h h1
    · exact h
  have hp : 0 < A 3 (q_list A 2 k) := lk_pos (R := A 0 2) g2 hA.2.2.1.1
  have e : q_line A k i = if i < (lnW A (A 0 2) (q_list A 2 k)).1 then (lnW A (A 0 2) (q_list A 2 k)).2 i else -1 := by
    unfold q_line
    rw [if_neg (by omega), if_neg (by omega)]
  generalize q_list A 2 k = x at *
  have hi := hA.1.2.2 x g0 g1
  obtain ⟨l1, l2, l3, l4⟩ := ln_len hA g0 g1 hA.2.2.1.1 (Int.le_refl _) hp
  have ht := th_in hA (i := x) hA.2.2.1.1 (Int.le_refl _)
  have s0 : ∀ (T : Txt) (c : Int), (sgn T c).1 = T.1 + 1 := fun T c => rfl
  have mv : ∀ τ, Mm [50] [30] σ1 τ → Mm scM scP σ τ ∧ MR A τ ∧ FM τ ∧ HT A τ := fun τ t => ⟨s1.tr (t.wk (by decide) (by decide)), m1.sm t (by decide) (by decide), f1.sm t (by decide) (by decide) (by decide) (by decide), (t1 (by omega)).sc t (by decide) (by decide)⟩
  -- the answer
  have out : ∀ τ, Mm [50] [30] σ1 τ → TXm (lnW A (A 0 2) x) τ → (lnW A (A 0 2) x).1 ≤ 60 → ((τ 35 30) ≤ i → K (-1) τ) ∧ (¬ (τ 35 30) ≤ i → (0 ≤ i) ∧ (i < 60) ∧ K (τ 50 i) τ) := fun τ t u hl => by
    rw [u.2.1]
    refine ⟨fun h => mrd hM hK (mv τ t).1 (mv τ t).2.2.1 (by rw [e, if_neg (by omega)]), fun h => ⟨by omega, by omega, ?_⟩⟩
    rw [u.2.2 i (by omega) (by omega)]
    exact mrd hM hK (mv τ t).1 (mv τ t).2.2.1 (by rw [e, if_pos (by omega)])
  have hlW : (lnW A (A 0 2) x).1 ≤ 60 := by
    unfold lnW
    split
    · omega
    · have := nmb_len (A 4 x) (sgn (sgn (lnU A (A 0 2) x) 32) 61)
      rw [s0, s0] at this
      omega
  obtain ⟨y1, y2, y3, y4⟩ := m1.1.2 x g0 g1
  rw [y1]
  have z0 : Mm [50] [30] σ1 (ups σ1 35 30 0) := Mm.rf.fd (by decide)
  refine ⟨by omega, by omega, by omega, by omega, s_tellsNumber (T := (0, fun _ => 0)) ⟨Int.le_refl _, by rw [ups_s], fun j a b => absurd b (by show ¬ j < 0; omega)⟩ (by show (0 : Int) ≤ 54; omega) hi.1 (by omega) (fun σ2 s2 u2 => s_tells u2 (by omega) (fun σ3 s3 u3 => ?_))⟩
  have z3 := (z0.tr s2).tr s3
  obtain ⟨_, v2, _, _⟩ := (mv _ z3).2.1.1.2 x g0 g1
  rw [v2]
  refine ⟨by omega, by omega, by omega, s_tellsNumber u3 (by rw [s0]; omega) hi.2.2.1 (by omega) (fun σ4 s4 u4 => s_tells u4 (by omega) (fun σ5 s5 u5 => ?_))⟩
  have z5 := (z3.tr s4).tr s5
  refine v_book (mv _ z5).2.1.1 hA.1 g0 g1 (s_tellsNumber u5 (by rw [s0]; omega) (by omega) (by omega) (fun σ6 s6 u6 => ?_))
  have z6 := z5.tr s6
  have M6 := (mv _ z6).2.1
  have tail : ∀ τ, Mm [50] [30] σ1 τ → TXm (lnU A (A 0 2) x) τ → A 4 x ≠ -1 → CV M_Mo_tells [vR 35, vI 32] τ (fun σ40 => CV M_Mo_tells [vR 35, vI 61] σ40 (fun σ42 => CI M_Mo_audited [vR 35, vI x] σ42 (fun v45 σ44 => CV M_Mo_tellsNumber [vR 35, vI v45] σ44 (fun σ46 => ((σ46 35 30) ≤ i → K (-1) σ46) ∧ (¬ (σ46 35 30) ≤ i → (0 ≤ i) ∧ (i < 60) ∧ K (σ46 50 i) σ46))))) := fun τ t u hn => by
    refine s_tells u (by omega) (fun σ7 s7 u7 => s_tells u7 (by rw [s0]; omega) (fun σ8 s8 u8 => ?_))
    have z8 := (t.tr s7).tr s8
    refine v_audited (mv _ z8).2.1.1 hA.1 g0 g1 (s_tellsNumber u8 (by rw [s0, s0]; omega) (by omega) (by omega) (fun σ9 s9 u9 => out σ9 (z8.tr s9) ?_ hlW))
    unfold lnW
    rw [if_neg hn]
    exact u9
  have lW : A 4 x = -1 → lnW A (A 0 2) x = lnU A (A 0 2) x := fun h => by unfold lnW; rw [if_pos h]
  refine m_isCertain M6.1 hA.1 M6.2.1.1 g0 g1 ?_
  cases hce : ce A (A 0 1) x with
  | true =>
    have eU : lnU A (A 0 2) x = sgn (nmb (sgn (nmb (sgn (nmb (0, fun _ => 0) (A 1 x)) 47) (A 2 x)) 32) (A 3 x)) 33 := by unfold lnU; rw [if_pos hce]
    refine ⟨fun h => by simp [bi] at h, fun _ => s_tells u6 (by omega) (fun σ7 s7 u7 => ?_)⟩
    have z7 := z6.tr s7
    rw [← eU] at u7
    refine v_audited (mv _ z7).2.1.1 hA.1 g0 g1 ⟨fun h => out σ7 z7 (by rw [lW h]; exact u7) hlW, fun h => tail σ7 z7 u7 h⟩
  | false =>
    have eU : lnU A (A 0 2) x = nmb (sgn (nmb (sgn (nmb (sgn (nmb (0, fun _ => 0) (A 1 x)) 47) (A 2 x)) 32) (A 3 x)) 120) (th A (A 0 2) x) := by unfold lnU; rw [if_neg (by simp [hce])]
    refine ⟨fun _ => s_tells u6 (by omega) (fun σ7 s7 u7 => ?_), fun h => absurd rfl h⟩
    have z7 := z6.tr s7
    rw [(mv _ z7).2.2.2.2.2.2 x g0 g1]
    refine ⟨g0, by omega, s_tellsNumber u7 (by rw [s0]; omega) ht.1 (by omega) (fun σ8 s8 u8 => ?_)⟩
    have z8 := z7.tr s8
    rw [← eU] at u8
    refine v_audited (mv _ z8).2.1.1 hA.1 g0 g1 ⟨fun h => out σ8 z8 (by rw [lW h]; exact u8) hlW, fun h => tail σ8 z8 u8 h⟩
theorem p_upper {K : Int → St → Prop} {A σ : St} (hM : MR A σ) (hF : FM σ) (hA : OKA A) {n k : Int} (hK : EM A σ (q_upper A n k) K) : CI M_Mo_upper [vR 35, vI n, vI k] σ K := by
  apply e_Mo_upper
  have ht := hA.2.2.2.2.2
  refine s_isIn (fun h0 h1 => ⟨fun h => by omega, fun _ => s_isIn (fun h2 h3 => ⟨fun h => by omega, fun _ => m_upperOf (t0_F hF) ((t0_M hM).2.2.2.1 1 (by omega) (by omega)) (by omega) h2 h3 ht.2.1.1 ht.2.1.2 (fun σ1 s1 f1 => mrd hM hK (t0_s.tr (s1.wk (by decide) (by decide))) f1 (by unfold q_upper; (repeat' split) <;> first | (exfalso; omega) | rfl | simp_all))⟩) (fun h => ⟨fun _ => (mrd hM hK t0_s (t0_F hF) (by unfold q_upper; (repeat' split) <;> first | (exfalso; omega) | rfl | simp_all)), fun h => absurd rfl h⟩)⟩) (fun h => ⟨fun _ => (mrd hM hK t0_s (t0_F hF) (by unfold q_upper; (repeat' split) <;> first | (exfalso; omega) | rfl | simp_all)), fun h => absurd rfl h⟩)
theorem p_size {K : Int → St → Prop} {A σ : St} (hM : MR A σ) (hF : FM σ) (hA : OKA A) {t : Int} (hK : EM A σ (q_size A t) K) : CI M_Mo_size [vR 35, vI t] σ K := by
  apply e_Mo_size
  have ht := hA.2.2.2.2.2
  have hM0 := t0_M hM
  refine s_isIn (fun h0 h1 => ⟨fun _ => m_allCoins hM0.1 hA.1 ⟨fun h => ?_, fun h => (mrd hM hK t0_s (t0_F hF) (by unfold q_size; (repeat' split) <;> first | (exfalso; omega) | rfl | simp_all))⟩, fun h => by omega⟩) (fun h => ⟨fun h => absurd rfl h, fun _ => (mrd hM hK t0_s (t0_F hF) (by unfold q_size; (repeat' split) <;> first | (exfalso; omega) | rfl | simp_all))⟩)
  rw [hM0.2.2.2.1 2 (by omega) (by omega)]
  exact m_sizeBy hM0 hA (t0_F hF) ht.2.2.1.1 ht.2.2.1.2 (fun σ1 s1 f1 => mrd hM hK (t0_s.tr (s1.wk (by decide) (by decide))) f1 (by unfold q_size; (repeat' split) <;> first | (exfalso; omega) | rfl | simp_all))
theorem p_sizes {K : Int → St → Prop} {A σ : St} (hM : MR A σ) (hF : FM σ) (hA : OKA A) {t : Int} (hK : EM A σ (q_sizes A t) K) : CI M_Mo_sizes [vR 35, vI t] σ K := by
  apply e_Mo_sizes
  have ht := hA.2.2.2.2.2
  have hM0 := t0_M hM
  refine s_isIn (fun h0 h1 => ⟨fun _ => m_allCoins hM0.1 hA.1 ⟨fun h => ?_, fun h => (mrd hM hK t0_s (t0_F hF) (by unfold q_sizes; (repeat' split) <;> first | (exfalso; omega) | rfl | simp_all))⟩, fun h => by omega⟩) (fun h => ⟨fun h => absurd rfl h, fun _ => (mrd hM hK t0_s (t0_F hF) (by unfold q_sizes; (repeat' split) <;> first | (exfalso; omega) | rfl | simp_all))⟩)
  rw [hM0.2.2.2.1 0 (by omega) (by omega)]
  exact m_sizeBy hM0 hA (t0_F hF) h0 h1 (fun σ1 s1 f1 => mrd hM hK (t0_s.tr (s1.wk (by decide) (by decide))) f1 (by unfold q_sizes; (repeat' split) <;> first | (exfalso; omega) | rfl | simp_all))
theorem p_projected {K : Int → St → Prop} {A σ : St} (hM : MR A σ) (hF : FM σ) (hA : OKA A) {w : Int} (hK : EM A σ (q_projected A w) K) : CI M_Mo_projected [vR 35, vI w] σ K := by
  apply e_Mo_projected
  have hR := hA.2.2.1
  have hh := hb_in hA hR.1 (Int.le_refl _)
  have hM0 := t0_M hM
  refine s_isIn (fun w0 w1 => ⟨fun h => by omega, fun _ => ?_⟩) (fun h => ⟨fun _ => (mrd hM hK t0_s (t0_F hF) (by unfold q_projected; (repeat' split) <;> first | (exfalso; omega) | rfl | simp_all)), fun h => absurd rfl h⟩)
  rw [hM0.2.1.2.1]
  refine ⟨fun hr => hits hM hF hA (fun σ1 s1 m1 f1 t1 => ?_), fun hr => (mrd hM hK t0_s (t0_F hF) (by unfold q_projected; (repeat' split) <;> first | (exfalso; omega) | rfl | simp_all))⟩
  have go : ∀ v, q_projected A w = v → K v σ1 := fun v e => mrd hM hK s1 f1 e
  have pb : ∀ sg, (sg = 1 ∨ sg = -1) → 0 ≤ pn A (A 0 2) sg (hb A (A 0 2)) ∧ pn A (A 0 2) sg (hb A (A 0 2)) ≤ 1151988480 := fun sg h => by
    have := pn_in hA (R := A 0 2) h hh.1 (Int.le_refl _)
    omega
  have p1 := pb 1 (by omega)
  have p2 := pb (-1) (by omega)
  have k1 := kn_in2 hA (sg := 1) (by omega)
  have k2 := kn_in2 hA (sg := -1) (by omega)
  have vp : ∀ (sg : Int) (K : Int → St → Prop), (sg = 1 ∨ sg = -1) → K (pn A (A 0 2) sg (hb A (A 0 2))) σ1 → CI M_Mo_projectedBy [vR 35, vI sg] σ1 K := fun sg K h hK => m_projectedBy m1 hA t1 h hK
  have vk : ∀ (sg : Int) (K : Int → St → Prop), (sg = 1 ∨ sg = -1) → K (kn A sg) σ1 → CI M_Mo_knownBy [vR 35, vI sg] σ1 K := fun sg K h hK => m_knownBy m1 hA h hK
  refine ⟨fun h => vp 1 _ (by omega) (go _ (by unfold q_projected; (repeat' split) <;> first | (exfalso; omega) | rfl | simp_all)), fun h => vp (-1) _ (by omega) (go _ (by unfold q_projected; (repeat' split) <;> first | (exfalso; omega) | rfl | simp_all)), fun h => vk 1 _ (by omega) (go _ (by unfold q_projected; (repeat' split) <;> first | (exfalso; omega) | rfl | simp_all)), fun h => vk (-1) _ (by omega) (go _ (by unfold q_projected; (repeat' split) <;> first | (exfalso; omega) | rfl | simp_all)), fun h => vp 1 _ (by omega) (vk 1 _ (by omega) ⟨by omega, vp (-1) _ (by omega) ⟨by omega, vk (-1) _ (by omega) ⟨by omega, go _ ?_⟩⟩⟩)⟩
  unfold q_projected
  rw [if_neg (by omega), if_neg (by omega), if_neg (by omega), if_neg (by omega), if_neg (by omega)]
  rfl
theorem p_taint {K : Int → St → Prop} {A σ : St} (hM : MR A σ) (hF : FM σ) (hA : OKA A) {k w : Int} (hK : EM A σ (q_taint A k w) K) : CI M_Mo_taint [vR 35, vI k, vI w] σ K := by
  apply e_Mo_taint
  have hR := hA.2.2.1
  have ht := hA.2.2.2.2.2
  have hh := hb_in hA hR.1 (Int.le_refl _)
  have eh : hmq A = hb A (A 0 2) := rfl
  refine hits hM hF hA (fun σ1 s1 m1 f1 t1 => s_laysRanks m1 hA t1 (Or.inl rfl) (fun σ2 s2 r2 => ?_))
  have z2 := s1.tr (s2.wk (T := scM) (Q := scP) (by decide) (by decide))
  have m2 := m1.sm s2 (by decide) (by decide)
  have f2 := f1.sm s2 (by decide) (by decide) (by decide) (by decide)
  have t2 := t1.sc s2 (by decide) (by decide)
  have go : ∀ v, q_taint A k w = v → K v σ2 := fun v e => mrd hM hK z2 f2 e
  have hr := rk_in (w := wT A 1) (hb A (A 0 2)) hh.1
  rw [r2.1]
  refine ⟨by omega, s_isIn (fun g0 g1 => ⟨fun _ => ?_, fun h => by omega⟩) (fun h => ⟨fun h => absurd rfl h, fun _ => go _ (by unfold q_taint hmq; (repeat' split) <;> first | (exfalso; omega) | rfl | simp_all)⟩)⟩
  have hq := hr.2.2 k g0 (by omega)
  have hi := hI_in hA hq.1 hq.2.1
  rw [r2.2 k g0 (by omega), t2.2.1, (t2.2.2.1 _ hq.1 hq.2.1).1]
  refine ⟨fun h => ⟨g0, by omega, go _ (by unfold q_taint hmq; (repeat' split) <;> first | (exfalso; omega) | rfl | simp_all)⟩, fun h => ⟨g0, by omega, hq.1, by omega, m_taintOf m2.1 hA.1 hi.1 hi.2.1 (go _ (by unfold q_taint hmq; (repeat' split) <;> first | (exfalso; omega) | rfl | simp_all))⟩, fun h => ⟨by omega, m_riseOf m2 hA f2 t2 (m2.2.2.2.1 1 (by omega) (by omega)) r2 (Or.inl rfl) (by omega) ht.2.1.1 ht.2.1.2 g0 (by omega) (fun σ3 s3 f3 => mrd hM hK (z2.tr (s3.wk (by decide) (by decide))) f3 (by unfold q_taint hmq; (repeat' split) <;> first | (exfalso; omega) | rfl | simp_all))⟩, fun h => go _ (by unfold q_taint hmq; (repeat' split) <;> first | (exfalso; omega) | rfl | simp_all)⟩
theorem p_bound {K : Int → St → Prop} {A σ : St} (hM : MR A σ) (hF : FM σ) (hA : OKA A) {w : Int} (hK : EM A σ (q_bound A w) K) : CI M_Mo_bound [vR 35, vI w] σ K := by
  apply e_Mo_bound
  have hR := hA.2.2.1
  have ht := hA.2.2.2.2.2
  have hh := hb_in hA hR.1 (Int.le_refl _)
  have hM0 := t0_M hM
  have hl := LI_in hA (R := A 0 2) (n := hb A (A 0 2)) (r := A 6 1) (Or.inl rfl : (1 : Int) = 1 ∨ (1 : Int) = -1) hR.1 (Int.le_refl _) (by omega) ht.2.1.1 ht.2.1.2
  refine s_isIn (fun w0 w1 => ⟨fun h => by omega, fun _ => ?_⟩) (fun h => ⟨fun _ => (mrd hM hK t0_s (t0_F hF) (by unfold q_bound; (repeat' split) <;> first | (exfalso; omega) | rfl | simp_all)), fun h => absurd rfl h⟩)
  rw [hM0.2.1.2.1]
  refine ⟨fun hr => hits hM hF hA (fun σ1 s1 m1 f1 t1 => ?_), fun hr => (mrd hM hK t0_s (t0_F hF) (by unfold q_bound; (repeat' split) <;> first | (exfalso; omega) | rfl | simp_all))⟩
  rw [t1.2.1]
  have er : σ1 36 1 = A 6 1 := m1.2.2.2.1 1 (by omega) (by omega)
  have e3 : w ≠ 4 → q_bound A w = prt A 1 w := fun h => by unfold q_bound; rw [if_neg (by omega), if_neg h]
  refine ⟨fun h => m_basicBy hA f1 t1.1 er (by omega) ht.2.1.1 ht.2.1.2 (fun σ2 s2 f2 => mrd hM hK (s1.tr (s2.wk (by decide) (by decide))) f2 ?_), fun h => m_risesBy m1 hA f1 t1 er (Or.inl rfl) (by omega) ht.2.1.1 ht.2.1.2 (fun σ2 s2 f2 => mrd hM hK (s1.tr (s2.wk (by decide) (by decide))) f2 ?_), fun h => m_knownBy m1 hA (Or.inl rfl) (mrd hM hK s1 f1 ?_), fun h => m_boundBy m1 hA f1 t1 (Or.inl rfl) (by omega) (fun σ2 s2 f2 => mrd hM hK (s1.tr (s2.wk (by decide) (by decide))) f2 ?_), fun h => m_boundBy m1 hA f1 t1 (Or.inl rfl) (by omega) (fun σ2 s2 f2 => ?_)⟩
  · rw [e3 (by omega), prt_def, if_pos h]
  · rw [e3 (by omega), prt_def, if_neg (by omega), if_pos h]
  · rw [e3 (by omega), prt_def, if_neg (by omega), if_neg (by omega), if_pos h]
  · rw [e3 (by omega), prt_def, if_neg (by omega), if_neg (by omega), if_neg (by omega)]
  · rw [m1.2.2.2.1 0 (by omega) (by omega)]
    refine ⟨by omega, mrd hM hK (s1.tr (s2.wk (by decide) (by decide))) f2 ?_⟩
    unfold q_bound
    rw [if_neg (by omega), if_pos (by omega)]
    rfl
theorem p_below {K : Int → St → Prop} {A σ : St} (hM : MR A σ) (hF : FM σ) (hA : OKA A) {w : Int} (hK : EM A σ (q_below A w) K) : CI M_Mo_below [vR 35, vI w] σ K := by
  apply e_Mo_below
  have hR := hA.2.2.1
  have ht := hA.2.2.2.2.2
  have hh := hb_in hA hR.1 (Int.le_refl _)
  have hM0 := t0_M hM
  refine s_isIn (fun w0 w1 => ⟨fun h => by omega, fun _ => ?_⟩) (fun h => ⟨fun _ => (mrd hM hK t0_s (t0_F hF) (by unfold q_below; (repeat' split) <;> first | (exfalso; omega) | rfl | simp_all)), fun h => absurd rfl h⟩)
  rw [hM0.2.1.2.1]
  refine ⟨fun hr => hits hM hF hA (fun σ1 s1 m1 f1 t1 => ?_), fun hr => (mrd hM hK t0_s (t0_F hF) (by unfold q_below; (repeat' split) <;> first | (exfalso; omega) | rfl | simp_all))⟩
  rw [t1.2.1]
  have er : σ1 36 1 = A 6 1 := m1.2.2.2.1 1 (by omega) (by omega)
  have e3 : q_below A w = prt A (-1) w := by unfold q_below; rw [if_neg (by omega)]
  refine ⟨fun h => m_basicBy hA f1 t1.1 er (by omega) ht.2.1.1 ht.2.1.2 (fun σ2 s2 f2 => mrd hM hK (s1.tr (s2.wk (by decide) (by decide))) f2 ?_), fun h => m_risesBy m1 hA f1 t1 er (Or.inr rfl) (by omega) ht.2.1.1 ht.2.1.2 (fun σ2 s2 f2 => mrd hM hK (s1.tr (s2.wk (by decide) (by decide))) f2 ?_), fun h => m_knownBy m1 hA (Or.inr rfl) (mrd hM hK s1 f1 ?_), fun h => m_boundBy m1 hA f1 t1 (Or.inr rfl) (by omega) (fun σ2 s2 f2 => mrd hM hK (s1.tr (s2.wk (by decide) (by decide))) f2 ?_)⟩
  · rw [e3, prt_def, if_pos h]
  · rw [e3, prt_def, if_neg (by omega), if_pos h]
  · rw [e3, prt_def, if_neg (by omega), if_neg (by omega), if_pos h]
  · rw [e3, prt_def, if_neg (by omega), if_neg (by omega), if_neg (by omega)]
theorem p_judged {K : Int → St → Prop} {A σ : St} (hM : MR A σ) (hF : FM σ) (hA : OKA A) (hK : EM A σ (q_judged A) K) : CI M_Mo_judged [vR 35] σ K := by
  apply e_Mo_judged
  have hR := hA.2.2.1
  have hh := hb_in hA hR.1 (Int.le_refl _)
  rw [hM.2.1.2.1]
  refine ⟨fun h0 => amg hM hF hA (by omega) (fun σ1 s1 m1 f1 t1 => ?_), fun h0 => (mrd hM hK t0_s (t0_F hF) (by unfold q_judged; (repeat' split) <;> first | (exfalso; omega) | rfl | simp_all))⟩
  have t1 := t1 (by omega)
  have e1 : q_list A 1 (-1) = cI (lackp A (A 0 2)) (A 0 0) := rfl
  rw [e1, t1.2.1]
  refine ⟨fun hz => m_boundBy m1 hA f1 t1 (Or.inl rfl) (by omega) (fun σ2 s2 f2 => ?_), fun hz => mrd hM hK s1 f1 (by unfold q_judged; (repeat' split) <;> first | (exfalso; omega) | rfl | simp_all)⟩
  rw [(m1.sm s2 (by decide) (by decide)).2.2.2.1 0 (by omega) (by omega)]
  have z2 := s1.tr (s2.wk (T := scM) (Q := scP) (by decide) (by decide))
  have e : q_judged A = if ACC A (A 0 2) (hb A (A 0 2)) (A 6 1) then 2 else 3 := by unfold q_judged; rw [if_neg h0, if_neg (by omega)]; rfl
  refine ⟨fun h => mrd hM hK z2 f2 (by rw [e, if_neg (by unfold ACC; simp; omega)]), fun h => mrd hM hK z2 f2 (by rw [e, if_pos (by unfold ACC; simp; omega)])⟩
theorem p_would {K : Int → St → Prop} {A σ : St} (hM : MR A σ) (hF : FM σ) (hA : OKA A) {i v : Int} (hK : EM A σ (q_would A i v) K) : CI M_Mo_would [vR 35, vI i, vI v] σ K := by
  apply e_Mo_would
  have hM0 := t0_M hM
  refine s_isItem hM0.1 hA.1 (fun h0 h1 => ⟨fun h => by omega, fun _ => s_isAudit hM0.1 hA.1 h0 h1 (fun v0 v1 => ⟨fun h => by omega, fun _ => m_coinsOf hM0.1 hA.1 h0 h1 ⟨fun h => (mrd hM hK t0_s (t0_F hF) (by unfold q_would; (repeat' split) <;> first | (exfalso; omega) | rfl | simp_all)), fun g => ?_⟩⟩) (fun h => ⟨fun _ => (mrd hM hK t0_s (t0_F hF) (by unfold q_would; (repeat' split) <;> first | (exfalso; omega) | rfl | simp_all)), fun h => absurd rfl h⟩)⟩) (fun h => ⟨fun _ => (mrd hM hK t0_s (t0_F hF) (by unfold q_would; (repeat' split) <;> first | (exfalso; omega) | rfl | simp_all)), fun h => absurd rfl h⟩)
  rw [hM0.2.1.2.1]
  refine ⟨fun hr => hits hM hF hA (fun σ1 s1 m1 f1 t1 => ?_), fun hr => (mrd hM hK t0_s (t0_F hF) (by unfold q_would; (repeat' split) <;> first | (exfalso; omega) | rfl | simp_all))⟩
  have hp : 0 < A 3 i := by
    unfold co at g
    split at g
    · assumption
    · omega
  refine m_boundIf m1 hA f1 t1 h0 h1 v0 v1 hp (fun σ2 m2 f2 t2 u2 => ?_)
  have := hK σ2 m2 f2 ((s1.um (by decide)).tr u2)
  unfold q_would at this
  rwa [if_neg (by omega)] at this
theorem p_dearest {K : Int → St → Prop} {A σ : St} (hM : MR A σ) (hF : FM σ) (hA : OKA A) (hK : EM A σ (q_dearest A) K) : CI M_Mo_dearest [vR 35] σ K := by
  apply e_Mo_dearest
  have h48 := hA.1.2.1
  rw [hM.2.1.2.1]
  refine ⟨fun h0 => hits hM hF hA (fun σ1 s1 m1 f1 t1 => ?_), fun h0 => (mrd hM hK t0_s (t0_F hF) (by unfold q_dearest; (repeat' split) <;> first | (exfalso; omega) | rfl | simp_all))⟩
  have e : q_dearest A = (deN A (A 0 0).toNat).1 := by unfold q_dearest; rw [if_neg h0]
  have key : ∀ i, 0 ≤ i → i ≤ A 0 0 → ∀ τ, MR A τ → FM τ → HT A τ → UM σ τ → WM M_Mo_dearest 25 [(0, vR 35), (1, vI (deN A i.toNat).1), (2, vI (deN A i.toNat).2), (3, vI i)] [] τ (QI K) := by
    refine up_ind (fun τ t1 t2 th t3 => ?_) (fun i a b ih τ t1 t2 th t3 => ?_)
    · apply l_Mo_dearest_1
      rw [t1.1.1]
      refine ⟨fun _ => ?_, fun h => by omega⟩
      rw [← e]
      exact hK τ t1 t2 t3
    · apply l_Mo_dearest_1
      rw [t1.1.1]
      have hd := deN_in (A := A) i.toNat
      rw [deN_s a] at ih
      have no : ∀ τ, MR A τ → FM τ → HT A τ → UM σ τ → ¬ (lk A (A 0 2) i = true ∧ 0 < er A i ∧ ((deN A i.toNat).1 = -1 ∨ bwq A i (A 3 i) < (deN A i.toNat).2)) → WM M_Mo_dearest 25 [(0, vR 35), (1, vI (deN A i.toNat).1), (2, vI (deN A i.toNat).2), (3, vI (i + 1))] [] τ (QI K) := fun τ t1 t2 th t3 hn => by
        have := ih τ t1 t2 th t3
        rwa [if_neg hn] at this
      have yes : ∀ τ, MR A τ → FM τ → HT A τ → UM σ τ → (lk A (A 0 2) i = true ∧ 0 < er A i ∧ ((deN A i.toNat).1 = -1 ∨ bwq A i (A 3 i) < (deN A i.toNat).2)) → WM M_Mo_dearest 25 [(0, vR 35), (1, vI i), (2, vI (bwq A i (A 3 i))), (3, vI (i + 1))] [] τ (QI K) := fun τ t1 t2 th t3 hn => by
        have := ih τ t1 t2 th t3
        rwa [if_pos hn] at this
      refine ⟨fun h => by omega, fun _ => v_isDrawn t1 hA th.2.2.2 a b ?_⟩
      cases hl : lk A (A 0 2) i with
      | false => exact ⟨fun _ => ⟨by omega, no τ t1 t2 th t3 (fun q => by simp [hl] at q)⟩, fun h => absurd rfl h⟩
      | true =>
        refine ⟨fun h => by simp [bi] at h, fun _ => m_errorOf t1.1 hA.1 a b ⟨fun he => v_book t1.1 hA.1 a b ?_, fun he => ⟨by omega, no τ t1 t2 th t3 (fun q => by omega)⟩⟩⟩
        have hp := er_pos hA.1 a b he
        refine m_boundIf t1 hA t2 th a b (by omega) (by omega) hp (fun σ2 m2 f2 h2 u2 => ?_)
        have u3 := t3.tr u2
        exact ⟨fun h => ⟨by omega, yes σ2 m2 f2 h2 u3 ⟨hl, he, Or.inl h⟩⟩, fun h => ⟨fun g => ⟨by omega, yes σ2 m2 f2 h2 u3 ⟨hl, he, Or.inr g⟩⟩, fun g => ⟨by omega, no σ2 m2 f2 h2 u3 (fun q => by omega)⟩⟩⟩
  exact key 0 (by omega) hA.1.1 σ1 m1 f1 t1 (s1.um (by decide))
theorem p_more {K : Int → St → Prop} {A σ : St} (hM : MR A σ) (hF : FM σ) (hA : OKA A) (hK : EM A σ (q_more A) K) : CI M_Mo_more [vR 35] σ K := by
  apply e_Mo_more
  have hR := hA.2.2.1
  have hh := hb_in hA hR.1 (Int.le_refl _)
  have hMq := Mq_in hA.1 (v := A 0 1)
  rw [hM.2.1.2.1]
  refine ⟨fun h0 => hits hM hF hA (fun σ1 s1 m1 f1 t1 => ?_), fun h0 => (mrd hM hK t0_s (t0_F hF) (by unfold q_more; (repeat' split) <;> first | (exfalso; omega) | rfl | simp_all))⟩
  have hm := mor_in hA (by omega)
  have hiv := hR.2.2.1 (by omega)
  have e : q_more A = fI (mop A) (6 - A 0 2) := by unfold q_more; rw [if_neg h0]
  have key : ∀ x, 0 ≤ x → x ≤ 6 - A 0 2 → ∀ τ, Mm [49, 51] [27, 28, 32] σ1 τ → FM τ → (∀ y, 0 ≤ y → y < x → mop A y = false) → WM M_Mo_more 21 [(0, vR 35), (1, vI x)] [] τ (QI K) := by
    refine up_ind (fun τ z f hf => ?_) (fun x a b ih τ z f hf => ?_)
    · apply l_Mo_more_1
      have m := m1.sm z (by decide) (by decide)
      rw [m.2.1.2.1]
      refine ⟨by omega, fun _ => ?_, fun h => by omega⟩
      rw [fI_none (by omega) hf] at e
      exact mrd hM hK (s1.tr (z.wk (by decide) (by decide))) f e
    · apply l_Mo_more_1
      have m := m1.sm z (by decide) (by decide)
      have t := t1.sc z (by decide) (by decide)
      rw [m.2.1.2.1, m.2.1.1, t.1.1, t.2.1]
      have hx : 0 ≤ x * (Mq A (A 0 1) / A 0 1) ∧ x * (Mq A (A 0 1) / A 0 1) ≤ x * 48 := ⟨Int.mul_nonneg a hm.1, mul_le_l hm.2 a⟩
      refine ⟨by omega, fun h => by omega, fun _ => ⟨hMq.1, hiv, by omega, by omega, m_boundBy m hA f t (Or.inl rfl) (by omega) (fun σ2 s2 f2 => ?_)⟩⟩
      have z2 := z.tr s2
      rw [(m1.sm z2 (by decide) (by decide)).2.2.2.1 0 (by omega) (by omega)]
      refine ⟨fun h => ⟨by omega, ih σ2 z2 f2 (fun y p q => ?_)⟩, fun h => ?_⟩
      · by_cases hy : y = x
        · subst hy; unfold mop ACC hmq; simp; omega
        · exact hf y p (by omega)
      · rw [fI_eq a (by omega) (by unfold mop ACC hmq; simp; omega) hf] at e
        exact mrd hM hK (s1.tr (z2.wk (by decide) (by decide))) f2 e
  exact key 0 (by omega) (by omega) σ1 Mm.rf f1 (fun y a b => by omega)
/-- fewer runs -/
theorem MR.rn {A σ : St} (hM : MR A σ) {r : Int} (hr : r ≤ A 0 2) : MR (ups A 0 2 r) (ups σ 35 10 r) := ⟨hM.1, ⟨hM.2.1.1, rfl, fun q a b => hM.2.1.2.2 q a (by have b : q < r := b; omega)⟩, hM.2.2⟩
theorem rn_ok {A : St} (hA : OKA A) {r : Int} (h0 : 1 ≤ r) (hr : r ≤ A 0 2) : OKA (ups A 0 2 r) := by
  obtain ⟨a1, a2, a3, a4, a5, a6⟩ := hA
  exact ⟨a1, a2, ⟨by show 0 ≤ r; omega, by show r ≤ 5; omega, fun _ => a3.2.2.1 (by omega), fun q a b => a3.2.2.2 q a (by have b : q < r := b; omega)⟩, a4, a5, a6⟩
theorem p_step {K : Int → St → Prop} {A σ : St} (hM : MR A σ) (hF : FM σ) (hA : OKA A) {r w : Int} (hK : EM A σ (q_step A r w) K) : CI M_Mo_step [vR 35, vI r, vI w] σ K := by
  apply e_Mo_step
  have hR := hA.2.2.1
  have hM0 := t0_M hM
  have hF0 := t0_F hF
  rw [hM.2.1.2.1]
  refine s_isIn (fun h0 h1 => ⟨fun h => by omega, fun _ => s_isIn (fun w0 w1 => ⟨fun _ => ?_, fun h => by omega⟩) (fun h => ⟨fun h => absurd rfl h, fun _ => (mrd hM hK t0_s (t0_F hF) (by unfold q_step; (repeat' split) <;> first | (exfalso; omega) | rfl | simp_all))⟩)⟩) (fun h => ⟨fun _ => (mrd hM hK t0_s (t0_F hF) (by unfold q_step; (repeat' split) <;> first | (exfalso; omega) | rfl | simp_all)), fun h => absurd rfl h⟩)
  have hA2 := rn_ok hA h0 h1
  have hh := hb_in hA (r := r) (by omega) h1
  have mr := hM0.rn h1
  have fr : FM (ups (ups σ 35 0 0) 35 10 r) := fun k a b => hF0 k a b
  refine s_laysHits mr hA2 (fun σ1 s1 t1 => ?_)
  have m1 := mr.sm s1 (by decide) (by decide)
  have f1 := fr.sm s1 (by decide) (by decide) (by decide) (by decide)
  have e25 : σ1 35 25 = hb A r := t1.2.1
  rw [e25]
  refine m_boundBy m1 hA2 f1 t1 (Or.inl rfl) (by omega) (fun σ2 s2 f2 => ?_)
  have m2 := m1.sm s2 (by decide) (by decide)
  have t2 := t1.sc s2 (by decide) (by decide)
  refine v_lackingNow m2 hA2 t2 ?_
  rw [hM0.2.1.2.1, show σ2 35 25 = hb A r from t2.2.1, show σ2 36 0 = A 6 0 from m2.2.2.2.1 0 (by omega) (by omega)]
  -- the runs put back
  have back : ∀ v, q_step A r w = v → K v (ups σ2 35 10 (A 0 2)) := fun v e => by
    have hm : MR A (ups σ2 35 10 (A 0 2)) := by
      refine ⟨m2.1, ⟨m2.2.1.1, rfl, fun q a b => ?_⟩, m2.2.2⟩
      have e1 := s1 41 q (by decide) (by simp)
      have e2 := s2 41 q (by decide) (by simp)
      show σ2 41 q = A 5 q
      rw [e2, e1]
      exact hM0.2.1.2.2 q a b
    have := hK _ hm (fun k a b => f2 k a b) ((((t0_u.up (by decide)).tr (s1.um (by decide))).tr (s2.um (by decide))).up (by decide))
    rw [e] at this
    exact this
  have eL : LI (ups A 0 2 r) (ups A 0 2 r 0 2) (hb A r) (ups A 0 2 r 6 1) 1 = LI A r (hb A r) (A 6 1) 1 := rfl
  rw [eL]
  refine ⟨fun h => back _ (by unfold q_step; (repeat' split) <;> first | (exfalso; omega) | rfl | simp_all), fun h => back _ (by unfold q_step; (repeat' split) <;> first | (exfalso; omega) | rfl | simp_all), fun h => ⟨fun g => back _ ?_, fun g => back _ ?_⟩, fun h => back _ ?_⟩
  · unfold q_step
    rw [if_neg (by omega), if_neg (by omega), if_neg (by omega), if_pos h, bi_f (by unfold ACC; simp; omega)]
  · unfold q_step
    rw [if_neg (by omega), if_neg (by omega), if_neg (by omega), if_pos h, bi_t (by unfold ACC; simp; omega)]
  · unfold q_step
    rw [if_neg (by omega), if_neg (by omega), if_neg (by omega), if_neg (by omega)]
    rfl
/-- another risk -/
theorem MR.rk {A σ : St} (hM : MR A σ) {u : Int} : MR (ups A 6 1 u) (ups σ 36 1 u) := by
  obtain ⟨m1, m2, m3, m4, m5⟩ := hM
  refine ⟨m1, m2, m3, fun k a b => ?_, m5⟩
  by_cases hk : k = 1
  · subst hk; rw [ups_s, ups_s]
  · rw [ups_f hk, ups_f hk]; exact m4 k a b
theorem rk_ok {A : St} (hA : OKA A) {u : Int} (h0 : 1 ≤ u) (h1 : u ≤ 500) : OKA (ups A 6 1 u) := by
  obtain ⟨a1, a2, a3, a4, a5, a6, a7, a8⟩ := hA
  exact ⟨a1, a2, a3, a4, a5, a6, ⟨h0, h1⟩, a8⟩
theorem p_risky {K : Int → St → Prop} {A σ : St} (hM : MR A σ) (hF : FM σ) (hA : OKA A) (hK : EM A σ (q_risky A) K) : CI M_Mo_risky [vR 35] σ K := by
  apply e_Mo_risky
  have hR := hA.2.2.1
  have hh := hb_in hA hR.1 (Int.le_refl _)
  rw [hM.2.1.2.1]
  refine ⟨fun h0 => hits hM hF hA (fun σ1 s1 m1 f1 t1 => ?_), fun h0 => (mrd hM hK t0_s (t0_F hF) (by unfold q_risky; (repeat' split) <;> first | (exfalso; omega) | rfl | simp_all))⟩
  have e : q_risky A = if rkq A = 501 then -1 else rkq A := by unfold q_risky; rw [if_neg h0]
  rw [m1.2.2.2.1 1 (by omega) (by omega)]
  have done : ∀ τ v u, MR (ups A 6 1 u) τ → FM τ → UM σ τ → v = rkq A → (¬ v = 501 → K v (ups τ 36 1 (A 6 1))) ∧ (v = 501 → K (-1) (ups τ 36 1 (A 6 1))) := fun τ v u z1 z2 z3 hv => by
    have hm : MR A (ups τ 36 1 (A 6 1)) := by
      obtain ⟨y1, y2, y3, y4, y5⟩ := z1
      refine ⟨y1, y2, y3, fun k a b => ?_, y5⟩
      by_cases hk : k = 1
      · subst hk; rw [ups_s]
      · rw [ups_f hk, y4 k a b, ups_f hk]
    have := hK _ hm (fun k a b => z2 k a b) (z3.up (by decide))
    rw [e] at this
    refine ⟨fun h => ?_, fun h => ?_⟩
    · rw [if_neg (by omega), ← hv] at this; exact this
    · rw [if_pos (by omega)] at this; exact this
  have key : ∀ m : Nat, ∀ lo hi u : Int, ∀ τ, MR (ups A 6 1 u) τ → FM τ → HT A τ → UM σ τ → 0 ≤ lo → lo < hi → hi ≤ 501 → hi - lo ≤ 2 ^ m → bq (fun u => ACC A (A 0 2) (hmq A) u) m lo hi = rkq A → WM M_Mo_risky 32 [(0, vR 35), (1, vI (A 6 1)), (2, vI lo), (3, vI hi)] [] τ (QI K) := by
    intro m
    induction m with
    | zero =>
      intro lo hi u τ z1 z2 z4 z3 h3 h4 h5 h7 h6
      apply l_Mo_risky_1
      exact ⟨by omega, fun _ => done τ hi u z1 z2 z3 h6, fun h => by omega⟩
    | succ m ih =>
      intro lo hi u τ z1 z2 z4 z3 h3 h4 h5 h7 h6
      apply l_Mo_risky_1
      unfold bq at h6
      have h10 : (2 : Int) ^ (m + 1) = 2 * 2 ^ m := by rw [Int.pow_succ]; omega
      refine ⟨by omega, fun h => done τ hi u z1 z2 z3 (by rw [if_pos h] at h6; exact h6), fun h => ⟨by omega, by omega, ?_⟩⟩
      rw [if_neg h] at h6
      rw [z4.2.1]
      generalize hmid : (lo + hi) / 2 = mid at h6 ⊢
      have hA2 := rk_ok hA (u := mid) (by omega) (by omega)
      have mm : MR (ups A 6 1 mid) (ups τ 36 1 mid) := by
        have := z1.rk (u := mid)
        obtain ⟨y1, y2, y3, y4, y5⟩ := this
        refine ⟨y1, y2, y3, fun k a b => ?_, y5⟩
        rw [y4 k a b]
        by_cases hk : k = 1
        · subst hk; rw [ups_s, ups_s]
        · rw [ups_f hk, ups_f hk, ups_f hk]
      have ff : FM (ups τ 36 1 mid) := fun k a b => z2 k a b
      have tt : HT (ups A 6 1 mid) (ups τ 36 1 mid) := z4
      refine m_boundBy mm hA2 ff tt (Or.inl rfl) (by omega) (fun σ2 s2 f2 => ?_)
      have m2 := mm.sm s2 (by decide) (by decide)
      have t2 : HT A σ2 := tt.sc s2 (by decide) (by decide)
      have u2 := (z3.up (c := 36) (j := 1) (v := mid) (by decide)).tr (s2.um (by decide))
      rw [show σ2 36 0 = A 6 0 from m2.2.2.2.1 0 (by omega) (by omega), show σ2 36 1 = mid from m2.2.2.2.1 1 (by omega) (by omega)]
      have eL : LI (ups A 6 1 mid) (ups A 6 1 mid 0 2) (hb A (A 0 2)) (ups A 6 1 mid 6 1) 1 = LI A (A 0 2) (hmq A) mid 1 := rfl
      rw [eL]
      refine ⟨fun h => ?_, fun h => ?_⟩
      · rw [if_neg (by unfold ACC; simp; omega)] at h6
        exact ih _ _ mid σ2 m2 f2 t2 u2 (by omega) (by omega) h5 (by omega) h6
      · rw [if_pos (by unfold ACC; simp; omega)] at h6
        exact ih _ _ mid σ2 m2 f2 t2 u2 h3 (by omega) (by omega) (by omega) h6
  have m1' : MR (ups A 6 1 (A 6 1)) σ1 := by
    obtain ⟨y1, y2, y3, y4, y5⟩ := m1
    refine ⟨y1, y2, y3, fun k a b => ?_, y5⟩
    rw [y4 k a b]
    by_cases hk : k = 1
    · subst hk; rw [ups_s]
    · rw [ups_f hk]
  have h60 : (501 : Int) - 0 ≤ 2 ^ 60 := by decide
  exact key 60 0 501 (A 6 1) σ1 m1' f1 t1 (s1.um (by decide)) (by omega) (by omega) (by omega) h60 rfl
