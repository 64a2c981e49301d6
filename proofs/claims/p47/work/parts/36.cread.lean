-- the class's methods that change nothing
theorem c_fault {K : Int → St → Prop} {A σ : St} (hC : CR A σ) (hF : FC σ) {x : Int} (hK : EC A σ (q_fault A x) K) : CI M_Cs_fault [vR 0, vI x] σ K := by
  apply e_Cs_fault
  rw [hC.2.2.2.2.2.1, hC.2.2.2.2.2.2]
  exact ⟨fun h => ⟨fun h2 => (rdo hC hK Sm.rf hF (by unfold q_fault; (repeat' split) <;> first | (exfalso; omega) | rfl | simp_all)), fun h2 => (rdo hC hK Sm.rf hF (by unfold q_fault; (repeat' split) <;> first | (exfalso; omega) | rfl | simp_all))⟩, fun h => (rdo hC hK Sm.rf hF (by unfold q_fault; (repeat' split) <;> first | (exfalso; omega) | rfl | simp_all))⟩
theorem c_find {K : Int → St → Prop} {A σ : St} (hC : CR A σ) (hF : FC σ) (hA : OKA A) {a v : Int} (hK : EC A σ (plcq A a v) K) : CI M_Cs_find [vR 0, vI a, vI v] σ K := by
  apply e_Cs_find
  exact s_indexOf_3 hC.1 hA.1 (rdo hC hK Sm.rf hF rfl)
theorem c_item {K : Int → St → Prop} {A σ : St} (hC : CR A σ) (hF : FC σ) (hA : OKA A) {i w : Int} (hK : EC A σ (q_item A i w) K) : CI M_Cs_item [vR 0, vI i, vI w] σ K := by
  apply e_Cs_item
  have h48 := hA.1.2.1
  refine s_holds_3 hC.1 (fun h0 h1 => ⟨fun _ => ?_, fun h => by omega⟩) (fun h => ⟨fun h => absurd rfl h, fun _ => (rdo hC hK Sm.rf hF (by unfold q_item; (repeat' split) <;> first | (exfalso; omega) | rfl | simp_all))⟩)
  rw [LR3.acc hC.1 h0 h1, LR3.vou hC.1 h0 h1, LR3.bk hC.1 h0 h1, LR3.au hC.1 h0 h1, hC.2.2.2.1.2.1]
  have go : ∀ v, q_item A i w = v → K v σ := fun v e => rdo hC hK Sm.rf hF e
  refine ⟨fun h => ⟨h0, by omega, go _ (by unfold q_item; (repeat' split) <;> first | (exfalso; omega) | rfl | simp_all)⟩, fun h => ⟨h0, by omega, go _ (by unfold q_item; (repeat' split) <;> first | (exfalso; omega) | rfl | simp_all)⟩, fun h => ⟨h0, by omega, go _ (by unfold q_item; (repeat' split) <;> first | (exfalso; omega) | rfl | simp_all)⟩, fun h => ⟨h0, by omega, go _ (by unfold q_item; (repeat' split) <;> first | (exfalso; omega) | rfl | simp_all)⟩, fun h => v_errorOf hC.1 hA.1 h0 h1 (go _ (by unfold q_item; (repeat' split) <;> first | (exfalso; omega) | rfl | simp_all)), fun h => v_taintOf hC.1 hA.1 h0 h1 (go _ (by unfold q_item; (repeat' split) <;> first | (exfalso; omega) | rfl | simp_all)), fun h => v_isCertain_16 hC.1 hA.1 hC.2.2.1.1 h0 h1 ?_, fun h => v_timesHit hC hA hA.2.2.1.1 (Int.le_refl _) h0 h1 (go _ (by unfold q_item; (repeat' split) <;> first | (exfalso; omega) | rfl | simp_all)), fun h => v_firstCoin_16 hC.1 hA.1 hC.2.2.1 (fun _ _ => go _ (by unfold q_item; (repeat' split) <;> first | (exfalso; omega) | rfl | simp_all)) (fun h => by omega), fun h => go _ (by unfold q_item; (repeat' split) <;> first | (exfalso; omega) | rfl | simp_all)⟩
  have e : q_item A i w = bi (ce A (A 0 1) i) := (by unfold q_item; (repeat' split) <;> first | (exfalso; omega) | rfl | simp_all)
  cases hc : ce A (A 0 1) i with
  | true => rw [hc] at e; exact ⟨fun h => by simp [bi] at h, fun _ => go _ e⟩
  | false => rw [hc] at e; exact ⟨fun _ => go _ e, fun h => absurd rfl h⟩
theorem c_coin {K : Int → St → Prop} {A σ : St} (hC : CR A σ) (hF : FC σ) (hA : OKA A) {c w : Int} (hK : EC A σ (q_coin A c w) K) : CI M_Cs_coin [vR 0, vI c, vI w] σ K := by
  apply e_Cs_coin
  have hM := Mq_in hA.1 (v := A 0 1)
  have hi := hA.2.1
  have go : ∀ v, q_coin A c w = v → K v σ := fun v e => rdo hC hK Sm.rf hF e
  by_cases h0 : 1 ≤ c
  · refine v_ownerOf hC.1 hC.2.2.1 hA.1 h0 ?_
    rw [hC.2.2.1.1]
    by_cases h1 : c ≤ Mq A (A 0 1)
    · have ho := ow_spec hA.1 (v := A 0 1) h0 h1
      refine ⟨fun h => by omega, fun _ => ⟨fun h => go _ (by unfold q_coin; (repeat' split) <;> first | (exfalso; omega) | rfl | simp_all), fun h2 => ⟨fun h3 => ⟨fun h4 => ⟨fun h => go _ (by unfold q_coin; (repeat' split) <;> first | (exfalso; omega) | rfl | simp_all), fun h => ⟨by omega, by omega, by omega, go _ (by unfold q_coin; (repeat' split) <;> first | (exfalso; omega) | rfl | simp_all)⟩, fun h => v_timesCoinHit hC.2.2.2.1 hA (go _ ?_)⟩, fun h => go _ (by unfold q_coin; (repeat' split) <;> first | (exfalso; omega) | rfl | simp_all)⟩, fun h => go _ (by unfold q_coin; (repeat' split) <;> first | (exfalso; omega) | rfl | simp_all)⟩⟩⟩
      rw [coin_hits hA h0 h1]
      unfold q_coin
      rw [if_neg (by omega), if_neg h4, if_neg h.1, if_neg h.2]
    · have e : ow A (A 0 1) c = -1 := by
        unfold ow
        refine fI_none hA.1.1 (fun j a b => ?_)
        have := prq_in hA.1 (v := A 0 1) (i := j + 1) (by omega) (by omega)
        rw [prq_s a] at this
        simp
        omega
      rw [e]
      exact ⟨fun _ => go _ (by unfold q_coin; (repeat' split) <;> first | (exfalso; omega) | rfl | simp_all), fun h => absurd rfl h⟩
  · refine v_ownerOf0 hC.1 hC.2.2.1 hA.1 (by omega) ⟨fun _ => go _ (by unfold q_coin; (repeat' split) <;> first | (exfalso; omega) | rfl | simp_all), fun h => absurd rfl h⟩
theorem c_hit {K : Int → St → Prop} {A σ : St} (hC : CR A σ) (hF : FC σ) (hA : OKA A) {k w : Int} (hK : EC A σ (q_hit A k w) K) : CI M_Cs_hit [vR 0, vI k, vI w] σ K := by
  apply e_Cs_hit
  have hh := hb_in hA hA.2.2.1.1 (Int.le_refl _)
  have h5 := hA.2.2.1.2.1
  have eh : hmq A = hb A (A 0 2) := rfl
  have go : ∀ v, q_hit A k w = v → K v σ := fun v e => rdo hC hK Sm.rf hF e
  refine s_hasHit hC.2.2.2.1 hA (fun h0 h1 => ⟨fun _ => ?_, fun h => by omega⟩) (fun h => ⟨fun h => absurd rfl h, fun _ => go _ (by unfold q_hit; (repeat' split) <;> first | (exfalso; omega) | rfl | simp_all)⟩)
  have hw := hC.2.2.2.1.2.2.2 k h0 h1
  have hi := hI_in hA h0 h1
  have ht := ta_in hA.1 hi.1 hi.2.1
  rw [hw.1, hw.2.1, hw.2.2]
  exact ⟨fun h => ⟨h0, by omega, go _ (by unfold q_hit; (repeat' split) <;> first | (exfalso; omega) | rfl | simp_all)⟩, fun h => ⟨h0, by omega, go _ (by unfold q_hit; (repeat' split) <;> first | (exfalso; omega) | rfl | simp_all)⟩, fun h => ⟨h0, by omega, go _ (by unfold q_hit; (repeat' split) <;> first | (exfalso; omega) | rfl | simp_all)⟩, fun h => ⟨h0, by omega, v_taintOf hC.1 hA.1 hi.1 hi.2.1 ⟨by omega, go _ (by unfold q_hit; (repeat' split) <;> first | (exfalso; omega) | rfl | simp_all)⟩⟩, fun h => go _ (by unfold q_hit; (repeat' split) <;> first | (exfalso; omega) | rfl | simp_all)⟩
theorem c_start {K : Int → St → Prop} {A σ : St} (hC : CR A σ) (hF : FC σ) (hA : OKA A) {k : Int} (hK : EC A σ (q_start A k) K) : CI M_Cs_start [vR 0, vI k] σ K := by
  apply e_Cs_start
  have h5 := hA.2.2.1.2.1
  refine s_hasRun hC.2.2.2.1 (fun h0 h1 => ⟨fun h => by omega, fun _ => ⟨h0, by omega, ?_⟩⟩) (fun h => ⟨fun _ => (rdo hC hK Sm.rf hF (by unfold q_start; (repeat' split) <;> first | (exfalso; omega) | rfl | simp_all)), fun h => absurd rfl h⟩)
  rw [(hC.2.2.2.1.2.2.1 k h0 h1).1]
  exact (rdo hC hK Sm.rf hF (by unfold q_start; (repeat' split) <;> first | (exfalso; omega) | rfl | simp_all))
theorem v_isOfKind {K : Int → St → Prop} {A σ : St} (hC : CR A σ) (hA : OKA A) {w i : Int} (hw : w = 0 ∨ w = 1 ∨ w = 2) (h0 : 0 ≤ i) (h1 : i < A 0 0) (hK : K (bi (kdp A w i)) σ) : CI M_Cs_isOfKind [vR 0, vI w, vI i] σ K := by
  apply e_Cs_isOfKind
  have hlk := fun (K : Int → St → Prop) (hK : K (bi (lk A (A 0 2) i)) σ) => v_isLookedAt hC hA hA.2.2.1.1 (Int.le_refl _) h0 h1 hK
  rw [hC.2.2.2.1.2.1]
  refine ⟨fun h => v_isCertain_16 hC.1 hA.1 hC.2.2.1.1 h0 h1 ⟨by have := bi_01 (ce A (A 0 1) i); omega, ?_⟩, fun h => ?_, fun h => hlk _ ⟨by have := bi_01 (lk A (A 0 2) i); omega, ?_⟩⟩
  · unfold kdp at hK; rw [if_pos h] at hK; exact hK
  · unfold kdp at hK
    rw [if_neg (by omega), if_pos h] at hK
    refine s_isAudited hC.1 hA.1 (fun _ _ h2 => ⟨fun _ => ?_, fun h => by omega⟩) (fun h2 => ⟨fun h => absurd rfl h, fun _ => ?_⟩)
    · rw [bi_f (by unfold lackp; simp [h2])] at hK; exact hK
    · rw [hC.2.2.2.1.2.1]
      refine hlk _ ?_
      have e : A 4 i = -1 := by omega
      unfold lackp at hK
      cases hl : lk A (A 0 2) i with
      | true =>
        rw [bi_t (by simp [e, hl])] at hK
        exact ⟨fun h => by simp [bi] at h, fun _ => hK⟩
      | false =>
        rw [bi_f (by simp [hl])] at hK
        exact ⟨fun _ => hK, fun h => absurd rfl h⟩
  · unfold kdp at hK; rw [if_neg (by omega), if_neg (by omega)] at hK; exact hK
theorem v_listed {K : Int → St → Prop} {A σ : St} (hC : CR A σ) (hA : OKA A) {w k : Int} (hw : w = 0 ∨ w = 1 ∨ w = 2) (hK : K (q_list A w k) σ) : CI M_Cs_listed [vR 0, vI w, vI k] σ K := by
  apply e_Cs_listed
  have h48 := hA.1.2.1
  refine ⟨fun hk => ?_, fun hk => ?_⟩
  · have key : ∀ i, 0 ≤ i → i ≤ A 0 0 → (∀ j, 0 ≤ j → j < i → kdp A w j = true → cI (kdp A w) j ≠ k) → WM M_Cs_listed 13 [(0, vR 0), (1, vI w), (2, vI k), (3, vI (cI (kdp A w) i)), (4, vI i)] [] σ (QI K) := by
      refine up_ind (fun hf => ?_) (fun i h0 h1 ih hf => ?_)
      · apply l_Cs_listed_1
        rw [hC.1.1]
        have e := kI_end hA.1.1 hk hf
        refine ⟨fun _ => ⟨fun h => ?_, fun h => ?_⟩, fun h => by omega⟩
        · rw [if_neg h] at e; unfold q_list at hK; rw [e] at hK; exact hK
        · rw [if_pos h] at e; unfold q_list at hK; rw [e] at hK; exact hK
      · apply l_Cs_listed_1
        rw [hC.1.1]
        have hc := cI_in (p := kdp A w) h0
        refine ⟨fun h => by omega, fun _ => v_isOfKind hC hA hw h0 h1 ?_⟩
        cases hp : kdp A w i with
        | false =>
          rw [cI_f h0 hp] at ih
          refine ⟨fun _ => ⟨by omega, ih (fun j a b => ?_)⟩, fun h => absurd rfl h⟩
          by_cases hj : j = i
          · subst hj; simp [hp]
          · exact hf j a (by omega)
        | true =>
          rw [cI_t h0 hp] at ih
          refine ⟨fun h => by simp [bi] at h, fun _ => ⟨fun hne => ⟨by omega, by omega, ih (fun j a b => ?_)⟩, fun he => ?_⟩⟩
          · by_cases hj : j = i
            · subst hj; exact fun _ => hne
            · exact hf j a (by omega)
          · unfold q_list at hK; rw [kI_hit h0 h1 hp he] at hK; exact hK
    exact key 0 (by omega) hA.1.1 (fun j a b => by omega)
  · unfold q_list at hK
    rw [kI_low (by omega)] at hK
    exact hK
theorem c_certain {K : Int → St → Prop} {A σ : St} (hC : CR A σ) (hF : FC σ) (hA : OKA A) {k : Int} (hK : EC A σ (q_list A 0 k) K) : CI M_Cs_certain [vR 0, vI k] σ K := by
  apply e_Cs_certain
  exact v_listed hC hA (by omega) (rdo hC hK Sm.rf hF rfl)
theorem c_lacking {K : Int → St → Prop} {A σ : St} (hC : CR A σ) (hF : FC σ) (hA : OKA A) {k : Int} (hK : EC A σ (q_list A 1 k) K) : CI M_Cs_lacking [vR 0, vI k] σ K := by
  apply e_Cs_lacking
  exact v_listed hC hA (by omega) (rdo hC hK Sm.rf hF rfl)
theorem c_drawn {K : Int → St → Prop} {A σ : St} (hC : CR A σ) (hF : FC σ) (hA : OKA A) {k : Int} (hK : EC A σ (q_list A 2 k) K) : CI M_Cs_drawn [vR 0, vI k] σ K := by
  apply e_Cs_drawn
  exact v_listed hC hA (by omega) (rdo hC hK Sm.rf hF rfl)
theorem v_shareOf {K : Int → St → Prop} {A σ : St} (hC : CR A σ) (hA : OKA A) {i w : Int} (hE : w = 5 → σ 28 3 = A 0 2) (hw : 0 ≤ w ∧ w ≤ 5) (h0 : 0 ≤ i) (h1 : i < A 0 0) (hK : K (shq A w i) σ) : CI M_Cs_shareOf [vR 0, vI i, vI w] σ K := by
  apply e_Cs_shareOf
  have h48 := hA.1.2.1
  have h5 := hA.2.2.1.2.1
  have hp := pjth_in hA h0 h1
  rw [LR3.bk hC.1 h0 h1, hC.2.2.2.1.2.1]
  have go : ∀ v, shq A w i = v → K v σ := fun v e => e ▸ hK
  refine ⟨fun h => go _ (by unfold shq; (repeat' split) <;> first | (exfalso; omega) | rfl | simp_all), fun h => ⟨h0, by omega, go _ (by unfold shq; (repeat' split) <;> first | (exfalso; omega) | rfl | simp_all)⟩, fun h => v_timesHit hC hA hA.2.2.1.1 (Int.le_refl _) h0 h1 (go _ (by unfold shq; (repeat' split) <;> first | (exfalso; omega) | rfl | simp_all)), fun h => v_errorOf hC.1 hA.1 h0 h1 (go _ (by unfold shq; (repeat' split) <;> first | (exfalso; omega) | rfl | simp_all)), fun h => v_isCertain_16 hC.1 hA.1 hC.2.2.1.1 h0 h1 ?_, fun h => v_projectionOfHit hC hA (hE (by omega)) h5 h0 h1 ?_⟩
  rotate_left
  · rw [hC.2.2.2.1.2.1]
    exact v_timesHit hC hA hA.2.2.1.1 (Int.le_refl _) h0 h1 ⟨by omega, go _ (by unfold shq; (repeat' split) <;> first | (exfalso; omega) | rfl | simp_all)⟩
  have e : shq A w i = bi (ce A (A 0 1) i) := (by unfold shq; (repeat' split) <;> first | (exfalso; omega) | rfl | simp_all)
  cases hc : ce A (A 0 1) i with
  | true => rw [hc] at e; exact ⟨fun h => by simp [bi] at h, fun _ => go _ e⟩
  | false => rw [hc] at e; exact ⟨fun _ => go _ e, fun h => absurd rfl h⟩
theorem c_account {K : Int → St → Prop} {A σ : St} (hC : CR A σ) (hF : FC σ) (hA : OKA A) {a w : Int} (hK : EC A σ (q_account A a w) K) : CI M_Cs_account [vR 0, vI a, vI w] σ K := by
  apply e_Cs_account
  have h48 := hA.1.2.1
  have bad : (a < 0 ∨ 99 < a ∨ w < 0 ∨ 5 < w) → K (-10000000) σ := fun h => (rdo hC hK Sm.rf hF (by unfold q_account; (repeat' split) <;> first | (exfalso; omega) | rfl | simp_all))
  refine ⟨fun h => bad (by omega), fun h1 => ⟨fun h => bad (by omega), fun h2 => ⟨fun h => bad (by omega), fun h3 => ⟨fun h4 => ?_, fun h => bad (by omega)⟩⟩⟩⟩
  have e : q_account A a w = sI (fun i => if A 1 i = a then shq A w i else 0) (A 0 0) := by unfold q_account; rw [if_neg (by omega)]
  have key : ∀ τ, Sm scC σ τ → FC τ → (w = 5 → τ 28 3 = A 0 2) → WM M_Cs_account 39 [(0, vR 0), (1, vI a), (2, vI w), (3, vI 0), (4, vI 0)] [] τ (QI K) := by
    intro τ t1 t2 t3
    have hCt := hC.sm t1 (fun x hx => Or.inl hx)
    have key : ∀ i, 0 ≤ i → i ≤ A 0 0 → WM M_Cs_account 39 [(0, vR 0), (1, vI a), (2, vI w), (3, vI (sI (fun i => if A 1 i = a then shq A w i else 0) i)), (4, vI i)] [] τ (QI K) := by
      refine up_ind ?_ (fun i h0 h1 ih => ?_)
      · apply l_Cs_account_1
        rw [hCt.1.1]
        exact ⟨fun _ => rdo hC hK t1 t2 e, fun h => by omega⟩
      · apply l_Cs_account_1
        rw [hCt.1.1, LR3.acc hCt.1 h0 h1]
        have hs := shq_in hA (w := w) h0 h1
        have hq := acs_in hA (a := a) (w := w) h0 (show i ≤ A 0 0 by omega)
        rw [sI_s h0] at ih
        refine ⟨fun h => by omega, fun _ => ⟨h0, by omega, fun hne => ⟨by omega, ?_⟩, fun he => v_shareOf hCt hA t3 ⟨by omega, h4⟩ h0 h1 ⟨by omega, by omega, ?_⟩⟩⟩
        · rw [if_neg hne, Int.add_zero] at ih; exact ih
        · rw [if_pos he] at ih; exact ih
    exact key 0 (by omega) hA.1.1
  exact ⟨fun h => key σ Sm.rf hF (fun h2 => absurd h2 h), fun h => s_supposeNothing hC hA (fun σ1 s1 e1 => key σ1 (s1.wk (by decide)) (hF.sm s1 (by decide) (by decide)) (fun _ => e1.1))⟩
theorem c_accounts {K : Int → St → Prop} {A σ : St} (hC : CR A σ) (hF : FC σ) (hA : OKA A) {k : Int} (hK : EC A σ (q_accounts A k) K) : CI M_Cs_accounts [vR 0, vI k] σ K := by
  apply e_Cs_accounts
  have h48 := hA.1.2.1
  refine ⟨fun hk => ?_, fun hk => rdo hC hK Sm.rf hF (by unfold q_accounts; rw [if_pos (Or.inl (by omega)), kI_low (by omega)])⟩
  have key : ∀ i, 0 ≤ i → i ≤ A 0 0 → (∀ j, 0 ≤ j → j < i → fstq A j = true → cI (fstq A) j ≠ k) → WM M_Cs_accounts 12 [(0, vR 0), (1, vI k), (2, vI (cI (fstq A) i)), (3, vI i)] [] σ (QI K) := by
    refine up_ind (fun hf => ?_) (fun i h0 h1 ih hf => ?_)
    · apply l_Cs_accounts_1
      rw [hC.1.1]
      have e := kI_end hA.1.1 hk hf
      refine ⟨fun _ => ⟨fun h => ?_, fun h => ?_⟩, fun h => by omega⟩
      · rw [if_neg h] at e
        exact rdo hC hK Sm.rf hF (by unfold q_accounts; rw [if_pos (Or.inr (Or.inr e)), e])
      · rw [if_pos h] at e
        exact rdo hC hK Sm.rf hF (by unfold q_accounts; rw [if_pos (Or.inr (Or.inl h)), e])
    · apply l_Cs_accounts_1
      rw [hC.1.1]
      have hc := cI_in (p := fstq A) h0
      refine ⟨fun h => by omega, fun _ => s_isFirstOfAccount hC.1 hA.1 h0 h1 ?_⟩
      rw [show decide (fI (fun j => decide (A 1 j = A 1 i)) (A 0 0) = i) = fstq A i from rfl, LR3.acc hC.1 h0 h1]
      cases hp : fstq A i with
      | false =>
        rw [cI_f h0 hp] at ih
        refine ⟨fun _ => ⟨by omega, ih (fun j a b => ?_)⟩, fun h => absurd rfl h⟩
        by_cases hj : j = i
        · subst hj; simp [hp]
        · exact hf j a (by omega)
      | true =>
        rw [cI_t h0 hp] at ih
        refine ⟨fun h => by simp [bi] at h, fun _ => ⟨fun hne => ⟨by omega, by omega, ih (fun j a b => ?_)⟩, fun he => ⟨h0, by omega, ?_⟩⟩⟩
        · by_cases hj : j = i
          · subst hj; exact fun _ => hne
          · exact hf j a (by omega)
        · have e := kI_hit h0 h1 hp he
          exact rdo hC hK Sm.rf hF (by unfold q_accounts; rw [e, if_neg (by omega)])
  exact key 0 (by omega) hA.1.1 (fun j a b => by omega)
theorem lk_pos {A : St} {R i : Int} (h : lk A R i = true) (hR : 0 ≤ R) : 0 < A 3 i := by
  unfold lk at h
  rw [Bool.or_eq_true] at h
  rcases h with h | h
  · have := ce_t.mp h; omega
  · simp only [decide_eq_true_eq] at h
    -- a hit item has coins of the rest
    refine Classical.byContradiction fun hn => ?_
    have : th A R i = 0 := cI_none R hR (fun j a b => by
      unfold sk rc co
      rw [if_neg hn]
      simp)
    omega
theorem c_line {K : Int → St → Prop} {A σ : St} (hC : CR A σ) (hF : FC σ) (hA : OKA A) {k i : Int} (hK : EC A σ (q_line A k i) K) : CI M_Cs_line [vR 0, vI k, vI i] σ K := by
  apply e_Cs_line
  refine ⟨fun hk => v_listed hC hA (by omega) ⟨fun h1 => ⟨fun h2 => ?_, fun h2 => (rdo hC hK Sm.rf hF (by unfold q_line; (repeat' split) <;> first | (exfalso; omega) | rfl | simp_all))⟩, fun h1 => (rdo hC hK Sm.rf hF (by unfold q_line; (repeat' split) <;> first | (exfalso; omega) | rfl | simp_all))⟩, fun hk => (rdo hC hK Sm.rf hF (by unfold q_line; (repeat' split) <;> first | (exfalso; omega) | rfl | simp_all))⟩
  have hin := kI_in (p := kdp A 2) (k := k) hA.1.1 hk
  rw [show kI (kdp A 2) k (A 0 0) = q_list A 2 k from rfl] at hin
  obtain ⟨g0, g1, g2⟩ : 0 ≤ q_list A 2 k ∧ q_list A 2 k < A 0 0 ∧ kdp A 2 (q_list A 2 k) = true := by
    rcases hin with h | h
    · exact absurd h h1
    · exact h
  have hp : 0 < A 3 (q_list A 2 k) := lk_pos (R := A 0 2) g2 hA.2.2.1.1
  have e : q_line A k i = if i < (lnW A (A 0 2) (q_list A 2 k)).1 then (lnW A (A 0 2) (q_list A 2 k)).2 i else -1 := by
    unfold q_line
    rw [if_neg (by omega), if_neg (by omega)]
  refine s_writeLine hC hA g0 g1 hp (fun σ1 s1 u1 => ?_)
  apply e_Li_signAt
  have hl := ln_len hA g0 g1 hA.2.2.1.1 (Int.le_refl _) hp
  have hl2 : (lnW A (A 0 2) (q_list A 2 k)).1 ≤ 23 := by
    unfold lnW
    split
    · omega
    · have := nmb_len (A 4 (q_list A 2 k)) (sgn (sgn (lnU A (A 0 2) (q_list A 2 k)) 32) 61)
      have e2 : (sgn (sgn (lnU A (A 0 2) (q_list A 2 k)) 32) 61).1 = (lnU A (A 0 2) (q_list A 2 k)).1 + 1 + 1 := rfl
      omega
  rw [u1.2.1]
  have fr := hF.sm s1 (by decide) (by decide)
  refine ⟨fun h => by omega, fun _ => ⟨fun h => rdo hC hK (s1.wk (by decide)) fr (by rw [e, if_neg (by omega)]), fun h => ⟨fun h3 => by omega, fun h3 => ⟨by omega, by omega, ?_⟩⟩⟩⟩
  rw [u1.2.2 i (by omega) (by omega)]
  exact rdo hC hK (s1.wk (by decide)) fr (by rw [e, if_pos (by omega)])
theorem c_projected {K : Int → St → Prop} {A σ : St} (hC : CR A σ) (hF : FC σ) (hA : OKA A) {w : Int} (hK : EC A σ (q_projected A w) K) : CI M_Cs_projected [vR 0, vI w] σ K := by
  apply e_Cs_projected
  have hR := hA.2.2.1
  have hh := hb_in hA hR.1 (Int.le_refl _)
  rw [hC.2.2.2.1.2.1]
  refine ⟨fun h0 => s_supposeNothing hC hA (fun σ1 s1 e1 => ?_), fun h0 => (rdo hC hK Sm.rf hF (by unfold q_projected; (repeat' split) <;> first | (exfalso; omega) | rfl | simp_all))⟩
  have h1 := hC.sm s1 (by decide)
  have fr := hF.sm s1 (by decide) (by decide)
  have go : ∀ v, q_projected A w = v → K v σ1 := fun v e => rdo hC hK (s1.wk (by decide)) fr e
  have pb : ∀ sg, (sg = 1 ∨ sg = -1) → 0 ≤ pn A (A 0 2) sg (hb A (A 0 2)) ∧ pn A (A 0 2) sg (hb A (A 0 2)) ≤ 1151988480 := fun sg h => by
    have := pn_in hA (R := A 0 2) h hh.1 (Int.le_refl _)
    omega
  have p1 := pb 1 (by omega)
  have p2 := pb (-1) (by omega)
  have k1 := kn_in2 hA (sg := 1) (by omega)
  have k2 := kn_in2 hA (sg := -1) (by omega)
  have vp : ∀ (sg : Int) (K : Int → St → Prop), (sg = 1 ∨ sg = -1) → K (pn A (A 0 2) sg (hb A (A 0 2))) σ1 → CI M_Es_projection [vR 28, vI sg] σ1 K := fun sg K h hK => v_projection h1 hA e1 hR.2.1 h hh.1 (Int.le_refl _) hK
  have vk : ∀ (sg : Int) (K : Int → St → Prop), (sg = 1 ∨ sg = -1) → K (kn A sg) σ1 → CI M_Es_known [vR 28, vI sg] σ1 K := fun sg K h hK => v_known h1 hA h hK
  refine ⟨fun h => vp 1 _ (by omega) (go _ (by unfold q_projected; (repeat' split) <;> first | (exfalso; omega) | rfl | simp_all)), fun h => vp (-1) _ (by omega) (go _ (by unfold q_projected; (repeat' split) <;> first | (exfalso; omega) | rfl | simp_all)), fun h => vk 1 _ (by omega) (go _ (by unfold q_projected; (repeat' split) <;> first | (exfalso; omega) | rfl | simp_all)), fun h => vk (-1) _ (by omega) (go _ (by unfold q_projected; (repeat' split) <;> first | (exfalso; omega) | rfl | simp_all)), fun h => vp 1 _ (by omega) (vk 1 _ (by omega) ⟨by omega, vp (-1) _ (by omega) ⟨by omega, vk (-1) _ (by omega) ⟨by omega, go _ ?_⟩⟩⟩), fun h => go _ (by unfold q_projected; (repeat' split) <;> first | (exfalso; omega) | rfl | simp_all)⟩
  unfold q_projected
  rw [if_neg (by omega), if_neg (by omega), if_neg (by omega), if_neg (by omega), if_neg (by omega)]
  rfl
theorem c_taint {K : Int → St → Prop} {A σ : St} (hC : CR A σ) (hF : FC σ) (hA : OKA A) {k w : Int} (hK : EC A σ (q_taint A k w) K) : CI M_Cs_taint [vR 0, vI k, vI w] σ K := by
  apply e_Cs_taint
  have hR := hA.2.2.1
  have ht := hA.2.2.2.2.2
  have hh := hb_in hA hR.1 (Int.le_refl _)
  have eh : hmq A = hb A (A 0 2) := rfl
  refine s_supposeNothing hC hA (fun σ1 s1 e1 => s_rank (hC.sm s1 (by decide)) hA e1 (Or.inl rfl) hh.1 (Int.le_refl _) (fun σ2 s2 e2 k2 => ?_))
  have s := (s1.wk (T := [28, 29, 37]) (by decide)).tr s2
  have h2 := hC.sm s (by decide)
  have fr := hF.sm s (by decide) (by decide)
  have go : ∀ v, q_taint A k w = v → K v σ2 := fun v e => rdo hC hK (s.wk (by decide)) fr e
  have hr := rk_in (w := wT A 1) (hb A (A 0 2)) hh.1
  refine s_hasRank k2 (fun g0 g1 => ⟨fun _ => ?_, fun h => by omega⟩) (fun h => ⟨fun h => absurd rfl h, fun _ => go _ (by unfold q_taint hmq; (repeat' split) <;> first | (exfalso; omega) | rfl | simp_all)⟩)
  have hq := hr.2.2 k g0 g1
  rw [(k2.2 k g0 g1).1, (k2.2 k g0 g1).2]
  refine ⟨fun h => ⟨g0, by omega, go _ (by unfold q_taint hmq; (repeat' split) <;> first | (exfalso; omega) | rfl | simp_all)⟩, fun h => ⟨g0, by omega, by rw [show wT A 1 (rf (wT A 1) (hb A (A 0 2)) k) = ta A (hI A (rf (wT A 1) (hb A (A 0 2)) k)) from Int.one_mul _]; exact go _ (by unfold q_taint hmq; (repeat' split) <;> first | (exfalso; omega) | rfl | simp_all)⟩, fun h => v_rise h2 hA fr e2 k2 (Or.inl rfl) hh.1 (Int.le_refl _) (by omega) (by omega) ht.2.1.1 ht.2.1.2 g0 g1 (fun σ3 s3 f3 => rdo hC hK ((s.wk (T := scC) (by decide)).tr (s3.wk (by decide))) f3 (by unfold q_taint hmq; (repeat' split) <;> first | (exfalso; omega) | rfl | simp_all)), fun h => go _ (by unfold q_taint hmq; (repeat' split) <;> first | (exfalso; omega) | rfl | simp_all)⟩
theorem prt_def {A : St} {sg w : Int} : prt A sg w = if w = 0 then ba A (hb A (A 0 2)) (A 6 1) else if w = 1 then rs A sg (hb A (A 0 2)) (hb A (A 0 2)) (A 6 1) else if w = 2 then kn A sg else LI A (A 0 2) (hb A (A 0 2)) (A 6 1) sg := rfl
theorem c_bound {K : Int → St → Prop} {A σ : St} (hC : CR A σ) (hF : FC σ) (hA : OKA A) {w : Int} (hK : EC A σ (q_bound A w) K) : CI M_Cs_bound [vR 0, vI w] σ K := by
  apply e_Cs_bound
  have hR := hA.2.2.1
  have ht := hA.2.2.2.2.2
  have hh := hb_in hA hR.1 (Int.le_refl _)
  have hl := LI_in hA (R := A 0 2) (n := hb A (A 0 2)) (r := A 6 1) (Or.inl rfl : (1 : Int) = 1 ∨ (1 : Int) = -1) hR.1 (Int.le_refl _) (by omega) ht.2.1.1 ht.2.1.2
  rw [hC.2.2.2.1.2.1]
  refine ⟨fun h => (rdo hC hK Sm.rf hF (by unfold q_bound; (repeat' split) <;> first | (exfalso; omega) | rfl | simp_all)), fun g1 => ⟨fun h => (rdo hC hK Sm.rf hF (by unfold q_bound; (repeat' split) <;> first | (exfalso; omega) | rfl | simp_all)), fun g2 => ⟨fun g3 => s_supposeNothing hC hA (fun σ1 s1 e1 => ?_), fun h => (rdo hC hK Sm.rf hF (by unfold q_bound; (repeat' split) <;> first | (exfalso; omega) | rfl | simp_all))⟩⟩⟩
  have h1 := hC.sm s1 (by decide)
  have fr := hF.sm s1 (by decide) (by decide)
  refine ⟨fun h => v_partOf h1 hA fr e1 (Or.inl rfl) hR.1 (Int.le_refl _) hh.1 (by omega) ht.2.1.1 ht.2.1.2 (fun σ2 s2 f2 => rdo hC hK ((s1.wk (T := scC) (by decide)).tr (s2.wk (by decide))) f2 ?_), fun h => v_of h1.2.1 (by omega) (by omega) (v_limit h1 hA fr e1 (Or.inl rfl) hR.1 (Int.le_refl _) hh.1 (by omega) ht.2.1.1 ht.2.1.2 (fun σ2 s2 f2 _ => ⟨by omega, rdo hC hK ((s1.wk (T := scC) (by decide)).tr (s2.wk (by decide))) f2 ?_⟩))⟩
  · unfold q_bound; rw [if_neg (by omega), if_neg h]; rfl
  · unfold q_bound; rw [if_neg (by omega), if_pos h]; rfl
theorem c_below {K : Int → St → Prop} {A σ : St} (hC : CR A σ) (hF : FC σ) (hA : OKA A) {w : Int} (hK : EC A σ (q_below A w) K) : CI M_Cs_below [vR 0, vI w] σ K := by
  apply e_Cs_below
  have hR := hA.2.2.1
  have ht := hA.2.2.2.2.2
  have hh := hb_in hA hR.1 (Int.le_refl _)
  rw [hC.2.2.2.1.2.1]
  refine ⟨fun h => (rdo hC hK Sm.rf hF (by unfold q_below; (repeat' split) <;> first | (exfalso; omega) | rfl | simp_all)), fun g1 => ⟨fun h => (rdo hC hK Sm.rf hF (by unfold q_below; (repeat' split) <;> first | (exfalso; omega) | rfl | simp_all)), fun g2 => ⟨fun g3 => s_supposeNothing hC hA (fun σ1 s1 e1 => ?_), fun h => (rdo hC hK Sm.rf hF (by unfold q_below; (repeat' split) <;> first | (exfalso; omega) | rfl | simp_all))⟩⟩⟩
  have h1 := hC.sm s1 (by decide)
  have fr := hF.sm s1 (by decide) (by decide)
  refine v_partOf h1 hA fr e1 (Or.inr rfl) hR.1 (Int.le_refl _) hh.1 (by omega) ht.2.1.1 ht.2.1.2 (fun σ2 s2 f2 => rdo hC hK ((s1.wk (T := scC) (by decide)).tr (s2.wk (by decide))) f2 ?_)
  unfold q_below; rw [if_neg (by omega)]; rfl
theorem c_judged {K : Int → St → Prop} {A σ : St} (hC : CR A σ) (hF : FC σ) (hA : OKA A) (hK : EC A σ (q_judged A) K) : CI M_Cs_judged [vR 0] σ K := by
  apply e_Cs_judged
  have hR := hA.2.2.1
  have ht := hA.2.2.2.2.2
  have hh := hb_in hA hR.1 (Int.le_refl _)
  rw [hC.2.2.2.1.2.1]
  refine ⟨fun h0 => v_lackingBy hC hA hR.1 (Int.le_refl _) ?_, fun h0 => (rdo hC hK Sm.rf hF (by unfold q_judged; (repeat' split) <;> first | (exfalso; omega) | rfl | simp_all))⟩
  rw [show (fun i => decide (A 4 i = -1) && lk A (A 0 2) i) = lackp A (A 0 2) from rfl]
  refine ⟨fun g1 => s_supposeNothing hC hA (fun σ1 s1 e1 => ?_), fun g1 => (rdo hC hK Sm.rf hF (by unfold q_judged; (repeat' split) <;> first | (exfalso; omega) | rfl | simp_all))⟩
  have h1 := hC.sm s1 (by decide)
  have fr := hF.sm s1 (by decide) (by decide)
  refine v_isAccepted h1 hA fr e1 hR.1 (Int.le_refl _) hh.1 (by omega) ht.2.1.1 ht.2.1.2 (fun σ2 s2 f2 _ => ?_)
  have go : ∀ v, q_judged A = v → K v σ2 := fun v e => rdo hC hK ((s1.wk (T := scC) (by decide)).tr (s2.wk (by decide))) f2 e
  have e : q_judged A = if ACC A (A 0 2) (hb A (A 0 2)) (A 6 1) then 2 else 3 := by unfold q_judged; rw [if_neg h0, if_neg (by omega)]; rfl
  cases hc : ACC A (A 0 2) (hb A (A 0 2)) (A 6 1) with
  | true => rw [hc] at e; exact ⟨fun h => by simp [bi] at h, fun _ => go _ e⟩
  | false => rw [hc] at e; exact ⟨fun _ => go _ e, fun h => absurd rfl h⟩
theorem deN_in {A : St} : ∀ k : Nat, -1 ≤ (deN A k).1 ∧ (deN A k).1 < k := by
  intro k
  induction k with
  | zero => exact ⟨Int.le_refl _, by show (-1 : Int) < 0; omega⟩
  | succ k ih =>
    unfold deN
    split
    · exact ⟨by show -1 ≤ (k : Int); omega, by show (k : Int) < _; omega⟩
    · omega
theorem deN_s {A : St} {i : Int} (h : 0 ≤ i) : deN A (i + 1).toNat = if lk A (A 0 2) i = true ∧ 0 < er A i ∧ ((deN A i.toNat).1 = -1 ∨ bwq A i (A 3 i) < (deN A i.toNat).2) then (i, bwq A i (A 3 i)) else deN A i.toNat := by
  rw [show (i + 1).toNat = i.toNat + 1 by omega]
  show (if lk A (A 0 2) (i.toNat : Int) = true ∧ 0 < er A (i.toNat : Int) ∧ ((deN A i.toNat).1 = -1 ∨ bwq A (i.toNat : Int) (A 3 (i.toNat : Int)) < (deN A i.toNat).2) then (((i.toNat : Nat) : Int), bwq A (i.toNat : Int) (A 3 (i.toNat : Int))) else deN A i.toNat) = _
  rw [Int.toNat_of_nonneg h]
theorem er_pos {A : St} (hA : OKL A) {i : Int} (h0 : 0 ≤ i) (h1 : i < A 0 0) (he : 0 < er A i) : 0 < A 3 i := by
  have := hA.2.2 i h0 h1
  unfold er at he
  split at he <;> omega
theorem lkc_in {A : St} (hA : OKA A) {i : Int} (h0 : 0 ≤ i) (h1 : i ≤ A 0 0) : 0 ≤ sI (lkc A) i ∧ sI (lkc A) i ≤ sI (co A) i := by
  have hr : ∀ j, 0 ≤ j → j < i → 0 ≤ lkc A j ∧ lkc A j ≤ co A j := fun j a b => by
    have := co_in hA.1 a (show j < A 0 0 by omega)
    unfold lkc
    split <;> omega
  exact ⟨sI_nn h0 (fun j a b => (hr j a b).1), sI_lef h0 (fun j a b => (hr j a b).2)⟩
theorem cov_in {A : St} (hA : OKA A) (h : al A ≠ 0) : 0 ≤ sI (lkc A) (A 0 0) * 1000 / al A ∧ sI (lkc A) (A 0 0) * 1000 / al A ≤ 1000 := by
  have h1 := lkc_in hA hA.1.1 (Int.le_refl _)
  have ha := al_in hA.1
  have e : al A = sI (co A) (A 0 0) := rfl
  have h2 := Int.ediv_nonneg (show 0 ≤ sI (lkc A) (A 0 0) * 1000 by omega) ha.1
  have h3 := Int.ediv_le_ediv (show 0 < al A by omega) (show sI (lkc A) (A 0 0) * 1000 ≤ 1000 * al A by omega)
  rw [Int.mul_ediv_cancel _ h] at h3
  omega
theorem c_covered {K : Int → St → Prop} {A σ : St} (hC : CR A σ) (hF : FC σ) (hA : OKA A) (hK : EC A σ (q_covered A) K) : CI M_Cs_covered [vR 0] σ K := by
  apply e_Cs_covered
  have h48 := hA.1.2.1
  have ha := al_in hA.1
  refine s_allCoins hC.1 hA.1 ⟨fun h0 => ?_, fun h0 => (rdo hC hK Sm.rf hF (by unfold q_covered; (repeat' split) <;> first | (exfalso; omega) | rfl | simp_all))⟩
  have key : ∀ i, 0 ≤ i → i ≤ A 0 0 → WM M_Cs_covered 19 [(0, vR 0), (1, vI (al A)), (2, vL (sI (lkc A) i)), (4, vI i)] [] σ (QI K) := by
    refine up_ind ?_ (fun i a b ih => ?_)
    · apply l_Cs_covered_1
      rw [hC.1.1]
      have h1 := lkc_in hA hA.1.1 (Int.le_refl _)
      have e : al A = sI (co A) (A 0 0) := rfl
      have hc := cov_in hA h0
      exact ⟨fun _ => ⟨by omega, by omega, by omega, by omega, (rdo hC hK Sm.rf hF (by unfold q_covered; (repeat' split) <;> first | (exfalso; omega) | rfl | simp_all))⟩, fun h => by omega⟩
    · apply l_Cs_covered_1
      rw [hC.1.1, hC.2.2.2.1.2.1]
      have h1 := lkc_in hA a (show i ≤ A 0 0 by omega)
      have h2 := sI_mono (f := co A) a (show i ≤ A 0 0 by omega) (fun j x y => (co_in hA.1 (by omega) y).1)
      have e : al A = sI (co A) (A 0 0) := rfl
      have hc := co_in hA.1 a b
      rw [sI_s a] at ih
      refine ⟨fun h => by omega, fun _ => v_isLookedAt hC hA hA.2.2.1.1 (Int.le_refl _) a b ?_⟩
      unfold lkc at ih
      cases hl : lk A (A 0 2) i with
      | false =>
        rw [hl, if_neg (by decide), Int.add_zero] at ih
        exact ⟨fun _ => ⟨by omega, ih⟩, fun h => absurd rfl h⟩
      | true =>
        rw [hl, if_pos rfl] at ih
        exact ⟨fun h => by simp [bi] at h, fun _ => v_coinsOf_3 hC.1 hA.1 a b ⟨by omega, by omega, ih⟩⟩
  exact key 0 (by omega) hA.1.1
theorem v_itemsHit {K : Int → St → Prop} {A σ : St} (hC : CR A σ) (hA : OKA A) (hK : K (cI (hitp A) (A 0 0)) σ) : CI M_Cs_itemsHit [vR 0] σ K := by
  apply e_Cs_itemsHit
  have h48 := hA.1.2.1
  have key : ∀ i, 0 ≤ i → i ≤ A 0 0 → WM M_Cs_itemsHit 4 [(0, vR 0), (1, vI (cI (hitp A) i)), (2, vI i)] [] σ (QI K) := by
    refine up_ind ?_ (fun i a b ih => ?_)
    · apply l_Cs_itemsHit_1
      rw [hC.1.1]
      exact ⟨fun _ => hK, fun h => by omega⟩
    · apply l_Cs_itemsHit_1
      rw [hC.1.1, hC.2.2.2.1.2.1]
      have hc := cI_in (p := hitp A) a
      refine ⟨fun h => by omega, fun _ => v_timesHit hC hA hA.2.2.1.1 (Int.le_refl _) a b ⟨fun h => ⟨by omega, ?_⟩, fun h => ⟨by omega, by omega, ?_⟩⟩⟩
      · rw [cI_f a (by unfold hitp; simp; omega)] at ih; exact ih
      · rw [cI_t a (by unfold hitp; simp; omega)] at ih; exact ih
  exact key 0 (by omega) hA.1.1
theorem c_count {K : Int → St → Prop} {A σ : St} (hC : CR A σ) (hF : FC σ) (hA : OKA A) {w : Int} (hw : inR w) (hK : EC A σ (q_count A w) K) : CI M_Cs_count [vR 0, vI w] σ K := by
  apply e_Cs_count
  have go : ∀ v, q_count A w = v → K v σ := fun v e => rdo hC hK Sm.rf hF e
  rw [hC.1.1, hC.2.2.1.2.1, hC.2.2.1.1, hC.2.2.2.1.2.1, hC.2.2.2.2.1.1, hC.2.2.2.1.1]
  refine ⟨fun g => ⟨fun h => go _ (by unfold q_count; (repeat' split) <;> first | (exfalso; omega) | rfl | simp_all), fun h => s_allCoins hC.1 hA.1 (go _ (by unfold q_count; (repeat' split) <;> first | (exfalso; omega) | rfl | simp_all)), fun h => go _ (by unfold q_count; (repeat' split) <;> first | (exfalso; omega) | rfl | simp_all), fun h => go _ (by unfold q_count; (repeat' split) <;> first | (exfalso; omega) | rfl | simp_all), fun h => go _ (by unfold q_count; (repeat' split) <;> first | (exfalso; omega) | rfl | simp_all), fun h => v_hitsOf hC.2.2.2.1 hA hA.2.2.1.1 (Int.le_refl _) (go _ ?_), fun h => v_itemsHit hC hA (go _ (by unfold q_count; (repeat' split) <;> first | (exfalso; omega) | rfl | simp_all)), fun h => go _ (by unfold q_count; (repeat' split) <;> first | (exfalso; omega) | rfl | simp_all), fun h => s_auditedItems hC.1 hA.1 (go _ ?_), fun h => go _ (by unfold q_count; (repeat' split) <;> first | (exfalso; omega) | rfl | simp_all), fun h => go _ (by unfold q_count; (repeat' split) <;> first | (exfalso; omega) | rfl | simp_all)⟩, fun g => ⟨by omega, s_has (fun h0 h1 => ⟨fun h => by omega, fun _ => v_of hC.2.1 h0 h1 (go _ (by unfold q_count; (repeat' split) <;> first | (exfalso; omega) | rfl | simp_all))⟩) (fun h => ⟨fun _ => ⟨fun h => by omega, fun h => by omega, fun h => by omega, fun h => by omega, fun h => by omega, fun h => by omega, fun h => by omega, fun h => by omega, fun h => by omega, fun h => by omega, fun h => go _ (by unfold q_count; (repeat' split) <;> first | (exfalso; omega) | rfl | simp_all)⟩, fun h => absurd rfl h⟩)⟩⟩
  · subst h; rfl
  · subst h; rfl

