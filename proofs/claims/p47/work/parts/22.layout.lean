-- the layout by an interval: who is certain, where the rest's coins lie
/-- what a layout (at cell k, first coins at cell k + 1) holds of the ledger A by the interval v -/
def lz (A : St) (v i : Int) : Int := if rc A v i = 0 then 0 else prq A v i + rc A v i
def lc (k : Nat) : Nat := if k = 16 then 35 else 36
def YR (k : Nat) (A : St) (v : Int) (σ : St) : Prop := σ k 0 = v ∧ σ k 1 = Mq A v ∧ σ k 2 = cI (ce A v) (A 0 0) ∧ (∀ i, 0 ≤ i → i < A 0 0 → σ (k + 1) i = fc A v i) ∧ ∀ i, 0 ≤ i → i < A 0 0 → σ (lc k) i = lz A v i
theorem ce_t {A : St} {v i : Int} : ce A v i = true ↔ 0 < v ∧ v ≤ A 3 i := by unfold ce; simp
theorem ce_f {A : St} {v i : Int} : ce A v i = false ↔ ¬ (0 < v ∧ v ≤ A 3 i) := by unfold ce; simp
theorem ce_co {A : St} {v i : Int} (hv : 0 < v) : (v ≤ A 3 i) ↔ v ≤ co A i := by unfold co; split <;> omega
theorem fc_in {A : St} (h : OKL A) {v i : Int} (h0 : 0 ≤ i) (h1 : i < A 0 0) : (rc A v i = 0 ∧ fc A v i = 0) ∨ (0 < rc A v i ∧ fc A v i = prq A v i + 1 ∧ 1 ≤ fc A v i ∧ fc A v i + rc A v i - 1 ≤ Mq A v ∧ rc A v i = co A i ∧ fc A v i ≤ 4799952) := by
  have h2 := rc_in h (v := v) h0 h1
  have h3 := prq_in h (v := v) h0 (by omega)
  have h4 := prq_in h (v := v) (i := i + 1) (by omega) (by omega)
  have h5 := Mq_in h (v := v)
  rw [prq_s h0] at h4
  unfold fc
  by_cases hz : rc A v i = 0
  · rw [if_pos hz]; exact Or.inl ⟨hz, rfl⟩
  · rw [if_neg hz]
    refine Or.inr ⟨by omega, rfl, by omega, by omega, ?_, by omega⟩
    unfold rc at hz ⊢
    split at hz
    · exact absurd rfl hz
    · next hh => rw [if_neg hh]
theorem YR16.fc {A σ : St} {v : Int} (h : YR 16 A v σ) {i : Int} (h0 : 0 ≤ i) (h1 : i < A 0 0) : σ 17 i = fc A v i := h.2.2.2.1 i h0 h1
theorem YR16.lz {A σ : St} {v : Int} (h : YR 16 A v σ) {i : Int} (h0 : 0 ≤ i) (h1 : i < A 0 0) : σ 35 i = lz A v i := h.2.2.2.2 i h0 h1
theorem v_isCertain_16 {K : Int → St → Prop} {A σ : St} (hL : LR 3 A σ) (hA : OKL A) {v : Int} (hv : σ 16 0 = v) {x : Int} (h0 : 0 ≤ x) (h1 : x < A 0 0) (hK : K (bi (ce A v x)) σ) : CI M_La_isCertain [vR 16, vI x] σ K := by
  apply e_La_isCertain_16
  rw [hv]
  refine ⟨fun h => ?_, fun h => v_coinsOf_3 hL hA h0 h1 ?_⟩
  · rw [bi_f (ce_f.mpr (by omega))] at hK; exact hK
  · rw [hv]
    have e := ce_co (A := A) (i := x) (show 0 < v by omega)
    refine ⟨fun h => ?_, fun h => ?_⟩
    · rw [bi_f (ce_f.mpr (by rw [e]; omega))] at hK; exact hK
    · rw [bi_t (ce_t.mpr (by rw [e]; omega))] at hK; exact hK
theorem v_firstCoin_16 {K : Int → St → Prop} {A σ : St} (hL : LR 3 A σ) (hA : OKL A) {v : Int} (hY : YR 16 A v σ) {x : Int} (h1 : 0 ≤ x → x < A 0 0 → K (fc A v x) σ) (h0 : (x < 0 ∨ A 0 0 ≤ x) → K 0 σ) : CI M_La_firstCoin [vR 16, vI x] σ K := by
  apply e_La_firstCoin_16
  have h48 := hA.2.1
  refine s_holds_3 hL (fun a b => ⟨fun h => by omega, fun _ => ⟨a, by omega, ?_⟩⟩) (fun h => ⟨fun _ => h0 h, fun h => absurd rfl h⟩)
  rw [YR16.fc hY a b]
  exact h1 a b
/-- the last coin of an item, 0 if it has none of the rest -/
theorem v_lastCoin_16 {K : Int → St → Prop} {A σ : St} (hL : LR 3 A σ) (hA : OKL A) {v : Int} (hY : YR 16 A v σ) {x : Int} (h0 : 0 ≤ x) (h1 : x < A 0 0) (hK : K (if rc A v x = 0 then 0 else prq A v x + rc A v x) σ) : CI M_La_lastCoin [vR 16, vI x] σ K := by
  apply e_La_lastCoin_16
  have h48 := hA.2.1
  refine s_holds_3 hL (fun a b => ⟨fun h => by omega, fun _ => ⟨a, by omega, ?_⟩⟩) (fun h => by omega)
  rw [YR16.lz hY h0 h1]
  exact hK
theorem v_hitsFrom_16 {K : Int → St → Prop} {A σ : St} (hA : OKL A) {v : Int} (hv0 : 0 ≤ v) (hY : YR 16 A v σ) {x : Int} (hx : 1 ≤ x) (hK : K (nh A v x) σ) : CI M_La_hitsFrom [vR 16, vI x] σ K := by
  apply e_La_hitsFrom_16
  rw [hY.1, hY.2.1]
  have hM := Mq_in hA (v := v)
  unfold nh at hK
  refine ⟨fun h => ?_, fun h => ⟨fun h2 => ?_, fun h2 => ?_⟩⟩
  · rw [if_pos (Or.inl h)] at hK; exact hK
  · rw [if_neg (by omega)] at hK
    have h3 := q_div_le (a := Mq A v - x) (b := v) (by omega) (by omega)
    exact ⟨by omega, by omega, by omega, by omega, hK⟩
  · rw [if_pos (by omega)] at hK; exact hK
theorem v_strikes_16 {K : Int → St → Prop} {A σ : St} (hL : LR 3 A σ) (hA : OKL A) {v : Int} (hv0 : 0 ≤ v) (hv1 : v ≤ 9999999) (hY : YR 16 A v σ) {s x : Int} (hs0 : 0 ≤ s) (hs1 : s ≤ 9999999) (h0 : 0 ≤ x) (h1 : x < A 0 0) (hK : K (bi (sk A v s x)) σ) : CI M_La_strikes [vR 16, vI s, vI x] σ K := by
  apply e_La_strikes_16
  have hf := fc_in hA (v := v) h0 h1
  have hM := Mq_in hA (v := v)
  refine v_firstCoin_16 hL hA hY (fun _ _ => ?_) (fun h => by omega)
  rw [hY.1]
  refine ⟨fun h => ?_, fun h => ⟨fun h2 => ⟨by omega, s_floorMod (by omega) hv1 (by omega) ?_⟩, fun h2 => ?_⟩⟩
  · rw [bi_f (by unfold sk; simp; omega)] at hK; exact hK
  · have h3 := Int.emod_nonneg (s - fc A v x) (show v ≠ 0 by omega)
    have h4 := Int.emod_lt_of_pos (s - fc A v x) (show 0 < v by omega)
    refine ⟨by omega, v_lastCoin_16 hL hA hY h0 h1 ?_⟩
    rw [if_neg (by omega)]
    refine ⟨fun h5 => ?_, fun h5 => ?_⟩
    · rw [bi_f (by unfold sk; simp; omega)] at hK; exact hK
    · rw [bi_t (by unfold sk; simp; omega)] at hK; exact hK
  · rw [bi_f (by unfold sk; simp; omega)] at hK; exact hK
/-- the layout is laid anew; nothing else changes -/
theorem s_lay_16 {K : St → Prop} {A σ : St} (hL : LR 3 A σ) (hA : OKL A) {v : Int} (hK : ∀ σ', (∀ c j, c ≠ 16 → c ≠ 17 → c ≠ 35 → σ' c j = σ c j) → YR 16 A v σ' → K σ') : CV M_La_lay [vR 16, vI v] σ K := by
  apply e_La_lay_16
  have h48 := hA.2.1
  have key : ∀ i, 0 ≤ i → i ≤ A 0 0 → ∀ τ : St, (∀ c j, c ≠ 16 → c ≠ 17 → c ≠ 35 → τ c j = σ c j) → τ 16 0 = v → τ 16 1 = prq A v i → τ 16 2 = cI (ce A v) i → (∀ j, 0 ≤ j → j < i → τ 17 j = fc A v j) → (∀ j, 0 ≤ j → j < i → τ 35 j = lz A v j) → WM M_La_lay 17 [(0, vR 16), (2, vI i)] [] τ (QV K) := by
    refine up_ind (fun τ hf t0 t1 t2 t3 t4 => ?_) (fun i h0 h1 ih τ hf t0 t1 t2 t3 t4 => ?_)
    · apply l_La_lay_16_1
      rw [hf 3 4 (by decide) (by decide) (by decide), hL.1]
      exact ⟨fun _ => hK τ hf ⟨t0, t1, t2, t3, t4⟩, fun h => by omega⟩
    · have hLt : ∀ τ' : St, (∀ c j, c ≠ 16 → c ≠ 17 → c ≠ 35 → τ' c j = σ c j) → LR 3 A τ' := fun τ' h => by
        refine ⟨by rw [h 3 4 (by decide) (by decide) (by decide)]; exact hL.1, fun j a b => ?_⟩
        rw [h 4 j (by decide) (by decide) (by decide), h 5 j (by decide) (by decide) (by decide), h 6 j (by decide) (by decide) (by decide), h 7 j (by decide) (by decide) (by decide)]
        exact hL.2 j a b
      have hup : ∀ (τ' : St) (c : Nat) (q w : Int), (∀ c j, c ≠ 16 → c ≠ 17 → c ≠ 35 → τ' c j = σ c j) → (c = 16 ∨ c = 17 ∨ c = 35) → (∀ c' j, c' ≠ 16 → c' ≠ 17 → c' ≠ 35 → ups τ' c q w c' j = σ c' j) := fun τ' c q w h hc c' j a b d => by
        rw [ups_c (by rcases hc with h | h | h <;> omega)]
        exact h c' j a b d
      have P0 : ∀ c j, c ≠ 16 → c ≠ 17 → c ≠ 35 → ups (ups τ 17 i 0) 35 i 0 c j = σ c j := hup _ _ _ _ (hup τ _ _ _ hf (Or.inr (Or.inl rfl))) (Or.inr (Or.inr rfl))
      have l0 : rc A v i = 0 → lz A v i = 0 := fun h => by unfold lz; rw [if_pos h]
      have hcin := cI_in (p := ce A v) h0
      have hp := prq_in hA (v := v) h0 (by omega)
      have hr := rc_in hA (v := v) h0 h1
      have hc := co_in hA h0 h1
      apply l_La_lay_16_1
      rw [hf 3 4 (by decide) (by decide) (by decide), hL.1]
      refine ⟨fun h => by omega, fun _ => ⟨h0, by omega, v_isCertain_16 (v := v) (hLt _ P0) hA (by rw [ups_c (by decide), ups_c (by decide)]; exact t0) h0 h1 ?_⟩⟩
      have z3 : ∀ j, 0 ≤ j → j < i + 1 → rc A v i = 0 → ups (ups τ 17 i 0) 35 i 0 17 j = fc A v j := fun j a b e => by
        rw [ups_c (by decide)]
        by_cases hj : j = i
        · subst hj
          rw [ups_s]
          unfold fc; rw [if_pos e]
        · rw [ups_f hj]
          exact t3 j a (by omega)
      have z4 : ∀ j, 0 ≤ j → j < i + 1 → rc A v i = 0 → ups (ups τ 17 i 0) 35 i 0 35 j = lz A v j := fun j a b e => by
        by_cases hj : j = i
        · subst hj
          rw [ups_s, l0 e]
        · rw [ups_f hj, ups_c (by decide)]
          exact t4 j a (by omega)
      cases hce : ce A v i with
      | true =>
        have e0 : rc A v i = 0 := by unfold rc; rw [if_pos hce]
        refine ⟨fun h => by simp [bi] at h, fun _ => ?_⟩
        rw [ups_c (by decide), ups_c (by decide), t2]
        refine ⟨by omega, by omega, ih _ (hup _ _ _ _ P0 (Or.inl rfl)) ?_ ?_ ?_ (fun j a b => ?_) (fun j a b => ?_)⟩
        · rw [ups_f (by decide), ups_c (by decide), ups_c (by decide)]; exact t0
        · rw [ups_f (by decide), ups_c (by decide), ups_c (by decide), prq_s h0]
          omega
        · rw [ups_s, cI_t h0 hce]
        · rw [ups_c (by decide)]; exact z3 j a b e0
        · rw [ups_c (by decide)]; exact z4 j a b e0
      | false =>
        have er : rc A v i = co A i := by unfold rc; rw [if_neg (by simp [hce])]
        refine ⟨fun _ => v_coinsOf_3 (hLt _ P0) hA h0 h1 ⟨fun h3 => ⟨by omega, ih _ P0 ?_ ?_ ?_ (fun j a b => z3 j a b (by omega)) (fun j a b => z4 j a b (by omega))⟩, fun h3 => ?_⟩, fun h => by simp [bi] at h⟩
        · rw [ups_c (by decide), ups_c (by decide)]; exact t0
        · rw [ups_c (by decide), ups_c (by decide), prq_s h0]; omega
        · rw [ups_c (by decide), ups_c (by decide), cI_f h0 hce]; exact t2
        · rw [ups_c (by decide), ups_c (by decide), t1]
          have h2 := hup _ 17 i (prq A v i + 1) P0 (Or.inr (Or.inl rfl))
          refine ⟨by omega, v_coinsOf_3 (hLt _ h2) hA h0 h1 ⟨by omega, by omega, ih _ (hup _ _ _ _ (hup _ _ _ _ h2 (Or.inl rfl)) (Or.inr (Or.inr rfl))) ?_ ?_ ?_ (fun j a b => ?_) (fun j a b => ?_)⟩⟩
          · rw [ups_c (by decide), ups_f (by decide), ups_c (by decide), ups_c (by decide), ups_c (by decide)]; exact t0
          · rw [ups_c (by decide), ups_s, prq_s h0]; omega
          · rw [ups_c (by decide), ups_f (by decide), ups_c (by decide), ups_c (by decide), ups_c (by decide), cI_f h0 hce]; exact t2
          · rw [ups_c (by decide), ups_c (by decide)]
            by_cases hj : j = i
            · subst hj
              rw [ups_s]
              unfold fc; rw [if_neg (by omega)]
            · rw [ups_f hj, ups_c (by decide), ups_f hj]
              exact t3 j a (by omega)
          · by_cases hj : j = i
            · subst hj
              rw [ups_s]
              unfold lz; rw [if_neg (by omega)]; omega
            · rw [ups_f hj, ups_c (by decide), ups_c (by decide), ups_f hj, ups_c (by decide)]
              exact t4 j a (by omega)
  refine key 0 (by omega) hA.1 _ ?_ ?_ ?_ ?_ (fun j a b => by omega) (fun j a b => by omega)
  · intro c j a b _
    rw [ups_c a, ups_c a, ups_c a]
  · rw [ups_f (by decide), ups_f (by decide), ups_s]
  · rw [ups_f (by decide), ups_s]; rfl
  · rw [ups_s]; rfl
theorem YR18.fc {A σ : St} {v : Int} (h : YR 18 A v σ) {i : Int} (h0 : 0 ≤ i) (h1 : i < A 0 0) : σ 19 i = fc A v i := h.2.2.2.1 i h0 h1
theorem YR18.lz {A σ : St} {v : Int} (h : YR 18 A v σ) {i : Int} (h0 : 0 ≤ i) (h1 : i < A 0 0) : σ 36 i = lz A v i := h.2.2.2.2 i h0 h1
