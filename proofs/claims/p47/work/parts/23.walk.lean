-- the walk: runs, hits, who is looked at
theorem mul_le_l {a b c : Int} (h : a ≤ b) (hc : 0 ≤ c) : c * a ≤ c * b := Int.mul_le_mul_of_nonneg_left h hc
theorem nh_in {A : St} (hA : OKL A) {v s : Int} (hv : 0 ≤ v) (hs : 1 ≤ s) : 0 ≤ nh A v s ∧ nh A v s ≤ 48 := by
  unfold nh
  split
  · omega
  · next h =>
    have hv0 : 0 < v := by omega
    have h1 : Mq A v ≤ (v - 1) * A 0 0 := sI_le (f := rc A v) (b := v - 1) hA.1 (fun j _ _ => by have := rc_lt (A := A) (i := j) hv0; omega)
    have h2 := mul_le_l (c := v - 1) hA.2.1 (by omega)
    have h3 : (Mq A v - s) / v < 48 := by
      rw [Int.ediv_lt_iff_lt_mul hv0]
      omega
    have h4 := Int.ediv_nonneg (show 0 ≤ Mq A v - s by omega) hv
    omega
/-- the j-th coin that a start hits is one of the rest's -/
theorem nh_coin {A : St} (hA : OKL A) {v s j : Int} (hv : 0 ≤ v) (hs : 1 ≤ s) (hs2 : s ≤ v) (h0 : 0 ≤ j) (h1 : j < nh A v s) : 1 ≤ s + j * v ∧ s + j * v ≤ Mq A v ∧ 0 < v := by
  unfold nh at h1
  split at h1
  · omega
  · next h =>
    have hv0 : 0 < v := by omega
    have h2 : j ≤ (Mq A v - s) / v := by omega
    have h3 : j * v ≤ Mq A v - s := by
      have := (Int.le_ediv_iff_mul_le hv0).mp h2
      exact this
    have h4 := Int.mul_nonneg h0 hv
    omega
theorem hb_s {A : St} {r : Int} (h : 0 ≤ r) : hb A (r + 1) = hb A r + nh A (A 0 1) (A 5 r) := sI_s h
theorem hb_in {A : St} (hA : OKA A) {r : Int} (h0 : 0 ≤ r) (h1 : r ≤ A 0 2) : 0 ≤ hb A r ∧ hb A r ≤ 48 * r := by
  have hr : ∀ q, 0 ≤ q → q < A 0 2 → 0 ≤ nh A (A 0 1) (A 5 q) ∧ nh A (A 0 1) (A 5 q) ≤ 48 := fun q a b => nh_in hA.1 hA.2.1.1 (hA.2.2.1.2.2.2 q a b).1
  exact ⟨sI_nn h0 (fun j a b => (hr j a (by omega)).1), sI_le h0 (fun j a b => (hr j a (by omega)).2)⟩
theorem hb_mono {A : St} (hA : OKA A) {r q : Int} (h0 : 0 ≤ r) (h1 : r ≤ q) (h2 : q ≤ A 0 2) : hb A r ≤ hb A q :=
  sI_mono h0 h1 (fun j a b => (nh_in hA.1 hA.2.1.1 (hA.2.2.1.2.2.2 j (by omega) (by omega)).1).1)
/-- hit k of run r is hb r + j -/
theorem hR_eq {A : St} (hA : OKA A) {r j : Int} (h0 : 0 ≤ r) (h1 : r < A 0 2) (hj0 : 0 ≤ j) (hj1 : j < nh A (A 0 1) (A 5 r)) : hR A (hb A r + j) = r := by
  unfold hR
  refine fI_eq h0 (by have := hA.2.2.1.2.1; omega) (by rw [hb_s h0]; simp; omega) (fun q a b => ?_)
  have := hb_mono hA (r := q + 1) (q := r) (by omega) (by omega) (by omega)
  simp
  omega
theorem hC_eq {A : St} (hA : OKA A) {r j : Int} (h0 : 0 ≤ r) (h1 : r < A 0 2) (hj0 : 0 ≤ j) (hj1 : j < nh A (A 0 1) (A 5 r)) : hC A (hb A r + j) = A 5 r + j * A 0 1 := by
  unfold hC
  rw [hR_eq hA h0 h1 hj0 hj1]
  rw [show hb A r + j - hb A r = j by omega]
/-- every hit is one of a run's -/
theorem hR_ex {A : St} (hA : OKA A) {k : Int} (h0 : 0 ≤ k) (h1 : k < hb A (A 0 2)) : ∃ r j, 0 ≤ r ∧ r < A 0 2 ∧ 0 ≤ j ∧ j < nh A (A 0 1) (A 5 r) ∧ k = hb A r + j := by
  have key : ∀ n, 0 ≤ n → n ≤ A 0 2 → k < hb A n → ∃ r j, 0 ≤ r ∧ r < A 0 2 ∧ 0 ≤ j ∧ j < nh A (A 0 1) (A 5 r) ∧ k = hb A r + j := by
    refine nn_ind (fun _ h => ?_) (fun n hn ih h2 h3 => ?_)
    · have : hb A 0 = 0 := rfl
      omega
    · by_cases hk : k < hb A n
      · exact ih (by omega) hk
      · rw [hb_s hn] at h3
        exact ⟨n, k - hb A n, hn, by omega, by omega, by omega, by omega⟩
  exact key (A 0 2) hA.2.2.1.1 (Int.le_refl _) h1
theorem prq_mono {A : St} (hA : OKL A) {v i k : Int} (h0 : 0 ≤ i) (h1 : i ≤ k) (h2 : k ≤ A 0 0) : prq A v i ≤ prq A v k := sI_mono h0 h1 (fun j a b => (rc_in hA (by omega) (by omega)).1)
/-- the item that has coin c of the rest -/
theorem ow_spec {A : St} (hA : OKL A) {v c : Int} (h0 : 1 ≤ c) (h1 : c ≤ Mq A v) : 0 ≤ ow A v c ∧ ow A v c < A 0 0 ∧ 0 < rc A v (ow A v c) ∧ prq A v (ow A v c) < c ∧ c ≤ prq A v (ow A v c) + rc A v (ow A v c) := by
  have key : ∀ n, 0 ≤ n → n ≤ A 0 0 → c ≤ prq A v n → ∃ i, 0 ≤ i ∧ i < n ∧ 0 < rc A v i ∧ prq A v i < c ∧ c ≤ prq A v i + rc A v i := by
    refine nn_ind (fun _ h => ?_) (fun n hn ih h2 h3 => ?_)
    · have : prq A v 0 = 0 := rfl
      omega
    · by_cases hc : c ≤ prq A v n
      · obtain ⟨i, a, b, d⟩ := ih (by omega) hc
        exact ⟨i, a, by omega, d⟩
      · rw [prq_s hn] at h3
        exact ⟨n, hn, by omega, by omega, by omega, h3⟩
  obtain ⟨i, a, b, d, e, f⟩ := key (A 0 0) hA.1 (Int.le_refl _) h1
  have : ow A v c = i := by
    unfold ow
    refine fI_eq a b (by simp; omega) (fun j x y => ?_)
    have := prq_mono hA (v := v) (i := j + 1) (k := i) (by omega) (by omega) (by omega)
    rw [prq_s x] at this
    simp
    omega
  rw [this]
  exact ⟨a, b, d, e, f⟩
theorem ow_eq {A : St} (hA : OKL A) {v c i : Int} (h0 : 0 ≤ i) (h1 : i < A 0 0) (h2 : prq A v i < c) (h3 : c ≤ prq A v i + rc A v i) : ow A v c = i := by
  unfold ow
  refine fI_eq h0 h1 (by simp; omega) (fun j x y => ?_)
  have := prq_mono hA (v := v) (i := j + 1) (k := i) (by omega) (by omega) (by omega)
  rw [prq_s x] at this
  simp
  omega
def WR (A σ : St) : Prop := σ 20 0 = A 0 3 ∧ σ 20 1 = A 0 2 ∧ (∀ r, 0 ≤ r → r < A 0 2 → σ 21 r = A 5 r ∧ σ 25 r = hb A (r + 1)) ∧ (∀ k, 0 ≤ k → k < hb A (A 0 2) → σ 22 k = hI A k ∧ σ 23 k = hC A k ∧ σ 24 k = hR A k)
/-- what the class's own cells hold of A -/
def CR (A σ : St) : Prop := LR 3 A σ ∧ TR A σ ∧ YR 16 A (A 0 1) σ ∧ WR A σ ∧ (σ 1 1 = A 0 4 ∧ ∀ i, 0 ≤ i → i < A 0 4 → σ 2 i = A 7 i) ∧ (σ 8 1 = A 0 5 ∧ σ 8 2 = A 0 6)
theorem v_ownerOf {K : Int → St → Prop} {A σ : St} (hL : LR 3 A σ) (hY : YR 16 A (A 0 1) σ) (hA : OKL A) {c : Int} (hc : 1 ≤ c) (hK : K (ow A (A 0 1) c) σ) : CI M_La_ownerOf [vR 16, vI c] σ K := by
  apply e_La_ownerOf
  have hn := hL.1
  have h48 := hA.2.1
  have key : ∀ i, 0 ≤ i → i ≤ A 0 0 → (∀ j, 0 ≤ j → j < i → decide (0 < rc A (A 0 1) j ∧ c ≤ prq A (A 0 1) j + rc A (A 0 1) j) = false) → WM M_La_ownerOf 2 [(0, vR 16), (1, vI c), (2, vI i)] [] σ (QI K) := by
    refine up_ind (fun hf => ?_) (fun i h0 h1 ih hf => ?_)
    · apply l_La_ownerOf_1
      refine ⟨fun _ => ?_, fun h => by omega⟩
      unfold ow at hK
      rw [fI_none hA.1 hf] at hK
      exact hK
    · apply l_La_ownerOf_1
      have h2 := fc_in hA (v := A 0 1) h0 h1
      have hx : (∀ j, 0 ≤ j → j < i + 1 → decide (0 < rc A (A 0 1) j ∧ c ≤ prq A (A 0 1) j + rc A (A 0 1) j) = false) ↔ ¬ (0 < rc A (A 0 1) i ∧ c ≤ prq A (A 0 1) i + rc A (A 0 1) i) := by
        refine ⟨fun h => by simpa using h i h0 (by omega), fun h j a b => ?_⟩
        by_cases hj : j = i
        · subst hj; simpa using h
        · exact hf j a (by omega)
      rw [YR16.fc hY h0 h1, YR16.lz hY h0 h1]
      refine ⟨fun h => by omega, fun _ => ⟨h0, by omega, fun h3 => ⟨by omega, ih (hx.mpr (by omega))⟩, fun h3 => ⟨fun h4 => ?_, fun h4 => ⟨fun h5 => ⟨by omega, ih (hx.mpr ?_)⟩, fun h5 => ?_⟩⟩⟩⟩
      · -- a coin ahead of this item's first: it had to be found before
        exfalso
        have h5 : c ≤ prq A (A 0 1) i := by omega
        have key2 : ∀ n, 0 ≤ n → n ≤ i → prq A (A 0 1) n < c := by
          refine nn_ind (fun _ => ?_) (fun n hn ih2 h6 => ?_)
          · have : prq A (A 0 1) 0 = 0 := rfl
            omega
          · have h7 := ih2 (by omega)
            have h8 := hf n hn (by omega)
            have h9 := rc_in hA (v := A 0 1) hn (show n < A 0 0 by omega)
            rw [prq_s hn]
            have h10 : ¬ (0 < rc A (A 0 1) n ∧ c ≤ prq A (A 0 1) n + rc A (A 0 1) n) := by simpa using h8
            omega
        have := key2 i h0 (Int.le_refl _)
        omega
      · unfold lz at h5
        rw [if_neg (by omega)] at h5
        omega
      · unfold lz at h5
        rw [if_neg (by omega)] at h5
        rw [show ow A (A 0 1) c = i by unfold ow; exact fI_eq h0 h1 (by simp; omega) hf] at hK
        exact hK
  exact key 0 (by omega) hA.1 (fun j a b => by omega)
theorem v_ownerOf0 {K : Int → St → Prop} {A σ : St} (hL : LR 3 A σ) (hY : YR 16 A (A 0 1) σ) (hA : OKL A) {c : Int} (hc : c ≤ 0) (hK : K (-1) σ) : CI M_La_ownerOf [vR 16, vI c] σ K := by
  apply e_La_ownerOf
  have hn := hL.1
  have h48 := hA.2.1
  have key : ∀ i, 0 ≤ i → i ≤ A 0 0 → WM M_La_ownerOf 2 [(0, vR 16), (1, vI c), (2, vI i)] [] σ (QI K) := by
    refine up_ind ?_ (fun i h0 h1 ih => ?_)
    · apply l_La_ownerOf_1
      exact ⟨fun _ => hK, fun h => by omega⟩
    · apply l_La_ownerOf_1
      have h2 := fc_in hA (v := A 0 1) h0 h1
      rw [YR16.fc hY h0 h1]
      exact ⟨fun h => by omega, fun _ => ⟨h0, by omega, fun h3 => ⟨by omega, ih⟩, fun h3 => ⟨fun h4 => ⟨by omega, ih⟩, fun h4 => by omega⟩⟩⟩
  exact key 0 (by omega) hA.1
theorem s_hasRun {K : Int → St → Prop} {A σ : St} (hW : WR A σ) {x : Int} (h1 : 0 ≤ x → x < A 0 2 → K 1 σ) (h0 : (x < 0 ∨ A 0 2 ≤ x) → K 0 σ) : CI M_Wa_hasRun [vR 20, vI x] σ K := by
  apply e_Wa_hasRun
  rw [hW.2.1]
  exact ⟨fun h => h0 (by omega), fun h => ⟨fun h2 => h0 (by omega), fun h2 => h1 (by omega) (by omega)⟩⟩
theorem v_hitsOf {K : Int → St → Prop} {A σ : St} (hW : WR A σ) (hA : OKA A) {x : Int} (h0 : 0 ≤ x) (h1 : x ≤ A 0 2) (hK : K (hb A x) σ) : CI M_Wa_hitsOf [vR 20, vI x] σ K := by
  apply e_Wa_hitsOf
  have h5 := hA.2.2.1.2.1
  refine ⟨by omega, s_hasRun hW (fun a b => ⟨fun h => by omega, fun _ => ⟨a, by omega, ?_⟩⟩) (fun h => ⟨fun _ => ?_, fun h => absurd rfl h⟩)⟩
  · rw [(hW.2.2.1 (x - 1) a b).2, show x - 1 + 1 = x by omega]; exact hK
  · rw [show x = 0 by omega] at hK; exact hK
theorem s_hasHit {K : Int → St → Prop} {A σ : St} (hW : WR A σ) (hA : OKA A) {x : Int} (h1 : 0 ≤ x → x < hb A (A 0 2) → K 1 σ) (h0 : (x < 0 ∨ hb A (A 0 2) ≤ x) → K 0 σ) : CI M_Wa_hasHit [vR 20, vI x] σ K := by
  apply e_Wa_hasHit
  rw [hW.2.1]
  exact ⟨fun h => h0 (by omega), fun h => v_hitsOf hW hA hA.2.2.1.1 (Int.le_refl _) ⟨fun h2 => h0 (by omega), fun h2 => h1 (by omega) (by omega)⟩⟩
theorem v_timesHit {K : Int → St → Prop} {A σ : St} (hC : CR A σ) (hA : OKA A) {x r : Int} (hr0 : 0 ≤ r) (hr1 : r ≤ A 0 2) (h0 : 0 ≤ x) (h1 : x < A 0 0) (hK : K (th A r x) σ) : CI M_Wa_timesHit [vR 20, vI x, vI r] σ K := by
  apply e_Wa_timesHit
  have hW := hC.2.2.2.1
  have h5 := hA.2.2.1.2.1
  have key : ∀ q, 0 ≤ q → q ≤ r → WM M_Wa_timesHit 5 [(0, vR 20), (1, vI x), (2, vI r), (3, vI (th A q x)), (4, vI q)] [] σ (QI K) := by
    refine up_ind ?_ (fun q a b ih => ?_)
    · apply l_Wa_timesHit_1
      exact ⟨fun _ => hK, fun h => by omega⟩
    · apply l_Wa_timesHit_1
      rw [hW.2.1]
      have hs := hA.2.2.1.2.2.2 q a (by omega)
      have hc := cI_in (p := fun q => sk A (A 0 1) (A 5 q) x) a
      have hi := hA.2.1
      refine ⟨fun h => by omega, fun _ => ⟨fun h => by omega, fun _ => ⟨a, by omega, ?_⟩⟩⟩
      rw [(hW.2.2.1 q a (by omega)).1]
      refine v_strikes_16 hC.1 hA.1 hi.1 (by omega) hC.2.2.1 (by omega) (by omega) h0 h1 ?_
      cases hsk : sk A (A 0 1) (A 5 q) x with
      | true =>
        refine ⟨fun h => by simp [bi] at h, fun _ => ⟨?_, by omega, ?_⟩⟩
        · show inR (th A q x + 1); unfold th; omega
        · have : th A (q + 1) x = th A q x + 1 := cI_t a hsk
          rw [this] at ih; exact ih
      | false =>
        refine ⟨fun _ => ⟨by omega, ?_⟩, fun h => by simp [bi] at h⟩
        have : th A (q + 1) x = th A q x := cI_f a hsk
        rw [this] at ih; exact ih
  exact key 0 (by omega) hr0
theorem v_isLookedAt {K : Int → St → Prop} {A σ : St} (hC : CR A σ) (hA : OKA A) {x r : Int} (hr0 : 0 ≤ r) (hr1 : r ≤ A 0 2) (h0 : 0 ≤ x) (h1 : x < A 0 0) (hK : K (bi (lk A r x)) σ) : CI M_Wa_isLookedAt [vR 20, vI x, vI r] σ K := by
  apply e_Wa_isLookedAt
  refine v_isCertain_16 hC.1 hA.1 hC.2.2.1.1 h0 h1 ?_
  unfold lk at hK
  cases hc : ce A (A 0 1) x with
  | true =>
    rw [hc] at hK
    exact ⟨fun _ => hK, fun h => by simp [bi] at h⟩
  | false =>
    rw [hc] at hK
    refine ⟨fun h => by simp [bi] at h, fun _ => v_timesHit hC hA hr0 hr1 h0 h1 ⟨fun h => ?_, fun h => ?_⟩⟩
    · rw [bi_f (by simp; omega)] at hK; exact hK
    · rw [bi_t (by simp; omega)] at hK; exact hK
theorem v_lackingBy {K : Int → St → Prop} {A σ : St} (hC : CR A σ) (hA : OKA A) {r : Int} (hr0 : 0 ≤ r) (hr1 : r ≤ A 0 2) (hK : K (cI (fun i => decide (A 4 i = -1) && lk A r i) (A 0 0)) σ) : CI M_Wa_lackingBy [vR 20, vR 3, vI r] σ K := by
  apply e_Wa_lackingBy
  have hn := hC.1.1
  have h48 := hA.1.2.1
  have key : ∀ i, 0 ≤ i → i ≤ A 0 0 → WM M_Wa_lackingBy 5 [(0, vR 20), (1, vR 3), (2, vI r), (3, vI (cI (fun i => decide (A 4 i = -1) && lk A r i) i)), (4, vI i)] [] σ (QI K) := by
    refine up_ind ?_ (fun i h0 h1 ih => ?_)
    · apply l_Wa_lackingBy_1
      exact ⟨fun _ => hK, fun h => by omega⟩
    · apply l_Wa_lackingBy_1
      have hc := cI_in (p := fun i => decide (A 4 i = -1) && lk A r i) h0
      refine ⟨fun h => by omega, fun _ => s_isAudited hC.1 hA.1 (fun _ _ h => ?_) (fun h => ?_)⟩
      · rw [cI_f h0 (by simp [h])] at ih
        exact ⟨fun _ => ⟨by omega, ih⟩, fun h => by omega⟩
      · refine ⟨fun h => absurd rfl h, fun _ => v_isLookedAt hC hA hr0 hr1 h0 h1 ?_⟩
        have e : A 4 i = -1 := by omega
        cases hl : lk A r i with
        | true =>
          rw [cI_t h0 (by simp [e, hl])] at ih
          exact ⟨fun h => by simp [bi] at h, fun _ => ⟨by omega, by omega, ih⟩⟩
        | false =>
          rw [cI_f h0 (by simp [hl])] at ih
          exact ⟨fun _ => ⟨by omega, ih⟩, fun h => by simp [bi] at h⟩
  exact key 0 (by omega) hA.1.1

