-- what the leaves of the class answer
theorem kk {K : Int → St → Prop} {σ : St} {a b : Int} (h : K a σ) (e : b = a) : K b σ := e ▸ h
/-- the ledger that stands from cell k on is A's -/
def LR (k : Nat) (A σ : St) : Prop := σ k 4 = A 0 0 ∧ ∀ i, 0 ≤ i → i < A 0 0 → σ (k + 1) i = A 1 i ∧ σ (k + 2) i = A 2 i ∧ σ (k + 3) i = A 3 i ∧ σ (k + 4) i = A 4 i
theorem s_max {K : Int → St → Prop} {σ : St} {a b : Int} (hK : K (if a < b then b else a) σ) : CI M_Ma_max [vI a, vI b] σ K := by
  apply e_Ma_max
  by_cases h : a < b
  · rw [if_pos h] at hK; exact ⟨fun _ => hK, fun h2 => absurd h h2⟩
  · rw [if_neg h] at hK; exact ⟨fun h2 => absurd h2 h, fun _ => hK⟩
theorem s_floorMod {K : Int → St → Prop} {σ : St} {a b : Int} (hb : 0 < b) (hb1 : b ≤ 9999999) (ha : inR a) (hK : K (a % b) σ) : CI M_Ma_floorMod [vI a, vI b] σ K := by
  apply e_Ma_floorMod
  have h1 := Int.emod_nonneg a (show b ≠ 0 by omega)
  have h2 := Int.emod_lt_of_pos a hb
  by_cases h0 : 0 ≤ a
  · rw [Int.tmod_eq_emod_of_nonneg h0]
    exact ⟨by omega, by omega, by omega, fun _ => hK, fun h => absurd h0 h⟩
  · have e : a.tmod b = -((-a) % b) := by
      rw [← Int.tmod_eq_emod_of_nonneg (by omega), Int.neg_tmod, Int.neg_neg]
    have h3 := Int.emod_nonneg (-a) (show b ≠ 0 by omega)
    have h4 := Int.emod_lt_of_pos (-a) hb
    have e2 : a % b = if a.tmod b = 0 then 0 else a.tmod b + b := by
      have q1 := Int.mul_ediv_add_emod (-a) b
      rw [e]
      by_cases hz : (-a) % b = 0
      · rw [if_pos (by omega)]
        have : a = b * (-((-a) / b)) := by rw [Int.mul_neg]; omega
        rw [this]
        exact Int.mul_emod_right b _
      · rw [if_neg (by omega)]
        have : a = (b - (-a) % b) + b * (-((-a) / b) - 1) := by
          rw [Int.mul_sub, Int.mul_neg, Int.mul_one]; omega
        rw [this, Int.add_mul_emod_self_left]
        rw [Int.emod_eq_of_lt (by omega) (by omega)]
        rw [← this]
        omega
    rw [e2] at hK
    refine ⟨by omega, by omega, by omega, fun h => absurd h h0, fun _ => ⟨fun hz => ?_, fun hz => ⟨by omega, ?_⟩⟩⟩
    · rw [if_pos hz] at hK; rw [hz]; exact hK
    · rw [if_neg hz] at hK; exact hK
theorem LR3.acc {A σ : St} (h : LR 3 A σ) {i : Int} (h0 : 0 ≤ i) (h1 : i < A 0 0) : σ 4 i = A 1 i := (h.2 i h0 h1).1
theorem LR3.vou {A σ : St} (h : LR 3 A σ) {i : Int} (h0 : 0 ≤ i) (h1 : i < A 0 0) : σ 5 i = A 2 i := (h.2 i h0 h1).2.1
theorem LR3.bk {A σ : St} (h : LR 3 A σ) {i : Int} (h0 : 0 ≤ i) (h1 : i < A 0 0) : σ 6 i = A 3 i := (h.2 i h0 h1).2.2.1
theorem LR3.au {A σ : St} (h : LR 3 A σ) {i : Int} (h0 : 0 ≤ i) (h1 : i < A 0 0) : σ 7 i = A 4 i := (h.2 i h0 h1).2.2.2
theorem s_holds_3 {K : Int → St → Prop} {A σ : St} (hL : LR 3 A σ) {x : Int} (h1 : 0 ≤ x → x < A 0 0 → K 1 σ) (h0 : (x < 0 ∨ A 0 0 ≤ x) → K 0 σ) : CI M_Le_holds [vR 3, vI x] σ K := by
  apply e_Le_holds_3
  have hn := hL.1
  exact ⟨fun h => h0 (by omega), fun h => ⟨fun h2 => h0 (by omega), fun h2 => h1 (by omega) (by omega)⟩⟩
theorem s_isFull_3 {K : Int → St → Prop} {A σ : St} (hL : LR 3 A σ) (h1 : 48 ≤ A 0 0 → K 1 σ) (h0 : A 0 0 < 48 → K 0 σ) : CI M_Le_isFull [vR 3] σ K := by
  apply e_Le_isFull_3
  have hn := hL.1
  exact ⟨fun h => h0 (by omega), fun h => h1 (by omega)⟩
theorem s_coinsOf_3 {K : Int → St → Prop} {A σ : St} (hL : LR 3 A σ) (hA : OKL A) {x : Int} (h1 : 0 ≤ x → x < A 0 0 → K (co A x) σ) (h0 : (x < 0 ∨ A 0 0 ≤ x) → K 0 σ) : CI M_Le_coinsOf [vR 3, vI x] σ K := by
  apply e_Le_coinsOf_3
  have hn := hA.2.1
  refine s_holds_3 hL (fun a b => ?_) (fun h => ⟨fun _ => h0 h, fun h => absurd rfl h⟩)
  refine ⟨fun h => by omega, fun _ => ⟨a, by omega, s_max ?_⟩⟩
  refine kk (h1 a b) ?_
  rw [LR3.bk hL a b]
  unfold co
  split <;> split <;> omega
theorem v_coinsOf_3 {K : Int → St → Prop} {A σ : St} (hL : LR 3 A σ) (hA : OKL A) {x : Int} (h0 : 0 ≤ x) (h1 : x < A 0 0) (hK : K (co A x) σ) : CI M_Le_coinsOf [vR 3, vI x] σ K := s_coinsOf_3 hL hA (fun _ _ => hK) (fun h => by omega)
theorem s_mayBeWorth_3 {K : Int → St → Prop} {A σ : St} (hL : LR 3 A σ) (hA : OKL A) {x y : Int} (h1 : 0 ≤ x → x < A 0 0 → 0 ≤ y → y ≤ 2 * A 3 x → K 1 σ) (h0 : (x < 0 ∨ A 0 0 ≤ x ∨ y < 0 ∨ 2 * A 3 x < y) → K 0 σ) : CI M_Le_mayBeWorth [vR 3, vI x, vI y] σ K := by
  apply e_Le_mayBeWorth_3
  have hn := hA.2.1
  refine s_holds_3 hL (fun a b => ?_) (fun h => ⟨fun _ => h0 (by omega), fun h => absurd rfl h⟩)
  have hb := LR3.bk hL a b
  have hi := hA.2.2 x a b
  refine ⟨fun h => by omega, fun _ => ⟨fun h => h0 (by omega), fun h => ⟨a, by omega, by omega, fun h2 => h0 (by omega), fun h2 => h1 a b (by omega) (by omega)⟩⟩⟩
theorem s_indexOf_3 {K : Int → St → Prop} {A σ : St} (hL : LR 3 A σ) (hA : OKL A) {x y : Int} (hK : K (fI (fun i => decide (A 1 i = x ∧ A 2 i = y)) (A 0 0)) σ) : CI M_Le_indexOf [vR 3, vI x, vI y] σ K := by
  apply e_Le_indexOf_3
  have hn := hL.1
  have h48 := hA.2.1
  have key : ∀ i, 0 ≤ i → i ≤ A 0 0 → (∀ j, 0 ≤ j → j < i → decide (A 1 j = x ∧ A 2 j = y) = false) → WM M_Le_indexOf 2 [(0, vR 3), (1, vI x), (2, vI y), (3, vI i)] [] σ (QI K) := by
    refine up_ind (fun hf => ?_) (fun i h0 h1 ih hf => ?_)
    · apply l_Le_indexOf_3_1
      refine ⟨fun _ => ?_, fun h => by omega⟩
      rw [fI_none hA.1 hf] at hK
      exact hK
    · apply l_Le_indexOf_3_1
      refine ⟨fun h => by omega, fun _ => ⟨by omega, by omega, fun hne => ⟨by omega, ih ?_⟩, fun he => ⟨fun hne => ⟨by omega, ih ?_⟩, fun he2 => ?_⟩⟩⟩
      · intro j a b
        by_cases hj : j = i
        · subst hj; rw [LR3.acc hL h0 h1] at hne; simp [hne]
        · exact hf j a (by omega)
      · intro j a b
        by_cases hj : j = i
        · subst hj; rw [LR3.vou hL h0 h1] at hne; simp [hne]
        · exact hf j a (by omega)
      · rw [LR3.acc hL h0 h1] at he
        rw [LR3.vou hL h0 h1] at he2
        rw [fI_eq h0 h1 (by simp [he, he2]) hf] at hK
        exact hK
  exact key 0 (by omega) (by have := hA.1; omega) (fun j a b => by omega)
theorem LR9.acc {A σ : St} (h : LR 9 A σ) {i : Int} (h0 : 0 ≤ i) (h1 : i < A 0 0) : σ 10 i = A 1 i := (h.2 i h0 h1).1
theorem LR9.vou {A σ : St} (h : LR 9 A σ) {i : Int} (h0 : 0 ≤ i) (h1 : i < A 0 0) : σ 11 i = A 2 i := (h.2 i h0 h1).2.1
theorem LR9.bk {A σ : St} (h : LR 9 A σ) {i : Int} (h0 : 0 ≤ i) (h1 : i < A 0 0) : σ 12 i = A 3 i := (h.2 i h0 h1).2.2.1
theorem LR9.au {A σ : St} (h : LR 9 A σ) {i : Int} (h0 : 0 ≤ i) (h1 : i < A 0 0) : σ 13 i = A 4 i := (h.2 i h0 h1).2.2.2
theorem s_holds_9 {K : Int → St → Prop} {A σ : St} (hL : LR 9 A σ) {x : Int} (h1 : 0 ≤ x → x < A 0 0 → K 1 σ) (h0 : (x < 0 ∨ A 0 0 ≤ x) → K 0 σ) : CI M_Le_holds [vR 9, vI x] σ K := by
  apply e_Le_holds_9
  have hn := hL.1
  exact ⟨fun h => h0 (by omega), fun h => ⟨fun h2 => h0 (by omega), fun h2 => h1 (by omega) (by omega)⟩⟩
theorem s_isFull_9 {K : Int → St → Prop} {A σ : St} (hL : LR 9 A σ) (h1 : 48 ≤ A 0 0 → K 1 σ) (h0 : A 0 0 < 48 → K 0 σ) : CI M_Le_isFull [vR 9] σ K := by
  apply e_Le_isFull_9
  have hn := hL.1
  exact ⟨fun h => h0 (by omega), fun h => h1 (by omega)⟩
theorem s_coinsOf_9 {K : Int → St → Prop} {A σ : St} (hL : LR 9 A σ) (hA : OKL A) {x : Int} (h1 : 0 ≤ x → x < A 0 0 → K (co A x) σ) (h0 : (x < 0 ∨ A 0 0 ≤ x) → K 0 σ) : CI M_Le_coinsOf [vR 9, vI x] σ K := by
  apply e_Le_coinsOf_9
  have hn := hA.2.1
  refine s_holds_9 hL (fun a b => ?_) (fun h => ⟨fun _ => h0 h, fun h => absurd rfl h⟩)
  refine ⟨fun h => by omega, fun _ => ⟨a, by omega, s_max ?_⟩⟩
  refine kk (h1 a b) ?_
  rw [LR9.bk hL a b]
  unfold co
  split <;> split <;> omega
theorem v_coinsOf_9 {K : Int → St → Prop} {A σ : St} (hL : LR 9 A σ) (hA : OKL A) {x : Int} (h0 : 0 ≤ x) (h1 : x < A 0 0) (hK : K (co A x) σ) : CI M_Le_coinsOf [vR 9, vI x] σ K := s_coinsOf_9 hL hA (fun _ _ => hK) (fun h => by omega)
theorem s_mayBeWorth_9 {K : Int → St → Prop} {A σ : St} (hL : LR 9 A σ) (hA : OKL A) {x y : Int} (h1 : 0 ≤ x → x < A 0 0 → 0 ≤ y → y ≤ 2 * A 3 x → K 1 σ) (h0 : (x < 0 ∨ A 0 0 ≤ x ∨ y < 0 ∨ 2 * A 3 x < y) → K 0 σ) : CI M_Le_mayBeWorth [vR 9, vI x, vI y] σ K := by
  apply e_Le_mayBeWorth_9
  have hn := hA.2.1
  refine s_holds_9 hL (fun a b => ?_) (fun h => ⟨fun _ => h0 (by omega), fun h => absurd rfl h⟩)
  have hb := LR9.bk hL a b
  have hi := hA.2.2 x a b
  refine ⟨fun h => by omega, fun _ => ⟨fun h => h0 (by omega), fun h => ⟨a, by omega, by omega, fun h2 => h0 (by omega), fun h2 => h1 a b (by omega) (by omega)⟩⟩⟩
theorem s_indexOf_9 {K : Int → St → Prop} {A σ : St} (hL : LR 9 A σ) (hA : OKL A) {x y : Int} (hK : K (fI (fun i => decide (A 1 i = x ∧ A 2 i = y)) (A 0 0)) σ) : CI M_Le_indexOf [vR 9, vI x, vI y] σ K := by
  apply e_Le_indexOf_9
  have hn := hL.1
  have h48 := hA.2.1
  have key : ∀ i, 0 ≤ i → i ≤ A 0 0 → (∀ j, 0 ≤ j → j < i → decide (A 1 j = x ∧ A 2 j = y) = false) → WM M_Le_indexOf 2 [(0, vR 9), (1, vI x), (2, vI y), (3, vI i)] [] σ (QI K) := by
    refine up_ind (fun hf => ?_) (fun i h0 h1 ih hf => ?_)
    · apply l_Le_indexOf_9_1
      refine ⟨fun _ => ?_, fun h => by omega⟩
      rw [fI_none hA.1 hf] at hK
      exact hK
    · apply l_Le_indexOf_9_1
      refine ⟨fun h => by omega, fun _ => ⟨by omega, by omega, fun hne => ⟨by omega, ih ?_⟩, fun he => ⟨fun hne => ⟨by omega, ih ?_⟩, fun he2 => ?_⟩⟩⟩
      · intro j a b
        by_cases hj : j = i
        · subst hj; rw [LR9.acc hL h0 h1] at hne; simp [hne]
        · exact hf j a (by omega)
      · intro j a b
        by_cases hj : j = i
        · subst hj; rw [LR9.vou hL h0 h1] at hne; simp [hne]
        · exact hf j a (by omega)
      · rw [LR9.acc hL h0 h1] at he
        rw [LR9.vou hL h0 h1] at he2
        rw [fI_eq h0 h1 (by simp [he, he2]) hf] at hK
        exact hK
  exact key 0 (by omega) (by have := hA.1; omega) (fun j a b => by omega)
theorem s_isAudited {K : Int → St → Prop} {A σ : St} (hL : LR 3 A σ) (hA : OKL A) {x : Int} (h1 : 0 ≤ x → x < A 0 0 → A 4 x ≠ -1 → K 1 σ) (h0 : (x < 0 ∨ A 0 0 ≤ x ∨ A 4 x = -1) → K 0 σ) : CI M_Le_isAudited [vR 3, vI x] σ K := by
  apply e_Le_isAudited
  have hn := hA.2.1
  rw [hL.1]
  refine ⟨fun h => h0 (by omega), fun a => ⟨fun h => h0 (by omega), fun b => ?_⟩⟩
  have hb := LR3.au hL (show 0 ≤ x by omega) (show x < A 0 0 by omega)
  exact ⟨by omega, by omega, fun h => h0 (by omega), fun h => h1 (by omega) (by omega) (by omega)⟩
theorem v_isAudited {K : Int → St → Prop} {A σ : St} (hL : LR 3 A σ) (hA : OKL A) {x : Int} (h0 : 0 ≤ x) (h1 : x < A 0 0) (hK : K (bi (decide (A 4 x ≠ -1))) σ) : CI M_Le_isAudited [vR 3, vI x] σ K := by
  refine s_isAudited hL hA (fun _ _ h => ?_) (fun h => ?_)
  · rw [bi_t (by simpa using h)] at hK; exact hK
  · rw [bi_f (by simp; omega)] at hK; exact hK
theorem v_errorOf {K : Int → St → Prop} {A σ : St} (hL : LR 3 A σ) (hA : OKL A) {x : Int} (h0 : 0 ≤ x) (h1 : x < A 0 0) (hK : K (er A x) σ) : CI M_Le_errorOf [vR 3, vI x] σ K := by
  apply e_Le_errorOf
  have hn := hA.2.1
  have hb := LR3.bk hL h0 h1
  have hd := LR3.au hL h0 h1
  have hi := hA.2.2 x h0 h1
  unfold er at hK
  refine s_isAudited hL hA (fun _ _ h => ?_) (fun h => ?_)
  · rw [if_neg h] at hK
    refine ⟨fun h => by omega, fun _ => ⟨h0, by omega, by omega, ?_⟩⟩
    rw [hb, hd]; exact hK
  · rw [if_pos (by omega)] at hK
    exact ⟨fun _ => hK, fun h => absurd rfl h⟩
theorem v_taintOf {K : Int → St → Prop} {A σ : St} (hL : LR 3 A σ) (hA : OKL A) {x : Int} (h0 : 0 ≤ x) (h1 : x < A 0 0) (hK : K (ta A x) σ) : CI M_Le_taintOf [vR 3, vI x] σ K := by
  apply e_Le_taintOf
  have hi := hA.2.2 x h0 h1
  have ht := ta_in hA h0 h1
  have he := er_in hA h0 h1
  refine v_coinsOf_3 hL hA h0 h1 ⟨fun hc => ?_, fun hc => ?_⟩
  · refine v_errorOf hL hA h0 h1 ?_
    have hp : 0 < A 3 x := by unfold co at hc; split at hc <;> omega
    have e1 : co A x = A 3 x := by unfold co; rw [if_pos hp]
    have e2 : (10000 * er A x).tdiv (co A x) = ta A x := by
      rw [e1]
      unfold ta
      split
      · next hq =>
        have : er A x = 0 := by unfold er; rw [if_pos hq]
        rw [this]; simp
      · rfl
    rw [e2]
    exact ⟨by omega, hc, by omega, by omega, hK⟩
  · have hp : ¬ 0 < A 3 x := by unfold co at hc; split at hc <;> omega
    have : ta A x = 0 := by unfold ta; rw [if_pos (by omega)]
    rw [this] at hK
    exact hK
theorem s_allCoins {K : Int → St → Prop} {A σ : St} (hL : LR 3 A σ) (hA : OKL A) (hK : K (al A) σ) : CI M_Le_allCoins [vR 3] σ K := by
  apply e_Le_allCoins
  have hn := hL.1
  have h48 := hA.2.1
  have key : ∀ i, 0 ≤ i → i ≤ A 0 0 → WM M_Le_allCoins 4 [(0, vR 3), (1, vI (sI (co A) i)), (2, vI i)] [] σ (QI K) := by
    refine up_ind ?_ (fun i h0 h1 ih => ?_)
    · apply l_Le_allCoins_1
      exact ⟨fun _ => hK, fun h => by omega⟩
    · apply l_Le_allCoins_1
      refine ⟨fun h => by omega, fun _ => v_coinsOf_3 hL hA h0 h1 ?_⟩
      have h2 := sI_nn (f := co A) h0 (fun j a b => (co_in hA a (by omega)).1)
      have h3 := sI_le (f := co A) (b := 99999) h0 (fun j a b => (co_in hA a (by omega)).2)
      have h4 := co_in hA h0 h1
      refine ⟨by omega, by omega, ?_⟩
      rw [← sI_s h0]
      exact ih
  exact key 0 (by omega) hA.1
theorem s_auditedItems {K : Int → St → Prop} {A σ : St} (hL : LR 3 A σ) (hA : OKL A) (hK : K (cI (fun i => decide (A 4 i ≠ -1)) (A 0 0)) σ) : CI M_Le_auditedItems [vR 3] σ K := by
  apply e_Le_auditedItems
  have hn := hL.1
  have h48 := hA.2.1
  have key : ∀ i, 0 ≤ i → i ≤ A 0 0 → WM M_Le_auditedItems 4 [(0, vR 3), (1, vI (cI (fun i => decide (A 4 i ≠ -1)) i)), (2, vI i)] [] σ (QI K) := by
    refine up_ind ?_ (fun i h0 h1 ih => ?_)
    · apply l_Le_auditedItems_1
      exact ⟨fun _ => hK, fun h => by omega⟩
    · apply l_Le_auditedItems_1
      have hc := cI_in (p := fun i => decide (A 4 i ≠ -1)) h0
      refine ⟨fun h => by omega, fun _ => s_isAudited hL hA (fun _ _ h => ?_) (fun h => ?_)⟩
      · rw [cI_t h0 (by simpa using h)] at ih
        exact ⟨fun h => by omega, fun _ => ⟨by omega, by omega, ih⟩⟩
      · rw [cI_f h0 (by simp; omega)] at ih
        exact ⟨fun _ => ⟨by omega, ih⟩, fun h => absurd rfl h⟩
  exact key 0 (by omega) hA.1
theorem s_isFirstOfAccount {K : Int → St → Prop} {A σ : St} (hL : LR 3 A σ) (hA : OKL A) {x : Int} (h0 : 0 ≤ x) (h1 : x < A 0 0) (hK : K (bi (decide (fI (fun j => decide (A 1 j = A 1 x)) (A 0 0) = x))) σ) : CI M_Le_isFirstOfAccount [vR 3, vI x] σ K := by
  apply e_Le_isFirstOfAccount
  have hn := hL.1
  have h48 := hA.2.1
  have key : ∀ i, 0 ≤ i → i ≤ x → (∀ j, 0 ≤ j → j < i → decide (A 1 j = A 1 x) = false) → WM M_Le_isFirstOfAccount 2 [(0, vR 3), (1, vI x), (2, vI i)] [] σ (QI K) := by
    refine up_ind (fun hf => ?_) (fun i a b ih hf => ?_)
    · apply l_Le_isFirstOfAccount_1
      refine ⟨fun _ => s_holds_3 hL (fun _ _ => ⟨Or.inr rfl, ?_⟩) (fun h => by omega), fun h => by omega⟩
      rw [fI_eq h0 h1 (by simp) hf] at hK
      simpa [bi] using hK
    · apply l_Le_isFirstOfAccount_1
      have e1 := LR3.acc hL (i := i) a (by omega)
      have e2 := LR3.acc hL (i := x) h0 h1
      refine ⟨fun h => by omega, fun _ => ⟨fun h => by omega, fun _ => ⟨by omega, by omega, by omega, by omega, fun hne => ⟨by omega, ih ?_⟩, fun he => ?_⟩⟩⟩
      · intro j a2 b2
        by_cases hj : j = i
        · subst hj; rw [e1, e2] at hne; simp [hne]
        · exact hf j a2 (by omega)
      · rw [e1, e2] at he
        rw [fI_eq a (by omega) (by simp [he]) hf, bi_f (by simp; omega)] at hK
        exact hK
  exact key 0 (by omega) (by omega) (fun j a b => by omega)
-- terms
def TR (A σ : St) : Prop := ∀ k, 0 ≤ k → k < 5 → σ 15 k = A 6 k
theorem s_has {K : Int → St → Prop} {σ : St} {x : Int} (h1 : 0 ≤ x → x < 5 → K 1 σ) (h0 : (x < 0 ∨ 5 ≤ x) → K 0 σ) : CI M_Te_has [vR 14, vI x] σ K := by
  apply e_Te_has
  exact ⟨fun h => h0 (by omega), fun h => ⟨fun h2 => h0 (by omega), fun h2 => h1 (by omega) (by omega)⟩⟩
theorem v_of {K : Int → St → Prop} {A σ : St} (hT : TR A σ) {x : Int} (h0 : 0 ≤ x) (h1 : x < 5) (hK : K (A 6 x) σ) : CI M_Te_of [vR 14, vI x] σ K := by
  apply e_Te_of
  refine s_has (fun _ _ => ⟨fun h => by omega, fun _ => ⟨h0, h1, ?_⟩⟩) (fun h => by omega)
  rw [hT x h0 h1]; exact hK
theorem s_allows {K : Int → St → Prop} {σ : St} {x y : Int} (h1 : 0 ≤ x → x < 5 → leastq x ≤ y → y ≤ greatq x → K 1 σ) (h0 : (x < 0 ∨ 5 ≤ x ∨ y < leastq x ∨ greatq x < y) → K 0 σ) : CI M_Te_allows [vR 14, vI x, vI y] σ K := by
  apply e_Te_allows
  refine s_has (fun a b => ⟨fun h => by omega, fun _ => ⟨a, b, fun h => h0 (by omega), fun h => ⟨fun h2 => h0 (by omega), fun h2 => h1 a b (by omega) (by omega)⟩⟩⟩) (fun h => ⟨fun _ => h0 (by omega), fun h => absurd rfl h⟩)
theorem s_tell {K : St → Prop} {σ : St} {x y : Int} (h0 : 0 ≤ x) (h1 : x < 5) (hK : K (ups σ 15 x y)) : CV M_Te_tell [vR 14, vI x, vI y] σ K := by
  apply e_Te_tell
  exact s_has (fun _ _ => ⟨fun h => by omega, fun _ => ⟨h0, h1, hK⟩⟩) (fun h => by omega)

