-- the model: what stands, what its leaves answer
def Mm (S : List Nat) (P : List Int) (σ σ' : St) : Prop := ∀ c j, c ∉ S → ¬ (c = 35 ∧ j ∈ P) → σ' c j = σ c j
theorem Mm.rf {S : List Nat} {P : List Int} {σ : St} : Mm S P σ σ := fun _ _ _ _ => rfl
theorem Mm.tr {S : List Nat} {P : List Int} {a b c : St} (h1 : Mm S P a b) (h2 : Mm S P b c) : Mm S P a c := fun x j hx hj => (h2 x j hx hj).trans (h1 x j hx hj)
theorem Mm.up {S : List Nat} {P : List Int} {σ τ : St} {c : Nat} {j v : Int} (h : Mm S P σ τ) (hc : c ∈ S) : Mm S P σ (ups τ c j v) := fun x i hx hi => by
  rw [ups_c (fun e => hx (by rw [e]; exact hc))]
  exact h x i hx hi
theorem Mm.fd {S : List Nat} {P : List Int} {σ τ : St} {j v : Int} (h : Mm S P σ τ) (hj : j ∈ P) : Mm S P σ (ups τ 35 j v) := fun x i hx hi => by
  unfold ups
  rw [if_neg (fun q => hi ⟨q.1, by rw [q.2]; exact hj⟩)]
  exact h x i hx hi
theorem Mm.wk {S T : List Nat} {P Q : List Int} {σ τ : St} (h : Mm S P σ τ) (hST : ∀ x ∈ S, x ∈ T) (hPQ : ∀ x ∈ P, x ∈ Q) : Mm T Q σ τ := fun x j hx hj => h x j (fun q => hx (hST x q)) (fun q => hj ⟨q.1, hPQ j q.2⟩)
theorem Mm.um {S : List Nat} {P : List Int} {σ σ' : St} (h : Mm S P σ σ') (hS : ∀ x ∈ S, mdl x) : UM σ σ' := fun c hc j => h c j (fun q => hc (hS c q)) (fun q => hc (by rw [q.1]; decide))
theorem UM.rf {σ : St} : UM σ σ := fun _ _ _ => rfl
theorem UM.tr {a b c : St} (h1 : UM a b) (h2 : UM b c) : UM a c := fun x hx j => (h2 x hx j).trans (h1 x hx j)
theorem UM.up {σ τ : St} {c : Nat} {j v : Int} (h : UM σ τ) (hc : mdl c) : UM σ (ups τ c j v) := fun x hx i => by
  rw [ups_c (fun e => hx (by rw [e]; exact hc))]
  exact h x hx i
def LM (A σ : St) : Prop := σ 35 6 = A 0 0 ∧ ∀ i, 0 ≤ i → i < A 0 0 → σ 39 (4 * i + 0) = A 1 i ∧ σ 39 (4 * i + 1) = A 2 i ∧ σ 39 (4 * i + 2) = A 3 i ∧ σ 39 (4 * i + 3) = A 4 i
def wrq (k : Int) : Int := if k = 0 then 105 else if k = 1 then 116 else if k = 2 then 101 else if k = 3 then 109 else if k = 4 then 97 else if k = 5 then 117 else if k = 6 then 100 else if k = 7 then 105 else 116
/-- what the model's own cells hold of A -/
def MR (A σ : St) : Prop := LM A σ ∧ (σ 35 9 = A 0 1 ∧ σ 35 10 = A 0 2 ∧ ∀ r, 0 ≤ r → r < A 0 2 → σ 41 r = A 5 r) ∧ σ 35 11 = A 0 3 ∧ (∀ k, 0 ≤ k → k < 5 → σ 36 k = A 6 k) ∧ (∀ k, 0 ≤ k → k < 5 → σ 37 k = leastq k ∧ σ 38 k = greatq k) ∧ (σ 35 13 = A 0 4 ∧ ∀ i, 0 ≤ i → i < A 0 4 → σ 42 i = A 7 i) ∧ (σ 35 16 = A 0 5 ∧ σ 35 17 = A 0 6) ∧ ∀ k, 0 ≤ k → k < 9 → σ 43 k = wrq k
def scM : List Nat := [40, 44, 45, 46, 47, 48, 49, 50, 51, 52, 53]
def scP : List Int := [0, 7, 14, 15, 20, 25, 27, 28, 30, 32, 34]
theorem LM.sm {S : List Nat} {P : List Int} {A σ σ' : St} (h : LM A σ) (hs : Mm S P σ σ') (h6 : (6 : Int) ∉ P) (h35 : 35 ∉ S) (h39 : 39 ∉ S) : LM A σ' := by
  have q : ∀ j, σ' 39 j = σ 39 j := fun j => hs 39 j h39 (fun q => by simp at q)
  refine ⟨by rw [hs 35 6 h35 (fun q => h6 q.2)]; exact h.1, fun i a b => ?_⟩
  rw [q, q, q, q]
  exact h.2 i a b
theorem MR.of {A σ σ' : St} (h : MR A σ) (q : ∀ c j, mdl c → c ∉ scM → ¬ (c = 35 ∧ j ∈ scP) → σ' c j = σ c j) : MR A σ' := by
  obtain ⟨h1, h2, h3, h4, h5, h6, h7, h8⟩ := h
  have n : ∀ (c : Nat) (j : Int), c ≠ 35 → ¬ (c = 35 ∧ j ∈ scP) := fun c j h q => h q.1
  have f : ∀ j : Int, j ∉ scP → ¬ (35 = 35 ∧ j ∈ scP) := fun j h q => h q.2
  refine ⟨⟨by rw [q 35 6 (by decide) (by decide) (f _ (by decide))]; exact h1.1, fun i a b => ?_⟩, ⟨?_, ?_, fun r a b => ?_⟩, ?_, fun k a b => ?_, fun k a b => ?_, ⟨?_, fun i a b => ?_⟩, ⟨?_, ?_⟩, fun k a b => ?_⟩
  · rw [q 39 _ (by decide) (by decide) (n _ _ (by decide)), q 39 _ (by decide) (by decide) (n _ _ (by decide)), q 39 _ (by decide) (by decide) (n _ _ (by decide)), q 39 _ (by decide) (by decide) (n _ _ (by decide))]; exact h1.2 i a b
  · rw [q 35 9 (by decide) (by decide) (f _ (by decide))]; exact h2.1
  · rw [q 35 10 (by decide) (by decide) (f _ (by decide))]; exact h2.2.1
  · rw [q 41 _ (by decide) (by decide) (n _ _ (by decide))]; exact h2.2.2 r a b
  · rw [q 35 11 (by decide) (by decide) (f _ (by decide))]; exact h3
  · rw [q 36 _ (by decide) (by decide) (n _ _ (by decide))]; exact h4 k a b
  · rw [q 37 _ (by decide) (by decide) (n _ _ (by decide)), q 38 _ (by decide) (by decide) (n _ _ (by decide))]; exact h5 k a b
  · rw [q 35 13 (by decide) (by decide) (f _ (by decide))]; exact h6.1
  · rw [q 42 _ (by decide) (by decide) (n _ _ (by decide))]; exact h6.2 i a b
  · rw [q 35 16 (by decide) (by decide) (f _ (by decide))]; exact h7.1
  · rw [q 35 17 (by decide) (by decide) (f _ (by decide))]; exact h7.2
  · rw [q 43 _ (by decide) (by decide) (n _ _ (by decide))]; exact h8 k a b
/-- the model's kept upper bounds are right -/
def FM (σ : St) : Prop := ∀ k, 0 ≤ k → k ≤ 400 → σ 49 k ≠ 0 → σ 49 k = UP (σ 35 27) k (σ 35 28)
theorem MR.sm {S : List Nat} {P : List Int} {A σ σ' : St} (h : MR A σ) (hs : Mm S P σ σ') (hS : ∀ x ∈ S, x ∈ scM ∨ ¬ mdl x) (hP : ∀ x ∈ P, x ∈ scP) : MR A σ' := h.of (fun c j h1 h2 h3 => hs c j (fun hc => by rcases hS c hc with h | h; exact h2 h; exact h h1) (fun hj => h3 ⟨hj.1, hP j hj.2⟩))
theorem FM.sm {S : List Nat} {P : List Int} {σ σ' : St} (h : FM σ) (hs : Mm S P σ σ') (h35 : 35 ∉ S) (h49 : 49 ∉ S) (h27 : (27 : Int) ∉ P) (h28 : (28 : Int) ∉ P) : FM σ' := fun k a b => by
  rw [hs 49 k h49 (fun q => by simp at q), hs 35 27 h35 (fun q => h27 q.2), hs 35 28 h35 (fun q => h28 q.2)]
  exact h k a b
theorem s_isIn {K : Int → St → Prop} {σ : St} {x a b : Int} (h1 : a ≤ x → x ≤ b → K 1 σ) (h0 : (x < a ∨ b < x) → K 0 σ) : CI M_Mo_isIn [vL x, vL a, vL b] σ K := by
  apply e_Mo_isIn
  rw [lcq_lt, lcq_gt]
  exact ⟨fun h => h0 (by omega), fun h => ⟨fun h2 => h0 (by omega), fun h2 => h1 (by omega) (by omega)⟩⟩
theorem s_isItem {K : Int → St → Prop} {A σ : St} (hL : LM A σ) (hA : OKL A) {x : Int} (h1 : 0 ≤ x → x < A 0 0 → K 1 σ) (h0 : (x < 0 ∨ A 0 0 ≤ x) → K 0 σ) : CI M_Mo_isItem [vR 35, vI x] σ K := by
  apply e_Mo_isItem
  rw [hL.1]
  have h := hA.1
  have h48 := hA.2.1
  exact ⟨by omega, s_isIn (fun a b => ⟨Or.inr rfl, h1 (by omega) (by omega)⟩) (fun h => ⟨Or.inl rfl, h0 (by omega)⟩)⟩
theorem v_book {K : Int → St → Prop} {A σ : St} (hL : LM A σ) (hA : OKL A) {x : Int} (h0 : 0 ≤ x) (h1 : x < A 0 0) (hK : K (A 3 x) σ) : CI M_Mo_book [vR 35, vI x] σ K := by
  apply e_Mo_book
  have h48 := hA.2.1
  rw [(hL.2 x h0 h1).2.2.1]
  exact ⟨by omega, by omega, by omega, by omega, hK⟩
theorem v_audited {K : Int → St → Prop} {A σ : St} (hL : LM A σ) (hA : OKL A) {x : Int} (h0 : 0 ≤ x) (h1 : x < A 0 0) (hK : K (A 4 x) σ) : CI M_Mo_audited [vR 35, vI x] σ K := by
  apply e_Mo_audited
  have h48 := hA.2.1
  rw [(hL.2 x h0 h1).2.2.2]
  exact ⟨by omega, by omega, by omega, by omega, hK⟩
theorem m_coinsOf {K : Int → St → Prop} {A σ : St} (hL : LM A σ) (hA : OKL A) {x : Int} (h0 : 0 ≤ x) (h1 : x < A 0 0) (hK : K (co A x) σ) : CI M_Mo_coinsOf [vR 35, vI x] σ K := by
  apply e_Mo_coinsOf
  unfold co at hK
  refine v_book hL hA h0 h1 ⟨fun h => ?_, fun h => v_book hL hA h0 h1 ?_⟩
  · rw [if_neg (by omega)] at hK; exact hK
  · rw [if_pos (by omega)] at hK; exact hK
theorem s_isAudit {K : Int → St → Prop} {A σ : St} (hL : LM A σ) (hA : OKL A) {x y : Int} (h0 : 0 ≤ x) (h1 : x < A 0 0) (g1 : 0 ≤ y → y ≤ 2 * A 3 x → K 1 σ) (g0 : (y < 0 ∨ 2 * A 3 x < y) → K 0 σ) : CI M_Mo_isAudit [vR 35, vI x, vI y] σ K := by
  apply e_Mo_isAudit
  have hi := hA.2.2 x h0 h1
  exact v_book hL hA h0 h1 ⟨by omega, s_isIn (fun a b => ⟨Or.inr rfl, g1 a b⟩) (fun h => ⟨Or.inl rfl, g0 h⟩)⟩
theorem m_errorOf {K : Int → St → Prop} {A σ : St} (hL : LM A σ) (hA : OKL A) {x : Int} (h0 : 0 ≤ x) (h1 : x < A 0 0) (hK : K (er A x) σ) : CI M_Mo_errorOf [vR 35, vI x] σ K := by
  apply e_Mo_errorOf
  have hi := hA.2.2 x h0 h1
  unfold er at hK
  refine v_audited hL hA h0 h1 ⟨fun h => v_book hL hA h0 h1 (v_audited hL hA h0 h1 ⟨by omega, ?_⟩), fun h => ?_⟩
  · rw [if_neg h] at hK; exact hK
  · rw [if_pos h] at hK; exact hK
theorem m_taintOf {K : Int → St → Prop} {A σ : St} (hL : LM A σ) (hA : OKL A) {x : Int} (h0 : 0 ≤ x) (h1 : x < A 0 0) (hK : K (ta A x) σ) : CI M_Mo_taintOf [vR 35, vI x] σ K := by
  apply e_Mo_taintOf
  have hi := hA.2.2 x h0 h1
  have ht := ta_in hA h0 h1
  have he := er_in hA h0 h1
  refine v_audited hL hA h0 h1 ⟨fun h => m_errorOf hL hA h0 h1 ⟨by omega, v_book hL hA h0 h1 ?_⟩, fun h => ?_⟩
  · have e : (10000 * er A x).tdiv (A 3 x) = ta A x := by unfold ta; rw [if_neg h]
    rw [e]
    exact ⟨by omega, by omega, hK⟩
  · unfold ta at hK; rw [if_pos h] at hK; exact hK
theorem v_isCertainBy {K : Int → St → Prop} {A σ : St} {v i : Int} (hK : K (bi (ce A v i)) σ) : CI M_Mo_isCertainBy [vI (A 3 i), vI v] σ K := by
  apply e_Mo_isCertainBy
  refine ⟨fun h => ?_, fun h => ⟨fun h2 => ?_, fun h2 => ?_⟩⟩
  · rw [bi_f (ce_f.mpr (by omega))] at hK; exact hK
  · rw [bi_f (ce_f.mpr (by omega))] at hK; exact hK
  · rw [bi_t (ce_t.mpr (by omega))] at hK; exact hK
theorem m_isCertain {K : Int → St → Prop} {A σ : St} (hL : LM A σ) (hA : OKL A) {v : Int} (hv : σ 35 9 = v) {x : Int} (h0 : 0 ≤ x) (h1 : x < A 0 0) (hK : K (bi (ce A v x)) σ) : CI M_Mo_isCertain [vR 35, vI x] σ K := by
  apply e_Mo_isCertain
  refine v_book hL hA h0 h1 ?_
  rw [hv]
  exact v_isCertainBy ⟨bi_01 _ |>.elim (fun h => Or.inl h) (fun h => Or.inr h), hK⟩
theorem v_placeIn {K : Int → St → Prop} {A σ : St} (hL : LM A σ) (hA : OKL A) {x y : Int} (hK : K (plcq A x y) σ) : CI M_Mo_placeIn [vR 39, vI (A 0 0), vI x, vI y] σ K := by
  apply e_Mo_placeIn_39
  have h48 := hA.2.1
  unfold plcq at hK
  have key : ∀ i, 0 ≤ i → i ≤ A 0 0 → (∀ j, 0 ≤ j → j < i → decide (A 1 j = x ∧ A 2 j = y) = false) → WM M_Mo_placeIn 3 [(0, vR 39), (1, vI (A 0 0)), (2, vI x), (3, vI y), (4, vI i)] [] σ (QI K) := by
    refine up_ind (fun hf => ?_) (fun i h0 h1 ih hf => ?_)
    · apply l_Mo_placeIn_39_1
      refine ⟨fun _ => ?_, fun h => by omega⟩
      rw [fI_none hA.1 hf] at hK
      exact hK
    · apply l_Mo_placeIn_39_1
      obtain ⟨e1, e2, _, _⟩ := hL.2 i h0 h1
      rw [e1, e2]
      refine ⟨fun h => by omega, fun _ => ⟨by omega, by omega, by omega, by omega, fun hne => ⟨by omega, ih ?_⟩, fun he => ⟨by omega, by omega, by omega, fun hne => ⟨by omega, ih ?_⟩, fun he2 => ?_⟩⟩⟩
      · intro j a b
        by_cases hj : j = i
        · subst hj; simp [hne]
        · exact hf j a (by omega)
      · intro j a b
        by_cases hj : j = i
        · subst hj; simp [hne]
        · exact hf j a (by omega)
      · rw [fI_eq h0 h1 (by simp [he, he2]) hf] at hK
        exact hK
  exact key 0 (by omega) hA.1 (fun j a b => by omega)
theorem m_allCoins {K : Int → St → Prop} {A σ : St} (hL : LM A σ) (hA : OKL A) (hK : K (al A) σ) : CI M_Mo_allCoins [vR 35] σ K := by
  apply e_Mo_allCoins
  have h48 := hA.2.1
  have key : ∀ i, 0 ≤ i → i ≤ A 0 0 → WM M_Mo_allCoins 4 [(0, vR 35), (1, vI (sI (co A) i)), (2, vI i)] [] σ (QI K) := by
    refine up_ind ?_ (fun i h0 h1 ih => ?_)
    · apply l_Mo_allCoins_1
      rw [hL.1]
      exact ⟨fun _ => hK, fun h => by omega⟩
    · apply l_Mo_allCoins_1
      rw [hL.1]
      refine ⟨fun h => by omega, fun _ => m_coinsOf hL hA h0 h1 ?_⟩
      have h2 := sI_nn (f := co A) h0 (fun j a b => (co_in hA a (by omega)).1)
      have h3 := sI_le (f := co A) (b := 99999) h0 (fun j a b => (co_in hA a (by omega)).2)
      have h4 := co_in hA h0 h1
      refine ⟨by omega, by omega, ?_⟩
      rw [← sI_s h0]
      exact ih
  exact key 0 (by omega) hA.1
theorem m_certainMany {K : Int → St → Prop} {A σ : St} (hL : LM A σ) (hA : OKL A) {v : Int} (hv : σ 35 9 = v) (hK : K (cI (ce A v) (A 0 0)) σ) : CI M_Mo_certainMany [vR 35] σ K := by
  apply e_Mo_certainMany
  have h48 := hA.2.1
  have key : ∀ i, 0 ≤ i → i ≤ A 0 0 → WM M_Mo_certainMany 4 [(0, vR 35), (1, vI (cI (ce A v) i)), (2, vI i)] [] σ (QI K) := by
    refine up_ind ?_ (fun i h0 h1 ih => ?_)
    · apply l_Mo_certainMany_1
      rw [hL.1]
      exact ⟨fun _ => hK, fun h => by omega⟩
    · apply l_Mo_certainMany_1
      rw [hL.1]
      have hc := cI_in (p := ce A v) h0
      refine ⟨fun h => by omega, fun _ => m_isCertain hL hA hv h0 h1 ?_⟩
      rw [Int.add_zero]
      cases hp : ce A v i with
      | false =>
        rw [cI_f h0 hp] at ih
        exact ⟨fun _ => ⟨by omega, by omega, ih⟩, fun h => absurd rfl h⟩
      | true =>
        rw [cI_t h0 hp] at ih
        exact ⟨fun h => by simp [bi] at h, fun _ => ⟨by omega, by omega, ih⟩⟩
  exact key 0 (by omega) hA.1
/-- the rest is laid by an interval -/
def BG (A : St) (v : Int) (σ : St) : Prop := σ 35 20 = Mq A v ∧ ∀ i, 0 ≤ i → i < A 0 0 → σ 44 i = fc A v i
theorem BG.sm {S : List Nat} {P : List Int} {A σ σ' : St} {v : Int} (h : BG A v σ) (hs : Mm S P σ σ') (h20 : (20 : Int) ∉ P) (h35 : 35 ∉ S) (h44 : 44 ∉ S) : BG A v σ' := ⟨by rw [hs 35 20 h35 (fun q => h20 q.2)]; exact h.1, fun i a b => by rw [hs 44 i h44 (fun q => by simp at q)]; exact h.2 i a b⟩
theorem s_laysRest {K : St → Prop} {A σ : St} (hL : LM A σ) (hA : OKL A) {v : Int} (hK : ∀ σ', Mm [44] [20] σ σ' → BG A v σ' → K σ') : CV M_Mo_laysRest [vR 35, vI v] σ K := by
  apply e_Mo_laysRest
  have h48 := hA.2.1
  have key : ∀ i, 0 ≤ i → i ≤ A 0 0 → ∀ τ, Mm [44] [20] σ τ → τ 35 20 = prq A v i → (∀ j, 0 ≤ j → j < i → τ 44 j = fc A v j) → WM M_Mo_laysRest 7 [(0, vR 35), (1, vI v), (2, vI i)] [] τ (QV K) := by
    refine up_ind (fun τ t1 t2 t3 => ?_) (fun i h0 h1 ih τ t1 t2 t3 => ?_)
    · apply l_Mo_laysRest_1
      rw [(hL.sm t1 (by decide) (by decide) (by decide)).1]
      exact ⟨fun _ => hK τ t1 ⟨t2, t3⟩, fun h => by omega⟩
    · apply l_Mo_laysRest_1
      have hLt := hL.sm t1 (by decide) (by decide) (by decide)
      rw [hLt.1]
      have hp := prq_in hA (v := v) h0 (by omega)
      have hc := co_in hA h0 h1
      have hr := rc_in hA (v := v) h0 h1
      have go : ∀ τ' : St, Mm [44] [20] σ τ' → τ' 35 20 = prq A v i + rc A v i → τ' 44 i = fc A v i → (∀ j, 0 ≤ j → j < i → τ' 44 j = fc A v j) → WM M_Mo_laysRest 7 [(0, vR 35), (1, vI v), (2, vI (i + 1))] [] τ' (QV K) := fun τ' a1 a2 a3 a4 => by
        refine ih τ' a1 (by rw [prq_s h0]; exact a2) (fun j x y => ?_)
        by_cases hj : j = i
        · subst hj; exact a3
        · exact a4 j x (by omega)
      have none : rc A v i = 0 → (0 ≤ i) ∧ (i < 48) ∧ (inR ((τ 35 20) + 0)) ∧ (inR (i + 1)) ∧ WM M_Mo_laysRest 7 [(0, vR 35), (1, vI v), (2, vI (i + 1))] [] (ups (ups τ 44 i 0) 35 20 ((τ 35 20) + 0)) (QV K) := fun hz => by
        rw [t2]
        refine ⟨h0, by omega, by omega, by omega, go _ ((t1.up (by decide)).fd (by decide)) (by rw [ups_s, hz]) ?_ (fun j x y => ?_)⟩
        · rw [ups_c (by decide), ups_s]; unfold fc; rw [if_pos hz]
        · rw [ups_c (by decide), ups_f (by omega)]; exact t3 j x y
      refine ⟨fun h => by omega, fun _ => m_coinsOf hLt hA h0 h1 ⟨fun hz => none (by omega), fun hz => v_book hLt hA h0 h1 (v_isCertainBy ?_)⟩⟩
      cases hce : ce A v i with
      | true =>
        refine ⟨fun _ => none (by unfold rc; rw [if_pos hce]), fun h => by simp [bi] at h⟩
      | false =>
        refine ⟨fun h => absurd rfl h, fun _ => ?_⟩
        have er : rc A v i = co A i := by unfold rc; rw [if_neg (by simp [hce])]
        rw [t2]
        have t4 : Mm [44] [20] σ (ups τ 44 i (prq A v i + 1)) := t1.up (by decide)
        refine ⟨by omega, h0, by omega, m_coinsOf (hL.sm t4 (by decide) (by decide) (by decide)) hA h0 h1 ⟨by omega, by omega, go _ (t4.fd (by decide)) (by rw [ups_s, er]) ?_ (fun j x y => ?_)⟩⟩
        · rw [ups_c (by decide), ups_s]; unfold fc; rw [if_neg (by omega)]
        · rw [ups_c (by decide), ups_f (by omega)]; exact t3 j x y
  exact key 0 (by omega) hA.1 _ (Mm.rf.fd (by decide)) (by rw [ups_s]; rfl) (fun j a b => by omega)
theorem m_ownerOf {K : Int → St → Prop} {A σ : St} (hL : LM A σ) (hA : OKL A) {v : Int} (hB : BG A v σ) {c : Int} (h0 : 1 ≤ c) (h1 : c ≤ Mq A v) (hK : K (ow A v c) σ) : CI M_Mo_ownerOf [vR 35, vI c] σ K := by
  apply e_Mo_ownerOf
  have h48 := hA.2.1
  have ho := ow_spec hA h0 h1
  have hMq := Mq_in hA (v := v)
  have key : ∀ i, 0 ≤ i → i ≤ ow A v c → WM M_Mo_ownerOf 2 [(0, vR 35), (1, vI c), (2, vI i)] [] σ (QI K) := by
    refine up_ind ?_ (fun i a b ih => ?_)
    · apply l_Mo_ownerOf_1
      have hf := fc_in hA (v := v) ho.1 ho.2.1
      rw [hB.2 _ ho.1 ho.2.1]
      refine ⟨ho.1, by omega, fun h => by omega, fun h => m_coinsOf hL hA ho.1 ho.2.1 ⟨by omega, fun _ => hK, fun h => by omega⟩⟩
    · apply l_Mo_ownerOf_1
      have hf := fc_in hA (v := v) a (show i < A 0 0 by omega)
      have hc := co_in hA a (show i < A 0 0 by omega)
      have hm := prq_mono hA (v := v) (i := i + 1) (k := ow A v c) (by omega) (by omega) (by omega)
      rw [prq_s a] at hm
      rw [hB.2 i a (by omega)]
      exact ⟨a, by omega, fun _ => ⟨by omega, ih⟩, fun h => m_coinsOf hL hA a (by omega) ⟨by omega, fun h => by omega, fun _ => ⟨by omega, ih⟩⟩⟩
  exact key 0 (by omega) ho.1
theorem nh_iff {A : St} {v s j : Int} (hv : 0 < v) (hj : 0 ≤ j) : j < nh A v s ↔ s + j * v ≤ Mq A v := by
  unfold nh
  have h0 := Int.mul_nonneg hj (show 0 ≤ v by omega)
  split
  · omega
  · have := Int.le_ediv_iff_mul_le (a := j) (b := Mq A v - s) hv
    omega
/-- the hits are laid -/
def HT (A σ : St) : Prop := BG A (A 0 1) σ ∧ σ 35 25 = hb A (A 0 2) ∧ (∀ k, 0 ≤ k → k < hb A (A 0 2) → σ 45 k = hI A k ∧ σ 46 k = hC A k ∧ σ 47 k = hR A k) ∧ ∀ i, 0 ≤ i → i < A 0 0 → σ 48 i = th A (A 0 2) i
theorem HT.sm {S : List Nat} {P : List Int} {A σ σ' : St} (h : HT A σ) (hs : Mm S P σ σ') (h20 : (20 : Int) ∉ P) (h25 : (25 : Int) ∉ P) (h35 : 35 ∉ S) (h44 : 44 ∉ S) (h45 : 45 ∉ S) (h46 : 46 ∉ S) (h47 : 47 ∉ S) (h48 : 48 ∉ S) : HT A σ' :=
  ⟨h.1.sm hs h20 h35 h44, by rw [hs 35 25 h35 (fun q => h25 q.2)]; exact h.2.1, fun k a b => by rw [hs 45 k h45 (fun q => by simp at q), hs 46 k h46 (fun q => by simp at q), hs 47 k h47 (fun q => by simp at q)]; exact h.2.2.1 k a b, fun i a b => by rw [hs 48 i h48 (fun q => by simp at q)]; exact h.2.2.2 i a b⟩
theorem s_laysHits {K : St → Prop} {A σ : St} (hM : MR A σ) (hA : OKA A) (hK : ∀ σ', Mm [44, 45, 46, 47, 48] [20, 25] σ σ' → HT A σ' → K σ') : CV M_Mo_laysHits [vR 35] σ K := by
  apply e_Mo_laysHits
  have h48 := hA.1.2.1
  have hRR := hA.2.2.1
  have hi := hA.2.1
  have hMq := Mq_in hA.1 (v := A 0 1)
  rw [hM.2.1.1]
  refine s_laysRest hM.1 hA.1 (fun σ1 s1 b1 => ?_)
  -- what stays
  have fr : ∀ τ, Mm [44, 45, 46, 47, 48] [20, 25] σ τ → LM A τ ∧ τ 35 9 = A 0 1 ∧ τ 35 10 = A 0 2 ∧ ∀ r, 0 ≤ r → r < A 0 2 → τ 41 r = A 5 r := fun τ t => by
    have := hM.sm t (by decide) (by decide)
    exact ⟨this.1, this.2.1⟩
  -- the coins of a run
  have runs : ∀ r, 0 ≤ r → r ≤ A 0 2 → ∀ τ, Mm [44, 45, 46, 47, 48] [20, 25] σ τ → BG A (A 0 1) τ → τ 35 25 = hb A r → (∀ k, 0 ≤ k → k < hb A r → τ 45 k = hI A k ∧ τ 46 k = hC A k ∧ τ 47 k = hR A k) → (∀ i, 0 ≤ i → i < A 0 0 → τ 48 i = cI (fun k => decide (hI A k = i)) (hb A r)) → WM M_Mo_laysHits 38 [(0, vR 35), (1, vI r)] [] τ (QV K) := by
    refine up_ind (fun τ t1 t2 t3 t4 t5 => ?_) (fun r a b ih τ t1 t2 t3 t4 t5 => ?_)
    · apply l_Mo_laysHits_2
      rw [(fr τ t1).2.2.1]
      exact ⟨fun _ => hK τ t1 ⟨t2, t3, t4, fun i x y => by rw [t5 i x y, item_hits hA x y _ hRR.1 (Int.le_refl _)]⟩, fun h => by omega⟩
    · apply l_Mo_laysHits_2
      rw [(fr τ t1).2.2.1, (fr τ t1).2.2.2 r a b]
      have hs := hRR.2.2.2 r a b
      have hiv : 0 < A 0 1 := by omega
      have hn := nh_in hA.1 (v := A 0 1) hi.1 hs.1
      have hh := hb_in hA a (show r ≤ A 0 2 by omega)
      refine ⟨fun h => by omega, fun _ => ⟨a, by omega, ?_⟩⟩
      have coins : ∀ j, 0 ≤ j → j ≤ nh A (A 0 1) (A 5 r) → ∀ τ, Mm [44, 45, 46, 47, 48] [20, 25] σ τ → BG A (A 0 1) τ → τ 35 25 = hb A r + j → (∀ k, 0 ≤ k → k < hb A r + j → τ 45 k = hI A k ∧ τ 46 k = hC A k ∧ τ 47 k = hR A k) → (∀ i, 0 ≤ i → i < A 0 0 → τ 48 i = cI (fun k => decide (hI A k = i)) (hb A r + j)) → WM M_Mo_laysHits 53 [(0, vR 35), (1, vI r), (2, vI (A 5 r + j * A 0 1))] [] τ (QV K) := by
        refine up_ind (fun τ t1 t2 t3 t4 t5 => ?_) (fun j x y ih2 τ t1 t2 t3 t4 t5 => ?_)
        · apply l_Mo_laysHits_3
          rw [t2.1]
          have := (nh_iff (A := A) (v := A 0 1) (s := A 5 r) (j := nh A (A 0 1) (A 5 r)) hiv hn.1).mpr
          rw [← hb_s a] at t3 t4 t5
          refine ⟨fun _ => ⟨by omega, ih τ t1 t2 t3 t4 t5⟩, fun h => ?_⟩
          have := this (by omega)
          omega
        · apply l_Mo_laysHits_3
          rw [t2.1]
          have hco := nh_coin hA.1 (v := A 0 1) hi.1 hs.1 hs.2 x y
          have ho := ow_spec hA.1 (v := A 0 1) hco.1 hco.2.1
          have eC := hC_eq hA a b x y
          have eR := hR_eq hA a b x y
          have eI : hI A (hb A r + j) = ow A (A 0 1) (A 5 r + j * A 0 1) := by unfold hI; rw [eC]
          refine ⟨fun h => by omega, fun _ => m_ownerOf (fr τ t1).1 hA.1 t2 hco.1 hco.2.1 ?_⟩
          rw [t3, (fr τ t1).2.1, t5 _ ho.1 ho.2.1]
          have hc := cI_in (p := fun k => decide (hI A k = ow A (A 0 1) (A 5 r + j * A 0 1))) (i := hb A r + j) (by omega)
          refine ⟨by omega, by omega, by omega, ho.1, by omega, by omega, by omega, ?_⟩
          rw [show A 5 r + j * A 0 1 + A 0 1 = A 5 r + (j + 1) * A 0 1 by rw [Int.add_mul]; omega]
          refine ih2 _ (((((t1.up (by decide)).up (by decide)).up (by decide)).fd (by decide)).up (by decide)) ⟨?_, fun i p q => ?_⟩ ?_ (fun k p q => ?_) (fun i p q => ?_)
          · rw [ups_c (by decide), ups_f (by decide), ups_c (by decide), ups_c (by decide), ups_c (by decide)]; exact t2.1
          · rw [ups_c (by decide), ups_c (by decide), ups_c (by decide), ups_c (by decide), ups_c (by decide)]; exact t2.2 i p q
          · rw [ups_c (by decide), ups_s]; omega
          · refine ⟨(?_ : ups τ 45 (hb A r + j) (ow A (A 0 1) (A 5 r + j * A 0 1)) 45 k = _), (?_ : ups τ 46 (hb A r + j) (A 5 r + j * A 0 1) 46 k = _), (?_ : ups τ 47 (hb A r + j) r 47 k = _)⟩
            all_goals by_cases hk : k = hb A r + j
            · subst hk; rw [ups_s, eI]
            · rw [ups_f hk]; exact (t4 k p (by omega)).1
            · subst hk; rw [ups_s, eC]
            · rw [ups_f hk]; exact (t4 k p (by omega)).2.1
            · subst hk; rw [ups_s, eR]
            · rw [ups_f hk]; exact (t4 k p (by omega)).2.2
          · rw [show hb A r + (j + 1) = hb A r + j + 1 by omega]
            by_cases hio : i = ow A (A 0 1) (A 5 r + j * A 0 1)
            · subst hio
              rw [ups_s, cI_t (by omega) (by simp [eI])]
            · rw [ups_f hio, ups_c (by decide), ups_c (by decide), ups_c (by decide), ups_c (by decide), cI_f (by omega) (by simp [eI]; exact fun h => hio h.symm)]
              exact t5 i p q
      have := coins 0 (by omega) hn.1 τ t1 t2 (by rw [Int.add_zero]; exact t3) (by rw [Int.add_zero]; exact t4) (by rw [Int.add_zero]; exact t5)
      rwa [Int.zero_mul, Int.add_zero] at this
  have zero : ∀ i, 0 ≤ i → i ≤ A 0 0 → ∀ τ, Mm [44, 45, 46, 47, 48] [20, 25] σ τ → BG A (A 0 1) τ → τ 35 25 = 0 → (∀ j, 0 ≤ j → j < i → τ 48 j = 0) → WM M_Mo_laysHits 15 [(0, vR 35), (1, vI i)] [] τ (QV K) := by
    refine up_ind (fun τ t1 t2 t3 t4 => ?_) (fun i a b ih τ t1 t2 t3 t4 => ?_)
    · apply l_Mo_laysHits_1
      rw [(fr τ t1).1.1]
      refine ⟨fun _ => runs 0 (by omega) hRR.1 τ t1 t2 t3 (fun k x y => ?_) (fun i x y => t4 i x y), fun h => by omega⟩
      have : hb A 0 = 0 := rfl
      omega
    · apply l_Mo_laysHits_1
      rw [(fr τ t1).1.1]
      refine ⟨fun h => by omega, fun _ => ⟨a, by omega, by omega, ih _ (t1.up (by decide)) ⟨?_, fun j x y => ?_⟩ ?_ (fun j x y => ?_)⟩⟩
      · rw [ups_c (by decide)]; exact t2.1
      · rw [ups_c (by decide)]; exact t2.2 j x y
      · rw [ups_c (by decide)]; exact t3
      · by_cases hj : j = i
        · subst hj; rw [ups_s]
        · rw [ups_f hj]; exact t4 j x (by omega)
  refine zero 0 (by omega) hA.1.1 _ ((s1.wk (by decide) (by decide)).fd (by decide)) ⟨?_, fun i a b => ?_⟩ (by rw [ups_s]) (fun j a b => by omega)
  · rw [ups_f (by decide)]; exact b1.1
  · rw [ups_c (by decide)]; exact b1.2 i a b
theorem v_isDrawn {K : Int → St → Prop} {A σ : St} (hM : MR A σ) (hA : OKA A) (hH : ∀ i, 0 ≤ i → i < A 0 0 → σ 48 i = th A (A 0 2) i) {x : Int} (h0 : 0 ≤ x) (h1 : x < A 0 0) (hK : K (bi (lk A (A 0 2) x)) σ) : CI M_Mo_isDrawn [vR 35, vI x] σ K := by
  apply e_Mo_isDrawn
  have h48 := hA.1.2.1
  rw [hH x h0 h1]
  unfold lk at hK
  refine ⟨h0, by omega, fun h => ?_, fun h => m_isCertain hM.1 hA.1 hM.2.1.1 h0 h1 ?_⟩
  · rw [bi_t (by simp [h])] at hK; exact hK
  · cases hc : ce A (A 0 1) x with
    | true => rw [bi_t (by simp [hc])] at hK; exact ⟨fun h => by simp [bi] at h, fun _ => hK⟩
    | false => rw [bi_f (by simp [hc]; omega)] at hK; exact ⟨fun _ => hK, fun h => absurd rfl h⟩
theorem v_isSo {K : Int → St → Prop} {A σ : St} (hM : MR A σ) (hA : OKA A) (hH : ∀ i, 0 ≤ i → i < A 0 0 → σ 48 i = th A (A 0 2) i) {w x : Int} (hw : w = 0 ∨ w = 1 ∨ w = 2) (h0 : 0 ≤ x) (h1 : x < A 0 0) (hK : K (bi (kdp A w x)) σ) : CI M_Mo_isSo [vR 35, vI x, vI w] σ K := by
  apply e_Mo_isSo
  unfold kdp at hK
  refine ⟨fun hn => v_isDrawn hM hA hH h0 h1 ?_, fun h => m_isCertain hM.1 hA.1 hM.2.1.1 h0 h1 ⟨by have := bi_01 (ce A (A 0 1) x); omega, ?_⟩⟩
  · rw [if_neg hn] at hK
    cases hl : lk A (A 0 2) x with
    | false =>
      refine ⟨fun _ => ?_, fun h => absurd rfl h⟩
      split at hK
      · rw [bi_f (by unfold lackp; simp [hl])] at hK; exact hK
      · rw [hl] at hK; exact hK
    | true =>
      refine ⟨fun h => by simp [bi] at h, fun _ => ⟨fun h2 => ?_, fun h2 => v_audited hM.1 hA.1 h0 h1 ⟨fun h3 => ?_, fun h3 => ?_⟩⟩⟩
      · rw [if_neg (by omega), hl] at hK; exact hK
      · rw [if_pos (by omega), bi_f (by unfold lackp; simp [h3])] at hK; exact hK
      · rw [if_pos (by omega), bi_t (by unfold lackp; simp [h3, hl])] at hK; exact hK
  · rw [if_pos h] at hK; exact hK
theorem v_among {K : Int → St → Prop} {A σ : St} (hM : MR A σ) (hA : OKA A) {w k : Int} (hw : w = 0 ∨ w = 1 ∨ w = 2) (hK : ∀ σ', Mm [44, 45, 46, 47, 48] [20, 25] σ σ' → (-1 ≤ k → HT A σ') → K (q_list A w k) σ') : CI M_Mo_among [vR 35, vI k, vI w] σ K := by
  apply e_Mo_among
  have h48 := hA.1.2.1
  refine ⟨fun hk => s_laysHits hM hA (fun σ1 s1 t1 => ?_), fun hk => ?_⟩
  · have hM1 := hM.sm s1 (by decide) (by decide)
    have hK1 := hK σ1 s1 (fun _ => t1)
    have key : ∀ i, 0 ≤ i → i ≤ A 0 0 → (∀ j, 0 ≤ j → j < i → kdp A w j = true → cI (kdp A w) j ≠ k) → WM M_Mo_among 17 [(0, vR 35), (1, vI k), (2, vI w), (3, vI (cI (kdp A w) i)), (4, vI i)] [] σ1 (QI K) := by
      refine up_ind (fun hf => ?_) (fun i h0 h1 ih hf => ?_)
      · apply l_Mo_among_1
        rw [hM1.1.1]
        have e := kI_end hA.1.1 hk hf
        unfold q_list at hK1
        refine ⟨fun _ => ⟨fun h => ?_, fun h => ?_⟩, fun h => by omega⟩
        · rw [if_neg h] at e; rw [e] at hK1; exact hK1
        · rw [if_pos h] at e; rw [e] at hK1; exact hK1
      · apply l_Mo_among_1
        rw [hM1.1.1]
        have hc := cI_in (p := kdp A w) h0
        refine ⟨fun h => by omega, fun _ => v_isSo hM1 hA t1.2.2.2 hw h0 h1 ?_⟩
        cases hp : kdp A w i with
        | false =>
          rw [cI_f h0 hp] at ih
          refine ⟨fun h => absurd rfl h, fun _ => ⟨by omega, ih (fun j a b => ?_)⟩⟩
          by_cases hj : j = i
          · subst hj; simp [hp]
          · exact hf j a (by omega)
        | true =>
          rw [cI_t h0 hp] at ih
          refine ⟨fun _ => ⟨fun hne => ⟨by omega, by omega, ih (fun j a b => ?_)⟩, fun he => ?_⟩, fun h => by simp [bi] at h⟩
          · by_cases hj : j = i
            · subst hj; exact fun _ => hne
            · exact hf j a (by omega)
          · unfold q_list at hK1; rw [kI_hit h0 h1 hp he] at hK1; exact hK1
    exact key 0 (by omega) hA.1.1 (fun j a b => by omega)
  · have hK1 := hK σ Mm.rf (fun h => by omega)
    unfold q_list at hK1
    rw [kI_low (by omega)] at hK1
    exact hK1
