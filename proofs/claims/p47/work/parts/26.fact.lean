-- kept upper bounds, sizes
def Sm (S : List Nat) (σ σ' : St) : Prop := ∀ c, c ∉ S → ∀ j, σ' c j = σ c j
theorem Sm.rf {S : List Nat} {σ : St} : Sm S σ σ := fun _ _ _ => rfl
theorem Sm.tr {S : List Nat} {a b c : St} (h1 : Sm S a b) (h2 : Sm S b c) : Sm S a c := fun x hx j => (h2 x hx j).trans (h1 x hx j)
theorem Sm.up {S : List Nat} {σ τ : St} {c : Nat} {j v : Int} (h : Sm S σ τ) (hc : c ∈ S) : Sm S σ (ups τ c j v) := fun x hx i => by
  rw [ups_c (fun e => hx (by rw [e]; exact hc))]
  exact h x hx i
theorem Sm.wk {S T : List Nat} {σ τ : St} (h : Sm S σ τ) (hST : ∀ x ∈ S, x ∈ T) : Sm T σ τ := fun x hx j => h x (fun q => hx (hST x q)) j
/-- the kept ones are right -/
def FC (σ : St) : Prop := ∀ k, 0 ≤ k → k ≤ 400 → σ 27 k ≠ 0 → σ 27 k = UP (σ 26 1) k (σ 26 2)
theorem FC.sm {S : List Nat} {σ σ' : St} (h : FC σ) (hs : Sm S σ σ') (h6 : 26 ∉ S) (h7 : 27 ∉ S) : FC σ' := fun k a b => by
  rw [hs 27 h7, hs 26 h6, hs 26 h6]
  exact h k a b
theorem s_fill {K : St → Prop} {σ : St} (hK : ∀ σ', Sm [27] σ σ' → (∀ k, 0 ≤ k → k ≤ 400 → σ' 27 k = 0) → K σ') : CV M_Ar_fill [vR 27, vI 0] σ K := by
  apply e_Ar_fill
  have key : ∀ i, 0 ≤ i → i ≤ 401 → ∀ τ, Sm [27] σ τ → (∀ k, 0 ≤ k → k < i → τ 27 k = 0) → WM M_Ar_fill 5 [(0, vR 27), (1, vI 0), (2, vI i), (3, vI 401)] [] τ (QV K) := by
    refine up_ind (fun τ h1 h2 => ?_) (fun i h0 h1 ih τ h2 h3 => ?_)
    · apply l_Ar_fill_1
      exact ⟨fun _ => hK τ h1 (fun k a b => h2 k a (by omega)), fun h => by omega⟩
    · apply l_Ar_fill_1
      refine ⟨fun h => by omega, fun _ => ⟨h0, h1, by omega, ih _ (h2.up (by decide)) (fun k a b => ?_)⟩⟩
      by_cases hk : k = i
      · subst hk; rw [ups_s]
      · rw [ups_f hk]; exact h3 k a (by omega)
  exact key 0 (by omega) (by omega) σ Sm.rf (fun k a b => by omega)
theorem v_upperOf {K : Int → St → Prop} {σ : St} {n k r : Int} (hF : FC σ) (hn0 : 0 ≤ n) (hn1 : n ≤ 1000) (hk0 : 0 ≤ k) (hk1 : k ≤ 400) (hr0 : 1 ≤ r) (hr1 : r ≤ 500) (hK : ∀ σ', Sm [26, 27] σ σ' → FC σ' → K (UP n k r) σ') : CI M_Fa_upperOf [vR 26, vI n, vI k, vI r] σ K := by
  apply e_Fa_upperOf
  have hU := UP_in n k r
  -- behind a fill
  have fresh : ∀ τ : St, Sm [27] σ τ → (∀ k, 0 ≤ k → k ≤ 400 → τ 27 k = 0) → (0 ≤ k) ∧ (k < 401) ∧ (¬ (τ 27 k) = 0 → K (τ 27 k) (ups (ups τ 26 1 n) 26 2 r)) ∧ ((τ 27 k) = 0 → CI M_Fa_halved [vR 26, vI n, vI k, vI r] (ups (ups τ 26 1 n) 26 2 r) (fun v10 σ9 => K v10 (ups σ9 27 k v10))) := by
    intro τ h1 h2
    refine ⟨hk0, by omega, fun h => absurd (h2 k hk0 hk1) h, fun _ => f_halved_c hn0 hn1 hk0 hk1 hr0 hr1 (hK _ ?_ ?_)⟩
    · exact (((h1.wk (by decide)).up (by decide)).up (by decide)).up (by decide)
    · intro j a b hne
      by_cases hj : j = k
      · subst hj; simp [ups]
      · simp [ups, hj] at hne
        exact absurd (h2 j a b) hne
  refine ⟨fun h => by omega, fun _ => ⟨fun _ => ⟨fun _ => s_fill fresh, fun hn => ⟨fun hr => ⟨hk0, by omega, fun h => ?_, fun h => f_halved_c hn0 hn1 hk0 hk1 hr0 hr1 (hK _ (Sm.rf.up (by decide)) ?_)⟩, fun _ => s_fill fresh⟩⟩, fun h => by omega⟩⟩
  · rw [hF k hk0 hk1 h, ← hn, ← hr]
    exact hK σ Sm.rf hF
  · intro j a b hne
    by_cases hj : j = k
    · subst hj; simp [ups, ← hn, ← hr]
    · simp [ups, hj] at hne ⊢
      exact hF j a b hne
/-- the least size up to 400, or -1 -/
def szb (c t e r n : Int) : Bool := decide (c * UP n e r / 1000000 ≤ t)
def SZ (c t e r : Int) : Int := if fI (fun i => szb c t e r (i + 1)) 400 = -1 then -1 else fI (fun i => szb c t e r (i + 1)) 400 + 1
theorem szb_up {c t e r n : Int} (hc : 0 ≤ c) (he0 : 0 ≤ e) (he1 : e ≤ 9) (hn0 : 1 ≤ n) (hn1 : n < 400) (hr0 : 1 ≤ r) (hr1 : r ≤ 500) (h : szb c t e r n = true) : szb c t e r (n + 1) = true := by
  unfold szb at h ⊢
  have h1 := UP_n he0 he1 hn0 hn1 hr0 hr1
  have h2 := mul_le_l h1 hc
  have h3 := Int.ediv_le_ediv (show (0 : Int) < 1000000 by omega) h2
  simp at h ⊢
  omega
theorem szb_up2 {c t e r n m : Int} (hc : 0 ≤ c) (he0 : 0 ≤ e) (he1 : e ≤ 9) (hn0 : 1 ≤ n) (hnm : n ≤ m) (hm : m ≤ 400) (hr0 : 1 ≤ r) (hr1 : r ≤ 500) (h : szb c t e r n = true) : szb c t e r m = true := by
  have : ∀ d, 0 ≤ d → n + d ≤ 400 → szb c t e r (n + d) = true := by
    refine nn_ind (fun _ => by rw [Int.add_zero]; exact h) (fun d hd ih hb => ?_)
    rw [← Int.add_assoc]
    exact szb_up hc he0 he1 (by omega) (by omega) hr0 hr1 (ih (by omega))
  have := this (m - n) (by omega) (by omega)
  rwa [show n + (m - n) = m by omega] at this
theorem v_leastN {K : Int → St → Prop} {σ : St} {c t e r : Int} (hc0 : 0 ≤ c) (hc1 : c ≤ 4799952) (he0 : 0 ≤ e) (he1 : e ≤ 9) (hr0 : 1 ≤ r) (hr1 : r ≤ 500) (hK : K (SZ c t e r) σ) : CI M_Fa_leastN [vR 26, vI c, vI t, vI e, vI r] σ K := by
  apply e_Fa_leastN
  -- low doesn't do, high does (401: nothing said), so many rounds are enough
  have done : ∀ lo hi : Int, 0 ≤ lo → lo < hi → hi ≤ 401 → hi - lo ≤ 1 → (lo = 0 ∨ szb c t e r lo = false) → (hi = 401 ∨ szb c t e r hi = true) → (hi ≤ 400 → K hi σ) ∧ (¬ hi ≤ 400 → K (-1) σ) := by
    intro lo hi h0 h1 h2 h3 h6 h7
    have hlow : ∀ j, 1 ≤ j → j ≤ lo → szb c t e r j = false := by
      intro j a b
      rcases h6 with h6 | h6
      · omega
      · cases hj : szb c t e r j with
        | false => rfl
        | true => rw [szb_up2 hc0 he0 he1 a b (by omega) hr0 hr1 hj] at h6; cases h6
    refine ⟨fun h => ?_, fun h => ?_⟩
    · rcases h7 with h7 | h7
      · omega
      · have e1 : fI (fun i => szb c t e r (i + 1)) 400 = hi - 1 := fI_eq (by omega) (by omega) (by rw [show hi - 1 + 1 = hi by omega]; exact h7) (fun j a b => hlow (j + 1) (by omega) (by omega))
        unfold SZ at hK
        rw [e1, if_neg (by omega), show hi - 1 + 1 = hi by omega] at hK
        exact hK
    · have e1 : fI (fun i => szb c t e r (i + 1)) 400 = -1 := fI_none (by omega) (fun j a b => hlow (j + 1) (by omega) (by omega))
      unfold SZ at hK
      rw [e1, if_pos rfl] at hK
      exact hK
  -- low doesn't do, high does (401: nothing said), so many rounds are enough
  have key : ∀ m : Nat, ∀ lo hi : Int, ∀ x : Int, 0 ≤ lo → lo < hi → hi ≤ 401 → x + m = 60 → 0 ≤ x → hi - lo ≤ 2 ^ m → (lo = 0 ∨ szb c t e r lo = false) → (hi = 401 ∨ szb c t e r hi = true) → WM M_Fa_leastN 11 [(0, vR 26), (1, vI c), (2, vI t), (3, vI e), (4, vI r), (5, vI lo), (6, vI hi), (7, vI x)] [] σ (QI K) := by
    intro m
    induction m with
    | zero =>
      intro lo hi x h0 h1 h2 h3 h4 h5 h6 h7
      apply l_Fa_leastN_1
      exact ⟨fun _ => done lo hi h0 h1 h2 (by omega) h6 h7, fun h => by omega⟩
    | succ m ih =>
      intro lo hi x h0 h1 h2 h3 h4 h5 h6 h7
      apply l_Fa_leastN_1
      have hU := UP_in ((lo + hi) / 2) e r
      have h8 := mul_le_l hU.2 hc0
      have h9 := Int.mul_nonneg hc0 (show 0 ≤ UP ((lo + hi) / 2) e r by omega)
      have h10 : (2 : Int) ^ (m + 1) = 2 * 2 ^ m := by rw [Int.pow_succ]; omega
      refine ⟨fun h => by omega, fun _ => ⟨by omega, fun h => done lo hi h0 h1 h2 h h6 h7, fun h => ⟨by omega, by omega, f_halved_c (by omega) (by omega) he0 (by omega) hr0 hr1 ⟨by omega, h9, fun hq => ⟨by omega, ?_⟩, fun hq => ⟨by omega, ?_⟩⟩⟩⟩⟩
      · rw [lcq_gt] at hq
        exact ih _ _ _ (by omega) (by omega) h2 (by omega) (by omega) (by omega) (Or.inr (by unfold szb; simp; omega)) h7
      · rw [lcq_gt] at hq
        exact ih _ _ _ h0 (by omega) (by omega) (by omega) (by omega) (by omega) h6 (Or.inr (by unfold szb; simp; omega))
  exact key 60 0 401 0 (by omega) (by omega) (by omega) (by omega) (by omega) (by omega) (Or.inl rfl) (Or.inl rfl)

