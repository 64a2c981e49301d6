-- the walk goes on: a start is drawn, its hits are laid
def lcg (s : Int) : Int := (s * 1103 + 12345) % 1000003
def isS (A : St) (v : Int) : Bool := decide (fI (fun r => decide (A 5 r = v)) (A 0 2) ≠ -1)
def lf (A : St) : Int := fI (fun v => !isS A (v + 1)) 6 + 1
def drw (A : St) : Nat → Int → Int × Int
  | 0, s => (lf A, s)
  | m + 1, s => if isS A (lcg s % A 0 1 + 1) then drw A m (lcg s) else (lcg s % A 0 1 + 1, lcg s)
theorem cI_all {p : Int → Bool} : ∀ i, 0 ≤ i → (∀ j, 0 ≤ j → j < i → p j = true) → cI p i = i := by
  refine nn_ind (fun _ => rfl) (fun i hi ih h => ?_)
  rw [cI_t hi (h i hi (by omega)), ih (fun j a b => h j a (by omega))]
theorem cI_one {c : Int} : ∀ i, 0 ≤ i → cI (fun v => decide (v = c)) i ≤ 1 ∧ (i ≤ c → cI (fun v => decide (v = c)) i = 0) := by
  refine nn_ind ⟨by rw [cI_0]; omega, fun _ => rfl⟩ (fun i hi ih => ?_)
  by_cases h : i = c
  · rw [cI_t hi (by simp [h]), ih.2 (by omega)]
    exact ⟨by omega, fun _ => by omega⟩
  · rw [cI_f hi (by simp [h])]
    exact ⟨ih.1, fun _ => ih.2 (by omega)⟩
theorem cI_or {p q r : Int → Bool} : ∀ i, 0 ≤ i → (∀ j, 0 ≤ j → j < i → p j = true → q j = true ∨ r j = true) → cI p i ≤ cI q i + cI r i := by
  refine nn_ind (fun _ => by simp [cI_0]) (fun i hi ih h => ?_)
  have h1 := ih (fun j a b => h j a (by omega))
  have h2 := h i hi (by omega)
  cases hp : p i <;> cases hq : q i <;> cases hr : r i <;> simp [hp, hq, hr] at h2 <;> first | rw [cI_f hi hp] | rw [cI_t hi hp]
  all_goals first | rw [cI_f hi hq] | rw [cI_t hi hq]
  all_goals first | rw [cI_f hi hr] | rw [cI_t hi hr]
  all_goals omega
/-- so many starts are so many different ones at most -/
theorem cnt_le (A : St) {N : Int} (hN : 0 ≤ N) : ∀ R, 0 ≤ R → cI (fun v => decide (fI (fun r => decide (A 5 r = v + 1)) R ≠ -1)) N ≤ R := by
  refine nn_ind ?_ (fun R hR ih => ?_)
  · have h1 := cI_congr (p := fun v => decide (fI (fun r => decide (A 5 r = v + 1)) 0 ≠ -1)) (q := fun _ => false) hN (fun j _ _ => by
      rw [show fI (fun r => decide (A 5 r = j + 1)) 0 = -1 from rfl]; rfl)
    rw [h1]
    have : ∀ i, 0 ≤ i → cI (fun _ => false) i = 0 := nn_ind rfl (fun i hi ih => by rw [cI_f hi rfl, ih])
    rw [this N hN]
    exact Int.le_refl _
  · have h1 := cI_or (p := fun v => decide (fI (fun r => decide (A 5 r = v + 1)) (R + 1) ≠ -1)) (q := fun v => decide (fI (fun r => decide (A 5 r = v + 1)) R ≠ -1)) (r := fun v => decide (v = A 5 R - 1)) N hN (fun j a b hp => by
      simp at hp ⊢
      by_cases hj : j = A 5 R - 1
      · exact Or.inr hj
      · refine Or.inl fun hf => hp ?_
        refine fI_none (by omega) (fun q x y => ?_)
        rcases fI_spec (fun r => decide (A 5 r = j + 1)) hR with ⟨_, g⟩ | ⟨g, _⟩
        · by_cases hq : q = R
          · subst hq; simp; omega
          · exact g q x (by omega)
        · omega)
    have h2 := (cI_one (c := A 5 R - 1) N hN).1
    omega
theorem lf_spec {A : St} (h0 : 0 ≤ A 0 2) (h5 : A 0 2 ≤ 5) : 1 ≤ lf A ∧ lf A ≤ A 0 2 + 1 ∧ isS A (lf A) = false ∧ ∀ v, 1 ≤ v → v < lf A → isS A v = true := by
  have hle : ∀ N, 0 ≤ N → (∀ v, 0 ≤ v → v < N → isS A (v + 1) = true) → N ≤ A 0 2 := fun N hN h => by
    have h1 := cnt_le A hN (A 0 2) h0
    have h2 := cI_all (p := fun v => decide (fI (fun r => decide (A 5 r = v + 1)) (A 0 2) ≠ -1)) N hN h
    omega
  rcases fI_spec (fun v => !isS A (v + 1)) (n := 6) (by omega) with ⟨_, h⟩ | ⟨a, b, c, d⟩
  · have := hle 6 (by omega) (fun v x y => by simpa using h v x y)
    omega
  · unfold lf
    have := hle _ a (fun v x y => by simpa using d v x y)
    refine ⟨by omega, by omega, by simpa using c, fun v x y => ?_⟩
    have := d (v - 1) (by omega) (by omega)
    rw [show v - 1 + 1 = v by omega] at this
    simpa using this
theorem lcg_in (s : Int) : 0 ≤ lcg s ∧ lcg s < 1000003 := ⟨Int.emod_nonneg _ (by decide), Int.emod_lt_of_pos _ (by decide)⟩
theorem drw_in {A : St} (h0 : 0 ≤ A 0 2) (h5 : A 0 2 ≤ 5) (hr : A 0 2 < A 0 1) : ∀ (m : Nat) (s : Int), 0 ≤ s → s ≤ 1000003 → 1 ≤ (drw A m s).1 ∧ (drw A m s).1 ≤ A 0 1 ∧ 0 ≤ (drw A m s).2 ∧ (drw A m s).2 ≤ 1000003 := by
  intro m
  induction m with
  | zero =>
    intro s a b
    have := lf_spec h0 h5
    exact ⟨this.1, by show lf A ≤ _; omega, a, b⟩
  | succ m ih =>
    intro s a b
    have hl := lcg_in s
    have h1 := Int.emod_nonneg (lcg s) (show A 0 1 ≠ 0 by omega)
    have h2 := Int.emod_lt_of_pos (lcg s) (show 0 < A 0 1 by omega)
    unfold drw
    split
    · exact ih (lcg s) hl.1 (by omega)
    · exact ⟨by show 1 ≤ _ + 1; omega, by show _ + 1 ≤ _; omega, hl.1, by show lcg s ≤ _; omega⟩
theorem isS_f {A : St} {v : Int} (h0 : 0 ≤ A 0 2) (h : ∀ r, 0 ≤ r → r < A 0 2 → A 5 r ≠ v) : isS A v = false := by
  unfold isS
  rw [fI_none h0 (fun j a b => by simpa using h j a b)]
  rfl
theorem isS_t {A : St} {v r : Int} (h0 : 0 ≤ r) (h1 : r < A 0 2) (h : A 5 r = v) : isS A v = true := by
  unfold isS
  rcases fI_spec (fun r => decide (A 5 r = v)) (n := A 0 2) (by omega) with ⟨_, g⟩ | ⟨g, _⟩
  · have := g r h0 h1
    simp [h] at this
  · simp; omega
/-- the class's draws: what they look at -/
def WS (A σ : St) : Prop := σ 16 0 = A 0 1 ∧ σ 20 1 = A 0 2 ∧ (0 ≤ A 0 2 ∧ A 0 2 ≤ 5) ∧ ∀ r, 0 ≤ r → r < A 0 2 → σ 21 r = A 5 r
theorem v_isStart {K : Int → St → Prop} {A σ : St} (hW : WS A σ) {v : Int} (hK : K (bi (isS A v)) σ) : CI M_Wa_isStart [vR 20, vI v] σ K := by
  apply e_Wa_isStart
  obtain ⟨_, h1, h2, h3⟩ := hW
  have key : ∀ r, 0 ≤ r → r ≤ A 0 2 → (∀ q, 0 ≤ q → q < r → A 5 q ≠ v) → WM M_Wa_isStart 2 [(0, vR 20), (1, vI v), (2, vI r)] [] σ (QI K) := by
    refine up_ind (fun hf => ?_) (fun r a b ih hf => ?_)
    · apply l_Wa_isStart_1
      rw [h1]
      refine ⟨fun _ => ?_, fun h => by omega⟩
      rw [isS_f h2.1 hf] at hK
      exact hK
    · apply l_Wa_isStart_1
      rw [h1, h3 r a b]
      refine ⟨fun h => by omega, fun _ => ⟨a, by omega, fun hne => ⟨by omega, ih (fun q x y => ?_)⟩, fun he => ?_⟩⟩
      · by_cases hq : q = r
        · subst hq; exact hne
        · exact hf q x (by omega)
      · rw [isS_t a b he] at hK
        exact hK
  exact key 0 (by omega) h2.1 (fun q a b => by omega)
theorem v_lowestFree {K : Int → St → Prop} {A σ : St} (hW : WS A σ) (hK : K (lf A) σ) : CI M_Wa_lowestFree [vR 20] σ K := by
  apply e_Wa_lowestFree
  have hl := lf_spec hW.2.2.1.1 hW.2.2.1.2
  have h2 := hW.2.2.1
  have key : ∀ v, 1 ≤ v → v ≤ lf A → WM M_Wa_lowestFree 2 [(0, vR 20), (1, vI v)] [] σ (QI K) := by
    have : ∀ d, 0 ≤ d → d ≤ lf A - 1 → WM M_Wa_lowestFree 2 [(0, vR 20), (1, vI (d + 1))] [] σ (QI K) := by
      refine up_ind ?_ (fun d a b ih => ?_)
      · rw [show lf A - 1 + 1 = lf A by omega]
        apply l_Wa_lowestFree_1
        rw [hW.2.1]
        refine ⟨fun _ => hK, fun _ => v_isStart hW ?_⟩
        rw [hl.2.2.1]
        exact ⟨fun _ => hK, fun h => absurd rfl h⟩
      · apply l_Wa_lowestFree_1
        rw [hW.2.1]
        refine ⟨fun h => by omega, fun _ => v_isStart hW ?_⟩
        rw [hl.2.2.2 (d + 1) (by omega) (by omega)]
        exact ⟨fun h => by simp [bi] at h, fun _ => ⟨by omega, ih⟩⟩
    intro v a b
    have := this (v - 1) (by omega) (by omega)
    rwa [show v - 1 + 1 = v by omega] at this
  exact key 1 (by omega) hl.1
theorem s_drawStart {K : Int → St → Prop} {A σ : St} (hW : WS A σ) (hiv : 0 < A 0 1) (hiv1 : A 0 1 ≤ 4799952) {s : Int} (hs : σ 20 0 = s) (hs0 : 0 ≤ s) (hs1 : s ≤ 1000003) (hK : ∀ τ, (∀ c j, ¬ (c = 20 ∧ j = 0) → τ c j = σ c j) → τ 20 0 = (drw A 50 s).2 → K (drw A 50 s).1 τ) : CI M_Wa_drawStart [vR 20] σ K := by
  apply e_Wa_drawStart
  generalize hP : drw A 50 s = P at hK
  rw [hW.1]
  refine ⟨fun _ => ?_, fun h => by omega⟩
  have key : ∀ (m : Nat) (x s' : Int) (τ : St), x + m = 50 → 0 ≤ x → 0 ≤ s' → s' ≤ 1000003 → (∀ c j, ¬ (c = 20 ∧ j = 0) → τ c j = σ c j) → τ 20 0 = s' → drw A m s' = P → WM M_Wa_drawStart 14 [(0, vR 20), (1, vI x)] [] τ (QI K) := by
    have hWt : ∀ τ : St, (∀ c j, ¬ (c = 20 ∧ j = 0) → τ c j = σ c j) → WS A τ := fun τ h => ⟨by rw [h 16 0 (by omega)]; exact hW.1, by rw [h 20 1 (by omega)]; exact hW.2.1, hW.2.2.1, fun r a b => by rw [h 21 r (by omega)]; exact hW.2.2.2 r a b⟩
    intro m
    induction m with
    | zero =>
      intro x s' τ h1 h2 h3 h4 h5 h6 h7
      apply l_Wa_drawStart_1
      refine ⟨fun _ => v_lowestFree (hWt τ h5) ?_, fun h => by omega⟩
      have := hK τ h5 (by rw [h6, ← h7]; rfl)
      rw [← h7] at this
      exact this
    | succ m ih =>
      intro x s' τ h1 h2 h3 h4 h5 h6 h7
      apply l_Wa_drawStart_1
      have hl := lcg_in s'
      have hm1 := Int.emod_nonneg (lcg s') (show A 0 1 ≠ 0 by omega)
      have hm2 := Int.emod_lt_of_pos (lcg s') hiv
      rw [h6, (hWt τ h5).1, show (s' * 1103 + 12345) % 1000003 = lcg s' from rfl]
      have h8 : ∀ c j, ¬ (c = 20 ∧ j = 0) → ups τ 20 0 (lcg s') c j = σ c j := fun c j h => by
        unfold ups
        rw [if_neg h]
        exact h5 c j h
      refine ⟨fun h => by omega, fun _ => ⟨by omega, by omega, by omega, by omega, hl.1, hiv, by omega, v_isStart (hWt _ h8) ?_⟩⟩
      unfold drw at h7
      cases hq : isS A (lcg s' % A 0 1 + 1) with
      | true =>
        rw [hq, if_pos rfl] at h7
        exact ⟨fun _ => ⟨by omega, ih _ _ _ (by omega) (by omega) hl.1 (by omega) h8 (by rw [ups_s]) h7⟩, fun h => by simp [bi] at h⟩
      | false =>
        rw [hq, if_neg (by decide)] at h7
        refine ⟨fun h => absurd rfl h, fun _ => ?_⟩
        have := hK _ h8 (by rw [ups_s, ← h7])
        rw [← h7] at this
        exact this
  exact key 50 0 s σ (by omega) (by omega) hs0 hs1 (fun _ _ _ => rfl) hs hP
/-- a start is added -/
def addS (A : St) (v : Int) : St := ups (ups A 5 (A 0 2) v) 0 2 (A 0 2 + 1)
theorem addS_ok {A : St} (hA : OKA A) (hr : A 0 2 < 5) {v : Int} (h0 : 1 ≤ v) (h1 : v ≤ A 0 1) : OKA (addS A v) := by
  obtain ⟨a1, a2, a3, a4, a5, a6⟩ := hA
  refine ⟨a1, a2, ⟨?_, ?_, ?_, fun r a b => ?_⟩, a4, a5, a6⟩
  · show 0 ≤ A 0 2 + 1; omega
  · show A 0 2 + 1 ≤ 5; omega
  · intro _; show 0 < A 0 1; omega
  · have b : r < A 0 2 + 1 := b
    show 1 ≤ ups A 5 (A 0 2) v 5 r ∧ ups A 5 (A 0 2) v 5 r ≤ A 0 1
    by_cases hrr : r = A 0 2
    · rw [hrr, ups_s]; omega
    · rw [ups_f hrr]; exact a3.2.2.2 r a (by omega)
theorem addS_5 {A : St} {v r : Int} (h : r < A 0 2) : addS A v 5 r = A 5 r := by
  show ups A 5 (A 0 2) v 5 r = _
  rw [ups_f (by omega)]
theorem addS_5n {A : St} {v : Int} : addS A v 5 (A 0 2) = v := by
  show ups A 5 (A 0 2) v 5 (A 0 2) = _
  rw [ups_s]
theorem addS_hb {A : St} {v r : Int} (h0 : 0 ≤ r) (h1 : r ≤ A 0 2) : hb (addS A v) r = hb A r := sI_congr h0 (fun j _ b => by
  show nh A (A 0 1) (addS A v 5 j) = _
  rw [addS_5 (by omega)])
/-- old hits stay -/
theorem addS_old {A : St} (hA : OKA A) {v : Int} (hr : A 0 2 < 5) (h0 : 1 ≤ v) (h1 : v ≤ A 0 1) {k : Int} (hk0 : 0 ≤ k) (hk1 : k < hb A (A 0 2)) : hR (addS A v) k = hR A k ∧ hC (addS A v) k = hC A k ∧ hI (addS A v) k = hI A k := by
  obtain ⟨r, j, a, b, c, d, rfl⟩ := hR_ex hA hk0 hk1
  have hA2 := addS_ok hA hr h0 h1
  have hn : nh (addS A v) (addS A v 0 1) (addS A v 5 r) = nh A (A 0 1) (A 5 r) := by
    show nh A (A 0 1) (addS A v 5 r) = _
    rw [addS_5 b]
  have b2 : r < addS A v 0 2 := by show r < A 0 2 + 1; omega
  have e1 := hR_eq hA2 a b2 c (by rw [hn]; exact d)
  have e2 := hC_eq hA2 a b2 c (by rw [hn]; exact d)
  rw [addS_hb a (by omega)] at e1 e2
  have e3 : hC (addS A v) (hb A r + j) = hC A (hb A r + j) := by
    rw [e2, hC_eq hA a b c d, addS_5 b]
    rfl
  refine ⟨by rw [e1, hR_eq hA a b c d], e3, ?_⟩
  show ow A (A 0 1) (hC (addS A v) (hb A r + j)) = _
  rw [e3]
  rfl
theorem s_follow {K : St → Prop} {A σ : St} (hCr : CR A σ) (hA : OKA A) (hr : A 0 2 < 5) {v : Int} (h0 : 1 ≤ v) (h1 : v ≤ A 0 1) (hK : ∀ σ', Sm [20, 21, 22, 23, 24, 25] σ σ' → CR (addS A v) σ' → K σ') : CV M_Wa_follow [vR 20, vI v] σ K := by
  apply e_Wa_follow
  have hA2 := addS_ok hA hr h0 h1
  have hW := hCr.2.2.2.1
  have hh := hb_in hA hA.2.2.1.1 (Int.le_refl _)
  have hn := nh_in hA.1 (v := A 0 1) hA.2.1.1 h0
  have hi := hA.2.1
  have hM := Mq_in hA.1 (v := A 0 1)
  rw [hW.2.1]
  refine ⟨fun _ => v_hitsOf hW hA hA.2.2.1.1 (Int.le_refl _) (v_hitsFrom_16 hA.1 hi.1 hCr.2.2.1 h0 ?_), fun h => by omega⟩
  have hnn : nh (addS A v) (addS A v 0 1) (addS A v 5 (A 0 2)) = nh A (A 0 1) v := by
    rw [addS_5n]; rfl
  have hbn : hb (addS A v) (A 0 2 + 1) = hb A (A 0 2) + nh A (A 0 1) v := by
    rw [hb_s hA.2.2.1.1, addS_hb hA.2.2.1.1 (Int.le_refl _), hnn]
  have b2 : A 0 2 < addS A v 0 2 := by show A 0 2 < A 0 2 + 1; omega
  have hnew : ∀ j, 0 ≤ j → j < nh A (A 0 1) v → hR (addS A v) (hb A (A 0 2) + j) = A 0 2 ∧ hC (addS A v) (hb A (A 0 2) + j) = v + j * A 0 1 := fun j a b => by
    have e1 := hR_eq hA2 hA.2.2.1.1 b2 a (by rw [hnn]; exact b)
    have e2 := hC_eq hA2 hA.2.2.1.1 b2 a (by rw [hnn]; exact b)
    rw [addS_hb hA.2.2.1.1 (Int.le_refl _)] at e1 e2
    rw [addS_5n] at e2
    exact ⟨e1, e2⟩
  have key : ∀ j, 0 ≤ j → j ≤ nh A (A 0 1) v → ∀ τ, Sm [22, 23, 24] σ τ → (∀ k, 0 ≤ k → k < hb A (A 0 2) + j → τ 22 k = hI (addS A v) k ∧ τ 23 k = hC (addS A v) k ∧ τ 24 k = hR (addS A v) k) → WM M_Wa_follow 30 [(0, vR 20), (1, vI v), (2, vI (hb A (A 0 2) + j)), (3, vI (nh A (A 0 1) v)), (4, vI j)] [] τ (QV K) := by
    refine up_ind (fun τ t1 t2 => ?_) (fun j a b ih τ t1 t2 => ?_)
    · apply l_Wa_follow_1
      rw [t1 20 (by decide), hW.2.1]
      refine ⟨fun _ => ⟨hA.2.2.1.1, by omega, by omega, hK _ ((((t1.wk (by decide)).up (by decide)).up (by decide)).up (by decide)) ?_⟩, fun h => by omega⟩
      have q : ∀ c, c ≠ 20 → c ≠ 21 → c ≠ 22 → c ≠ 23 → c ≠ 24 → c ≠ 25 → ∀ i, ups (ups (ups τ 21 (A 0 2) v) 25 (A 0 2) (hb A (A 0 2) + nh A (A 0 1) v)) 20 1 (A 0 2 + 1) c i = σ c i := fun c q0 q1 q2 q3 q4 q5 i => by
        rw [ups_c q0, ups_c q5, ups_c q1]
        exact t1 c (by simp [q2, q3, q4]) i
      obtain ⟨c1, c2, c3, c4, c5, c6⟩ := hCr
      refine ⟨⟨by rw [q 3 (by decide) (by decide) (by decide) (by decide) (by decide) (by decide)]; exact c1.1, fun i x y => ?_⟩, fun k x y => by rw [q 15 (by decide) (by decide) (by decide) (by decide) (by decide) (by decide)]; exact c2 k x y, ⟨?_, ?_, ?_, fun i x y => ?_, fun i x y => ?_⟩, ⟨?_, ?_, fun r x y => ?_, fun k x y => ?_⟩, ⟨?_, fun i x y => ?_⟩, ?_, ?_⟩
      · rw [q 4 (by decide) (by decide) (by decide) (by decide) (by decide) (by decide), q 5 (by decide) (by decide) (by decide) (by decide) (by decide) (by decide), q 6 (by decide) (by decide) (by decide) (by decide) (by decide) (by decide), q 7 (by decide) (by decide) (by decide) (by decide) (by decide) (by decide)]; exact c1.2 i x y
      · rw [q 16 (by decide) (by decide) (by decide) (by decide) (by decide) (by decide)]; exact c3.1
      · rw [q 16 (by decide) (by decide) (by decide) (by decide) (by decide) (by decide)]; exact c3.2.1
      · rw [q 16 (by decide) (by decide) (by decide) (by decide) (by decide) (by decide)]; exact c3.2.2.1
      · rw [q 17 (by decide) (by decide) (by decide) (by decide) (by decide) (by decide)]; exact c3.2.2.2.1 i x y
      · rw [show lc 16 = 35 from rfl, q 35 (by decide) (by decide) (by decide) (by decide) (by decide) (by decide)]; exact c3.2.2.2.2 i x y
      · rw [ups_f (by decide), ups_c (by decide), ups_c (by decide), t1 20 (by decide)]; exact c4.1
      · rw [ups_s]; rfl
      · have y : r < A 0 2 + 1 := y
        refine ⟨(?_ : ups τ 21 (A 0 2) v 21 r = _), (?_ : ups τ 25 (A 0 2) (hb A (A 0 2) + nh A (A 0 1) v) 25 r = _)⟩
        · by_cases hrr : r = A 0 2
          · subst hrr; rw [ups_s, addS_5n]
          · rw [ups_f hrr, addS_5 (by omega), t1 21 (by decide)]
            exact (c4.2.2.1 r x (by omega)).1
        · by_cases hrr : r = A 0 2
          · subst hrr; rw [ups_s, hbn]
          · rw [ups_f hrr, addS_hb (by omega) (by omega), t1 25 (by decide)]
            exact (c4.2.2.1 r x (by omega)).2
      · have y : k < hb (addS A v) (A 0 2 + 1) := y
        rw [hbn] at y
        rw [ups_c (by decide), ups_c (by decide), ups_c (by decide), ups_c (by decide), ups_c (by decide), ups_c (by decide), ups_c (by decide), ups_c (by decide), ups_c (by decide)]
        exact t2 k x y
      · rw [q 1 (by decide) (by decide) (by decide) (by decide) (by decide) (by decide)]; exact c5.1
      · rw [q 2 (by decide) (by decide) (by decide) (by decide) (by decide) (by decide)]; exact c5.2 i x y
      · rw [q 8 (by decide) (by decide) (by decide) (by decide) (by decide) (by decide)]; exact c6.1
      · rw [q 8 (by decide) (by decide) (by decide) (by decide) (by decide) (by decide)]; exact c6.2
    · apply l_Wa_follow_1
      have hco := nh_coin hA.1 (v := A 0 1) hi.1 h0 h1 a b
      have hj := hnew j a b
      rw [t1 16 (by decide), hCr.2.2.1.1]
      refine ⟨fun h => by omega, fun _ => ⟨fun h => by omega, fun _ => ⟨by omega, by omega, by omega, by omega, ?_⟩⟩⟩
      have sm2 : Sm [22, 23, 24] σ (ups τ 23 (hb A (A 0 2) + j) (v + j * A 0 1)) := t1.up (by decide)
      have hL2 : LR 3 A (ups τ 23 (hb A (A 0 2) + j) (v + j * A 0 1)) := ⟨by rw [sm2 3 (by decide)]; exact hCr.1.1, fun i x y => by
        rw [sm2 4 (by decide), sm2 5 (by decide), sm2 6 (by decide), sm2 7 (by decide)]; exact hCr.1.2 i x y⟩
      have hY2 : YR 16 A (A 0 1) (ups τ 23 (hb A (A 0 2) + j) (v + j * A 0 1)) := ⟨by rw [sm2 16 (by decide)]; exact hCr.2.2.1.1, by rw [sm2 16 (by decide)]; exact hCr.2.2.1.2.1, by rw [sm2 16 (by decide)]; exact hCr.2.2.1.2.2.1, fun i x y => by
        rw [sm2 17 (by decide)]; exact hCr.2.2.1.2.2.2.1 i x y, fun i x y => by
        rw [show lc 16 = 35 from rfl, sm2 35 (by decide)]; exact hCr.2.2.1.2.2.2.2 i x y⟩
      refine v_ownerOf hL2 hY2 hA.1 hco.1 ⟨by omega, by omega, ?_⟩
      rw [sm2 20 (by decide), hW.2.1, show hb A (A 0 2) + j + 1 = hb A (A 0 2) + (j + 1) by omega]
      refine ih _ ((sm2.up (by decide)).up (by decide)) (fun k x y => ?_)
      by_cases hk : k = hb A (A 0 2) + j
      · subst hk
        rw [hj.1, hj.2, ups_c (by decide), ups_s, ups_c (by decide), ups_c (by decide), ups_s, ups_s]
        refine ⟨?_, rfl, rfl⟩
        show _ = ow A (A 0 1) (hC (addS A v) (hb A (A 0 2) + j))
        rw [hj.2]
      · rw [ups_c (by decide), ups_f hk, ups_c (by decide), ups_c (by decide), ups_c (by decide), ups_f hk, ups_f hk, ups_c (by decide), ups_c (by decide)]
        exact t2 k x (by omega)
  have := key 0 (by omega) hn.1 σ Sm.rf (fun k x y => by
    have e := addS_old hA hr h0 h1 x (by omega)
    rw [e.1, e.2.1, e.2.2]
    exact hW.2.2.2 k x (by omega))
  rwa [Int.add_zero] at this

