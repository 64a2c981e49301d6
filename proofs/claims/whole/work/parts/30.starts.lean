-- the class's starts
theorem v_notAudited {K : Int → St → Prop} {A σ : St} (hC : CR A σ) (hA : OKA A) {s : Int} (hs0 : 0 ≤ s) (hs1 : s ≤ 9999999) (hK : K (na A s) σ) : CI M_St_notAudited [vR 30, vI s] σ K := by
  apply e_St_notAudited
  have hn := hC.1.1
  have h48 := hA.1.2.1
  have hi := hA.2.1
  have key : ∀ i, 0 ≤ i → i ≤ A 0 0 → WM M_St_notAudited 4 [(0, vR 30), (1, vI s), (2, vI (cI (fun i => decide (A 4 i = -1) && (ce A (A 0 1) i || sk A (A 0 1) s i)) i)), (3, vI i)] [] σ (QI K) := by
    refine up_ind ?_ (fun i h0 h1 ih => ?_)
    · apply l_St_notAudited_1
      exact ⟨fun _ => hK, fun h => by omega⟩
    · apply l_St_notAudited_1
      have hc := cI_in (p := fun i => decide (A 4 i = -1) && (ce A (A 0 1) i || sk A (A 0 1) s i)) h0
      refine ⟨fun h => by omega, fun _ => s_isAudited hC.1 hA.1 (fun _ _ h => ?_) (fun h => ?_)⟩
      · rw [cI_f h0 (by simp [h])] at ih
        exact ⟨fun _ => ⟨by omega, ih⟩, fun h => by omega⟩
      · refine ⟨fun h => absurd rfl h, fun _ => v_isCertain_16 hC.1 hA.1 hC.2.2.1.1 h0 h1 ?_⟩
        have e : A 4 i = -1 := by omega
        cases hce : ce A (A 0 1) i with
        | true =>
          rw [cI_t h0 (by simp [e, hce])] at ih
          exact ⟨fun _ => ⟨by omega, by omega, ih⟩, fun h => by simp [bi] at h⟩
        | false =>
          refine ⟨fun h => by simp [bi] at h, fun _ => v_strikes_16 hC.1 hA.1 hi.1 (by omega) hC.2.2.1 hs0 hs1 h0 h1 ?_⟩
          cases hsk : sk A (A 0 1) s i with
          | true =>
            rw [cI_t h0 (by simp [e, hsk])] at ih
            exact ⟨fun h => by simp [bi] at h, fun _ => ⟨by omega, by omega, ih⟩⟩
          | false =>
            rw [cI_f h0 (by simp [hce, hsk])] at ih
            exact ⟨fun _ => ⟨by omega, ih⟩, fun h => by simp [bi] at h⟩
  exact key 0 (by omega) hA.1.1
theorem v_taintsAbove {K : Int → St → Prop} {A σ : St} (hC : CR A σ) (hA : OKA A) {s : Int} (hs0 : 0 ≤ s) (hs1 : s ≤ 9999999) (hK : K (tb A s) σ) : CI M_St_taintsAbove [vR 30, vI s] σ K := by
  apply e_St_taintsAbove
  have hn := hC.1.1
  have h48 := hA.1.2.1
  have hi := hA.2.1
  have key : ∀ i, 0 ≤ i → i ≤ A 0 0 → WM M_St_taintsAbove 4 [(0, vR 30), (1, vI s), (2, vI (sI (fun i => if sk A (A 0 1) s i then mx (ta A i) else 0) i)), (3, vI i)] [] σ (QI K) := by
    refine up_ind ?_ (fun i h0 h1 ih => ?_)
    · apply l_St_taintsAbove_1
      exact ⟨fun _ => hK, fun h => by omega⟩
    · apply l_St_taintsAbove_1
      have hc := tb_in hA.1 (s := s) h0 (show i ≤ A 0 0 by omega)
      have ht := ta_in hA.1 h0 h1
      have hm := mx_in (ta A i)
      rw [sI_s h0] at ih
      refine ⟨fun h => by omega, fun _ => v_strikes_16 hC.1 hA.1 hi.1 (by omega) hC.2.2.1 hs0 hs1 h0 h1 ?_⟩
      cases hsk : sk A (A 0 1) s i with
      | true =>
        rw [hsk, if_pos rfl] at ih
        refine ⟨fun h => by simp [bi] at h, fun _ => v_taintOf hC.1 hA.1 h0 h1 (s_max ?_)⟩
        rw [show (if (0 : Int) < ta A i then ta A i else 0) = mx (ta A i) from rfl]
        exact ⟨by omega, by omega, ih⟩
      | false =>
        rw [hsk, if_neg (by decide), Int.add_zero] at ih
        exact ⟨fun _ => ⟨by omega, ih⟩, fun h => by simp [bi] at h⟩
  exact key 0 (by omega) hA.1.1
/-- who is marked -/
def MKR (A : St) (f : Int → Bool) (σ : St) : Prop := ∀ i, 0 ≤ i → i < A 0 0 → σ 31 i = bi (f i)
theorem MKR.sm {S : List Nat} {A σ σ' : St} {f : Int → Bool} (h : MKR A f σ) (hs : Sm S σ σ') (h31 : 31 ∉ S) : MKR A f σ' := fun i a b => by rw [hs 31 h31]; exact h i a b
theorem s_markErrors {K : St → Prop} {A σ : St} (hC : CR A σ) (hA : OKA A) (hK : ∀ σ', Sm [31] σ σ' → MKR A (fun i => decide (0 < fc A (A 0 1) i ∧ er A i ≠ 0)) σ' → K σ') : CV M_St_markErrors [vR 30] σ K := by
  apply e_St_markErrors
  have h48 := hA.1.2.1
  have key : ∀ i, 0 ≤ i → i ≤ A 0 0 → ∀ τ, Sm [31] σ τ → (∀ j, 0 ≤ j → j < i → τ 31 j = bi (decide (0 < fc A (A 0 1) j ∧ er A j ≠ 0))) → WM M_St_markErrors 2 [(0, vR 30), (1, vI i)] [] τ (QV K) := by
    refine up_ind (fun τ t1 t2 => ?_) (fun i h0 h1 ih τ t1 t2 => ?_)
    · apply l_St_markErrors_1
      have hCt := hC.sm t1 (by decide)
      rw [hCt.1.1]
      exact ⟨fun _ => hK τ t1 t2, fun h => by omega⟩
    · apply l_St_markErrors_1
      have hCt := hC.sm t1 (by decide)
      rw [hCt.1.1]
      have go : ∀ w, w = bi (decide (0 < fc A (A 0 1) i ∧ er A i ≠ 0)) → WM M_St_markErrors 2 [(0, vR 30), (1, vI (i + 1))] [] (ups τ 31 i w) (QV K) := fun w hw => by
        refine ih _ (t1.up (by decide)) (fun j a b => ?_)
        by_cases hj : j = i
        · subst hj; rw [ups_s]; exact hw
        · rw [ups_f hj]; exact t2 j a (by omega)
      have hf := fc_in hA.1 (v := A 0 1) h0 h1
      refine ⟨fun h => by omega, fun _ => v_firstCoin_16 hCt.1 hA.1 hCt.2.2.1 (fun _ _ => ⟨fun h => ⟨h0, by omega, by omega, go 0 ?_⟩, fun h => v_errorOf hCt.1 hA.1 h0 h1 ⟨fun he => ⟨h0, by omega, by omega, go 0 ?_⟩, fun he => ⟨h0, by omega, by omega, go 1 ?_⟩⟩⟩) (fun h => by omega)⟩
      · rw [bi_f]; simp; omega
      · rw [bi_f]; simp [he]
      · rw [bi_t]; simp [he]; omega
  exact key 0 (by omega) hA.1.1 σ Sm.rf (fun j a b => by omega)
theorem s_markTwo {K : St → Prop} {A σ : St} (hC : CR A σ) (hA : OKA A) {x y : Int} (hK : ∀ σ', Sm [31] σ σ' → MKR A (fun i => decide (i = x ∨ i = y)) σ' → K σ') : CV M_St_markTwo [vR 30, vI x, vI y] σ K := by
  apply e_St_markTwo
  have h48 := hA.1.2.1
  have key : ∀ i, 0 ≤ i → i ≤ A 0 0 → ∀ τ, Sm [31] σ τ → (∀ j, 0 ≤ j → j < i → τ 31 j = bi (decide (j = x ∨ j = y))) → WM M_St_markTwo 2 [(0, vR 30), (1, vI x), (2, vI y), (3, vI i)] [] τ (QV K) := by
    refine up_ind (fun τ t1 t2 => ?_) (fun i h0 h1 ih τ t1 t2 => ?_)
    · apply l_St_markTwo_1
      have hCt := hC.sm t1 (by decide)
      rw [hCt.1.1]
      exact ⟨fun _ => hK τ t1 t2, fun h => by omega⟩
    · apply l_St_markTwo_1
      have hCt := hC.sm t1 (by decide)
      rw [hCt.1.1]
      have go : ∀ w, w = bi (decide (i = x ∨ i = y)) → WM M_St_markTwo 2 [(0, vR 30), (1, vI x), (2, vI y), (3, vI (i + 1))] [] (ups τ 31 i w) (QV K) := fun w hw => by
        refine ih _ (t1.up (by decide)) (fun j a b => ?_)
        by_cases hj : j = i
        · subst hj; rw [ups_s]; exact hw
        · rw [ups_f hj]; exact t2 j a (by omega)
      refine ⟨fun h => by omega, fun _ => ⟨fun h => ⟨h0, by omega, by omega, go 1 ?_⟩, fun h => ⟨fun h2 => ⟨h0, by omega, by omega, go 0 ?_⟩, fun h2 => ⟨h0, by omega, by omega, go 1 ?_⟩⟩⟩⟩
      · rw [bi_t]; simp [h]
      · rw [bi_f]; simp [h, h2]
      · rw [bi_t]; simp [h2]
  exact key 0 (by omega) hA.1.1 σ Sm.rf (fun j a b => by omega)
theorem v_markedHits {K : Int → St → Prop} {A σ : St} (hC : CR A σ) (hA : OKA A) {f : Int → Bool} (hM : MKR A f σ) {s : Int} (hs0 : 0 ≤ s) (hs1 : s ≤ 9999999) (hK : K (mh A f s) σ) : CI M_St_markedHits [vR 30, vI s] σ K := by
  apply e_St_markedHits
  have hn := hC.1.1
  have h48 := hA.1.2.1
  have hi := hA.2.1
  have key : ∀ i, 0 ≤ i → i ≤ A 0 0 → WM M_St_markedHits 4 [(0, vR 30), (1, vI s), (2, vI (cI (fun i => f i && sk A (A 0 1) s i) i)), (3, vI i)] [] σ (QI K) := by
    refine up_ind ?_ (fun i h0 h1 ih => ?_)
    · apply l_St_markedHits_1
      exact ⟨fun _ => hK, fun h => by omega⟩
    · apply l_St_markedHits_1
      have hc := cI_in (p := fun i => f i && sk A (A 0 1) s i) h0
      rw [hM i h0 h1]
      refine ⟨fun h => by omega, fun _ => ⟨h0, by omega, ?_⟩⟩
      cases hf : f i with
      | false =>
        rw [cI_f h0 (by simp [hf])] at ih
        exact ⟨fun _ => ⟨by omega, ih⟩, fun h => by simp [bi] at h⟩
      | true =>
        refine ⟨fun h => by simp [bi] at h, fun _ => v_strikes_16 hC.1 hA.1 hi.1 (by omega) hC.2.2.1 hs0 hs1 h0 h1 ?_⟩
        cases hsk : sk A (A 0 1) s i with
        | true =>
          rw [cI_t h0 (by simp [hf, hsk])] at ih
          exact ⟨fun h => by simp [bi] at h, fun _ => ⟨by omega, by omega, ih⟩⟩
        | false =>
          rw [cI_f h0 (by simp [hsk])] at ih
          exact ⟨fun _ => ⟨by omega, ih⟩, fun h => by simp [bi] at h⟩
  exact key 0 (by omega) hA.1.1
theorem s_insertCut {K : St → Prop} {σ : St} {x m : Int} (hm0 : 0 ≤ m) (hm1 : m < 49) (hc : σ 30 4 = m) (hK : ∀ σ', Sm [30, 32] σ σ' → σ' 30 4 = m + 1 → Ins (σ 32) m x (σ' 32) → K σ') : CV M_St_insertCut [vR 30, vI x] σ K := by
  apply e_St_insertCut
  rw [hc]
  refine ⟨fun _ => ?_, fun h => by omega⟩
  have key : ∀ p, 0 ≤ p → (p ≤ m → ∀ τ, Sm [32] σ τ → (∀ j, 0 ≤ j → j < p → τ 32 j = σ 32 j) → (∀ j, p ≤ j → j < m → τ 32 (j + 1) = σ 32 j ∧ x < σ 32 j) → WM M_St_insertCut 18 [(0, vR 30), (1, vI x), (2, vI p)] [] τ (QV K)) := by
    have fin : ∀ p, 0 ≤ p → p ≤ m → (0 < p → σ 32 (p - 1) ≤ x) → ∀ τ, Sm [32] σ τ → (∀ j, 0 ≤ j → j < p → τ 32 j = σ 32 j) → (∀ j, p ≤ j → j < m → τ 32 (j + 1) = σ 32 j ∧ x < σ 32 j) → (0 ≤ p) ∧ (p < 49) ∧ (inR ((τ 30 4) + 1)) ∧ K (ups (ups τ 32 p x) 30 4 ((τ 30 4) + 1)) := by
      intro p p0 p1 p2 τ t1 t2 t3
      rw [t1 30 (by decide), hc]
      refine ⟨p0, by omega, by omega, hK _ (((t1.wk (by decide)).up (by decide)).up (by decide)) (by rw [ups_s]) ⟨p, p0, p1, fun j a b => ?_, p2, ?_, fun j a b => ⟨?_, (t3 j a b).2⟩⟩⟩
      · rw [ups_c (by decide), ups_f (by omega)]; exact t2 j a b
      · rw [ups_c (by decide), ups_s]
      · rw [ups_c (by decide), ups_f (by omega)]; exact (t3 j a b).1
    refine nn_ind (fun h τ t1 t2 t3 => ?_) (fun p hp ih h τ t1 t2 t3 => ?_)
    · apply l_St_insertCut_1
      exact ⟨fun _ => fin 0 (by omega) h (by omega) τ t1 t2 t3, fun h => by omega⟩
    · apply l_St_insertCut_1
      have e : τ 32 (p + 1 - 1) = σ 32 p := by rw [show p + 1 - 1 = p by omega]; exact t2 p hp (by omega)
      rw [e]
      refine ⟨fun h => by omega, fun _ => ⟨by omega, by omega, by omega, fun hle => fin (p + 1) (by omega) h (fun _ => by rw [show p + 1 - 1 = p by omega]; exact hle) τ t1 t2 t3, fun hgt => ⟨by omega, by omega, by omega, ?_⟩⟩⟩
      rw [show p + 1 + -1 = p by omega]
      refine ih (by omega) _ (t1.up (by decide)) (fun j a b => ?_) (fun j a b => ?_)
      · rw [ups_f (by omega)]; exact t2 j a (by omega)
      · by_cases hj : j = p
        · subst hj; rw [ups_s]; exact ⟨rfl, by omega⟩
        · rw [ups_f (by omega)]; exact t3 j (by omega) b
  exact key m hm0 (Int.le_refl _) σ Sm.rf (fun j _ _ => rfl) (fun j a b => by omega)
/-- the cuts are laid -/
def CTR (A σ : St) : Prop := ∃ m, σ 30 4 = m ∧ m ≤ 49 ∧ SCq (A 0 1) m (σ 32) ∧ CAq A (A 0 1) m (σ 32)
theorem s_cutUp {K : St → Prop} {A σ : St} (hC : CR A σ) (hA : OKA A) (hiv : 0 < A 0 1) (hK : ∀ σ', Sm [30, 32] σ σ' → CTR A σ' → K σ') : CV M_St_cutUp [vR 30] σ K := by
  apply e_St_cutUp
  rw [hC.2.2.1.1]
  have h48 := hA.1.2.1
  have hiv1 := hA.2.1.2
  refine ⟨fun _ => ?_, fun h => by omega⟩
  have hmod : ∀ a, 0 ≤ a % A 0 1 ∧ a % A 0 1 < A 0 1 := fun a => ⟨Int.emod_nonneg a (by omega), Int.emod_lt_of_pos a hiv⟩
  have key : ∀ i, 0 ≤ i → i ≤ A 0 0 → ∀ m τ, Sm [30, 32] σ τ → τ 30 4 = m → m ≤ i + 1 → SCq (A 0 1) m (τ 32) → (∀ s, (s = 1 ∨ ∃ j, 0 ≤ j ∧ j < i ∧ 0 < rc A (A 0 1) j ∧ s = (prq A (A 0 1) j + rc A (A 0 1) j) % (A 0 1) + 1) → ∃ j, 0 ≤ j ∧ j < m ∧ τ 32 j = s) → WM M_St_cutUp 23 [(0, vR 30), (1, vI i)] [] τ (QV K) := by
    refine up_ind (fun m τ t1 t2 t3 t4 t5 => ?_) (fun i h0 h1 ih m τ t1 t2 t3 t4 t5 => ?_)
    · apply l_St_cutUp_1
      have hCt := hC.sm t1 (by decide)
      rw [hCt.1.1]
      exact ⟨fun _ => hK τ t1 ⟨m, t2, by omega, t4, fun s hs => t5 s hs⟩, fun h => by omega⟩
    · apply l_St_cutUp_1
      have hCt := hC.sm t1 (by decide)
      rw [hCt.1.1]
      have hf := fc_in hA.1 (v := A 0 1) h0 h1
      have hp := prq_in hA.1 (v := A 0 1) h0 (by omega)
      have hr := rc_in hA.1 (v := A 0 1) h0 h1
      refine ⟨fun h => by omega, fun _ => v_firstCoin_16 hCt.1 hA.1 hCt.2.2.1 (fun _ _ => ⟨fun h => ⟨by omega, ih m τ t1 t2 (by omega) t4 (fun s hs => t5 s ?_)⟩, fun h => v_lastCoin_16 hCt.1 hA.1 hCt.2.2.1 h0 h1 ?_⟩) (fun h => by omega)⟩
      · rcases hs with hs | ⟨j, a, b, c, d⟩
        · exact Or.inl hs
        · refine Or.inr ⟨j, a, ?_, c, d⟩
          rcases Int.lt_or_le j i with q | q
          · exact q
          · have : j = i := by omega
            subst this
            omega
      · rw [if_neg (by omega), hCt.2.2.1.1]
        have hm := hmod (prq A (A 0 1) i + rc A (A 0 1) i)
        refine ⟨by omega, hiv, by omega, s_insertCut (m := m) (by have := t4.1; omega) (by omega) t2 (fun τ' u1 u2 u3 => ⟨by omega, ih (m + 1) τ' (t1.tr u1) u2 (by omega) (t4.ins (by omega) (by omega) u3) (fun s hs => ?_)⟩)⟩
        rcases hs with hs | ⟨j, a, b, c, d⟩
        · exact u3.old (t5 s (Or.inl hs))
        · by_cases hj : j = i
          · subst hj; rw [d]; exact u3.new
          · exact u3.old (t5 s (Or.inr ⟨j, a, by omega, c, d⟩))
  refine s_insertCut (m := 0) (by omega) (by omega) (by rw [ups_s]) (fun τ u1 u2 u3 => ?_)
  refine key 0 (by omega) hA.1.1 1 τ ((Sm.rf.up (by decide)).tr u1) (by rw [u2]; rfl) (by omega) ?_ (fun s hs => ?_)
  · obtain ⟨p, p0, p1, _, _, h3, _⟩ := u3
    have e : p = 0 := by omega
    subst e
    refine ⟨by omega, h3, fun j a b => ?_, fun j a b => by omega⟩
    have : j = 0 := by omega
    subst this; rw [h3]; omega
  · rcases hs with hs | ⟨j, a, b, _⟩
    · rw [hs]; exact u3.new
    · omega
theorem v_catching {K : Int → St → Prop} {A σ : St} (hC : CR A σ) (hA : OKA A) (hiv : 0 < A 0 1) {f : Int → Bool} (hM : MKR A f σ) {k : Int} (hK : ∀ σ', Sm [30, 32] σ σ' → K (caq A f k) σ') : CI M_St_catching [vR 30, vI k] σ K := by
  apply e_St_catching
  have hi := hA.2.1
  refine s_cutUp hC hA hiv (fun τ t1 ⟨m, c1, c2, c3, c4⟩ => ?_)
  have hCt := hC.sm t1 (by decide)
  have hMt := hM.sm t1 (by decide)
  have hch : CHq (A 0 1) m (τ 32) (fun s => decide (mh A f s = k)) := ch_of hA.1 c4 (fun s _ _ hs => by rw [mh_congr hA.1 hs])
  have hm1 := c3.1
  have key : ∀ c, 0 ≤ c → c ≤ m → WM M_St_catching 8 [(0, vR 30), (1, vI k), (2, vI (ssq (A 0 1) m (τ 32) (fun s => decide (mh A f s = k)) c)), (3, vI c)] [] τ (QI K) := by
    refine up_ind ?_ (fun c h0 h1 ih => ?_)
    · apply l_St_catching_1
      rw [c1]
      refine ⟨fun _ => ?_, fun h => by omega⟩
      rw [ssq_all c3 hch]
      exact hK τ t1
    · apply l_St_catching_1
      rw [c1]
      have hr := c3.2.2.1 c h0 h1
      have hn := c3.nx h0 h1
      have hs1 := ssq_in c3 hch h0 (show c ≤ m by omega)
      have hs2 := ssq_in c3 hch (show 0 ≤ c + 1 by omega) (show c + 1 ≤ m by omega)
      rw [ssq_s h0] at ih hs2
      refine ⟨fun h => by omega, fun _ => ⟨h0, by omega, v_markedHits hCt hA hMt (by omega) (by omega) ?_⟩⟩
      rw [c1, hCt.2.2.1.1]
      refine ⟨fun hne => ⟨by omega, ?_⟩, fun he => ⟨by omega, fun hl => ?_, fun hl => ?_⟩⟩
      · rw [if_neg (by simpa using hne), Int.add_zero] at ih
        exact ih
      · rw [if_pos (by simpa using he)] at ih hs2
        have e : nxt (A 0 1) m (τ 32) (c + 1) = A 0 1 + 1 := by unfold nxt; rw [if_neg (by omega)]
        rw [e] at ih hs2 hn
        exact ⟨by omega, by omega, by omega, ih⟩
      · rw [if_pos (by simpa using he)] at ih hs2
        have e : nxt (A 0 1) m (τ 32) (c + 1) = τ 32 (c + 1) := by unfold nxt; rw [if_pos (by omega)]
        rw [e] at ih hs2 hn
        exact ⟨by omega, by omega, by omega, by omega, ih⟩
  exact key 0 (by omega) (by omega)
theorem v_withMostTaint {K : Int → St → Prop} {A σ : St} (hC : CR A σ) (hA : OKA A) (hiv : 0 < A 0 1) (hK : ∀ s σ', isW A s → Sm [30, 32] σ σ' → K s σ') : CI M_St_withMostTaint [vR 30] σ K := by
  apply e_St_withMostTaint
  have hi := hA.2.1
  refine s_cutUp hC hA hiv (fun τ t1 ⟨m, c1, c2, c3, c4⟩ => ?_)
  have hCt := hC.sm t1 (by decide)
  have hm1 := c3.1
  refine v_taintsAbove hCt hA (by omega) (by omega) ?_
  have key : ∀ c, 0 ≤ c → c ≤ m → ∀ q, 0 ≤ q → q < m → (∀ i, 0 ≤ i → i < q → tb A (τ 32 i) < tb A (τ 32 q)) → (∀ i, 0 ≤ i → i < c → tb A (τ 32 i) ≤ tb A (τ 32 q)) → q ≤ c → WM M_St_withMostTaint 14 [(0, vR 30), (1, vI (τ 32 q)), (2, vI (tb A (τ 32 q))), (3, vI c)] [] τ (QI K) := by
    refine up_ind (fun q q0 q1 q2 q3 q4 => ?_) (fun c h0 h1 ih q q0 q1 q2 q3 q4 => ?_)
    · apply l_St_withMostTaint_1
      rw [c1]
      exact ⟨fun _ => hK _ τ (isW_of hA.1 c3 c4 q0 q1 rfl q2 q3) t1, fun h => by omega⟩
    · apply l_St_withMostTaint_1
      rw [c1]
      have hr := c3.2.2.1 c h0 h1
      refine ⟨fun h => by omega, fun _ => ⟨h0, by omega, v_taintsAbove hCt hA (by omega) (by omega) ⟨fun hle => ⟨by omega, ih q q0 q1 q2 (fun i a b => ?_) (by omega)⟩, fun hgt => ⟨by omega, ih c h0 h1 (fun i a b => ?_) (fun i a b => ?_) (by omega)⟩⟩⟩⟩
      · by_cases hic : i = c
        · subst hic; exact hle
        · exact q3 i a (by omega)
      · have := q3 i a b; omega
      · by_cases hic : i = c
        · subst hic; exact Int.le_refl _
        · have := q3 i a (by omega); omega
  have := key 0 (by omega) (by omega) 0 (by omega) (by omega) (fun i a b => by omega) (fun i a b => by omega) (Int.le_refl _)
  rw [c3.2.1] at this
  exact this
