-- the model: what the hits make
theorem m_upperOf {K : Int → St → Prop} {σ : St} {n k r : Int} (hF : FM σ) (hr : σ 36 1 = r) (hn1 : n ≤ 1000) (hk0 : 0 ≤ k) (hk1 : k ≤ 400) (hr0 : 1 ≤ r) (hr1 : r ≤ 500) (hK : ∀ σ', Mm [49] [27, 28] σ σ' → FM σ' → K (UP n k r) σ') : CI M_Mo_upperOf [vR 35, vI n, vI k] σ K := by
  apply e_Mo_upperOf
  have hU := UP_in n k r
  rw [hr]
  have fill : k < n → WM M_Mo_upperOf 31 [(0, vR 35), (1, vI n), (2, vI k), (3, vI 0)] [] σ (QI K) := fun hkn => by
    have key : ∀ i, 0 ≤ i → i ≤ 401 → ∀ τ, Mm [49] [27, 28] σ τ → (∀ j, 0 ≤ j → j < i → τ 49 j = 0) → WM M_Mo_upperOf 31 [(0, vR 35), (1, vI n), (2, vI k), (3, vI i)] [] τ (QI K) := by
      refine up_ind (fun τ t1 t2 => ?_) (fun i a b ih τ t1 t2 => ?_)
      · apply l_Mo_upperOf_1
        have e : τ 36 1 = r := by rw [t1 36 1 (by decide) (by simp)]; exact hr
        rw [t2 k hk0 (by omega), e]
        refine ⟨fun _ => ⟨hk0, by omega, fun h => absurd rfl h, fun _ => ?_⟩, fun h => by omega⟩
        have t3 : Mm [49] [27, 28] σ (ups (ups τ 35 27 n) 35 28 r) := (t1.fd (by decide)).fd (by decide)
        refine f_halved_m hn1 hk0 hk1 hkn hr0 hr1 (by rw [t3 36 1 (by decide) (by simp)]; exact hr) (hK _ (t3.up (by decide)) ?_)
        intro j x y hne
        have e27 : ups (ups (ups τ 35 27 n) 35 28 r) 49 k (UP n k r) 35 27 = n := rfl
        have e28 : ups (ups (ups τ 35 27 n) 35 28 r) 49 k (UP n k r) 35 28 = r := rfl
        rw [e27, e28]
        by_cases hj : j = k
        · subst hj; rw [ups_s]
        · rw [ups_f hj] at hne
          exact absurd (t2 j x (by omega)) hne
      · apply l_Mo_upperOf_1
        refine ⟨fun h => by omega, fun _ => ⟨a, b, by omega, ih _ (t1.up (by decide)) (fun j x y => ?_)⟩⟩
        by_cases hj : j = i
        · subst hj; rw [ups_s]
        · rw [ups_f hj]; exact t2 j x (by omega)
    exact key 0 (by omega) (by omega) σ Mm.rf (fun j a b => by omega)
  refine ⟨fun hkn => ⟨fun _ => fill hkn, fun h27 => ⟨fun h28 => ⟨hk0, by omega, fun h => ?_, fun h => f_halved_m hn1 hk0 hk1 hkn hr0 hr1 hr (hK _ (Mm.rf.up (by decide)) ?_)⟩, fun _ => fill hkn⟩⟩, fun hkn => ?_⟩
  · rw [hF k hk0 hk1 h, ← h27, ← h28]
    exact hK σ Mm.rf hF
  · intro j a b hne
    have e27 : ups σ 49 k (UP n k r) 35 27 = n := h27.symm
    have e28 : ups σ 49 k (UP n k r) 35 28 = r := h28.symm
    rw [e27, e28]
    by_cases hj : j = k
    · subst hj; rw [ups_s]
    · rw [ups_f hj] at hne ⊢
      rw [hF j a b hne, ← h27, ← h28]
  · have e : UP n k r = 1000000 := by unfold UP; rw [if_neg hkn]
    have := hK σ Mm.rf hF
    rw [e] at this
    exact this
theorem v_partOfm {K : Int → St → Prop} {A σ : St} (hM : MR A σ) (hA : OKA A) (hR : 0 < A 0 2) {i : Int} (h0 : 0 ≤ i) (h1 : i < A 0 0) (hK : K (pj A (A 0 2) i) σ) : CI M_Mo_partOf [vR 35, vI i] σ K := by
  apply e_Mo_partOf
  have hp := pj_in hA (R := A 0 2) h0 h1
  have ht := ta_in hA.1 h0 h1
  have hi := hA.2.1
  have h5 := hA.2.2.1.2.1
  unfold pj at hK hp
  rw [if_pos hR] at hK hp
  refine m_taintOf hM.1 hA.1 h0 h1 ?_
  rw [hM.2.1.1, hM.2.1.2.1]
  have h3 : A 0 1 * ta A i ≤ A 0 1 * 10000 := mul_le_l ht.2 hi.1
  have h4 : A 0 1 * (-10000) ≤ A 0 1 * ta A i := mul_le_l ht.1 hi.1
  rw [Int.mul_comm (A 0 1) (ta A i)] at h3 h4
  exact ⟨by omega, by omega, by omega, by omega, by omega, hK⟩
theorem m_projectedBy {K : Int → St → Prop} {A σ : St} (hM : MR A σ) (hA : OKA A) (hH : HT A σ) {sg : Int} (hs : sg = 1 ∨ sg = -1) (hK : K (pn A (A 0 2) sg (hb A (A 0 2))) σ) : CI M_Mo_projectedBy [vR 35, vI sg] σ K := by
  apply e_Mo_projectedBy
  have hR := hA.2.2.1
  have hh := hb_in hA hR.1 (Int.le_refl _)
  have key : ∀ k, 0 ≤ k → k ≤ hb A (A 0 2) → WM M_Mo_projectedBy 4 [(0, vR 35), (1, vI sg), (2, vI (pn A (A 0 2) sg k)), (3, vI k)] [] σ (QI K) := by
    refine up_ind ?_ (fun k a b ih => ?_)
    · apply l_Mo_projectedBy_1
      rw [hH.2.1]
      exact ⟨fun _ => hK, fun h => by omega⟩
    · apply l_Mo_projectedBy_1
      rw [hH.2.1, (hH.2.2.1 k a b).1]
      have hi := hI_in hA a b
      have hp := pj_in hA (R := A 0 2) hi.1 hi.2.1
      have hp2 := sg_in hs hp.1 hp.2
      have hq := pn_in hA (R := A 0 2) hs a (show k ≤ hb A (A 0 2) by omega)
      have e : pn A (A 0 2) sg (k + 1) = pn A (A 0 2) sg k + mx (sg * pj A (A 0 2) (hI A k)) := sI_s a
      rw [e] at ih
      have hR0 : 0 < A 0 2 := by
        have : hb A 0 = 0 := rfl
        rcases Int.lt_or_le 0 (A 0 2) with h | h
        · exact h
        · rw [show A 0 2 = 0 by omega, this] at b; omega
      refine ⟨fun h => by omega, fun _ => ⟨a, by omega, v_partOfm hM hA hR0 hi.1 hi.2.1 ⟨by omega, fun h => ⟨by omega, by omega, ?_⟩, fun h => ⟨by omega, by omega, ?_⟩⟩⟩⟩
      · rw [show mx (sg * pj A (A 0 2) (hI A k)) = 0 by unfold mx; rw [if_neg (by omega)]] at ih; exact ih
      · rw [show mx (sg * pj A (A 0 2) (hI A k)) = sg * pj A (A 0 2) (hI A k) by unfold mx; rw [if_pos (by omega)]] at ih; exact ih
  exact key 0 (by omega) hh.1
theorem m_knownBy {K : Int → St → Prop} {A σ : St} (hM : MR A σ) (hA : OKA A) {sg : Int} (hs : sg = 1 ∨ sg = -1) (hK : K (kn A sg) σ) : CI M_Mo_knownBy [vR 35, vI sg] σ K := by
  apply e_Mo_knownBy
  have h48 := hA.1.2.1
  have key : ∀ i, 0 ≤ i → i ≤ A 0 0 → WM M_Mo_knownBy 4 [(0, vR 35), (1, vI sg), (2, vI (sI (fun i => if ce A (A 0 1) i then mx (sg * er A i) else 0) i)), (3, vI i)] [] σ (QI K) := by
    refine up_ind ?_ (fun i a b ih => ?_)
    · apply l_Mo_knownBy_1
      rw [hM.1.1]
      exact ⟨fun _ => hK, fun h => by omega⟩
    · apply l_Mo_knownBy_1
      rw [hM.1.1]
      have hq := kn_in hA hs a (show i ≤ A 0 0 by omega)
      have he := er_in hA.1 a b
      have he2 := sg_in hs he.1 he.2
      rw [sI_s a] at ih
      refine ⟨fun h => by omega, fun _ => m_isCertain hM.1 hA.1 hM.2.1.1 a b ?_⟩
      cases hce : ce A (A 0 1) i with
      | true =>
        rw [hce, if_pos rfl] at ih
        refine ⟨fun h => by simp [bi] at h, fun _ => m_errorOf hM.1 hA.1 a b ⟨by omega, fun h => ⟨by omega, ?_⟩, fun h => m_errorOf hM.1 hA.1 a b ⟨by omega, by omega, by omega, ?_⟩⟩⟩
        · rw [show mx (sg * er A i) = 0 by unfold mx; rw [if_neg (by omega)], Int.add_zero] at ih; exact ih
        · rw [show mx (sg * er A i) = sg * er A i by unfold mx; rw [if_pos (by omega)]] at ih; exact ih
      | false =>
        rw [hce, if_neg (by decide), Int.add_zero] at ih
        exact ⟨fun _ => ⟨by omega, ih⟩, fun h => by simp [bi] at h⟩
  exact key 0 (by omega) hA.1.1
/-- the model's ranks -/
def RM (A : St) (sg : Int) (σ : St) : Prop := σ 35 32 = rm (wT A sg) (hb A (A 0 2)) ∧ ∀ j, 0 ≤ j → j < rm (wT A sg) (hb A (A 0 2)) → σ 51 j = rf (wT A sg) (hb A (A 0 2)) j
theorem RM.sm {S : List Nat} {P : List Int} {A : St} {sg : Int} {σ σ' : St} (h : RM A sg σ) (hs : Mm S P σ σ') (h32 : (32 : Int) ∉ P) (h35 : 35 ∉ S) (h51 : 51 ∉ S) : RM A sg σ' := ⟨by rw [hs 35 32 h35 (fun q => h32 q.2)]; exact h.1, fun j a b => by rw [hs 51 j h51 (fun q => by simp at q)]; exact h.2 j a b⟩
theorem s_laysRanks {K : St → Prop} {A σ : St} (hM : MR A σ) (hA : OKA A) (hH : HT A σ) {sg : Int} (hs : sg = 1 ∨ sg = -1) (hK : ∀ σ', Mm [51] [32] σ σ' → RM A sg σ' → K σ') : CV M_Mo_laysRanks [vR 35, vI sg] σ K := by
  apply e_Mo_laysRanks
  have hh := hb_in hA hA.2.2.1.1 (Int.le_refl _)
  have h5 := hA.2.2.1.2.1
  have key : ∀ k, 0 ≤ k → k ≤ hb A (A 0 2) → ∀ τ, Mm [51] [32] σ τ → τ 35 32 = rm (wT A sg) k → (∀ j, 0 ≤ j → j < rm (wT A sg) k → τ 51 j = rf (wT A sg) k j) → WM M_Mo_laysRanks 7 [(0, vR 35), (1, vI sg), (2, vI k)] [] τ (QV K) := by
    refine up_ind (fun τ t1 t2 t3 => ?_) (fun k a b ih τ t1 t2 t3 => ?_)
    · apply l_Mo_laysRanks_1
      have hHt := hH.sm t1 (by decide) (by decide) (by decide) (by decide) (by decide) (by decide) (by decide) (by decide)
      rw [hHt.2.1]
      exact ⟨fun _ => hK τ t1 ⟨t2, t3⟩, fun h => by omega⟩
    · apply l_Mo_laysRanks_1
      have hr := rk_in (w := wT A sg) k a
      have hw := wT_in hA hs a b
      have hi := hI_in hA a b
      have hMt := hM.sm t1 (by decide) (by decide)
      have hHt := hH.sm t1 (by decide) (by decide) (by decide) (by decide) (by decide) (by decide) (by decide) (by decide)
      rw [hHt.2.1, (hHt.2.2.1 k a b).1]
      refine ⟨fun h => by omega, fun _ => ⟨a, by omega, m_taintOf hMt.1 hA.1 hi.1 hi.2.1 ?_⟩⟩
      rw [show sg * ta A (hI A k) = wT A sg k from rfl, t2]
      refine ⟨by omega, fun hgt => ?_, fun hle => ⟨by omega, ?_⟩⟩
      · obtain ⟨e1, e2⟩ := rm_yes a (show ¬ wT A sg k ≤ 0 by omega)
        have inner : ∀ q : Nat, (q : Int) ≤ rm (wT A sg) k → plc (wT A sg) (rf (wT A sg) k) k (rm (wT A sg) k).toNat = plc (wT A sg) (rf (wT A sg) k) k q → ∀ ρ, Mm [51] [32] σ ρ → ρ 35 32 = rm (wT A sg) k → (∀ j, 0 ≤ j → j < (q : Int) → ρ 51 j = rf (wT A sg) k j) → (∀ j, (q : Int) < j → j ≤ rm (wT A sg) k → ρ 51 j = rf (wT A sg) k (j - 1)) → WM M_Mo_laysRanks 41 [(0, vR 35), (1, vI sg), (2, vI k), (3, vI (wT A sg k)), (4, vI (q : Int))] [] ρ (QV K) := by
          have fin : ∀ q : Nat, (q : Int) ≤ rm (wT A sg) k → plc (wT A sg) (rf (wT A sg) k) k (rm (wT A sg) k).toNat = q → ∀ ρ, Mm [51] [32] σ ρ → ρ 35 32 = rm (wT A sg) k → (∀ j, 0 ≤ j → j < (q : Int) → ρ 51 j = rf (wT A sg) k j) → (∀ j, (q : Int) < j → j ≤ rm (wT A sg) k → ρ 51 j = rf (wT A sg) k (j - 1)) → WM M_Mo_laysRanks 7 [(0, vR 35), (1, vI sg), (2, vI (k + 1))] [] (ups (ups ρ 51 (q : Int) k) 35 32 ((ρ 35 32) + 1)) (QV K) := by
            intro q hq hp ρ r1 r3 r4 r5
            refine ih _ ((r1.up (by decide)).fd (by decide)) ?_ (fun j x y => ?_)
            · rw [ups_s, e1, r3]
            · rw [ups_c (by decide), e2, hp]
              unfold insf
              rw [e1] at y
              by_cases hj : j = (q : Int)
              · subst hj; rw [ups_s]; simp
              · rw [ups_f hj]
                by_cases hlt : j < (q : Int)
                · rw [if_pos hlt]; exact r4 j x hlt
                · rw [if_neg hlt, if_neg hj]; exact r5 j (by omega) (by omega)
          intro q
          induction q with
          | zero =>
            intro hq hp ρ r1 r3 r4 r5
            apply l_Mo_laysRanks_2
            refine ⟨fun _ => ⟨by omega, by omega, by omega, by omega, fin 0 hq hp ρ r1 r3 r4 r5⟩, fun h => by omega⟩
          | succ q ihq =>
            intro hq hp ρ r1 r3 r4 r5
            apply l_Mo_laysRanks_2
            have hMr := hM.sm r1 (by decide) (by decide)
            have hHr := hH.sm r1 (by decide) (by decide) (by decide) (by decide) (by decide) (by decide) (by decide) (by decide)
            have e0 : ((q + 1 : Nat) : Int) - 1 = (q : Int) := by omega
            have e00 : ((q + 1 : Nat) : Int) + (-1) = (q : Int) := by omega
            have hrq := hr.2.2 (q : Int) (by omega) (by omega)
            have hwq := wT_in hA hs (k := rf (wT A sg) k q) hrq.1 (by omega)
            have hiq := hI_in hA hrq.1 (show rf (wT A sg) k q < hb A (A 0 2) by omega)
            rw [e0, e00, r4 (q : Int) (by omega) (by omega), (hHr.2.2.1 _ hrq.1 (by omega)).1]
            refine ⟨fun h => by omega, fun _ => ⟨by omega, by omega, by omega, hrq.1, by omega, m_taintOf hMr.1 hA.1 hiq.1 hiq.2.1 ?_⟩⟩
            rw [show sg * ta A (hI A (rf (wT A sg) k q)) = wT A sg (rf (wT A sg) k q) from rfl, r4 (q : Int) (by omega) (by omega)]
            refine ⟨by omega, fun hge => ⟨by omega, by omega, by omega, by omega, ?_⟩, fun hlt => ⟨by omega, by omega, by omega, ?_⟩⟩
            · refine fin (q + 1) hq ?_ ρ r1 r3 r4 r5
              rw [hp]
              unfold plc
              rw [if_neg (by omega)]
            · refine ihq (by omega) ?_ _ (r1.up (by decide)) ?_ (fun j x y => ?_) (fun j x y => ?_)
              · rw [hp]
                conv => lhs; unfold plc
                rw [if_pos (by omega)]
              · rw [ups_c (by decide)]; exact r3
              · rw [ups_f (by omega)]; exact r4 j x (by omega)
              · by_cases hj : j = ((q + 1 : Nat) : Int)
                · rw [hj, ups_s, e0]
                · rw [ups_f hj]; exact r5 j (by omega) y
        have ht := inner (rm (wT A sg) k).toNat (by omega) rfl τ t1 t2 (fun j x y => t3 j x (by omega)) (fun j x y => by omega)
        rw [Int.toNat_of_nonneg hr.1] at ht
        exact ht
      · obtain ⟨e1, e2⟩ := rm_no a (show wT A sg k ≤ 0 by omega)
        rw [e1, e2] at ih
        exact ih τ t1 t2 t3
  refine key 0 (by omega) hh.1 _ (Mm.rf.fd (by decide)) (by rw [ups_s, rm_0]) (fun j x y => ?_)
  rw [rm_0] at y; omega
theorem m_riseOf {K : Int → St → Prop} {A σ : St} (hM : MR A σ) (hA : OKA A) (hF : FM σ) (hH : HT A σ) {n r sg k : Int} (hr : σ 36 1 = r) (hRM : RM A sg σ) (hs : sg = 1 ∨ sg = -1) (hn1 : n ≤ 1000) (hr0 : 1 ≤ r) (hr1 : r ≤ 500) (hk0 : 0 ≤ k) (hk1 : k < rm (wT A sg) (hb A (A 0 2))) (hK : ∀ σ', Mm [49] [27, 28] σ σ' → FM σ' → K (ri A sg (hb A (A 0 2)) n r k) σ') : CI M_Mo_riseOf [vR 35, vI (k + 1), vI n] σ K := by
  apply e_Mo_riseOf
  have hh := hb_in hA hA.2.2.1.1 (Int.le_refl _)
  have h5 := hA.2.2.1.2.1
  have hri := ri_in hA hs hh.1 (Int.le_refl _) hn1 hr0 hr1 hk0 hk1
  have hrk := (rk_in (w := wT A sg) (hb A (A 0 2)) hh.1)
  have hq := hrk.2.2 k hk0 hk1
  have hi := hI_in hA hq.1 hq.2.1
  have ht := ta_in hA.1 hi.1 hi.2.1
  rw [show k + 1 - 1 = k by omega, hRM.2 k hk0 hk1, (hH.2.2.1 _ hq.1 hq.2.1).1]
  refine ⟨by omega, hk0, by omega, hq.1, by omega, m_taintOf hM.1 hA.1 hi.1 hi.2.1 (m_upperOf hF hr hn1 (by omega) (by omega) hr0 hr1 (fun σ1 s1 f1 => m_upperOf f1 (by rw [s1 36 1 (by decide) (by simp)]; exact hr) hn1 (by omega) (by omega) hr0 hr1 (fun σ2 s2 f2 => ?_)))⟩
  have s3 := s1.tr s2
  have hk := hK σ2 s3 f2
  rw [(hH.1.sm s3 (by decide) (by decide) (by decide)).1]
  have e : ri A sg (hb A (A 0 2)) n r k = (Mq A (A 0 1) * (UP n (k + 1) r - UP n k r) * wT A sg (rf (wT A sg) (hb A (A 0 2)) k)) / 10000000000 := rfl
  have ew : wT A sg (rf (wT A sg) (hb A (A 0 2)) k) = sg * ta A (hI A (rf (wT A sg) (hb A (A 0 2)) k)) := rfl
  rw [e] at hk hri
  generalize ta A (hI A (rf (wT A sg) (hb A (A 0 2)) k)) = x at *
  rcases hs with h | h
  · have ex : wT A sg (rf (wT A sg) (hb A (A 0 2)) k) = x := by rw [ew, h]; omega
    rw [ex] at hk hri hq
    exact ⟨by omega, by omega, fun _ => ⟨by omega, by omega, by omega, hk⟩, fun h => by omega⟩
  · have ex : wT A sg (rf (wT A sg) (hb A (A 0 2)) k) = -x := by rw [ew, h]; omega
    rw [ex] at hk hri hq
    exact ⟨by omega, by omega, fun h => by omega, fun _ => ⟨by omega, by omega, by omega, by omega, hk⟩⟩
theorem m_basicBy {K : Int → St → Prop} {A σ : St} (hA : OKA A) (hF : FM σ) (hB : BG A (A 0 1) σ) {n r : Int} (hr : σ 36 1 = r) (hn1 : n ≤ 1000) (hr0 : 1 ≤ r) (hr1 : r ≤ 500) (hK : ∀ σ', Mm [49] [27, 28] σ σ' → FM σ' → K (ba A n r) σ') : CI M_Mo_basicBy [vR 35, vI n] σ K := by
  apply e_Mo_basicBy
  have hb := ba_in hA (n := n) (r := r)
  rw [hB.1]
  refine m_upperOf hF hr hn1 (by omega) (by omega) hr0 hr1 (fun σ1 s1 f1 => ⟨by omega, by omega, ?_, hK σ1 s1 f1⟩)
  show inR (ba A n r)
  omega
theorem m_risesBy {K : Int → St → Prop} {A σ : St} (hM : MR A σ) (hA : OKA A) (hF : FM σ) (hH : HT A σ) {n r sg : Int} (hr : σ 36 1 = r) (hs : sg = 1 ∨ sg = -1) (hn1 : n ≤ 1000) (hr0 : 1 ≤ r) (hr1 : r ≤ 500) (hK : ∀ σ', Mm [49, 51] [27, 28, 32] σ σ' → FM σ' → K (rs A sg (hb A (A 0 2)) n r) σ') : CI M_Mo_risesBy [vR 35, vI sg, vI n] σ K := by
  apply e_Mo_risesBy
  refine s_laysRanks hM hA hH hs (fun σ1 s1 k1 => ?_)
  have hh := hb_in hA hA.2.2.1.1 (Int.le_refl _)
  have h5 := hA.2.2.1.2.1
  have hrk := rk_in (w := wT A sg) (hb A (A 0 2)) hh.1
  have key : ∀ k, 0 ≤ k → k ≤ rm (wT A sg) (hb A (A 0 2)) → ∀ τ, Mm [49, 51] [27, 28, 32] σ τ → FM τ → RM A sg τ → WM M_Mo_risesBy 10 [(0, vR 35), (2, vI n), (3, vI (sI (ri A sg (hb A (A 0 2)) n r) k)), (4, vI (k + 1))] [] τ (QI K) := by
    refine up_ind (fun τ t1 t2 t3 => ?_) (fun k a b ih τ t1 t2 t3 => ?_)
    · apply l_Mo_risesBy_1
      rw [t3.1]
      exact ⟨fun _ => hK τ t1 t2, fun h => by omega⟩
    · apply l_Mo_risesBy_1
      rw [t3.1]
      have hri := ri_in hA hs hh.1 (Int.le_refl _) hn1 hr0 hr1 a b
      have hq := rs_in hA hs hh.1 (Int.le_refl _) hn1 hr0 hr1 a (show k ≤ rm (wT A sg) (hb A (A 0 2)) by omega)
      rw [sI_s a] at ih
      refine ⟨fun h => by omega, fun _ => m_riseOf (hM.sm t1 (by decide) (by decide)) hA t2 (hH.sm t1 (by decide) (by decide) (by decide) (by decide) (by decide) (by decide) (by decide) (by decide)) (by rw [t1 36 1 (by decide) (by simp)]; exact hr) t3 hs hn1 hr0 hr1 a b (fun σ2 s2 f2 => ⟨by omega, by omega, ?_⟩)⟩
      exact ih σ2 (t1.tr (s2.wk (by decide) (by decide))) f2 (t3.sm s2 (by decide) (by decide) (by decide))
  exact key 0 (by omega) hrk.1 σ1 (s1.wk (by decide) (by decide)) (hF.sm s1 (by decide) (by decide) (by decide) (by decide)) k1
theorem m_boundBy {K : Int → St → Prop} {A σ : St} (hM : MR A σ) (hA : OKA A) (hF : FM σ) (hH : HT A σ) {n sg : Int} (hs : sg = 1 ∨ sg = -1) (hn1 : n ≤ 1000) (hK : ∀ σ', Mm [49, 51] [27, 28, 32] σ σ' → FM σ' → K (LI A (A 0 2) n (A 6 1) sg) σ') : CI M_Mo_boundBy [vR 35, vI sg, vI n] σ K := by
  apply e_Mo_boundBy
  have hR := hA.2.2.1
  have ht := hA.2.2.2.2.2
  have hr : σ 36 1 = A 6 1 := hM.2.2.2.1 1 (by omega) (by omega)
  have hb := ba_in hA (n := n) (r := A 6 1)
  have hl := LI_in hA (R := A 0 2) hs hR.1 (Int.le_refl _) hn1 ht.2.1.1 ht.2.1.2
  have hk1 := kn_in2 hA hs
  have hk2 := kn_in2 hA (sg_neg hs)
  have ms : ∀ τ, Mm [49, 51] [27, 28, 32] σ τ → MR A τ ∧ HT A τ := fun τ t => ⟨hM.sm t (by decide) (by decide), hH.sm t (by decide) (by decide) (by decide) (by decide) (by decide) (by decide) (by decide) (by decide)⟩
  refine m_basicBy hA hF hH.1 hr hn1 ht.2.1.1 ht.2.1.2 (fun σ1 s1 f1 => ?_)
  have t1 : Mm [49, 51] [27, 28, 32] σ σ1 := s1.wk (by decide) (by decide)
  refine m_risesBy (ms σ1 t1).1 hA f1 (ms σ1 t1).2 (by rw [t1 36 1 (by decide) (by simp)]; exact hr) hs hn1 ht.2.1.1 ht.2.1.2 (fun σ2 s2 f2 => ⟨by omega, ?_⟩)
  have t2 := t1.tr s2
  have hM2 := (ms σ2 t2).1
  refine m_knownBy hM2 hA hs ⟨by omega, ?_⟩
  rw [hM2.2.2.2.1 3 (by omega) (by omega)]
  have hk := hK σ2 t2 f2
  unfold LI at hk
  refine ⟨fun hz => ?_, fun hz => ⟨by omega, m_knownBy hM2 hA (sg_neg hs) ⟨by omega, m_projectedBy hM2 hA (ms σ2 t2).2 (sg_neg hs) ⟨by omega, ?_⟩⟩⟩⟩
  · rw [if_pos (by omega)] at hk; exact hk
  · rw [if_neg (by omega)] at hk; exact hk
theorem m_sizeBy {K : Int → St → Prop} {A σ : St} (hM : MR A σ) (hA : OKA A) (hF : FM σ) {t e : Int} (he0 : 0 ≤ e) (he1 : e ≤ 9) (hK : ∀ σ', Mm [49] [27, 28] σ σ' → FM σ' → K (SZ (al A) t e (A 6 1)) σ') : CI M_Mo_sizeBy [vR 35, vI t, vI e] σ K := by
  apply e_Mo_sizeBy
  have ht := hA.2.2.2.2.2
  have ha := al_in hA.1
  refine m_allCoins hM.1 hA.1 ?_
  have key : ∀ i, 0 ≤ i → i ≤ 400 → ∀ τ, Mm [49] [27, 28] σ τ → FM τ → (∀ j, 0 ≤ j → j < i → szb (al A) t e (A 6 1) (j + 1) = false) → WM M_Mo_sizeBy 9 [(0, vR 35), (1, vI t), (2, vI e), (3, vL (al A)), (5, vI (i + 1))] [] τ (QI K) := by
    refine up_ind (fun τ t1 t2 hf => ?_) (fun i a b ih τ t1 t2 hf => ?_)
    · apply l_Mo_sizeBy_1
      have hk := hK τ t1 t2
      unfold SZ at hk
      rw [fI_none (by omega) hf, if_pos rfl] at hk
      exact ⟨fun _ => hk, fun h => by omega⟩
    · apply l_Mo_sizeBy_1
      have hU := UP_in (i + 1) e (A 6 1)
      have h8 := mul_le_l hU.2 ha.1
      have h9 := Int.mul_nonneg ha.1 (show 0 ≤ UP (i + 1) e (A 6 1) by omega)
      refine ⟨fun h => by omega, fun _ => m_upperOf t2 (by rw [t1 36 1 (by decide) (by simp)]; exact hM.2.2.2.1 1 (by omega) (by omega)) (by omega) he0 (by omega) ht.2.1.1 ht.2.1.2 (fun σ1 s1 f1 => ?_)⟩
      have t3 := t1.tr s1
      rw [lcq_gt]
      refine ⟨by omega, h9, fun h => ⟨by omega, ih σ1 t3 f1 (fun j x y => ?_)⟩, fun h => ?_⟩
      · by_cases hj : j = i
        · subst hj; unfold szb; simp; omega
        · exact hf j x (by omega)
      · have hk := hK σ1 t3 f1
        have e1 : fI (fun i => szb (al A) t e (A 6 1) (i + 1)) 400 = i := fI_eq a b (by unfold szb; simp; omega) hf
        unfold SZ at hk
        rw [e1, if_neg (by omega)] at hk
        exact hk
  exact key 0 (by omega) (by omega) σ Mm.rf hF (fun j a b => by omega)
theorem MR.au {A σ : St} (hM : MR A σ) {i v : Int} : MR (ups A 4 i v) (ups σ 39 (4 * i + 3) v) := by
  refine ⟨⟨hM.1.1, fun j a b => ?_⟩, hM.2⟩
  obtain ⟨g1, g2, g3, g4⟩ := hM.1.2 j a b
  refine ⟨?_, ?_, ?_, (?_ : ups σ 39 (4 * i + 3) v 39 (4 * j + 3) = ups A 4 i v 4 j)⟩
  · rw [ups_f (by omega)]; exact g1
  · rw [ups_f (by omega)]; exact g2
  · rw [ups_f (by omega)]; exact g3
  · by_cases hj : j = i
    · subst hj; rw [ups_s, ups_s]
    · rw [ups_f (by omega), ups_f hj]; exact g4
theorem m_boundIf {K : Int → St → Prop} {A σ : St} (hM : MR A σ) (hA : OKA A) (hF : FM σ) (hH : HT A σ) {i v : Int} (h0 : 0 ≤ i) (h1 : i < A 0 0) (hv0 : 0 ≤ v) (hv1 : v ≤ 2 * A 3 i) (hp : 0 < A 3 i) (hK : ∀ σ', MR A σ' → FM σ' → HT A σ' → UM σ σ' → K (bwq A i v) σ') : CI M_Mo_boundIf [vR 35, vI i, vI v] σ K := by
  apply e_Mo_boundIf
  have h48 := hA.1.2.1
  have hA2 : OKA (ups A 4 i v) := au_ok hA (Or.inr ⟨hv0, hv1, hp⟩)
  have hh := hb_in hA hA.2.2.1.1 (Int.le_refl _)
  have h5 := hA.2.2.1.2.1
  refine v_audited hM.1 hA.1 h0 h1 ?_
  rw [hH.2.1]
  have f2 : FM (ups σ 39 (4 * i + 3) v) := fun k a b => hF k a b
  have hH2 : HT (ups A 4 i v) (ups σ 39 (4 * i + 3) v) := hH
  refine ⟨by omega, by omega, by omega, by omega, m_boundBy hM.au hA2 f2 hH2 (Or.inl rfl) (by omega) (fun σ1 s1 f1 => ?_)⟩
  have M1 := (hM.au (i := i) (v := v)).sm s1 (by decide) (by decide)
  have H1 := hH2.sm s1 (by decide) (by decide) (by decide) (by decide) (by decide) (by decide) (by decide) (by decide)
  have M2 := M1.au (i := i) (v := A 4 i)
  refine hK _ ⟨⟨M2.1.1, fun j a b => ?_⟩, M2.2⟩ (fun k a b => f1 k a b) H1 (((UM.rf.up (by decide)).tr (s1.um (by decide))).up (by decide))
  obtain ⟨g1, g2, g3, g4⟩ := M2.1.2 j a b
  refine ⟨g1, g2, g3, g4.trans (?_ : ups (ups A 4 i v) 4 i (A 4 i) 4 j = A 4 j)⟩
  by_cases hj : j = i
  · subst hj; rw [ups_s]
  · rw [ups_f hj, ups_f hj]
theorem v_lackingNow {K : Int → St → Prop} {A σ : St} (hM : MR A σ) (hA : OKA A) (hH : HT A σ) (hK : K (cI (lackp A (A 0 2)) (A 0 0)) σ) : CI M_Mo_lackingNow [vR 35] σ K := by
  apply e_Mo_lackingNow
  have h48 := hA.1.2.1
  have key : ∀ i, 0 ≤ i → i ≤ A 0 0 → WM M_Mo_lackingNow 4 [(0, vR 35), (1, vI (cI (lackp A (A 0 2)) i)), (2, vI i)] [] σ (QI K) := by
    refine up_ind ?_ (fun i a b ih => ?_)
    · apply l_Mo_lackingNow_1
      rw [hM.1.1]
      exact ⟨fun _ => hK, fun h => by omega⟩
    · apply l_Mo_lackingNow_1
      rw [hM.1.1]
      have hc := cI_in (p := lackp A (A 0 2)) a
      refine ⟨fun h => by omega, fun _ => v_isSo hM hA hH.2.2.2 (by omega) a b ?_⟩
      rw [show kdp A 1 i = lackp A (A 0 2) i from rfl, Int.add_zero]
      cases hp : lackp A (A 0 2) i with
      | false => rw [cI_f a hp] at ih; exact ⟨fun _ => ⟨by omega, by omega, ih⟩, fun h => absurd rfl h⟩
      | true => rw [cI_t a hp] at ih; exact ⟨fun h => by simp [bi] at h, fun _ => ⟨by omega, by omega, ih⟩⟩
  exact key 0 (by omega) hA.1.1
-- catching, turns
theorem v_catches {K : Int → St → Prop} {A σ : St} (hL : LM A σ) (hA : OKL A) {v : Int} (hv : σ 35 9 = v) (hv0 : 0 < v) (hv1 : v ≤ 9999999) (hB : ∀ i, 0 ≤ i → i < A 0 0 → σ 44 i = fc A v i) {s x : Int} (hs0 : 1 ≤ s) (hs1 : s ≤ v) (h0 : 0 ≤ x) (h1 : x < A 0 0) (hK : K (bi (sk A v s x)) σ) : CI M_Mo_catches [vR 35, vI s, vI x] σ K := by
  apply e_Mo_catches
  have h48 := hA.2.1
  have hf := fc_in hA (v := v) h0 h1
  have hp := prq_in hA (v := v) h0 (by omega)
  have hMq := Mq_in hA (v := v)
  rw [hB x h0 h1, hv]
  refine ⟨h0, by omega, fun hz => ?_, fun hz => ?_⟩
  · have e1 : fc A v x - 1 = prq A v x := by omega
    rw [e1]
    have m0 := Int.emod_nonneg (prq A v x) (show v ≠ 0 by omega)
    have m1 := Int.emod_lt_of_pos (prq A v x) hv0
    have m2 := Int.emod_add_mul_ediv (prq A v x) v
    have ed : s - fc A v x = (s - 1 - prq A v x % v) + v * (-(prq A v x / v)) := by rw [Int.mul_neg]; omega
    have em : (s - fc A v x) % v = if 0 ≤ s - 1 - prq A v x % v then s - 1 - prq A v x % v else s - 1 - prq A v x % v + v := by
      rw [ed, Int.add_mul_emod_self_left]
      split
      · exact Int.emod_eq_of_lt (by omega) (by omega)
      · rw [← Int.add_emod_right]
        exact Int.emod_eq_of_lt (by omega) (by omega)
    have eq : sk A v s x = decide ((s - fc A v x) % v < rc A v x) := by
      unfold sk
      by_cases hh : (s - fc A v x) % v < rc A v x
      · simp [hh, hv0]; omega
      · simp [hh]
    rw [eq, em] at hK
    refine ⟨by omega, by omega, by omega, hv0, by omega, fun hp => m_coinsOf hL hA h0 h1 ?_, fun hp => ⟨by omega, m_coinsOf hL hA h0 h1 ?_⟩⟩
    · rw [if_pos hp] at hK
      refine ⟨fun h => ?_, fun h => ?_⟩
      · rw [bi_f (by simp; omega)] at hK; exact hK
      · rw [bi_t (by simp; omega)] at hK; exact hK
    · rw [if_neg hp] at hK
      refine ⟨fun h => ?_, fun h => ?_⟩
      · rw [bi_f (by simp; omega)] at hK; exact hK
      · rw [bi_t (by simp; omega)] at hK; exact hK
  · rw [bi_f (by unfold sk; simp; omega)] at hK; exact hK
theorem s_laysTurn {K : St → Prop} {σ : St} {x m : Int} (hm0 : 0 ≤ m) (hm1 : m < 98) (hc : σ 35 34 = m) (hK : ∀ σ', Mm [52] [34] σ σ' → ((σ' = σ ∧ ∃ j, 0 ≤ j ∧ j < m ∧ σ 52 j = x) ∨ (σ' 35 34 = m + 1 ∧ Ins (σ 52) m x (σ' 52))) → K σ') : CV M_Mo_laysTurn [vR 35, vI x] σ K := by
  apply e_Mo_laysTurn
  have shift : WM M_Mo_laysTurn 32 [(0, vR 35), (1, vI x), (2, vI m)] [] σ (QV K) := by
    have key : ∀ p, 0 ≤ p → (p ≤ m → ∀ τ, Mm [52] [] σ τ → (∀ j, 0 ≤ j → j < p → τ 52 j = σ 52 j) → (∀ j, p ≤ j → j < m → τ 52 (j + 1) = σ 52 j ∧ x < σ 52 j) → WM M_Mo_laysTurn 32 [(0, vR 35), (1, vI x), (2, vI p)] [] τ (QV K)) := by
      have fin : ∀ p, 0 ≤ p → p ≤ m → (0 < p → σ 52 (p - 1) ≤ x) → ∀ τ, Mm [52] [] σ τ → (∀ j, 0 ≤ j → j < p → τ 52 j = σ 52 j) → (∀ j, p ≤ j → j < m → τ 52 (j + 1) = σ 52 j ∧ x < σ 52 j) → (0 ≤ p) ∧ (p < 98) ∧ (inR ((τ 35 34) + 1)) ∧ K (ups (ups τ 52 p x) 35 34 ((τ 35 34) + 1)) := by
        intro p p0 p1 p2 τ t1 t2 t3
        rw [t1 35 34 (by decide) (by simp), hc]
        refine ⟨p0, by omega, by omega, hK _ (((t1.wk (by decide) (by decide)).up (by decide)).fd (by decide)) (Or.inr ⟨by rw [ups_s], p, p0, p1, fun j a b => ?_, p2, ?_, fun j a b => ⟨?_, (t3 j a b).2⟩⟩)⟩
        · rw [ups_c (by decide), ups_f (by omega)]; exact t2 j a b
        · rw [ups_c (by decide), ups_s]
        · rw [ups_c (by decide), ups_f (by omega)]; exact (t3 j a b).1
      refine nn_ind (fun h τ t1 t2 t3 => ?_) (fun p hp ih h τ t1 t2 t3 => ?_)
      · apply l_Mo_laysTurn_2
        exact ⟨fun _ => fin 0 (by omega) h (by omega) τ t1 t2 t3, fun h => by omega⟩
      · apply l_Mo_laysTurn_2
        have e : τ 52 (p + 1 - 1) = σ 52 p := by rw [show p + 1 - 1 = p by omega]; exact t2 p hp (by omega)
        rw [e]
        refine ⟨fun h => by omega, fun _ => ⟨by omega, by omega, by omega, fun hle => fin (p + 1) (by omega) h (fun _ => by rw [show p + 1 - 1 = p by omega]; exact hle) τ t1 t2 t3, fun hgt => ⟨by omega, by omega, by omega, ?_⟩⟩⟩
        rw [show p + 1 + -1 = p by omega]
        refine ih (by omega) _ (t1.up (by decide)) (fun j a b => ?_) (fun j a b => ?_)
        · rw [ups_f (by omega)]; exact t2 j a (by omega)
        · by_cases hj : j = p
          · subst hj; rw [ups_s]; exact ⟨rfl, by omega⟩
          · rw [ups_f (by omega)]; exact t3 j (by omega) b
    exact key m hm0 (Int.le_refl _) σ Mm.rf (fun j _ _ => rfl) (fun j a b => by omega)
  have look : ∀ k, 0 ≤ k → k ≤ m → WM M_Mo_laysTurn 2 [(0, vR 35), (1, vI x), (2, vI k)] [] σ (QV K) := by
    refine up_ind ?_ (fun k a b ih => ?_)
    · apply l_Mo_laysTurn_1
      rw [hc]
      exact ⟨fun _ => shift, fun h => by omega⟩
    · apply l_Mo_laysTurn_1
      rw [hc]
      exact ⟨fun h => by omega, fun _ => ⟨a, by omega, fun h => ⟨by omega, ih⟩, fun h => hK σ Mm.rf (Or.inl ⟨rfl, k, a, b, h⟩)⟩⟩
  exact look 0 (by omega) hm0
/-- the turns are laid -/
def TNR (A σ : St) : Prop := ∃ m, σ 35 34 = m ∧ m ≤ 98 ∧ SCq (A 0 1) m (σ 52) ∧ CAq A (A 0 1) m (σ 52)
theorem s_laysTurns {K : St → Prop} {A σ : St} (hM : MR A σ) (hA : OKA A) (hiv : 0 < A 0 1) (hK : ∀ σ', Mm [44, 52] [20, 34] σ σ' → BG A (A 0 1) σ' → TNR A σ' → K σ') : CV M_Mo_laysTurns [vR 35] σ K := by
  apply e_Mo_laysTurns
  have h48 := hA.1.2.1
  have hi := hA.2.1
  rw [hM.2.1.1]
  refine s_laysRest hM.1 hA.1 (fun σ1 s1 b1 => ?_)
  have hmod : ∀ a, 0 ≤ a % A 0 1 ∧ a % A 0 1 < A 0 1 := fun a => ⟨Int.emod_nonneg a (by omega), Int.emod_lt_of_pos a hiv⟩
  have key : ∀ i, 0 ≤ i → i ≤ A 0 0 → ∀ m τ, Mm [44, 52] [20, 34] σ τ → BG A (A 0 1) τ → τ 35 34 = m → m ≤ 2 * i + 1 → SCq (A 0 1) m (τ 52) → (∀ s, (s = 1 ∨ ∃ j, 0 ≤ j ∧ j < i ∧ 0 < rc A (A 0 1) j ∧ s = (prq A (A 0 1) j + rc A (A 0 1) j) % (A 0 1) + 1) → ∃ j, 0 ≤ j ∧ j < m ∧ τ 52 j = s) → WM M_Mo_laysTurns 20 [(0, vR 35), (1, vI i)] [] τ (QV K) := by
    refine up_ind (fun m τ t1 t0 t2 t3 t4 t5 => ?_) (fun i h0 h1 ih m τ t1 t0 t2 t3 t4 t5 => ?_)
    · apply l_Mo_laysTurns_1
      rw [(hM.sm t1 (by decide) (by decide)).1.1]
      exact ⟨fun _ => hK τ t1 t0 ⟨m, t2, by omega, t4, fun s hs => t5 s hs⟩, fun h => by omega⟩
    · apply l_Mo_laysTurns_1
      have hMt := hM.sm t1 (by decide) (by decide)
      have hf := fc_in hA.1 (v := A 0 1) h0 h1
      have hp := prq_in hA.1 (v := A 0 1) h0 (by omega)
      have hr := rc_in hA.1 (v := A 0 1) h0 h1
      have hc := co_in hA.1 h0 h1
      rw [hMt.1.1, t0.2 i h0 h1, hMt.2.1.1]
      refine ⟨fun h => by omega, fun _ => ⟨h0, by omega, fun hz => ?_, fun hz => ⟨by omega, ih m τ t1 t0 t2 (by omega) t4 (fun s hs => t5 s ?_)⟩⟩⟩
      · have e1 : fc A (A 0 1) i - 1 = prq A (A 0 1) i := by omega
        rw [e1]
        have m0 := hmod (prq A (A 0 1) i)
        refine ⟨by omega, by omega, hiv, by omega, s_laysTurn (m := m) (by have := t4.1; omega) (by omega) t2 (fun σ2 u1 u2 => ?_)⟩
        -- behind the first
        have t6 : Mm [44, 52] [20, 34] σ σ2 := t1.tr (u1.wk (by decide) (by decide))
        have hM2 := hM.sm t6 (by decide) (by decide)
        have b2 := t0.sm u1 (by decide) (by decide) (by decide)
        obtain ⟨m', g1, g2, g3, g4⟩ : ∃ m', σ2 35 34 = m' ∧ m' ≤ 2 * i + 2 ∧ SCq (A 0 1) m' (σ2 52) ∧ ∀ y, (∃ j, 0 ≤ j ∧ j < m ∧ τ 52 j = y) → ∃ j, 0 ≤ j ∧ j < m' ∧ σ2 52 j = y := by
          rcases u2 with ⟨rfl, _⟩ | ⟨u2, u3⟩
          · exact ⟨m, t2, by omega, t4, fun y h => h⟩
          · exact ⟨m + 1, u2, by omega, t4.ins (by omega) (by omega) u3, fun y h => u3.old h⟩
        rw [b2.2 i h0 h1, e1]
        have m1 := hmod (prq A (A 0 1) i + rc A (A 0 1) i)
        have ec : co A i = rc A (A 0 1) i := by omega
        refine ⟨by omega, m_coinsOf hM2.1 hA.1 h0 h1 ?_⟩
        rw [hM2.2.1.1, ec]
        refine ⟨by omega, by omega, hiv, by omega, s_laysTurn (m := m') (by have := g3.1; omega) (by omega) g1 (fun σ3 w1 w2 => ⟨by omega, ?_⟩)⟩
        have t7 : Mm [44, 52] [20, 34] σ σ3 := t6.tr (w1.wk (by decide) (by decide))
        have b3 := b2.sm w1 (by decide) (by decide) (by decide)
        rcases w2 with ⟨rfl, w3⟩ | ⟨w2, w3⟩
        · refine ih m' σ3 t7 b3 g1 (by omega) g3 (fun s hs => ?_)
          rcases hs with hs | ⟨j, a, b, c, d⟩
          · exact g4 s (t5 s (Or.inl hs))
          · by_cases hj : j = i
            · subst hj; rw [d]; exact w3
            · exact g4 s (t5 s (Or.inr ⟨j, a, by omega, c, d⟩))
        · refine ih (m' + 1) σ3 t7 b3 w2 (by omega) (g3.ins (by omega) (by omega) w3) (fun s hs => ?_)
          rcases hs with hs | ⟨j, a, b, c, d⟩
          · exact w3.old (g4 s (t5 s (Or.inl hs)))
          · by_cases hj : j = i
            · subst hj; rw [d]; exact w3.new
            · exact w3.old (g4 s (t5 s (Or.inr ⟨j, a, by omega, c, d⟩)))
      · rcases hs with hs | ⟨j, a, b, c, d⟩
        · exact Or.inl hs
        · refine Or.inr ⟨j, a, ?_, c, d⟩
          rcases Int.lt_or_le j i with q | q
          · exact q
          · have : j = i := by omega
            subst this
            omega
  have s2 : Mm [44, 52] [20, 34] σ (ups σ1 35 34 0) := (s1.wk (by decide) (by decide)).fd (by decide)
  have b2 : BG A (A 0 1) (ups σ1 35 34 0) := ⟨by rw [ups_f (by decide)]; exact b1.1, fun i a b => by rw [ups_c (by decide)]; exact b1.2 i a b⟩
  refine s_laysTurn (m := 0) (by omega) (by omega) (by rw [ups_s]) (fun τ u1 u2 => ?_)
  rcases u2 with ⟨_, j, a, b, _⟩ | ⟨u2, u3⟩
  · omega
  refine key 0 (by omega) hA.1.1 1 τ (s2.tr (u1.wk (by decide) (by decide))) (b2.sm u1 (by decide) (by decide) (by decide)) (by rw [u2]; rfl) (by omega) ?_ (fun s hs => ?_)
  · obtain ⟨p, p0, p1, _, _, h3, _⟩ := u3
    have e : p = 0 := by omega
    subst e
    refine ⟨by omega, h3, fun j a b => ?_, fun j a b => by omega⟩
    have : j = 0 := by omega
    subst this; rw [h3]; omega
  · rcases hs with hs | ⟨j, a, b, _⟩
    · rw [hs]; exact u3.new
    · omega
theorem sk_fc {A : St} (hA : OKL A) {v s i : Int} (h0 : 0 ≤ i) (h1 : i < A 0 0) (h : sk A v s i = true) : 0 < fc A v i := by
  have hf := fc_in hA (v := v) h0 h1
  unfold sk at h
  simp only [decide_eq_true_eq] at h
  omega
theorem v_caughtBy {K : Int → St → Prop} {A σ : St} (hM : MR A σ) (hA : OKA A) (hiv : 0 < A 0 1) (hB : BG A (A 0 1) σ) {s : Int} (hs0 : 1 ≤ s) (hs1 : s ≤ A 0 1) (hK : K (mh A (erm A) s) σ) : CI M_Mo_caughtBy [vR 35, vI s] σ K := by
  apply e_Mo_caughtBy
  have h48 := hA.1.2.1
  have hi := hA.2.1
  have key : ∀ i, 0 ≤ i → i ≤ A 0 0 → WM M_Mo_caughtBy 4 [(0, vR 35), (1, vI s), (2, vI (cI (fun i => erm A i && sk A (A 0 1) s i) i)), (3, vI i)] [] σ (QI K) := by
    refine up_ind ?_ (fun i a b ih => ?_)
    · apply l_Mo_caughtBy_1
      rw [hM.1.1]
      exact ⟨fun _ => hK, fun h => by omega⟩
    · apply l_Mo_caughtBy_1
      rw [hM.1.1]
      have hc := cI_in (p := fun i => erm A i && sk A (A 0 1) s i) a
      rw [Int.add_zero]
      refine ⟨fun h => by omega, fun _ => m_errorOf hM.1 hA.1 a b ⟨fun he => ⟨by omega, by omega, ?_⟩, fun he => v_catches hM.1 hA.1 hM.2.1.1 hiv (by omega) hB.2 hs0 hs1 a b ?_⟩⟩
      · rw [cI_f a (by unfold erm; simp [he])] at ih; exact ih
      · cases hk : sk A (A 0 1) s i with
        | false => rw [cI_f a (by simp [hk])] at ih; exact ⟨fun _ => ⟨by omega, by omega, ih⟩, fun h => absurd rfl h⟩
        | true =>
          have := sk_fc hA.1 a b hk
          rw [cI_t a (by unfold erm; simp [hk, he, this])] at ih
          exact ⟨fun h => by simp [bi] at h, fun _ => ⟨by omega, by omega, ih⟩⟩
  exact key 0 (by omega) hA.1.1
theorem v_turnLong {K : Int → St → Prop} {A σ : St} (hM : MR A σ) (hA : OKA A) {m : Int} (hm : σ 35 34 = m) (hm1 : m ≤ 98) (hS : SCq (A 0 1) m (σ 52)) {c : Int} (h0 : 0 ≤ c) (h1 : c < m) (hK : K (nxt (A 0 1) m (σ 52) (c + 1) - σ 52 c) σ) : CI M_Mo_turnLong [vR 35, vI c] σ K := by
  apply e_Mo_turnLong
  have hi := hA.2.1
  have hr := hS.2.2.1 c h0 h1
  rw [hm, hM.2.1.1]
  unfold nxt at hK
  refine ⟨by omega, fun h => ⟨by omega, h0, by omega, by omega, ?_⟩, fun h => ?_⟩
  · rw [if_neg (by omega)] at hK; exact hK
  · have hr2 := hS.2.2.1 (c + 1) (by omega) (by omega)
    rw [if_pos (by omega)] at hK
    exact ⟨by omega, by omega, h0, by omega, by omega, hK⟩
theorem v_common {K : Int → St → Prop} {σ : St} {a b : Int} (ha : 0 ≤ a) (hb : 0 ≤ b) (hK : K (gq a b) σ) : CI M_Mo_common [vI a, vI b] σ K := by
  apply e_Mo_common
  have key : ∀ m : Nat, ∀ a b : Int, 0 ≤ a → 0 ≤ b → b ≤ m → K (gq a b) σ → WM M_Mo_common 4 [(2, vI a), (3, vI b)] [] σ (QI K) := by
    intro m
    induction m with
    | zero =>
      intro a b h1 h2 h3 hK
      apply l_Mo_common_1
      have e : b = 0 := by omega
      subst e
      rw [gq_0 h1] at hK
      exact ⟨fun _ => hK, fun h => absurd rfl h⟩
    | succ m ih =>
      intro a b h1 h2 h3 hK
      apply l_Mo_common_1
      refine ⟨fun h => ?_, fun h => ⟨h1, by omega, ?_⟩⟩
      · subst h; rw [gq_0 h1] at hK; exact hK
      · rw [gq_s h1 (by omega)] at hK
        have r0 := Int.emod_nonneg a h
        have r1 := Int.emod_lt_of_pos a (show 0 < b by omega)
        exact ih b (a % b) h2 r0 (by omega) hK
  exact key b.toNat a b ha hb (by omega) hK
theorem v_manyOf {K : Int → St → Prop} {A σ : St} (hM : MR A σ) (hA : OKA A) (hH : HT A σ) {w : Int} (hw : w = 6 ∨ w = 8) (hK : K (cI (if w = 6 then hitp A else audp A) (A 0 0)) σ) : CI M_Mo_manyOf [vR 35, vI w] σ K := by
  apply e_Mo_manyOf
  have h48 := hA.1.2.1
  have key : ∀ i, 0 ≤ i → i ≤ A 0 0 → WM M_Mo_manyOf 4 [(0, vR 35), (1, vI w), (2, vI (cI (if w = 6 then hitp A else audp A) i)), (3, vI i)] [] σ (QI K) := by
    refine up_ind ?_ (fun i a b ih => ?_)
    · apply l_Mo_manyOf_1
      rw [hM.1.1]
      exact ⟨fun _ => hK, fun h => by omega⟩
    · apply l_Mo_manyOf_1
      rw [hM.1.1, hH.2.2.2 i a b, Int.add_zero]
      have hc := cI_in (p := (if w = 6 then hitp A else audp A)) a
      refine ⟨fun h => by omega, fun _ => ⟨fun g6 => ⟨fun g8 => by omega, fun g8 => v_audited hM.1 hA.1 a b ⟨fun h => ⟨by omega, by omega, ?_⟩, fun h => ⟨by omega, by omega, ?_⟩⟩⟩, fun g6 => ⟨a, by omega, fun h => ⟨by omega, by omega, ?_⟩, fun h => ⟨fun g8 => ⟨by omega, by omega, ?_⟩, fun g8 => by omega⟩⟩⟩⟩
      · rw [cI_f a (by rw [if_neg g6]; unfold audp; simp [h])] at ih; exact ih
      · rw [cI_t a (by rw [if_neg g6]; unfold audp; simp [h])] at ih; exact ih
      · rw [cI_t a (by rw [if_pos g6]; unfold hitp; simp [h])] at ih; exact ih
      · rw [cI_f a (by rw [if_pos g6]; unfold hitp; simp; omega)] at ih; exact ih
  exact key 0 (by omega) hA.1.1
-- signs
def TXm (T : Txt) (σ : St) : Prop := 0 ≤ T.1 ∧ σ 35 30 = T.1 ∧ ∀ j, 0 ≤ j → j < T.1 → σ 50 j = T.2 j
theorem s_tells {K : St → Prop} {σ : St} {T : Txt} (hT : TXm T σ) (hl : T.1 < 60) {c : Int} (hK : ∀ σ', Mm [50] [30] σ σ' → TXm (sgn T c) σ' → K σ') : CV M_Mo_tells [vR 35, vI c] σ K := by
  apply e_Mo_tells
  rw [hT.2.1]
  have hT0 := hT.1
  refine ⟨hT.1, hl, by omega, hK _ ((Mm.rf.up (by decide)).fd (by decide)) ⟨by show 0 ≤ T.1 + 1; omega, by rw [ups_s]; rfl, fun j a b => ?_⟩⟩
  have b : j < T.1 + 1 := b
  show _ = if j = T.1 then c else T.2 j
  rw [ups_c (by decide)]
  by_cases hj : j = T.1
  · subst hj; rw [ups_s, if_pos rfl]
  · rw [ups_f hj, if_neg hj]; exact hT.2.2 j a (by omega)
theorem s_tellsNumber {K : St → Prop} {σ : St} {T : Txt} (hT : TXm T σ) (hl : T.1 ≤ 54) {v : Int} (hv0 : 0 ≤ v) (hv1 : v < 1000000) (hK : ∀ σ', Mm [50] [30] σ σ' → TXm (nmb T v) σ' → K σ') : CV M_Mo_tellsNumber [vR 35, vI v] σ K := by
  apply e_Mo_tellsNumber
  have key : ∀ (e : Nat) (U : Txt) (τ : St), U.1 + e ≤ 60 → Mm [50] [30] σ τ → TXm U τ → nme v e U = nmb T v → WM M_Mo_tellsNumber 18 [(0, vR 35), (1, vI v), (2, vI (pw e))] [] τ (QV K) := by
    intro e
    induction e with
    | zero =>
      intro U τ h1 h2 h3 h4
      apply l_Mo_tellsNumber_2
      refine ⟨fun _ => hK τ h2 (by rw [← h4]; exact h3), fun h => absurd (Int.le_refl 0) h⟩
    | succ e ih =>
      intro U τ h1 h2 h3 h4
      have hp : (0 : Int) < 10 ^ e := Int.pow_pos (by decide)
      have hpe : pw (e + 1) = 10 ^ e := rfl
      have hd := pw_div e
      apply l_Mo_tellsNumber_2
      rw [hd]
      have hq := Int.ediv_nonneg hv0 (show (0 : Int) ≤ 10 ^ e by omega)
      rw [hpe]
      refine ⟨fun h => by omega, fun _ => ⟨hv0, hp, hq, by omega, ?_⟩⟩
      exact s_tells h3 (by omega) (fun σ' s1 s2 => ⟨by omega, ih _ σ' (by show U.1 + 1 + (e : Int) ≤ 60; omega) (h2.tr s1) s2 h4⟩)
  have go : ∀ e : Nat, dgs v = e → e ≤ 6 → WM M_Mo_tellsNumber 18 [(0, vR 35), (1, vI v), (2, vI (pw e))] [] σ (QV K) := fun e he h6 => key e T σ (by omega) Mm.rf hT (by unfold nmb; rw [he])
  have k6 : ¬ v < 100000 → WM M_Mo_tellsNumber 2 [(0, vR 35), (1, vI v), (2, vI 100000)] [] σ (QV K) := fun h => by
    apply l_Mo_tellsNumber_1
    exact ⟨hv0, by omega, fun _ => go 6 (by unfold dgs; repeat rw [if_neg (by omega)]) (by omega), fun h => by omega⟩
  have k5 : ¬ v < 10000 → WM M_Mo_tellsNumber 2 [(0, vR 35), (1, vI v), (2, vI 10000)] [] σ (QV K) := fun h => by
    apply l_Mo_tellsNumber_1
    exact ⟨hv0, by omega, fun h2 => go 5 (by unfold dgs; repeat (first | rw [if_neg (by omega)] | rw [if_pos (by omega)])) (by omega), fun h2 => ⟨by omega, k6 (by omega)⟩⟩
  have k4 : ¬ v < 1000 → WM M_Mo_tellsNumber 2 [(0, vR 35), (1, vI v), (2, vI 1000)] [] σ (QV K) := fun h => by
    apply l_Mo_tellsNumber_1
    exact ⟨hv0, by omega, fun h2 => go 4 (by unfold dgs; repeat (first | rw [if_neg (by omega)] | rw [if_pos (by omega)])) (by omega), fun h2 => ⟨by omega, k5 (by omega)⟩⟩
  have k3 : ¬ v < 100 → WM M_Mo_tellsNumber 2 [(0, vR 35), (1, vI v), (2, vI 100)] [] σ (QV K) := fun h => by
    apply l_Mo_tellsNumber_1
    exact ⟨hv0, by omega, fun h2 => go 3 (by unfold dgs; repeat (first | rw [if_neg (by omega)] | rw [if_pos (by omega)])) (by omega), fun h2 => ⟨by omega, k4 (by omega)⟩⟩
  have k2 : ¬ v < 10 → WM M_Mo_tellsNumber 2 [(0, vR 35), (1, vI v), (2, vI 10)] [] σ (QV K) := fun h => by
    apply l_Mo_tellsNumber_1
    exact ⟨hv0, by omega, fun h2 => go 2 (by unfold dgs; repeat (first | rw [if_neg (by omega)] | rw [if_pos (by omega)])) (by omega), fun h2 => ⟨by omega, k3 (by omega)⟩⟩
  have k1 : True → WM M_Mo_tellsNumber 2 [(0, vR 35), (1, vI v), (2, vI 1)] [] σ (QV K) := fun h => by
    apply l_Mo_tellsNumber_1
    exact ⟨hv0, by omega, fun h2 => go 1 (by unfold dgs; repeat (first | rw [if_neg (by omega)] | rw [if_pos (by omega)])) (by omega), fun h2 => ⟨by omega, k2 (by omega)⟩⟩
  exact k1 trivial
