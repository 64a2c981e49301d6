-- the class's estimate
/-- what is supposed: the first R runs, their hits, n, the risk -/
def EF (R h n r : Int) (σ : St) : Prop := σ 28 3 = R ∧ σ 28 4 = h ∧ σ 28 5 = n ∧ σ 28 6 = r
/-- the other side's cells -/
abbrev mdl (c : Nat) : Prop := 35 ≤ c ∧ c < 35
def scC : List Nat := [9, 10, 11, 12, 13, 18, 19, 26, 27, 28, 29, 30, 31, 32, 33, 34, 36, 37]
theorem CR.sm {S : List Nat} {A σ σ' : St} (h : CR A σ) (hs : Sm S σ σ') (hS : ∀ x ∈ S, x ∈ scC ∨ mdl x) : CR A σ' := by
  have q : ∀ c, ¬ mdl c → c ∉ scC → ∀ j, σ' c j = σ c j := fun c h1 h2 j => hs c (fun hc => by rcases hS c hc with h | h; exact h2 h; exact h1 h) j
  obtain ⟨h1, h2, h3, h4, h5, h6⟩ := h
  refine ⟨⟨by rw [q 3 (by decide) (by decide)]; exact h1.1, fun i a b => ?_⟩, fun k a b => by rw [q 15 (by decide) (by decide)]; exact h2 k a b, ⟨?_, ?_, ?_, fun i a b => ?_, fun i a b => ?_⟩, ⟨?_, ?_, fun r a b => ?_, fun k a b => ?_⟩, ⟨?_, fun i a b => ?_⟩, ?_, ?_⟩
  · rw [q 4 (by decide) (by decide), q 5 (by decide) (by decide), q 6 (by decide) (by decide), q 7 (by decide) (by decide)]; exact h1.2 i a b
  · rw [q 16 (by decide) (by decide)]; exact h3.1
  · rw [q 16 (by decide) (by decide)]; exact h3.2.1
  · rw [q 16 (by decide) (by decide)]; exact h3.2.2.1
  · rw [q 17 (by decide) (by decide)]; exact h3.2.2.2.1 i a b
  · rw [show lc 16 = 35 from rfl, q 35 (by decide) (by decide)]; exact h3.2.2.2.2 i a b
  · rw [q 20 (by decide) (by decide)]; exact h4.1
  · rw [q 20 (by decide) (by decide)]; exact h4.2.1
  · rw [q 21 (by decide) (by decide), q 25 (by decide) (by decide)]; exact h4.2.2.1 r a b
  · rw [q 22 (by decide) (by decide), q 23 (by decide) (by decide), q 24 (by decide) (by decide)]; exact h4.2.2.2 k a b
  · rw [q 1 (by decide) (by decide)]; exact h5.1
  · rw [q 2 (by decide) (by decide)]; exact h5.2 i a b
  · rw [q 8 (by decide) (by decide)]; exact h6.1
  · rw [q 8 (by decide) (by decide)]; exact h6.2
theorem s_suppose {K : St → Prop} {A σ : St} (hC : CR A σ) (hA : OKA A) {R m r : Int} (h0 : 0 ≤ R) (h1 : R ≤ A 0 2) (hm0 : 0 ≤ m) (hm1 : m ≤ 1000) (hK : ∀ σ', Sm [28] σ σ' → EF R (hb A R) (hb A R + m) r σ' → K σ') : CV M_Es_suppose [vR 28, vI R, vI m, vI r] σ K := by
  apply e_Es_suppose
  have hC' : CR A (ups σ 28 3 R) := hC.sm (S := [28]) (Sm.rf.up (by decide)) (by decide)
  have hh := hb_in hA h0 h1
  have h5 := hA.2.2.1.2.1
  refine v_hitsOf hC'.2.2.2.1 hA h0 h1 ⟨by omega, hK _ ?_ ?_⟩
  · exact (((Sm.rf.up (by decide)).up (by decide)).up (by decide)).up (by decide)
  · simp [EF, ups]
theorem s_supposeNothing {K : St → Prop} {A σ : St} (hC : CR A σ) (hA : OKA A) (hK : ∀ σ', Sm [28] σ σ' → EF (A 0 2) (hb A (A 0 2)) (hb A (A 0 2)) (A 6 1) σ' → K σ') : CV M_Es_supposeNothing [vR 28] σ K := by
  apply e_Es_supposeNothing
  refine v_of hC.2.1 (by omega) (by omega) ?_
  rw [hC.2.2.2.1.2.1]
  refine s_suppose hC hA hA.2.2.1.1 (Int.le_refl _) (by omega) (by omega) (fun σ' h1 h2 => hK σ' h1 ?_)
  rwa [Int.add_zero] at h2
theorem v_projectionOfHit {K : Int → St → Prop} {A σ : St} (hC : CR A σ) (hA : OKA A) {R i : Int} (hE : σ 28 3 = R) (hR : R ≤ 5) (h0 : 0 ≤ i) (h1 : i < A 0 0) (hK : K (pj A R i) σ) : CI M_Es_projectionOfHit [vR 28, vI i] σ K := by
  apply e_Es_projectionOfHit
  rw [hE]
  have hp := pj_in hA (R := R) h0 h1
  have ht := ta_in hA.1 h0 h1
  have hi := hA.2.1
  unfold pj at hK hp
  refine ⟨fun h => v_taintOf hC.1 hA.1 h0 h1 ?_, fun h => ?_⟩
  · rw [hC.2.2.1.1, hE]
    rw [if_pos h] at hK hp
    have h3 : A 0 1 * ta A i ≤ A 0 1 * 10000 := mul_le_l ht.2 hi.1
    have h4 : A 0 1 * (-10000) ≤ A 0 1 * ta A i := mul_le_l ht.1 hi.1
    rw [Int.mul_comm (A 0 1) (ta A i)] at h3 h4
    exact ⟨by omega, by omega, by omega, by omega, by omega, hK⟩
  · rw [if_neg h] at hK; exact hK
theorem v_projection {K : Int → St → Prop} {A σ : St} (hC : CR A σ) (hA : OKA A) {R h n r sg : Int} (hE : EF R h n r σ) (hR : R ≤ 5) (hs : sg = 1 ∨ sg = -1) (hh0 : 0 ≤ h) (hh1 : h ≤ hb A (A 0 2)) (hK : K (pn A R sg h) σ) : CI M_Es_projection [vR 28, vI sg] σ K := by
  apply e_Es_projection
  have hh := hb_in hA hA.2.2.1.1 (Int.le_refl _)
  have h5 := hA.2.2.1.2.1
  have key : ∀ k, 0 ≤ k → k ≤ h → WM M_Es_projection 4 [(0, vR 28), (1, vI sg), (2, vI (pn A R sg k)), (3, vI k)] [] σ (QI K) := by
    refine up_ind ?_ (fun k a b ih => ?_)
    · apply l_Es_projection_1
      rw [hE.2.1]
      exact ⟨fun _ => hK, fun h => by omega⟩
    · apply l_Es_projection_1
      rw [hE.2.1]
      have hi := hI_in hA a (show k < hb A (A 0 2) by omega)
      have hp := pj_in hA (R := R) hi.1 hi.2.1
      have hp2 := sg_in hs hp.1 hp.2
      have hq := pn_in hA (R := R) hs a (show k ≤ hb A (A 0 2) by omega)
      have hm := mx_in (sg * pj A R (hI A k))
      refine ⟨fun h => by omega, fun _ => s_hasHit hC.2.2.2.1 hA (fun _ _ => ⟨fun h => by omega, fun _ => ⟨a, by omega, ?_⟩⟩) (fun h => by omega)⟩
      rw [(hC.2.2.2.1.2.2.2 k a (by omega)).1]
      refine v_projectionOfHit hC hA hE.1 hR hi.1 hi.2.1 ⟨by omega, s_max ?_⟩
      rw [show (if (0 : Int) < sg * pj A R (hI A k) then sg * pj A R (hI A k) else 0) = mx (sg * pj A R (hI A k)) from rfl]
      refine ⟨by omega, by omega, ?_⟩
      have e : pn A R sg (k + 1) = pn A R sg k + mx (sg * pj A R (hI A k)) := sI_s a
      rw [e] at ih
      exact ih
  exact key 0 (by omega) hh0
theorem v_known {K : Int → St → Prop} {A σ : St} (hC : CR A σ) (hA : OKA A) {sg : Int} (hs : sg = 1 ∨ sg = -1) (hK : K (kn A sg) σ) : CI M_Es_known [vR 28, vI sg] σ K := by
  apply e_Es_known
  have h48 := hA.1.2.1
  have key : ∀ i, 0 ≤ i → i ≤ A 0 0 → WM M_Es_known 4 [(0, vR 28), (1, vI sg), (2, vI (sI (fun i => if ce A (A 0 1) i then mx (sg * er A i) else 0) i)), (3, vI i)] [] σ (QI K) := by
    refine up_ind ?_ (fun i a b ih => ?_)
    · apply l_Es_known_1
      rw [hC.1.1]
      exact ⟨fun _ => hK, fun h => by omega⟩
    · apply l_Es_known_1
      rw [hC.1.1]
      have hq := kn_in hA hs a (show i ≤ A 0 0 by omega)
      have he := er_in hA.1 a b
      have he2 := sg_in hs he.1 he.2
      have hm := mx_in (sg * er A i)
      rw [sI_s a] at ih
      refine ⟨fun h => by omega, fun _ => v_isCertain_16 hC.1 hA.1 hC.2.2.1.1 a b ?_⟩
      cases hce : ce A (A 0 1) i with
      | true =>
        rw [hce, if_pos rfl] at ih
        refine ⟨fun h => by simp [bi] at h, fun _ => v_errorOf hC.1 hA.1 a b ⟨by omega, s_max ?_⟩⟩
        rw [show (if (0 : Int) < sg * er A i then sg * er A i else 0) = mx (sg * er A i) from rfl]
        exact ⟨by omega, by omega, ih⟩
      | false =>
        rw [hce, if_neg (by decide), Int.add_zero] at ih
        exact ⟨fun _ => ⟨by omega, ih⟩, fun h => by simp [bi] at h⟩
  exact key 0 (by omega) hA.1.1
theorem v_basic {K : Int → St → Prop} {A σ : St} (hC : CR A σ) (hA : OKA A) (hF : FC σ) {R h n r : Int} (hE : EF R h n r σ) (hn0 : 0 ≤ n) (hn1 : n ≤ 1000) (hr0 : 1 ≤ r) (hr1 : r ≤ 500) (hK : ∀ σ', Sm [26, 27] σ σ' → FC σ' → K (ba A n r) σ') : CI M_Es_basic [vR 28] σ K := by
  apply e_Es_basic
  rw [hE.2.2.1, hE.2.2.2, hC.2.2.1.2.1]
  have hb := ba_in hA (n := n) (r := r)
  refine v_upperOf hF hn0 hn1 (by omega) (by omega) hr0 hr1 (fun σ' h1 h2 => ⟨by omega, by omega, ?_, hK σ' h1 h2⟩)
  show inR (ba A n r)
  omega
/-- the hits' taints of a side, ranked -/
def RK (A : St) (sg h : Int) (σ : St) : Prop := σ 28 2 = rm (wT A sg) h ∧ ∀ j, 0 ≤ j → j < rm (wT A sg) h → σ 29 j = rf (wT A sg) h j ∧ σ 37 j = wT A sg (rf (wT A sg) h j)
theorem s_rank {K : St → Prop} {A σ : St} (hC : CR A σ) (hA : OKA A) {R h n r sg : Int} (hE : EF R h n r σ) (hs : sg = 1 ∨ sg = -1) (hh0 : 0 ≤ h) (hh1 : h ≤ hb A (A 0 2)) (hK : ∀ σ', Sm [28, 29, 37] σ σ' → EF R h n r σ' → RK A sg h σ' → K σ') : CV M_Es_rank [vR 28, vI sg] σ K := by
  apply e_Es_rank
  have hh := hb_in hA hA.2.2.1.1 (Int.le_refl _)
  have h5 := hA.2.2.1.2.1
  have key : ∀ k, 0 ≤ k → k ≤ h → ∀ τ, Sm [28, 29, 37] σ τ → EF R h n r τ → RK A sg k τ → WM M_Es_rank 7 [(0, vR 28), (1, vI sg), (2, vI k)] [] τ (QV K) := by
    refine up_ind (fun τ t1 t2 t3 => ?_) (fun k a b ih τ t1 t2 t3 => ?_)
    · apply l_Es_rank_1
      rw [t2.2.1]
      exact ⟨fun _ => hK τ t1 t2 t3, fun h => by omega⟩
    · apply l_Es_rank_1
      have hr := rk_in (w := wT A sg) k a
      have hw := wT_in hA hs a (show k < hb A (A 0 2) by omega)
      have hCt := hC.sm t1 (by decide)
      have hi := hI_in hA a (show k < hb A (A 0 2) by omega)
      rw [t2.2.1]
      refine ⟨fun h => by omega, fun _ => s_hasHit hCt.2.2.2.1 hA (fun _ _ => ⟨fun h => by omega, fun _ => ⟨fun h => by rw [t3.1] at h; omega, fun _ => ⟨a, by omega, ?_⟩⟩⟩) (fun h => by omega)⟩
      rw [(hCt.2.2.2.1.2.2.2 k a (by omega)).1]
      refine v_taintOf hCt.1 hA.1 hi.1 hi.2.1 ?_
      rw [show sg * ta A (hI A k) = wT A sg k from rfl]
      refine ⟨by omega, fun hle => ⟨by omega, ih τ t1 t2 ?_⟩, fun hgt => ?_⟩
      · obtain ⟨e1, e2⟩ := rm_no a hle
        unfold RK
        rw [e1, e2]
        exact t3
      · obtain ⟨e1, e2⟩ := rm_yes a hgt
        -- places from the top down
        have inner : ∀ q : Nat, (q : Int) ≤ rm (wT A sg) k → plc (wT A sg) (rf (wT A sg) k) k (rm (wT A sg) k).toNat = plc (wT A sg) (rf (wT A sg) k) k q → ∀ ρ, Sm [28, 29, 37] σ ρ → EF R h n r ρ → ρ 28 2 = rm (wT A sg) k → (∀ j, 0 ≤ j → j < (q : Int) → ρ 29 j = rf (wT A sg) k j ∧ ρ 37 j = wT A sg (rf (wT A sg) k j)) → (∀ j, (q : Int) < j → j ≤ rm (wT A sg) k → ρ 29 j = rf (wT A sg) k (j - 1) ∧ ρ 37 j = wT A sg (rf (wT A sg) k (j - 1))) → WM M_Es_rank 65 [(0, vR 28), (1, vI sg), (2, vI k), (3, vI (wT A sg k)), (4, vI (q : Int))] [] ρ (QV K) := by
          have fin : ∀ q : Nat, (q : Int) ≤ rm (wT A sg) k → plc (wT A sg) (rf (wT A sg) k) k (rm (wT A sg) k).toNat = q → ∀ ρ, Sm [28, 29, 37] σ ρ → EF R h n r ρ → ρ 28 2 = rm (wT A sg) k → (∀ j, 0 ≤ j → j < (q : Int) → ρ 29 j = rf (wT A sg) k j ∧ ρ 37 j = wT A sg (rf (wT A sg) k j)) → (∀ j, (q : Int) < j → j ≤ rm (wT A sg) k → ρ 29 j = rf (wT A sg) k (j - 1) ∧ ρ 37 j = wT A sg (rf (wT A sg) k (j - 1))) → WM M_Es_rank 7 [(0, vR 28), (1, vI sg), (2, vI (k + 1))] [] (ups (ups (ups ρ 29 (q : Int) k) 37 (q : Int) (wT A sg k)) 28 2 ((ρ 28 2) + 1)) (QV K) := by
            intro q hq hp ρ r1 r2 r3 r4 r5
            refine ih _ (((r1.up (by decide)).up (by decide)).up (by decide)) ?_ ⟨?_, fun j x y => ?_⟩
            · obtain ⟨y1, y2, y3, y4⟩ := r2
              simp [EF, ups, y1, y2, y3, y4]
            · rw [ups_s, e1, r3]
            · rw [ups_c (by decide), ups_c (by decide), ups_c (c := 28) (by decide), e2, hp]
              unfold insf
              rw [e1] at y
              by_cases hj : j = (q : Int)
              · subst hj; rw [ups_s, ups_s]; simp
              · rw [ups_f hj, ups_f hj, ups_c (by decide)]
                by_cases hlt : j < (q : Int)
                · rw [if_pos hlt]; exact r4 j x hlt
                · rw [if_neg hlt, if_neg hj]; exact r5 j (by omega) (by omega)
          intro q
          induction q with
          | zero =>
            intro hq hp ρ r1 r2 r3 r4 r5
            apply l_Es_rank_2
            refine ⟨fun _ => ⟨by omega, by omega, by omega, by omega, fin 0 hq hp ρ r1 r2 r3 r4 r5⟩, fun h => by omega⟩
          | succ q ihq =>
            intro hq hp ρ r1 r2 r3 r4 r5
            apply l_Es_rank_2
            have hCr := hC.sm r1 (by decide)
            have e0 : ((q + 1 : Nat) : Int) - 1 = (q : Int) := by omega
            have e00 : ((q + 1 : Nat) : Int) + (-1) = (q : Int) := by omega
            have hrq := hr.2.2 (q : Int) (by omega) (by omega)
            have hwq := wT_in hA hs (k := rf (wT A sg) k q) hrq.1 (by omega)
            have rq := r4 (q : Int) (by omega) (by omega)
            rw [e0, e00, rq.1, rq.2]
            refine ⟨fun h => by omega, fun _ => ⟨by omega, by omega, by omega, fun hge => ⟨by omega, by omega, by omega, by omega, ?_⟩, fun hlt => ⟨by omega, by omega, by omega, ?_⟩⟩⟩
            · refine fin (q + 1) hq ?_ ρ r1 r2 r3 r4 r5
              rw [hp]
              unfold plc
              rw [if_neg (by omega)]
            · refine ihq (by omega) ?_ _ ((r1.up (by decide)).up (by decide)) ?_ ?_ (fun j x y => ?_) (fun j x y => ?_)
              · rw [hp]
                conv => lhs; unfold plc
                rw [if_pos (by omega)]
              · obtain ⟨y1, y2, y3, y4⟩ := r2
                simp [EF, ups, y1, y2, y3, y4]
              · rw [ups_c (by decide), ups_c (by decide)]; exact r3
              · rw [ups_c (by decide), ups_f (by omega), ups_f (by omega), ups_c (by decide)]; exact r4 j x (by omega)
              · by_cases hj : j = ((q + 1 : Nat) : Int)
                · rw [hj, ups_c (by decide), ups_s, ups_s, e0]; exact ⟨rfl, rfl⟩
                · rw [ups_c (by decide), ups_f hj, ups_f hj, ups_c (by decide)]; exact r5 j (by omega) y
        have ht := inner (rm (wT A sg) k).toNat (by omega) rfl τ t1 t2 t3.1 (fun j x y => t3.2 j x (by omega)) (fun j x y => by omega)
        rw [Int.toNat_of_nonneg hr.1] at ht
        rw [t3.1]
        exact ht
  refine key 0 (by omega) hh0 _ (Sm.rf.up (by decide)) ?_ ⟨?_, fun j x y => ?_⟩
  · obtain ⟨y1, y2, y3, y4⟩ := hE
    simp [EF, ups, y1, y2, y3, y4]
  · rw [ups_s, rm_0]
  · rw [rm_0] at y; omega
theorem s_hasRank {K : Int → St → Prop} {A σ : St} {sg h : Int} (hR : RK A sg h σ) {x : Int} (h1 : 0 ≤ x → x < rm (wT A sg) h → K 1 σ) (h0 : (x < 0 ∨ rm (wT A sg) h ≤ x) → K 0 σ) : CI M_Es_hasRank [vR 28, vI x] σ K := by
  apply e_Es_hasRank
  rw [hR.1]
  exact ⟨fun h => h0 (by omega), fun h => ⟨fun h2 => h0 (by omega), fun h2 => h1 (by omega) (by omega)⟩⟩
theorem RK.sm {A : St} {sg h : Int} {S : List Nat} {σ σ' : St} (hR : RK A sg h σ) (hs : Sm S σ σ') (h8 : 28 ∉ S) (h9 : 29 ∉ S) (h56 : 37 ∉ S) : RK A sg h σ' := ⟨by rw [hs 28 h8]; exact hR.1, fun j a b => by rw [hs 29 h9, hs 37 h56]; exact hR.2 j a b⟩
theorem EF.sm {R h n r : Int} {S : List Nat} {σ σ' : St} (hE : EF R h n r σ) (hs : Sm S σ σ') (h8 : 28 ∉ S) : EF R h n r σ' := by
  unfold EF
  rw [hs 28 h8, hs 28 h8, hs 28 h8, hs 28 h8]
  exact hE
theorem v_rise {K : Int → St → Prop} {A σ : St} (hC : CR A σ) (hA : OKA A) (hF : FC σ) {R h n r sg k : Int} (hE : EF R h n r σ) (hR : RK A sg h σ) (hs : sg = 1 ∨ sg = -1) (hh0 : 0 ≤ h) (hh1 : h ≤ hb A (A 0 2)) (hn0 : 0 ≤ n) (hn1 : n ≤ 1000) (hr0 : 1 ≤ r) (hr1 : r ≤ 500) (hk0 : 0 ≤ k) (hk1 : k < rm (wT A sg) h) (hK : ∀ σ', Sm [26, 27] σ σ' → FC σ' → K (ri A sg h n r k) σ') : CI M_Es_rise [vR 28, vI k] σ K := by
  apply e_Es_rise
  have hh := hb_in hA hA.2.2.1.1 (Int.le_refl _)
  have h5 := hA.2.2.1.2.1
  have hr := rk_in (w := wT A sg) h hh0
  have hb := ri_in hA hs hh0 hh1 hn1 hr0 hr1 hk0 hk1
  refine s_hasRank hR (fun _ _ => ⟨fun _ => ⟨by omega, ?_⟩, fun h => by omega⟩) (fun h => by omega)
  rw [hE.2.2.1, hE.2.2.2]
  refine v_upperOf hF hn0 hn1 (by omega) (by omega) hr0 hr1 (fun σ1 s1 f1 => ?_)
  rw [s1 28 (by decide), s1 28 (by decide), hE.2.2.1, hE.2.2.2]
  refine v_upperOf f1 hn0 hn1 (by omega) (by omega) hr0 hr1 (fun σ2 s2 f2 => ?_)
  have s3 := s1.tr s2
  have hC2 := hC.sm s3 (by decide)
  have hR2 := hR.sm s3 (by decide) (by decide) (by decide)
  rw [hC2.2.2.1.2.1, (hR2.2 k hk0 hk1).2]
  have hq := hr.2.2 k hk0 hk1
  have hwq := wT_in hA hs (k := rf (wT A sg) h k) hq.1 (by omega)
  refine ⟨by omega, by omega, hk0, by omega, by omega, by omega, ?_, hK σ2 s3 f2⟩
  show inR (ri A sg h n r k)
  omega
theorem v_rises {K : Int → St → Prop} {A σ : St} (hC : CR A σ) (hA : OKA A) (hF : FC σ) {R h n r sg : Int} (hE : EF R h n r σ) (hs : sg = 1 ∨ sg = -1) (hh0 : 0 ≤ h) (hh1 : h ≤ hb A (A 0 2)) (hn0 : 0 ≤ n) (hn1 : n ≤ 1000) (hr0 : 1 ≤ r) (hr1 : r ≤ 500) (hK : ∀ σ', Sm [26, 27, 28, 29, 37] σ σ' → FC σ' → EF R h n r σ' → K (rs A sg h n r) σ') : CI M_Es_rises [vR 28, vI sg] σ K := by
  apply e_Es_rises
  refine s_rank hC hA hE hs hh0 hh1 (fun σ1 s1 e1 k1 => ?_)
  have hr := rk_in (w := wT A sg) h hh0
  have hh := hb_in hA hA.2.2.1.1 (Int.le_refl _)
  have h5 := hA.2.2.1.2.1
  have key : ∀ k, 0 ≤ k → k ≤ rm (wT A sg) h → ∀ τ, Sm [26, 27, 28, 29, 37] σ τ → FC τ → EF R h n r τ → RK A sg h τ → WM M_Es_rises 9 [(0, vR 28), (2, vI (sI (ri A sg h n r) k)), (3, vI k)] [] τ (QI K) := by
    refine up_ind (fun τ t1 t2 t3 t4 => ?_) (fun k a b ih τ t1 t2 t3 t4 => ?_)
    · apply l_Es_rises_1
      rw [t4.1]
      exact ⟨fun _ => hK τ t1 t2 t3, fun h => by omega⟩
    · apply l_Es_rises_1
      rw [t4.1]
      have hb := ri_in hA hs hh0 hh1 hn1 hr0 hr1 a b
      have hq := rs_in hA hs hh0 hh1 hn1 hr0 hr1 a (show k ≤ rm (wT A sg) h by omega)
      rw [sI_s a] at ih
      refine ⟨fun h => by omega, fun _ => v_rise (hC.sm t1 (by decide)) hA t2 t3 t4 hs hh0 hh1 hn0 hn1 hr0 hr1 a b (fun σ2 s2 f2 => ⟨by omega, by omega, ?_⟩)⟩
      exact ih σ2 (t1.tr (s2.wk (by decide))) f2 (t3.sm s2 (by decide)) (t4.sm s2 (by decide) (by decide) (by decide))
  exact key 0 (by omega) hr.1 σ1 (s1.wk (by decide)) (hF.sm s1 (by decide) (by decide)) e1 k1
theorem v_limit {K : Int → St → Prop} {A σ : St} (hC : CR A σ) (hA : OKA A) (hF : FC σ) {R n r sg : Int} (hE : EF R (hb A R) n r σ) (hs : sg = 1 ∨ sg = -1) (hR0 : 0 ≤ R) (hR1 : R ≤ A 0 2) (hn0 : 0 ≤ n) (hn1 : n ≤ 1000) (hr0 : 1 ≤ r) (hr1 : r ≤ 500) (hK : ∀ σ', Sm [26, 27, 28, 29, 37] σ σ' → FC σ' → EF R (hb A R) n r σ' → K (LI A R n r sg) σ') : CI M_Es_limit [vR 28, vI sg] σ K := by
  apply e_Es_limit
  have hh := hb_in hA hR0 hR1
  have hh2 := hb_mono hA hR0 hR1 (Int.le_refl _)
  have h5 := hA.2.2.1.2.1
  have hb := ba_in hA (n := n) (r := r)
  have hl := LI_in hA (R := R) hs hR0 hR1 hn1 hr0 hr1
  have hk1 := kn_in2 hA hs
  have hk2 := kn_in2 hA (sg_neg hs)
  refine v_basic hC hA hF hE hn0 hn1 hr0 hr1 (fun σ1 s1 f1 => ?_)
  refine v_rises (hC.sm s1 (by decide)) hA f1 (hE.sm s1 (by decide)) hs hh.1 hh2 hn0 hn1 hr0 hr1 (fun σ2 s2 f2 e2 => ⟨by omega, ?_⟩)
  have s3 : Sm [26, 27, 28, 29, 37] σ σ2 := (s1.wk (by decide)).tr s2
  have hC2 := hC.sm s3 (by decide)
  refine v_known hC2 hA hs ⟨by omega, v_of hC2.2.1 (by omega) (by omega) ?_⟩
  have hk := hK σ2 s3 f2 e2
  unfold LI at hk
  refine ⟨fun hz => ⟨by omega, v_known hC2 hA (sg_neg hs) ⟨by omega, v_projection hC2 hA e2 (by omega) (sg_neg hs) hh.1 hh2 ⟨by omega, ?_⟩⟩⟩, fun hz => ?_⟩
  · rw [if_neg hz] at hk; exact hk
  · rw [if_pos hz] at hk; exact hk
theorem v_isAccepted {K : Int → St → Prop} {A σ : St} (hC : CR A σ) (hA : OKA A) (hF : FC σ) {R n r : Int} (hE : EF R (hb A R) n r σ) (hR0 : 0 ≤ R) (hR1 : R ≤ A 0 2) (hn0 : 0 ≤ n) (hn1 : n ≤ 1000) (hr0 : 1 ≤ r) (hr1 : r ≤ 500) (hK : ∀ σ', Sm [26, 27, 28, 29, 37] σ σ' → FC σ' → EF R (hb A R) n r σ' → K (bi (ACC A R n r)) σ') : CI M_Es_isAccepted [vR 28] σ K := by
  apply e_Es_isAccepted
  refine v_limit hC hA hF hE (Or.inl rfl) hR0 hR1 hn0 hn1 hr0 hr1 (fun σ1 s1 f1 e1 => ?_)
  refine v_of (hC.sm s1 (by decide)).2.1 (by omega) (by omega) ?_
  have hk := hK σ1 s1 f1 e1
  refine ⟨fun h => ?_, fun h => ?_⟩
  · rw [bi_f (by unfold ACC; simp; omega)] at hk; exact hk
  · rw [bi_t (by unfold ACC; simp; omega)] at hk; exact hk
theorem v_partOf {K : Int → St → Prop} {A σ : St} (hC : CR A σ) (hA : OKA A) (hF : FC σ) {R n r sg w : Int} (hE : EF R (hb A R) n r σ) (hs : sg = 1 ∨ sg = -1) (hR0 : 0 ≤ R) (hR1 : R ≤ A 0 2) (hn0 : 0 ≤ n) (hn1 : n ≤ 1000) (hr0 : 1 ≤ r) (hr1 : r ≤ 500) (hK : ∀ σ', Sm [26, 27, 28, 29, 37] σ σ' → FC σ' → K (if w = 0 then ba A n r else if w = 1 then rs A sg (hb A R) n r else if w = 2 then kn A sg else LI A R n r sg) σ') : CI M_Es_partOf [vR 28, vI w, vI sg] σ K := by
  apply e_Es_partOf
  have hh := hb_in hA hR0 hR1
  have hh2 := hb_mono hA hR0 hR1 (Int.le_refl _)
  refine ⟨fun h => v_basic hC hA hF hE hn0 hn1 hr0 hr1 (fun σ1 s1 f1 => ?_), fun h => v_rises hC hA hF hE hs hh.1 hh2 hn0 hn1 hr0 hr1 (fun σ1 s1 f1 _ => ?_), fun h => v_known hC hA hs ?_, fun h => v_limit hC hA hF hE hs hR0 hR1 hn0 hn1 hr0 hr1 (fun σ1 s1 f1 _ => ?_)⟩
  · have := hK σ1 (s1.wk (by decide)) f1; rwa [if_pos h] at this
  · have := hK σ1 s1 f1; rwa [if_neg (by omega), if_pos h] at this
  · have := hK σ Sm.rf hF; rwa [if_neg (by omega), if_neg (by omega), if_pos h] at this
  · have := hK σ1 s1 f1; rwa [if_neg (by omega), if_neg (by omega), if_neg (by omega)] at this

