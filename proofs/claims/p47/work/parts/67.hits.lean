-- the hits of the first runs, one by one
/-- rows as they grow: from a row of n places on, how many more rows of how many places until 244 -/
def chL : List (Nat × Nat × Nat) := [(0, 9, 718), (10, 8, 708), (15, 7, 693), (22, 6, 671), (33, 5, 638), (49, 4, 589), (73, 3, 516), (109, 2, 407), (163, 1, 244), (244, 0, 0)]
def chq (n c s : Nat) : Prop := (n, c, s) ∈ chL
theorem chL_n : ∀ q ∈ chL, q.1 < 240 → (ncap q.1, q.2.1 - 1, q.2.2 - ncap q.1) ∈ chL ∧ 1 ≤ q.2.1 ∧ ncap q.1 ≤ q.2.2 := by decide
theorem chL_m : ∀ q ∈ chL, q.1 ≤ 244 := by decide
theorem chq_n {n c s : Nat} (h : chq n c s) (hn : n < 240) : chq (ncap n) (c - 1) (s - ncap n) ∧ 1 ≤ c ∧ ncap n ≤ s := chL_n _ h hn
theorem chq_m {n c s : Nat} (h : chq n c s) : n ≤ 244 := chL_m _ h
section HI
variable {G : Gq} {w w' u v : Wd} {A : St} {B : Bks} {S T : List Nat} {a r n mc ms q x h row : Nat} {m k i j R : Int} {f g : Int → Nat}
/-- another list's cell written -/
theorem BK.kl (h : BK G w A B) (hk : Kg G [q] w w') (hq : wK w q = kO 14) (h1 : q ≠ bI B) (h2 : q ≠ bS B) : BK G w' A B := by
  obtain ⟨a1, a2, a3, ⟨a4, a5⟩, a6, a7⟩ := h
  have ne : ∀ (y : Nat) (kk : Kd), wK w y = kk → kk ≠ kO 14 → y ∉ [q] := fun y kk e1 e2 hm => by
    rw [List.mem_singleton] at hm
    subst hm
    exact e2 (e1.symm.trans hq)
  have s : ∀ y, q ≠ y → y ∉ [q] := fun y e hm => e (List.mem_singleton.mp hm).symm
  exact ⟨a1.kp hk.1 (ne _ _ a1.1.2 (by simp)), a2.kq hk.1 (s _ h1) (fun h => ne _ _ h.2 (by simp)), a3.kq hk.1 (s _ h2) (fun h => ne _ _ h.2 (by simp)), ⟨a4.kp hk.1, fun j x y => (hk.1.I a4.1 (ne _ _ a4.2 (by simp))).trans (a5 j x y)⟩, fun j x y => (a6 j x y).kp hk.1 (ne _ _ (a6 j x y).1.2 (by simp)), fun j x y => (a7 j x y).kg hk (ne _ _ (a7 j x y).1.2 (by simp))⟩
theorem nh_lt {s : Int} (hv : 0 < A 0 1) (hj : 0 ≤ j) : s + j * A 0 1 ≤ Mq A (A 0 1) ↔ j < nh A (A 0 1) s := by
  unfold nh
  by_cases h : A 0 1 = 0 ∨ Mq A (A 0 1) < s
  · rw [if_pos h]
    have := Int.mul_nonneg hj (by omega : 0 ≤ A 0 1)
    omega
  · rw [if_neg h]
    have e : j < (Mq A (A 0 1) - s) / A 0 1 + 1 ↔ j ≤ (Mq A (A 0 1) - s) / A 0 1 := by omega
    rw [e, Int.le_ediv_iff_mul_le hv]
    omega
/-- hits so far: k of them, in a list at q that is new since w -/
def HV (w u : Wd) (G : Gq) (A : St) (q r n c s : Nat) (k : Int) (g : Int → Nat) : Prop := Kp [q] w u ∧ AL G u q r n k k g ∧ (∀ t, 0 ≤ t → t < k → HT u A (g t) t) ∧ (∀ t t', 0 ≤ t → t < t' → t' < k → g t ≠ g t') ∧ (n = 0 ∨ r ∉ wL w) ∧ chq n c s
theorem y_hitsL {K : Option Nat → Wd → Prop} (hB : BK G w A B) (hA : OKA A) (hx : XOK G w) (hC : CT w A row n) (hn : n ≤ 100000) (hqI : q ≠ bI B) (hqS : q ≠ bS B) (hqk : wK w q = kO 14) (hR0 : 0 ≤ R) (hR1 : R ≤ A 0 2)
    (hK : ∀ w' r' n' g, Kg G [q] w w' → HL G w' A q r' n' (hb A R) R g → (∀ t t', 0 ≤ t → t < t' → t' < hb A R → g t ≠ g t') → (n' = 0 ∨ r' ∉ wL w) → K (some q) w') :
    ∀ i : Int, 0 ≤ i → i ≤ R → ∀ (u : Wd) (r' n' c s : Nat) (g : Int → Nat) (rc0 rs0 : Nat), HV w u G A q r' n' c s (hb A i) g → c + (240 - (hb A i).toNat) ≤ rc0 → s + 3 * (240 - (hb A i).toNat) ≤ rs0 → WD G M_Bo_hits_ 16 [(0, vA (bD B)), (1, vI R), (2, vA q), (3, vP (some row)), (4, vI i)] [] u rc0 rs0 (yP K) := by
  have hd : bD B ≠ q := fun e => by
    have := hB.1.1.2
    rw [e, hqk] at this
    cases this
  have hrow : row ≠ q := fun e => by
    have := hC.1.2
    rw [e, hqk] at this
    cases this
  have bk : ∀ u, Kp [q] w u → XOK G u → BK G u A B := fun u hk hx1 => hB.kl (Kg.of hk hx hx1) hqk hqI hqS
  have hR5 := hA.2.2.1.2.1
  refine up_ind (fun u r' n' c s g rc0 rs0 hv _ _ => ?_) (fun i i0 i1 ih u r' n' c s g rc0 rs0 hv hc hs => ?_)
  · refine WD.wf (fun _ hx1 _ => ?_)
    exact l_Bo_hits__1 _ _ _ _ _ ⟨fun _ => hK u r' n' g (Kg.of hv.1 hx hx1) ⟨hv.2.1, hv.2.2.1⟩ hv.2.2.2.1 hv.2.2.2.2.1, fun h => absurd (Int.le_refl _) h⟩
  · have hst := hA.2.2.1.2.2.2 i i0 (by omega)
    have hvp : 0 < A 0 1 := hA.2.2.1.2.2.1 (by omega)
    have hnh := nh_in hA.1 (v := A 0 1) (s := A 5 i) hA.2.1.1 (by omega)
    have hbs := hb_s (A := A) i0
    have hb1 := hb_in hA (r := i + 1) (by omega) (by omega)
    have hb0 := hb_in hA i0 (by omega : i ≤ A 0 2)
    have inner : ∀ j : Int, 0 ≤ j → j ≤ nh A (A 0 1) (A 5 i) → ∀ (u : Wd) (r' n' c s : Nat) (g : Int → Nat) (rc0 rs0 : Nat), HV w u G A q r' n' c s (hb A i + j) g → c + (240 - (hb A i + j).toNat) ≤ rc0 → s + 3 * (240 - (hb A i + j).toNat) ≤ rs0 → WD G M_Bo_hits_ 39 [(0, vA (bD B)), (1, vI R), (2, vA q), (3, vP (some row)), (4, vI i), (5, vI (A 5 i + j * A 0 1))] [] u rc0 rs0 (yP K) := by
      refine up_ind (fun u r' n' c s g rc0 rs0 hv hc hs => ?_) (fun j j0 j1 ihj u r' n' c s g rc0 rs0 hv hc hs => ?_)
      · have hct := hC.kp hv.1 (by simp [hrow])
        refine l_Bo_hits__2 _ _ _ _ _ _ ⟨row, rfl, n, hct.1.is, inR_of (by omega) (by omega), fun _ => ⟨inR_of (by omega) (by omega), ?_⟩, fun h => ?_⟩
        · rw [← hbs] at hv hc hs
          exact ih u r' n' c s g rc0 rs0 hv hc hs
        · exfalso
          rw [hC.2.1] at h
          exact Int.lt_irrefl _ ((nh_lt (s := A 5 i) hvp hnh.1).mp (by omega))
      · have hct := hC.kp hv.1 (by simp [hrow])
        have hcoin := nh_coin hA.1 (v := A 0 1) hA.2.1.1 hst.1 hst.2 j0 j1
        have hM := Mq_in hA.1 (v := A 0 1)
        obtain ⟨v1, v2, v3, v4, v5, v6⟩ := id hv
        have hle := (nh_lt (A := A) (s := A 5 i) hvp j0).mpr j1
        have hn' := chq_m v6
        have hk240 : hb A i + j < 240 := by omega
        refine l_Bo_hits__2 _ _ _ _ _ _ ⟨row, rfl, n, hct.1.is, inR_of (by omega) (by omega), fun h => ?_, fun _ => ⟨by omega, by omega, fun p hp => ?_⟩⟩
        · exfalso; rw [hC.2.1] at h; omega
        have e1 : wI u row (A 5 i + j * A 0 1 - 1) = ow A (A 0 1) (A 5 i + j * A 0 1) := by
          rw [hct.2.2 hvp _ (by omega) (by rw [hC.2.1]; omega)]
          congr 1
          omega
        refine ⟨inR_of (by omega) (by omega), by omega, by rw [hC.2.1]; omega, e_Hi_init p _ _ _ ⟨Ow.nw, ?_⟩⟩
        rw [e1]
        generalize hW : uI (uI (uI (uN u p (kO 12)) p 0 (ow A (A 0 1) (A 5 i + j * A 0 1))) p 1 (A 5 i + j * A 0 1)) p 2 i = W
        have hkW : Kp [] u W := by rw [← hW]; exact (((Kp.rf.uN hp.1).uI (Or.inr hp.1)).uI (Or.inr hp.1)).uI (Or.inr hp.1)
        have hLW : AL G W q r' n' (hb A i + j) (hb A i + j) g := v2.kp hkW List.not_mem_nil List.not_mem_nil
        have hkk := hb A i + j
        have hHp : HT W A p (hb A i + j) := by
          have g1 := hC_eq hA i0 (by omega) j0 j1
          have g2 := hR_eq hA i0 (by omega) j0 j1
          refine ⟨by rw [← hW]; exact Ow.nw (w := u), ?_, ?_, ?_⟩
          · rw [← hW, wI_uI_j (by decide), wI_uI_j (by decide), wI_uI_s]; unfold hI; rw [g1]
          · rw [← hW, wI_uI_j (by decide), wI_uI_s, g1]
          · rw [← hW, wI_uI_s, g2]
        have hHT : ∀ t, 0 ≤ t → t < hb A i + j → HT W A (g t) t := fun t a b => (v3 t a b).kp hkW List.not_mem_nil
        have hpg : ∀ t, 0 ≤ t → t < hb A i + j → g t ≠ p := fun t a b e => hp.1 (e ▸ (v3 t a b).1.1)
        have fin : ∀ (w47 : Wd) (r2 n2 c2 s2 rc1 rs1 : Nat), Kp [q] w w47 → AL G w47 q r2 n2 (hb A i + j + 1) (hb A i + j + 1) (fup g (hb A i + j) p) → (∀ y, Ow W y (kO 12) → Ow w47 y (kO 12) ∧ ∀ z, wI w47 y z = wI W y z) → (n2 = 0 ∨ r2 ∉ wL w) → chq n2 c2 s2 → c2 + (240 - (hb A i + j + 1).toNat) ≤ rc1 → s2 + 3 * (240 - (hb A i + j + 1).toNat) ≤ rs1 → (Is G w47 (bD B) (kO 11)) ∧ (inR (A 5 i + j * A 0 1 + wI w47 (bD B) 3)) ∧ WD G M_Bo_hits_ 39 [(0, vA (bD B)), (1, vI R), (2, vA q), (3, vP (some row)), (4, vI i), (5, vI (A 5 i + j * A 0 1 + wI w47 (bD B) 3))] [] w47 rc1 rs1 (yP K) := by
          intro w47 r2 n2 c2 s2 rc1 rs1 hk7 hL7 hs7 hf7 hch hc7 hs8
          have hd7 := hB.1.kp hk7 (by simp [hd])
          rw [hd7.2.2.2.2.1]
          have hvin := hA.2.1.2
          refine ⟨hd7.1.is, inR_of (by omega) (by omega), ?_⟩
          have := ihj w47 r2 n2 c2 s2 (fup g (hb A i + j) p) rc1 rs1 ⟨hk7, by rw [show hb A i + (j + 1) = hb A i + j + 1 by omega]; exact hL7, fun t a b => ?_, fun t t' a b d => ?_, hf7, hch⟩ (by rw [show hb A i + (j + 1) = hb A i + j + 1 by omega]; exact hc7) (by rw [show hb A i + (j + 1) = hb A i + j + 1 by omega]; exact hs8)
          · rw [show A 5 i + j * A 0 1 + A 0 1 = A 5 i + (j + 1) * A 0 1 by rw [Int.add_mul, Int.one_mul]; omega]
            exact this
          · unfold fup
            have cp : ∀ y t, HT W A y t → HT w47 A y t := fun y t hh => ⟨(hs7 y hh.1).1, ((hs7 y hh.1).2 0).trans hh.2.1, ((hs7 y hh.1).2 1).trans hh.2.2.1, ((hs7 y hh.1).2 2).trans hh.2.2.2⟩
            by_cases ht : t = hb A i + j
            · subst ht; rw [if_pos rfl]; exact cp _ _ hHp
            · rw [if_neg ht]; exact cp _ _ (hHT t a (by omega))
          · unfold fup
            rw [if_neg (by omega : ¬ t = hb A i + j)]
            by_cases ht : t' = hb A i + j
            · rw [if_pos ht]; exact hpg t a (by omega)
            · rw [if_neg ht]; exact v4 t t' a b (by omega)
        have hel : ∀ t, 0 ≤ t → t < hb A i + j → EO G W (g t) := fun t a b => eo_12 (hHT t a b).1.is
        have nek : ∀ (S : List Nat) (w47 : Wd), Kp S W w47 → (∀ y ∈ S, wK W y ≠ kO 12) → ∀ y, Ow W y (kO 12) → Ow w47 y (kO 12) ∧ ∀ z, wI w47 y z = wI W y z := fun S w47 hk hS y hy => ⟨hy.kp hk, fun z => hk.I hy.1 (fun hm => hS y hm hy.2)⟩
        have hqW : wK W q = kO 14 := hLW.1.2
        by_cases hfull : hb A i + j = (n' : Int)
        · obtain ⟨ch1, ch2, ch3⟩ := chq_n v6 (by omega)
          refine ⟨1, ncap n', by omega, by omega, hLW.1.is, v_Al_add hLW (by omega) (by omega) (by omega) hel (eo_12 hHp.1.is) (fun _ => ⟨Nat.le_refl _, Nat.le_refl _⟩) (fun w47 r2 n2 _ hL7 _ hg7 => ?_)⟩
          obtain ⟨d1, d2, d3⟩ := hg7 hfull
          subst d2
          refine fin w47 r2 (ncap n') (c - 1) (s - ncap n') _ _ ((v1.tr (hkW.sub (by simp))).tr d3) hL7 (nek _ _ d3 (fun y hy => by rw [List.mem_singleton] at hy; rw [hy, hqW]; simp)) (Or.inr (fun hm => d1.1 (hkW.2 _ (v1.2 _ hm).1).1)) ch1 (by omega) (by omega)
        · refine ⟨0, 0, Nat.zero_le _, Nat.zero_le _, hLW.1.is, v_Al_add hLW (by omega) (by omega) (by omega) hel (eo_12 hHp.1.is) (fun h => absurd h hfull) (fun w47 r2 n2 hk7 hL7 hs7 _ => ?_)⟩
          obtain ⟨d1, d2⟩ := hs7 hfull
          subst d1 d2
          have hn0 : n2 ≠ 0 := fun e => by
            have := hLW.2.2.2.2.1
            omega
          have hrw := v5.resolve_left hn0
          have hrO : Ow W r2 (kR 4 n2) := by
            rcases hLW.2.2.2.2.2.1 with ⟨_, e⟩ | e
            · exact absurd e hn0
            · exact e.1
          refine fin w47 r2 n2 c s _ _ ((v1.tr (hkW.sub (by simp))).trd hk7 (fun y hy => ?_)) hL7 (nek _ _ hk7 (fun y hy => ?_)) (Or.inr hrw) v6 (by omega) (by omega)
          · rcases List.mem_cons.mp hy with e | e
            · left; rw [e]; simp
            · right; rw [List.mem_singleton.mp e]; exact hrw
          · rcases List.mem_cons.mp hy with e | e
            · rw [e, hqW]; simp
            · rw [List.mem_singleton.mp e, hrO.2]; simp
    refine WD.wf (fun _ hx1 _ => ?_)
    have hbk := bk u hv.1 hx1
    have hbx := hbk.2.2.2.2.2 i i0 (by omega)
    refine l_Bo_hits__1 _ _ _ _ _ ⟨fun h => by omega, fun _ => ⟨hbk.1.1.is, bS B, hbk.1.2.2.1, hbk.2.2.1.1.is, v_Al_get hbk.2.2.1 i0 (by omega) ⟨bG B i, rfl, hbx.1, v_In_intValue hbx ?_⟩⟩⟩
    have := inner 0 (Int.le_refl _) hnh.1 u r' n' c s g rc0 rs0 (by rw [Int.add_zero]; exact hv) (by rw [Int.add_zero]; exact hc) (by rw [Int.add_zero]; exact hs)
    rw [Int.zero_mul, Int.add_zero] at this
    exact this
theorem v_Al_init {K : Wd → Prop} (hO : Ow w q (kO 14)) (hz : wI w q 2 = 0) (hK : ∀ w', Kp [q] w w' → AL G w' q (xa G 0) 0 0 0 (fun _ => 0) → K w') : DV G M_Al_init [vA q] w mc ms K := by
  refine e_Al_init q (e_Ak_init q (e_Ac_init q ⟨hO, hO, hK _ ((Kp.rf.uI (Or.inl (by simp))).uR (Or.inl (by simp))) ⟨hO, wR_uR_s, wI_uI_s, (wI_uI_j (by decide)).trans hz, ⟨by omega, by omega, by omega⟩, Or.inl ⟨rfl, rfl⟩, fun j a b => by omega⟩⟩))
/-- the hits, the row of owners being kept -/
theorem y_hitsC {K : Option Nat → Wd → Prop} (hB : BK G w A B) (hA : OKA A) (hO : OV w A B row n) (hn : n ≤ 100000) (hR0 : 0 ≤ R) (hR1 : R ≤ A 0 2) (hc : 251 ≤ mc) (hs : 1450 ≤ ms)
    (hK : ∀ q w' r' n' g, Kg G [] w w' → q ∉ wL w → HL G w' A q r' n' (hb A R) R g → (∀ t t', 0 ≤ t → t < t' → t' < hb A R → g t ≠ g t') → K (some q) w') : DP G M_Bo_hits_ [vA (bD B), vI R] w mc ms K := by
  refine DC.wf fun hσ hx => ?_
  refine e_Bo_hits_ (bD B) R ⟨by omega, by omega, fun q hq => DV.gx (v_Al_init Ow.nw wI_uN_s (fun w5 hk5 hL5 _ hx5 _ => ?_))⟩
  have hk : Kp [] w w5 := (Kp.rf.uN hq.1).trd hk5 (fun y hy => Or.inr (by rw [List.mem_singleton.mp hy]; exact hq.1))
  have hg := Kg.of hk hx hx5
  have hb5 := hB.k0 hg
  have ho5 := hO.k0 hB.1.1.1 hg
  refine ⟨1, 4, by omega, by omega, hb5.1.1.is, y_ownersC hb5 hA.1 ho5 hn (Nat.le_refl _) (Nat.le_refl _) (fun w6 hg6 => ?_)⟩
  refine WD.wf (fun _ hx6 _ => ?_)
  have hb6 := hb5.k0 hg6
  have ho6 := ho5.k0 hb5.1.1.1 hg6
  have hL6 : AL G w6 q (xa G 0) 0 0 0 (fun _ => 0) := hL5.kp hg6.1 List.not_mem_nil List.not_mem_nil
  have hk6 : Kg G [] w w6 := hg.tr hg6
  refine y_hitsL (q := q) hb6 hA hx6 ho6.2.2 hn (fun e => hq.1 (e ▸ hB.2.1.1.1)) (fun e => hq.1 (e ▸ hB.2.2.1.1.1)) hL6.1.2 hR0 hR1 (fun w' r' n' g hg' hH hj hf => ?_) 0 (Int.le_refl _) hR0 w6 (xa G 0) 0 9 718 (fun _ => 0) _ _ ⟨Kp.rf, hL6, fun t a b => ?_, fun t t' a b d => ?_, Or.inl rfl, by unfold chq chL; simp⟩ ?_ ?_
  · exact hK q w' r' n' g ⟨hk6.1.trd hg'.1 (fun y hy => Or.inr (by rw [List.mem_singleton.mp hy]; exact hq.1)), hk6.2.tr hg'.2⟩ hq.1 hH hj
  · have : hb A 0 = 0 := rfl
    omega
  · have : hb A 0 = 0 := rfl
    omega
  · have : hb A 0 = 0 := rfl
    rw [this]; omega
  · have : hb A 0 = 0 := rfl
    rw [this]; omega
/-- the hits, the row of owners perhaps made anew -/
theorem y_hitsN {K : Option Nat → Wd → Prop} (hB : BK G w A B) (hA : OKA A) (hS : SB A) (hC : CC w A B) (hR0 : 0 ≤ R) (hR1 : R ≤ A 0 2) (hc : 252 ≤ mc) (hs : 44746 ≤ ms)
    (hK : ∀ q w' r' n' g row n, Kg G [bD B] w w' → BK G w' A B → OV w' A B row n → n ≤ 43200 → q ∉ wL w → HL G w' A q r' n' (hb A R) R g → (∀ t t', 0 ≤ t → t < t' → t' < hb A R → g t ≠ g t') → (row ∉ wL w ∨ wR w (bD B) 5 = some row) → K (some q) w') : DP G M_Bo_hits_ [vA (bD B), vI R] w mc ms K := by
  refine DC.wf fun hσ hx => ?_
  refine e_Bo_hits_ (bD B) R ⟨by omega, by omega, fun q hq => DV.gx (v_Al_init Ow.nw wI_uN_s (fun w5 hk5 hL5 _ hx5 _ => ?_))⟩
  have hk : Kp [] w w5 := (Kp.rf.uN hq.1).trd hk5 (fun y hy => Or.inr (by rw [List.mem_singleton.mp hy]; exact hq.1))
  have hg := Kg.of hk hx hx5
  have hb5 := hB.k0 hg
  have hc5 := hC.k0 hB.1.1.1 hg
  have hqd : q ≠ bD B := fun e => hq.1 (e ▸ hB.1.1.1)
  refine ⟨2, 43300, by omega, by omega, hb5.1.1.is, y_owners hb5 hA.1 hS hc5 (Nat.le_refl _) (Nat.le_refl _) (fun row n w6 hg6 hb6 ho6 hn6 hro => ?_)⟩
  refine WD.wf (fun _ hx6 _ => ?_)
  have hL6 : AL G w6 q (xa G 0) 0 0 0 (fun _ => 0) := hL5.kq hg6.1 (by simp [hqd]) (fun h => by
    intro hm
    rw [List.mem_singleton] at hm
    have h2 := h.2
    rw [hm, hb5.1.1.2] at h2
    cases h2)
  have hk6 : Kg G [bD B] w w6 := hg.nil.tr hg6
  refine y_hitsL (q := q) hb6 hA hx6 ho6.2.2 (by omega) (fun e => hq.1 (e ▸ hB.2.1.1.1)) (fun e => hq.1 (e ▸ hB.2.2.1.1.1)) hL6.1.2 hR0 hR1 (fun w' r' n' g hg' hH hj hf => ?_) 0 (Int.le_refl _) hR0 w6 (xa G 0) 0 9 718 (fun _ => 0) _ _ ⟨Kp.rf, hL6, fun t a b => ?_, fun t t' a b d => ?_, Or.inl rfl, by unfold chq chL; simp⟩ ?_ ?_
  · have hb' := hb6.kl hg' hL6.1.2 (fun e => hq.1 (e ▸ hB.2.1.1.1)) (fun e => hq.1 (e ▸ hB.2.2.1.1.1))
    have hdq : bD B ∉ [q] := by simp [hqd.symm]
    have hrq : row ∉ [q] := fun hm => by
      rw [List.mem_singleton] at hm
      have h2 := ho6.2.2.1.2
      rw [hm, hL6.1.2] at h2
      cases h2
    exact hK q w' r' n' g row n ⟨hk6.1.trd hg'.1 (fun y hy => Or.inr (by rw [List.mem_singleton.mp hy]; exact hq.1)), hk6.2.tr hg'.2⟩ hb' ⟨(hg'.1.R hb6.1.1.1 hdq).trans ho6.1, (hg'.1.J hb6.1.1.1 hdq).trans ho6.2.1, ho6.2.2.kp hg'.1 hrq⟩ hn6 hq.1 hH hj (hro.imp (fun h => hk.up h) (fun h => (hk.R hB.1.1.1 List.not_mem_nil).symm.trans h))
  · have : hb A 0 = 0 := rfl
    omega
  · have : hb A 0 = 0 := rfl
    omega
  · have : hb A 0 = 0 := rfl
    rw [this]; omega
  · have : hb A 0 = 0 := rfl
    rw [this]; omega
end HI
