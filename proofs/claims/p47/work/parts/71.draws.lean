-- a start is drawn
section DR
variable {G : Gq} {w w' u v : Wd} {A A' : St} {B : Bks} {S T : List Nat} {a r n mc ms q x h row N : Nat} {m k i j R sg t e : Int} {f g : Int → Nat}
/-- the books' own cell written, what it tells with it -/
theorem BK.kdA (h : BK G w A B) (hk : Kg G [bD B] w w') (hd : BKd w' A' B) (e0 : A' 0 0 = A 0 0) (e2 : A' 0 2 = A 0 2) (ec : ∀ c, c ≠ 0 → ∀ j, A' c j = A c j) : BK G w' A' B := by
  obtain ⟨h1, h2, h3, ⟨h4, h5⟩, h6, h7⟩ := h
  have ne : ∀ (y : Nat) (kk : Kd), wK w y = kk → kk ≠ kO 11 → y ∉ [bD B] := fun y kk e1 e2 hm => by
    rw [List.mem_singleton] at hm
    subst hm
    exact e2 (e1.symm.trans h1.1.2)
  refine ⟨hd, ?_, ?_, ⟨h4.kp hk.1, fun j a b => (hk.1.I h4.1 (ne _ _ h4.2 (by simp))).trans ((h5 j a b).trans (ec 6 (by decide) j).symm)⟩, fun j a b => ?_, fun j a b => ?_⟩
  · rw [e0]; exact h2.kq hk.1 (ne _ _ h2.1.2 (by simp)) (fun h => ne _ _ h.2 (by simp))
  · rw [e2]; exact h3.kq hk.1 (ne _ _ h3.1.2 (by simp)) (fun h => ne _ _ h.2 (by simp))
  · have hi := (h6 j a (by rw [e0] at b; exact b)).kp hk.1 (ne _ _ (h6 j a (by rw [e0] at b; exact b)).1.2 (by simp))
    exact ⟨hi.1, hi.2.1.trans (ec 1 (by decide) j).symm, hi.2.2.1.trans (ec 2 (by decide) j).symm, hi.2.2.2.1.trans (ec 3 (by decide) j).symm, hi.2.2.2.2.trans (ec 4 (by decide) j).symm⟩
  · rw [ec 5 (by decide) j]
    exact (h7 j a (by rw [e2] at b; exact b)).kg hk (ne _ _ (h7 j a (by rw [e2] at b; exact b)).1.2 (by simp))
/-- the starts' list, one more -/
def bAdd (B : Bks) (r n : Nat) (m : Int) (f : Int → Nat) : Bks := (B.1, (bS B, r, n, m, f), B.2.2)
/-- the two lists' rows are apart -/
def SPB (B : Bks) : Prop := bI B ≠ bS B ∧ (bIn B = 0 ∨ bSn B = 0 ∨ bIr B ≠ bSr B)
theorem aS_0 {v : Int} (h : j ≠ 2) : addS A v 0 j = A 0 j := by unfold addS; rw [ups_f h, ups_c (by decide)]
theorem aS_2 {v : Int} : addS A v 0 2 = A 0 2 + 1 := by unfold addS; rw [ups_s]
theorem aS_5 {v : Int} : addS A v 5 j = if j = A 0 2 then v else A 5 j := by
  unfold addS
  rw [ups_c (by decide)]
  by_cases h : j = A 0 2
  · rw [if_pos h, h, ups_s]
  · rw [if_neg h, ups_f h]
theorem aS_c {v : Int} {c : Nat} (h0 : c ≠ 0) (h5 : c ≠ 5) : addS A v c j = A c j := by unfold addS; rw [ups_c h0, ups_c h5]
theorem BK.st {v : Int} (h : BK G w A B) (hk : Kg G S w w') (hSk : ∀ y ∈ S, wK w y = kO 14 ∨ ∃ n, wK w y = kR 4 n) (hI : bI B ∉ S) (hIr : 0 < bIn B → Ow w (bIr B) (kR 4 (bIn B)) → bIr B ∉ S) (hL : AL G w' (bS B) r n m (A 0 2 + 1) (fup (bG B) (A 0 2) x)) (hb : BX G w' x v) : BK G w' (addS A v) (bAdd B r n m (fup (bG B) (A 0 2) x)) := by
  obtain ⟨h1, h2, h3, ⟨h4, h5⟩, h6, h7⟩ := h
  have ne : ∀ (y : Nat) (kk : Kd), wK w y = kk → kk ≠ kO 14 → (∀ n, kk ≠ kR 4 n) → y ∉ S := fun y kk e1 e2 e3 hm => by
    rcases hSk y hm with e | ⟨n, e⟩
    · exact e2 (e1.symm.trans e)
    · exact e3 n (e1.symm.trans e)
  have hd := h1.kp hk.1 (ne _ _ h1.1.2 (by simp) (by simp))
  refine ⟨⟨hd.1, hd.2.1, hd.2.2.1, hd.2.2.2.1, hd.2.2.2.2.1.trans (aS_0 (by decide)).symm, hd.2.2.2.2.2.trans (aS_0 (by decide)).symm⟩, ?_, ?_, ⟨h4.kp hk.1, fun j a b => (hk.1.I h4.1 (ne _ _ h4.2 (by simp) (by simp))).trans ((h5 j a b).trans (aS_c (by decide) (by decide)).symm)⟩, fun j a b => ?_, fun j a b => ?_⟩
  · rw [aS_0 (by decide)]; exact h2.kr hk.1 hI hIr
  · rw [aS_2]; exact hL
  · rw [aS_0 (by decide)] at b
    have hi := (h6 j a b).kp hk.1 (ne _ _ (h6 j a b).1.2 (by simp) (by simp))
    exact ⟨hi.1, hi.2.1.trans (aS_c (by decide) (by decide)).symm, hi.2.2.1.trans (aS_c (by decide) (by decide)).symm, hi.2.2.2.1.trans (aS_c (by decide) (by decide)).symm, hi.2.2.2.2.trans (aS_c (by decide) (by decide)).symm⟩
  · rw [aS_2] at b
    rw [aS_5]
    show BX G w' (fup (bG B) (A 0 2) x j) _
    unfold fup
    by_cases hj : j = A 0 2
    · rw [if_pos hj, if_pos hj]; exact hb
    · rw [if_neg hj, if_neg hj]
      have hx7 := h7 j a (by omega)
      exact hx7.kg hk (ne _ _ hx7.1.2 (by simp) (by simp))
theorem y_contains {K : Int → Wd → Prop} {v : Int} (hB : BK G w A B) (hb : BX G w x v) (hK : K (bi (isS A v)) w) : DI G M_Al_contains [vA (bS B), vA x] w mc ms K :=
  v_Al_containsI hB.2.2.1 hb.1 hb.2 (g := fun j => A 5 j) (fun j a b => hB.2.2.2.2.2 j a b) hK
theorem y_box {K : Option Nat → Wd → Prop} {v : Int} (hB : BK G w A B) (hK : ∀ x w', Kg G [] w w' → BK G w' A B → BX G w' x v → K (some x) w') : DP G M_In_valueOf [vI v] w 1 1 K :=
  DP.gx (v_In_valueOf (Nat.le_refl _) (Nat.le_refl _) (Or.inr trivial) (fun x w' hk hx _ _ hg => hK x w' ⟨hk, hg⟩ (hB.k0 ⟨hk, hg⟩) hx))
/-- what the books keep of owners is as it was -/
def KE (w u : Wd) (d : Nat) : Prop := wR u d 5 = wR w d 5 ∧ wJ u d 6 = wJ w d 6
theorem KE.rf {d : Nat} : KE w w d := ⟨rfl, rfl⟩
theorem KE.kp {d : Nat} (h : KE w u d) (hk : Kp S u v) (hd : d ∈ wL u) (hn : d ∉ S) : KE w v d := ⟨(hk.R hd hn).trans h.1, (hk.J hd hn).trans h.2⟩
theorem KE.tr {d : Nat} (h : KE w u d) (h2 : KE u v d) : KE w v d := ⟨h2.1.trans h.1, h2.2.trans h.2⟩
/-- a start boxed and kept -/
theorem y_keep {K : Int → Wd → Prop} {v : Int} (hB : BK G w A B) (hsp : SPB B) (hb : BX G w x v) (hm0 : 0 ≤ bSm B) (hm1 : bSm B ≤ 1000000) (hn : bSn B ≤ 20) (h5 : A 0 2 ≤ 4) (hc : 1 ≤ mc) (hs : 12 ≤ ms)
    (hK : ∀ w' r n f, Kg G [bS B, bSr B] w w' → BK G w' (addS A v) (bAdd B r n (bSm B + 1) f) → SPB (bAdd B r n (bSm B + 1) f) → n ≤ 20 → KE w w' (bD B) → K 1 w') : DI G M_Al_add_9ea2d [vA (bS B), vA x] w mc ms K := by
  refine DC.wf fun hσ hx => ?_
  obtain ⟨h1, h2, h3, ⟨h4, h4'⟩, h6, h7⟩ := id hB
  have hk02 := h3.2.2.2.2.1
  refine DI.gx (v_Al_add h3 hm0 hm1 (by omega) (fun j a b => eo_16 (h7 j a b).1) (eo_16 hb.1) (fun he => ⟨hc, ?_⟩) (fun w' r' n' hk hL hs7 hg7 _ hx' hg => ?_))
  · have : ncap (bSn B) ≤ 12 := by
      unfold ncap
      split <;> omega
    omega
  · have hxr : Is G w (bSr B) (kR 4 (bSn B)) := h3.isr hx
    by_cases he : A 0 2 = (bSn B : Int)
    · obtain ⟨d1, d2, d3⟩ := hg7 he
      have hcap : ncap (bSn B) ≤ 20 := by
        unfold ncap
        split <;> omega
      have hgg : Kg G [bS B] w w' := ⟨d3, hg⟩
      have hbx : BX G w' x v := hb.kg hgg (fun hm => by
        rw [List.mem_singleton] at hm
        have := hb.1.2
        rw [hm, h3.1.2] at this
        cases this)
      refine hK w' r' n' _ ⟨hk, hg⟩ (hB.st hgg (fun y hy => ?_) ?_ (fun _ ho => ?_) hL hbx) ⟨hsp.1, ?_⟩ (by omega) ?_
      · rw [List.mem_singleton.mp hy]; exact Or.inl h3.1.2
      · simp [hsp.1]
      · simp; exact Ow.kne ho h3.1 (by simp)
      · by_cases hz : bIn B = 0
        · exact Or.inl hz
        · right; right
          intro e
          rcases h2.2.2.2.2.2.1 with ⟨_, z⟩ | z
          · exact hz z
          · have e : bIr B = r' := e
            exact d1.1 (by rw [← e]; exact z.1.1)
      · refine KE.rf.kp hgg.1 h1.1.1 (fun hm => ?_)
        have h9 := h1.1.2
        rw [List.mem_singleton.mp hm, h3.1.2] at h9
        cases h9
    · obtain ⟨d1, d2⟩ := hs7 he
      subst d1 d2
      have hn0 : 0 < bSn B := by omega
      have hgg : Kg G [bS B, bSr B] w w' := ⟨hk, hg⟩
      have hbx : BX G w' x v := hb.kg hgg (fun hm => by
        have h9 := hb.1.2
        rcases List.mem_cons.mp hm with e | e
        · rw [e, h3.1.2] at h9; cases h9
        · rw [List.mem_singleton.mp e, hxr.2] at h9; cases h9)
      refine hK w' _ _ _ hgg (hB.st hgg (fun y hy => ?_) ?_ (fun h0 ho => ?_) hL hbx) ⟨hsp.1, hsp.2⟩ hn ?_
      · rcases List.mem_cons.mp hy with e | e
        · rw [e]; exact Or.inl h3.1.2
        · rw [List.mem_singleton.mp e]; exact Or.inr ⟨_, hxr.2⟩
      · intro hm
        rcases List.mem_cons.mp hm with e | e
        · exact hsp.1 e
        · have h9 := h2.1.2
          rw [List.mem_singleton.mp e, hxr.2] at h9
          cases h9
      · intro hm
        rcases List.mem_cons.mp hm with e | e
        · have h9 := ho.2
          rw [e, h3.1.2] at h9
          cases h9
        · rcases hsp.2 with z | z | z
          · omega
          · omega
          · exact z (List.mem_singleton.mp e)
      · refine KE.rf.kp hgg.1 h1.1.1 (fun hm => ?_)
        have h9 := h1.1.2
        rcases List.mem_cons.mp hm with e | e
        · rw [e, h3.1.2] at h9; cases h9
        · rw [List.mem_singleton.mp e, hxr.2] at h9; cases h9
/-- the first start that is free -/
theorem y_lowest {K : Int → Wd → Prop} (hB : BK G w A B) (hsp : SPB B) (h02 : 0 ≤ A 0 2) (hR : A 0 2 ≤ 4) (hm0 : 0 ≤ bSm B) (hm1 : bSm B ≤ 1000000) (hn : bSn B ≤ 20)
    (hK : ∀ w' r n f, (∀ S z, Kp S z w → bS B ∈ S → bSr B ∈ S → Kp S z w') → Gw G w w' → BK G w' (addS A (lf A)) (bAdd B r n (bSm B + 1) f) → SPB (bAdd B r n (bSm B + 1) f) → n ≤ 20 → KE w w' (bD B) → K (lf A) w') {rc0 rs0 : Nat} (hc : 12 ≤ rc0) (hs : 24 ≤ rs0) : WD G M_Bo_draws 84 [(0, vA (bD B)), (1, vI 1)] [] w rc0 rs0 (yI K) := by
  have hlf := lf_spec h02 (by omega)
  have key : ∀ i : Int, 0 ≤ i → i ≤ lf A - 1 → ∀ (u : Wd) (rc0 rs0 : Nat), Kg G [] w u → 12 - i.toNat ≤ rc0 → 24 - i.toNat ≤ rs0 → WD G M_Bo_draws 84 [(0, vA (bD B)), (1, vI (i + 1))] [] u rc0 rs0 (yI K) := by
    refine up_ind (fun u rc0 rs0 hg hc hs => ?_) (fun i i0 i1 ih u rc0 rs0 hg hc hs => ?_)
    · have hb := hB.k0 hg
      rw [show lf A - 1 + 1 = lf A by omega]
      refine l_Bo_draws_2 _ _ ⟨hb.1.1.is, 1, 1, by omega, by omega, y_box hb (fun x u2 hg2 hb2 hx2 => ⟨bS B, hb.1.2.2.1, x, rfl, hb2.2.2.1.1.is, y_contains hb2 hx2 ?_⟩)⟩
      rw [hlf.2.2.1]
      refine ⟨fun _ => ⟨1, 1, by omega, by omega, y_box hb2 (fun x3 u3 hg3 hb3 hx3 => ⟨bS B, hb2.1.2.2.1, x3, rfl, 1, 12, by omega, by omega, hb3.2.2.1.1.is, y_keep hb3 hsp hx3 hm0 hm1 hn hR (Nat.le_refl _) (Nat.le_refl _) (fun w' r n f hg4 hb4 hs4 hn4 hE4 => ?_)⟩)⟩, fun h => absurd rfl h⟩
      have hgA := (hg.tr hg2).tr hg3
      exact hK w' r n f (fun S z hz h1 h2 => (hz.tr hgA.1.nil).tr (hg4.1.sub (by simp [h1, h2]))) (hgA.2.tr hg4.2) hb4 hs4 hn4 ((KE.rf.kp hgA.1 hB.1.1.1 List.not_mem_nil).tr hE4)
    · have hb := hB.k0 hg
      refine l_Bo_draws_2 _ _ ⟨hb.1.1.is, 1, 1, by omega, by omega, y_box hb (fun x u2 hg2 hb2 hx2 => ⟨bS B, hb.1.2.2.1, x, rfl, hb2.2.2.1.1.is, y_contains hb2 hx2 ?_⟩)⟩
      rw [hlf.2.2.2 (i + 1) (by omega) (by omega)]
      exact ⟨fun h => absurd h (by decide), fun _ => ⟨inR_of (by omega) (by omega), ih u2 _ _ (hg.tr hg2) (by omega) (by omega)⟩⟩
  exact key 0 (Int.le_refl _) (by omega) w rc0 rs0 Kg.rf (by omega) (by omega)
theorem isS_s {s v : Int} : isS (ups A 0 3 s) v = isS A v := by
  unfold isS
  rw [ups_f (by decide)]
  rfl
theorem lf_s {s : Int} : lf (ups A 0 3 s) = lf A := by
  unfold lf
  simp only [isS_s]
theorem y_draws {K : Int → Wd → Prop} (hB : BK G w A B) (hsp : SPB B) (hA : OKA A) (hR : A 0 2 ≤ 4) (hv : 0 < A 0 1) (hm0 : 0 ≤ bSm B) (hm1 : bSm B ≤ 1000000) (hn : bSn B ≤ 20) (hc : 70 ≤ mc) (hs : 90 ≤ ms)
    (hK : ∀ w' r n f, Kg G [bD B, bS B, bSr B] w w' → BK G w' (addS (ups A 0 3 (drw A 50 (A 0 3)).2) (drw A 50 (A 0 3)).1) (bAdd B r n (bSm B + 1) f) → SPB (bAdd B r n (bSm B + 1) f) → n ≤ 20 → KE w w' (bD B) → K (drw A 50 (A 0 3)).1 w') : DI G M_Bo_draws [vA (bD B)] w mc ms K := by
  refine DC.wf fun hσ hx => ?_
  have hA01 := hA.2.1.2
  have hA03 := hA.2.2.2.1
  have hA02 := hA.2.2.1.1
  generalize hD : drw A 50 (A 0 3) = D at hK
  have key : ∀ (mm : Nat) (s x1 : Int) (u : Wd) (rc0 rs0 : Nat), mm ≤ 50 → 0 ≤ s → s ≤ 1000003 → Kp [bD B] w u → KE w u (bD B) → BKd u (ups A 0 3 s) B → ((x1 = 0 ∧ 0 < mm ∧ drw A mm s = D) ∨ (1 ≤ x1 ∧ (if isS A x1 then drw A mm s else (x1, s)) = D)) → mm + 16 ≤ rc0 → mm + 30 ≤ rs0 → WD G M_Bo_draws 4 [(0, vA (bD B)), (1, vI x1), (2, vI (50 - (mm : Int)))] [] u rc0 rs0 (yI K) := by
    intro mm
    induction mm with
    | zero =>
      intro s x1 u rc0 rs0 _ s0 s1 hk hE hd hst hc hs
      refine WD.wf (fun _ hx1 _ => ?_)
      have hg := Kg.of hk hx hx1
      have hb := hB.kdA hg hd (ups_f (by decide)) (ups_f (by decide)) (fun c hc j => ups_c hc)
      have hst := hst.resolve_left (fun h => absurd h.2.1 (by omega))
      refine l_Bo_draws_1 _ _ _ ⟨fun _ => ⟨hb.1.1.is, 1, 1, by omega, by omega, y_box hb (fun x u2 hg2 hb2 hx2 => ⟨bS B, hb.1.2.2.1, x, rfl, hb2.2.2.1.1.is, y_contains hb2 hx2 ?_⟩)⟩, fun h => absurd (by omega) h⟩
      rw [isS_s]
      cases his : isS A x1 with
      | false =>
        rw [his] at hst
        have e : D = (x1, s) := hst.2.symm.trans rfl
        refine ⟨fun _ => ⟨1, 1, by omega, by omega, y_box hb2 (fun x3 u3 hg3 hb3 hx3 => ⟨bS B, hb2.1.2.2.1, x3, rfl, 1, 12, by omega, by omega, hb3.2.2.1.1.is, y_keep hb3 hsp hx3 hm0 hm1 hn (by rw [ups_f (by decide)]; exact hR) (Nat.le_refl _) (Nat.le_refl _) (fun w' r n f hg4 hb4 hs4 hn4 hE4 => ?_)⟩)⟩, fun h => absurd rfl h⟩
        rw [e] at hK
        exact hK w' r n f ⟨((hk.sub (by simp)).tr (hg2.1.nil.tr hg3.1.nil)).tr (hg4.1.sub (by simp)), ((hg.2.tr hg2.2).tr hg3.2).tr hg4.2⟩ hb4 hs4 hn4 ((hE.kp (hg2.1.nil.tr hg3.1.nil) hd.1.1 List.not_mem_nil).tr hE4)
      | true =>
        rw [his] at hst
        have e : D = (lf A, s) := hst.2.symm.trans rfl
        refine ⟨fun h => absurd h (by decide), fun _ => y_lowest hb2 hsp (by rw [ups_f (by decide)]; exact hA02) (by rw [ups_f (by decide)]; exact hR) hm0 hm1 hn (fun w' r n f hz hg4 hb4 hs4 hn4 hE4 => ?_) (by omega) (by omega)⟩
        rw [lf_s] at hb4 ⊢
        rw [e] at hK
        exact hK w' r n f ⟨hz _ _ ((hk.sub (by simp)).tr hg2.1.nil) (by simp) (by simp), (hg.2.tr hg2.2).tr hg4⟩ hb4 hs4 hn4 ((hE.kp hg2.1 hd.1.1 List.not_mem_nil).tr hE4)
    | succ mm ih =>
      intro s x1 u rc0 rs0 hmm s0 s1 hk hE hd hst hc hs
      refine WD.wf (fun _ hx1 _ => ?_)
      have hg := Kg.of hk hx hx1
      have hb := hB.kdA hg hd (ups_f (by decide)) (ups_f (by decide)) (fun c hc j => ups_c hc)
      have hl := lcg_in s
      have hmod := Int.emod_nonneg (lcg s) (show A 0 1 ≠ 0 by omega)
      have hmod2 := Int.emod_lt_of_pos (lcg s) hv
      -- one more try
      have adv : ∀ (u2 : Wd) (rc1 rs1 : Nat), Kg G [] u u2 → drw A (mm + 1) s = D → mm + 16 ≤ rc1 → mm + 30 ≤ rs1 → (inL ((wI u2 (bD B) 4) * 1103)) ∧ (inL (((wI u2 (bD B) 4) * 1103) + 12345)) ∧ (0 ≤ (((wI u2 (bD B) 4) * 1103) + 12345)) ∧ (inR ((((wI u2 (bD B) 4) * 1103) + 12345) % 1000003)) ∧ (Ow u2 (bD B) (kO 11)) ∧ (0 ≤ ((((wI u2 (bD B) 4) * 1103) + 12345) % 1000003)) ∧ (0 < (wI u2 (bD B) 3)) ∧ (inR (1 + (((((wI u2 (bD B) 4) * 1103) + 12345) % 1000003) % (wI u2 (bD B) 3)))) ∧ (inR ((50 - ((mm + 1 : Nat) : Int)) + 1)) ∧ WD G M_Bo_draws 4 [(0, vA (bD B)), (1, vI (1 + (((((wI u2 (bD B) 4) * 1103) + 12345) % 1000003) % (wI u2 (bD B) 3)))), (2, vI ((50 - ((mm + 1 : Nat) : Int)) + 1))] [] (uI u2 (bD B) 4 ((((wI u2 (bD B) 4) * 1103) + 12345) % 1000003)) rc1 rs1 (yI K) := by
        intro u2 rc1 rs1 hg2 hdr hc1 hs1
        have hd2 := hd.kp hg2.1 List.not_mem_nil
        have e4 : wI u2 (bD B) 4 = s := hd2.2.2.2.2.2.trans ups_s
        have e3 : wI u2 (bD B) 3 = A 0 1 := hd2.2.2.2.2.1.trans (ups_f (by decide))
        rw [e4, e3]
        have el : (s * 1103 + 12345) % 1000003 = lcg s := rfl
        rw [el]
        refine ⟨by unfold inL; omega, by unfold inL; omega, by omega, inR_of (by omega) (by omega), hd2.1, hl.1, hv, inR_of (by omega) (by omega), inR_of (by omega) (by omega), ?_⟩
        rw [show (50 - ((mm + 1 : Nat) : Int)) + 1 = 50 - (mm : Int) by omega]
        refine ih (lcg s) _ _ rc1 rs1 (by omega) hl.1 (by omega) ((hk.tr hg2.1.nil).uI (Or.inl (by simp))) ⟨(hE.kp hg2.1 hd.1.1 List.not_mem_nil).1, (hE.kp hg2.1 hd.1.1 List.not_mem_nil).2⟩ ⟨hd2.1, hd2.2.1, hd2.2.2.1, hd2.2.2.2.1, ?_, ?_⟩ (Or.inr ⟨by omega, ?_⟩) hc1 hs1
        · rw [wI_uI_j (by decide), ups_f (by decide)]; exact e3
        · rw [wI_uI_s, ups_s]
        · rw [← hdr, show 1 + lcg s % A 0 1 = lcg s % A 0 1 + 1 by omega]; rfl
      refine l_Bo_draws_1 _ _ _ ⟨fun h => absurd h (by omega), fun _ => ⟨fun hz => ?_, fun hz => ⟨hb.1.1.is, 1, 1, by omega, by omega, y_box hb (fun x u2 hg2 hb2 hx2 => ⟨bS B, hb.1.2.2.1, x, rfl, hb2.2.2.1.1.is, y_contains hb2 hx2 ?_⟩)⟩⟩⟩
      · rcases hst with ⟨_, _, h3⟩ | ⟨h1, _⟩
        · exact ⟨hb.1.1.is, adv u rc0 rs0 Kg.rf h3 (by omega) (by omega)⟩
        · omega
      · have hst := hst.resolve_left (fun h => hz h.1)
        rw [isS_s]
        cases his : isS A x1 with
        | false =>
          rw [his] at hst
          have e : D = (x1, s) := hst.2.symm.trans rfl
          refine ⟨fun _ => ⟨1, 1, by omega, by omega, y_box hb2 (fun x3 u3 hg3 hb3 hx3 => ⟨bS B, hb2.1.2.2.1, x3, rfl, hb3.2.2.1.1.is, y_contains hb3 hx3 ?_⟩)⟩, fun h => absurd rfl h⟩
          rw [isS_s, his]
          refine ⟨fun _ => ⟨1, 1, by omega, by omega, y_box hb3 (fun x4 u4 hg4 hb4 hx4 => ⟨bS B, hb3.1.2.2.1, x4, rfl, 1, 12, by omega, by omega, hb4.2.2.1.1.is, y_keep hb4 hsp hx4 hm0 hm1 hn (by rw [ups_f (by decide)]; exact hR) (Nat.le_refl _) (Nat.le_refl _) (fun w' r n f hg5 hb5 hs5 hn5 hE5 => ?_)⟩)⟩, fun h => absurd rfl h⟩
          rw [e] at hK
          exact hK w' r n f ⟨((hk.sub (by simp)).tr (hg2.1.nil.tr (hg3.1.nil.tr hg4.1.nil))).tr (hg5.1.sub (by simp)), (((hg.2.tr hg2.2).tr hg3.2).tr hg4.2).tr hg5.2⟩ hb5 hs5 hn5 ((hE.kp (hg2.1.nil.tr (hg3.1.nil.tr hg4.1.nil)) hd.1.1 List.not_mem_nil).tr hE5)
        | true =>
          rw [his] at hst
          exact ⟨fun h => absurd h (by decide), fun _ => adv u2 _ _ hg2 (hst.2.symm ▸ rfl) (by omega) (by omega)⟩
  refine e_Bo_draws (bD B) ?_
  have := key 50 (A 0 3) 0 w mc ms (by omega) hA03.1 hA03.2 Kp.rf KE.rf ⟨hB.1.1, hB.1.2.1, hB.1.2.2.1, hB.1.2.2.2.1, hB.1.2.2.2.2.1.trans (ups_f (by decide)).symm, hB.1.2.2.2.2.2.trans ups_s.symm⟩ (Or.inl ⟨rfl, by omega, hD⟩) (by omega) (by omega)
  exact this
end DR
