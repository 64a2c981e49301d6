-- what is projected, bounds, taints, judgement: the class's answers beside the books
section MK
variable {G : Gq} {w0 w w' u v : Wd} {A A' : St} {B : Bks} {S T : List Nat} {a r n mc ms q x h row N y : Nat} {m k i j R sg t e : Int} {f g : Int → Nat} {σ : St}
theorem q_proj_in {w9 : Int} (hR : A 0 2 ≠ 0) (h0 : 0 ≤ w9) (h1 : w9 ≤ 4) : q_projected A w9 = if w9 = 0 then pn A (A 0 2) 1 (hmq A) else if w9 = 1 then pn A (A 0 2) (-1) (hmq A) else if w9 = 2 then kn A 1 else if w9 = 3 then kn A (-1) else pn A (A 0 2) 1 (hmq A) + kn A 1 - pn A (A 0 2) (-1) (hmq A) - kn A (-1) := by
  unfold q_projected
  rw [if_neg (by omega)]
theorem q_bound_in {w9 : Int} (hR : A 0 2 ≠ 0) (h0 : 0 ≤ w9) (h1 : w9 ≤ 4) : q_bound A w9 = if w9 = 4 then A 6 0 - LI A (A 0 2) (hmq A) (A 6 1) 1 else prt A 1 w9 := by
  unfold q_bound
  rw [if_neg (by omega)]
theorem q_below_in {w9 : Int} (hR : A 0 2 ≠ 0) (h0 : 0 ≤ w9) (h1 : w9 ≤ 3) : q_below A w9 = prt A (-1) w9 := by
  unfold q_below
  rw [if_neg (by omega)]
theorem q_taint_in {w9 : Int} (h0 : 0 ≤ k) (h1 : k < rm (wT A 1) (hmq A)) : q_taint A k w9 = if w9 = 0 then rf (wT A 1) (hmq A) k else if w9 = 1 then ta A (hI A (rf (wT A 1) (hmq A) k)) else if w9 = 2 then ri A 1 (hmq A) (hmq A) (A 6 1) k else -2 := by
  unfold q_taint
  rw [if_neg (by omega)]
theorem q_lack_all : q_list A 1 (-1) = cI (lackp A (A 0 2)) (A 0 0) := by
  unfold q_list kI
  rw [if_neg (by omega), if_pos rfl]
  rfl
theorem y_makes {K : Int → Wd → Prop} (hB : BK G w A B) (hA : OKA A) (hO : OV w A B row N) (hN : N ≤ 43200) (hL : HL G w A h r n m (A 0 2) g) (hj : ∀ t t', 0 ≤ t → t < t' → t' < hb A (A 0 2) → g t ≠ g t') (hCR : CR A (wS w)) (hF : FC (wS w)) (hc : 650 ≤ mc) (hs : 7300 ≤ ms) (hK : ∀ w', CL G w w' A → K 1 w') : DI G M_Cl_makes [vR 0, vA (bD B), vA h] w mc ms K := by
  have h02 := hA.2.2.1
  have hhb := hb_in hA h02.1 (Int.le_refl _)
  have hr := tm_r hA
  have hd0 := hB.1.1.1
  refine e_Cl_makes (bD B) h ⟨hB.1.1.is, bS B, hB.1.2.2.1, hB.2.2.1.1.is, v_Al_size hB.2.2.1 ⟨hL.1.1.is, v_Al_size hL.1 (c_lacking hCR hF hA (fun σ1 c1 f1 _ => ?_))⟩⟩
  have l1 : CL G w (uS w σ1) A := (CL.rf hCR hF).cls c1 f1
  refine ⟨fun hR => ?_, fun hR => ?_⟩
  · have hR0 : 0 < A 0 2 := by omega
    have o1 : (1 : Int) = 1 ∨ (1 : Int) = -1 := Or.inl rfl
    have o2 : (-1 : Int) = 1 ∨ (-1 : Int) = -1 := Or.inr rfl
    have hkn := kn_in2 hA o1
    have hkm := kn_in2 hA o2
    have hp1 := pn_in hA (R := A 0 2) o1 hhb.1 (Int.le_refl _)
    have hp2 := pn_in hA (R := A 0 2) o2 hhb.1 (Int.le_refl _)
    have hLI := LI_in hA o1 h02.1 (Int.le_refl _) (n := hb A (A 0 2)) (by omega) hr.1 hr.2
    refine ⟨1, 4, by omega, by omega, y_projected (l1.bk hB) hA (l1.hl hL) hR0 (Int.le_refl _) o1 (Nat.le_refl _) (Nat.le_refl _) (fun w2 g2 => ?_)⟩
    have l2 := l1.law g2
    refine ⟨1, 4, by omega, by omega, y_projected (l2.bk hB) hA (l2.hl hL) hR0 (Int.le_refl _) o2 (Nat.le_refl _) (Nat.le_refl _) (fun w3 g3 => ?_)⟩
    have l3 := l2.law g3
    refine ⟨1, 4, by omega, by omega, y_known (l3.bk hB) hA o1 (Nat.le_refl _) (Nat.le_refl _) (fun w4 g4 => ?_)⟩
    have l4 := l3.law g4
    refine ⟨1, 4, by omega, by omega, y_known (l4.bk hB) hA o2 (Nat.le_refl _) (Nat.le_refl _) (fun w5 g5 => ?_)⟩
    have l5 := l4.law g5
    refine ⟨300, 2500, by omega, by omega, y_bound (l5.bk hB) hA (l5.ov hd0 hO) hN o1 hR0 (Int.le_refl _) (Nat.le_refl _) (Nat.le_refl _) (fun w6 g6 => ?_)⟩
    have l6 := l5.law g6
    clear l1 l2 l3 l4 l5 g2 g3 g4 g5 g6
    have pe := fun (w9 : Int) (a : 0 ≤ w9) (b : w9 ≤ 4) => q_proj_in (A := A) hR a b
    have be := fun (w9 : Int) (a : 0 ≤ w9) (b : w9 ≤ 4) => q_bound_in (A := A) hR a b
    have we := fun (w9 : Int) (a : 0 ≤ w9) (b : w9 ≤ 3) => q_below_in (A := A) hR a b
    have p5 : q_projected A 5 = -10000000 := by unfold q_projected; rw [if_pos (by omega)]
    have b5 : q_bound A 5 = -10000000 := by unfold q_bound; rw [if_pos (by omega)]
    have b4 : q_below A 4 = -10000000 := by unfold q_below; rw [if_pos (by omega)]
    refine c_projected l6.2.2.1 l6.2.2.2 hA (fun σ7 c7 f7 _ => ⟨fun hne => absurd ((pe 0 (by omega) (by omega)).trans rfl) hne, fun _ => ?_⟩)
    refine c_projected c7 f7 hA (fun σ8 c8 f8 _ => ⟨fun hne => absurd ((pe 1 (by omega) (by omega)).trans rfl) hne, fun _ => ?_⟩)
    refine c_projected c8 f8 hA (fun σ9 c9 f9 _ => ⟨fun hne => absurd ((pe 2 (by omega) (by omega)).trans rfl) hne, fun _ => ?_⟩)
    refine c_projected c9 f9 hA (fun σ10 c10 f10 _ => ⟨fun hne => absurd ((pe 3 (by omega) (by omega)).trans rfl) hne, fun _ => ?_⟩)
    refine c_projected c10 f10 hA (fun σ11 c11 f11 _ => ⟨inR_of (by omega) (by omega), inR_of (by omega) (by omega), inR_of (by omega) (by omega), fun hne => absurd ((pe 4 (by omega) (by omega)).trans rfl) hne, fun _ => ?_⟩)
    refine c_projected c11 f11 hA (fun σ12 c12 f12 _ => ⟨fun _ => ?_, fun hne => absurd p5 hne⟩)
    refine c_bound c12 f12 hA (fun σ13 c13 f13 _ => ?_)
    have l13 : CL G w (uS w6 σ13) A := l6.cls c13 f13
    refine ⟨1, 4, by omega, by omega, y_basic (l13.bk hB) hA (l13.ov hd0 hO) hN (by omega) (Nat.le_refl _) (Nat.le_refl _) (fun w14 g14 => ?_)⟩
    have l14 := l13.law g14
    refine ⟨fun hne => absurd ((be 0 (by omega) (by omega)).trans rfl) hne, fun _ => c_bound l14.2.2.1 l14.2.2.2 hA (fun σ15 c15 f15 _ => ?_)⟩
    have l15 : CL G w (uS w14 σ15) A := l14.cls c15 f15
    refine ⟨12, 729, by omega, by omega, y_rises (l15.bk hB) hA (l15.ov hd0 hO) hN (l15.hl hL) o1 h02.1 (Int.le_refl _) (by omega) (Nat.le_refl _) (Nat.le_refl _) (fun w16 g16 => ?_)⟩
    have l16 := l15.law g16
    refine ⟨fun hne => absurd ((be 1 (by omega) (by omega)).trans rfl) hne, fun _ => c_bound l16.2.2.1 l16.2.2.2 hA (fun σ17 c17 f17 _ => ⟨fun hne => absurd ((be 2 (by omega) (by omega)).trans rfl) hne, fun _ => ?_⟩)⟩
    refine c_bound c17 f17 hA (fun σ18 c18 f18 _ => ⟨fun hne => absurd ((be 3 (by omega) (by omega)).trans rfl) hne, fun _ => ?_⟩)
    refine c_bound c18 f18 hA (fun σ19 c19 f19 _ => ?_)
    have l19 : CL G w (uS w16 σ19) A := l16.cls c19 f19
    have hb19 := l19.bk hB
    have ht0 : wI w16 (bT B) 0 = A 6 0 := hb19.2.2.2.1.2 0 (by omega) (by omega)
    have h60 := hA.2.2.2.2.2.1
    refine ⟨bT B, hb19.1.2.2.2.1, 5, hb19.2.2.2.1.1.is, by omega, ?_⟩
    rw [ht0]
    refine ⟨inR_of (by omega) (by omega), fun hne => absurd ((be 4 (by omega) (by omega)).trans rfl) hne, fun _ => ?_⟩
    refine c_bound c19 f19 hA (fun σ20 c20 f20 _ => ⟨fun _ => ?_, fun hne => absurd b5 hne⟩)
    refine c_below c20 f20 hA (fun σ21 c21 f21 _ => ?_)
    have l21 : CL G w (uS w16 σ21) A := l16.cls c21 f21
    refine ⟨1, 4, by omega, by omega, y_basic (l21.bk hB) hA (l21.ov hd0 hO) hN (by omega) (Nat.le_refl _) (Nat.le_refl _) (fun w22 g22 => ?_)⟩
    have l22 := l21.law g22
    refine ⟨fun hne => absurd ((we 0 (by omega) (by omega)).trans rfl) hne, fun _ => c_below l22.2.2.1 l22.2.2.2 hA (fun σ23 c23 f23 _ => ?_)⟩
    have l23 : CL G w (uS w22 σ23) A := l22.cls c23 f23
    refine ⟨12, 729, by omega, by omega, y_rises (l23.bk hB) hA (l23.ov hd0 hO) hN (l23.hl hL) o2 h02.1 (Int.le_refl _) (by omega) (Nat.le_refl _) (Nat.le_refl _) (fun w24 g24 => ?_)⟩
    have l24 := l23.law g24
    refine ⟨fun hne => absurd ((we 1 (by omega) (by omega)).trans rfl) hne, fun _ => c_below l24.2.2.1 l24.2.2.2 hA (fun σ25 c25 f25 _ => ⟨fun hne => absurd ((we 2 (by omega) (by omega)).trans rfl) hne, fun _ => ?_⟩)⟩
    refine c_below c25 f25 hA (fun σ26 c26 f26 _ => ?_)
    have l26 : CL G w (uS w24 σ26) A := l24.cls c26 f26
    refine ⟨300, 2500, by omega, by omega, y_bound (l26.bk hB) hA (l26.ov hd0 hO) hN o2 hR0 (Int.le_refl _) (Nat.le_refl _) (Nat.le_refl _) (fun w27 g27 => ?_)⟩
    have l27 := l26.law g27
    refine ⟨fun hne => absurd ((we 3 (by omega) (by omega)).trans rfl) hne, fun _ => c_below l27.2.2.1 l27.2.2.2 hA (fun σ28 c28 f28 _ => ⟨fun _ => ?_, fun hne => absurd b4 hne⟩)⟩
    have l28 : CL G w (uS w27 σ28) A := l27.cls c28 f28
    refine ⟨11, 725, by omega, by omega, y_ranked (l28.bk hB) hA (l28.hl hL) o1 h02.1 (Int.le_refl _) (Nat.le_refl _) (Nat.le_refl _) (fun q w29 r1 n1 g29 hQ => ?_)⟩
    have l29 := l28.law g29
    refine ⟨1, 4, by omega, by omega, y_ownersC (l29.bk hB) hA.1 (l29.ov hd0 hO) (by omega) (Nat.le_refl _) (Nat.le_refl _) (fun w30 g30 => ?_)⟩
    have l30 := l29.law g30
    have o30 := l30.ov hd0 hO
    have hQ30 := hQ.kp g30.1 List.not_mem_nil List.not_mem_nil
    refine ⟨row, rfl, N, o30.2.2.1.is, inR_of (by omega) (by omega), ?_⟩
    rw [o30.2.2.2.1, q_lack_all]
    have hrk := rk_in (w := wT A 1) (hb A (A 0 2)) hhb.1
    have qe := fun (k w9 : Int) (a : 0 ≤ k) (b : k < rm (wT A 1) (hb A (A 0 2))) => q_taint_in (A := A) (w9 := w9) a b
    have loop : ∀ k : Int, 0 ≤ k → k ≤ rm (wT A 1) (hb A (A 0 2)) → ∀ (u : Wd) (rc0 rs0 : Nat), CL G w30 u A → WD G M_Cl_makes 355 [(0, vR 0), (1, vA (bD B)), (2, vA h), (4, vI (hb A (A 0 2))), (5, vI (cI (lackp A (A 0 2)) (A 0 0))), (10, vI (LI A (A 0 2) (hb A (A 0 2)) (A 6 1) 1)), (11, vP (some q)), (12, vI (Mq A (A 0 1))), (13, vI k)] [] u rc0 rs0 (yI K) := by
      have tol : ∀ u, CL G w30 u A → CL G w u A := fun u hl => ⟨l30.1.tr (hl.1.us (σ := wS w)), l30.2.1.tr hl.2.1, hl.2.2⟩
      have hqu : ∀ u, CL G w30 u A → AL G u q r1 n1 (rm (wT A 1) (hb A (A 0 2))) (rm (wT A 1) (hb A (A 0 2))) (fun j => g (rf (wT A 1) (hb A (A 0 2)) j)) := fun u hl => by
        have := hQ30.kp hl.1 List.not_mem_nil List.not_mem_nil
        exact this
      refine up_ind (fun u rc0 rs0 hl => ?_) (fun k k0 k1 ih u rc0 rs0 hl => ?_)
      · have hq := hqu u hl
        have lw := tol u hl
        have hbu := lw.bk hB
        refine l_Cl_makes_1 _ _ _ _ _ _ _ _ ⟨q, rfl, hq.1.is, v_Al_size hq ⟨fun _ => v_Al_size hq (c_taint hl.2.2.1 hl.2.2.2 hA (fun σ1 d1 e1 _ => ⟨fun hne => ?_, fun _ => c_judged d1 e1 hA (fun σ2 d2 e2 _ => ?_)⟩)), fun hh => absurd (Int.le_refl _) hh⟩⟩
        · exfalso; apply hne; unfold q_taint hmq; rw [if_pos (by omega)]
        · have lw2 : CL G w (uS u σ2) A := lw.cls d2 e2
          have ht0 : wI u (bT B) 0 = A 6 0 := hbu.2.2.2.1.2 0 (by omega) (by omega)
          have ej : q_judged A = if 0 < cI (lackp A (A 0 2)) (A 0 0) then 1 else if ACC A (A 0 2) (hmq A) (A 6 1) then 2 else 3 := by unfold q_judged; rw [if_neg hR]
          have ea : ACC A (A 0 2) (hmq A) (A 6 1) = decide (LI A (A 0 2) (hb A (A 0 2)) (A 6 1) 1 ≤ A 6 0) := rfl
          rw [ea] at ej
          refine ⟨fun hlk => ⟨hbu.1.1.is, bT B, hbu.1.2.2.2.1, 5, hbu.2.2.2.1.1.is, by omega, fun hlt => ⟨fun hne => ?_, fun _ => hK _ lw2⟩, fun hge => ⟨fun hne => ?_, fun _ => hK _ lw2⟩⟩, fun hlk => ⟨fun hne => ?_, fun _ => hK _ lw2⟩⟩
          all_goals try rw [ht0] at hlt
          all_goals try rw [ht0] at hge
          · exfalso; apply hne; rw [ej, if_neg (by omega), if_neg (by simp; omega)]
          · exfalso; apply hne; rw [ej, if_neg (by omega), if_pos (by simp; omega)]
          · exfalso; apply hne; rw [ej, if_pos (by omega)]
      · have hq := hqu u hl
        have lw := tol u hl
        have hw := hrk.2.2 k k0 k1
        have hin := hI_in hA hw.1 (by omega : rf (wT A 1) (hb A (A 0 2)) k < hb A (A 0 2))
        have hta := ta_in hA.1 hin.1 hin.2.1
        have hk240 : rm (wT A 1) (hb A (A 0 2)) ≤ 240 := by omega
        have nx : ∀ σ9, CR A σ9 → FC σ9 → WD G M_Cl_makes 355 [(0, vR 0), (1, vA (bD B)), (2, vA h), (4, vI (hb A (A 0 2))), (5, vI (cI (lackp A (A 0 2)) (A 0 0))), (10, vI (LI A (A 0 2) (hb A (A 0 2)) (A 6 1) 1)), (11, vP (some q)), (12, vI (Mq A (A 0 1))), (13, vI (k + 1))] [] (uS u σ9) rc0 rs0 (yI K) := fun σ9 d9 e9 => ih _ _ _ (hl.cls d9 e9)
        refine l_Cl_makes_1 _ _ _ _ _ _ _ _ ⟨q, rfl, hq.1.is, v_Al_size hq ⟨fun hh => by omega, fun _ => c_taint hl.2.2.1 hl.2.2.2 hA (fun σ1 d1 e1 _ => ?_)⟩⟩
        have k1' := hl.cls d1 e1
        have lw1 := tol _ k1'
        have hh1 := lw1.hl hL
        have ht1 := hh1.2 _ hw.1 hw.2.1
        refine v_Al_get (hqu _ k1') k0 k1 ⟨_, rfl, hh1.1.1.is, v_Al_indexOfHit hh1.1 ht1.1 ?_⟩
        have efi : fI (fun j => decide (g j = g (rf (wT A 1) (hb A (A 0 2)) k))) (hb A (A 0 2)) = rf (wT A 1) (hb A (A 0 2)) k := fI_eq hw.1 hw.2.1 (by simp) (fun j a b => by simpa using hj j _ a b hw.2.1)
        rw [efi]
        refine ⟨fun hne => absurd ((qe k 0 k0 k1).trans rfl) hne, fun _ => c_taint d1 e1 hA (fun σ2 d2 e2 _ => ?_)⟩
        have k2 := hl.cls d2 e2
        have lw2 := tol _ k2
        have hb2 := lw2.bk hB
        have hh2 := lw2.hl hL
        have ht2 := hh2.2 _ hw.1 hw.2.1
        have him := hb2.2.2.2.2.1 _ hin.1 hin.2.1
        refine ⟨hb2.1.1.is, v_Al_get (hqu _ k2) k0 k1 ⟨_, rfl, ht2.1.is, bI B, hb2.1.2.1, hb2.2.1.1.is, ?_⟩⟩
        have hti : wI (uS (uS u σ1) σ2) (g (rf (wT A 1) (hb A (A 0 2)) k)) 0 = hI A (rf (wT A 1) (hb A (A 0 2)) k) := ht2.2.1
        rw [hti]
        refine v_Al_get hb2.2.1 hin.1 hin.2.1 ⟨_, rfl, him.1.is, v_It_taint him hA.1 hin.1 hin.2.1 ⟨fun hne => absurd ((qe k 1 k0 k1).trans rfl) hne, fun _ => ⟨fun _ => ⟨inR_of (by omega) (by omega), nx _ d2 e2⟩, fun _ => c_taint d2 e2 hA (fun σ3 d3 e3 _ => ⟨inR_of (by omega) (by omega), ?_⟩)⟩⟩⟩
        have k3 := hl.cls d3 e3
        have lw3 := tol _ k3
        exact y_rise (lw3.bk hB) hA o1 h02.1 (Int.le_refl _) (by omega) (lw3.hl hL) (hqu _ k3) k0 k1 ⟨fun _ => nx _ d3 e3, fun hne => absurd ((qe k 2 k0 k1).trans rfl) hne⟩
    exact loop 0 (Int.le_refl _) hrk.1 w30 _ _ (CL.rf l30.2.2.1 l30.2.2.2)
  · have p0 : q_projected A 0 = -10000000 := by unfold q_projected; rw [if_pos (Or.inl hR)]
    have b3 : q_bound A 3 = -10000000 := by unfold q_bound; rw [if_pos (by omega)]
    have e3 : q_below A 3 = -10000000 := by unfold q_below; rw [if_pos (by omega)]
    have hh0 : hb A (A 0 2) = 0 := by rw [hR]; rfl
    have t0 : q_taint A 0 0 = -2 := by unfold q_taint hmq; rw [hh0, rm_0, if_pos (by omega)]
    have j0 : q_judged A = 0 := by unfold q_judged; rw [if_pos hR]
    refine c_projected c1 f1 hA (fun σ2 c2 f2 _ => ⟨fun hne => absurd p0 hne, fun _ => ?_⟩)
    refine c_bound c2 f2 hA (fun σ3 c3 f3 _ => ⟨fun hne => absurd b3 hne, fun _ => ?_⟩)
    refine c_below c3 f3 hA (fun σ4 c4 f4 _ => ⟨fun hne => absurd e3 hne, fun _ => ?_⟩)
    refine c_taint c4 f4 hA (fun σ5 c5 f5 _ => ⟨fun hne => absurd t0 hne, fun _ => ?_⟩)
    exact c_judged c5 f5 hA (fun σ6 c6 f6 _ => ⟨fun hne => absurd j0 hne, fun _ => hK _ (l1.cls c6 f6)⟩)
end MK
