-- what the law looks at: the class's answers beside the books
/-- nothing that was there has changed, and the class holds the ledger -/
def CL (G : Gq) (w0 w : Wd) (A : St) : Prop := Kp [] w0 (uS w (wS w0)) ∧ Gw G w0 w ∧ CR A (wS w) ∧ FC (wS w)
section CK
variable {G : Gq} {w0 w w' u v : Wd} {A A' : St} {B : Bks} {S T : List Nat} {a r n mc ms q x h row N : Nat} {m k i j R sg t e : Int} {f g : Int → Nat} {σ : St}
theorem Kp.us (h : Kp S u w) : Kp S (uS u σ) (uS w σ) := ⟨rfl, h.2⟩
theorem CL.rf (hC : CR A (wS w)) (hF : FC (wS w)) : CL G w w A := ⟨⟨rfl, (Kp.rf (w := w)).2⟩, Gw.rf, hC, hF⟩
theorem CL.kg (h : CL G w0 w A) : Kg G [] w0 (uS w (wS w0)) := ⟨h.1, h.2.1⟩
theorem CL.law (h : CL G w0 w A) (hg : Kg G [] w w') : CL G w0 w' A := ⟨h.1.tr (hg.1.us (σ := wS w0)), h.2.1.tr hg.2, by rw [hg.1.1]; exact h.2.2.1, by rw [hg.1.1]; exact h.2.2.2⟩
theorem CL.cls (h : CL G w0 w A) (hC : CR A σ) (hF : FC σ) : CL G w0 (uS w σ) A := ⟨h.1, h.2.1, hC, hF⟩
theorem CL.bk (h : CL G w0 w A) (hB : BK G w0 A B) : BK G w A B := by
  have := hB.k0 h.kg
  exact this
theorem CL.ov (h : CL G w0 w A) (hd : bD B ∈ wL w0) (hO : OV w0 A B row N) : OV w A B row N := by
  have := hO.k0 hd h.kg
  exact this
theorem CL.hl (h : CL G w0 w A) {q : Nat} (hL : HL G w0 A q r n m R g) : HL G w A q r n m R g := by
  have := hL.k0 h.kg
  exact this
theorem Fr.up (h : CL G w0 w A) (hq : Fr G w q) : Fr G w0 q := ⟨fun hm => hq.1 (h.1.2 q hm).1, hq.2⟩
theorem CL.uN (h : CL G w0 w A) (hq : Fr G w q) {kk : Kd} : CL G w0 (uN w q kk) A := ⟨h.1.uN (w := uS w (wS w0)) hq.1, h.2.1.tr (uN_g hq), h.2.2⟩
theorem CL.uI (h : CL G w0 w A) (hq : Fr G w0 q) : CL G w0 (uI w q j i) A := ⟨Kp.uI (w := uS w (wS w0)) h.1 (Or.inr hq.1), ⟨h.2.1.1, fun i hi => ⟨(h.2.1.2 i hi).1, fun j => (wI_uI_a (fun e => hq.2 i hi e.symm)).trans ((h.2.1.2 i hi).2.1 j), (h.2.1.2 i hi).2.2⟩⟩, h.2.2⟩
/-- a kept cell of numbers of mine -/
theorem CL.ow (h : CL G w0 w A) {kk : Kd} (hO : Ow w0 q kk) : Ow w q kk := by
  have := hO.kp h.1
  exact this
theorem CL.I (h : CL G w0 w A) (hm : q ∈ wL w0) : wI w q j = wI w0 q j := h.1.I (w := uS w (wS w0)) hm List.not_mem_nil
theorem inR_s {x : Int} (h0 : -1000000000 ≤ x) (h1 : x ≤ 1000000000) : inR x := inR_of (by omega) (by omega)
theorem y_counts {K : Int → Wd → Prop} (hB : BK G w A B) (hA : OKA A) (hO : OV w A B row N) (hN : N ≤ 43200) (hL : HL G w A h r n m (A 0 2) g) (h04 : A 0 4 = 0) (hC : CR A (wS w)) (hF : FC (wS w)) (hc : 60 ≤ mc) (hs : 260 ≤ ms) (hK : ∀ w', CL G w w' A → K 1 w') : DI G M_Cl_counts [vR 0, vA (bD B), vA h] w mc ms K := by
  have hA48 := hA.1.2.1
  have hA0 := hA.1.1
  have h02 := hA.2.2.1
  have hhb := hb_in hA h02.1 (Int.le_refl _)
  have hal := al_in hA.1
  have hMq := Mq_in hA.1 (v := A 0 1)
  -- the terms
  have loop3 : ∀ i : Int, 0 ≤ i → i ≤ 5 → ∀ (u : Wd) (rc0 rs0 : Nat), CL G w u A → WD G M_Cl_counts 185 [(0, vR 0), (1, vA (bD B)), (6, vI i)] [] u rc0 rs0 (yI K) := by
    refine up_ind (fun u rc0 rs0 hl => ?_) (fun i i0 i1 ih u rc0 rs0 hl => ?_)
    · refine l_Cl_counts_3 _ _ ⟨fun _ => c_count hl.2.2.1 hl.2.2.2 hA (inR_s (by omega) (by omega)) (fun σ1 c1 f1 _ => ⟨fun h => absurd rfl h, fun _ => c_count c1 f1 hA (inR_s (by omega) (by omega)) (fun σ2 c2 f2 _ => ⟨fun h => absurd rfl h, fun _ => hK _ ((hl.cls c1 f1).cls c2 f2)⟩)⟩), fun h => absurd (by omega) h⟩
    · have hb := hl.bk hB
      refine l_Cl_counts_3 _ _ ⟨fun h => by omega, fun _ => ⟨inR_s (by omega) (by omega), c_count hl.2.2.1 hl.2.2.2 hA (inR_s (by omega) (by omega)) (fun σ1 c1 f1 _ => ⟨hb.1.1.is, bT B, hb.1.2.2.2.1, 5, hb.2.2.2.1.1.is, i0, by omega, fun _ => ⟨inR_s (by omega) (by omega), ih _ _ _ (hl.cls c1 f1)⟩, fun hne => ?_⟩)⟩⟩
      exfalso
      apply hne
      rw [hb.2.2.2.1.2 i i0 (by omega)]
      unfold q_count
      rw [if_pos (by omega), show 10 + i - 10 = i by omega]
  -- the counts
  have loop2 : ∀ i : Int, 0 ≤ i → i ≤ 10 → ∀ (u : Wd) (q : Nat) (rc0 rs0 : Nat), CL G w u A → Ow u q (kA 0 10) → (∀ j, 0 ≤ j → j < 10 → wI u q j = q_count A j) → WD G M_Cl_counts 153 [(0, vR 0), (1, vA (bD B)), (5, vA q), (6, vI i)] [] u rc0 rs0 (yI K) := by
    refine up_ind (fun u q rc0 rs0 hl hq hv => ?_) (fun i i0 i1 ih u q rc0 rs0 hl hq hv => ?_)
    · exact l_Cl_counts_2 _ _ _ ⟨fun _ => loop3 0 (by omega) (by omega) u _ _ hl, fun h => absurd (by omega) h⟩
    · refine l_Cl_counts_2 _ _ _ ⟨fun h => by omega, fun _ => c_count hl.2.2.1 hl.2.2.2 hA (inR_s (by omega) (by omega)) (fun σ1 c1 f1 _ => ⟨10, hq.is, i0, by omega, fun _ => ⟨inR_s (by omega) (by omega), ih _ q _ _ (hl.cls c1 f1) hq hv⟩, fun hne => ?_⟩)⟩
      exact absurd (hv i i0 i1).symm hne
  have loop1 : ∀ i : Int, 0 ≤ i → i ≤ A 0 0 → ∀ (u : Wd) (rc0 rs0 : Nat), CL G w u A → 10 + (48 - i.toNat) ≤ rc0 → 60 + 4 * (48 - i.toNat) ≤ rs0 → WD G M_Cl_counts 8 [(0, vR 0), (1, vA (bD B)), (2, vA h), (3, vI (cI (hitp A) i)), (4, vI (cI (audp A) i)), (5, vI i)] [] u rc0 rs0 (yI K) := by
    refine up_ind (fun u rc0 rs0 hl hc hs => ?_) (fun i i0 i1 ih u rc0 rs0 hl hc hs => ?_)
    · have hb := hl.bk hB
      refine l_Cl_counts_1 _ _ _ _ _ ⟨hb.1.1.is, bI B, hb.1.2.1, hb.2.1.1.is, v_Al_size hb.2.1 ⟨fun _ => ⟨by omega, by omega, fun q hq => ?_⟩, fun h => absurd (Int.le_refl _) h⟩⟩
      have hq0 : Fr G w q := hq.up hl
      have hl1 := hl.uN hq (kk := kA 0 10)
      have hb1 := hl1.bk hB
      refine ⟨bI B, hb.1.2.1, hb1.2.1.1.is, v_Al_size hb1.2.1 ⟨by omega, 1, 4, by omega, by omega, ?_⟩⟩
      have hl2 := hl1.uI hq0 (j := 0) (i := A 0 0)
      have hO2 : Ow (uI (uN u q (kA 0 10)) q 0 (A 0 0)) q (kA 0 10) := Ow.nw (w := u)
      have hv2 : wI (uI (uN u q (kA 0 10)) q 0 (A 0 0)) q 0 = A 0 0 := wI_uI_s
      generalize uI (uN u q (kA 0 10)) q 0 (A 0 0) = u2 at hl2 hO2 hv2
      refine v_allCoins (hl2.bk hB) hA.1 (Nat.le_refl _) (Nat.le_refl _) (fun u3 hg3 => ⟨by omega, 1, 4, by omega, by omega, ?_⟩)
      have hl3 := (hl2.law hg3).uI hq0 (j := 1) (i := al A)
      have hO3 : Ow (uI u3 q 1 (al A)) q (kA 0 10) := (hO2.kp hg3.1 : Ow u3 q (kA 0 10))
      have hv3 : ∀ j, 0 ≤ j → j < 2 → wI (uI u3 q 1 (al A)) q j = q_count A j := fun j a b => by
        by_cases hj : j = 1
        · subst hj; rw [wI_uI_s]; rfl
        · rw [wI_uI_j hj, hg3.1.I hO2.1 List.not_mem_nil, show j = 0 by omega, hv2]; rfl
      generalize uI u3 q 1 (al A) = u4 at hl3 hO3 hv3
      refine y_ownersC (hl3.bk hB) hA.1 (hl3.ov hB.1.1.1 hO) (by omega) (Nat.le_refl _) (Nat.le_refl _) (fun u5 hg5 => ?_)
      have hl5 := hl3.law hg5
      have hb5 := hl5.bk hB
      have ho5 := hl5.ov hB.1.1.1 hO
      have hO5 := hO3.kp hg5.1
      refine ⟨row, rfl, N, ho5.2.2.1.is, inR_s (by omega) (by omega), by omega, by omega, bS B, hb5.1.2.2.1, hb5.2.2.1.1.is, ?_⟩
      rw [hb5.1.2.2.2.2.1, ho5.2.2.2.1]
      have hl6 := (hl5.uI hq0 (j := 2) (i := Mq A (A 0 1))).uI hq0 (j := 3) (i := A 0 1)
      have hO6 : Ow (uI (uI u5 q 2 (Mq A (A 0 1))) q 3 (A 0 1)) q (kA 0 10) := hO5
      have hv6 : ∀ j, 0 ≤ j → j < 4 → wI (uI (uI u5 q 2 (Mq A (A 0 1))) q 3 (A 0 1)) q j = q_count A j := fun j a b => by
        by_cases h3 : j = 3
        · subst h3; rw [wI_uI_s]; rfl
        · rw [wI_uI_j h3]
          by_cases h2 : j = 2
          · subst h2; rw [wI_uI_s]; rfl
          · rw [wI_uI_j h2, hg5.1.I hO3.1 List.not_mem_nil]; exact hv3 j a (by omega)
      generalize uI (uI u5 q 2 (Mq A (A 0 1))) q 3 (A 0 1) = u6 at hl6 hO6 hv6
      have hb6 := hl6.bk hB
      refine v_Al_size hb6.2.2.1 ⟨by omega, ?_⟩
      have hl7 := hl6.uI hq0 (j := 4) (i := A 0 2)
      have hL7 := hl7.hl hL
      refine ⟨hL7.1.1.is, v_Al_size hL7.1 ⟨by omega, by omega, by omega, by omega, by omega, ?_⟩⟩
      have hb7 := hl7.bk hB
      rw [hb7.1.2.2.2.2.2]
      refine loop2 0 (by omega) (by omega) _ q _ _ (((((hl7.uI hq0).uI hq0).uI hq0).uI hq0).uI hq0) hO6 (fun j a b => ?_)
      by_cases h9 : j = 9
      · subst h9; rw [wI_uI_s]; rfl
      rw [wI_uI_j h9]
      by_cases h8 : j = 8
      · subst h8; rw [wI_uI_s]; rfl
      rw [wI_uI_j h8]
      by_cases h7 : j = 7
      · subst h7; rw [wI_uI_s]; exact h04.symm
      rw [wI_uI_j h7]
      by_cases h6 : j = 6
      · subst h6; rw [wI_uI_s]; rfl
      rw [wI_uI_j h6]
      by_cases h5 : j = 5
      · subst h5; rw [wI_uI_s]; rfl
      rw [wI_uI_j h5]
      by_cases h4 : j = 4
      · subst h4; rw [wI_uI_s]; rfl
      rw [wI_uI_j h4]
      exact hv6 j a (by omega)
    · have hb := hl.bk hB
      refine l_Cl_counts_1 _ _ _ _ _ ⟨hb.1.1.is, bI B, hb.1.2.1, hb.2.1.1.is, v_Al_size hb.2.1 ⟨fun h => by omega, fun _ => ⟨1, 4, by omega, by omega, y_oftenOf (hl.hl hL) hA hhb.1 (by omega) (Nat.le_refl _) (Nat.le_refl _) (fun u2 hg2 => ?_)⟩⟩⟩
      rw [oft_th hA i0 i1 _ h02.1 (Int.le_refl _)]
      have hl2 := hl.law hg2
      have hb2 := hl2.bk hB
      have him := hb2.2.2.2.2.1 i i0 i1
      have hit := hA.1.2.2 i i0 i1
      have c1 := cI_in (p := hitp A) i0
      have c2 := cI_in (p := audp A) i0
      have nx := ih u2 (rc0 - 1) (rs0 - 4) hl2 (by omega) (by omega)
      refine ⟨fun hz => ⟨inR_s (by omega) (by omega), bI B, hb2.1.2.1, hb2.2.1.1.is, v_Al_get hb2.2.1 i0 i1 ⟨bF B i, rfl, him.1.is, fun ha => ⟨inR_s (by omega) (by omega), inR_s (by omega) (by omega), ?_⟩, fun ha => ⟨inR_s (by omega) (by omega), inR_s (by omega) (by omega), ?_⟩⟩⟩, fun hz => ⟨inR_s (by omega) (by omega), bI B, hb2.1.2.1, hb2.2.1.1.is, v_Al_get hb2.2.1 i0 i1 ⟨bF B i, rfl, him.1.is, fun ha => ⟨inR_s (by omega) (by omega), inR_s (by omega) (by omega), ?_⟩, fun ha => ⟨inR_s (by omega) (by omega), inR_s (by omega) (by omega), ?_⟩⟩⟩⟩
      all_goals rw [him.2.2.2.2] at ha
      · rw [cI_f i0 (show hitp A i = false by unfold hitp; simp; omega), cI_t i0 (show audp A i = true by unfold audp; simp; omega)] at nx
        rw [Int.add_zero]; exact nx
      · rw [cI_f i0 (show hitp A i = false by unfold hitp; simp; omega), cI_f i0 (show audp A i = false by unfold audp; simp; omega)] at nx
        rw [Int.add_zero, Int.add_zero]; exact nx
      · rw [cI_t i0 (show hitp A i = true by unfold hitp; simp; omega), cI_t i0 (show audp A i = true by unfold audp; simp; omega)] at nx
        exact nx
      · rw [cI_t i0 (show hitp A i = true by unfold hitp; simp; omega), cI_f i0 (show audp A i = false by unfold audp; simp; omega)] at nx
        rw [Int.add_zero]; exact nx
  refine e_Cl_counts (bD B) h ?_
  have := loop1 0 (Int.le_refl _) hA0 w mc ms (CL.rf hC hF) (by omega) (by omega)
  exact this
end CK
