-- an act: the other branches
theorem xk_13 : ∀ i, i < xN → xk i ≠ kO 13 := by
  have h : ∀ i, i < xN → decide (xk i = kO 13) = false := by decide +kernel
  exact fun i hi e => by
    have := h i hi
    rw [e] at this
    cases this
theorem XOK.u13 {G : Gq} {W : Wd} {a : Nat} {j v : Int} (hx : XOK G W) (hO : Ow W a (kO 13)) : XOK G (uI W a j v) := fun i hi => by
  obtain ⟨h1, h2, h3, h4⟩ := hx i hi
  have ne : xa G i ≠ a := fun e => xk_13 i hi (h1.symm.trans (by rw [e]; exact hO.2))
  exact ⟨h1, fun k => (wI_uI_a ne).trans (h2 k), h3, h4⟩
section AX
variable {G : Gq} {w W W' : Wd} {A A' T : St} {B B' : Bks} {S : List Nat} {mc ms q y z ns row N d b v cap c0 s0 rc rs x vx n L t : Nat} {i j M a vo bo k gr M' : Int} {σ : St} {fz : Int → Int} {K : Int → Wd → Prop} {xp : Option Nat}
/-- a ledger whose items are as they were, its books within bounds -/
theorem LA.cg (hA : LA A) (ok : OKA A') (h0 : A' 0 0 = A 0 0) (h4 : A' 0 4 = A 0 4) (h1 : ∀ i, 0 ≤ i → i < A 0 0 → A' 1 i = A 1 i) (h2 : ∀ i, 0 ≤ i → i < A 0 0 → A' 2 i = A 2 i) (h3 : ∀ i, 0 ≤ i → i < A 0 0 → A' 3 i ≤ 900) : LA A' := by
  refine ⟨ok, fun i a b => ?_, fun i j a b c d e1 e2 => ?_, fun i a b => ?_, h4.trans hA.2.2.2.2⟩
  · rw [h0] at b; rw [h1 i a b]; exact hA.2.1 i a b
  · rw [h0] at b d
    rw [h1 i a b, h1 j c d] at e1
    rw [h2 i a b, h2 j c d] at e2
    exact hA.2.2.1 i j a b c d e1 e2
  · rw [h0] at b; exact h3 i a b
theorem act_fin (hI : IB G W' A' B' M' y z ns fz) (hM : M' ≤ M + 100) (hL : LA A') (hcc : CC W' A' B') (hO : wR W' d 5 = some row) (hrow : row ≠ y ∧ row ≠ t) (e1 : bD B' = d) (e2 : bT B' = t) (hK : RSa G d t M y z ns fz K) (hC : CR A' σ) (hF : FC σ) : K 1 (uS W' σ) := by
  have I2 : IB G (uS W' σ) A' B' M' y z ns fz := hI
  have C2 : CC (uS W' σ) A' B' := hcc
  refine hK (uS W' σ) A' B' (I2.mono hM) hL C2 e1 e2 (fun r hr => ?_) hC hF
  have hr : wR W' d 5 = some r := hr
  rw [hO] at hr
  cases hr
  exact hrow
theorem AQ.dn (h : AQ G w W A B M y z ns fz row N) {kk : Kd} (hS : ∀ b ∈ S, ∃ kk, wK W b = kk ∧ kk ≠ kO 11) : bD B ∉ S := fun hm => by
  obtain ⟨kk, e, ne⟩ := hS _ hm
  exact ne (e.symm.trans h.1.1.1.1.2)
/-- one book posted -/
theorem y_aP (h : AQ G w W A B M y z ns fz row N) (hx : XOK G W) (hA : LA A) (hN : N ≤ 100000) (hK : RSa G (bD B) (bT B) M y z ns fz K) (i0 : 0 ≤ i) (hi : (xp = some (bF B i) ∧ i < A 0 0) ∨ (xp = none ∧ A 0 0 ≤ i)) (v0 : vo ≤ -100000 ∨ (-30 ≤ vo ∧ vo ≤ 300)) : WD G M_Cl_act 701 [(0, vR 0), (1, vA (bD B)), (5, vI i), (7, vP xp)] [vI vo] W rc rs (yI K) := by
  have bk := h.1.1
  have hd := bk.1.1
  have hR := hA.1.2.2.1
  have ref : q_post A i vo = (-10000000, A) → WD G M_Cl_act 767 [(0, vR 0), (5, vI i), (6, vI (-10000000)), (8, vI vo)] [] W rc rs (yI K) := fun e =>
    l_Cl_act_17 _ _ _ (c_post h.2.2.2.1 h.2.2.2.2 hA.1 (ec_of e (fun σ1 c1 f1 _ => ⟨fun hne => absurd rfl hne, fun _ => h.same hA hN hK c1 f1⟩)))
  rcases hi with ⟨e, hi⟩ | ⟨e, hi⟩
  · subst e
    have im := bk.2.2.2.2.1 i i0 hi
    refine l_Cl_act_16 _ _ _ _ ⟨fun e => (by cases e), fun a e => ?_⟩
    cases e
    refine ⟨fun h1 => ref (by unfold q_post; rw [if_pos (by omega)]), fun h1 => ⟨hd.is, bS B, bk.1.2.2.1, bk.2.2.1.1.is, v_Al_isEmpty bk.2.2.1 ⟨fun h5 => ref ?_, fun h5 => ⟨im.1.is, im.1, WD.wf (fun _ hx1 _ => ?_)⟩⟩⟩⟩
    · have : ¬ A 0 2 = 0 := fun e => by rw [if_pos e] at h5; cases h5
      unfold q_post
      rw [if_pos (by omega)]
    · have h02 : A 0 2 = 0 := by
        by_cases e : A 0 2 = 0
        · exact e
        · rw [if_neg e] at h5; exact absurd rfl h5
      have e : q_post A i vo = (A 3 i, ups (ups A 3 i vo) 4 i (-1)) := by unfold q_post; rw [if_neg (by omega)]
      have ok := post_ok hA.1 (i := i) (v := vo)
      rw [e] at ok
      have hk : Kp [bF B i] W (uI (uI W (bF B i) 2 vo) (bF B i) 3 (-1)) := (Kp.rf.uI (Or.inl (by simp))).uI (Or.inl (by simp))
      have hi1 : IM (uI (uI W (bF B i) 2 vo) (bF B i) 3 (-1)) (ups (ups A 3 i vo) 4 i (-1)) (bF B i) i := ⟨im.1.sI.sI, by rw [wI_uI_j (by decide), wI_uI_j (by decide), ups_c (by decide), ups_c (by decide)]; exact im.2.1, by rw [wI_uI_j (by decide), wI_uI_j (by decide), ups_c (by decide), ups_c (by decide)]; exact im.2.2.1, by rw [wI_uI_j (by decide), wI_uI_s, ups_c (by decide), ups_s], by rw [wI_uI_s, ups_s]⟩
      have hS1 : wS (uI (uI W (bF B i) 2 vo) (bF B i) 3 (-1)) = wS W := rfl
      rw [im.2.2.2.1]
      generalize uI (uI W (bF B i) 2 vo) (bF B i) 3 (-1) = W1 at hx1 hk hi1 hS1 ⊢
      have e3 : ∀ j, j ≠ i → ups (ups A 3 i vo) 4 i (-1) 3 j = A 3 j := fun j hj => by rw [ups_c (by decide), ups_f hj]
      have e3i : ups (ups A 3 i vo) 4 i (-1) 3 i = vo := by rw [ups_c (by decide), ups_s]
      refine l_Cl_act_17 _ _ _ (c_post (by rw [hS1]; exact h.2.2.2.1) (by rw [hS1]; exact h.2.2.2.2) hA.1 (ec_of e (fun σ1 c1 f1 _ => ⟨fun hne => absurd rfl hne, fun _ => ?_⟩)))
      refine y_aI h hx hx1 hN hA.1.1 hK i0 hi hk hi1 (fun c j hcj => ?_) (hA.cg ok (by rw [ups_c (by decide), ups_c (by decide)]) (by rw [ups_c (by decide), ups_c (by decide)]) (fun j _ _ => by rw [ups_c (by decide), ups_c (by decide)]) (fun j _ _ => by rw [ups_c (by decide), ups_c (by decide)]) (fun j a b => ?_)) (fun O => CC.po hA.1 O hN rfl i0 hi (by rw [ups_c (by decide), ups_c (by decide)]) (by rw [ups_c (by decide), ups_c (by decide)]) (fun j _ _ hj => e3 j hj) (by rw [e3i]; omega)) c1 f1
      · unfold ups
        rw [if_neg (by omega), if_neg (by omega)]
      · by_cases hj : j = i
        · rw [hj, e3i]; omega
        · rw [e3 j hj]; exact hA.2.2.2.1 j a b
  · subst e
    exact l_Cl_act_16 _ _ _ _ ⟨fun _ => ref (by unfold q_post; rw [if_pos (by omega)]), fun a e => (by cases e)⟩
/-- the audit's book written, or forgotten -/
theorem au_LA (hA : LA A) (ok : OKA (ups A 4 i vo)) : LA (ups A 4 i vo) := hA.cg ok (by rw [ups_c (by decide)]) (by rw [ups_c (by decide)]) (fun j _ _ => by rw [ups_c (by decide)]) (fun j _ _ => by rw [ups_c (by decide)]) (fun j a b => by rw [ups_c (by decide)]; exact hA.2.2.2.1 j a b)
theorem y_aW (h : AQ G w W A B M y z ns fz row N) (hx : XOK G W) (hx1 : XOK G (uI W (bF B i) 3 vo)) (hA : LA A) (hN : N ≤ 100000) (hK : RSa G (bD B) (bT B) M y z ns fz K) (i0 : 0 ≤ i) (i1 : i < A 0 0) (ok : OKA (ups A 4 i vo)) (hC : CR (ups A 4 i vo) σ) (hF : FC σ) : K 1 (uS (uI W (bF B i) 3 vo) σ) := by
  have im := h.1.1.2.2.2.2.1 i i0 i1
  have hk : Kp [bF B i] W (uI W (bF B i) 3 vo) := Kp.rf.uI (Or.inl (by simp))
  have hi1 : IM (uI W (bF B i) 3 vo) (ups A 4 i vo) (bF B i) i := ⟨im.1.sI, by rw [wI_uI_j (by decide), ups_c (by decide)]; exact im.2.1, by rw [wI_uI_j (by decide), ups_c (by decide)]; exact im.2.2.1, by rw [wI_uI_j (by decide), ups_c (by decide)]; exact im.2.2.2.1, by rw [wI_uI_s, ups_s]⟩
  refine y_aI h hx hx1 hN hA.1.1 hK i0 i1 hk hi1 (fun c j hcj => ?_) (au_LA hA ok) (fun O => CC.eq hA.1.1 O hN rfl (by rw [ups_c (by decide)]) (by rw [ups_c (by decide)]) (fun j _ _ => by rw [ups_c (by decide)])) hC hF
  unfold ups
  rw [if_neg (by omega)]
/-- an audit told -/
theorem y_aU (h : AQ G w W A B M y z ns fz row N) (hx : XOK G W) (hA : LA A) (hN : N ≤ 100000) (hK : RSa G (bD B) (bT B) M y z ns fz K) (i0 : 0 ≤ i) (hi : (xp = some (bF B i) ∧ i < A 0 0) ∨ (xp = none ∧ A 0 0 ≤ i)) : WD G M_Cl_act 902 [(0, vR 0), (5, vI i), (7, vP xp)] [vI vo] W rc rs (yI K) := by
  have bk := h.1.1
  have hd := bk.1.1
  have ref : ∀ due : Int, due < -1 → q_audit A i vo = (due, A) → WD G M_Cl_act 954 [(0, vR 0), (5, vI i), (7, vP xp), (8, vI vo)] [vI due] W rc rs (yI K) := fun due hdue e =>
    l_Cl_act_20 _ _ _ _ ⟨fun _ => l_Cl_act_21 _ _ _ (c_audit h.2.2.2.1 h.2.2.2.2 hA.1 (ec_of e (fun σ1 c1 f1 _ => ⟨fun hne => absurd rfl hne, fun _ => h.same hA hN hK c1 f1⟩))), fun hn => absurd hdue hn⟩
  rcases hi with ⟨e, hi⟩ | ⟨e, hi⟩
  · subst e
    have im := bk.2.2.2.2.1 i i0 hi
    have ok3 := hA.1.1.2.2 i i0 hi
    refine l_Cl_act_19 _ _ _ ⟨fun e => (by cases e), fun a e => ?_⟩
    cases e
    refine ⟨fun h1 => ref (-3) (by omega) (by unfold q_audit; rw [if_neg (by omega), if_pos (by omega)]), fun h1 => ⟨im.1.is, ?_⟩⟩
    rw [im.2.2.2.1]
    refine ⟨inR_of (by omega) (by omega), fun h2 => ⟨fun h3 => ?_, fun h3 => ref (-5) (by omega) ?_⟩, fun h2 => ref (-3) (by omega) (by unfold q_audit; rw [if_neg (by omega), if_pos (by omega)])⟩
    · have e : q_audit A i vo = (A 4 i, ups A 4 i vo) := by
        unfold q_audit
        rw [if_neg (by omega), if_neg (by omega), if_neg]
        unfold co
        rw [if_pos (by omega)]
        exact h3
      have ok := audit_ok hA.1 (i := i) (v := vo)
      rw [e] at ok
      rw [im.2.2.2.2]
      refine l_Cl_act_20 _ _ _ _ ⟨fun h4 => by omega, fun h4 => ⟨fun e => (by cases e), fun a e => ?_⟩⟩
      cases e
      exact ⟨im.1, WD.wf (fun _ hx1 _ => l_Cl_act_21 _ _ _ (c_audit (σ := wS (uI W (bF B i) 3 vo)) h.2.2.2.1 h.2.2.2.2 hA.1 (ec_of e (fun σ1 c1 f1 _ => ⟨fun hne => absurd rfl hne, fun _ => y_aW h hx hx1 hA hN hK i0 hi ok c1 f1⟩))))⟩
    · unfold q_audit
      rw [if_neg (by omega), if_neg (by omega), if_pos]
      unfold co
      rw [if_neg (by omega)]
  · subst e
    exact l_Cl_act_19 _ _ _ ⟨fun _ => ref (-2) (by omega) (by unfold q_audit; rw [if_pos (by omega)]), fun a e => (by cases e)⟩
/-- the audit's numbers drawn -/
theorem y_aD (h : AQ G w W A B M y z ns fz row N) (hx : XOK G W) (hA : LA A) (hN : N ≤ 100000) (hK : RSa G (bD B) (bT B) M y z ns fz K) (i0 : 0 ≤ i) (hi : (xp = some (bF B i) ∧ i < A 0 0) ∨ (xp = none ∧ A 0 0 ≤ i)) : WD G M_Cl_act 792 [(0, vR 0), (2, vA y), (5, vI i), (7, vP xp)] [] W rc rs (yI K) := by
  rcases hi with ⟨e, hi'⟩ | ⟨e, hi'⟩
  · have hii := hi'
    have ok3 := hA.1.1.2.2 i i0 hi'
    have im : ∀ {W1 : Wd}, AQ G w W1 A B M y z ns fz row N → IM W1 A (bF B i) i := fun h1 => h1.1.1.2.2.2.2.1 i i0 hi'
    subst e
    refine l_Cl_act_18 _ _ _ ⟨fun e => (by cases e), fun a e => ?_⟩
    cases e
    refine ⟨(im h).1.is, ?_⟩
    rw [(im h).2.2.2.1]
    refine ⟨fun h1 => az h hx (by omega) (fun v1 W1 _ _ x1 q1 => ⟨fun _ => az q1 x1 (by omega) (fun v2 W2 _ _ x2 q2 => ⟨fun _ => az q2 x2 (by omega) (fun v3 W3 _ _ x3 q3 => ⟨fun _ => ?_, fun _ => ?_⟩), fun _ => ?_⟩), fun _ => ?_⟩), fun h1 => az h hx (by omega) (fun v1 W1 a1 b1 x1 q1 => ⟨inR_of (by omega) (by omega), y_aU q1 x1 hA hN hK i0 (Or.inl ⟨rfl, hii⟩)⟩)⟩
    · rw [(im q3).2.2.2.1]
      exact ⟨by omega, inR_of (by omega) (by omega), az q3 x3 (by omega) (fun v4 W4 a4 b4 x4 q4 => ⟨inR_of (by omega) (by omega), y_aU q4 x4 hA hN hK i0 (Or.inl ⟨rfl, hii⟩)⟩)⟩
    · rw [(im q3).2.2.2.1]
      exact ⟨by omega, inR_of (by omega) (by omega), az q3 x3 (by omega) (fun v4 W4 a4 b4 x4 q4 => ⟨inR_of (by omega) (by omega), y_aU q4 x4 hA hN hK i0 (Or.inl ⟨rfl, hii⟩)⟩)⟩
    · exact y_aU q2 x2 hA hN hK i0 (Or.inl ⟨rfl, hii⟩)
    · rw [(im q1).2.2.2.1]
      exact ⟨inR_of (by omega) (by omega), inR_of (by omega) (by omega), y_aU q1 x1 hA hN hK i0 (Or.inl ⟨rfl, hii⟩)⟩
  · subst e
    exact l_Cl_act_18 _ _ _ ⟨fun _ => az h hx (by omega) (fun v1 W1 a1 b1 x1 q1 => ⟨inR_of (by omega) (by omega), y_aU q1 x1 hA hN hK i0 (Or.inr ⟨rfl, hi'⟩)⟩), fun a e => (by cases e)⟩
/-- an audit forgotten -/
theorem y_aF (h : AQ G w W A B M y z ns fz row N) (hx : XOK G W) (hA : LA A) (hN : N ≤ 100000) (hK : RSa G (bD B) (bT B) M y z ns fz K) (i0 : 0 ≤ i) (hi : (xp = some (bF B i) ∧ i < A 0 0) ∨ (xp = none ∧ A 0 0 ≤ i)) : WD G M_Cl_act 999 [(0, vR 0), (5, vI i), (7, vP xp)] [] W rc rs (yI K) := by
  rcases hi with ⟨e, hi⟩ | ⟨e, hi⟩
  · subst e
    have im := h.1.1.2.2.2.2.1 i i0 hi
    have e : q_forget A i = (A 4 i, ups A 4 i (-1)) := by unfold q_forget; rw [if_neg (by omega)]
    have ok := forget_ok hA.1 (i := i)
    rw [e] at ok
    refine l_Cl_act_22 _ _ ⟨fun e => (by cases e), fun a e => ?_⟩
    cases e
    rw [im.2.2.2.2]
    refine ⟨im.1.is, im.1, ?_⟩
    have hx1 : XOK G (uI W (bF B i) 3 (-1)) := hx.u13 im.1
    exact c_forget (σ := wS (uI W (bF B i) 3 (-1))) h.2.2.2.1 h.2.2.2.2 hA.1 (ec_of e (fun σ1 c1 f1 _ => ⟨fun hne => absurd rfl hne, fun _ => y_aW h hx hx1 hA hN hK i0 hi ok c1 f1⟩))
  · subst e
    refine l_Cl_act_22 _ _ ⟨fun _ => c_forget h.2.2.2.1 h.2.2.2.2 hA.1 (ec_of (show q_forget A i = (-2, A) by unfold q_forget; rw [if_pos (by omega)]) (fun σ1 c1 f1 _ => ⟨fun hne => absurd rfl hne, fun _ => h.same hA hN hK c1 f1⟩)), fun a e => (by cases e)⟩
end AX
