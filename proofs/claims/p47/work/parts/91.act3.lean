-- an act: interval, plan, clear, draw; the numbers of add and terms
theorem xk_11 : ∀ i, i < xN → xk i ≠ kO 11 := by
  have h : ∀ i, i < xN → decide (xk i = kO 11) = false := by decide +kernel
  exact fun i hi e => by
    have := h i hi
    rw [e] at this
    cases this
theorem XOK.u11 {G : Gq} {W : Wd} {a : Nat} {j v : Int} (hx : XOK G W) (hO : Ow W a (kO 11)) : XOK G (uI W a j v) := fun i hi => by
  obtain ⟨h1, h2, h3, h4⟩ := hx i hi
  have ne : xa G i ≠ a := fun e => xk_11 i hi (h1.symm.trans (by rw [e]; exact hO.2))
  exact ⟨h1, fun k => (wI_uI_a ne).trans (h2 k), h3, h4⟩
section AY
variable {G : Gq} {w W W' : Wd} {A A' T : St} {B B' : Bks} {S : List Nat} {mc ms q y z ns row N d b v cap c0 s0 rc rs x vx n L t : Nat} {i j M a vo bo k gr M' : Int} {σ : St} {fz : Int → Int} {K : Int → Wd → Prop} {xp : Option Nat}
theorem iv_LA (hA : LA A) (ok : OKA (ups A 0 1 vo)) : LA (ups A 0 1 vo) := hA.cg ok (ups_f (by decide)) (ups_f (by decide)) (fun j _ _ => ups_c (by decide)) (fun j _ _ => ups_c (by decide)) (fun j a b => by rw [ups_c (by decide)]; exact hA.2.2.2.1 j a b)
theorem AQ.row0 (h : AQ G w W A B M y z ns fz row N) : row ∉ [bD B] := fun hm => by
  have h1 := h.2.1.2.2.1.2
  rw [List.mem_singleton.mp hm, h.1.1.1.1.2] at h1
  cases h1
/-- the interval written into the books -/
theorem iv_wr (h : AQ G w W A B M y z ns fz row N) (hx : XOK G W) (hx1 : XOK G (uI W (bD B) 3 vo)) : IB G (uI W (bD B) 3 vo) (ups A 0 1 vo) B M y z ns fz ∧ OV (uI W (bD B) 3 vo) A B row N := by
  have bk := h.1.1
  have hk : Kp [bD B] W (uI W (bD B) 3 vo) := Kp.rf.uI (Or.inl (by simp))
  refine ⟨h.1.kd (Kg.of hk hx hx1) ⟨bk.1.1.sI, bk.1.2.1, bk.1.2.2.1, bk.1.2.2.2.1, by rw [wI_uI_s, ups_s], by rw [wI_uI_j (by decide), ups_f (by decide)]; exact bk.1.2.2.2.2.2⟩ (ups_f (by decide)) (ups_f (by decide)) (fun c hc j => ups_c hc), h.2.1.1, h.2.1.2.1, h.2.1.2.2.kp hk h.row0⟩
/-- an interval told -/
theorem y_aV (h : AQ G w W A B M y z ns fz row N) (hx : XOK G W) (hA : LA A) (hN : N ≤ 100000) (hK : RSa G (bD B) (bT B) M y z ns fz K) (hc : 1 ≤ rc) (hs : 4 ≤ rs) : WD G M_Cl_act 1091 [(0, vR 0), (1, vA (bD B))] [vI vo] W rc rs (yI K) := by
  have bk := h.1.1
  have hd := bk.1.1
  have hR := hA.1.2.2.1
  have ref : ∀ due : Int, q_interval A vo = (due, A) → WD G M_Cl_act 1193 [(0, vR 0), (6, vI due), (8, vI vo)] [] W rc rs (yI K) := fun due e =>
    l_Cl_act_26 _ _ (c_interval h.2.2.2.1 h.2.2.2.2 hA.1 (ec_of e (fun σ1 c1 f1 _ => ⟨fun hne => absurd rfl hne, fun _ => h.same hA hN hK c1 f1⟩)))
  refine l_Cl_act_24 _ _ ⟨fun h1 => ref (-3) (by unfold q_interval; rw [if_pos (by omega)]), fun h1 => ⟨fun h2 => ⟨hd.is, bS B, bk.1.2.2.1, bk.2.2.1.1.is, v_Al_isEmpty bk.2.2.1 ⟨fun h3 => ?_, fun h3 => ref (-5) ?_⟩⟩, fun h2 => ref (-3) (by unfold q_interval; rw [if_pos (by omega)])⟩⟩
  · have h02 : A 0 2 = 0 := by
      by_cases e : A 0 2 = 0
      · exact e
      · rw [if_neg e] at h3; exact absurd rfl h3
    have e : q_interval A vo = (cI (ce A vo) (A 0 0), ups A 0 1 vo) := by unfold q_interval; rw [if_neg (by omega), if_neg (by omega)]
    have ok := interval_ok hA.1 (v := vo)
    rw [e] at ok
    refine ⟨hd, bI B, bk.1.2.1, 1, 4, hc, hs, bk.2.1.1.sI.is, DC.wf (fun _ hx1 => ?_)⟩
    obtain ⟨I1, O1⟩ := iv_wr h hx hx1
    have hS1 : wS (uI W (bD B) 3 vo) = wS W := rfl
    generalize uI W (bD B) 3 vo = W1 at hx1 I1 O1 hS1 ⊢
    have hB := I1.1
    refine v_iterator hB.2.1 Kg.rf (Nat.le_refl _) (Nat.le_refl _) (fun q w1 hq hu _ hI' => ?_)
    have key : ∀ i : Int, 0 ≤ i → i ≤ A 0 0 → ∀ w2, Kg G [] W1 w2 → IT w2 q (bI B) (bIm B) i → WD G M_Cl_act 1149 [(0, vR 0), (1, vA (bD B)), (6, vI (cI (ce A vo) i)), (8, vI vo), (9, vP (some q))] [] w2 (rc - 1) (rs - 4) (yI K) := by
      refine up_ind (fun w2 hu hI' => ?_) (fun i h0 h3 ih w2 hu hI' => ?_)
      · have hb := hB.k0 hu
        refine l_Cl_act_25 _ _ _ _ ⟨q, rfl, hI'.1.is, v_Ai_hasNext hb.2.1 hI' (fun h => absurd h (by rw [ups_f (by decide)]; exact Int.lt_irrefl _)) (fun _ => ⟨fun _ => ?_, fun h => absurd rfl h⟩) (by rw [ups_f (by decide)]; exact Int.le_refl _)⟩
        have O2 := O1.k0 I1.1.1.1.1 hu
        refine l_Cl_act_26 _ _ (c_interval (by rw [hu.1.1, hS1]; exact h.2.2.2.1) (by rw [hu.1.1, hS1]; exact h.2.2.2.2) hA.1 (ec_of e (fun σ1 c1 f1 _ => ⟨fun hne => absurd rfl hne, fun _ => ?_⟩)))
        exact act_fin (I1.k0 hu) (by omega) (iv_LA hA ok) (CC.iv hA.1 O2 hN rfl (v := vo) (by omega) (ups_f (by decide)) ups_s (fun j _ _ => ups_c (by decide))) O2.1 h.2.2.1 rfl rfl hK c1 f1
      · have hb := hB.k0 hu
        refine l_Cl_act_25 _ _ _ _ ⟨q, rfl, hI'.1.is, v_Ai_hasNext hb.2.1 hI' (fun _ => ⟨fun h => absurd h (by decide), fun _ => ?_⟩) (fun h => by rw [ups_f (by decide)] at h; omega) (by rw [ups_f (by decide)]; omega)⟩
        refine v_next hb.2.1 hI' h0 (by rw [ups_f (by decide)]; exact h3) hu hq (fun w3 hu3 hI3 _ => ?_)
        have hb3 := hB.k0 hu3
        have him := hb3.2.2.2.2.1 i h0 (by rw [ups_f (by decide)]; exact h3)
        have hih := ih w3 hu3 hI3
        have hce : ce (ups A 0 1 vo) (ups A 0 1 vo 0 1) i = ce A vo i := by rw [ups_s]; exact ce_cg (ups_c (by decide))
        have hin := cI_in (p := ce A vo) h0
        have hA48 := hA.1.1.2.1
        refine ⟨bF B i, rfl, him.1.is, hb3.1.1.is, v_Bo_certain hb3.1 him ?_⟩
        rw [hce]
        cases hp : ce A vo i with
        | true =>
          rw [cI_t h0 hp] at hih
          exact ⟨fun h => absurd h (by decide), fun _ => ⟨inR_of (by omega) (by omega), hih⟩⟩
        | false =>
          rw [cI_f h0 hp] at hih
          refine ⟨fun _ => ⟨inR_of (by omega) (by omega), ?_⟩, fun h => absurd rfl h⟩
          rw [Int.add_zero]
          exact hih
    have := key 0 (Int.le_refl _) hA.1.1.1 w1 hu hI'
    exact this
  · have : ¬ A 0 2 = 0 := fun e => by rw [if_pos e] at h3; cases h3
    unfold q_interval
    rw [if_neg (by omega), if_pos (by omega)]
/-- the interval's number drawn -/
theorem y_aVd (h : AQ G w W A B M y z ns fz row N) (hx : XOK G W) (hA : LA A) (hN : N ≤ 100000) (hK : RSa G (bD B) (bT B) M y z ns fz K) (hc : 1 ≤ rc) (hs : 4 ≤ rs) : WD G M_Cl_act 1050 [(0, vR 0), (1, vA (bD B)), (2, vA y)] [] W rc rs (yI K) :=
  l_Cl_act_23 _ _ (az h hx (by omega) (fun v1 W1 a1 b1 x1 q1 => ⟨fun _ => az q1 x1 (by omega) (fun v2 W2 a2 b2 x2 q2 => ⟨fun _ => az q2 x2 (by omega) (fun v3 W3 a3 b3 x3 q3 => ⟨inR_of (by omega) (by omega), y_aV q3 x3 hA hN hK hc hs⟩), fun _ => az q2 x2 (by omega) (fun v3 W3 a3 b3 x3 q3 => ⟨inR_of (by omega) (by omega), y_aV q3 x3 hA hN hK hc hs⟩)⟩), fun _ => az q1 x1 (by omega) (fun v2 W2 a2 b2 x2 q2 => ⟨inR_of (by omega) (by omega), y_aV q2 x2 hA hN hK hc hs⟩)⟩))
/-- a plan -/
theorem y_aN (h : AQ G w W A B M y z ns fz row N) (hx : XOK G W) (hA : LA A) (hN : N ≤ 100000) (hK : RSa G (bD B) (bT B) M y z ns fz K) (hc : 3 ≤ rc) (hs : 12 ≤ rs) : WD G M_Cl_act 1216 [(0, vR 0), (1, vA (bD B))] [] W rc rs (yI K) := by
  have bk := h.1.1
  have hd := bk.1.1
  have hT := bk.2.2.2.1
  have h62 := hA.1.2.2.2.2.2.2.2.1
  have hR := hA.1.2.2.1
  have hal := al_in hA.1.1
  refine l_Cl_act_27 _ ⟨hd.is, bT B, bk.1.2.2.2.1, 5, hT.1.is, by omega, bT B, bk.1.2.2.2.1, 5, hT.1.is, by omega, 1, 4, by omega, by omega, ?_⟩
  rw [hT.2 0 (by omega) (by omega), hT.2 2 (by omega) (by omega)]
  refine y_size bk hA.1 h62.1 h62.2 (Nat.le_refl _) (Nat.le_refl _) (fun w1 hg1 => ?_)
  have hsz := SZ_in (al A) (A 6 0) (A 6 2) (A 6 1)
  have ok := plan_ok hA.1
  generalize hn : SZ (al A) (A 6 0) (A 6 2) (A 6 1) = n at hsz ⊢
  have hq : q_plan A = if n = -1 then (-4, A) else if al A = 0 ∨ 0 < A 0 2 then (-5, A) else (n, ups A 0 1 (if 1 < al A / n then al A / n else 1)) := by unfold q_plan; rw [hn]
  have ref : ∀ (due : Int) (W1 : Wd), q_plan A = (due, A) → AQ G w W1 A B M y z ns fz row N → CI M_Cs_plan [vR 0] (wS W1) (fun v σ => (¬ v = due → K 0 (uS W1 σ)) ∧ (v = due → K 1 (uS W1 σ))) := fun due W1 e h1 =>
    c_plan h1.2.2.2.1 h1.2.2.2.2 hA.1 (ec_of e (fun σ1 c1 f1 _ => ⟨fun hne => absurd rfl hne, fun _ => h1.same hA hN hK c1 f1⟩))
  have h1 := h.k0 hg1
  refine ⟨fun n0 => ⟨1, 4, by omega, by omega, v_allCoins h1.1.1 hA.1.1 (Nat.le_refl _) (Nat.le_refl _) (fun w2 hg2 => ?_)⟩, fun n0 => ref (-4) w1 (by rw [hq, if_pos (by omega)]) h1⟩
  have h2 := h1.k0 hg2
  refine ⟨fun e => ref (-5) w2 (by rw [hq, if_neg (by omega), if_pos (Or.inl e)]) h2, fun e => ⟨bS B, h2.1.1.1.2.2.1, h2.1.1.2.2.1.1.is, v_Al_isEmpty h2.1.1.2.2.1 ⟨fun h5 => ⟨fun n1 => by omega, fun n1 => ⟨1, 4, by omega, by omega, DI.gx (v_allCoins h2.1.1 hA.1.1 (Nat.le_refl _) (Nat.le_refl _) (fun w3 hg3 _ hx3 _ => ?_))⟩⟩, fun h5 => ref (-5) w2 ?_ h2⟩⟩⟩
  · have h3 := h2.k0 hg3
    refine ⟨hal.1, by omega, v_max ?_⟩
    have h02 : A 0 2 = 0 := by
      by_cases e : A 0 2 = 0
      · exact e
      · rw [if_neg e] at h5; exact absurd rfl h5
    have e2 : q_plan A = (n, ups A 0 1 (if 1 < al A / n then al A / n else 1)) := by rw [hq, if_neg (by omega), if_neg (by omega)]
    rw [e2] at ok
    have hd3 := h3.1.1.1.1
    have hx4 := hx3.u11 (j := 3) (v := if 1 < al A / n then al A / n else 1) hd3
    obtain ⟨I1, O1⟩ := iv_wr h3 hx3 hx4
    have ok : OKA (ups A 0 1 (if 1 < al A / n then al A / n else 1)) := ok
    have h01 := ok.2.1
    rw [ups_s] at h01
    refine ⟨hd3, c_plan (σ := wS (uI w3 (bD B) 3 (if 1 < al A / n then al A / n else 1))) h3.2.2.2.1 h3.2.2.2.2 hA.1 (ec_of e2 (fun σ1 c1 f1 _ => ⟨fun hne => absurd rfl hne, fun _ => ?_⟩))⟩
    exact act_fin I1 (by omega) (iv_LA hA ok) (CC.iv hA.1 O1 hN rfl h01 (ups_f (by decide)) ups_s (fun j _ _ => ups_c (by decide))) O1.1 h.2.2.1 rfl rfl hK c1 f1
  · have : ¬ A 0 2 = 0 := fun e => by rw [if_pos e] at h5; cases h5
    rw [hq, if_neg (by omega), if_pos (by omega)]
/-- the starts cleared -/
theorem y_aC (h : AQ G w W A B M y z ns fz row N) (hx : XOK G W) (hA : LA A) (hM : M ≤ 900000) (hN : N ≤ 100000) (hK : RSa G (bD B) (bT B) M y z ns fz K) : WD G M_Cl_act 1311 [(0, vR 0), (1, vA (bD B))] [] W rc rs (yI K) := by
  have bk := h.1.1
  have hd := bk.1.1
  refine l_Cl_act_28 _ ⟨hd.is, bS B, bk.1.2.2.1, bk.2.2.1.1.is, v_Al_size bk.2.2.1 ⟨bS B, bk.1.2.2.1, bk.2.2.1.1.is, y_clrS (B := B) h.1 hM hx (fun W2 S hx2 hk2 hS2 I2 => ?_)⟩⟩
  have e : q_clear A = (A 0 2, ups A 0 2 0) := rfl
  have ok := clear_ok hA.1
  rw [e] at ok
  have nk : ∀ {t : Nat} {kk : Kd}, Ow W t kk → kk ≠ kO 14 → (∀ n, kk ≠ kR 4 n) → t ∉ S := fun hO h1 h2 hm => by
    rcases hS2 _ hm hO.1 with e | ⟨n, e⟩
    · exact h1 (hO.2.symm.trans e)
    · exact h2 n (hO.2.symm.trans e)
  have O2 : OV W2 A B row N := h.2.1.fr hk2.1 hd.1 (nk hd (by simp) (by simp)) (nk h.2.1.2.2.1 (by simp) (by simp))
  refine c_clear (by rw [hk2.1.1]; exact h.2.2.2.1) (by rw [hk2.1.1]; exact h.2.2.2.2) (ec_of e (fun σ1 c1 f1 _ => ⟨fun hne => absurd rfl hne, fun _ => ?_⟩))
  exact act_fin I2 (by omega) (hA.cg ok (ups_f (by decide)) (ups_f (by decide)) (fun j _ _ => ups_c (by decide)) (fun j _ _ => ups_c (by decide)) (fun j a b => by rw [ups_c (by decide)]; exact hA.2.2.2.1 j a b)) (CC.eq hA.1.1 O2 hN rfl (ups_f (by decide)) (ups_f (by decide)) (fun j _ _ => ups_c (by decide))) O2.1 h.2.2.1 rfl rfl hK c1 f1
/-- a start drawn -/
theorem y_aR (h : AQ G w W A B M y z ns fz row N) (hx : XOK G W) (hA : LA A) (hM : M ≤ 900000) (hN : N ≤ 100000) (hK : RSa G (bD B) (bT B) M y z ns fz K) (hc : 70 ≤ rc) (hs : 90 ≤ rs) : WD G M_Cl_act 1342 [(0, vR 0), (1, vA (bD B))] [] W rc rs (yI K) := by
  have bk := h.1.1
  have hd := bk.1.1
  have hR := hA.1.2.2.1
  have hv := hA.1.2.1
  have e3 : wI W (bD B) 3 = A 0 1 := bk.1.2.2.2.2.1
  have ref : ∀ due : Int, q_draw A = (due, A) → WD G M_Cl_act 1388 [(0, vR 0)] [vI due] W rc rs (yI K) := fun due e =>
    l_Cl_act_30 _ (c_draw h.2.2.2.1 h.2.2.2.2 hA.1 (ec_of e (fun σ1 c1 f1 _ => ⟨fun hne => absurd rfl hne, fun _ => h.same hA hN hK c1 f1⟩)))
  refine l_Cl_act_29 _ ⟨hd.is, ?_⟩
  rw [e3]
  refine ⟨fun h0 => ⟨bS B, bk.1.2.2.1, bk.2.2.1.1.is, v_Al_size bk.2.2.1 ⟨fun h5 => ref (-4) ?_, fun h5 => ⟨bS B, bk.1.2.2.1, bk.2.2.1.1.is, v_Al_size bk.2.2.1 ⟨fun h6 => ?_, fun h6 => ref (-4) ?_⟩⟩⟩⟩, fun h0 => ref (-5) (by unfold q_draw; rw [if_pos h0])⟩
  · unfold q_draw; rw [if_neg h0, if_pos (by omega)]
  · rw [e3] at h6
    have e : q_draw A = ((drw A 50 (A 0 3)).1, addS (ups A 0 3 (drw A 50 (A 0 3)).2) (drw A 50 (A 0 3)).1) := by unfold q_draw; rw [if_neg h0, if_neg (by omega)]
    have ok := draw_ok hA.1
    rw [e] at ok
    refine ⟨70, 90, hc, hs, y_draws bk h.1.2.1 hA.1 (by omega) (by omega) h.1.2.2.2.1.2.2.2.2.1 (by have := h.1.2.2.2.1.2.2.2.2.2; omega) h.1.2.2.2.1.2.1 (Nat.le_refl _) (Nat.le_refl _) (fun W2 r n f hk2 hb2 hsp2 hn2 hE2 => ?_)⟩
    have hrk : wK W (bSr B) = kR 4 (bSn B) := (bk.2.2.1.isr hx).2
    have nk : ∀ {t : Nat} {kk : Kd}, Ow W t kk → kk ≠ kO 11 → kk ≠ kO 14 → (∀ n, kk ≠ kR 4 n) → t ∉ [bD B, bS B, bSr B] := fun {t} {kk} hO h1 h2 h3 hm => by
      have hO := hO.2
      rcases List.mem_cons.mp hm with e | hm
      · rw [e, hd.2] at hO; exact h1 hO.symm
      · rcases List.mem_cons.mp hm with e | hm
        · rw [e, bk.2.2.1.1.2] at hO; exact h2 hO.symm
        · rw [List.mem_singleton.mp hm, hrk] at hO; exact h3 _ hO.symm
    have O2 : OV W2 A B row N := ⟨hE2.1.trans h.2.1.1, hE2.2.trans h.2.1.2.1, h.2.1.2.2.kp hk2.1 (nk h.2.1.2.2.1 (by simp) (by simp) (by simp))⟩
    generalize hD : drw A 50 (A 0 3) = D at e ok hb2 ⊢
    obtain ⟨hIn, hSn, hI0, hI1, hS0, hS1⟩ := h.1.2.2.2.1
    have a0 : addS (ups A 0 3 D.2) D.1 0 0 = A 0 0 := (aS_0 (by decide)).trans (ups_f (by decide))
    have a1 : addS (ups A 0 3 D.2) D.1 0 1 = A 0 1 := (aS_0 (by decide)).trans (ups_f (by decide))
    have a4 : addS (ups A 0 3 D.2) D.1 0 4 = A 0 4 := (aS_0 (by decide)).trans (ups_f (by decide))
    have ac : ∀ c, c ≠ 0 → c ≠ 5 → ∀ j, addS (ups A 0 3 D.2) D.1 c j = A c j := fun c c0 c5 j => (aS_c c0 c5).trans (ups_c c0)
    have I2 : IB G W2 (addS (ups A 0 3 D.2) D.1) (bAdd B r n (bSm B + 1) f) (M + 1) y z ns fz := ⟨hb2, hsp2, by rw [a0]; exact h.1.2.2.1, ⟨hIn, hn2, hI0, by show bIm B ≤ M + 1; omega, by show 0 ≤ bSm B + 1; omega, by show bSm B + 1 ≤ M + 1; omega⟩, h.1.2.2.2.2.kp hk2.1⟩
    refine l_Cl_act_30 _ (c_draw (by rw [hk2.1.1]; exact h.2.2.2.1) (by rw [hk2.1.1]; exact h.2.2.2.2) hA.1 (ec_of e (fun σ1 c1 f1 _ => ⟨fun hne => absurd rfl hne, fun _ => ?_⟩)))
    exact act_fin I2 (by omega) (hA.cg ok a0 a4 (fun j _ _ => ac 1 (by decide) (by decide) j) (fun j _ _ => ac 2 (by decide) (by decide) j) (fun j a b => by rw [ac 3 (by decide) (by decide) j]; exact hA.2.2.2.1 j a b)) (CC.eq hA.1.1 O2 hN rfl a0 a1 (fun j _ _ => ac 3 (by decide) (by decide) j)) O2.1 h.2.2.1 rfl rfl hK c1 f1
  · rw [e3] at h6
    unfold q_draw; rw [if_neg h0, if_pos (by omega)]
/-- the numbers of an item -/
theorem y_aAd (h : AQ G w W A B M y z ns fz row N) (hx : XOK G W) (hA : LA A) (hM0 : 0 ≤ M) (hM : M ≤ 600000) (hN : N ≤ 100000) (hK : RSa G (bD B) (bT B) M y z ns fz K) (hc : 2 ≤ rc) (hs : 77 ≤ rs) : WD G M_Cl_act 466 [(0, vR 0), (1, vA (bD B)), (2, vA y), (4, vI (A 0 0))] [] W rc rs (yI K) := by
  have s3 : ∀ (a v : Int) (W : Wd), AQ G w W A B M y z ns fz row N → XOK G W → 0 ≤ a → (a ≤ 4 ∨ 99 < a) → 0 ≤ v → WD G M_Cl_act 509 [(0, vR 0), (1, vA (bD B)), (2, vA y), (4, vI (A 0 0)), (8, vI a)] [vI v] W rc rs (yI K) := fun a v W h hx a0 a1 v0 =>
    l_Cl_act_11 _ _ _ _ _ (az h hx (by omega) (fun v1 W1 _ _ x1 q1 => ⟨fun _ => az q1 x1 (by omega) (fun v2 W2 a2 b2 x2 q2 => ⟨inR_of (by omega) (by omega), y_aA q2 x2 hA hM0 hM hN hK a0 a1 v0 (by omega) (by omega) hc hs⟩), fun _ => y_aA q1 x1 hA hM0 hM hN hK a0 a1 v0 (by omega) (by omega) hc hs⟩))
  have s2 : ∀ (a : Int) (W : Wd), AQ G w W A B M y z ns fz row N → XOK G W → 0 ≤ a → (a ≤ 4 ∨ 99 < a) → WD G M_Cl_act 485 [(0, vR 0), (1, vA (bD B)), (2, vA y), (4, vI (A 0 0))] [vI a] W rc rs (yI K) := fun a W h hx a0 a1 =>
    l_Cl_act_10 _ _ _ _ (az h hx (by omega) (fun v1 W1 _ _ x1 q1 => ⟨fun _ => az q1 x1 (by omega) (fun v2 W2 a2 b2 x2 q2 => s3 a v2 W2 q2 x2 a0 a1 a2), fun _ => s3 a _ W1 q1 x1 a0 a1 (by omega)⟩))
  exact l_Cl_act_9 _ _ _ (az h hx (by omega) (fun v1 W1 _ _ x1 q1 => ⟨fun _ => az q1 x1 (by omega) (fun v2 W2 a2 b2 x2 q2 => s2 v2 W2 q2 x2 a2 (by omega)), fun _ => s2 _ W1 q1 x1 (by omega) (by omega)⟩))
/-- the numbers of a term -/
theorem y_aTd (h : AQ G w W A B M y z ns fz row N) (hx : XOK G W) (hA : LA A) (hN : N ≤ 100000) (hK : RSa G (bD B) (bT B) M y z ns fz K) : WD G M_Cl_act 160 [(0, vR 0), (1, vA (bD B)), (2, vA y)] [] W rc rs (yI K) :=
  l_Cl_act_4 _ _ (az h hx (by omega) (fun t W1 t0 t1 x1 q1 => ⟨fun _ => ⟨fun _ => ⟨fun _ => ⟨fun _ => az q1 x1 (by omega) (fun v2 W2 a2 b2 x2 q2 => ⟨fun _ => az q2 x2 (by omega) (fun v3 W3 a3 b3 x3 q3 => ⟨fun _ => az q3 x3 (by omega) (fun v4 W4 a4 b4 x4 q4 => y_aT q4 x4 hA hN hK t0 (by omega) (by omega) (by omega)), fun _ => y_aT q3 x3 hA hN hK t0 (by omega) (by omega) (by omega)⟩), fun _ => y_aT q2 x2 hA hN hK t0 (by omega) (by omega) (by omega)⟩), fun _ => az q1 x1 (by omega) (fun v2 W2 a2 b2 x2 q2 => y_aT q2 x2 hA hN hK t0 (by omega) (by omega) (by omega))⟩, fun _ => az q1 x1 (by omega) (fun v2 W2 a2 b2 x2 q2 => y_aT q2 x2 hA hN hK t0 (by omega) (by omega) (by omega))⟩, fun _ => az q1 x1 (by omega) (fun v2 W2 a2 b2 x2 q2 => y_aT q2 x2 hA hN hK t0 (by omega) (by omega) (by omega))⟩, fun _ => az q1 x1 (by omega) (fun v2 W2 a2 b2 x2 q2 => ⟨fun _ => az q2 x2 (by omega) (fun v3 W3 a3 b3 x3 q3 => ⟨inR_of (by omega) (by omega), y_aT q3 x3 hA hN hK t0 (by omega) (by omega) (by omega)⟩), fun _ => y_aT q2 x2 hA hN hK t0 (by omega) (by omega) (by omega)⟩)⟩))
end AY
