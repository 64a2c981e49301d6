-- a ledger drawn as a text: new items, all of it
section DY
variable {G : Gq} {w0 w W W' : Wd} {A T : St} {B : Bks} {S : List Nat} {mc ms q y z ns N d b v cap c0 s0 rc rs x vx n L : Nat} {i j M a vo bo k gr : Int} {σ : St} {fz : Int → Int} {row : Option Nat} {X X' U : Txt}
/-- the end of an item's line, the item put in -/
theorem y_d414 {K : Option Nat → Wd → Prop} {ei : Nat} {s e : List Int} {ng : Bool} {bb : Int} (hM : M ≤ 800000) (hD : DBk G w0 W A T B (M + T 0 0) y z ns fz row N d) (hLT : LT T) (hP : PRQ X T L) (hX0 : 0 ≤ X.1) (h859 : X.1 ≤ 859) (hQ : QB G W b v cap (nmb (sgs (nmb (sgn (nmb (sgs X [105, 116, 101, 109]) a) 32) vo) s) bb)) (hN : NI W B T q a vo bo) (hx : XOK G W)
    (he : (ei = 272 ∧ e = [59]) ∨ (ei = 270 ∧ e = [59, 32])) (hs' : s = if ng then [32, 45, 32] else [32]) (hbb : bo = if ng then -bb else bb) (bb0 : 0 ≤ bb) (bb1 : bb ≤ 900) (a0 : 0 ≤ a) (a1 : a ≤ 4) (v0 : 0 ≤ vo) (v1 : vo ≤ 9999) (h48 : T 0 0 < 48) (hp : plcq T a vo = -1) (hc : c0 + 1 + (1800 - cap) ≤ rc) (hs : s0 + 73 + 2 * (1800 - cap) ≤ rs)
    (hK : ∀ W' T' B' v' cap' X' rc' rs', XOK G W' → DSt G w0 W' A T' B' M y z ns fz row N d b v' cap' X' (L + 1) → c0 + (1800 - cap') ≤ rc' → s0 + 2 * (1800 - cap') ≤ rs' → WD G M_Cl_drawn 82 [(0, vA d), (1, vA y), (2, vA b), (3, vI k), (4, vI gr)] [] W' rc' rs' (yP K)) :
    WD G M_Cl_drawn 414 [(0, vA d), (1, vA y), (2, vA b), (3, vI k), (4, vI gr), (5, vA q)] [vA (xa G ei), vP (some b)] W rc rs (yP K) := by
  have hel : e.length ≤ 2 := by rcases he with ⟨_, rfl⟩ | ⟨_, rfl⟩ <;> decide
  have hsl : s.length ≤ 3 := by rw [hs']; cases ng <;> decide
  have hl := len_it (X := X) (s := s) (e := e) (a := a) (vo := vo) (bo := bb) hsl hel h859 a1 v1 (by omega)
  have ha6 := hQ.1.2.2.2.2.2.2.2.2
  have hea : ∀ c ∈ e, 0 ≤ c ∧ c ≤ 127 := by rcases he with ⟨_, rfl⟩ | ⟨_, rfl⟩ <;> decide
  have hT0 := hLT.1.1
  have tx : TTx G W (xa G ei) (xa G (ei + 1)) e.length (lit e) := by
    rcases he with ⟨rfl, rfl⟩ | ⟨rfl, rfl⟩
    · exact lit_x hx [59] (by decide) (by decide)
    · exact lit_x hx [59, 32] (by decide) (by decide)
  refine l_Cl_drawn_8 _ _ _ _ _ _ _ _ ⟨b, rfl, w_is hQ.1.1.is (dd_s (X' := itx X a vo bb s e) (c0 := c0 + 1) (s0 := s0 + 73) tx (cat_lit e) (asc_sgs _ _ ha6 hea) hD hQ hx (by omega) hc hs (fun W2 v2 cap2 c2 s2 hx2 hk2 D2 Q2 _ _ hc2 hs2 => ?_))⟩
  have N2 := hN.kb hQ hk2
  have bk := D2.1.1
  have hd : bD B = d := D2.2.2.2.2.1
  refine ⟨by rw [← hd]; exact bk.1.1.is, bI B, by rw [← hd]; exact bk.1.2.1, 1, 73, by omega, by omega, bk.2.1.1.is, ?_⟩
  refine y_addI D2.1 (by have := hLT.1.2.1; omega) (by rw [txA_0]; exact hT0) (by rw [txA_0]; exact h48) hx2 N2.1 N2.2.1 N2.2.2.1 N2.2.2.2.1 N2.2.2.2.2.1 (fun i i0 i1 => N2.2.2.2.2.2 i i0 (by rw [txA_0] at i1; exact i1)) (Nat.le_refl _) (Nat.le_refl _) (fun W3 S r n hx3 hk3 hS3 I3 => ?_)
  have nk : ∀ {t : Nat} {kk : Kd}, Ow W2 t kk → kk ≠ kO 14 → (∀ n, kk ≠ kR 4 n) → t ∉ S := fun hO h1 h2 hm => by
    rcases hS3 _ hm hO.1 with e | ⟨n, e⟩
    · exact h1 (hO.2.symm.trans e)
    · exact h2 n (hO.2.symm.trans e)
  have hdO : Ow W2 d (kO 11) := by rw [← hd]; exact bk.1.1
  have Q3 := Q2.kp hk3.1 (nk Q2.1.1 (by simp) (by simp)) (nk Q2.1.2.2.2.2.1 (by simp) (by simp))
  have hb900 : bo ≤ 900 := by rw [hbb]; cases ng <;> simp <;> omega
  have hbm : -99999 ≤ bo := by rw [hbb]; cases ng <;> simp <;> omega
  have e0 : addI T a vo bo 0 0 = T 0 0 + 1 := addI_0
  have hP' : PRQ (itx X a vo bb s e) (addI T a vo bo) (L + 1) := hP.st hX0 hl.2.2.2.2.2.2.2 (fun i _ b => itx_lo b) (fun A n hp' => by
    rw [hbb]
    exact itx_ln hX0 hp' a0 (by omega) v0 v1 bb0 (by omega) hs' (he.imp (fun h => h.2) (fun h => h.2)) h48 hp)
  refine hK W3 (addI T a vo bo) (bIt B r n (bIm B + 1) (fup (bF B) (txA A T 0 0) q)) v2 cap2 (itx X a vo bb s e) _ _ hx3 ⟨⟨?_, hk3.1.1.trans D2.2.1, ⟨(hk3.1.R hdO.1 (nk hdO (by simp) (by simp))).trans D2.2.2.1.1, D2.2.2.1.2.kp hk3.1⟩, fun a ha => hk3.1.L (D2.2.2.2.1 a ha), hd, D2.2.2.2.2.2⟩, hLT.add h48 hp a0 a1 v0 v1 hbm hb900, Q3, hP', Int.le_trans hX0 hl.2.2.2.2.2.2.2, hl.1⟩ (by omega) (by omega)
  rw [tx_add, e0, ← Int.add_assoc]
  exact I3
/-- a new item -/
theorem y_dN {K : Option Nat → Wd → Prop} (hM : M ≤ 800000) (hD : DSt G w0 W A T B M y z ns fz row N d b v cap X L) (hx : XOK G W) (h859 : X.1 ≤ 859) (hgr : 0 < gr) (hgr2 : gr ≤ 900) (hc : c0 + 2 + (1800 - cap) ≤ rc) (hs : s0 + 77 + 2 * (1800 - cap) ≤ rs)
    (hK0 : ∀ W' v' cap' rc' rs', XOK G W' → DSt G w0 W' A T B M y z ns fz row N d b v' cap' X L → c0 + (1800 - cap') ≤ rc' → s0 + 2 * (1800 - cap') ≤ rs' → WD G M_Cl_drawn 82 [(0, vA d), (1, vA y), (2, vA b), (3, vI k), (4, vI gr)] [] W' rc' rs' (yP K))
    (hK : ∀ W' T' B' v' cap' X' rc' rs', XOK G W' → DSt G w0 W' A T' B' M y z ns fz row N d b v' cap' X' (L + 1) → c0 + (1800 - cap') ≤ rc' → s0 + 2 * (1800 - cap') ≤ rs' → WD G M_Cl_drawn 82 [(0, vA d), (1, vA y), (2, vA b), (3, vI k), (4, vI gr)] [] W' rc' rs' (yP K)) :
    WD G M_Cl_drawn 142 [(0, vA d), (1, vA y), (2, vA b), (3, vI k), (4, vI gr)] [vP none] W rc rs (yP K) := by
  have hD' := hD
  obtain ⟨hK1, hLT, hQ, hP, hX0, hX1⟩ := hD
  have hT0 := hLT.1.1
  refine l_Cl_drawn_4 _ _ _ _ _ _ ⟨fun _ => ⟨by omega, by omega, fun q hq => DV.gx (e_It_init q ⟨Ow.nw, fun _ hx1 _ => ?_⟩)⟩, fun a ha => by cases ha⟩
  have k1 : Kp [] W (uI (uN W q (kO 13)) q 3 (-1)) := (Kp.rf.uN hq.1).uI (Or.inr hq.1)
  have o1 : Ow (uI (uN W q (kO 13)) q 3 (-1)) q (kO 13) := (Ow.sN (w := W)).sI
  have v1 : wI (uI (uN W q (kO 13)) q 3 (-1)) q 3 = -1 := wI_uI_s
  generalize uI (uN W q (kO 13)) q 3 (-1) = W1 at hx1 k1 o1 v1 ⊢
  have D1 := hK1.fr (Kg.of k1 hx hx1) (fun b hb => absurd hb List.not_mem_nil)
  have hqy : q ≠ y := o1.kne D1.yy (by simp)
  -- written by the way: the new item, the numbers drawn
  have step : ∀ {W2 W3 : Wd}, Kp [y] W W2 → Kp [y] W2 W3 → Kp [y] W W3 := fun h1 h2 => h1.tr h2
  have wr : ∀ {W2 : Wd} (j' x' : Int), Kp [y] W W2 → Kp [y] W (uI W2 q j' x') := fun j' x' h => h.uI (Or.inr hq.1)
  have dk : ∀ {W2 : Wd}, Kp [y] W W2 → XOK G W2 → DBk G w0 W2 A T B (M + T 0 0) y z ns fz row N d := fun h hx2 => hK1.fr (Kg.of h hx hx2) (fun b hb => Or.inr (Or.inr (List.mem_singleton.mp hb)))
  have qs : q ∉ [y] := fun hm => hqy (List.mem_singleton.mp hm)
  refine dz D1 hx1 (by omega) (fun ac W2 a0 a1 hx2 D2 ky2 => ?_)
  have o2 := o1.kp ky2
  have f23 := (ky2.I o1.1 qs).trans v1
  refine DC.wf (fun _ hx2' => ?_)
  have kW2 := wr 0 ac (step k1.nil ky2)
  refine dz (dk kW2 hx2') hx2' (by omega) (fun vo W3 v0 v1' hx3 D3 ky3 => ?_)
  have o3 : Ow W3 q (kO 13) := (o2.sI (j := 0) (x := ac)).kp ky3
  have f30 : wI W3 q 0 = ac := (ky3.I o2.1 qs).trans wI_uI_s
  have f33 : wI W3 q 3 = -1 := (ky3.I o2.1 qs).trans ((wI_uI_j (by decide)).trans f23)
  refine DC.wf (fun _ hx3' => ?_)
  have kW3 := wr 1 vo (step kW2 ky3)
  refine dz (dk kW3 hx3') hx3' (by omega) (fun v8 W4 v80 v81 hx4 D4 ky4 => ?_)
  have o4 : Ow W4 q (kO 13) := (o3.sI (j := 1) (x := vo)).kp ky4
  have f40 : wI W4 q 0 = ac := (ky4.I o3.1 qs).trans ((wI_uI_j (by decide)).trans f30)
  have f41 : wI W4 q 1 = vo := (ky4.I o3.1 qs).trans wI_uI_s
  have f43 : wI W4 q 3 = -1 := (ky4.I o3.1 qs).trans ((wI_uI_j (by decide)).trans f33)
  have kW4 := step kW3 ky4
  -- the book is known
  have fin : ∀ (bo : Int) (W5 : Wd), -50 < bo → bo ≤ 900 → XOK G W5 → Kp [y] W4 W5 → WD G M_Cl_drawn 308 [(0, vA d), (1, vA y), (2, vA b), (3, vI k), (4, vI gr), (5, vA q)] [vI bo, vA q] W5 (rc - 1) (rs - 4) (yP K) := by
    intro bo W5 bo0 bo1 hx5 ky5
    have o5 := o4.kp ky5
    have kW5 := wr 2 bo (step kW4 ky5)
    have NI6 : NI (uI W5 q 2 bo) B T q ac vo bo := by
      refine ⟨o5.sI, (wI_uI_j (by decide)).trans ((ky5.I o4.1 qs).trans f40), (wI_uI_j (by decide)).trans ((ky5.I o4.1 qs).trans f41), wI_uI_s, (wI_uI_j (by decide)).trans ((ky5.I o4.1 qs).trans f43), fun i i0 i1 e => ?_⟩
      have im := hK1.1.1.2.2.2.2.1 i i0 (by rw [txA_0]; exact i1)
      exact hq.1 (e ▸ im.1.1)
    have hQ5 : QB G (uI W5 q 2 bo) b v cap X := hQ.ky kW5 hK1.yy.2
    refine l_Cl_drawn_6 _ _ _ _ _ _ _ _ ⟨o5, NI6.1.is, ?_, ?_⟩
    · have := (hK1.1.1.1.1.kp kW5).is (G := G)
      rw [hK1.2.2.2.2.1] at this
      exact this
    rw [NI6.2.1, NI6.2.2.1]
    refine DC.wf (fun _ hx6 => ?_)
    have D6 := dk kW5 hx6
    generalize uI W5 q 2 bo = W6 at NI6 hQ5 hx6 D6 ⊢
    have bk6 := D6.1.1
    have hd : bD B = d := D6.2.2.2.2.1
    rw [← hd]
    refine y_find bk6 (by
      have h1 := hLT.1
      refine ⟨by rw [txA_0]; exact h1.1, by rw [txA_0]; exact h1.2.1, fun i i0 i1 => ?_⟩
      rw [txA_0] at i1
      rw [txA_i (by decide), txA_i (by decide), txA_i (by decide), txA_i (by decide)]
      exact h1.2.2 i i0 i1) ?_
    rw [plcq_tx, hd]
    refine ⟨fun _ => hK0 W6 v cap _ _ hx6 ⟨D6, hLT, hQ5, hP, hX0, hX1⟩ (by omega) (by omega), fun hneg => ?_⟩
    have hpl : plcq T ac vo = -1 := by
      rcases plcq_in hLT.1 (a := ac) (v := vo) with h | h
      · exact h
      · omega
    refine ⟨bI B, by rw [← hd]; exact bk6.1.2.1, bk6.2.1.1.is, v_Al_size bk6.2.1 ?_⟩
    rw [txA_0]
    refine ⟨fun hne => ?_, fun _ => hK0 W6 v cap _ _ hx6 ⟨D6, hLT, hQ5, hP, hX0, hX1⟩ (by omega) (by omega)⟩
    have h48 : T 0 0 < 48 := by have := hLT.1.2.1; omega
    have a00 := hQ.1.2.2.2.2.2.2.2.2
    have b1 : asc (sgs X [105, 116, 101, 109]) := asc_sgs _ _ a00 (by decide)
    have b2 : asc (nmb (sgs X [105, 116, 101, 109]) ac) := asc_nmb b1 a0
    have b3 := asc_sgn (c := 32) b2 (by omega) (by omega)
    have b4 : asc (nmb (sgn (nmb (sgs X [105, 116, 101, 109]) ac) 32) vo) := asc_nmb b3 v0
    have hl := len_it (X := X) (s := []) (e := []) (a := ac) (vo := vo) (bo := 0) (by decide) (by decide) h859 (by omega) (by omega) (by omega)
    refine w_is hQ5.1.1.is (dd_s (c0 := c0 + 1) (s0 := s0 + 73) (lit_x hx6 [105, 116, 101, 109] (by decide) (by decide)) (cat_lit _) b1 D6 hQ5 hx6 (by omega) (by omega) (by omega) (fun W7 v7 cap7 c7 s7 hx7 hk7 D7 Q7 _ _ hc7 hs7 => ⟨b, rfl, ?_⟩))
    have N7 := NI6.kb hQ5 hk7
    rw [N7.2.1]
    refine w_is Q7.1.1.is (dd_i (c0 := c0 + 1) (s0 := s0 + 73) a0 (by omega) D7 Q7 hx7 (by omega) hc7 hs7 (fun W8 v8 cap8 c8 s8 hx8 hk8 D8 Q8 _ _ hc8 hs8 => ⟨b, rfl, ?_⟩))
    have N8 := N7.kb Q7 hk8
    refine w_is Q8.1.1.is (dd_c (c0 := c0 + 1) (s0 := s0 + 73) (by omega) (by omega) D8 Q8 hx8 (by omega) hc8 hs8 (fun W9 v9 cap9 c9 s9 hx9 hk9 D9 Q9 _ _ hc9 hs9 => ⟨b, rfl, ?_⟩))
    have N9 := N8.kb Q8 hk9
    rw [N9.2.2.1]
    refine w_is Q9.1.1.is (dd_i (c0 := c0 + 1) (s0 := s0 + 73) v0 (by omega) D9 Q9 hx9 (by omega) hc9 hs9 (fun Wa va capa ca sa hxa hka Da Qa _ _ hca hsa => ?_))
    have Na := N9.kb Q9 hka
    rw [Na.2.2.2.1]
    -- the sign, the book, the end
    have rest : ∀ (si : Nat) (s : List Int) (ng : Bool) (bb : Int), ((si = 268 ∧ ng = false) ∨ (si = 266 ∧ ng = true)) → s = (if ng then [32, 45, 32] else [32]) → bo = (if ng then -bb else bb) → 0 ≤ bb → bb ≤ 900 → (if 0 ≤ bo then bo else -bo) = bb → ∀ (rc' rs' : Nat), c0 + 1 + (1800 - capa) ≤ rc' → s0 + 73 + 2 * (1800 - capa) ≤ rs' →
        WD G M_Cl_drawn 385 [(0, vA d), (1, vA y), (2, vA b), (3, vI k), (4, vI gr), (5, vA q)] [vA (xa G si), vP (some b)] Wa rc' rs' (yP K) := by
      intro si s ng bb hsi hs' hbb bb0 bb1 habs rc' rs' hc' hs''
      have hsl : s.length ≤ 3 := by rw [hs']; cases ng <;> decide
      have hl2 := len_it (X := X) (s := s) (e := []) (a := ac) (vo := vo) (bo := bb) hsl (by decide) h859 (by omega) (by omega) (by omega)
      have tx : TTx G Wa (xa G si) (xa G (si + 1)) s.length (lit s) := by
        rcases hsi with ⟨rfl, rfl⟩ | ⟨rfl, rfl⟩
        · rw [hs']; exact lit_x hxa [32] (by decide) (by decide)
        · rw [hs']; exact lit_x hxa [32, 45, 32] (by decide) (by decide)
      have hsa' : ∀ c ∈ s, 0 ≤ c ∧ c ≤ 127 := by rw [hs']; cases ng <;> decide
      refine l_Cl_drawn_7 _ _ _ _ _ _ _ _ ⟨b, rfl, w_is Qa.1.1.is (dd_s (c0 := c0 + 1) (s0 := s0 + 73) tx (cat_lit s) (asc_sgs _ _ b4 hsa') Da Qa hxa (by omega) hc' hs'' (fun Wb vb capb cb sb hxb hkb Db Qb' _ _ hcb hsb => ?_))⟩
      have Nb := Na.kb Qa hkb
      refine ⟨Nb.1.is, ?_⟩
      rw [Nb.2.2.2.1]
      refine v_abs (by omega) (by omega) ?_
      rw [habs]
      refine ⟨b, rfl, w_is Qb'.1.1.is (dd_i (c0 := c0 + 1) (s0 := s0 + 73) bb0 (by omega) Db Qb' hxb (by omega) hcb hsb (fun Wc vc capc cc sc hxc hkc Dc Qc _ _ hcc hsc => ?_))⟩
      have Nc := Nb.kb Qb' hkc
      refine dz Dc hxc (by omega) (fun v3 Wd' v30 v31 hxd Dd kyd => ?_)
      have Qd := Qc.ky kyd Dc.yy.2
      have Nd := Nc.ky kyd Dc.yy.2
      exact ⟨fun _ => y_d414 hM Dd hLT hP hX0 h859 Qd Nd hxd (Or.inl ⟨rfl, rfl⟩) hs' hbb bb0 bb1 a0 (by omega) v0 (by omega) h48 hpl (by omega) (by omega) hK, fun _ => y_d414 hM Dd hLT hP hX0 h859 Qd Nd hxd (Or.inr ⟨rfl, rfl⟩) hs' hbb bb0 bb1 a0 (by omega) v0 (by omega) h48 hpl (by omega) (by omega) hK⟩
    refine ⟨fun h0 => ?_, fun h0 => ?_⟩
    · exact rest 268 [32] false bo (Or.inl ⟨rfl, rfl⟩) rfl rfl h0 bo1 (if_pos h0) _ _ hca hsa
    · exact rest 266 [32, 45, 32] true (-bo) (Or.inr ⟨rfl, rfl⟩) rfl (by show bo = - -bo; omega) (by omega) (by omega) (if_neg h0) _ _ hca hsa
  refine ⟨fun _ => dz D4 hx4 hgr (fun g W5 g0 g1 hx5 D5 ky5 => ⟨inR_s (by omega) (by omega), dz D5 hx5 (by omega) (fun bo W6 b0 b1 hx6 D6 ky6 => fin bo W6 (by omega) (by omega) hx6 (ky5.tr ky6))⟩), fun _ => dz D4 hx4 (by omega) (fun g W5 g0 g1 hx5 D5 ky5 => ⟨inR_s (by omega) (by omega), fin (-g) W5 (by omega) (by omega) hx5 ky5⟩)⟩
/-- all the lines -/
theorem y_dL {K : Option Nat → Wd → Prop} (hM : M ≤ 800000) (hgr : 0 < gr) (hgr2 : gr ≤ 900)
    (hK : ∀ W' T B s vs n X L, XOK G W' → DBk G w0 W' A T B (M + T 0 0) y z ns fz row N d → LT T → TTx G W' s vs n X → PRQ X T L → L ≤ 40 → 0 ≤ X.1 → X.1 ≤ 885 → K (some s) W') :
    ∀ (c : Nat) (W : Wd) (T : St) (B : Bks) (v cap : Nat) (X : Txt) (L rc rs : Nat), XOK G W → DSt G w0 W A T B M y z ns fz row N d b v cap X L → L + c ≤ 40 → 2 * c + 10 + (1800 - cap) ≤ rc → 77 * c + 1000 + 2 * (1800 - cap) ≤ rs → WD G M_Cl_drawn 82 [(0, vA d), (1, vA y), (2, vA b), (3, vI (c : Int)), (4, vI gr)] [] W rc rs (yP K) := by
  have stop : ∀ (W : Wd) (T : St) (B : Bks) (v cap : Nat) (X : Txt) (L rc rs : Nat), DSt G w0 W A T B M y z ns fz row N d b v cap X L → XOK G W → L ≤ 40 → 10 ≤ rc → 1000 ≤ rs → ∃ c41 s42 : Nat, c41 ≤ rc ∧ s42 ≤ rs ∧ DP G M_Sb_toString [vA b] W c41 s42 (fun v47 w46 => K v47 w46) := by
    intro W T B v cap X L rc rs hD hx hL hc hs
    obtain ⟨hK1, hLT, hQ, hP, hX0, hX1⟩ := hD
    refine ⟨2, 4 + X.1.toNat, by omega, by omega, DP.gx (v_toString hQ.1 (Nat.le_refl _) (Nat.le_refl _) (fun s vs w' _ hk hX _ hx' _ => ?_))⟩
    exact hK w' T B s vs _ X L hx' (hK1.fr (Kg.of hk hx hx') (fun b hb => absurd hb List.not_mem_nil)) hLT hX hP hL hX0 hX1
  intro c
  induction c with
  | zero =>
    intro W T B v cap X L rc rs hx hD hL hc hs
    refine l_Cl_drawn_3 _ _ _ _ _ ⟨inR_s (by omega) (by omega), fun _ => ?_, fun h => absurd (Int.le_refl _) h⟩
    obtain ⟨c1, s1, h1, h2, h3⟩ := stop W T B v cap X L rc rs hD hx (by omega) (by omega) (by omega)
    exact ⟨c1, s1, h1, h2, hD.2.2.1.1.1.is, h3⟩
  | succ c ih =>
    intro W T B v cap X L rc rs hx hD hL hc hs
    have hD' := hD
    obtain ⟨hK1, hLT, hQ, hP, hX0, hX1⟩ := hD
    have hd : bD B = d := hK1.2.2.2.2.1
    have bk := hK1.1.1
    have hO : Ow W d (kO 11) := by rw [← hd]; exact bk.1.1
    have hR : wR W d 0 = some (bI B) := by rw [← hd]; exact bk.1.2.1
    have e1 : ((c + 1 : Nat) : Int) + -1 = (c : Int) := by omega
    have more : ∀ (W' : Wd) (T' : St) (B' : Bks) (v' cap' : Nat) (X' : Txt) (L' rc' rs' : Nat), XOK G W' → DSt G w0 W' A T' B' M y z ns fz row N d b v' cap' X' L' → L' ≤ L + 1 → 2 * c + 10 + (1800 - cap') ≤ rc' → 77 * c + 1000 + 2 * (1800 - cap') ≤ rs' → WD G M_Cl_drawn 82 [(0, vA d), (1, vA y), (2, vA b), (3, vI (c : Int)), (4, vI gr)] [] W' rc' rs' (yP K) := fun W' T' B' v' cap' X' L' rc' rs' hx' hD' hL' hc' hs' => ih W' T' B' v' cap' X' L' rc' rs' hx' hD' (by omega) hc' hs'
    have nw : ∀ W2, XOK G W2 → DSt G w0 W2 A T B M y z ns fz row N d b v cap X L → X.1 ≤ 859 → WD G M_Cl_drawn 142 [(0, vA d), (1, vA y), (2, vA b), (3, vI (c : Int)), (4, vI gr)] [vP none] W2 rc rs (yP K) := fun W2 hx2 hD2 h859 =>
      y_dN (c0 := 2 * c + 10) (s0 := 77 * c + 1000) hM hD2 hx2 h859 hgr hgr2 (by omega) (by omega) (fun W' v' cap' rc' rs' hx' hD' hc' hs' => more W' T B v' cap' X L rc' rs' hx' hD' (by omega) hc' hs') (fun W' T' B' v' cap' X' rc' rs' hx' hD' hc' hs' => more W' T' B' v' cap' X' (L + 1) rc' rs' hx' hD' (by omega) hc' hs')
    refine l_Cl_drawn_3 _ _ _ _ _ ⟨by rw [e1]; exact inR_s (by omega) (by omega), fun h => by omega, fun _ => ⟨hQ.1.1.is, e_Sb_length b ⟨hQ.1.1.is, e_As_length b ⟨hQ.1.1.is, ?_⟩⟩⟩⟩
    rw [hQ.1.2.2.2.1, e1]
    refine ⟨fun _ => stop W T B v cap X L rc rs hD' hx (by omega) (by omega) (by omega), fun h860 => ⟨hO.is, bI B, hR, bk.2.1.1.is, v_Al_isEmpty bk.2.1 ?_⟩⟩
    rw [txA_0]
    refine ⟨fun _ => nw W hx hD' (by omega), fun hne => ?_⟩
    have hT0 : T 0 0 ≠ 0 := fun e => by rw [if_pos e] at hne; cases hne
    have hTp := hLT.1.1
    refine dz hK1 hx (by omega) (fun v4 W2 v40 v41 hx2 D2 ky2 => ?_)
    have S2 : DSt G w0 W2 A T B M y z ns fz row N d b v cap X L := ⟨D2, hLT, hQ.ky ky2 hK1.yy.2, hP, hX0, hX1⟩
    refine ⟨fun _ => ?_, fun _ => nw W2 hx2 S2 (by omega)⟩
    have bk2 := D2.1.1
    have hR2 : wR W2 d 0 = some (bI B) := by rw [← hd]; exact bk2.1.2.1
    refine ⟨bI B, hR2, bk2.2.1.1.is, v_Al_size bk2.2.1 ?_⟩
    rw [txA_0]
    refine dz D2 hx2 (by omega) (fun j W3 j0 j1 hx3 D3 ky3 => ?_)
    have S3 : DSt G w0 W3 A T B M y z ns fz row N d b v cap X L := ⟨D3, hLT, S2.2.2.1.ky ky3 D2.yy.2, hP, hX0, hX1⟩
    have bk3 := D3.1.1
    have j1' : j < txA A T 0 0 := by rw [txA_0]; exact j1
    have im3 := bk3.2.2.2.2.1 j j0 j1'
    have b3 : wI W3 (bF B j) 2 = T 3 j := im3.2.2.2.1.trans (txA_i (by decide))
    refine v_Al_get bk3.2.1 j0 j1' ⟨bF B j, rfl, im3.1.is, l_Cl_drawn_4 _ _ _ _ _ _ ⟨fun h => (by cases h), fun a ha => ?_⟩⟩
    have ea : a = bF B j := (Option.some.inj ha).symm
    subst ea
    refine ⟨im3.1.is, ?_⟩
    rw [b3]
    refine ⟨fun hb1 => ?_, fun _ => more W3 T B v cap X L rc rs hx3 S3 (by omega) (by omega) (by omega)⟩
    have hit := hLT.1.2.2 j j0 j1
    have hsb := hLT.2.2.2 j j0 j1
    have au : ∀ (W4 : Wd) (aud : Int), XOK G W4 → DSt G w0 W4 A T B M y z ns fz row N d b v cap X L → 0 ≤ aud → aud ≤ 2 * T 3 j → WD G M_Cl_drawn 192 [(0, vA d), (1, vA y), (2, vA b), (3, vI (c : Int)), (4, vI gr), (5, vA (bF B j))] [vI aud, vA (bF B j)] W4 rc rs (yP K) := fun W4 aud hx4 hD4 u0 u1 =>
      y_dA (c0 := 2 * c + 10) (s0 := 77 * c + 1000) hD4 hx4 (by omega) j0 j1 hb1 u0 u1 (by omega) (by omega) (fun W' T' v' cap' X' rc' rs' hx' hD' hc' hs' => more W' T' B v' cap' X' (L + 1) rc' rs' hx' hD' (by omega) hc' hs')
    refine dz D3 hx3 (by omega) (fun v3 W4 v30 v31 hx4 D4 ky4 => ?_)
    have S4 : DSt G w0 W4 A T B M y z ns fz row N d b v cap X L := ⟨D4, hLT, S3.2.2.1.ky ky4 D3.yy.2, hP, hX0, hX1⟩
    have im4 := D4.1.1.2.2.2.2.1 j j0 j1'
    rw [show wI W4 (bF B j) 2 = T 3 j from im4.2.2.2.1.trans (txA_i (by decide))]
    refine ⟨fun _ => ⟨inR_s (by omega) (by omega), inR_s (by omega) (by omega), dz D4 hx4 (by omega) (fun aud W5 u0 u1 hx5 D5 ky5 => ?_)⟩, fun _ => au W4 (T 3 j) hx4 S4 (by omega) (by omega)⟩
    exact au W5 aud hx5 ⟨D5, hLT, S4.2.2.1.ky ky5 D4.yy.2, hP, hX0, hX1⟩ u0 (by omega)
end DY
