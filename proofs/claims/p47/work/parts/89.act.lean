-- an act: told to both, and both tell alike
def LA (A : St) : Prop := OKA A ∧ AC A ∧ UK A ∧ SB A ∧ A 0 4 = 0
def RY (w : Wd) (d y t : Nat) : Prop := ∀ r, wR w d 5 = some r → r ≠ y ∧ r ≠ t
/-- before an act, while numbers are drawn -/
def AQ (G : Gq) (w W : Wd) (A : St) (B : Bks) (M : Int) (y z ns : Nat) (fz : Int → Int) (row N : Nat) : Prop := IB G W A B M y z ns fz ∧ OV W A B row N ∧ (row ≠ y ∧ row ≠ bT B) ∧ CR A (wS W) ∧ FC (wS W)
/-- behind an act -/
def RSa (G : Gq) (d t : Nat) (M : Int) (y z ns : Nat) (fz : Int → Int) (K : Int → Wd → Prop) : Prop := ∀ W A' B', IB G W A' B' (M + 100) y z ns fz → LA A' → CC W A' B' → bD B' = d → bT B' = t → RY W d y t → CR A' (wS W) → FC (wS W) → K 1 W
theorem ec_of {q : Int × St} {v : Int} {A' σ : St} {K : Int → St → Prop} (e : q = (v, A')) (hK : EC A' σ v K) : EC q.2 σ q.1 K := by subst e; exact hK
section AC
variable {G : Gq} {w W W' : Wd} {A A' T : St} {B B' : Bks} {S : List Nat} {mc ms q y z ns row N d b v cap c0 s0 rc rs x vx n L t : Nat} {i j M a vo bo k gr : Int} {σ : St} {fz : Int → Int} {K : Int → Wd → Prop}
theorem AQ.ry (h : AQ G w W A B M y z ns fz row N) : RY W (bD B) y (bT B) := fun r hr => by
  have := h.2.1.1
  rw [this] at hr
  cases hr
  exact h.2.2.1
/-- a number drawn -/
theorem az {K : Int → Wd → Prop} {e : Int} (hD : AQ G w W A B M y z ns fz row N) (hx : XOK G W) (he : 0 < e) (hK : ∀ v W', 0 ≤ v → v < e → XOK G W' → AQ G w W' A B M y z ns fz row N → K v W') : DI G M_Cl_draw [vA y, vI e] W mc ms K := by
  have hy : Ow W y (kA 0 1) := hD.1.2.2.2.2.2.2.2.2
  refine DI.gx (y_draw hy he (fun v x v0 v1 _ hx' _ => ?_))
  have hk : Kp [y] W (uI W y 0 x) := Kp.rf.uI (Or.inl (List.mem_singleton.mpr rfl))
  have hd := hD.1.1.1.1
  refine hK v _ v0 v1 hx' ⟨hD.1.dr hx hx', hD.2.1.fr hk hd.1 (fun hm => ?_) (fun hm => hD.2.2.1.1 (List.mem_singleton.mp hm)), hD.2.2.1, hD.2.2.2⟩
  have h1 := hd.2
  rw [List.mem_singleton.mp hm, hy.2] at h1
  cases h1
/-- nothing is changed -/
theorem AQ.same (h : AQ G w W A B M y z ns fz row N) (hA : LA A) (hN : N ≤ 100000) (hK : RSa G (bD B) (bT B) M y z ns fz K) (hC : CR A σ) (hF : FC σ) : K 1 (uS W σ) := by
  have h1 : IB G (uS W σ) A B M y z ns fz := h.1
  have h2 : OV (uS W σ) A B row N := h.2.1
  exact hK (uS W σ) A B (h1.mono (by omega)) hA (h2.cc hN) rfl rfl h.ry hC hF
theorem AQ.k0 (h : AQ G w W A B M y z ns fz row N) (hk : Kg G [] W W') : AQ G w W' A B M y z ns fz row N := ⟨h.1.k0 hk, h.2.1.k0 h.1.1.1.1.1 hk, h.2.2.1, by rw [hk.1.1]; exact h.2.2.2.1, by rw [hk.1.1]; exact h.2.2.2.2⟩
/-- the terms: one is told -/
theorem y_aT {v9 : Int} {what : Int} (h : AQ G w W A B M y z ns fz row N) (hx : XOK G W) (hA : LA A) (hN : N ≤ 100000) (hK : RSa G (bD B) (bT B) M y z ns fz K) (w0 : 0 ≤ what) (w1 : what < 6) (v0 : 0 ≤ v9) (v1 : v9 ≤ 1000004) : WD G M_Cl_act 278 [(0, vR 0), (1, vA (bD B)), (8, vI what)] [vI v9] W rc rs (yI K) := by
  have bk := h.1.1
  have hd := bk.1.1
  have hT := bk.2.2.2.1
  have refused : ∀ due : Int, q_terms A what v9 = (due, A) → WD G M_Cl_act 442 [(0, vR 0), (6, vI due), (8, vI what), (9, vI v9)] [] W rc rs (yI K) := fun due e =>
    l_Cl_act_8 _ _ _ (c_terms h.2.2.2.1 h.2.2.2.2 (ec_of e (fun σ1 c1 f1 _ => ⟨fun hne => absurd rfl hne, fun _ => h.same hA hN hK c1 f1⟩)))
  by_cases h5 : what = 5
  · have go : ∀ tt : Int, WD G M_Cl_act 378 [(0, vR 0), (1, vA (bD B)), (8, vI what), (9, vI v9)] [vI tt] W rc rs (yI K) := fun tt => by
      refine l_Cl_act_6 _ _ _ _ ⟨fun hne => absurd h5 hne, fun _ => l_Cl_act_7 _ _ _ _ _ ⟨fun _ => refused (-2) ?_, fun h => absurd (by omega) h⟩⟩
      unfold q_terms; rw [if_pos (by omega)]
    exact l_Cl_act_5 _ _ _ ⟨fun _ => ⟨fun _ => ⟨fun _ => ⟨fun _ => ⟨fun _ => go 0, fun _ => go 1⟩, fun e => by omega⟩, fun e => by omega⟩, fun e => by omega⟩, fun e => by omega⟩
  have no : ¬ (leastq what ≤ v9 ∧ v9 ≤ greatq what) → WD G M_Cl_act 378 [(0, vR 0), (1, vA (bD B)), (8, vI what), (9, vI v9)] [vI 0] W rc rs (yI K) := fun hno => by
    refine l_Cl_act_6 _ _ _ _ ⟨fun _ => ⟨fun _ => l_Cl_act_7 _ _ _ _ _ ⟨fun h => by omega, fun _ => ⟨fun _ => refused (-3) ?_, fun hne => absurd rfl hne⟩⟩, fun hne => absurd rfl hne⟩, fun e => absurd e h5⟩
    unfold q_terms; rw [if_neg (by omega), if_pos (by omega)]
  have yes : (leastq what ≤ v9 ∧ v9 ≤ greatq what) → WD G M_Cl_act 378 [(0, vR 0), (1, vA (bD B)), (8, vI what), (9, vI v9)] [vI 1] W rc rs (yI K) := fun hyes => by
    refine l_Cl_act_6 _ _ _ _ ⟨fun _ => ⟨fun e => (by cases e), fun _ => ⟨hd.is, bT B, bk.1.2.2.2.1, 5, hT.1.is, w0, by omega, ?_⟩⟩, fun e => absurd e h5⟩
    rw [hT.2 what w0 (by omega)]
    refine l_Cl_act_7 _ _ _ _ _ ⟨fun h => by omega, fun _ => ⟨fun e => (by cases e), fun _ => ⟨hd.is, bT B, bk.1.2.2.2.1, 5, hT.1, w0, by omega, fun h4 => ?_, fun h4 => ?_⟩⟩⟩
    · refine WD.wf (fun _ hx1 _ => ?_)
      have hk : Kp [bT B] W (uI W (bT B) what v9) := Kp.rf.uI (Or.inl (List.mem_singleton.mpr rfl))
      have e : q_terms A what v9 = (A 6 what, ups A 6 what v9) := by unfold q_terms; rw [if_neg (by omega), if_neg (by omega), if_neg h4]
      have I1 : IB G (uI W (bT B) what v9) (ups A 6 what v9) B M y z ns fz := h.1.tm (Kg.of hk hx hx1) (fun j j0 j1 => by
        by_cases ej : j = what
        · rw [ej, wI_uI_s, ups_s]
        · rw [wI_uI_j ej, ups_f ej]; exact hT.2 j j0 j1) (fun c hc j => ups_c hc)
      have hdn : bD B ∉ [bT B] := fun hm => by
        have h1 := hd.2
        rw [List.mem_singleton.mp hm, hT.1.2] at h1
        cases h1
      have O1 : OV (uI W (bT B) what v9) A B row N := h.2.1.fr hk hd.1 hdn (fun hm => h.2.2.1.2 (List.mem_singleton.mp hm))
      have ok := terms_ok hA.1 (x := what) (y := v9)
      rw [e] at ok
      refine l_Cl_act_8 _ _ _ (c_terms (σ := wS (uI W (bT B) what v9)) h.2.2.2.1 h.2.2.2.2 (ec_of e (fun σ1 c1 f1 _ => ⟨fun hne => absurd rfl hne, fun _ => ?_⟩)))
      have O2 : OV (uS (uI W (bT B) what v9) σ1) A B row N := O1
      have I2 : IB G (uS (uI W (bT B) what v9) σ1) (ups A 6 what v9) B M y z ns fz := I1
      refine hK _ _ B (I2.mono (by omega)) ⟨ok, hA.2.1, hA.2.2.1, hA.2.2.2.1, hA.2.2.2.2⟩ (CC.eq hA.1.1 O2 hN rfl rfl rfl (fun _ _ _ => rfl)) rfl rfl (fun r hr => ?_) c1 f1
      have hr : wR (uI W (bT B) what v9) (bD B) 5 = some r := hr
      rw [O1.1] at hr
      cases hr
      exact h.2.2.1
    · subst h4
      have hne : bD B ≠ bT B := hd.kne hT.1 (by simp)
      refine ⟨hd.sI, WD.wf (fun _ hx1 _ => ?_)⟩
      have hk : Kp [bT B, bD B] W (uI (uI W (bT B) 4 v9) (bD B) 4 v9) := (Kp.rf.uI (Or.inl (by simp))).uI (Or.inl (by simp))
      have e : q_terms A 4 v9 = (A 6 4, ups (ups A 6 4 v9) 0 3 v9) := by unfold q_terms; rw [if_neg (by omega), if_neg (by omega), if_pos rfl]
      have ok := terms_ok hA.1 (x := 4) (y := v9)
      rw [e] at ok
      have I1 : IB G (uI (uI W (bT B) 4 v9) (bD B) 4 v9) (ups (ups A 6 4 v9) 0 3 v9) B M y z ns fz := by
        obtain ⟨⟨a1, a2, a3, ⟨a4, a5⟩, a6, a7⟩, hb, hinj, hn, hf⟩ := id h.1
        have hk2 := Kg.of hk hx hx1
        have ne : ∀ (t : Nat) (kk : Kd), wK W t = kk → kk ≠ kA 0 5 → kk ≠ kO 11 → t ∉ [bT B, bD B] := fun t kk e1 e2 e3 hm => by
          rcases List.mem_cons.mp hm with e | e
          · rw [e, a4.2] at e1; exact e2 e1.symm
          · rw [List.mem_singleton.mp e, hd.2] at e1; exact e3 e1.symm
        refine ⟨⟨⟨a1.1.kp hk, a1.2.1, a1.2.2.1, a1.2.2.2.1, ?_, ?_⟩, a2.kq hk (ne _ _ a2.1.2 (by simp) (by simp)) (fun h => ne _ _ h.2 (by simp) (by simp)), a3.kq hk (ne _ _ a3.1.2 (by simp) (by simp)) (fun h => ne _ _ h.2 (by simp) (by simp)), ⟨a4.kp hk, fun j j0 j1 => ?_⟩, fun i b c => ?_, fun i b c => (a7 i b c).kg hk2 (ne _ _ (a7 i b c).1.2 (by simp) (by simp))⟩, hb, hinj, hn, hf.kp hk⟩
        · rw [wI_uI_j (by decide), wI_uI_a hne]; exact a1.2.2.2.2.1
        · rw [wI_uI_s, ups_s]
        · rw [wI_uI_a hne.symm, ups_c (by decide)]
          by_cases ej : j = 4
          · rw [ej, wI_uI_s, ups_s]
          · rw [wI_uI_j ej, ups_f ej]; exact a5 j j0 j1
        · exact (a6 i b c).kp hk (ne _ _ (a6 i b c).1.2 (by simp) (by simp))
      have O1 : OV (uI (uI W (bT B) 4 v9) (bD B) 4 v9) A B row N := by
        refine ⟨h.2.1.1, h.2.1.2.1, h.2.1.2.2.kp hk (fun hm => ?_)⟩
        rcases List.mem_cons.mp hm with e | e
        · exact h.2.2.1.2 e
        · have h1 := h.2.1.2.2.1.2
          rw [List.mem_singleton.mp e, hd.2] at h1
          cases h1
      have hS1 : wS (uI (uI W (bT B) 4 v9) (bD B) 4 v9) = wS W := rfl
      generalize uI (uI W (bT B) 4 v9) (bD B) 4 v9 = W1 at hx1 hk I1 O1 hS1 ⊢
      refine l_Cl_act_8 _ _ _ (c_terms (by rw [hS1]; exact h.2.2.2.1) (by rw [hS1]; exact h.2.2.2.2) (ec_of e (fun σ1 c1 f1 _ => ⟨fun hne => absurd rfl hne, fun _ => ?_⟩)))
      have O2 : OV (uS W1 σ1) A B row N := O1
      have I2 : IB G (uS W1 σ1) (ups (ups A 6 4 v9) 0 3 v9) B M y z ns fz := I1
      refine hK _ _ B (I2.mono (by omega)) ⟨ok, hA.2.1, hA.2.2.1, hA.2.2.2.1, hA.2.2.2.2⟩ (CC.eq hA.1.1 O2 hN rfl rfl rfl (fun _ _ _ => rfl)) rfl rfl (fun r hr => ?_) c1 f1
      have hr : wR W1 (bD B) 5 = some r := hr
      rw [O1.1] at hr
      cases hr
      exact h.2.2.1
  have lo0 : leastq 0 = 1 := rfl
  have lo1 : leastq 1 = 1 := rfl
  have gr0 : greatq 0 = 9999999 := rfl
  have gr1 : greatq 1 = 500 := rfl
  have lo2 : leastq 2 = 0 := rfl
  have gr2 : greatq 2 = 9 := rfl
  have lo3 : leastq 3 = 0 := rfl
  have gr3 : greatq 3 = 1 := rfl
  have lo4 : leastq 4 = 0 := rfl
  have gr4 : greatq 4 = 1000003 := rfl
  refine l_Cl_act_5 _ _ _ ⟨fun n0 => ⟨fun n1 => ⟨fun n2 => ⟨fun n3 => ?_, fun e => ?_⟩, fun e => ?_⟩, fun e => ?_⟩, fun e => ?_⟩
  · have e4 : what = 4 := by omega
    rw [e4] at no yes ⊢
    exact ⟨fun h => no (by omega), fun h => yes (by omega)⟩
  · rw [e] at no yes ⊢
    exact ⟨fun h => no (by omega), fun h => yes (by omega)⟩
  · rw [e] at no yes ⊢
    exact ⟨fun h => no (by omega), fun h => yes (by omega)⟩
  · rw [e] at no yes ⊢
    exact ⟨fun h => no (by omega), fun h => ⟨fun h2 => no (by omega), fun h2 => yes (by omega)⟩⟩
  · rw [e] at no yes ⊢
    exact ⟨fun h => no (by omega), fun h => yes (by omega)⟩
/-- one item more -/
theorem y_aA (h : AQ G w W A B M y z ns fz row N) (hx : XOK G W) (hA : LA A) (hM0 : 0 ≤ M) (hM : M ≤ 600000) (hN : N ≤ 100000) (hK : RSa G (bD B) (bT B) M y z ns fz K) (a0 : 0 ≤ a) (a1 : a ≤ 4 ∨ 99 < a) (v0 : 0 ≤ vo) (b0 : -30 ≤ bo) (b1 : bo ≤ 300 ∨ 99999 < bo) (hc : 2 ≤ rc) (hs : 77 ≤ rs) : WD G M_Cl_act 535 [(0, vR 0), (1, vA (bD B)), (4, vI (A 0 0)), (8, vI a), (9, vI vo)] [vI bo] W rc rs (yI K) := by
  have bk := h.1.1
  have hd := bk.1.1
  have hA48 := hA.1.1.2.1
  have hA0 := hA.1.1.1
  have h02 := hA.1.2.2.1
  have ref : ∀ due : Int, due < 0 → q_add A a vo bo = (due, A) → WD G M_Cl_act 604 [(0, vR 0), (1, vA (bD B)), (8, vI a), (9, vI vo), (10, vI bo)] [vI due] W rc rs (yI K) := fun due hdue e =>
    l_Cl_act_13 _ _ _ _ _ ⟨fun _ => l_Cl_act_14 _ _ _ _ (c_add h.2.2.2.1 h.2.2.2.2 hA.1 (ec_of e (fun σ1 c1 f1 _ => ⟨fun hne => absurd rfl hne, fun _ => h.same hA hN hK c1 f1⟩))), fun hge => absurd hdue hge⟩
  have ref3 : (99 < a ∨ 9999 < vo ∨ 99999 < bo) → WD G M_Cl_act 604 [(0, vR 0), (1, vA (bD B)), (8, vI a), (9, vI vo), (10, vI bo)] [vI (-3)] W rc rs (yI K) := fun hh => ref (-3) (by omega) (by unfold q_add; rw [if_pos (by omega)])
  refine l_Cl_act_12 _ _ _ _ _ ⟨fun h1 => ref3 (Or.inl h1), fun h1 => ⟨fun h2 => ref3 (Or.inr (Or.inl h2)), fun h2 => ⟨fun h3 => ⟨fun h4 => ⟨hd.is, bS B, bk.1.2.2.1, bk.2.2.1.1.is, v_Al_isEmpty bk.2.2.1 ⟨fun h5 => ?_, fun h5 => y_find bk hA.1.1 ⟨fun h6 => ?_, fun h6 => ?_⟩⟩⟩, fun h4 => ?_⟩, fun h3 => ref3 (Or.inr (Or.inr (by omega)))⟩⟩⟩
  · refine ref (-5) (by omega) ?_
    have : ¬ A 0 2 = 0 := fun e => by rw [if_pos e] at h5; cases h5
    unfold q_add
    rw [if_neg (by omega), if_neg h4, if_pos (Or.inl (by omega))]
  · -- it comes in
    have hR0 : A 0 2 = 0 := by
      by_cases e : A 0 2 = 0
      · exact e
      · rw [if_neg e] at h5; exact absurd rfl h5
    have hpl : plcq A a vo = -1 := by
      rcases plcq_in hA.1.1 (a := a) (v := vo) with e | e
      · exact e
      · omega
    have e : q_add A a vo bo = (A 0 0, addI A a vo bo) := by
      unfold q_add
      rw [if_neg (by omega), if_neg h4, if_neg (by omega)]
    have ok := add_ok hA.1 (a := a) (v := vo) (b := bo)
    rw [e] at ok
    refine l_Cl_act_13 _ _ _ _ _ ⟨fun hneg => by omega, fun _ => ⟨by omega, by omega, fun q hq => e_It_init q ⟨Ow.nw, ?_⟩⟩⟩
    have k1 : Kp [] W (uI (uI (uI (uI (uN W q (kO 13)) q 3 (-1)) q 0 a) q 1 vo) q 2 bo) := ((((Kp.rf.uN hq.1).uI (Or.inr hq.1)).uI (Or.inr hq.1)).uI (Or.inr hq.1)).uI (Or.inr hq.1)
    have oq : Ow (uI (uI (uI (uI (uN W q (kO 13)) q 3 (-1)) q 0 a) q 1 vo) q 2 bo) q (kO 13) := ((((Ow.sN (w := W)).sI).sI).sI).sI
    have q0 : wI (uI (uI (uI (uI (uN W q (kO 13)) q 3 (-1)) q 0 a) q 1 vo) q 2 bo) q 0 = a := by rw [wI_uI_j (by decide), wI_uI_j (by decide), wI_uI_s]
    have q1 : wI (uI (uI (uI (uI (uN W q (kO 13)) q 3 (-1)) q 0 a) q 1 vo) q 2 bo) q 1 = vo := by rw [wI_uI_j (by decide), wI_uI_s]
    have q2 : wI (uI (uI (uI (uI (uN W q (kO 13)) q 3 (-1)) q 0 a) q 1 vo) q 2 bo) q 2 = bo := by rw [wI_uI_s]
    have q3 : wI (uI (uI (uI (uI (uN W q (kO 13)) q 3 (-1)) q 0 a) q 1 vo) q 2 bo) q 3 = -1 := by rw [wI_uI_j (by decide), wI_uI_j (by decide), wI_uI_j (by decide), wI_uI_s]
    have hdR : wR (uI (uN W q (kO 13)) q 3 (-1)) (bD B) 0 = some (bI B) := yRI.trans ((wR_uN (k := kO 13) (hq.ne (G := G) hd.is)).trans bk.1.2.1)
    refine ⟨(hd.kp k1).is, bI B, hdR, 1, 73, by omega, by omega, (bk.2.1.1.kp k1).is, ?_⟩
    generalize uI (uI (uI (uI (uN W q (kO 13)) q 3 (-1)) q 0 a) q 1 vo) q 2 bo = W1 at k1 oq q0 q1 q2 q3 ⊢
    refine DC.wf (fun _ hx1 => ?_)
    have h1' := h.k0 (Kg.of k1 hx hx1)
    refine y_addI h1'.1 (by omega) hA0 (by omega) hx1 oq q0 q1 q2 q3 (fun i i0 i1 e => hq.1 (e ▸ (bk.2.2.2.2.1 i i0 i1).1.1)) (Nat.le_refl _) (Nat.le_refl _) (fun W2 S r n hx2 hk2 hS2 I2 => ?_)
    refine l_Cl_act_14 _ _ _ _ (c_add (by rw [hk2.1.1]; exact h1'.2.2.2.1) (by rw [hk2.1.1]; exact h1'.2.2.2.2) hA.1 (ec_of e (fun σ1 c1 f1 _ => ⟨fun hne => absurd rfl hne, fun _ => ?_⟩)))
    have nk : ∀ {t : Nat} {kk : Kd}, Ow W1 t kk → kk ≠ kO 14 → (∀ n, kk ≠ kR 4 n) → t ∉ S := fun hO h1 h2 hm => by
      rcases hS2 _ hm hO.1 with e | ⟨n, e⟩
      · exact h1 (hO.2.symm.trans e)
      · exact h2 n (hO.2.symm.trans e)
    have hd1 := h1'.1.1.1.1
    have O2 : OV W2 A B row N := h1'.2.1.fr hk2.1 hd1.1 (nk hd1 (by simp) (by simp)) (nk h1'.2.1.2.2.1 (by simp) (by simp))
    have O3 : OV (uS W2 σ1) A B row N := O2
    have I3 : IB G (uS W2 σ1) (addI A a vo bo) (bIt B r n (bIm B + 1) (fup (bF B) (A 0 0) q)) (M + 1) y z ns fz := I2
    have hLT : LT A := ⟨hA.1.1, hA.2.1, hA.2.2.1, hA.2.2.2.1⟩
    have hLT2 := hLT.add (a := a) (v := vo) (b := bo) (by omega) hpl a0 (by omega) v0 (by omega) (by omega) (by omega)
    refine hK _ _ _ (I3.mono (by omega)) ⟨ok, hLT2.2.1, hLT2.2.2.1, hLT2.2.2.2, (addI_0j (by decide)).trans hA.2.2.2.2⟩ (CC.ad hA.1.1 O3 hN rfl addI_0 (addI_0j (by decide)) (fun i i0 i1 => addI_old i1 (by decide))) rfl rfl (fun r hr => ?_) c1 f1
    have hr : wR W2 (bD B) 5 = some r := hr
    rw [O2.1] at hr
    cases hr
    exact h.2.2.1
  · refine ref (-5) (by omega) ?_
    unfold q_add
    rw [if_neg (by omega), if_neg h4, if_pos (Or.inr (by omega))]
  · refine ref (-4) (by omega) ?_
    unfold q_add
    rw [if_neg (by omega), if_pos h4]
/-- an item written, the class told -/
theorem y_aI {A' : St} (h : AQ G w W A B M y z ns fz row N) (hx : XOK G W) (hx1 : XOK G W') (hN : N ≤ 100000) (hA : OKL A) (hK : RSa G (bD B) (bT B) M y z ns fz K) (j0 : 0 ≤ j) (j1 : j < A 0 0) (hk : Kp [bF B j] W W') (hi : IM W' A' (bF B j) j) (ec : ∀ c i, ¬ ((c = 3 ∨ c = 4) ∧ i = j) → A' c i = A c i) (hA' : LA A') (hcc : OV W' A B row N → CC W' A' B) (hC : CR A' σ) (hF : FC σ) : K 1 (uS W' σ) := by
  have bk := h.1.1
  have hd := bk.1.1
  have im := bk.2.2.2.2.1 j j0 j1
  have I1 := h.1.it j0 j1 (Kg.of hk hx hx1) hi ec
  have hdn : bD B ∉ [bF B j] := fun hm => by
    have h1 := hd.2
    rw [List.mem_singleton.mp hm, im.1.2] at h1
    cases h1
  have hrn : row ∉ [bF B j] := fun hm => by
    have h1 := h.2.1.2.2.1.2
    rw [List.mem_singleton.mp hm, im.1.2] at h1
    cases h1
  have O1 : OV W' A B row N := h.2.1.fr hk hd.1 hdn hrn
  have I2 : IB G (uS W' σ) A' B M y z ns fz := I1
  have C2 : CC (uS W' σ) A' B := hcc O1
  refine hK _ _ B (I2.mono (by omega)) hA' C2 rfl rfl (fun r hr => ?_) hC hF
  have hr : wR W' (bD B) 5 = some r := hr
  rw [O1.1] at hr
  cases hr
  exact h.2.2.1
end AC
