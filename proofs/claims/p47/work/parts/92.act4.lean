-- an act: a text told; and all of them
/-- before the first act: no row of owners may be kept yet -/
def TQ (G : Gq) (W : Wd) (A : St) (B : Bks) (M : Int) (y z ns : Nat) (fz : Int → Int) (ro : Option Nat) (N : Nat) : Prop := IB G W A B M y z ns fz ∧ (wR W (bD B) 5 = ro ∧ OQ W ro N) ∧ (∀ r, ro = some r → r ≠ y ∧ r ≠ bT B) ∧ CR A (wS W) ∧ FC (wS W)
section AZ
variable {G : Gq} {w W W' : Wd} {A A' T : St} {B B' : Bks} {S : List Nat} {mc ms q y z ns row N d b v cap c0 s0 rc rs x vx n L t : Nat} {i j M a vo bo k gr M' how : Int} {σ : St} {fz : Int → Int} {K : Int → Wd → Prop} {xp ro : Option Nat}
theorem AQ.tq (h : AQ G w W A B M y z ns fz row N) : TQ G W A B M y z ns fz (some row) N := ⟨h.1, ⟨h.2.1.1, fun r e => by cases e; exact h.2.1.2.2.1⟩, fun r e => by cases e; exact h.2.2.1, h.2.2.2⟩
theorem bz {K : Int → Wd → Prop} {e : Int} (hD : TQ G W A B M y z ns fz ro N) (hx : XOK G W) (he : 0 < e) (hK : ∀ v W', 0 ≤ v → v < e → XOK G W' → TQ G W' A B M y z ns fz ro N → K v W') : DI G M_Cl_draw [vA y, vI e] W mc ms K := by
  have hy : Ow W y (kA 0 1) := hD.1.2.2.2.2.2.2.2.2
  refine DI.gx (y_draw hy he (fun v x v0 v1 _ hx' _ => ?_))
  have hk : Kp [y] W (uI W y 0 x) := Kp.rf.uI (Or.inl (List.mem_singleton.mpr rfl))
  exact hK v _ v0 v1 hx' ⟨hD.1.dr hx hx', ⟨hD.2.1.1, hD.2.1.2.kp hk⟩, hD.2.2.1, hD.2.2.2⟩
/-- a text told -/
theorem y_aX (h : TQ G W A B M y z ns fz ro N) (hx : XOK G W) (hA : LA A) (hM0 : 0 ≤ M) (hM : M ≤ 600000) (hN : N ≤ 100000) (hK : RSa G (bD B) (bT B) M y z ns fz K) (hc : 2046 ≤ rc) (hs : 8230 ≤ rs) : WD G M_Cl_act 69 [(0, vR 0), (1, vA (bD B)), (2, vA y)] [] W rc rs (yI K) := by
  have h4 := hA.2.2.2.2
  have hT2 := h.1.1.1.2.2.2.1
  refine l_Cl_act_3 _ _ ⟨2000, 8000, by omega, by omega, y_drawnT h.1 hM0 (by omega) h.2.1.1 h.2.1.2 (Nat.le_refl _) (Nat.le_refl _) (fun W1 T B' s vs n X L hx1 D hT hX hP hL x0 x885 => ?_)⟩
  obtain ⟨I1, hS1, ⟨hR1, hO1⟩, hL1, hbD, hbT⟩ := D
  have hbT : bT B' = bT B := by rw [hT2] at hbT; exact (Option.some.inj hbT).symm
  refine c_text (by rw [hS1]; exact h.2.2.2.1) (by rw [hS1]; exact h.2.2.2.2) hA.1 (ec_of (show q_text A 901 = (-3, A) by unfold q_text; rw [if_pos (by omega)]) (fun σ1 c1 f1 _ => ⟨fun hne => absurd rfl hne, fun _ => ?_⟩))
  refine c_text c1 f1 hA.1 (ec_of (show q_text A (-1) = (-3, A) by unfold q_text; rw [if_pos (by omega)]) (fun σ2 c2 f2 _ => ⟨fun hne => absurd rfl hne, fun _ => ?_⟩))
  refine ⟨s, rfl, 46, 230, by omega, by omega, ?_⟩
  have hX' : TTx G (uS (uS W1 σ1) σ2) s vs n X := hX
  have I1' : IB G (uS (uS W1 σ1) σ2) (txA A T) B' (M + 60) y z ns fz := I1
  have R1' : wR (uS (uS W1 σ1) σ2) (bD B) 5 = ro := hR1
  have O1' : OQ (uS (uS W1 σ1) σ2) ro N := hO1
  have C1 : CR A (wS (uS (uS W1 σ1) σ2)) := c2
  have F1 : FC (wS (uS (uS W1 σ1) σ2)) := f2
  generalize uS (uS W1 σ1) σ2 = U at hX' I1' R1' O1' C1 F1 ⊢
  refine y_feeds hX' (by omega) C1 F1 hA.1 h4 (Nat.le_refl _) (Nat.le_refl _) (fun w2 N2 n0 n1 hl => ?_)
  have f04 : fdA A (tby X) N2 0 4 = N2 := by unfold fdA; rw [if_neg (by omega), if_pos ⟨rfl, rfl⟩, h4]; omega
  have f6 : ∀ j, fdA A (tby X) N2 6 j = A 6 j := fun j => by unfold fdA; rw [if_neg (by omega), if_neg (by omega)]
  have hfd := fdA_ok (f := tby X) hA.1 h4 (by omega : 0 ≤ N2) n1
  have has := hX'.2.2.2.2.2.2
  have hps : psq (fdA A (tby X) N2) X.1 900 (sb (fdA A (tby X) N2) X.1 0) T0 = ((0, -1), T) := hP.all x0 (by omega) (fun j j0 j1 => by
    rw [hr_at j1, fdA_7, if_pos (by omega), h4, Int.sub_zero]
    unfold tby
    rw [if_pos j1]
    have := has j j0 j1
    omega)
  have e : q_text (fdA A (tby X) N2) X.1 = (T 0 0, txA (fdA A (tby X) N2) T) := by
    unfold q_text
    rw [if_neg (by omega), hps, if_neg (fun hne => hne rfl)]
  have ok := text_ok hfd (n := X.1)
  rw [e] at ok
  have ok : OKA (txA (fdA A (tby X) N2) T) := ok
  refine c_text hl.2.2.1 hl.2.2.2 hfd (ec_of e (fun σ3 c3 f3 _ => ?_))
  have hdU : Ow U (bD B) (kO 11) := by rw [← hbD]; exact I1'.1.1.1
  have I2 : IB G (uS w2 (wS U)) (txA A T) B' (M + 60) y z ns fz := I1'.k0 hl.kg
  have I2' : IB G (uS w2 σ3) (txA A T) B' (M + 60) y z ns fz := I2
  have I3 : IB G (uS w2 σ3) (txA (fdA A (tby X) N2) T) B' (M + 60) y z ns fz := I2'.cg (txA_0.trans txA_0.symm) ((txA_z (by omega)).trans (txA_z (by omega)).symm) ((txA_z (by omega)).trans (txA_z (by omega)).symm) (by rw [txA_3, txA_3, f6]) (fun i _ _ => ⟨(txA_i (by omega)).trans (txA_i (by omega)).symm, (txA_i (by omega)).trans (txA_i (by omega)).symm, (txA_i (by omega)).trans (txA_i (by omega)).symm, (txA_i (by omega)).trans (txA_i (by omega)).symm⟩) (fun r r0 r1 => by rw [txA_z (by omega)] at r1; omega) (fun j _ _ => by rw [txA_hi (by omega), txA_hi (by omega), f6])
  have R2 : wR (uS w2 (wS U)) (bD B) 5 = ro := (hl.1.R hdU.1 List.not_mem_nil).trans R1'
  have O2 : OQ (uS w2 (wS U)) ro N := O1'.kp hl.1
  refine ⟨by rw [← hbD]; exact I3.1.1.1.is, bI B', by rw [← hbD]; exact I3.1.1.2.1, I3.1.2.1.1.is, v_Al_size I3.1.2.1 ?_⟩
  rw [txA_0]
  have q0 : q_fault (txA (fdA A (tby X) N2) T) 0 = 0 := by unfold q_fault; rw [if_pos rfl]; exact txA_z (by omega)
  have q1 : q_fault (txA (fdA A (tby X) N2) T) 1 = -1 := by unfold q_fault; rw [if_neg (by decide), if_pos rfl]; exact txA_6
  have q2 : q_fault (txA (fdA A (tby X) N2) T) 2 = -1 := by unfold q_fault; rw [if_neg (by decide), if_neg (by decide)]
  refine ⟨fun hne => absurd rfl hne, fun _ => c_fault c3 f3 (fun σ4 c4 f4 _ => ?_)⟩
  rw [q0]
  refine ⟨fun hne => absurd rfl hne, fun _ => c_fault c4 f4 (fun σ5 c5 f5 _ => ?_)⟩
  rw [q1]
  refine ⟨fun hne => absurd rfl hne, fun _ => c_fault c5 f5 (fun σ6 c6 f6' _ => ?_)⟩
  rw [q2]
  refine ⟨fun hne => absurd rfl hne, fun _ => ?_⟩
  have I4 : IB G (uS (uS (uS (uS w2 σ3) σ4) σ5) σ6) (txA (fdA A (tby X) N2) T) B' (M + 60) y z ns fz := I3
  have R4 : wR (uS (uS (uS (uS w2 σ3) σ4) σ5) σ6) (bD B) 5 = ro := R2
  have O4 : OQ (uS (uS (uS (uS w2 σ3) σ4) σ5) σ6) ro N := O2
  have C6 : CR (txA (fdA A (tby X) N2) T) (wS (uS (uS (uS (uS w2 σ3) σ4) σ5) σ6)) := c6
  have F6 : FC (wS (uS (uS (uS (uS w2 σ3) σ4) σ5) σ6)) := f6'
  generalize uS (uS (uS (uS w2 σ3) σ4) σ5) σ6 = w9 at I4 R4 O4 C6 F6 ⊢
  refine hK w9 _ B' (I4.mono (by omega)) ⟨ok, fun i a b => ?_, fun i j a b c d e1 e2 => ?_, fun i a b => ?_, txA_z (by omega)⟩ ?_ hbD hbT (fun r hr => h.2.2.1 r (R4.symm.trans hr)) C6 F6
  · rw [txA_0] at b; rw [txA_i (by omega)]; exact hT.2.1 i a b
  · rw [txA_0] at b d; rw [txA_i (by omega), txA_i (by omega)] at e1 e2; exact hT.2.2.1 i j a b c d e1 e2
  · rw [txA_0] at b; rw [txA_i (by omega)]; exact hT.2.2.2 i a b
  · cases hro : ro with
    | none => exact Or.inl (by rw [hbD, R4, hro])
    | some r => exact CC.no (B := B') (by rw [hbD, R4, hro]) (O4 r hro) hN (txA_z (by omega)) rfl
/-- an act -/
theorem y_act (hP : (how = 0 ∧ TQ G W A B M y z ns fz ro N) ∨ AQ G w W A B M y z ns fz row N) (hx : XOK G W) (hA : LA A) (hM0 : 0 ≤ M) (hM : M ≤ 600000) (hN : N ≤ 100000) (hK : RSa G (bD B) (bT B) M y z ns fz K) (w0 : 0 ≤ how) (w1 : how < 19) (hc : 2046 ≤ mc) (hs : 8230 ≤ ms) : DI G M_Cl_act [vR 0, vA (bD B), vA y, vI how] W mc ms K := by
  have pI : ∀ {W : Wd}, ((how = 0 ∧ TQ G W A B M y z ns fz ro N) ∨ AQ G w W A B M y z ns fz row N) → IB G W A B M y z ns fz := fun h => by
    rcases h with ⟨_, h⟩ | h
    · exact h.1
    · exact h.1
  have pA : ∀ {W : Wd}, how ≠ 0 → ((how = 0 ∧ TQ G W A B M y z ns fz ro N) ∨ AQ G w W A B M y z ns fz row N) → AQ G w W A B M y z ns fz row N := fun hn h => h.resolve_left (fun e => hn e.1)
  have pz : ∀ {e : Int} {W : Wd} {mc ms : Nat} {K : Int → Wd → Prop}, ((how = 0 ∧ TQ G W A B M y z ns fz ro N) ∨ AQ G w W A B M y z ns fz row N) → XOK G W → 0 < e → (∀ v W', 0 ≤ v → v < e → XOK G W' → ((how = 0 ∧ TQ G W' A B M y z ns fz ro N) ∨ AQ G w W' A B M y z ns fz row N) → K v W') → DI G M_Cl_draw [vA y, vI e] W mc ms K := fun h hx he hK => by
    rcases h with ⟨e, h⟩ | h
    · exact bz h hx he (fun v W' a b x t => hK v W' a b x (Or.inl ⟨e, t⟩))
    · exact az h hx he (fun v W' a b x t => hK v W' a b x (Or.inr t))
  have hA48 := hA.1.1.2.1
  have s63 : ∀ (i : Int) (xp : Option Nat) (W : Wd), ((how = 0 ∧ TQ G W A B M y z ns fz ro N) ∨ AQ G w W A B M y z ns fz row N) → XOK G W → 0 ≤ i → ((xp = some (bF B i) ∧ i < A 0 0) ∨ (xp = none ∧ A 0 0 ≤ i)) → WD G M_Cl_act 63 [(0, vR 0), (1, vA (bD B)), (2, vA y), (3, vI how), (4, vI (A 0 0)), (5, vI i)] [vP xp] W mc ms (yI K) := by
    intro i xp W hP hx i0 hi
    refine l_Cl_act_2 _ _ _ _ _ _ ⟨fun h0 => ?_, fun h0 => ?_⟩
    · have h := pA h0 hP
      refine ⟨fun _ => y_aTd h hx hA hN hK, fun _ => ⟨fun _ => ⟨fun _ => ⟨fun _ => ⟨fun _ => ⟨fun _ => ⟨fun _ => ⟨fun _ => ⟨fun _ => y_aR h hx hA (by omega) hN hK (by omega) (by omega), fun _ => y_aC h hx hA (by omega) hN hK⟩, fun _ => y_aN h hx hA hN hK (by omega) (by omega)⟩, fun _ => y_aVd h hx hA hN hK (by omega) (by omega)⟩, fun _ => y_aF h hx hA hN hK i0 hi⟩, fun _ => y_aD h hx hA hN hK i0 hi⟩, fun _ => ?_⟩, fun _ => y_aAd h hx hA hM0 hM hN hK (by omega) (by omega)⟩, fun _ => y_aTd h hx hA hN hK⟩⟩
      exact l_Cl_act_15 _ _ _ _ (az h hx (by omega) (fun v1 W1 _ _ x1 q1 => ⟨fun _ => az q1 x1 (by omega) (fun v2 W2 a2 b2 x2 q2 => ⟨inR_of (by omega) (by omega), y_aP q2 x2 hA hN hK i0 hi (by omega)⟩), fun _ => y_aP q1 x1 hA hN hK i0 hi (by omega)⟩))
    · rcases hP with ⟨_, h⟩ | h
      · exact y_aX h hx hA hM0 hM hN hK hc hs
      · exact y_aX h.tq hx hA hM0 hM hN hK hc hs
  have s38 : ∀ (i : Int) (W : Wd), ((how = 0 ∧ TQ G W A B M y z ns fz ro N) ∨ AQ G w W A B M y z ns fz row N) → XOK G W → 0 ≤ i → WD G M_Cl_act 38 [(0, vR 0), (1, vA (bD B)), (2, vA y), (3, vI how), (4, vI (A 0 0))] [vI i] W mc ms (yI K) := by
    intro i W hP hx i0
    have bk := (pI hP).1
    refine l_Cl_act_1 _ _ _ _ _ ⟨fun h1 => s63 i none W hP hx i0 (Or.inr ⟨rfl, h1⟩), fun h1 => ⟨bk.1.1.is, bI B, bk.1.2.1, bk.2.1.1.is, v_Al_get bk.2.1 i0 (by omega) ⟨bF B i, rfl, (bk.2.2.2.2.1 i i0 (by omega)).1.is, s63 i _ W hP hx i0 (Or.inl ⟨rfl, by omega⟩)⟩⟩⟩
  have bk := (pI hP).1
  have hA0 := hA.1.1.1
  exact e_Cl_act _ _ _ ⟨bk.1.1.is, bI B, bk.1.2.1, bk.2.1.1.is, v_Al_size bk.2.1 (pz hP hx (by omega) (fun v1 W1 a1 b1 x1 p1 => ⟨fun _ => ⟨fun h0 => pz p1 x1 (by omega) (fun v2 W2 a2 b2 x2 p2 => s38 v2 W2 p2 x2 a2), fun _ => s38 0 W1 p1 x1 (Int.le_refl _)⟩, fun _ => s38 (A 0 0) W1 p1 x1 hA0⟩))⟩
end AZ
