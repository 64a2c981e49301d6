-- a ledger drawn as a text: begun anew
section DZ
variable {G : Gq} {w0 w W W' : Wd} {A T : St} {B : Bks} {S : List Nat} {mc ms q y z ns N d b v cap c0 s0 rc rs x vx n L : Nat} {i j M a vo bo k gr : Int} {σ : St} {fz : Int → Int} {row : Option Nat} {X X' U : Txt}
theorem y_drawnT {K : Option Nat → Wd → Prop} (h : IB G w A B M y z ns fz) (hM0 : 0 ≤ M) (hM : M ≤ 700000) (hrow : wR w (bD B) 5 = row) (hrO : OQ w row N) (hc : 2000 ≤ mc) (hs : 8000 ≤ ms)
    (hK : ∀ W T B' s vs n X L, XOK G W → DBk G w W A T B' (M + 60) y z ns fz row N (bD B) → LT T → TTx G W s vs n X → PRQ X T L → L ≤ 40 → 0 ≤ X.1 → X.1 ≤ 885 → K (some s) W) : DP G M_Cl_drawn [vA (bD B), vA y] w mc ms K := by
  refine DC.wf fun hσ hx => ?_
  refine e_Cl_drawn (bD B) y ⟨by omega, by omega, fun b hb => ⟨1, 16, by omega, by omega, ?_⟩⟩
  refine DV.gx (v_Sb_init Ow.nw wI_uN_s (Nat.le_refl _) (Nat.le_refl _) (fun w1 v hv hk1 hQ1 _ hx1 _ => ?_))
  have k1 : Kp [] w w1 := (Kp.rf.uN hb.1).trd hk1 (fun t ht => Or.inr (by rw [List.mem_singleton.mp ht]; exact hb.1))
  have I1 := h.k0 (Kg.of k1 hx hx1)
  have Q1 : QB G w1 b v 16 T00 := ⟨hQ1, hv.2, by omega⟩
  refine ⟨I1.1.1.1.is, bI B, I1.1.1.2.1, I1.1.2.1.1.is, y_clrI (M := M) I1 (by omega) hx1 (fun w2 S2 hx2 hk2 hS2 I2 => ?_)⟩
  have nk : ∀ {W : Wd} {S : List Nat} {t : Nat} {kk : Kd}, (∀ b ∈ S, b ∈ wL W → wK W b = kO 14 ∨ ∃ n, wK W b = kR 4 n) → Ow W t kk → kk ≠ kO 14 → (∀ n, kk ≠ kR 4 n) → t ∉ S := fun hS hO h1 h2 hm => by
    rcases hS _ hm hO.1 with e | ⟨n, e⟩
    · exact h1 (hO.2.symm.trans e)
    · exact h2 n (hO.2.symm.trans e)
  have Q2 := Q1.kp hk2.1 (nk hS2 Q1.1.1 (by simp) (by simp)) (nk hS2 Q1.1.2.2.2.2.1 (by simp) (by simp))
  have hR2 : wR w2 (bD B) 1 = some (bS B) := I2.1.1.2.2.1
  refine ⟨bS B, hR2, I2.1.2.2.1.1.is, y_clrS (B := bIt B (bIr B) (bIn B) (bIm B + 1) (bF B)) (M := M + 1) I2 (by omega) hx2 (fun w3 S3 hx3 hk3 hS3 I3 => ?_)⟩
  have Q3 := Q2.kp hk3.1 (nk hS3 Q2.1.1 (by simp) (by simp)) (nk hS3 Q2.1.2.2.2.2.1 (by simp) (by simp))
  have hd3 : BKd w3 (ups (ups A 0 0 0) 0 2 0) B := I3.1.1
  have hO3 := hd3.1
  have hT3 := I3.1.2.2.2.1
  have hbT : bT (bSt (bIt B (bIr B) (bIn B) (bIm B + 1) (bF B)) (bSm (bIt B (bIr B) (bIn B) (bIm B + 1) (bF B)) + 1)) = bT B := rfl
  rw [hbT] at hT3
  have hne : bT B ≠ bD B := hT3.1.kne hO3 (by simp)
  refine ⟨hO3, bT B, hd3.2.2.2.1, 5, hT3.1.sI.is, by omega, ?_⟩
  have e4 : wI (uI w3 (bD B) 3 0) (bT B) 4 = A 6 4 := (wI_uI_a hne).trans ((hT3.2 4 (by omega) (by omega)).trans ((ups_c (by decide)).trans (ups_c (by decide))))
  rw [e4]
  refine DC.wf fun _ hx4 => ?_
  have k4 : Kp [bD B] w3 (uI (uI w3 (bD B) 3 0) (bD B) 4 (A 6 4)) := (Kp.rf.uI (Or.inl (List.mem_singleton.mpr rfl))).uI (Or.inl (List.mem_singleton.mpr rfl))
  have I4 : IB G (uI (uI w3 (bD B) 3 0) (bD B) 4 (A 6 4)) (txA A T0) (bSt (bIt B (bIr B) (bIn B) (bIm B + 1) (bF B)) (bSm (bIt B (bIr B) (bIn B) (bIm B + 1) (bF B)) + 1)) (M + 1 + 1) y z ns fz := by
    have I3' : IB G (uI (uI w3 (bD B) 3 0) (bD B) 4 (A 6 4)) (ups (ups (ups (ups A 0 0 0) 0 2 0) 0 1 0) 0 3 (A 6 4)) (bSt (bIt B (bIr B) (bIn B) (bIm B + 1) (bF B)) (bSm (bIt B (bIr B) (bIn B) (bIm B + 1) (bF B)) + 1)) (M + 1 + 1) y z ns fz := by
      refine I3.kd (Kg.of k4 hx3 hx4) ⟨hO3.kp k4, hd3.2.1, hd3.2.2.1, hd3.2.2.2.1, ?_, ?_⟩ ?_ ?_ (fun c hc0 j => ?_)
      · show wI (uI (uI w3 (bD B) 3 0) (bD B) 4 (A 6 4)) (bD B) 3 = _
        rw [wI_uI_j (by decide), wI_uI_s, ups_f (by decide), ups_s]
      · show wI (uI (uI w3 (bD B) 3 0) (bD B) 4 (A 6 4)) (bD B) 4 = _
        rw [wI_uI_s, ups_s]
      · rw [ups_f (by decide), ups_f (by decide)]
      · rw [ups_f (by decide), ups_f (by decide)]
      · rw [ups_c hc0, ups_c hc0]
    refine I3'.cg ?_ ?_ ?_ ?_ (fun i i0 i1 => ?_) (fun r r0 r1 => ?_) (fun j j0 j1 => ?_)
    · rw [txA_0, ups_f (by decide), ups_f (by decide), ups_f (by decide), ups_s]; rfl
    · rw [txA_z (Or.inl rfl), ups_f (by decide), ups_s]
    · rw [txA_z (Or.inr (Or.inl rfl)), ups_f (by decide), ups_f (by decide), ups_s]
    · rw [txA_3, ups_s]
    · rw [ups_f (by decide), ups_f (by decide), ups_f (by decide), ups_s] at i1; omega
    · rw [ups_f (by decide), ups_f (by decide), ups_s] at r1; omega
    · rw [txA_hi (by decide), ups_c (by decide), ups_c (by decide), ups_c (by decide), ups_c (by decide)]
  have hbd : ∀ {W : Wd} {X : Txt} {v cap : Nat}, QB G W b v cap X → Ow W (bD B) (kO 11) → b ∉ [bD B] ∧ v ∉ [bD B] := fun hQ hO => by
    refine ⟨fun hm => ?_, fun hm => ?_⟩
    · have h1 := hQ.1.1.2
      rw [List.mem_singleton.mp hm, hO.2] at h1
      cases h1
    · have h1 := hQ.1.2.2.2.2.1.2
      rw [List.mem_singleton.mp hm, hO.2] at h1
      cases h1
  have Q4 := Q3.kp k4 (hbd Q3 hO3).1 (hbd Q3 hO3).2
  have hO2 : Ow w2 (bD B) (kO 11) := I2.1.1.1
  have hO1 : Ow w1 (bD B) (kO 11) := I1.1.1.1
  have hO0 : Ow w (bD B) (kO 11) := h.1.1.1
  have R1 : wR w1 (bD B) 5 = row := (k1.R hO0.1 List.not_mem_nil).trans hrow
  have R2 : wR w2 (bD B) 5 = row := (hk2.1.R hO1.1 (nk hS2 hO1 (by simp) (by simp))).trans R1
  have R3 : wR w3 (bD B) 5 = row := (hk3.1.R hO2.1 (nk hS3 hO2 (by simp) (by simp))).trans R2
  have D4 : DBk G w (uI (uI w3 (bD B) 3 0) (bD B) 4 (A 6 4)) A T0 (bSt (bIt B (bIr B) (bIn B) (bIm B + 1) (bF B)) (bSm (bIt B (bIr B) (bIn B) (bIm B + 1) (bF B)) + 1)) (M + 1 + 1) y z ns fz row N (bD B) :=
    ⟨I4, hk3.1.1.trans (hk2.1.1.trans k1.1), ⟨R3, (((hrO.kp k1).kp hk2.1).kp hk3.1).kp k4⟩, fun a ha => k4.L (hk3.1.L (hk2.1.L (k1.L ha))), rfl, h.1.1.2.2.2.1⟩
  generalize uI (uI w3 (bD B) 3 0) (bD B) 4 (A 6 4) = w4 at hx4 k4 I4 Q4 D4 ⊢
  -- the lines
  have go : ∀ (c : Int) (W : Wd), 0 ≤ c → c ≤ 28 → XOK G W → DBk G w W A T0 (bSt (bIt B (bIr B) (bIn B) (bIm B + 1) (bF B)) (bSm (bIt B (bIr B) (bIn B) (bIm B + 1) (bF B)) + 1)) (M + 1 + 1) y z ns fz row N (bD B) → QB G W b v 16 T00 → WD G M_Cl_drawn 62 [(0, vA (bD B)), (1, vA y), (2, vA b)] [vI c] W (mc - 1 - 1) (ms - 4 - 16) (yP K) := by
    intro c W c0 c1 hxW hDW hQW
    refine l_Cl_drawn_1 _ _ _ _ (dz hDW hxW (by omega) (fun g W5 g0 g1 hx5 D5 ky5 => ?_))
    have Q5 := hQW.ky ky5 hDW.yy.2
    have run : ∀ gr : Int, 0 < gr → gr ≤ 900 → WD G M_Cl_drawn 80 [(0, vA (bD B)), (1, vA y), (2, vA b), (3, vI c)] [vI gr] W5 (mc - 1 - 1) (ms - 4 - 16) (yP K) := fun gr gr0 gr1 => by
      refine l_Cl_drawn_2 _ _ _ _ _ ?_
      have := y_dL (K := K) (M := M + 2) (by omega) gr0 gr1 (fun W' T B' s vs n X L hx' hD' hLT hX hP hL hX0 hX1 => hK W' T B' s vs n X L hx' ⟨hD'.1.mono (by have := hLT.1.2.1; omega), hD'.2⟩ hLT hX hP hL hX0 hX1) c.toNat W5 T0 _ v 16 T00 0 (mc - 1 - 1) (ms - 4 - 16) hx5 ⟨by rw [show (T0 0 0 : Int) = 0 from rfl, show M + 2 + 0 = M + 1 + 1 by omega]; exact D5, LT0, Q5, PRQ.nil, by rw [T00_len]; omega, by rw [T00_len]; omega⟩ (by omega) (by omega) (by omega)
      rw [Int.toNat_of_nonneg c0] at this
      exact this
    exact ⟨fun _ => run 180 (by omega) (by omega), fun _ => run 900 (by omega) (by omega)⟩
  refine dz D4 hx4 (by omega) (fun v6 W5 v60 v61 hx5 D5 ky5 => ?_)
  have Q5 := Q4.ky ky5 D4.yy.2
  refine ⟨fun _ => dz D5 hx5 (by omega) (fun l W6 l0 l1 hx6 D6 ky6 => ⟨inR_s (by omega) (by omega), go _ W6 (by omega) (by omega) hx6 D6 (Q5.ky ky6 D5.yy.2)⟩), fun _ => dz D5 hx5 (by omega) (fun l W6 l0 l1 hx6 D6 ky6 => go _ W6 l0 (by omega) hx6 D6 (Q5.ky ky6 D5.yy.2))⟩
end DZ
