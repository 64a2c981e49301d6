-- the books made
def tmq (j : Int) : Int := if j = 0 then 50000 else if j = 1 then 50 else if j = 4 then 7 else 0
def Az : St := fun c j => if c = 0 then (if j = 3 then 7 else if j = 6 then -1 else 0) else if c = 6 then tmq j else 0
theorem Az_LA : LA Az := by
  refine ⟨⟨⟨Int.le_refl _, by show (0 : Int) ≤ 48; omega, fun i a b => ?_⟩, ⟨Int.le_refl _, by show (0 : Int) ≤ 4799952; omega⟩, ⟨Int.le_refl _, by show (0 : Int) ≤ 5; omega, fun h => ?_, fun r a b => ?_⟩, ⟨by show (0 : Int) ≤ 7; omega, by show (7 : Int) ≤ 1000003; omega⟩, ⟨Int.le_refl _, by show (0 : Int) ≤ 900; omega⟩, ⟨by show (1 : Int) ≤ 50000; omega, by show (50000 : Int) ≤ 9999999; omega⟩, ⟨by show (1 : Int) ≤ 50; omega, by show (50 : Int) ≤ 500; omega⟩, ⟨by show (0 : Int) ≤ 0; omega, by show (0 : Int) ≤ 9; omega⟩, ⟨by show (0 : Int) ≤ 0; omega, by show (0 : Int) ≤ 1; omega⟩, ⟨by show (0 : Int) ≤ 7; omega, by show (7 : Int) ≤ 1000003; omega⟩⟩, fun i a b => ?_, fun i j a b _ _ _ _ => ?_, fun i a b => ?_, rfl⟩
  · have b : i < 0 := b
    omega
  · have h : (0 : Int) < 0 := h
    omega
  · have b : r < 0 := b
    omega
  · have b : i < 0 := b
    omega
  · have b : i < 0 := b
    omega
  · have b : i < 0 := b
    omega
section BM
variable {G : Gq} {w u v W w5 w12 : Wd} {mc ms q y z ns rc rs q3 qa qb qt L : Nat} {j v0 : Int} {fz : Int → Int} {xs : Nat → Int32} {nm : String} {K : Int → Wd → Prop}
/-- the terms' row written -/
theorem bk_terms (hq : qt ∉ wL v) : Kp [] v (uI (uI (uI (uI (uI (uN v qt (kA 0 5)) qt 0 50000) qt 1 50) qt 2 0) qt 3 0) qt 4 7) ∧ Ow (uI (uI (uI (uI (uI (uN v qt (kA 0 5)) qt 0 50000) qt 1 50) qt 2 0) qt 3 0) qt 4 7) qt (kA 0 5) ∧ ∀ j, 0 ≤ j → j < 5 → wI (uI (uI (uI (uI (uI (uN v qt (kA 0 5)) qt 0 50000) qt 1 50) qt 2 0) qt 3 0) qt 4 7) qt j = tmq j := by
  refine ⟨((((((Kp.rf.uN hq).uI (Or.inr hq)).uI (Or.inr hq)).uI (Or.inr hq)).uI (Or.inr hq)).uI (Or.inr hq)), (((((Ow.sN (w := v)).sI).sI).sI).sI).sI, fun j j0 j1 => ?_⟩
  have : j = 0 ∨ j = 1 ∨ j = 2 ∨ j = 3 ∨ j = 4 := by omega
  rcases this with e | e | e | e | e <;> subst e
  · exact (wI_uI_j (by decide)).trans ((wI_uI_j (by decide)).trans ((wI_uI_j (by decide)).trans ((wI_uI_j (by decide)).trans wI_uI_s)))
  · exact (wI_uI_j (by decide)).trans ((wI_uI_j (by decide)).trans ((wI_uI_j (by decide)).trans wI_uI_s))
  · exact (wI_uI_j (by decide)).trans ((wI_uI_j (by decide)).trans wI_uI_s)
  · exact (wI_uI_j (by decide)).trans wI_uI_s
  · exact wI_uI_s
/-- the books' own cell ends -/
theorem bk_end (hO : Ow u q3 (kO 11)) (hne : qt ≠ q3) : Kp [q3] u (uI (uR u q3 2 (some qt)) q3 4 7) ∧ wR (uI (uR u q3 2 (some qt)) q3 4 7) q3 2 = some qt ∧ (∀ j, j ≠ 2 → wR (uI (uR u q3 2 (some qt)) q3 4 7) q3 j = wR u q3 j) ∧ wI (uI (uR u q3 2 (some qt)) q3 4 7) q3 4 = 7 ∧ (∀ j, j ≠ 4 → wI (uI (uR u q3 2 (some qt)) q3 4 7) q3 j = wI u q3 j) :=
  ⟨(Kp.rf.uR (Or.inl (by simp))).uI (Or.inl (by simp)), yRI.trans wR_uR_s, fun j hj => yRI.trans (wR_uR_j hj), wI_uI_s, fun j hj => (wI_uI_j hj).trans yIR⟩
/-- what the books are at first -/
theorem bk_all {Bk : Bks} (hBk : Bk = ((q3, qa, xa G 0, 0, 0, fun _ => 0), (qb, xa G 0, 0, 0, fun _ => 0), qt)) (h0 : Ow W q3 (kO 11)) (r0 : wR W q3 0 = some qa) (r1 : wR W q3 1 = some qb) (r2 : wR W q3 2 = some qt) (r5 : wR W q3 5 = none) (i3 : wI W q3 3 = 0) (i4 : wI W q3 4 = 7) (La : AL G W qa (xa G 0) 0 0 0 (fun _ => 0)) (Lb : AL G W qb (xa G 0) 0 0 0 (fun _ => 0)) (ht : Ow W qt (kA 0 5)) (htj : ∀ j, 0 ≤ j → j < 5 → wI W qt j = tmq j) (hab : qa ≠ qb) (hy : Ow W y (kA 0 1)) (hC : CR Az (wS W)) (hF : FC (wS W)) : TQ G W Az Bk 0 y z ns fz none 0 := by
  subst hBk
  refine ⟨⟨⟨⟨h0, r0, r1, r2, i3, i4⟩, La, Lb, ⟨ht, htj⟩, fun j a b => ?_, fun j a b => ?_⟩, ⟨hab, Or.inl rfl⟩, fun i j a b => ?_, ⟨by show 0 ≤ 73; omega, by show 0 ≤ 20; omega, Int.le_refl _, Int.le_refl _, Int.le_refl _, Int.le_refl _⟩, trivial, trivial, trivial, trivial, hy⟩, ⟨r5, fun r e => by cases e⟩, fun r e => (by cases e), hC, hF⟩
  · have b : j < 0 := b
    omega
  · have b : j < 0 := b
    omega
  · have b : i < 0 := b
    omega
/-- from where the class stands made -/
theorem y_l8 (hL : (L : Int) ≤ 260) (hC : CR Az (wS w)) (hF : FC (wS w)) (hK : ∀ w, K 1 w) (hc : 361000 ≤ rc) (hs : 2417000 ≤ rs) : WZ z L xs G (M_Cl_law nm) 8 [(0, vA z), (1, vR 0)] [] w rc rs (yI K) := by
  refine l_Cl_law_1 hL ⟨by omega, by omega, fun q3 hq3 => ⟨3, 11, by omega, by omega, e_Bo_init q3 ⟨by omega, by omega, fun qa hqa => v_Al_init Ow.sN wI_uN_s (fun w5 k5 L5 => ?_)⟩⟩⟩
  have o0 : Ow (uN w q3 (kO 11)) q3 (kO 11) := Ow.sN
  have a3 : qa ∉ [q3] := fun hm => hqa.1 (by rw [List.mem_singleton.mp hm]; exact o0.1)
  have kA0 : Kp [] (uN w q3 (kO 11)) (uN (uN w q3 (kO 11)) qa (kO 14)) := Kp.rf.uN hqa.1
  have k05 : Kp [] (uN w q3 (kO 11)) w5 := kA0.trd k5 (fun b hb => by rw [List.mem_singleton.mp hb]; exact Or.inr hqa.1)
  have o5 : Ow w5 q3 (kO 11) := o0.kp k05
  refine ⟨o5, by omega, by omega, fun qb hqb => v_Al_init Ow.sN wI_uN_s (fun w12 k12 L12 => ?_)⟩
  have hqb5 : qb ∉ wL w5 := hqb.1
  have k56 : Kp [q3] w5 (uR w5 q3 0 (some qa)) := Kp.rf.uR (Or.inl (by simp))
  have k5b : Kp [q3] w5 (uN (uR w5 q3 0 (some qa)) qb (kO 14)) := k56.uN hqb.1
  have k512 : Kp [q3] w5 w12 := k5b.trd k12 (fun b hb => by rw [List.mem_singleton.mp hb]; exact Or.inr hqb5)
  have o12 : Ow w12 q3 (kO 11) := o5.kp k512
  have n3b : q3 ∉ [qb] := fun hm => hqb5 (by rw [← List.mem_singleton.mp hm]; exact o5.1)
  have o6 : Ow (uR w5 q3 0 (some qa)) q3 (kO 11) := o5.sR
  have k6b : Kp [] (uR w5 q3 0 (some qa)) (uN (uR w5 q3 0 (some qa)) qb (kO 14)) := Kp.rf.uN hqb.1
  have k612 : Kp [] (uR w5 q3 0 (some qa)) w12 := k6b.trd k12 (fun b hb => by rw [List.mem_singleton.mp hb]; exact Or.inr hqb.1)
  have R12 : ∀ j, wR w12 q3 j = if j = 0 then some qa else wR w5 q3 j := fun j => by
    rw [k612.R o6.1 List.not_mem_nil]
    by_cases e : j = 0
    · rw [if_pos e, e]; exact wR_uR_s
    · rw [if_neg e]; exact wR_uR_j e
  have I12 : ∀ j, wI w12 q3 j = 0 := fun j => (k612.I o6.1 List.not_mem_nil).trans (yIR.trans ((k05.I o0.1 List.not_mem_nil).trans wI_uN_s))
  have R5 : ∀ j, wR w5 q3 j = none := fun j => (k05.R o0.1 List.not_mem_nil).trans wR_uN_s
  refine ⟨by omega, by omega, fun qt hqt => ⟨by decide, by decide, by decide, by decide, by decide, ?_⟩⟩
  have hqt12 : qt ∉ wL w12 := hqt.1
  have k1213 : Kp [q3] w12 (uR w12 q3 1 (some qb)) := Kp.rf.uR (Or.inl (by simp))
  have o13 : Ow (uR w12 q3 1 (some qb)) q3 (kO 11) := o12.sR
  have R13 : ∀ j, wR (uR w12 q3 1 (some qb)) q3 j = if j = 1 then some qb else wR w12 q3 j := fun j => by
    by_cases e : j = 1
    · rw [if_pos e, e]; exact wR_uR_s
    · rw [if_neg e]; exact wR_uR_j e
  have I13 : ∀ j, wI (uR w12 q3 1 (some qb)) q3 j = 0 := fun j => yIR.trans (I12 j)
  have hqt13 : qt ∉ wL (uR w12 q3 1 (some qb)) := hqt.1
  generalize uR w12 q3 1 (some qb) = w13 at k1213 o13 R13 I13 hqt13 ⊢
  obtain ⟨kt, ot, tj⟩ := bk_terms hqt13
  generalize uI (uI (uI (uI (uI (uN w13 qt (kA 0 5)) qt 0 50000) qt 1 50) qt 2 0) qt 3 0) qt 4 7 = w14 at kt ot tj ⊢
  have o14 : Ow w14 q3 (kO 11) := o13.kp kt
  have nt3 : qt ≠ q3 := fun e => hqt13 (by rw [e]; exact o13.1)
  obtain ⟨ke, e2, eR, e4, eI⟩ := bk_end (u := w14) (qt := qt) o14 nt3
  generalize uI (uR w14 q3 2 (some qt)) q3 4 7 = w9 at ke e2 eR e4 eI ⊢
  have ot9 : Ow w9 qt (kA 0 5) := ot.kp ke
  have o9 : Ow w9 q3 (kO 11) := o14.kp ke
  refine ⟨by omega, by omega, fun y hy => ?_⟩
  have hk5 : Kp [q3] w5 w9 := (((k512.tr k1213).trd kt (fun b hb => absurd hb List.not_mem_nil))).tr ke
  have hk12 : Kp [q3] w12 w9 := (k1213.trd kt (fun b hb => absurd hb List.not_mem_nil)).tr ke
  have hkw : Kp [] w w9 := ((Kp.rf.uN hq3.1).tr k05).trd hk5 (fun b hb => by rw [List.mem_singleton.mp hb]; exact Or.inr hq3.1)
  have ky : Kp [] w9 (uN w9 y (kA 0 1)) := Kp.rf.uN hy.1
  have fin : ∀ v0 : Int, WZ z L xs G (M_Cl_law nm) 31 [(0, vA z), (1, vR 0), (2, vA q3), (3, vA y), (4, vI 1)] [] (uI (uN w9 y (kA 0 1)) y 0 v0) (rc - 1 - 3 - 1) (rs - 7 - 11 - 1) (yI K) := by
    intro v0
    have k9 : Kp [] w9 (uI (uN w9 y (kA 0 1)) y 0 v0) := ky.uI (Or.inr hy.1)
    have oy : Ow (uI (uN w9 y (kA 0 1)) y 0 v0) y (kA 0 1) := (Ow.sN (w := w9)).sI
    have hS : wS (uI (uN w9 y (kA 0 1)) y 0 v0) = wS w := k9.1.trans hkw.1
    generalize uI (uN w9 y (kA 0 1)) y 0 v0 = W at k9 oy hS ⊢
    have hab : qa ≠ qb := fun e => hqb5 (by rw [← e]; exact L5.1.1)
    have T1 : TQ G W Az ((q3, qa, xa G 0, 0, 0, fun _ => 0), (qb, xa G 0, 0, 0, fun _ => 0), qt) 0 y z 0 (fun _ => 0) none 0 := by
      refine bk_all rfl (o9.kp k9) ?_ ?_ ?_ ?_ ?_ ?_ ?_ ?_ (ot9.kp k9) ?_ hab oy ?_ ?_
      · rw [k9.R o9.1 List.not_mem_nil, eR 0 (by decide), kt.R o13.1 List.not_mem_nil, R13, if_neg (by decide), R12, if_pos rfl]
      · rw [k9.R o9.1 List.not_mem_nil, eR 1 (by decide), kt.R o13.1 List.not_mem_nil, R13, if_pos rfl]
      · rw [k9.R o9.1 List.not_mem_nil, e2]
      · rw [k9.R o9.1 List.not_mem_nil, eR 5 (by decide), kt.R o13.1 List.not_mem_nil, R13, if_neg (by decide), R12, if_neg (by decide), R5]
      · rw [k9.I o9.1 List.not_mem_nil, eI 3 (by decide), kt.I o13.1 List.not_mem_nil, I13]
      · rw [k9.I o9.1 List.not_mem_nil, e4]
      · refine (L5.kr hk5 (fun hm => ?_) (fun h0 => absurd h0 (Nat.lt_irrefl _))).kr k9 List.not_mem_nil (fun h0 => absurd h0 (Nat.lt_irrefl _))
        exact a3 hm
      · refine (L12.kr hk12 (fun hm => ?_) (fun h0 => absurd h0 (Nat.lt_irrefl _))).kr k9 List.not_mem_nil (fun h0 => absurd h0 (Nat.lt_irrefl _))
        rw [List.mem_singleton.mp hm] at n3b
        exact n3b (List.mem_singleton.mpr rfl)
      · intro j j0 j1
        rw [k9.I ot9.1 List.not_mem_nil, ke.I ot.1 (fun hm => nt3 (List.mem_singleton.mp hm))]
        exact tj j j0 j1
      · rw [hS]; exact hC
      · rw [hS]; exact hF
    exact y_l31 hL hK 25 1 0 W Az _ _ _ rfl (Int.le_refl _) (Int.le_refl _) (by omega) Az_LA (Or.inl ⟨rfl, T1⟩) (by omega) (by omega)
  exact ez_Cl_cell (nm := nm) hL 0 ⟨fun _ => ⟨by decide, fin 0⟩, fun _ => ⟨Int.le_refl _, by omega, by decide, fin _⟩⟩
end BM
