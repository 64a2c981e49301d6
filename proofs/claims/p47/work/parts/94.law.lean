-- the law: from the books made to its end
theorem iand_nn (a : Int) : 0 ≤ iandq a 2147483647 := by
  unfold iandq
  have h : (Int32.ofInt a &&& Int32.ofInt 2147483647).toBitVec.toNat ≤ 2147483647 := by
    show ((Int32.ofInt a).toBitVec &&& (Int32.ofInt 2147483647).toBitVec).toNat ≤ 2147483647
    rw [BitVec.toNat_and]
    exact Nat.le_trans Nat.and_le_right (by decide)
  show 0 ≤ (Int32.ofInt a &&& Int32.ofInt 2147483647).toBitVec.toInt
  rw [BitVec.toInt_eq_toNat_cond, if_pos (by omega)]
  omega
section LQ
variable {G : Gq} {w W W' : Wd} {A A' T : St} {B B' : Bks} {S : List Nat} {mc ms q y z ns row N d b v cap c0 s0 rc rs x vx n L t c : Nat} {i j M a vo bo k gr M' how : Int} {σ : St} {fz : Int → Int} {K : Int → Wd → Prop} {xp ro : Option Nat} {xs : Nat → Int32} {nm : String}
/-- behind an act: everything is asked, and the next act comes -/
theorem y_l97 (hL : (L : Int) ≤ 260) (hI : IB G W A B M y z ns fz) (hA : LA A) (hC : CC W A B) (hRY : RY W (bD B) y (bT B)) (hCR : CR A (wS W)) (hF : FC (wS W)) (k0 : 1 ≤ k) (k1 : k ≤ 26) (hc : 12392 + 14438 * c ≤ rc) (hs : 88426 + 96656 * c ≤ rs)
    (ih : ∀ (W' : Wd) (row N rc' rs' : Nat), N ≤ 43200 → AQ G W' W' A B M y z ns fz row N → 14438 * c ≤ rc' → 96656 * c ≤ rs' → WZ z L xs G (M_Cl_law nm) 31 [(0, vA z), (1, vR 0), (2, vA (bD B)), (3, vA y), (4, vI (k + 1))] [] W' rc' rs' (yI K)) : WZ z L xs G (M_Cl_law nm) 97 [(0, vA z), (1, vR 0), (2, vA (bD B)), (3, vA y), (4, vI k)] [] W rc rs (yI K) := by
  have hd := hI.1.1.1
  have hy := hI.2.2.2.2.2.2.2.2
  have h04 := hA.2.2.2.2
  refine l_Cl_law_4 hL _ _ _ ⟨252, 44746, by omega, by omega, hd.is, e_Bo_hits _ ⟨hd.is, bS B, hI.1.1.2.2.1, hI.1.2.2.1.1.is, v_Al_size hI.1.2.2.1 ⟨252, 44746, Nat.le_refl _, Nat.le_refl _, y_hitsN hI.1 hA.1 hA.2.2.2.1 hC hA.1.2.2.1.1 (Int.le_refl _) (Nat.le_refl _) (Nat.le_refl _) (fun q w1 r' n' g row N hk1 hb1 O1 hN hq H1 hj hrow => ?_)⟩⟩⟩
  have hrow2 : row ≠ y ∧ row ≠ bT B := by
    rcases hrow with h | h
    · exact ⟨fun e => h (by rw [e]; exact hy.1), fun e => h (by rw [e]; exact hI.1.2.2.2.1.1.1)⟩
    · exact hRY row h
  have I1 : IB G w1 A B M y z ns fz := ⟨hb1, hI.2.1, hI.2.2.1, hI.2.2.2.1, hI.2.2.2.2.kp hk1.1⟩
  refine ⟨q, rfl, 400, 4000, by omega, by omega, y_items hb1 hA.1 hA.2.1 hA.2.2.1 H1 (by rw [hk1.1.1]; exact hCR) (by rw [hk1.1.1]; exact hF) (Nat.le_refl _) (Nat.le_refl _) (fun w2 l2 => ⟨fun h => absurd h (by decide), fun _ => ?_⟩)⟩
  have I2 : IB G w2 A B M y z ns fz := by
    have := I1.k0 l2.kg
    exact this
  have O2 := l2.ov I1.1.1.1.1 O1
  have H2 := l2.hl H1
  have hy2 := I2.2.2.2.2.2.2.2.2
  refine ⟨30, 120, by omega, by omega, y_walk I2.1 hA.1 O2 hN H2 l2.2.2.1 l2.2.2.2 hy2 hrow2.1 (Nat.le_refl _) (Nat.le_refl _) (fun w3 l3 => ⟨fun h => absurd h (by decide), fun _ => ?_⟩)⟩
  have I3 : IB G w3 A B M y z ns fz := by
    have := I2.fr l3.kg (fun b hb => Or.inr (Or.inr (List.mem_singleton.mp hb)))
    exact this
  have O3 := l3.ov hy2.2 hrow2.1 I2.1 O2
  have H3 := l3.hl hy2.2 H2
  refine ⟨11000, 32000, by omega, by omega, y_lists I3.1 hA.1 H3 l3.2.2.1 l3.2.2.2 (Nat.le_refl _) (Nat.le_refl _) (fun w4 l4 => ⟨fun h => absurd h (by decide), fun _ => ?_⟩)⟩
  have I4 : IB G w4 A B M y z ns fz := by
    have := I3.k0 l4.kg
    exact this
  have O4 := l4.ov I3.1.1.1.1 O3
  have H4 := l4.hl H3
  refine ⟨650, 7300, by omega, by omega, y_makes I4.1 hA.1 O4 hN H4 hj l4.2.2.1 l4.2.2.2 (Nat.le_refl _) (Nat.le_refl _) (fun w5 l5 => ⟨fun h => absurd h (by decide), fun _ => ?_⟩)⟩
  have I5 : IB G w5 A B M y z ns fz := by
    have := I4.k0 l5.kg
    exact this
  have O5 := l5.ov I4.1.1.1.1 O4
  have H5 := l5.hl H4
  refine ⟨60, 260, by omega, by omega, y_counts I5.1 hA.1 O5 hN H5 h04 l5.2.2.1 l5.2.2.2 (Nat.le_refl _) (Nat.le_refl _) (fun w6 l6 => ⟨fun _ => ?_, fun h => absurd h (by decide)⟩)⟩
  have I6 : IB G w6 A B M y z ns fz := by
    have := I5.k0 l6.kg
    exact this
  have O6 := l6.ov I5.1.1.1.1 O5
  exact ⟨inR_of (by omega) (by omega), ih w6 row N _ _ hN ⟨I6, O6, hrow2, l6.2.2.1, l6.2.2.2⟩ (by omega) (by omega)⟩
/-- the acts, one behind the other -/
theorem y_l31 (hL : (L : Int) ≤ 260) (hK : ∀ w, K 1 w) : ∀ (c : Nat) (k M : Int) (W : Wd) (A : St) (B : Bks) (rc rs : Nat), k = 26 - (c : Int) → 1 ≤ k → 0 ≤ M → M + 100 * (c : Int) ≤ 3000 → LA A → ((k = 1 ∧ TQ G W A B M y z ns fz none 0) ∨ ∃ row N, N ≤ 43200 ∧ AQ G W W A B M y z ns fz row N) → 14438 * c ≤ rc → 96656 * c ≤ rs → WZ z L xs G (M_Cl_law nm) 31 [(0, vA z), (1, vR 0), (2, vA (bD B)), (3, vA y), (4, vI k)] [] W rc rs (yI K) := by
  intro c
  induction c with
  | zero =>
    intro k M W A B rc rs hk k1 hM0 hM hA hP hc hs
    have hI : IB G W A B M y z ns fz := by
      rcases hP with ⟨_, h⟩ | ⟨row, N, _, h⟩
      · exact h.1
      · exact h.1
    exact l_Cl_law_2 hL _ _ _ ⟨fun _ => hK W, fun _ => ⟨fun _ => hK W, fun h => absurd (by omega) h⟩⟩
  | succ c ih =>
    intro k M W A B rc rs hk k1 hM0 hM hA hP hc hs
    have hI : IB G W A B M y z ns fz := by
      rcases hP with ⟨_, h⟩ | ⟨row, N, _, h⟩
      · exact h.1
      · exact h.1
    have hy := hI.2.2.2.2.2.2.2.2
    have hd := hI.1.1.1
    refine WZ.wf (fun _ hx _ => ?_)
    refine l_Cl_law_2 hL _ _ _ ⟨fun _ => hK W, fun hkn => ⟨fun _ => hK W, fun h26 => ⟨1, hy.is, by omega, by omega, by omega, hy, ?_⟩⟩⟩
    generalize ixorq (wI W y 0) (xs k.toNat).toInt = v0
    have go : ∀ how : Int, 0 ≤ how → how < 19 → (k = 1 → how = 0) → WZ z L xs G (M_Cl_law nm) 89 [(0, vA z), (1, vR 0), (2, vA (bD B)), (3, vA y), (4, vI k)] [vI how, vA y, vA (bD B), vR 0] (uI W y 0 v0) rc rs (yI K) := by
      intro how w0 w1 h1
      refine WZ.wf (fun _ hx1 _ => ?_)
      have hk1 : Kp [y] W (uI W y 0 v0) := Kp.rf.uI (Or.inl (List.mem_singleton.mpr rfl))
      have I1 : IB G (uI W y 0 v0) A B M y z ns fz := hI.dr hx hx1
      have hRS : RSa G (bD B) (bT B) M y z ns fz (fun v37 w36 => (¬ v37 = 0 → WZ z L xs G (M_Cl_law nm) 97 [(0, vA z), (1, vR 0), (2, vA (bD B)), (3, vA y), (4, vI k)] [] w36 (rc - 2046) (rs - 8230) (yI K)) ∧ (v37 = 0 → K 0 w36)) := by
        intro W2 A2 B2 I2 L2 C2 e1 e2 R2 cr2 f2
        refine ⟨fun _ => ?_, fun h => absurd h (by decide)⟩
        rw [← e1]
        rw [← e1, ← e2] at R2
        exact y_l97 (c := c) hL I2 L2 C2 R2 cr2 f2 (by omega) (by omega) (by omega) (by omega) (fun W' row N rc' rs' hN hAQ hc' hs' => ih (k + 1) (M + 100) W' A2 B2 rc' rs' (by omega) (by omega) (by omega) (by omega) L2 (Or.inr ⟨row, N, hN, hAQ⟩) hc' hs')
      refine l_Cl_law_3 hL _ _ _ _ _ _ ⟨2046, 8230, by omega, by omega, ?_⟩
      rcases hP with ⟨e, h⟩ | ⟨row, N, hN, h⟩
      · refine y_act (w := W) (row := 0) (ro := none) (N := 0) (Or.inl ⟨h1 e, I1, ⟨h.2.1.1, h.2.1.2.kp hk1⟩, h.2.2⟩) hx1 hA hM0 (by omega) (by omega) hRS w0 w1 (Nat.le_refl _) (Nat.le_refl _)
      · have hdn : bD B ∉ [y] := fun hm => by
          have h1 := hd.2
          rw [List.mem_singleton.mp hm, hy.2] at h1
          cases h1
        refine y_act (w := W) (row := row) (ro := none) (N := N) (Or.inr ⟨I1, h.2.1.fr hk1 hd.1 hdn (fun hm => h.2.2.1.1 (List.mem_singleton.mp hm)), h.2.2⟩) hx1 hA hM0 (by omega) (by omega) hRS w0 w1 (Nat.le_refl _) (Nat.le_refl _)
    have hia := iand_nn (xs k.toNat).toInt
    generalize iandq (xs k.toNat).toInt 2147483647 = u at hia ⊢
    exact ⟨fun h1 => ⟨fun h2 => ⟨hia, go _ (by omega) (by omega) (fun e => absurd e h1)⟩, fun h2 => go 11 (by omega) (by omega) (fun e => absurd e h1)⟩, fun h1 => go 0 (by omega) (by omega) (fun _ => rfl)⟩
end LQ
