-- numbers drawn; coins, hits, starts looked at
theorem ushr16 (x : Int) : 0 ≤ iushrq x 16 := by
  unfold iushrq
  rw [show (Int32.ofInt 16).toUInt32 &&& Int32.toUInt32 31 = 16 from by decide]
  generalize (Int32.ofInt x).toUInt32 = u
  have h1 : (u >>> 16).toNat < 65536 := by
    rw [UInt32.toNat_shiftRight]
    have := u.toNat_lt
    simp [Nat.shiftRight_eq_div_pow]
    omega
  show 0 ≤ ((u >>> 16).toBitVec).toInt
  rw [BitVec.toInt_eq_toNat_of_lt (by
    have : (u >>> 16).toBitVec.toNat = (u >>> 16).toNat := rfl
    omega)]
  omega
/-- as CL, but for the cell of the numbers drawn -/
def CY (G : Gq) (y : Nat) (w0 w : Wd) (A : St) : Prop := Kp [y] w0 (uS w (wS w0)) ∧ Gw G w0 w ∧ CR A (wS w) ∧ FC (wS w)
section WK
variable {G : Gq} {w0 w w' u v : Wd} {A A' : St} {B : Bks} {S T : List Nat} {a r n mc ms q x h row N y : Nat} {m k i j R sg t e : Int} {f g : Int → Nat} {σ : St}
theorem y_draw {K : Int → Wd → Prop} {b : Int} (hy : Ow w y (kA 0 1)) (hb : 0 < b) (hK : ∀ v x, 0 ≤ v → v < b → K v (uI w y 0 x)) : DI G M_Cl_draw [vA y, vI b] w mc ms K :=
  e_Cl_draw y b ⟨1, hy.is, by omega, hy, ushr16 _, hb, hK _ _ (Int.emod_nonneg _ (by omega)) (Int.emod_lt_of_pos _ hb)⟩
theorem CY.of (h : CL G w0 w A) : CY G y w0 w A := ⟨h.1.nil, h.2⟩
theorem CY.kg (h : CY G y w0 w A) : Kg G [y] w0 (uS w (wS w0)) := ⟨h.1, h.2.1⟩
theorem CY.law (h : CY G y w0 w A) (hg : Kg G [] w w') : CY G y w0 w' A := ⟨h.1.tr (hg.1.us (σ := wS w0)).nil, h.2.1.tr hg.2, by rw [hg.1.1]; exact h.2.2.1, by rw [hg.1.1]; exact h.2.2.2⟩
theorem CY.cls (h : CY G y w0 w A) (hC : CR A σ) (hF : FC σ) : CY G y w0 (uS w σ) A := ⟨h.1, h.2.1, hC, hF⟩
theorem CY.cl (h : CY G y w0 w A) (h2 : CL G w w' A) : CY G y w0 w' A := ⟨h.1.tr (h2.1.us (σ := wS w0)).nil, h.2.1.tr h2.2.1, h2.2.2⟩
theorem CY.ow (h : CY G y w0 w A) {kk : Kd} (hO : Ow w0 q kk) : Ow w q kk := by
  have := hO.kp h.1
  exact this
theorem CY.draw (h : CY G y w0 w A) (hx : XOK G w0) (hx' : XOK G (uI w y 0 i)) : CY G y w0 (uI w y 0 i) A := by
  have hk : Kp [y] w0 (uS (uI w y 0 i) (wS w0)) := Kp.uI (w := uS w (wS w0)) h.1 (Or.inl (by simp))
  exact ⟨hk, (Kg.of (w' := uS (uI w y 0 i) (wS w0)) hk hx hx').2, h.2.2⟩
theorem BK.ky (h : BK G w A B) (hk : Kg G [y] w w') (hy : wK w y = kA 0 1) : BK G w' A B := by
  obtain ⟨a1, a2, a3, ⟨a4, a5⟩, a6, a7⟩ := h
  have ne : ∀ (z : Nat) (kk : Kd), wK w z = kk → kk ≠ kA 0 1 → z ∉ [y] := fun z kk e1 e2 hm => by
    rw [List.mem_singleton] at hm
    subst hm
    exact e2 (e1.symm.trans hy)
  exact ⟨a1.kp hk.1 (ne _ _ a1.1.2 (by simp)), a2.kq hk.1 (ne _ _ a2.1.2 (by simp)) (fun h => ne _ _ h.2 (by simp)), a3.kq hk.1 (ne _ _ a3.1.2 (by simp)) (fun h => ne _ _ h.2 (by simp)), ⟨a4.kp hk.1, fun j b1 b2 => (hk.1.I a4.1 (ne _ _ a4.2 (by simp))).trans (a5 j b1 b2)⟩, fun j b1 b2 => (a6 j b1 b2).kp hk.1 (ne _ _ (a6 j b1 b2).1.2 (by simp)), fun j b1 b2 => (a7 j b1 b2).kg hk (ne _ _ (a7 j b1 b2).1.2 (by simp))⟩
theorem CY.bk (h : CY G y w0 w A) (hy : wK w0 y = kA 0 1) (hB : BK G w0 A B) : BK G w A B := by
  have := hB.ky h.kg hy
  exact this
theorem CY.ct (h : CY G y w0 w A) (hr : row ≠ y) (hC : CT w0 A row N) : CT w A row N := by
  have := hC.kp h.1 (by simp [hr])
  exact this
theorem CY.ov (h : CY G y w0 w A) (hy : wK w0 y = kA 0 1) (hr : row ≠ y) (hB : BK G w0 A B) (hO : OV w0 A B row N) : OV w A B row N := by
  have hd : bD B ∉ [y] := fun hm => by
    have := hB.1.1.2
    rw [List.mem_singleton.mp hm, hy] at this
    cases this
  exact ⟨(h.1.R (w := uS w (wS w0)) hB.1.1.1 hd).trans hO.1, (h.1.J (w := uS w (wS w0)) hB.1.1.1 hd).trans hO.2.1, h.ct hr hO.2.2⟩
theorem CY.hl (h : CY G y w0 w A) (hy : wK w0 y = kA 0 1) {q : Nat} (hL : HL G w0 A q r n m R g) : HL G w A q r n m R g := by
  have ne : ∀ (z : Nat) (kk : Kd), wK w0 z = kk → kk ≠ kA 0 1 → z ∉ [y] := fun z kk e1 e2 hm => by
    rw [List.mem_singleton] at hm
    subst hm
    exact e2 (e1.symm.trans hy)
  have h1 := hL.1.kq h.1 (ne _ _ hL.1.1.2 (by simp)) (fun h => ne _ _ h.2 (by simp))
  exact ⟨h1, fun k b1 b2 => by
    have := (hL.2 k b1 b2).kp h.1 (ne _ _ (hL.2 k b1 b2).1.2 (by simp))
    exact this⟩
theorem start_iff {c s v : Int} (hv : 0 < v) (s0 : 1 ≤ s) (s1 : s ≤ v) (hc : 1 ≤ c) : (s ≤ c ∧ (c - s) % v = 0) ↔ (c - 1) % v + 1 = s := by
  have d0 := Int.emod_nonneg (c - 1) (by omega : v ≠ 0)
  have d1 := Int.emod_lt_of_pos (c - 1) hv
  have d2 := Int.emod_add_mul_ediv (c - 1) v
  have e0 := Int.emod_nonneg (c - s) (by omega : v ≠ 0)
  have e2 := Int.emod_add_mul_ediv (c - s) v
  constructor
  · rintro ⟨h1, h2⟩
    rw [h2] at e2
    have e : c - 1 = (s - 1) + v * ((c - s) / v) := by omega
    rw [e, Int.add_mul_emod_self_left, Int.emod_eq_of_lt (by omega) (by omega)]
    omega
  · intro h
    have hq : 0 ≤ (c - 1) / v := Int.ediv_nonneg (by omega) (by omega)
    have hm := Int.mul_nonneg (by omega : 0 ≤ v) hq
    refine ⟨by omega, ?_⟩
    have e : c - s = v * ((c - 1) / v) := by omega
    rw [e, Int.mul_emod_right]
theorem q_hit_in {w9 : Int} (k0 : 0 ≤ k) (k1 : k < hb A (A 0 2)) : q_hit A k w9 = if w9 = 0 then hI A k else if w9 = 1 then hC A k else if w9 = 2 then hR A k else if w9 = 3 then ta A (hI A k) + 10000 else -2 := by
  unfold q_hit hmq
  rw [if_neg (by omega)]
theorem y_walk {K : Int → Wd → Prop} (hB : BK G w A B) (hA : OKA A) (hO : OV w A B row N) (hN : N ≤ 43200) (hL : HL G w A h r n m (A 0 2) g) (hCR : CR A (wS w)) (hF : FC (wS w)) (hy : Ow w y (kA 0 1)) (hry : row ≠ y) (hc : 30 ≤ mc) (hs : 120 ≤ ms) (hK : ∀ w', CY G y w w' A → K 1 w') : DI G M_Cl_walk [vR 0, vA (bD B), vA h, vA y] w mc ms K := by
  refine DC.wf fun hσ hx => ?_
  have hA48 := hA.1.2.1
  have h02 := hA.2.2.1
  have hhb := hb_in hA h02.1 (Int.le_refl _)
  have hMq := Mq_in hA.1 (v := A 0 1)
  have h01 := hA.2.1
  -- the starts
  have loop4 : ∀ i : Int, 0 ≤ i → i ≤ 6 → ∀ (u : Wd) (rc0 rs0 : Nat), CY G y w u A → WD G M_Cl_walk 345 [(0, vR 0), (1, vA (bD B)), (2, vA h), (5, vI i)] [] u rc0 rs0 (yI K) := by
    refine up_ind (fun u rc0 rs0 hl => ?_) (fun i i0 i1 ih u rc0 rs0 hl => ?_)
    · have hL1 := hl.hl hy.2 hL
      refine l_Cl_walk_4 _ _ _ ⟨fun _ => ⟨hL1.1.1.is, v_Al_size hL1.1 (c_hit hl.2.2.1 hl.2.2.2 hA (fun σ1 c1 f1 _ => ?_))⟩, fun h => absurd (by omega) h⟩
      have e1 : q_hit A (hb A (A 0 2)) 0 = -2 := by unfold q_hit hmq; rw [if_pos (Or.inr (Int.le_refl _))]
      have e2 : q_hit A (-1) 0 = -2 := by unfold q_hit; rw [if_pos (Or.inl (by omega))]
      have e3 : q_start A (-1) = -2 := by unfold q_start; rw [if_pos (Or.inl (by omega))]
      have e4 : q_hit A 0 4 = -2 := by unfold q_hit; split <;> rfl
      have l1 := hl.cls c1 f1
      refine ⟨fun h => absurd e1 h, fun _ => c_hit c1 f1 hA (fun σ2 c2 f2 _ => ⟨fun h => absurd e2 h, fun _ => v_Al_isEmpty (l1.cls c2 f2 |>.hl hy.2 hL).1 ?_⟩)⟩
      have l2 := l1.cls c2 f2
      have fin : ∀ (σ3 : St), CR A σ3 → FC σ3 → CI M_Cs_start [vR 0, vI (-1)] σ3 (fun v σ4 => (¬ v = (-2) → K 0 (uS u σ4)) ∧ (v = (-2) → K 1 (uS u σ4))) := fun σ3 c3 f3 => c_start c3 f3 hA (fun σ4 c4 f4 _ => ⟨fun h => absurd e3 h, fun _ => hK _ (hl.cls c4 f4)⟩)
      refine ⟨fun _ => fin _ c2 f2, fun _ => c_hit c2 f2 hA (fun σ3 c3 f3 _ => ⟨fun h => absurd e4 h, fun _ => fin _ c3 f3⟩)⟩
    · refine l_Cl_walk_4 _ _ _ ⟨fun h => by omega, fun _ => c_start hl.2.2.1 hl.2.2.2 hA (fun σ1 c1 f1 _ => ?_)⟩
      have l1 := hl.cls c1 f1
      have hb := hl.bk hy.2 hB
      refine ⟨hb.1.1.is, bS B, hb.1.2.2.1, hb.2.2.1.1.is, v_Al_size (l1.bk hy.2 hB).2.2.1 ⟨fun hle => ⟨fun _ => ⟨inR_s (by omega) (by omega), ih _ _ _ l1⟩, fun hne => ?_⟩, fun hlt => ⟨bS B, hb.1.2.2.1, hb.2.2.1.1.is, v_Al_get (l1.bk hy.2 hB).2.2.1 i0 (by omega) ⟨bG B i, rfl, (hb.2.2.2.2.2 i i0 (by omega)).1, v_In_intValue (v := A 5 i) ((l1.bk hy.2 hB).2.2.2.2.2 i i0 (by omega)) ⟨fun _ => ⟨inR_s (by omega) (by omega), ih _ _ _ l1⟩, fun hne => ?_⟩⟩⟩⟩⟩
      · exfalso; apply hne; unfold q_start; rw [if_pos (Or.inr hle)]
      · exfalso; apply hne; unfold q_start; rw [if_neg (by omega)]
  -- the hits
  have loop3 : ∀ k : Int, 0 ≤ k → k ≤ hb A (A 0 2) → ∀ (u : Wd) (rc0 rs0 : Nat), CY G y w u A → WD G M_Cl_walk 237 [(0, vR 0), (1, vA (bD B)), (2, vA h), (5, vI k)] [] u rc0 rs0 (yI K) := by
    refine up_ind (fun u rc0 rs0 hl => ?_) (fun k k0 k1 ih u rc0 rs0 hl => ?_)
    · have hL1 := hl.hl hy.2 hL
      exact l_Cl_walk_3 _ _ _ ⟨hL1.1.1.is, v_Al_size hL1.1 ⟨fun _ => loop4 0 (by omega) (by omega) u _ _ hl, fun h => absurd (Int.le_refl _) h⟩⟩
    · have hL1 := hl.hl hy.2 hL
      have ht := hL1.2 k k0 k1
      have hin := hI_in hA k0 k1
      have hb := hl.bk hy.2 hB
      refine l_Cl_walk_3 _ _ _ ⟨hL1.1.1.is, v_Al_size hL1.1 ⟨fun h => by omega, fun _ => v_Al_get hL1.1 k0 k1 ⟨g k, rfl, ht.1.is, ?_⟩⟩⟩
      rw [ht.2.1, ht.2.2.1, ht.2.2.2]
      refine c_hit hl.2.2.1 hl.2.2.2 hA (fun σ1 c1 f1 _ => ⟨fun h => absurd (by rw [q_hit_in k0 k1]; rfl) h, fun _ => c_hit c1 f1 hA (fun σ2 c2 f2 _ => ⟨fun h => absurd (by rw [q_hit_in k0 k1]; rfl) h, fun _ => c_hit c2 f2 hA (fun σ3 c3 f3 _ => ⟨fun h => absurd (by rw [q_hit_in k0 k1]; rfl) h, fun _ => c_hit c3 f3 hA (fun σ4 c4 f4 _ => ?_)⟩)⟩)⟩)
      have l4 := ((((hl.cls c1 f1).cls c2 f2).cls c3 f3).cls c4 f4)
      have hb4 := l4.bk hy.2 hB
      have him := hb4.2.2.2.2.1 _ hin.1 hin.2.1
      have hta := ta_in hA.1 hin.1 hin.2.1
      refine ⟨hb.1.1.is, bI B, hb.1.2.1, hb.2.1.1.is, v_Al_get hb4.2.1 hin.1 hin.2.1 ⟨_, rfl, him.1.is, v_It_taint him hA.1 hin.1 hin.2.1 ⟨inR_s (by omega) (by omega), fun _ => ⟨inR_s (by omega) (by omega), ih _ _ _ l4⟩, fun h => absurd (by rw [q_hit_in k0 k1]; rfl) h⟩⟩⟩
  -- the coins
  have loop1 : ∀ i : Int, 0 ≤ i → i ≤ 25 → ∀ (u : Wd) (rc0 rs0 : Nat), CY G y w u A → 25 - i.toNat ≤ rc0 → 4 * (25 - i.toNat) ≤ rs0 → WD G M_Cl_walk 9 [(0, vR 0), (1, vA (bD B)), (2, vA h), (3, vA y), (4, vP (some row)), (5, vI i)] [] u rc0 rs0 (yI K) := by
    refine up_ind (fun u rc0 rs0 hl _ _ => ?_) (fun i i0 i1 ih u rc0 rs0 hl hc hs => ?_)
    · exact l_Cl_walk_1 _ _ _ _ _ ⟨fun _ => loop3 0 (by omega) hhb.1 u _ _ hl, fun h => absurd (by omega) h⟩
    · -- one coin
      have coin : ∀ (c : Int) (u : Wd) (rc1 rs1 : Nat), -1 ≤ c → c ≤ (N : Int) + 1 → CY G y w u A → 25 - i.toNat ≤ rc1 → 4 * (25 - i.toNat) ≤ rs1 → (∀ σ1, CR A σ1 → FC σ1 → (q_coin A c 0 = -2 → True)) → ((c < 1 ∨ (N : Int) < c) → CI M_Cs_coin [vR 0, vI c, vI 0] (wS u) (fun v σ9 => (v = (-2) → (inR (i + 1)) ∧ WD G M_Cl_walk 9 [(0, vR 0), (1, vA (bD B)), (2, vA h), (3, vA y), (4, vP (some row)), (5, vI (i + 1))] [] (uS u σ9) rc1 rs1 (yI K)) ∧ (¬ v = (-2) → K 0 (uS u σ9)))) ∧ (1 ≤ c → c ≤ (N : Int) → (Is G u (bD B) (kO 11)) ∧ ∃ a26 : Nat, (wR u (bD B) 1) = some a26 ∧ (∃ c28 s29 : Nat, c28 ≤ rc1 ∧ s29 ≤ rs1 ∧ ((Is G u a26 (kO 14)) ∧ DP G M_Al_iterator [vA a26] u c28 s29 (fun v34 w33 => WD G M_Cl_walk 86 [(0, vR 0), (1, vA (bD B)), (2, vA h), (3, vA y), (4, vA row), (5, vI i), (6, vI c), (7, vI 0), (8, vP v34)] [] w33 (rc1 - c28) (rs1 - s29) (yI K))))) := by
        intro c u rc1 rs1 c0 c1 hl hc1 hs1 _
        have hct := hl.ct hry hO.2.2
        have hNM := hO.2.2.2.1
        refine ⟨fun hout => c_coin hl.2.2.1 hl.2.2.2 hA (fun σ1 cc1 f1 _ => ⟨fun _ => ⟨inR_s (by omega) (by omega), ih _ _ _ (hl.cls cc1 f1) (by omega) (by omega)⟩, fun hne => ?_⟩), fun hc2 hc3 => ?_⟩
        · exfalso; apply hne; unfold q_coin; rw [if_pos (by omega)]
        · have hb := hl.bk hy.2 hB
          refine ⟨hb.1.1.is, bS B, hb.1.2.2.1, 1, 4, by omega, by omega, hb.2.2.1.1.is, v_iterator (u := u) hb.2.2.1 Kg.rf (Nat.le_refl _) (Nat.le_refl _) (fun it u2 hit hg2 _ hI2 => ?_)⟩
          have key : ∀ r : Int, 0 ≤ r → r ≤ A 0 2 → ∀ u3, Kg G [] u u3 → IT u3 it (bS B) (bSm B) r → WD G M_Cl_walk 86 [(0, vR 0), (1, vA (bD B)), (2, vA h), (3, vA y), (4, vA row), (5, vI i), (6, vI c), (7, vI (cI (fun r => decide ((c - 1) % A 0 1 + 1 = A 5 r)) r)), (8, vP (some it))] [] u3 (rc1 - 1) (rs1 - 4) (yI K) := by
            refine up_ind (fun u3 hg3 hI3 => ?_) (fun r r0 r1 ihr u3 hg3 hI3 => ?_)
            · have hl3 := hl.law hg3
              have hb3 := hl3.bk hy.2 hB
              have hct3 := hl3.ct hry hO.2.2
              have nxt : ∀ σ9, CR A σ9 → FC σ9 → (inR (i + 1)) ∧ WD G M_Cl_walk 9 [(0, vR 0), (1, vA (bD B)), (2, vA h), (3, vA y), (4, vP (some row)), (5, vI (i + 1))] [] (uS u3 σ9) (rc1 - 1) (rs1 - 4) (yI K) := fun σ9 c9 f9 => ⟨inR_s (by omega) (by omega), ih _ _ _ (hl3.cls c9 f9) (by omega) (by omega)⟩
              refine l_Cl_walk_2 _ _ _ _ _ _ _ _ ⟨it, rfl, hI3.1.is, v_Ai_hasNext hb3.2.2.1 hI3 (fun h => absurd h (Int.lt_irrefl _)) (fun _ => ⟨fun _ => ⟨hb3.1.1.is, ?_⟩, fun h => absurd rfl h⟩) (Int.le_refl _)⟩
              rw [hb3.1.2.2.2.2.1]
              have eq : ∀ w9, 0 ≤ w9 → w9 ≤ 2 → A 0 1 ≠ 0 → q_coin A c w9 = if w9 = 0 then ow A (A 0 1) c else if w9 = 1 then (c - 1) / A 0 1 else cI (fun r => decide ((c - 1) % A 0 1 + 1 = A 5 r)) (A 0 2) := fun w9 a b d => by
                unfold q_coin
                rw [if_neg (by omega), if_neg d]
              refine ⟨fun hv => ?_, fun hv => ?_⟩
              · have hvp : 0 < A 0 1 := by omega
                have er : wI u3 row (c - 1) = ow A (A 0 1) c := by
                  rw [hct3.2.2 hvp (c - 1) (by omega) (by omega), show c - 1 + 1 = c by omega]
                refine c_coin hl3.2.2.1 hl3.2.2.2 hA (fun σ1 k1 f1 _ => ⟨inR_s (by omega) (by omega), N, hct3.1.is, by omega, by omega, fun hne => absurd ((eq 0 (by omega) (by omega) hv).trans er.symm) hne, fun _ => c_coin k1 f1 hA (fun σ2 k2 f2 _ => ⟨hvp, fun hne => absurd (eq 1 (by omega) (by omega) hv) hne, fun _ => c_coin k2 f2 hA (fun σ3 k3 f3 _ => ⟨fun hne => absurd (eq 2 (by omega) (by omega) hv) hne, fun _ => c_coin k3 f3 hA (fun σ4 k4 f4 _ => ⟨fun _ => nxt _ k4 f4, fun hne => ?_⟩)⟩)⟩)⟩)
                exfalso; apply hne; unfold q_coin; rw [if_pos (by omega)]
              · refine c_coin hl3.2.2.1 hl3.2.2.2 hA (fun σ1 k1 f1 _ => ⟨fun _ => nxt _ k1 f1, fun hne => ?_⟩)
                exfalso; apply hne; unfold q_coin; rw [if_neg (by omega), if_pos hv]
            · have hl3 := hl.law hg3
              have hb3 := hl3.bk hy.2 hB
              have hst := h02.2.2.2 r r0 r1
              have hvp : 0 < A 0 1 := by omega
              refine l_Cl_walk_2 _ _ _ _ _ _ _ _ ⟨it, rfl, hI3.1.is, v_Ai_hasNext hb3.2.2.1 hI3 (fun _ => ⟨fun h => absurd h (by decide), fun _ => ?_⟩) (fun h => by omega) (by omega)⟩
              refine v_next hb3.2.2.1 hI3 r0 r1 hg3 hit (fun u4 hg4 hI4 _ => ?_)
              have hl4 := hl.law hg4
              have hb4 := hl4.bk hy.2 hB
              have hbx := hb4.2.2.2.2.2 r r0 r1
              have hcn := cI_in (p := fun r => decide ((c - 1) % A 0 1 + 1 = A 5 r)) r0
              have hih := ihr u4 hg4 hI4
              have hif := start_iff hvp hst.1 hst.2 hc2
              refine ⟨bG B r, rfl, hbx.1, v_In_intValue hbx ⟨fun hlt => ⟨inR_s (by omega) (by omega), ?_⟩, fun hge => ⟨inR_s (by omega) (by omega), hb4.1.1.is, by omega, ?_, fun hne => ⟨inR_s (by omega) (by omega), ?_⟩, fun he => ⟨inR_s (by omega) (by omega), ?_⟩⟩⟩⟩
              · rw [cI_f r0 (by simp only [decide_eq_false_iff_not]; intro h9; have := hif.mpr h9; omega)] at hih
                rw [Int.add_zero]; exact hih
              · rw [hb4.1.2.2.2.2.1]; exact hvp
              · rw [hb4.1.2.2.2.2.1] at hne
                rw [cI_f r0 (by simp only [decide_eq_false_iff_not]; intro h9; exact hne (hif.mpr h9).2)] at hih
                rw [Int.add_zero]; exact hih
              · rw [hb4.1.2.2.2.2.1] at he
                rw [cI_t r0 (by simp only [decide_eq_true_eq]; exact hif.mp ⟨by omega, he⟩)] at hih
                exact hih
          exact key 0 (Int.le_refl _) h02.1 u2 hg2 hI2
      refine WD.wf (fun _ hx1 _ => ?_)
      have hct := hl.ct hry hO.2.2
      refine l_Cl_walk_1 _ _ _ _ _ ⟨fun h => by omega, fun _ => ⟨fun _ => ⟨row, rfl, N, hct.1.is, inR_s (by omega) (by omega), inR_s (by omega) (by omega), DI.gx (y_draw (hl.ow hy) (by omega) (fun v z v0 v1 _ hx2 _ => ?_))⟩, fun _ => ⟨row, rfl, N, hct.1.is, inR_s (by omega) (by omega), inR_s (by omega) (by omega), inR_s (by omega) (by omega), ?_⟩⟩⟩
      · obtain ⟨p1, p2⟩ := coin (1 + v) _ rc0 rs0 (by omega) (by omega) (hl.draw hx hx2) hc hs (fun _ _ _ _ => trivial)
        exact ⟨inR_s (by omega) (by omega), fun h => p1 (Or.inl h), fun h => ⟨fun h2 => p2 (by omega) h2, fun h2 => p1 (Or.inr (by omega))⟩⟩
      · obtain ⟨p1, p2⟩ := coin ((N : Int) + i - 1) u rc0 rs0 (by omega) (by omega) hl hc hs (fun _ _ _ _ => trivial)
        exact ⟨fun h => p1 (Or.inl h), fun h => ⟨fun h2 => p2 (by omega) h2, fun h2 => p1 (Or.inr (by omega))⟩⟩
  refine e_Cl_walk (bD B) h y ⟨1, 4, by omega, by omega, hB.1.1.is, y_ownersC hB hA.1 hO (by omega) (Nat.le_refl _) (Nat.le_refl _) (fun w1 hg1 => ?_)⟩
  exact loop1 0 (Int.le_refl _) (by omega) w1 _ _ (CY.of ((CL.rf hCR hF).law hg1)) (by omega) (by omega)
end WK
