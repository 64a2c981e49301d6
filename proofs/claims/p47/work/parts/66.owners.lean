-- whose the coins are, coin by coin; what is kept of it
/-- the sign of a ledger and an interval -/
def sgN (A : St) (v : Int) : Nat → Int
  | 0 => v
  | i + 1 => wrl (wrl (31 * sgN A v i) + A 3 (i : Int))
def sgA (A : St) : Int := sgN A (A 0 1) (A 0 0).toNat
def CT (w : Wd) (A : St) (row n : Nat) : Prop := Ow w row (kA 0 n) ∧ (n : Int) = Mq A (A 0 1) ∧ (0 < A 0 1 → ∀ c, 0 ≤ c → c < (n : Int) → wI w row c = ow A (A 0 1) (c + 1))
/-- the kept row is of this ledger -/
def OV (w : Wd) (A : St) (B : Bks) (row n : Nat) : Prop := wR w (bD B) 5 = some row ∧ wJ w (bD B) 6 = sgA A ∧ CT w A row n
/-- if the kept row looks as this ledger's, it is -/
def CC (w : Wd) (A : St) (B : Bks) : Prop := wR w (bD B) 5 = none ∨ ∃ row n, wR w (bD B) 5 = some row ∧ Ow w row (kA 0 n) ∧ n ≤ 100000 ∧ (wJ w (bD B) 6 = sgA A → (n : Int) = Mq A (A 0 1) → CT w A row n)
theorem lcq_z {a b : Int} : lcq a b = 0 ↔ a = b := by
  unfold lcq
  constructor
  · intro h
    by_cases h1 : b < a
    · rw [if_pos h1] at h; omega
    · rw [if_neg h1] at h
      by_cases h2 : a = b
      · exact h2
      · rw [if_neg h2] at h; omega
  · intro h; rw [if_neg (by omega), if_pos h]
section OW
variable {G : Gq} {w w' u v : Wd} {A : St} {B : Bks} {S T : List Nat} {a r n mc ms q x h row : Nat} {m k i j R : Int} {f g : Int → Nat}
theorem CT.kp (hh : CT w A row n) (hk : Kp S w w') (hs : row ∉ S) : CT w' A row n := ⟨hh.1.kp hk, hh.2.1, fun hv c a b => (hk.I hh.1.1 hs).trans (hh.2.2 hv c a b)⟩
theorem OV.k0 (hh : OV w A B row n) (hd : bD B ∈ wL w) (hk : Kg G [] w w') : OV w' A B row n := ⟨(hk.1.R hd List.not_mem_nil).trans hh.1, (hk.1.J hd List.not_mem_nil).trans hh.2.1, hh.2.2.kp hk.1 List.not_mem_nil⟩
theorem CC.k0 (hh : CC w A B) (hd : bD B ∈ wL w) (hk : Kg G [] w w') : CC w' A B := by
  have e1 := hk.1.R (j := 5) hd List.not_mem_nil
  have e2 := hk.1.J (j := 6) hd List.not_mem_nil
  rcases hh with h | ⟨row, n, h1, h2, h3, h4⟩
  · exact Or.inl (e1.trans h)
  · exact Or.inr ⟨row, n, e1.trans h1, h2.kp hk.1, h3, fun a b => (h4 (e2 ▸ a) b).kp hk.1 List.not_mem_nil⟩
theorem OV.cc (hh : OV w A B row n) (hn : n ≤ 100000) : CC w A B := Or.inr ⟨row, n, hh.1, hh.2.2.1, hn, fun _ _ => hh.2.2⟩
theorem rc_ce {v i : Int} : (if bi (ce A v i) = 0 then co A i else 0) = rc A v i := by
  unfold rc
  cases ce A v i <;> rfl
theorem Mq_sb (hA : OKL A) (hS : SB A) {v : Int} : 0 ≤ Mq A v ∧ Mq A v ≤ 43200 := by
  have h1 := Mq_in hA (v := v)
  have h2 := sI_le (f := rc A v) (b := 900) hA.1 (fun j a b => by
    have h3 := rc_in hA (v := v) a b
    have h4 := hS j a b
    have h5 : co A j ≤ 900 := by unfold co; split <;> omega
    omega)
  have h3 := hA.2.1
  unfold Mq prq
  unfold Mq prq at h1
  omega
/-- the first loop: how many coins, the sign -/
theorem y_owners1 {K : Option Nat → Wd → Prop} {rc0 rs0 : Nat} (hB : BK G w A B) (hA : OKL A) (hq : q ∉ wL w) (hu : Kg G [] w u) (hI : IT u q (bI B) (bIm B) 0)
    (hK : ∀ w2, Kg G [] w w2 → IT w2 q (bI B) (bIm B) (A 0 0) → WD G M_Bo_owners 19 [(0, vA (bD B)), (1, vI (Mq A (A 0 1))), (2, vI 0), (3, vL (sgA A)), (5, vP (some q))] [] w2 rc0 rs0 (yP K)) :
    WD G M_Bo_owners 19 [(0, vA (bD B)), (1, vI 0), (2, vI 0), (3, vL (A 0 1)), (5, vP (some q))] [] u rc0 rs0 (yP K) := by
  have key : ∀ i : Int, 0 ≤ i → i ≤ A 0 0 → ∀ w2, Kg G [] w w2 → IT w2 q (bI B) (bIm B) i → WD G M_Bo_owners 19 [(0, vA (bD B)), (1, vI (prq A (A 0 1) i)), (2, vI 0), (3, vL (sgN A (A 0 1) i.toNat)), (5, vP (some q))] [] w2 rc0 rs0 (yP K) := by
    refine up_ind (fun w2 hu hI => hK w2 hu hI) (fun i h0 h3 ih w2 hu hI => ?_)
    have hb := hB.k0 hu
    refine l_Bo_owners_1 _ _ _ _ _ ⟨q, rfl, hI.1.is, v_Ai_hasNext hb.2.1 hI (fun _ => ⟨fun h => absurd h (by decide), fun _ => ?_⟩) (fun h => by omega) (by omega)⟩
    refine v_next hb.2.1 hI h0 h3 hu hq (fun w3 hu3 hI3 _ => ?_)
    have hb3 := hB.k0 hu3
    have him := hb3.2.2.2.2.1 i h0 h3
    have hih := ih w3 hu3 hI3
    have hp := prq_in hA (v := A 0 1) h0 (by omega : i ≤ A 0 0)
    have hr := rc_in hA (v := A 0 1) h0 h3
    have hcn := co_in hA h0 h3
    have hA48 := hA.2.1
    rw [prq_s h0, show (i + 1).toNat = i.toNat + 1 by omega] at hih
    unfold sgN at hih
    rw [Int.toNat_of_nonneg h0] at hih
    refine ⟨bF B i, rfl, him.1.is, hb3.1.1.is, v_Bo_certain hb3.1 him ⟨fun hz => v_It_coins him ⟨inR_of (by omega) (by omega), ?_⟩, fun hz => ⟨inR_of (by omega) (by omega), ?_⟩⟩⟩
    · have e : rc A (A 0 1) i = co A i := by rw [← rc_ce, if_pos hz]
      rw [e] at hih
      rw [him.2.2.2.1]
      exact hih
    · have e : rc A (A 0 1) i = 0 := by rw [← rc_ce, if_neg hz]
      rw [e] at hih
      rw [him.2.2.2.1]
      exact hih
  have := key 0 (Int.le_refl _) hA.1 u hu hI
  exact this
/-- the kept row serves -/
theorem y_ownersC {K : Option Nat → Wd → Prop} (hB : BK G w A B) (hA : OKL A) (hO : OV w A B row n) (hn : n ≤ 100000) (hc : 1 ≤ mc) (hs : 4 ≤ ms) (hK : ∀ w', Kg G [] w w' → K (some row) w') : DP G M_Bo_owners [vA (bD B)] w mc ms K := by
  obtain ⟨h1, h2, -⟩ := id hB
  refine e_Bo_owners (bD B) ⟨h1.1.is, bI B, h1.2.1, 1, 4, hc, hs, h2.1.is, v_iterator h2 Kg.rf (Nat.le_refl _) (Nat.le_refl _) (fun q w1 hq hu _ hI => ?_)⟩
  rw [h1.2.2.2.2.1]
  refine y_owners1 hB hA hq hu hI (fun w2 hu hI => ?_)
  have hb := hB.k0 hu
  have ho := hO.k0 h1.1.1 hu
  refine l_Bo_owners_1 _ _ _ _ _ ⟨q, rfl, hI.1.is, v_Ai_hasNext hb.2.1 hI (fun h => absurd h (Int.lt_irrefl _)) (fun _ => ⟨fun _ => ⟨hb.1.1.is, fun h => ?_, fun a18 h => ⟨fun h2 => ?_, fun _ => ⟨row, ho.1, n, ho.2.2.1.is, inR_of (by omega) (by omega), fun h2 => absurd ho.2.2.2.1 h2, fun _ => ?_⟩⟩⟩, fun h => absurd rfl h⟩) (Int.le_refl _)⟩
  · rw [ho.1] at h; cases h
  · rw [ho.2.1] at h2; exact absurd (lcq_z.mpr rfl) h2
  · rw [ho.1]; exact hK w2 hu
theorem Kg.of (hk : Kp S w w') (hx : XOK G w) (hx' : XOK G w') : Kg G S w w' := ⟨hk, fun a ha => ⟨(hk.2 a ha).1, (hk.2 a ha).2.1⟩, fun i hi => by
  obtain ⟨a1, a2, a3, -⟩ := hx i hi
  obtain ⟨b1, b2, b3, -⟩ := hx' i hi
  exact ⟨b1.trans a1.symm, fun j => (b2 j).trans (a2 j).symm, fun j => (b3 j).trans (a3 j).symm⟩⟩
/-- the books' own cell written -/
theorem BK.kd (h : BK G w A B) (hk : Kg G [bD B] w w') (hd : BKd w' A B) : BK G w' A B := by
  obtain ⟨h1, h2, h3, ⟨h4, h5⟩, h6, h7⟩ := h
  have ne : ∀ (y : Nat) (kk : Kd), wK w y = kk → kk ≠ kO 11 → y ∉ [bD B] := fun y kk e1 e2 hm => by
    rw [List.mem_singleton] at hm
    subst hm
    exact e2 (e1.symm.trans h1.1.2)
  refine ⟨hd, h2.kq hk.1 (ne _ _ h2.1.2 (by simp)) (fun h => ne _ _ h.2 (by simp)), h3.kq hk.1 (ne _ _ h3.1.2 (by simp)) (fun h => ne _ _ h.2 (by simp)), ⟨h4.kp hk.1, fun j a b => (hk.1.I h4.1 (ne _ _ h4.2 (by simp))).trans (h5 j a b)⟩, fun j a b => (h6 j a b).kp hk.1 (ne _ _ (h6 j a b).1.2 (by simp)), fun j a b => (h7 j a b).kg hk (ne _ _ (h7 j a b).1.2 (by simp))⟩
/-- the row as it is filled -/
def FL (G : Gq) (w u : Wd) (A : St) (B : Bks) (row n : Nat) (t : Int) : Prop := Kp [bD B] w u ∧ BKd u A B ∧ Ow u row (kA 0 n) ∧ (∀ c, 0 ≤ c → c < t → wI u row c = ow A (A 0 1) (c + 1)) ∧ wR u (bD B) 5 = some row ∧ wJ u (bD B) 6 = sgA A
theorem y_fill {K : Option Nat → Wd → Prop} {rc0 rs0 : Nat} (hB : BK G w A B) (hA : OKL A) (hx : XOK G w) (hrow : row ∉ wL w) (hn : (n : Int) = Mq A (A 0 1)) (hn1 : n ≤ 100000)
    (hK : ∀ w', Kg G [bD B] w w' → BK G w' A B → OV w' A B row n → K (some row) w') :
    ∀ i : Int, 0 ≤ i → i ≤ A 0 0 → ∀ u, FL G w u A B row n (prq A (A 0 1) i) → WD G M_Bo_owners 127 [(0, vA (bD B)), (2, vI (prq A (A 0 1) i)), (5, vA row), (6, vI i)] [] u rc0 rs0 (yP K) := by
  have hdw := hB.1.1.1
  have hne : bD B ≠ row := fun e => hrow (e ▸ hdw)
  refine up_ind (fun u hf => ?_) (fun i h0 h3 ih u hf => ?_)
  · refine WD.wf (fun _ hx1 _ => ?_)
    have hk := Kg.of hf.1 hx hx1
    have hb := hB.kd hk hf.2.1
    refine l_Bo_owners_2 _ _ _ _ ⟨hb.1.1.is, bI B, hb.1.2.1, hb.2.1.1.is, v_Al_size hb.2.1 ⟨fun _ => hK u hk hb ⟨hf.2.2.2.2.1, hf.2.2.2.2.2, hf.2.2.1, hn, fun _ c a b => hf.2.2.2.1 c a ?_⟩, fun h => absurd (Int.le_refl _) h⟩⟩
    have e : prq A (A 0 1) (A 0 0) = Mq A (A 0 1) := rfl
    rw [e]; omega
  · have hp := prq_in hA (v := A 0 1) h0 (by omega : i ≤ A 0 0)
    have hp2 := prq_in hA (v := A 0 1) (by omega : 0 ≤ i + 1) (by omega : i + 1 ≤ A 0 0)
    have hr := rc_in hA (v := A 0 1) h0 h3
    have hcn := co_in hA h0 h3
    have hps := prq_s (A := A) (v := A 0 1) h0
    have hA48 := hA.2.1
    have inner : ∀ c : Int, 0 ≤ c → c ≤ co A i → ∀ u, FL G w u A B row n (prq A (A 0 1) i + c) → ce A (A 0 1) i = false → WD G M_Bo_owners 142 [(0, vA (bD B)), (2, vI (prq A (A 0 1) i + c)), (5, vA row), (6, vI i), (7, vI c)] [] u rc0 rs0 (yP K) := by
      refine up_ind (fun u hf hce => ?_) (fun c c0 c1 ihc u hf hce => ?_)
      · have e : rc A (A 0 1) i = co A i := by unfold rc; rw [hce]; rfl
        refine WD.wf (fun _ hx1 _ => ?_)
        have hb := hB.kd (Kg.of hf.1 hx hx1) hf.2.1
        have him := hb.2.2.2.2.1 i h0 h3
        refine l_Bo_owners_3 _ _ _ _ _ ⟨hb.1.1.is, bI B, hb.1.2.1, hb.2.1.1.is, v_Al_get hb.2.1 h0 h3 ⟨bF B i, rfl, him.1.is, v_It_coins him ⟨fun _ => ⟨inR_of (by omega) (by omega), ?_⟩, fun h => absurd (Int.le_refl _) h⟩⟩⟩
        have e2 : prq A (A 0 1) i + co A i = prq A (A 0 1) (i + 1) := by rw [hps, e]
        rw [e2] at hf ⊢
        exact ih u hf
      · have e : rc A (A 0 1) i = co A i := by unfold rc; rw [hce]; rfl
        refine WD.wf (fun _ hx1 _ => ?_)
        have hb := hB.kd (Kg.of hf.1 hx hx1) hf.2.1
        have him := hb.2.2.2.2.1 i h0 h3
        refine l_Bo_owners_3 _ _ _ _ _ ⟨hb.1.1.is, bI B, hb.1.2.1, hb.2.1.1.is, v_Al_get hb.2.1 h0 h3 ⟨bF B i, rfl, him.1.is, v_It_coins him ⟨fun h => by omega, fun _ => ⟨bI B, hb.1.2.1, hb.2.1.1.is, v_Al_get hb.2.1 h0 h3 ⟨bF B i, rfl, him.1.is, v_Bo_certain hb.1 him ⟨fun h => ?_, fun _ => ⟨inR_of (by omega) (by omega), n, hf.2.2.1, by omega, by omega, inR_of (by omega) (by omega), ?_⟩⟩⟩⟩⟩⟩⟩
        · rw [hce] at h; exact absurd rfl h
        · have := ihc (uI u row (prq A (A 0 1) i + c) i) ?_ hce
          · rw [show prq A (A 0 1) i + (c + 1) = prq A (A 0 1) i + c + 1 by omega] at this
            exact this
          · obtain ⟨f1, f2, f3, f4, f5, f6⟩ := hf
            refine ⟨f1.uI (Or.inr hrow), ⟨f2.1, f2.2.1, f2.2.2.1, f2.2.2.2.1, (wI_uI_a hne).trans f2.2.2.2.2.1, (wI_uI_a hne).trans f2.2.2.2.2.2⟩, f3, fun c' a b => ?_, f5, f6⟩
            by_cases hc : c' = prq A (A 0 1) i + c
            · subst hc
              rw [wI_uI_s]
              exact (ow_eq hA h0 h3 (by omega) (by omega)).symm
            · rw [wI_uI_j hc]
              exact f4 c' a (by omega)
    refine WD.wf (fun _ hx1 _ => ?_)
    have hb := hB.kd (Kg.of hf.1 hx hx1) hf.2.1
    have him := hb.2.2.2.2.1 i h0 h3
    refine l_Bo_owners_2 _ _ _ _ ⟨hb.1.1.is, bI B, hb.1.2.1, hb.2.1.1.is, v_Al_size hb.2.1 ⟨fun h => by omega, fun _ => ?_⟩⟩
    cases hce : ce A (A 0 1) i with
    | false =>
      have := inner 0 (Int.le_refl _) (by omega) u (by rw [Int.add_zero]; exact hf) hce
      rw [Int.add_zero] at this
      exact this
    | true =>
      have e : rc A (A 0 1) i = 0 := by unfold rc; rw [hce]; rfl
      have e2 : prq A (A 0 1) (i + 1) = prq A (A 0 1) i := by rw [hps, e]; omega
      have hih := ih u (by rw [e2]; exact hf)
      rw [e2] at hih
      refine l_Bo_owners_3 _ _ _ _ _ ⟨hb.1.1.is, bI B, hb.1.2.1, hb.2.1.1.is, v_Al_get hb.2.1 h0 h3 ⟨bF B i, rfl, him.1.is, v_It_coins him ⟨fun _ => ⟨inR_of (by omega) (by omega), hih⟩, fun _ => ⟨bI B, hb.1.2.1, hb.2.1.1.is, v_Al_get hb.2.1 h0 h3 ⟨bF B i, rfl, him.1.is, v_Bo_certain hb.1 him ⟨fun _ => ⟨inR_of (by omega) (by omega), hih⟩, fun h => ?_⟩⟩⟩⟩⟩⟩
      rw [hce] at h
      exact absurd h (by decide)
theorem y_owners {K : Option Nat → Wd → Prop} (hB : BK G w A B) (hA : OKL A) (hS : SB A) (hC : CC w A B) (hc : 2 ≤ mc) (hs : 43300 ≤ ms) (hK : ∀ row n w', Kg G [bD B] w w' → BK G w' A B → OV w' A B row n → n ≤ 43200 → (row ∉ wL w ∨ wR w (bD B) 5 = some row) → K (some row) w') : DP G M_Bo_owners [vA (bD B)] w mc ms K := by
  refine DC.wf fun hσ hx => ?_
  obtain ⟨h1, h2, -⟩ := id hB
  have hM := Mq_sb hA hS (v := A 0 1)
  refine e_Bo_owners (bD B) ⟨h1.1.is, bI B, h1.2.1, 1, 4, by omega, by omega, h2.1.is, v_iterator h2 Kg.rf (Nat.le_refl _) (Nat.le_refl _) (fun q w1 hq hu _ hI => ?_)⟩
  rw [h1.2.2.2.2.1]
  refine y_owners1 hB hA hq hu hI (fun w2 hu hI => ?_)
  have hb := hB.k0 hu
  have hcc := hC.k0 h1.1.1 hu
  have nw : ∃ n20 : Nat, Mq A (A 0 1) = (n20 : Int) ∧ ((n20 ≤ 100000) ∧ (1 ≤ mc - 1) ∧ (n20 ≤ ms - 4) ∧ ∀ q25 : Nat, Fr G w2 q25 → ((Ow (uN w2 q25 (kA 0 n20)) (bD B) (kO 11)) ∧ WD G M_Bo_owners 127 [(0, vA (bD B)), (2, vI 0), (5, vA q25), (6, vI 0)] [] (uJ (uR (uN w2 q25 (kA 0 n20)) (bD B) 5 (some q25)) (bD B) 6 (sgA A)) (mc - 1 - 1) (ms - 4 - n20) (yP K))) := by
    refine ⟨(Mq A (A 0 1)).toNat, by omega, by omega, by omega, by omega, fun q25 hq25 => ⟨hb.1.1.nu hq25, ?_⟩⟩
    have hqw : q25 ∉ wL w := hu.1.up hq25.1
    have hdq : bD B ≠ q25 := fun e => hqw (e ▸ h1.1.1)
    refine y_fill hB hA hx hqw (n := (Mq A (A 0 1)).toNat) (by omega) (by omega) (fun w' a b c => hK q25 _ w' a b c (by omega) (Or.inl hqw)) 0 (Int.le_refl _) hA.1 _ ⟨?_, ?_, ?_, fun c a b => ?_, ?_, ?_⟩
    · exact ((hu.1.nil.uN hq25.1).uR (Or.inl (by simp))).uJ (Or.inl (by simp))
    · obtain ⟨d1, d2, d3, d4, d5, d6⟩ := hb.1
      exact ⟨d1.nu hq25, (wR_uR_j (by decide)).trans ((wR_uN (k := kA 0 (Mq A (A 0 1)).toNat) hdq).trans d2), (wR_uR_j (by decide)).trans ((wR_uN (k := kA 0 (Mq A (A 0 1)).toNat) hdq).trans d3), (wR_uR_j (by decide)).trans ((wR_uN (k := kA 0 (Mq A (A 0 1)).toNat) hdq).trans d4), (wI_uN (k := kA 0 (Mq A (A 0 1)).toNat) hdq).trans d5, (wI_uN (k := kA 0 (Mq A (A 0 1)).toNat) hdq).trans d6⟩
    · exact Ow.nw (w := w2)
    · have e : prq A (A 0 1) 0 = 0 := rfl
      omega
    · exact wR_uR_s
    · exact wJ_uJ_s
  refine l_Bo_owners_1 _ _ _ _ _ ⟨q, rfl, hI.1.is, v_Ai_hasNext hb.2.1 hI (fun h => absurd h (Int.lt_irrefl _)) (fun _ => ⟨fun _ => ⟨hb.1.1.is, fun _ => nw, fun a18 h => ⟨fun h2 => nw, fun h2 => ?_⟩⟩, fun h => absurd rfl h⟩) (Int.le_refl _)⟩
  rcases hcc with hcc | ⟨row, n, c1, c2, c3, c4⟩
  · rw [hcc] at h; cases h
  · refine ⟨row, c1, n, c2.is, inR_of (by omega) (by omega), fun _ => nw, fun he => ?_⟩
    have h3 := lcq_z.mp h2
    rw [c1]
    exact hK row n w2 hu.nil hb ⟨c1, h3.symm, c4 h3.symm he⟩ (by omega) (Or.inr ((hu.1.R h1.1.1 List.not_mem_nil).symm.trans c1))
end OW
