-- hits as objects; what is read of the books
def HT (w : Wd) (A : St) (x : Nat) (k : Int) : Prop := Ow w x (kO 12) ∧ wI w x 0 = hI A k ∧ wI w x 1 = hC A k ∧ wI w x 2 = hR A k
def HL (G : Gq) (w : Wd) (A : St) (h r n : Nat) (m R : Int) (g : Int → Nat) : Prop := AL G w h r n m (hb A R) g ∧ ∀ k, 0 ≤ k → k < hb A R → HT w A (g k) k
section RD
variable {G : Gq} {w w' u v : Wd} {A : St} {B : Bks} {S T : List Nat} {a r n mc ms q x h : Nat} {m k i j R : Int} {f g : Int → Nat}
theorem HT.kp (hh : HT w A x k) (hk : Kp S w w') (hs : x ∉ S) : HT w' A x k := ⟨hh.1.kp hk, (hk.I hh.1.1 hs).trans hh.2.1, (hk.I hh.1.1 hs).trans hh.2.2.1, (hk.I hh.1.1 hs).trans hh.2.2.2⟩
theorem HL.k0 (hh : HL G w A h r n m R g) (hk : Kg G [] w w') : HL G w' A h r n m R g := ⟨hh.1.kp hk.1 List.not_mem_nil List.not_mem_nil, fun k a b => (hh.2 k a b).kp hk.1 List.not_mem_nil⟩
theorem y_find {K : Int → Wd → Prop} (hB : BK G w A B) (hA : OKL A) {p v : Int} (hK : K (plcq A p v) w) : DI G M_Bo_find [vA (bD B), vI p, vI v] w mc ms K := by
  obtain ⟨h1, h2, h3, h4, h5, h6⟩ := id hB
  refine e_Bo_find (bD B) p v ?_
  have key : ∀ i : Int, 0 ≤ i → i ≤ A 0 0 → (∀ j, 0 ≤ j → j < i → ¬ (A 1 j = p ∧ A 2 j = v)) → WD G M_Bo_find 2 [(0, vA (bD B)), (1, vI p), (2, vI v), (3, vI i)] [] w mc ms (yI K) := by
    refine up_ind (fun hno => ?_) (fun i h0 hi ih hno => ?_)
    · refine l_Bo_find_1 _ _ _ _ ⟨h1.1.is, bI B, h1.2.1, h2.1.is, v_Al_size h2 ⟨fun _ => ?_, fun h => absurd (Int.le_refl _) h⟩⟩
      have e : plcq A p v = -1 := fI_none hA.1 (fun j a b => by simpa using hno j a b)
      rw [e] at hK
      exact hK
    · have him := h5 i h0 hi
      refine l_Bo_find_1 _ _ _ _ ⟨h1.1.is, bI B, h1.2.1, h2.1.is, v_Al_size h2 ⟨fun h => by omega, fun _ => ⟨bI B, h1.2.1, h2.1.is, v_Al_get h2 h0 hi ⟨bF B i, rfl, him.1.is, fun hne => ?_, fun he => ⟨bI B, h1.2.1, h2.1.is, v_Al_get h2 h0 hi ⟨bF B i, rfl, him.1.is, fun hne => ?_, fun he2 => ?_⟩⟩⟩⟩⟩⟩
      · rw [him.2.1] at hne
        have := hA.2.1
        exact ⟨inR_of (by omega) (by omega), ih (fun j a b => by
          by_cases hj : j = i
          · subst hj; exact fun h => hne h.1
          · exact hno j a (by omega))⟩
      · rw [him.2.2.1] at hne
        have := hA.2.1
        exact ⟨inR_of (by omega) (by omega), ih (fun j a b => by
          by_cases hj : j = i
          · subst hj; exact fun h => hne h.2
          · exact hno j a (by omega))⟩
      · rw [him.2.1] at he
        rw [him.2.2.1] at he2
        have e : plcq A p v = i := fI_eq h0 hi (by simp [he, he2]) (fun j a b => by simpa using hno j a b)
        rw [e] at hK
        exact hK
  exact key 0 (Int.le_refl _) hA.1 (fun j a b => by omega)
theorem y_part {K : Int → Wd → Prop} (hB : BK G w A B) (hA : OKA A) (hx : Ow w x (kO 12)) (hi : wI w x 0 = i) (h0 : 0 ≤ i) (h1 : i < A 0 0) (hR0 : 0 < R) (hR1 : R ≤ 5) (hK : K (pj A R i) w) : DI G M_Bo_part [vA (bD B), vA x, vI R] w mc ms K := by
  obtain ⟨b1, b2, b3, b4, b5, b6⟩ := id hB
  have him := b5 i h0 h1
  have ht := ta_in hA.1 h0 h1
  have hv := hA.2.1
  have hp := pj_in hA (R := R) h0 h1
  have e : pj A R i = (ta A i * A 0 1).tdiv (10000 * R) := by unfold pj; rw [if_pos hR0]
  refine e_Bo_part (bD B) x R ⟨b1.1.is, hx.is, bI B, b1.2.1, b2.1.is, ?_⟩
  rw [hi]
  refine v_Al_get b2 h0 h1 ⟨bF B i, rfl, him.1.is, v_It_taint him hA.1 h0 h1 ?_⟩
  rw [b1.2.2.2.2.1, ← e]
  have g1 : -(10000 * 4799952) ≤ ta A i * A 0 1 ∧ ta A i * A 0 1 ≤ 10000 * 4799952 := by
    have c1 := Int.mul_le_mul_of_nonneg_right ht.2 hv.1
    have c2 := Int.mul_le_mul_of_nonneg_right ht.1 hv.1
    omega
  refine ⟨?_, ?_, by omega, by unfold inL; omega, inR_of (by omega) (by omega), hK⟩
  · unfold inL; omega
  · unfold inL; omega
/-- how often the first R runs hit item i, hit by hit -/
def oft (A : St) (R i : Int) : Int := cI (fun k => decide (hI A k = i)) (hb A R)
theorem y_oftenOf {K : Int → Wd → Prop} (hL : HL G w A h r n m R g) (hA : OKA A) (hb0 : 0 ≤ hb A R) (hb1 : hb A R ≤ 240) (hc : 1 ≤ mc) (hs : 4 ≤ ms) (hK : ∀ w', Kg G [] w w' → K (oft A R i) w') : DI G M_Cl_oftenOf [vA h, vI i] w mc ms K := by
  refine e_Cl_oftenOf h i ⟨1, 4, hc, hs, hL.1.1.is, v_iterator hL.1 Kg.rf (Nat.le_refl _) (Nat.le_refl _) (fun q w1 hq hu _ hI' => ?_)⟩
  have key : ∀ k : Int, 0 ≤ k → k ≤ hb A R → ∀ w2, Kg G [] w w2 → IT w2 q h m k → WD G M_Cl_oftenOf 7 [(1, vI i), (2, vI (cI (fun k => decide (hI A k = i)) k)), (3, vP (some q))] [] w2 (mc - 1) (ms - 4) (yI K) := by
    refine up_ind (fun w2 hu hI' => ?_) (fun k h0 h3 ih w2 hu hI' => ?_)
    · exact l_Cl_oftenOf_1 _ _ _ ⟨q, rfl, hI'.1.is, v_Ai_hasNext (hL.k0 hu).1 hI' (fun h => absurd h (Int.lt_irrefl _)) (fun _ => ⟨fun _ => hK w2 hu, fun h => absurd rfl h⟩) (Int.le_refl _)⟩
    · have hh := hL.k0 hu
      refine l_Cl_oftenOf_1 _ _ _ ⟨q, rfl, hI'.1.is, v_Ai_hasNext hh.1 hI' (fun _ => ⟨fun h => absurd h (by decide), fun _ => ?_⟩) (fun h => by omega) (by omega)⟩
      refine v_next hh.1 hI' h0 h3 hu hq (fun w3 hu3 hI3 _ => ?_)
      have ht := (hL.k0 hu3).2 k h0 h3
      have hcn := cI_in (p := fun k => decide (hI A k = i)) h0
      refine ⟨g k, rfl, ht.1.is, fun hne => ⟨inR_of (by omega) (by omega), ?_⟩, fun he => ⟨inR_of (by omega) (by omega), ?_⟩⟩
      · rw [ht.2.1] at hne
        have := ih w3 hu3 hI3
        rw [cI_f h0 (by simpa using hne)] at this
        rw [Int.add_zero]
        exact this
      · rw [ht.2.1] at he
        have := ih w3 hu3 hI3
        rw [cI_t h0 (by simpa using he)] at this
        exact this
  exact key 0 (Int.le_refl _) hb0 w1 hu hI'
theorem mxm {x : Int} : (if (0 : Int) < x then x else 0) = mx x := rfl
theorem y_known {K : Int → Wd → Prop} {sg : Int} (hB : BK G w A B) (hA : OKA A) (hsg : sg = 1 ∨ sg = -1) (hc : 1 ≤ mc) (hs : 4 ≤ ms) (hK : ∀ w', Kg G [] w w' → K (kn A sg) w') : DI G M_Bo_known [vA (bD B), vI sg] w mc ms K := by
  obtain ⟨h1, h2, -⟩ := id hB
  refine e_Bo_known (bD B) sg ⟨h1.1.is, bI B, h1.2.1, 1, 4, hc, hs, h2.1.is, v_iterator h2 Kg.rf (Nat.le_refl _) (Nat.le_refl _) (fun q w1 hq hu _ hI' => ?_)⟩
  have key : ∀ i : Int, 0 ≤ i → i ≤ A 0 0 → ∀ w2, Kg G [] w w2 → IT w2 q (bI B) (bIm B) i → WD G M_Bo_known 10 [(0, vA (bD B)), (1, vI sg), (2, vI (sI (fun i => if ce A (A 0 1) i then mx (sg * er A i) else 0) i)), (3, vP (some q))] [] w2 (mc - 1) (ms - 4) (yI K) := by
    refine up_ind (fun w2 hu hI' => ?_) (fun i h0 h3 ih w2 hu hI' => ?_)
    · exact l_Bo_known_1 _ _ _ _ ⟨q, rfl, hI'.1.is, v_Ai_hasNext (hB.k0 hu).2.1 hI' (fun h => absurd h (Int.lt_irrefl _)) (fun _ => ⟨fun _ => hK w2 hu, fun h => absurd rfl h⟩) (Int.le_refl _)⟩
    · have hb := hB.k0 hu
      refine l_Bo_known_1 _ _ _ _ ⟨q, rfl, hI'.1.is, v_Ai_hasNext hb.2.1 hI' (fun _ => ⟨fun h => absurd h (by decide), fun _ => ?_⟩) (fun h => by omega) (by omega)⟩
      refine v_next hb.2.1 hI' h0 h3 hu hq (fun w3 hu3 hI3 _ => ?_)
      have hb3 := hB.k0 hu3
      have him := hb3.2.2.2.2.1 i h0 h3
      have hih := ih w3 hu3 hI3
      rw [sI_s h0] at hih
      refine ⟨bF B i, rfl, him.1.is, hb3.1.1.is, v_Bo_certain hb3.1 him ⟨fun hz => ?_, fun hz => v_It_error him hA.1 h0 h3 ⟨?_, v_max ⟨?_, ?_⟩⟩⟩⟩
      · have hce : ce A (A 0 1) i = false := by
          cases hc2 : ce A (A 0 1) i with
          | false => rfl
          | true => rw [hc2] at hz; exact absurd hz (by decide)
        rw [hce] at hih
        simpa using hih
      · have h9 := er_in hA.1 h0 h3
        have h8 := sg_in hsg h9.1 h9.2
        exact inR_of (by omega) (by omega)
      · have h9 := er_in hA.1 h0 h3
        have h8 := sg_in hsg h9.1 h9.2
        have h7 := kn_in hA hsg h0 (by omega : i ≤ A 0 0)
        have h6 := hA.1.2.1
        have h5 := mx_in (sg * er A i)
        rw [mxm]
        exact inR_of (by omega) (by omega)
      · have hce : ce A (A 0 1) i = true := by
          cases hc2 : ce A (A 0 1) i with
          | true => rfl
          | false => rw [hc2] at hz; exact absurd rfl hz
        rw [hce] at hih
        rw [mxm]
        simpa using hih
  exact key 0 (Int.le_refl _) hA.1.1 w1 hu hI'
theorem y_projected {K : Int → Wd → Prop} {sg : Int} (hB : BK G w A B) (hA : OKA A) (hL : HL G w A h r n m R g) (hR0 : 0 < R) (hR1 : R ≤ A 0 2) (hsg : sg = 1 ∨ sg = -1) (hc : 1 ≤ mc) (hs : 4 ≤ ms) (hK : ∀ w', Kg G [] w w' → K (pn A R sg (hb A R)) w') : DI G M_Bo_projected [vA (bD B), vA h, vI R, vI sg] w mc ms K := by
  have hR5 := hA.2.2.1.2.1
  have hhb := hb_in hA (by omega : 0 ≤ R) hR1
  have hhm := hb_mono hA (by omega : 0 ≤ R) hR1 (Int.le_refl _)
  refine e_Bo_projected (bD B) h R sg ⟨1, 4, hc, hs, hL.1.1.is, v_iterator hL.1 Kg.rf (Nat.le_refl _) (Nat.le_refl _) (fun q w1 hq hu _ hI' => ?_)⟩
  have key : ∀ k : Int, 0 ≤ k → k ≤ hb A R → ∀ w2, Kg G [] w w2 → IT w2 q h m k → WD G M_Bo_projected 9 [(0, vA (bD B)), (2, vI R), (3, vI sg), (4, vI (pn A R sg k)), (5, vP (some q))] [] w2 (mc - 1) (ms - 4) (yI K) := by
    refine up_ind (fun w2 hu hI' => ?_) (fun k h0 h3 ih w2 hu hI' => ?_)
    · exact l_Bo_projected_1 _ _ _ _ _ ⟨q, rfl, hI'.1.is, v_Ai_hasNext (hL.k0 hu).1 hI' (fun h => absurd h (Int.lt_irrefl _)) (fun _ => ⟨fun _ => hK w2 hu, fun h => absurd rfl h⟩) (Int.le_refl _)⟩
    · have hh := hL.k0 hu
      refine l_Bo_projected_1 _ _ _ _ _ ⟨q, rfl, hI'.1.is, v_Ai_hasNext hh.1 hI' (fun _ => ⟨fun h => absurd h (by decide), fun _ => ?_⟩) (fun h => by omega) (by omega)⟩
      refine v_next hh.1 hI' h0 h3 hu hq (fun w3 hu3 hI3 _ => ?_)
      have hb3 := hB.k0 hu3
      have ht := (hL.k0 hu3).2 k h0 h3
      have hin := hI_in hA h0 (by omega : k < hb A (A 0 2))
      have hih := ih w3 hu3 hI3
      have hs1 : pn A R sg (k + 1) = pn A R sg k + mx (sg * pj A R (hI A k)) := sI_s h0
      rw [hs1] at hih
      have h9 := pj_in hA (R := R) hin.1 hin.2.1
      have h8 := sg_in hsg h9.1 h9.2
      refine ⟨g k, rfl, ht.1.is, hb3.1.1.is, y_part hb3 hA ht.1 ht.2.1 hin.1 hin.2.1 hR0 (by omega) ⟨inR_of (by omega) (by omega), v_max ⟨?_, ?_⟩⟩⟩
      · have h7 := pn_in hA (R := R) hsg h0 (by omega : k ≤ hb A (A 0 2))
        have h5 := mx_in (sg * pj A R (hI A k))
        rw [mxm]
        exact inR_of (by omega) (by omega)
      · rw [mxm]; exact hih
  exact key 0 (Int.le_refl _) hhb.1 w1 hu hI'
end RD
