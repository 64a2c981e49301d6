-- what the hits make
section ES
variable {G : Gq} {w w' u v : Wd} {A : St} {B : Bks} {S T : List Nat} {a r n mc ms q x h row N : Nat} {m k i j R sg t e : Int} {f g : Int → Nat}
theorem tm_r (hA : OKA A) : 1 ≤ A 6 1 ∧ A 6 1 ≤ 500 := hA.2.2.2.2.2.2.1
theorem y_basic {K : Int → Wd → Prop} (hB : BK G w A B) (hA : OKA A) (hO : OV w A B row N) (hN : N ≤ 43200) (hj1 : j ≤ 1000) (hc : 1 ≤ mc) (hs : 4 ≤ ms) (hK : ∀ w', Kg G [] w w' → K (ba A j (A 6 1)) w') : DI G M_Bo_basic [vA (bD B), vI j] w mc ms K := by
  refine e_Bo_basic (bD B) j ⟨1, 4, hc, hs, hB.1.1.is, y_ownersC hB hA.1 hO (by omega) (Nat.le_refl _) (Nat.le_refl _) (fun w1 hg => ?_)⟩
  have hb := hB.k0 hg
  have ho := hO.k0 hB.1.1.1 hg
  have hr := tm_r hA
  have hbi := ba_in hA (n := j) (r := A 6 1)
  refine ⟨row, rfl, N, ho.2.2.1.is, inR_of (by omega) (by omega), bT B, hb.1.2.2.2.1, 5, hb.2.2.2.1.1.is, by omega, ?_⟩
  rw [hb.2.2.2.1.2 1 (by omega) (by omega), ho.2.2.2.1]
  refine y_upper hj1 (Int.le_refl _) (by omega) hr.1 hr.2 ⟨?_, hbi.1, ?_, ?_⟩
  · unfold inL; omega
  · exact inR_of (by have := hbi.2.2.1; unfold ba at this; omega) (by have := hbi.2.2.2; unfold ba at this; omega)
  · exact hK w1 hg
theorem abs_sg {x : Int} (h : sg = 1 ∨ sg = -1) (hp : 0 < sg * x) : (if 0 ≤ x then x else -x) = sg * x := by
  rcases h with h | h <;> subst h <;> split <;> omega
theorem y_rises {K : Int → Wd → Prop} (hB : BK G w A B) (hA : OKA A) (hO : OV w A B row N) (hN : N ≤ 43200) (hL : HL G w A h r n m R g) (hsg : sg = 1 ∨ sg = -1) (hR0 : 0 ≤ R) (hR1 : R ≤ A 0 2) (hj1 : j ≤ 1000) (hc : 12 ≤ mc) (hs : 729 ≤ ms) (hK : ∀ w', Kg G [] w w' → K (rs A sg (hb A R) j (A 6 1)) w') : DI G M_Bo_rises [vA (bD B), vA h, vI sg, vI j] w mc ms K := by
  have hhb := hb_in hA hR0 hR1
  have hhm := hb_mono hA hR0 hR1 (Int.le_refl _)
  have hR5 := hA.2.2.1.2.1
  have hr := tm_r hA
  have hrk := rk_in (w := wT A sg) (hb A R) hhb.1
  refine e_Bo_rises (bD B) h sg j ⟨11, 725, by omega, by omega, hB.1.1.is, y_ranked hB hA hL hsg hR0 hR1 (Nat.le_refl _) (Nat.le_refl _) (fun q w1 r1 n1 hg hL1 => ?_)⟩
  have hb1 := hB.k0 hg
  have ho1 := hO.k0 hB.1.1.1 hg
  refine ⟨1, 4, by omega, by omega, y_ownersC hb1 hA.1 ho1 (by omega) (Nat.le_refl _) (Nat.le_refl _) (fun w2 hg2 => ?_)⟩
  have hg02 := hg.tr hg2
  have hb2 := hB.k0 hg02
  have ho2 := hO.k0 hB.1.1.1 hg02
  have hl2 := hL.k0 hg02
  have hL2 := hL1.kp hg2.1 List.not_mem_nil List.not_mem_nil
  refine ⟨row, rfl, N, ho2.2.2.1.is, inR_of (by omega) (by omega), bT B, hb2.1.2.2.2.1, 5, hb2.2.2.2.1.1.is, by omega, ?_⟩
  rw [hb2.2.2.2.1.2 1 (by omega) (by omega), ho2.2.2.2.1]
  refine y_upper hj1 (Int.le_refl _) (by omega) hr.1 hr.2 ?_
  have key : ∀ k : Int, 0 ≤ k → k ≤ rm (wT A sg) (hb A R) → WD G M_Bo_rises 34 [(0, vA (bD B)), (3, vI j), (4, vP (some q)), (5, vI (sI (ri A sg (hb A R) j (A 6 1)) k)), (6, vI (Mq A (A 0 1))), (7, vI (UP j k (A 6 1))), (8, vI (k + 1))] [] w2 (mc - 11 - 1) (ms - 725 - 4) (yI K) := by
    refine up_ind ?_ (fun k k0 k1 ih => ?_)
    · exact l_Bo_rises_1 _ _ _ _ _ _ _ ⟨q, rfl, hL2.1.is, v_Al_size hL2 ⟨fun _ => hK w2 hg02, fun h => absurd (by omega) h⟩⟩
    · have hri := ri_in hA hsg hhb.1 hhm hj1 hr.1 hr.2 k0 k1
      have hrs := rs_in hA hsg hhb.1 hhm hj1 hr.1 hr.2 k0 (by omega : k ≤ rm (wT A sg) (hb A R))
      have hw := hrk.2.2 k k0 k1
      have hin := hI_in hA hw.1 (by omega : rf (wT A sg) (hb A R) k < hb A (A 0 2))
      have ht2 := hl2.2 _ hw.1 hw.2.1
      have him := hb2.2.2.2.2.1 _ hin.1 hin.2.1
      have hta := ta_in hA.1 hin.1 hin.2.1
      have eT : wT A sg (rf (wT A sg) (hb A R) k) = sg * ta A (hI A (rf (wT A sg) (hb A R) k)) := rfl
      have eri : ri A sg (hb A R) j (A 6 1) k = (Mq A (A 0 1) * (UP j (k + 1) (A 6 1) - UP j k (A 6 1)) * wT A sg (rf (wT A sg) (hb A R) k)) / 10000000000 := rfl
      refine l_Bo_rises_1 _ _ _ _ _ _ _ ⟨q, rfl, hL2.1.is, v_Al_size hL2 ⟨fun h => by omega, fun _ => ⟨hb2.1.1.is, bT B, hb2.1.2.2.2.1, 5, hb2.2.2.2.1.1.is, by omega, ?_⟩⟩⟩
      rw [hb2.2.2.2.1.2 1 (by omega) (by omega)]
      refine y_upper hj1 (by omega) (by omega) hr.1 hr.2 ⟨inR_of (by omega) (by omega), by unfold inL; omega, inR_of (by omega) (by omega), ?_⟩
      rw [show k + 1 - 1 = k by omega]
      refine v_Al_get hL2 k0 k1 ⟨_, rfl, ht2.1.is, bI B, hb2.1.2.1, hb2.2.1.1.is, ?_⟩
      rw [ht2.2.1]
      refine v_Al_get hb2.2.1 hin.1 hin.2.1 ⟨_, rfl, him.1.is, v_It_taint him hA.1 hin.1 hin.2.1 (v_abs (by omega) (by omega) ?_)⟩
      rw [abs_sg hsg (by rw [← eT]; exact hw.2.2), ← eT, ← eri]
      refine ⟨by unfold inL; omega, hri.2.2.2.2.1, inR_of (by omega) (by omega), inR_of (by omega) (by omega), inR_of (by omega) (by omega), ?_⟩
      have := ih
      rw [sI_s k0] at this
      exact this
  have := key 0 (Int.le_refl _) hrk.1
  exact this
theorem y_rise {K : Int → Wd → Prop} (hB : BK G w A B) (hA : OKA A) (hsg : sg = 1 ∨ sg = -1) (hR0 : 0 ≤ R) (hR1 : R ≤ A 0 2) (hj1 : j ≤ 1000) (hl2 : HL G w A h r n m R g) {q r1 n1 : Nat} {m1 : Int} (hL2 : AL G w q r1 n1 m1 (rm (wT A sg) (hb A R)) (fun j => g (rf (wT A sg) (hb A R) j))) (k0 : 0 ≤ k) (k1 : k < rm (wT A sg) (hb A R)) (hK : K (ri A sg (hb A R) j (A 6 1) k) w) : DI G M_Bo_rise [vA (bD B), vA q, vI (k + 1), vI j, vI (Mq A (A 0 1))] w mc ms K := by
  have hhb := hb_in hA hR0 hR1
  have hhm := hb_mono hA hR0 hR1 (Int.le_refl _)
  have hR5 := hA.2.2.1.2.1
  have hr := tm_r hA
  have hrk := rk_in (w := wT A sg) (hb A R) hhb.1
  have hri := ri_in hA hsg hhb.1 hhm hj1 hr.1 hr.2 k0 k1
  have hw := hrk.2.2 k k0 k1
  have hin := hI_in hA hw.1 (by omega : rf (wT A sg) (hb A R) k < hb A (A 0 2))
  have ht2 := hl2.2 _ hw.1 hw.2.1
  have him := hB.2.2.2.2.1 _ hin.1 hin.2.1
  have hta := ta_in hA.1 hin.1 hin.2.1
  have eT : wT A sg (rf (wT A sg) (hb A R) k) = sg * ta A (hI A (rf (wT A sg) (hb A R) k)) := rfl
  have eri : ri A sg (hb A R) j (A 6 1) k = (Mq A (A 0 1) * (UP j (k + 1) (A 6 1) - UP j k (A 6 1)) * wT A sg (rf (wT A sg) (hb A R) k)) / 10000000000 := rfl
  refine e_Bo_rise (bD B) q (k + 1) j _ ⟨hB.1.1.is, bT B, hB.1.2.2.2.1, 5, hB.2.2.2.1.1.is, by omega, ?_⟩
  rw [hB.2.2.2.1.2 1 (by omega) (by omega)]
  refine y_upper hj1 (by omega) (by omega) hr.1 hr.2 ⟨inR_of (by omega) (by omega), bT B, hB.1.2.2.2.1, 5, hB.2.2.2.1.1.is, by omega, ?_⟩
  rw [hB.2.2.2.1.2 1 (by omega) (by omega), show k + 1 - 1 = k by omega]
  refine y_upper hj1 (by omega) (by omega) hr.1 hr.2 ⟨inR_of (by omega) (by omega), by unfold inL; omega, hL2.1.is, v_Al_get hL2 k0 k1 ⟨_, rfl, ht2.1.is, bI B, hB.1.2.1, hB.2.1.1.is, ?_⟩⟩
  rw [ht2.2.1]
  refine v_Al_get hB.2.1 hin.1 hin.2.1 ⟨_, rfl, him.1.is, v_It_taint him hA.1 hin.1 hin.2.1 (v_abs (by omega) (by omega) ?_)⟩
  rw [abs_sg hsg (by rw [← eT]; exact hw.2.2), ← eT, ← eri]
  exact ⟨by unfold inL; omega, hri.2.2.2.2.1, inR_of (by omega) (by omega), hK⟩
theorem y_bound {K : Int → Wd → Prop} (hB : BK G w A B) (hA : OKA A) (hO : OV w A B row N) (hN : N ≤ 43200) (hsg : sg = 1 ∨ sg = -1) (hR0 : 0 < R) (hR1 : R ≤ A 0 2) (hc : 300 ≤ mc) (hs : 2500 ≤ ms) (hK : ∀ w', Kg G [] w w' → K (LI A R (hb A R) (A 6 1) sg) w') : DI G M_Bo_bound [vA (bD B), vI sg, vI R, vI 0] w mc ms K := by
  have hR5 := hA.2.2.1.2.1
  have hhb := hb_in hA (by omega : 0 ≤ R) hR1
  have hr := tm_r hA
  have hLI := LI_in hA hsg (by omega : 0 ≤ R) hR1 (n := hb A R) (by omega) hr.1 hr.2
  have hba := ba_in hA (n := hb A R) (r := A 6 1)
  have hkn := kn_in2 hA hsg
  have hkm := kn_in2 hA (sg_neg hsg)
  refine e_Bo_bound (bD B) sg R 0 ⟨251, 1450, by omega, by omega, hB.1.1.is, y_hitsC hB hA hO (by omega) (by omega) hR1 (Nat.le_refl _) (Nat.le_refl _) (fun q w1 r1 n1 g1 hg1 _ hL1 _ => ?_)⟩
  have hb1 := hB.k0 hg1
  have ho1 := hO.k0 hB.1.1.1 hg1
  refine ⟨q, rfl, hL1.1.1.is, v_Al_size hL1.1 ⟨inR_of (by omega) (by omega), ?_⟩⟩
  rw [Int.add_zero]
  refine ⟨1, 4, by omega, by omega, y_basic hb1 hA ho1 hN (by omega) (Nat.le_refl _) (Nat.le_refl _) (fun w2 hg2 => ?_)⟩
  have hb2 := hb1.k0 hg2
  have ho2 := ho1.k0 hb1.1.1.1 hg2
  have hL2 := hL1.k0 hg2
  refine ⟨12, 729, by omega, by omega, y_rises hb2 hA ho2 hN hL2 hsg (by omega) hR1 (by omega) (Nat.le_refl _) (Nat.le_refl _) (fun w3 hg3 => ?_)⟩
  have hb3 := hb2.k0 hg3
  have hL3 := hL2.k0 hg3
  refine ⟨inR_of (by omega) (by omega), 1, 4, by omega, by omega, y_known hb3 hA hsg (Nat.le_refl _) (Nat.le_refl _) (fun w4 hg4 => ?_)⟩
  have hb4 := hb3.k0 hg4
  have hL4 := hL3.k0 hg4
  have hgA := ((hg1.tr hg2).tr hg3).tr hg4
  refine ⟨inR_of (by omega) (by omega), bT B, hb4.1.2.2.2.1, 5, hb4.2.2.2.1.1.is, by omega, ?_⟩
  rw [hb4.2.2.2.1.2 3 (by omega) (by omega)]
  have hK2 := hK
  unfold LI at hK
  refine ⟨fun h3 => ⟨inR_of (by omega) (by omega), 1, 4, by omega, by omega, y_known hb4 hA (sg_neg hsg) (Nat.le_refl _) (Nat.le_refl _) (fun w5 hg5 => ?_)⟩, fun h3 => ?_⟩
  · have hb5 := hb4.k0 hg5
    have hL5 := hL4.k0 hg5
    refine ⟨inR_of (by omega) (by omega), 1, 4, by omega, by omega, y_projected hb5 hA hL5 hR0 hR1 (sg_neg hsg) (Nat.le_refl _) (Nat.le_refl _) (fun w6 hg6 => ?_)⟩
    refine ⟨inR_of (by omega) (by omega), ?_⟩
    have := hK w6 ((hgA.tr hg5).tr hg6)
    rw [if_neg h3] at this
    exact this
  · have := hK w4 hgA
    rw [if_pos h3] at this
    exact this
theorem y_size {K : Int → Wd → Prop} (hB : BK G w A B) (hA : OKA A) (he0 : 0 ≤ e) (he1 : e ≤ 9) (hc : 1 ≤ mc) (hs : 4 ≤ ms) (hK : ∀ w', Kg G [] w w' → K (SZ (al A) t e (A 6 1)) w') : DI G M_Bo_size [vA (bD B), vI t, vI e] w mc ms K := by
  have hr := tm_r hA
  have hal := al_in hA.1
  refine e_Bo_size (bD B) t e ⟨1, 4, hc, hs, hB.1.1.is, v_allCoins hB hA.1 (Nat.le_refl _) (Nat.le_refl _) (fun w1 hg => ?_)⟩
  have hb := hB.k0 hg
  have hK1 := hK w1 hg
  have key : ∀ i : Int, 0 ≤ i → i ≤ 400 → (∀ j, 0 ≤ j → j < i → szb (al A) t e (A 6 1) (j + 1) = false) → WD G M_Bo_size 9 [(0, vA (bD B)), (1, vI t), (2, vI e), (3, vL (al A)), (5, vI (i + 1))] [] w1 (mc - 1) (ms - 4) (yI K) := by
    refine up_ind (fun hno => ?_) (fun i i0 i1 ih hno => ?_)
    · refine l_Bo_size_1 _ _ _ _ _ ⟨fun _ => ?_, fun h => absurd (by omega) h⟩
      unfold SZ at hK1
      rw [fI_none (by omega) hno, if_pos rfl] at hK1
      exact hK1
    · have hu := UP_in (i + 1) e (A 6 1)
      have hm0 := Int.mul_nonneg hal.1 (by omega : 0 ≤ UP (i + 1) e (A 6 1))
      have hm1 := mul_le_l (c := al A) hu.2 hal.1
      refine l_Bo_size_1 _ _ _ _ _ ⟨fun h => by omega, fun _ => ⟨hb.1.1.is, bT B, hb.1.2.2.2.1, 5, hb.2.2.2.1.1.is, by omega, ?_⟩⟩
      rw [hb.2.2.2.1.2 1 (by omega) (by omega)]
      refine y_upper (by omega) he0 (by omega) hr.1 hr.2 ⟨by unfold inL; omega, hm0, fun hle => ?_, fun hgt => ⟨inR_of (by omega) (by omega), ih (fun j a b => ?_)⟩⟩
      · have hz : szb (al A) t e (A 6 1) (i + 1) = true := by
          unfold szb
          simp only [decide_eq_true_eq]
          unfold lcq at hle
          by_cases h1 : t < al A * UP (i + 1) e (A 6 1) / 1000000
          · rw [if_pos h1] at hle; omega
          · omega
        unfold SZ at hK1
        rw [fI_eq i0 i1 hz hno, if_neg (by omega)] at hK1
        exact hK1
      · by_cases hj : j = i
        · subst hj
          unfold szb
          simp only [decide_eq_false_iff_not]
          unfold lcq at hgt
          by_cases h1 : t < al A * UP (j + 1) e (A 6 1) / 1000000
          · omega
          · rw [if_neg h1] at hgt
            split at hgt <;> omega
        · exact hno j a (by omega)
  have := key 0 (Int.le_refl _) (by omega) (fun j a b => by omega)
  exact this
end ES
