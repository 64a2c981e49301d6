-- hits ranked by taint
section RK
variable {G : Gq} {w w' u v : Wd} {A : St} {B : Bks} {S T : List Nat} {a r n mc ms q x h row it : Nat} {m k i j R sg : Int} {f g : Int → Nat}
theorem fins_g {g : Int → Nat} {f : Int → Int} {p t : Int} : fins (fun j => g (f j)) p (g t) = fun j => g (insf f p t j) := by
  funext j
  unfold fins insf
  split
  · rfl
  · split <;> rfl
def RV (w u : Wd) (G : Gq) (q it h r n c s : Nat) (m k l : Int) (F : Int → Nat) : Prop := Kp [] w u ∧ IT u it h m k ∧ AL G u q r n l l F ∧ (n = 0 ∨ r ∉ wL w) ∧ chq n c s
theorem y_rankedL {K : Option Nat → Wd → Prop} (hB : BK G w A B) (hA : OKA A) (hx : XOK G w) (hL : HL G w A h r n m R g) (hsg : sg = 1 ∨ sg = -1) (hR0 : 0 ≤ R) (hR1 : R ≤ A 0 2) (hq : q ∉ wL w) (hit : it ∉ wL w)
    (hK : ∀ w' r' n', Kg G [] w w' → AL G w' q r' n' (rm (wT A sg) (hb A R)) (rm (wT A sg) (hb A R)) (fun j => g (rf (wT A sg) (hb A R) j)) → K (some q) w') :
    ∀ k : Int, 0 ≤ k → k ≤ hb A R → ∀ (u : Wd) (r' n' c s : Nat) (rc0 rs0 : Nat), RV w u G q it h r' n' c s m k (rm (wT A sg) k) (fun j => g (rf (wT A sg) k j)) → c ≤ rc0 → s ≤ rs0 → WD G M_Bo_ranked 14 [(0, vA (bD B)), (2, vI sg), (3, vA q), (4, vP (some it))] [] u rc0 rs0 (yP K) := by
  have hhb := hb_in hA hR0 hR1
  have hhm := hb_mono hA hR0 hR1 (Int.le_refl _)
  have hR5 := hA.2.2.1.2.1
  refine up_ind (fun u r' n' c s rc0 rs0 hv hc hs => ?_) (fun k k0 k1 ih u r' n' c s rc0 rs0 hv hc hs => ?_)
  · refine WD.wf (fun _ hx1 _ => ?_)
    have hg := Kg.of hv.1 hx hx1
    have hl := hL.k0 hg
    exact l_Bo_ranked_1 _ _ _ _ ⟨it, rfl, hv.2.1.1.is, v_Ai_hasNext hl.1 hv.2.1 (fun h => absurd h (Int.lt_irrefl _)) (fun _ => ⟨fun _ => hK u r' n' hg hv.2.2.1, fun h => absurd rfl h⟩) (Int.le_refl _)⟩
  · refine WD.wf (fun _ hx1 _ => ?_)
    have hg := Kg.of hv.1 hx hx1
    have hl := hL.k0 hg
    have hrk := rk_in (w := wT A sg) k k0
    have hin := hI_in hA k0 (by omega : k < hb A (A 0 2))
    have hwT : wT A sg k = sg * ta A (hI A k) := rfl
    have htl := ta_in hA.1 hin.1 hin.2.1
    have hwi := sg_in hsg htl.1 htl.2
    refine l_Bo_ranked_1 _ _ _ _ ⟨it, rfl, hv.2.1.1.is, v_Ai_hasNext hl.1 hv.2.1 (fun _ => ⟨fun h => absurd h (by decide), fun _ => ?_⟩) (fun h => by omega) (by omega)⟩
    refine v_next hl.1 hv.2.1 k0 k1 hg hit (fun u3 hg3 hI3 hkk => ?_)
    have h23 := hkk [it] u Kp.rf (Or.inl (by simp))
    have hl3 := hL.k0 hg3
    have hb3 := hB.k0 hg3
    have ht := hl3.2 k k0 k1
    have him := hb3.2.2.2.2.1 _ hin.1 hin.2.1
    have hqit : q ≠ it := Ow.kne hv.2.2.1.1 hv.2.1.1 (by simp)
    have hAL3 : AL G u3 q r' n' (rm (wT A sg) k) (rm (wT A sg) k) (fun j => g (rf (wT A sg) k j)) := hv.2.2.1.kq h23 (by simp [hqit]) (fun ho => by simp; exact Ow.kne ho hv.2.1.1 (by simp))
    refine ⟨g k, rfl, ht.1.is, hb3.1.1.is, bI B, hb3.1.2.1, hb3.2.1.1.is, ?_⟩
    rw [ht.2.1]
    refine v_Al_get hb3.2.1 hin.1 hin.2.1 ⟨_, rfl, him.1.is, v_It_taint him hA.1 hin.1 hin.2.1 ⟨inR_of (by omega) (by omega), hAL3.1.is, v_Al_size hAL3 ⟨fun hpos => ?_, fun hneg => ?_⟩⟩⟩
    · -- put in
      have hn' := chq_m hv.2.2.2.2
      have put : ∀ (u4 : Wd) (rc1 rs1 : Nat), Kp [] w u4 → XOK G u4 → AL G u4 q r' n' (rm (wT A sg) k) (rm (wT A sg) k) (fun j => g (rf (wT A sg) k j)) → IT u4 it h m (k + 1) → c ≤ rc1 → s ≤ rs1 → ∃ c42 s43 : Nat, c42 ≤ rc1 ∧ s43 ≤ rs1 ∧ DV G M_Al_add_7a177 [vA q, vI (plc (wT A sg) (rf (wT A sg) k) k (rm (wT A sg) k).toNat : Nat), vA (g k)] u4 c42 s43 (fun w47 => WD G M_Bo_ranked 14 [(0, vA (bD B)), (2, vI sg), (3, vA q), (4, vP (some it))] [] w47 (rc1 - c42) (rs1 - s43) (yP K)) := by
        intro u4 rc1 rs1 hk4 hx4 hA4 hI4 hc1 hs1
        have hl4 := hL.k0 (Kg.of hk4 hx hx4)
        have hpl := plc_le (wT A sg) (rf (wT A sg) k) k (rm (wT A sg) k).toNat
        have hel : ∀ j, 0 ≤ j → j < rm (wT A sg) k → EO G u4 (g (rf (wT A sg) k j)) := fun j a b => by
          have h9 := hrk.2.2 j a b
          exact eo_12 (hl4.2 _ h9.1 (by omega)).1.is
        have hek : EO G u4 (g k) := eo_12 (hl4.2 k k0 k1).1.is
        obtain ⟨e1, e2⟩ := rm_yes (w := wT A sg) k0 (by rw [hwT]; omega)
        have fin : ∀ (u5 : Wd) (r2 n2 c2 s2 rc2 rs2 : Nat), Kp [] w u5 → AL G u5 q r2 n2 (rm (wT A sg) k + 1) (rm (wT A sg) k + 1) (fins (fun j => g (rf (wT A sg) k j)) ((plc (wT A sg) (rf (wT A sg) k) k (rm (wT A sg) k).toNat : Nat) : Int) (g k)) → IT u5 it h m (k + 1) → (n2 = 0 ∨ r2 ∉ wL w) → chq n2 c2 s2 → c2 ≤ rc2 → s2 ≤ rs2 → WD G M_Bo_ranked 14 [(0, vA (bD B)), (2, vI sg), (3, vA q), (4, vP (some it))] [] u5 rc2 rs2 (yP K) := by
          intro u5 r2 n2 c2 s2 rc2 rs2 hk5 hA5 hI5 hf5 hch5 hc5 hs5
          refine ih u5 r2 n2 c2 s2 rc2 rs2 ⟨hk5, hI5, ?_, hf5, hch5⟩ hc5 hs5
          rw [e1, e2, ← fins_g]
          exact hA5
        have hI47 : ∀ (S : List Nat) (u5 : Wd), Kp S u4 u5 → it ∉ S → IT u5 it h m (k + 1) := fun S u5 hk hs => hI4.kp hk hs
        by_cases hfull : rm (wT A sg) k = (n' : Int)
        · obtain ⟨ch1, ch2, ch3⟩ := chq_n hv.2.2.2.2 (by omega)
          refine ⟨1, ncap n', by omega, by omega, v_Al_insert hA4 (by omega) (by omega) (by omega) (by omega) (by omega) hel hek (fun _ => ⟨Nat.le_refl _, Nat.le_refl _⟩) (fun u5 r2 n2 _ hA5 _ hg5 => ?_)⟩
          obtain ⟨d1, d2, d3⟩ := hg5 hfull
          subst d2
          exact fin u5 r2 (ncap n') (c - 1) (s - ncap n') _ _ (hk4.trd d3 (fun y hy => Or.inr (by rw [List.mem_singleton.mp hy]; exact hq))) hA5 (hI47 _ _ d3 (by simp [hqit.symm])) (Or.inr (fun hm => d1.1 (hk4.2 _ hm).1)) ch1 (by omega) (by omega)
        · refine ⟨0, 0, Nat.zero_le _, Nat.zero_le _, v_Al_insert hA4 (by omega) (by omega) (by omega) (by omega) (by omega) hel hek (fun h => absurd h hfull) (fun u5 r2 n2 hk5 hA5 hs5 _ => ?_)⟩
          obtain ⟨d1, d2⟩ := hs5 hfull
          subst d1 d2
          have hn0 : n2 ≠ 0 := fun e => by
            have := hA4.2.2.2.2.1
            omega
          have hrw := hv.2.2.2.1.resolve_left hn0
          have hrO : Ow u4 r2 (kR 4 n2) := by
            rcases hA4.2.2.2.2.2.1 with ⟨_, e⟩ | e
            · exact absurd e hn0
            · exact e.1
          refine fin u5 r2 n2 c s _ _ (hk4.trd hk5 (fun y hy => Or.inr ?_)) hA5 (hI47 _ _ hk5 ?_) (Or.inr hrw) hv.2.2.2.2 (by omega) (by omega)
          · rcases List.mem_cons.mp hy with e | e
            · rw [e]; exact hq
            · rw [List.mem_singleton.mp e]; exact hrw
          · intro hm
            rcases List.mem_cons.mp hm with e | e
            · exact hqit e.symm
            · exact Ow.kne hI4.1 hrO (by simp) (List.mem_singleton.mp e)
      have down : ∀ (a : Nat), (a : Int) ≤ rm (wT A sg) k → plc (wT A sg) (rf (wT A sg) k) k a = plc (wT A sg) (rf (wT A sg) k) k (rm (wT A sg) k).toNat → WD G M_Bo_ranked 72 [(0, vA (bD B)), (2, vI sg), (3, vA q), (4, vA it), (5, vA (g k)), (6, vI (sg * ta A (hI A k))), (7, vI (a : Int))] [] u3 rc0 rs0 (yP K) := by
        intro a
        induction a with
        | zero =>
          intro _ he
          refine WD.wf (fun _ hx3 _ => ?_)
          refine l_Bo_ranked_2 _ _ _ _ _ _ _ ⟨fun _ => ?_, fun h => absurd (by omega) h⟩
          have e0 : plc (wT A sg) (rf (wT A sg) k) k 0 = 0 := rfl
          obtain ⟨c42, s43, p1, p2, p3⟩ := put u3 rc0 rs0 hg3.1 hx3 hAL3 hI3 hc hs
          rw [← he, e0] at p3
          exact ⟨c42, s43, p1, p2, hAL3.1.is, p3⟩
        | succ a iha =>
          intro ha he
          refine WD.wf (fun _ hx3 _ => ?_)
          have h9 := hrk.2.2 (a : Int) (by omega) (by omega)
          have hin2 := hI_in hA h9.1 (by omega : rf (wT A sg) k (a : Int) < hb A (A 0 2))
          have hta2 := ta_in hA.1 hin2.1 hin2.2.1
          have hwi2 := sg_in hsg hta2.1 hta2.2
          have ht2 := hl3.2 _ h9.1 (by omega : rf (wT A sg) k (a : Int) < hb A R)
          have him2 := hb3.2.2.2.2.1 _ hin2.1 hin2.2.1
          have eT : wT A sg (rf (wT A sg) k (a : Int)) = sg * ta A (hI A (rf (wT A sg) k (a : Int))) := rfl
          have ep : plc (wT A sg) (rf (wT A sg) k) k (a + 1) = if wT A sg (rf (wT A sg) k (a : Int)) < wT A sg k then plc (wT A sg) (rf (wT A sg) k) k a else a + 1 := rfl
          refine l_Bo_ranked_2 _ _ _ _ _ _ _ ⟨fun h => by omega, fun _ => ⟨hb3.1.1.is, inR_of (by omega) (by omega), hAL3.1.is, ?_⟩⟩
          rw [show ((a + 1 : Nat) : Int) - 1 = (a : Int) by omega]
          refine v_Al_get hAL3 (by omega) (by omega) ⟨_, rfl, ht2.1.is, bI B, hb3.1.2.1, hb3.2.1.1.is, ?_⟩
          rw [ht2.2.1]
          refine v_Al_get hb3.2.1 hin2.1 hin2.2.1 ⟨_, rfl, him2.1.is, v_It_taint him2 hA.1 hin2.1 hin2.2.1 ⟨inR_of (by omega) (by omega), fun hle => ?_, fun hlt => ⟨inR_of (by omega) (by omega), ?_⟩⟩⟩
          · rw [eT, hwT, if_neg (by omega)] at ep
            obtain ⟨c42, s43, p1, p2, p3⟩ := put u3 rc0 rs0 hg3.1 hx3 hAL3 hI3 hc hs
            rw [← he, ep] at p3
            exact ⟨c42, s43, p1, p2, p3⟩
          · rw [eT, hwT, if_pos (by omega)] at ep
            rw [show ((a + 1 : Nat) : Int) + (-1) = (a : Int) by omega]
            exact iha (by omega) (ep.symm.trans he)
      have := down (rm (wT A sg) k).toNat (by omega) rfl
      rw [Int.toNat_of_nonneg hrk.1] at this
      exact this
    · obtain ⟨e1, e2⟩ := rm_no (w := wT A sg) k0 (by rw [hwT]; omega)
      refine ih u3 r' n' c s rc0 rs0 ⟨hg3.1, hI3, ?_, hv.2.2.2.1, hv.2.2.2.2⟩ hc hs
      rw [e1, e2]
      exact hAL3
theorem y_ranked {K : Option Nat → Wd → Prop} (hB : BK G w A B) (hA : OKA A) (hL : HL G w A h r n m R g) (hsg : sg = 1 ∨ sg = -1) (hR0 : 0 ≤ R) (hR1 : R ≤ A 0 2) (hc : 11 ≤ mc) (hs : 725 ≤ ms)
    (hK : ∀ q w' r' n', Kg G [] w w' → AL G w' q r' n' (rm (wT A sg) (hb A R)) (rm (wT A sg) (hb A R)) (fun j => g (rf (wT A sg) (hb A R) j)) → K (some q) w') : DP G M_Bo_ranked [vA (bD B), vA h, vI sg] w mc ms K := by
  refine DC.wf fun hσ hx => ?_
  refine e_Bo_ranked (bD B) h sg ⟨by omega, by omega, fun q hq => DV.gx (v_Al_init Ow.nw wI_uN_s (fun w5 hk5 hL5 _ hx5 _ => ?_))⟩
  have hk : Kp [] w w5 := (Kp.rf.uN hq.1).trd hk5 (fun y hy => Or.inr (by rw [List.mem_singleton.mp hy]; exact hq.1))
  have hg := Kg.of hk hx hx5
  have hl5 := hL.k0 hg
  refine ⟨1, 4, by omega, by omega, hl5.1.1.is, v_iterator (u := w) hl5.1 hg (Nat.le_refl _) (Nat.le_refl _) (fun it w6 hit hu hu5 hI => ?_)⟩
  refine y_rankedL (q := q) hB hA hx hL hsg hR0 hR1 hq.1 hit (fun w' r' n' hg' hA' => hK q w' r' n' hg' hA') 0 (Int.le_refl _) (hb_in hA hR0 hR1).1 w6 (xa G 0) 0 9 718 _ _ ⟨hu.1, hI, ?_, Or.inl rfl, by unfold chq chL; simp⟩ (by omega) (by omega)
  have h0 := hL5.kp hu5.1 List.not_mem_nil List.not_mem_nil
  exact ⟨h0.1, h0.2.1, h0.2.2.1, h0.2.2.2.1, h0.2.2.2.2.1, h0.2.2.2.2.2.1, fun j a b => by rw [rm_0] at b; omega⟩
end RK
