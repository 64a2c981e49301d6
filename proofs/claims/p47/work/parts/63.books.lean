-- the law's books: what they hold of what a ledger is
def Kg (G : Gq) (S : List Nat) (w w' : Wd) : Prop := Kp S w w' ∧ Gw G w w'
abbrev Bks : Type := (Nat × Nat × Nat × Nat × Int × (Int → Nat)) × (Nat × Nat × Nat × Int × (Int → Nat)) × Nat
abbrev bD (B : Bks) : Nat := B.1.1
abbrev bI (B : Bks) : Nat := B.1.2.1
abbrev bIr (B : Bks) : Nat := B.1.2.2.1
abbrev bIn (B : Bks) : Nat := B.1.2.2.2.1
abbrev bIm (B : Bks) : Int := B.1.2.2.2.2.1
abbrev bF (B : Bks) : Int → Nat := B.1.2.2.2.2.2
abbrev bS (B : Bks) : Nat := B.2.1.1
abbrev bSr (B : Bks) : Nat := B.2.1.2.1
abbrev bSn (B : Bks) : Nat := B.2.1.2.2.1
abbrev bSm (B : Bks) : Int := B.2.1.2.2.2.1
abbrev bG (B : Bks) : Int → Nat := B.2.1.2.2.2.2
abbrev bT (B : Bks) : Nat := B.2.2
/-- an item -/
def IM (w : Wd) (A : St) (x : Nat) (j : Int) : Prop := Ow w x (kO 13) ∧ wI w x 0 = A 1 j ∧ wI w x 1 = A 2 j ∧ wI w x 2 = A 3 j ∧ wI w x 3 = A 4 j
def BKd (w : Wd) (A : St) (B : Bks) : Prop := Ow w (bD B) (kO 11) ∧ wR w (bD B) 0 = some (bI B) ∧ wR w (bD B) 1 = some (bS B) ∧ wR w (bD B) 2 = some (bT B) ∧ wI w (bD B) 3 = A 0 1 ∧ wI w (bD B) 4 = A 0 3
def BK (G : Gq) (w : Wd) (A : St) (B : Bks) : Prop :=
  BKd w A B ∧ AL G w (bI B) (bIr B) (bIn B) (bIm B) (A 0 0) (bF B) ∧ AL G w (bS B) (bSr B) (bSn B) (bSm B) (A 0 2) (bG B) ∧
  (Ow w (bT B) (kA 0 5) ∧ ∀ j, 0 ≤ j → j < 5 → wI w (bT B) j = A 6 j) ∧ (∀ j, 0 ≤ j → j < A 0 0 → IM w A (bF B j) j) ∧ ∀ j, 0 ≤ j → j < A 0 2 → BX G w (bG B j) (A 5 j)
/-- no book is greater than the law draws it -/
def SB (A : St) : Prop := ∀ i, 0 ≤ i → i < A 0 0 → A 3 i ≤ 900
section BK
variable {G : Gq} {w w' u v : Wd} {A : St} {B : Bks} {S T : List Nat} {a r n mc ms q x : Nat} {m k i j : Int} {f : Int → Nat}
theorem Kg.rf : Kg G S w w := ⟨Kp.rf, Gw.rf⟩
theorem Kg.tr (h1 : Kg G S u w) (h2 : Kg G S w v) : Kg G S u v := ⟨h1.1.tr h2.1, h1.2.tr h2.2⟩
theorem Kg.nil (h : Kg G [] u w) : Kg G S u w := ⟨h.1.nil, h.2⟩
theorem BX.kg (h : BX G w x j) (hk : Kg G S w w') (hs : x ∉ S) : BX G w' x j := by
  refine ⟨h.1.g hk.2, ?_⟩
  rcases h.1.1 with hm | ⟨i, hi, rfl⟩
  · exact (hk.1.I hm hs).trans h.2
  · exact ((hk.2.2 i hi).2.1 0).trans h.2
theorem IM.kp (h : IM w A x j) (hk : Kp S w w') (hs : x ∉ S) : IM w' A x j := ⟨h.1.kp hk, (hk.I h.1.1 hs).trans h.2.1, (hk.I h.1.1 hs).trans h.2.2.1, (hk.I h.1.1 hs).trans h.2.2.2.1, (hk.I h.1.1 hs).trans h.2.2.2.2⟩
theorem BKd.kp (h : BKd w A B) (hk : Kp S w w') (hs : bD B ∉ S) : BKd w' A B := ⟨h.1.kp hk, (hk.R h.1.1 hs).trans h.2.1, (hk.R h.1.1 hs).trans h.2.2.1, (hk.R h.1.1 hs).trans h.2.2.2.1, (hk.I h.1.1 hs).trans h.2.2.2.2.1, (hk.I h.1.1 hs).trans h.2.2.2.2.2⟩
/-- read alone -/
theorem BK.k0 (h : BK G w A B) (hk : Kg G [] w w') : BK G w' A B := by
  obtain ⟨h1, h2, h3, ⟨h4, h5⟩, h6, h7⟩ := h
  exact ⟨h1.kp hk.1 List.not_mem_nil, h2.kp hk.1 List.not_mem_nil List.not_mem_nil, h3.kp hk.1 List.not_mem_nil List.not_mem_nil, ⟨h4.kp hk.1, fun j a b => (hk.1.I h4.1 List.not_mem_nil).trans (h5 j a b)⟩, fun j a b => (h6 j a b).kp hk.1 List.not_mem_nil, fun j a b => (h7 j a b).kg hk List.not_mem_nil⟩
theorem v_It_coins {K : Int → Wd → Prop} (h : IM w A x j) (hK : K (co A j) w) : DI G M_It_coins [vA x] w mc ms K := by
  refine e_It_coins x ⟨h.1.is, v_max ?_⟩
  rw [h.2.2.2.1]
  unfold co at hK
  exact hK
theorem v_It_error {K : Int → Wd → Prop} (h : IM w A x j) (hA : OKL A) (h0 : 0 ≤ j) (h1 : j < A 0 0) (hK : K (er A j) w) : DI G M_It_error [vA x] w mc ms K := by
  have h2 := hA.2.2 j h0 h1
  obtain ⟨g1, g2, g3, g4, g5⟩ := h
  refine e_It_error x ⟨g1.is, fun h => ?_, fun h => ?_⟩
  · rw [g5] at h
    rw [g4, g5]
    unfold er at hK
    rw [if_neg (by omega)] at hK
    exact ⟨inR_of (by omega) (by omega), hK⟩
  · rw [g5] at h
    unfold er at hK
    rw [if_pos (by omega)] at hK
    exact hK
theorem v_It_taint {K : Int → Wd → Prop} (h : IM w A x j) (hA : OKL A) (h0 : 0 ≤ j) (h1 : j < A 0 0) (hK : K (ta A j) w) : DI G M_It_taint [vA x] w mc ms K := by
  have h2 := hA.2.2 j h0 h1
  have h3 := er_in hA h0 h1
  have h4 := ta_in hA h0 h1
  have h := h
  obtain ⟨g1, g2, g3, g4, g5⟩ := id h
  refine e_It_taint x ⟨g1.is, fun hp => ?_, fun hp => ?_⟩
  · rw [g5] at hp
    have e : ta A j = (10000 * er A j).tdiv (A 3 j) := by unfold ta; rw [if_neg (by omega)]
    refine v_It_error h hA h0 h1 ⟨inR_of (by omega) (by omega), ?_⟩
    rw [g4]
    refine ⟨by omega, ?_⟩
    rw [← e]
    exact ⟨inR_of (by omega) (by omega), hK⟩
  · rw [g5] at hp
    unfold ta at hK
    rw [if_pos (by omega)] at hK
    exact hK
theorem v_Bo_certain {K : Int → Wd → Prop} (hB : BKd w A B) (h : IM w A x j) (hK : K (bi (ce A (A 0 1) j)) w) : DI G M_Bo_certain [vA (bD B), vA x] w mc ms K := by
  refine e_Bo_certain (bD B) x ⟨hB.1.is, fun h1 => ?_, fun h1 => ⟨h.1.is, fun h2 => ?_, fun h2 => ?_⟩⟩
  · rw [hB.2.2.2.2.1] at h1
    rw [bi_f (by unfold ce; simp; omega)] at hK
    exact hK
  · rw [hB.2.2.2.2.1] at h1 h2
    rw [h.2.2.2.1] at h2
    rw [bi_f (by unfold ce; simp; omega)] at hK
    exact hK
  · rw [hB.2.2.2.2.1] at h1 h2
    rw [h.2.2.2.1] at h2
    rw [bi_t (by unfold ce; simp; omega)] at hK
    exact hK
/-- an iterator over a list of which nothing changes but the iterator -/
theorem v_next {K : Option Nat → Wd → Prop} {c : Int} (hL : AL G w a r n m k f) (hI : IT w q a m c) (h0 : 0 ≤ c) (hck : c < k) (hu : Kg G [] u w) (hq : q ∉ wL u) (hK : ∀ w', Kg G [] u w' → IT w' q a m (c + 1) → (∀ S z, Kp S z w → (q ∈ S ∨ q ∉ wL z) → Kp S z w') → K (some (f c)) w') : DP G M_Ai_next [vA q] w mc ms K :=
  DP.gx (v_Ai_next hL hI h0 hck (fun w' hk hI' _ _ hg => hK w' ⟨hk [] u hu.1 (Or.inr hq), hu.2.tr hg⟩ hI' hk))
theorem v_iterator {K : Option Nat → Wd → Prop} (hL : AL G w a r n m k f) (hu : Kg G [] u w) (hc : 1 ≤ mc) (hs : 4 ≤ ms) (hK : ∀ q w', q ∉ wL u → Kg G [] u w' → Kg G [] w w' → IT w' q a m 0 → K (some q) w') : DP G M_Al_iterator [vA a] w mc ms K :=
  DP.gx (v_Al_iterator hL hc hs (fun q w' hq hk hI _ _ hg => hK q w' (hu.1.up hq.1) (hu.tr ⟨hk, hg⟩) ⟨hk, hg⟩ hI))
theorem v_allCoins {K : Int → Wd → Prop} (hB : BK G w A B) (hA : OKL A) (hc : 1 ≤ mc) (hs : 4 ≤ ms) (hK : ∀ w', Kg G [] w w' → K (al A) w') : DI G M_Bo_allCoins [vA (bD B)] w mc ms K := by
  obtain ⟨h1, h2, -⟩ := id hB
  refine e_Bo_allCoins (bD B) ⟨h1.1.is, bI B, h1.2.1, 1, 4, hc, hs, h2.1.is, v_iterator h2 Kg.rf (Nat.le_refl _) (Nat.le_refl _) (fun q w1 hq hu _ hI => ?_)⟩
  have key : ∀ i : Int, 0 ≤ i → i ≤ A 0 0 → ∀ w2, Kg G [] w w2 → IT w2 q (bI B) (bIm B) i → WD G M_Bo_allCoins 10 [(1, vI (sI (co A) i)), (2, vP (some q))] [] w2 (mc - 1) (ms - 4) (yI K) := by
    refine up_ind (fun w2 hu hI => ?_) (fun i h0 h3 ih w2 hu hI => ?_)
    · have hL := (hB.k0 hu).2.1
      exact l_Bo_allCoins_1 _ _ ⟨q, rfl, hI.1.is, v_Ai_hasNext hL hI (fun h => absurd h (Int.lt_irrefl _)) (fun _ => ⟨fun _ => hK w2 hu, fun h => absurd rfl h⟩) (Int.le_refl _)⟩
    · have hb := hB.k0 hu
      refine l_Bo_allCoins_1 _ _ ⟨q, rfl, hI.1.is, v_Ai_hasNext hb.2.1 hI (fun _ => ⟨fun h => absurd h (by decide), fun _ => ?_⟩) (fun h => by omega) (by omega)⟩
      refine v_next hb.2.1 hI h0 h3 hu hq (fun w3 hu3 hI3 _ => ?_)
      have him := (hB.k0 hu3).2.2.2.2.1 i h0 h3
      refine ⟨bF B i, rfl, him.1.is, v_It_coins him ⟨?_, ?_⟩⟩
      · have e1 := sI_nn (f := co A) h0 (fun j a b => (co_in hA a (by omega)).1)
        have e2 := sI_le (f := co A) (b := 99999) h0 (fun j a b => (co_in hA a (by omega)).2)
        have e3 := co_in hA h0 h3
        have e4 := hA.2.1
        exact inR_of (by omega) (by omega)
      · rw [← sI_s h0]
        exact ih w3 hu3 hI3
  exact key 0 (Int.le_refl _) hA.1 w1 hu hI
end BK
