-- a list's iterator, other calls of a list
def IT (w : Wd) (q a : Nat) (m c : Int) : Prop := Ow w q (kO 15) ∧ wR w q 3 = some a ∧ wI w q 0 = c ∧ wI w q 2 = m
section IT
variable {G : Gq} {w w' u : Wd} {a r n mc ms q : Nat} {m k i c : Int} {f : Int → Nat} {S : List Nat}
theorem IT.kp (h : IT w q a m c) (hk : Kp S w w') (hq : q ∉ S) : IT w' q a m c := ⟨h.1.kp hk, (hk.R h.1.1 hq).trans h.2.1, (hk.I h.1.1 hq).trans h.2.2.1, (hk.I h.1.1 hq).trans h.2.2.2⟩
theorem v_Al_iterator {K : Option Nat → Wd → Prop} (hL : AL G w a r n m k f) (hc : 1 ≤ mc) (hs : 4 ≤ ms) (hK : ∀ q w', Fr G w q → Kp [] w w' → IT w' q a m 0 → K (some q) w') : DP G M_Al_iterator [vA a] w mc ms K := by
  obtain ⟨g1, g2, g3, g4, g5, g6, g7⟩ := id hL
  refine e_Al_iterator a ⟨hc, hs, fun q hq => ?_⟩
  have hne : a ≠ q := hq.ne g1.is
  refine e_Ai_init q a ⟨Ow.nw, (g1.nu hq).is, ?_⟩
  have e : wI (uI (uR (uN w q (kO 15)) q 3 (some a)) q 1 (-1)) a 0 = m := by
    rw [wI_uI_a hne, wI_uR, wI_uN hne]; exact g3
  rw [e]
  refine hK q _ hq ((((Kp.rf.uN hq.1).uR (Or.inr hq.1)).uI (Or.inr hq.1)).uI (Or.inr hq.1)) ⟨Ow.nw (w := w), ?_, ?_, wI_uI_s⟩
  · exact wR_uR_s
  · rw [wI_uI_j (by decide), wI_uI_j (by decide), wI_uR]; exact wI_uN_s
theorem v_Ai_hasNext {K : Int → Wd → Prop} (hL : AL G w a r n m k f) (hI : IT w q a m c) (h1 : c < k → K 1 w) (h0 : c = k → K 0 w) (hck : c ≤ k) : DI G M_Ai_hasNext [vA q] w mc ms K := by
  refine e_Ai_hasNext q ⟨hI.1.is, a, hI.2.1, hL.1, fun h => ?_, fun h => ?_⟩
  · rw [hI.2.2.1, hL.2.2.2.1] at h; exact h0 h
  · rw [hI.2.2.1, hL.2.2.2.1] at h; exact h1 (by omega)
theorem v_Ai_next {K : Option Nat → Wd → Prop} (hL : AL G w a r n m k f) (hI : IT w q a m c) (h0 : 0 ≤ c) (hck : c < k) (hK : ∀ w', (∀ S : List Nat, ∀ u, Kp S u w → (q ∈ S ∨ q ∉ wL u) → Kp S u w') → IT w' q a m (c + 1) → K (some (f c)) w') : DP G M_Ai_next [vA q] w mc ms K := by
  refine DC.wf fun hσ hx => ?_
  obtain ⟨g1, g2, g3, g4, g5, g6, g7⟩ := id hL
  have hqr : r ≠ q := fun e => by
    have h1 := (hL.isr hx).2
    rw [e, hI.1.2] at h1
    cases h1
  refine e_Ai_next q ⟨hI.1.is, e_Ai_checkForComodification q ⟨hI.1.is, a, hI.2.1, g1.is, fun _ => ?_, fun h => h (by rw [g3, hI.2.2.2])⟩⟩
  refine ⟨a, hI.2.1, g1, fun _ => ⟨a, hI.2.1, g1.is, r, g2, n, hL.isr hx, inR_of (by omega) (by omega), fun _ => ⟨?_, hI.1, ?_, ?_, ?_⟩, fun h => h ?_⟩, fun h => h ?_⟩
  · rw [hI.2.2.1]; exact inR_of (by omega) (by omega)
  · rw [hI.2.2.1]; exact h0
  · rw [hI.2.2.1]; omega
  · rw [hI.2.2.1, g7 c h0 hck]
    exact hK _ (fun S u h hq => (h.uI hq).uI hq) ⟨hI.1, hI.2.1, (wI_uI_j (by decide)).trans wI_uI_s, (wI_uI_j (by decide)).trans ((wI_uI_j (by decide)).trans hI.2.2.2)⟩
  · rw [hI.2.2.1]; omega
  · rw [hI.2.2.1, g4]; exact hck
/-- emptied -/
theorem v_Al_clear {K : Wd → Prop} (hL : AL G w a r n m k f) (hm0 : 0 ≤ m) (hm1 : m ≤ 1000000) (hK : ∀ w', Kp [a, r] w w' → AL G w' a r n (m + 1) 0 f → K w') : DV G M_Al_clear [vA a] w mc ms K := by
  refine DC.wf fun hσ hx => ?_
  obtain ⟨g1, g2, g3, g4, g5, g6, g7⟩ := id hL
  have har : a ≠ r := hL.ne hx g1.1
  refine e_Al_clear a ⟨g1.is, by rw [g3]; exact inR_of (by omega) (by omega), g1, ?_⟩
  rw [g2, g4, g3]
  have hA0 : AL G (uI (uI w a 0 (m + 1)) a 2 0) a r n (m + 1) 0 f := ⟨g1, g2, (wI_uI_j (by decide)).trans wI_uI_s, wI_uI_s, ⟨by omega, by omega, by omega⟩, g6, fun j h0 h1 => by omega⟩
  have hK0 : Kp [a, r] w (uI (uI w a 0 (m + 1)) a 2 0) := (Kp.rf.uI (Or.inl (by simp))).uI (Or.inl (by simp))
  have key : ∀ i : Int, 0 ≤ i → i ≤ k → ∀ w', Kp [a, r] w w' → AL G w' a r n (m + 1) 0 f → WD G M_Al_clear 27 [(1, vP (some r)), (2, vI k), (3, vI i)] [] w' mc ms (yV K) := by
    refine up_ind (fun w' hk hA => ?_) (fun i h0 h1 ih w' hk hA => ?_)
    · exact l_Al_clear_1 (some r) k k ⟨fun _ => hK w' hk hA, fun h => absurd (Int.le_refl _) h⟩
    · obtain ⟨b1, b2, b3, b4, b5, b6, b7⟩ := id hA
      rcases b6 with ⟨_, b6⟩ | b6
      · omega
      refine l_Al_clear_1 (some r) k i ⟨fun h => by omega, fun _ => ⟨r, rfl, n, b6.1, h0, by omega, inR_of (by omega) (by omega), ih _ (hk.uR (Or.inl (by simp))) ?_⟩⟩
      exact ⟨b1, (wR_uR_a har).trans b2, b3, b4, b5, Or.inr b6, fun j x y => by omega⟩
  exact key 0 (Int.le_refl _) g5.1 _ hK0 hA0
/-- an element put in at a place -/
def fins (f : Int → Nat) (p : Int) (x : Nat) : Int → Nat := fun j => if j < p then f j else if j = p then x else f (j - 1)
theorem v_Al_insert {K : Wd → Prop} {x : Nat} {p : Int} (hL : AL G w a r n m k f) (hp0 : 0 ≤ p) (hp1 : p ≤ k) (hm0 : 0 ≤ m) (hm1 : m ≤ 1000000) (hn : n ≤ 60000) (hel : ∀ j, 0 ≤ j → j < k → EO G w (f j)) (hx0 : EO G w x) (hb : k = (n : Int) → 1 ≤ mc ∧ ncap n ≤ ms)
    (hK : ∀ w' r' n', Kp [a, r] w w' → AL G w' a r' n' (m + 1) (k + 1) (fins f p x) → (k ≠ (n : Int) → r' = r ∧ n' = n) → (k = (n : Int) → Fr G w r' ∧ n' = ncap n ∧ Kp [a] w w') → K w') : DV G M_Al_add_7a177 [vA a, vI p, vA x] w mc ms K := by
  refine DC.wf fun hσ hx => ?_
  obtain ⟨g1, g2, g3, g4, g5, g6, g7⟩ := id hL
  have har : a ≠ r := hL.ne hx g1.1
  refine e_Al_add_7a177 a p x ⟨g1.is, e_Al_rangeCheckForAdd a p ⟨g1.is, fun h => by rw [g4] at h; omega, fun _ => ⟨fun _ => ?_, fun h => h hp0⟩⟩⟩
  rw [g3, g4]
  have hL1 : AL G (uI w a 0 (m + 1)) a r n (m + 1) k f := ⟨g1, g2, wI_uI_s, (wI_uI_j (by decide)).trans g4, g5, g6, g7⟩
  have row : ∀ (W : Wd) (r2 n2 : Nat), Ow W r2 (kR 4 n2) → k < (n2 : Int) → (∀ j, 0 ≤ j → j < k → wR W r2 j = some (f j)) → ∀ j, 0 ≤ j → j < k + 1 → wR (uR (uG W r2 (cpyR W r2 r2 p (p + 1) (k - p))) r2 p (some x)) r2 j = some (fins f p x j) := by
    intro W r2 n2 hO hk2 he j h0 h1
    unfold fins
    by_cases hj : j = p
    · subst hj; rw [wR_uR_s, if_neg (by omega), if_pos rfl]
    · rw [wR_uR_j hj, wR_uG_s]
      unfold cpyR
      by_cases hl : j < p
      · rw [if_neg (by omega), if_pos hl]; exact he j h0 (by omega)
      · rw [if_pos (by omega), if_neg hl, if_neg hj, show p + (j - (p + 1)) = j - 1 by omega]
        exact he _ (by omega) (by omega)
  refine ⟨inR_of (by omega) (by omega), g1, r, g2, n, hL.isr hx, inR_of (by omega) (by omega), fun hne => ?_, fun he => ?_⟩
  · rcases g6 with ⟨h6, h6'⟩ | g6
    · omega
    refine ⟨inR_of (by omega) (by omega), inR_of (by omega) (by omega), g6.1, hp0, by omega, by omega, by omega, by omega, fun i h0 h1 y hy => ?_, by omega, hx0, inR_of (by omega) (by omega), ?_⟩
    · have hy : wR w r (p + i) = some y := hy
      rw [g7 _ (by omega) (by omega)] at hy
      cases hy
      exact hel _ (by omega) (by omega)
    · refine hK _ r n ((((Kp.rf.uI (Or.inl (by simp))).uG (Or.inl (by simp))).uR (Or.inl (by simp))).uI (Or.inl (by simp))) ⟨g1, (wR_uR_a har).trans ((wR_uG har).trans g2), (wI_uI_j (by decide)).trans wI_uI_s, wI_uI_s, ⟨by omega, by omega, by omega⟩, Or.inr g6, fun j h0 h1 => ?_⟩ (fun _ => ⟨rfl, rfl⟩) (fun h => absurd h hne)
      exact row (uI w a 0 (m + 1)) r n g6.1 (by omega) (fun j a b => g7 j a b) j h0 h1
  · obtain ⟨hb1, hb2⟩ := hb he
    refine ⟨1, ncap n, hb1, hb2, DP.gx (v_Al_grow hL1 he hn (fun j h0 h1 => hel j h0 h1) (Nat.le_refl _) (Nat.le_refl _) (fun q w' hq hk hA hO hσ' hx' hg' => ?_))⟩
    have hcap : n < ncap n := by unfold ncap; split <;> omega
    have haq : a ≠ q := hq.ne g1.is
    have he2 := hA.2.2.2.2.2.2
    refine ⟨inR_of (by omega) (by omega), inR_of (by omega) (by omega), q, rfl, ncap n, hO, hp0, by omega, by omega, by omega, by omega, fun i h0 h1 y hy => ?_, by omega, Els.q (w := uI w a 0 (m + 1)) hx0 hg'.k, inR_of (by omega) (by omega), ?_⟩
    · rw [he2 _ (by omega) (by omega)] at hy
      cases hy
      exact Els.q (w := uI w a 0 (m + 1)) (hel _ (by omega) (by omega)) hg'.k
    · refine hK _ q (ncap n) (((((Kp.rf.uI (Or.inl (by simp)) : Kp [a, r] w (uI w a 0 (m + 1))).tr (hk.sub (by simp))).uG (Or.inr hq.1)).uR (Or.inr hq.1)).uI (Or.inl (by simp))) ⟨hA.1, (wR_uR_a haq).trans ((wR_uG haq).trans hA.2.1), (wI_uI_j (by decide)).trans hA.2.2.1, wI_uI_s, ⟨by omega, by omega, by have := hA.2.2.2.2.1; omega⟩, Or.inr ⟨hO, by omega⟩, fun j h0 h1 => ?_⟩ (fun h => absurd he h) (fun _ => ⟨hq, rfl, (((((Kp.rf.uI (Or.inl (by simp)) : Kp [a] w (uI w a 0 (m + 1))).tr hk).uG (Or.inr hq.1)).uR (Or.inr hq.1)).uI (Or.inl (by simp)))⟩)
      exact row w' q (ncap n) hO (by omega) (fun j a b => he2 j a b) j h0 h1
/-- does the list hold a number? its elements are Integers -/
theorem v_Al_containsI {K : Int → Wd → Prop} {x : Nat} {v : Int} {g : Int → Int} (hL : AL G w a r n m k f) (hx0 : Is G w x (kO 16)) (hv : wI w x 0 = v) (hel : ∀ j, 0 ≤ j → j < k → Is G w (f j) (kO 16) ∧ wI w (f j) 0 = g j) (hK : K (bi (decide (fI (fun j => decide (g j = v)) k ≠ -1))) w) : DI G M_Al_contains [vA a, vA x] w mc ms K := by
  refine DC.wf fun hσ hx => ?_
  obtain ⟨g1, g2, g3, g4, g5, g6, g7⟩ := id hL
  have fin : ∀ i : Int, -1 ≤ i → i = fI (fun j => decide (g j = v)) k → (i < 0 → K 0 w) ∧ (¬ i < 0 → K 1 w) := fun i hi he => by
    rw [← he] at hK
    refine ⟨fun h => ?_, fun h => ?_⟩
    · rw [bi_f (by simp; omega)] at hK; exact hK
    · rw [bi_t (by simp; omega)] at hK; exact hK
  refine e_Al_contains a x ⟨g1.is, e_Al_indexOf a x ⟨g1.is, e_Al_indexOfRangeC16 a x 0 _ ⟨g1.is, ?_⟩⟩⟩
  rw [g2, g4]
  have key : ∀ i : Int, 0 ≤ i → i ≤ k → (∀ j, 0 ≤ j → j < i → g j ≠ v) → WD G M_Al_indexOfRange 42 [(1, vA x), (3, vI k), (4, vP (some r)), (5, vI i)] [] w 0 0 (yI fun v3 w2 => (v3 < 0 → K 0 w2) ∧ (¬ v3 < 0 → K 1 w2)) := by
    refine up_ind ?_ (fun i h0 h1 ih => ?_)
    · intro hno
      exact l_Al_indexOfRangeC16_2 x k (some r) k ⟨fun _ => fin (-1) (by omega) (fI_none g5.1 (fun j a b => by simpa using hno j a b)).symm, fun h => absurd (Int.le_refl _) h⟩
    · intro hno
      refine l_Al_indexOfRangeC16_2 x k (some r) i ⟨fun h => by omega, fun _ => ⟨r, rfl, n, hL.isr hx, h0, by omega, f i, g7 i h0 h1, hx0, ?_⟩⟩
      obtain ⟨e1, e2⟩ := hel i h0 h1
      refine e_In_equals x (f i) ⟨e1, hx0, e_In_intValue (f i) ⟨e1, ?_⟩⟩
      rw [hv, e2]
      refine ⟨fun he => ⟨fun _ => ⟨inR_of (by omega) (by omega), ih (fun j a b => ?_)⟩, fun h => absurd rfl h⟩, fun he => ⟨fun h => absurd h (by decide), fun _ => fin i (by omega) (fI_eq h0 h1 (by simpa using he.symm) (fun j a b => by simpa using hno j a b)).symm⟩⟩
      by_cases hj : j = i
      · subst hj; exact fun h => he h.symm
      · exact hno j a (by omega)
  exact key 0 (Int.le_refl _) g5.1 (fun j a b => by omega)
/-- a number boxed -/
def BX (G : Gq) (w : Wd) (x : Nat) (v : Int) : Prop := Is G w x (kO 16) ∧ wI w x 0 = v
theorem v_In_valueOf {K : Option Nat → Wd → Prop} {v : Int} (hc : 1 ≤ mc) (hs : 1 ≤ ms) (hv : -128 ≤ v ∨ True) (hK : ∀ x w', Kp [] w w' → BX G w' x v → K (some x) w') : DP G M_In_valueOf [vI v] w mc ms K := by
  refine DC.wf fun hσ hx => ?_
  have nw : ∀ q, Fr G w q → DV G M_In_init [vA q, vI v] (uN w q (kO 16)) 0 0 (fun w6 => K (some q) w6) := fun q hq =>
    e_In_init q v (e_Nu_init q ⟨Ow.nw, hK q _ ((Kp.rf.uN hq.1).uI (Or.inr hq.1)) ⟨Ow.is (Ow.nw (w := w) (q := q) (k := kO 16)), wI_uI_s⟩⟩)
  refine e_In_valueOf v ⟨fun _ => ⟨hc, hs, nw⟩, fun h0 => ⟨fun _ => ⟨hc, hs, nw⟩, fun h1 => ⟨inR_of (by omega) (by omega), by omega, by omega, ?_⟩⟩⟩
  have e : xr 1 (v + 128) = some (2 + (v + 128).toNat) := by
    unfold xr
    rw [if_pos rfl, if_pos (by omega)]
  rw [e]
  have hi : 2 + (v + 128).toNat < xN := by unfold xN; omega
  have hxk : xk (2 + (v + 128).toNat) = kO 16 := by
    unfold xk
    rw [if_neg (by omega), if_neg (by omega), if_pos (by omega)]
  refine hK (xa G (2 + (v + 128).toNat)) w Kp.rf ⟨hx.is hi hxk, ?_⟩
  rw [(hx _ hi).2.1]
  unfold xi
  rw [if_neg (by omega), if_pos (by omega), if_pos rfl]
  omega
theorem v_In_intValue {K : Int → Wd → Prop} {x : Nat} {v : Int} (h : BX G w x v) (hK : K v w) : DI G M_In_intValue [vA x] w mc ms K := e_In_intValue x ⟨h.1, by rw [h.2]; exact hK⟩
end IT
