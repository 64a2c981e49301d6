-- a text that was drawn, read back
/-- the first letters that are read are T's -/
def PX (A : St) (n : Int) (T : Txt) : Prop := 0 ≤ T.1 ∧ T.1 ≤ n ∧ ∀ j, 0 ≤ j → j < T.1 → hr A n j = T.2 j
section RB
variable {A : St} {n p y g k a v b : Int} {T X : Txt} {l : List Int} {U : St}
theorem PX.sgs (h : PX A n (sgs X l)) (hX : 0 ≤ X.1) : PX A n X ∧ ∀ j : Nat, j < l.length → hr A n (X.1 + j) = l.getD j 0 := by
  have e := sgs_1 l X
  refine ⟨⟨hX, by have := h.2.1; omega, fun j a b => (h.2.2 j a (by omega)).trans (sgs_lo l X j b)⟩, fun j hj => ?_⟩
  rw [h.2.2 _ (by omega) (by omega)]
  exact sgs_hi l X j hj
theorem PX.nmb (h : PX A n (nmb X y)) (hX : 0 ≤ X.1) : PX A n X ∧ ∀ j : Int, 0 ≤ j → j < dgs y → hr A n (X.1 + j) = 48 + y / 10 ^ ((dgs y : Int) - 1 - j).toNat % 10 := by
  have e := nmb_len2 y X
  refine ⟨⟨hX, by have := h.2.1; omega, fun j a b => ?_⟩, fun j a b => ?_⟩
  · rw [h.2.2 j a (by omega), nmb_at, if_neg (by omega)]
  · rw [h.2.2 _ (by omega) (by omega), nmb_at, if_pos (by omega), show X.1 + (dgs y : Int) - 1 - (X.1 + j) = dgs y - 1 - j by omega]
theorem skp_run {f : Int → Bool} : ∀ (m : Nat) (p : Int), (∀ j, 0 ≤ j → j < (m : Int) → f (hr A n (p + j)) = true) → p + m ≤ n → f (hr A n (p + m)) = false → skp A n f p = p + m := by
  intro m
  induction m with
  | zero =>
    intro p _ _ h
    rw [show p + ((0 : Nat) : Int) = p by omega] at h ⊢
    exact skp_no h
  | succ m ih =>
    intro p h1 h2 h3
    have h0 := h1 0 (by omega) (by omega)
    rw [Int.add_zero] at h0
    have h4 : ∀ j, 0 ≤ j → j < (m : Int) → f (hr A n (p + 1 + j)) = true := fun j a b => by
      rw [show p + 1 + j = p + (j + 1) by omega]; exact h1 (j + 1) (by omega) (by omega)
    have h5 : f (hr A n (p + 1 + m)) = false := by
      rw [show p + 1 + (m : Int) = p + ((m + 1 : Nat) : Int) by omega]; exact h3
    rw [skp_yes (by omega) h0, ih (p + 1) h4 (by omega) h5]
    omega
theorem dgs_pw (h1 : y < 1000000) : y < 10 ^ dgs y := by
  unfold dgs
  by_cases a1 : y < 10
  · rw [if_pos a1]; exact a1
  rw [if_neg a1]
  by_cases a2 : y < 100
  · rw [if_pos a2]; exact a2
  rw [if_neg a2]
  by_cases a3 : y < 1000
  · rw [if_pos a3]; exact a3
  rw [if_neg a3]
  by_cases a4 : y < 10000
  · rw [if_pos a4]; exact a4
  rw [if_neg a4]
  by_cases a5 : y < 100000
  · rw [if_pos a5]; exact a5
  rw [if_neg a5]; exact h1
theorem dgs_5 (h1 : y < 100000) : dgs y ≤ 5 := by
  unfold dgs
  (repeat' split) <;> omega
/-- blanks, then a number, then no digit -/
theorem num_at (k : Nat) (hbl : ∀ j, 0 ≤ j → j < (k : Int) → hr A n (p + j) = 32) (hdig : ∀ j : Int, 0 ≤ j → j < dgs y → hr A n (p + k + j) = 48 + y / 10 ^ ((dgs y : Int) - 1 - j).toNat % 10) (hend : fDi (hr A n (p + k + dgs y)) = false) (y0 : 0 ≤ y) (y1 : y < 100000) (hn : p + k + dgs y ≤ n) :
    sb A n p = p + k ∧ nup A n p = p + k + dgs y ∧ nuv A n p = y ∧ ∀ g, y ≤ g → nue A n g p = 0 := by
  have hd := dgs_in y
  have hd5 := dgs_5 y1
  have dig : ∀ j, 0 ≤ j → j < (dgs y : Int) → fDi (hr A n (p + k + j)) = true := fun j a b => by
    rw [hdig j a b]
    unfold fDi
    simp only [decide_eq_true_eq]
    omega
  have e1 : sb A n p = p + k := by
    refine skp_run k p (fun j a b => by rw [hbl j a b]; rfl) (by omega) ?_
    have := dig 0 (by omega) (by omega)
    rw [Int.add_zero] at this
    unfold fDi at this
    unfold fBl
    simp only [decide_eq_true_eq, decide_eq_false_iff_not] at this ⊢
    omega
  have e2 : sd A n (p + k) = p + k + dgs y := skp_run (dgs y) (p + k) dig hn hend
  have e3 : dv A n (p + k) = y := by
    have key : ∀ e : Nat, e ≤ dgs y → dvq A n (p + k) (p + k + ((dgs y : Int) - e)) (y / 10 ^ e) = y := by
      intro e
      induction e with
      | zero =>
        intro _
        rw [show p + k + ((dgs y : Int) - ((0 : Nat) : Int)) = p + k + dgs y by omega, dvq_no hend]
        show y / 1 = y
        omega
      | succ e ih =>
        intro he
        have hj := dig ((dgs y : Int) - ((e + 1 : Nat) : Int)) (by omega) (by omega)
        rw [dvq_yes (by omega) hj, if_pos (by omega), hdig _ (by omega) (by omega)]
        have ex : ((dgs y : Int) - 1 - ((dgs y : Int) - ((e + 1 : Nat) : Int))).toNat = e := by omega
        rw [ex]
        have hq : y / 10 ^ (e + 1) = y / 10 ^ e / 10 := by
          rw [Int.pow_succ, ← Int.ediv_ediv_of_nonneg (by exact Int.le_of_lt (Int.pow_pos (by decide)))]
        rw [hq]
        have := ih (by omega)
        rw [show p + k + ((dgs y : Int) - ((e + 1 : Nat) : Int)) + 1 = p + k + ((dgs y : Int) - (e : Int)) by omega]
        rw [show 10 * (y / 10 ^ e / 10) + (48 + y / 10 ^ e % 10) - 48 = y / 10 ^ e by omega]
        exact this
    have := key (dgs y) (Nat.le_refl _)
    rw [Int.ediv_eq_zero_of_lt y0 (dgs_pw (by omega)), show p + k + ((dgs y : Int) - ((dgs y : Nat) : Int)) = p + k by omega] at this
    exact this
  refine ⟨e1, ?_, ?_, fun g hg => ?_⟩
  · unfold nup; rw [e1]; exact e2
  · unfold nuv; rw [e1]; exact e3
  · unfold nue
    rw [e1, e2, e3, if_neg (by omega), if_neg (by omega)]
theorem fDi_no {x : Int} (h : x < 48) : fDi x = false := by
  unfold fDi
  simp only [decide_eq_false_iff_not]
  omega
theorem fBl_no {x : Int} (h : x ≠ 32) : fBl x = false := by
  unfold fBl
  simp only [decide_eq_false_iff_not]
  exact h
/-- an item's line -/
def itx (X : Txt) (a v b : Int) (s e : List Int) : Txt := sgs (nmb (sgs (nmb (sgn (nmb (sgs X [105, 116, 101, 109]) a) 32) v) s) b) e
def atx (X : Txt) (a v b : Int) : Txt := sgn (nmb (sgs (nmb (sgn (nmb (sgs X [97, 117, 100, 105, 116, 32]) a) 32) v) [32, 32]) b) 59
theorem itx_ln {s e : List Int} {ng : Bool} (hX : 0 ≤ X.1) (h : PX A n (itx X a v b s e)) (a0 : 0 ≤ a) (a1 : a ≤ 99) (v0 : 0 ≤ v) (v1 : v ≤ 9999) (b0 : 0 ≤ b) (b1 : b ≤ 99999) (hs : s = if ng then [32, 45, 32] else [32]) (he : e = [59] ∨ e = [59, 32]) (h48 : U 0 0 < 48) (hp : plcq U a v = -1) :
    sb A n X.1 = X.1 ∧ X.1 < n ∧ (lnF A n X.1 U).1 = 0 ∧ tkT A n X.1 U = addI U a v (if ng then -b else b) ∧ sb A n (lnP A n X.1) = sb A n (itx X a v b s e).1 := by
  have hL1 : (sgs X [105, 116, 101, 109]).1 = X.1 + 4 := sgs_1 _ _
  have hL2 : (nmb (sgs X [105, 116, 101, 109]) a).1 = X.1 + 4 + dgs a := by rw [nmb_len2, hL1]
  have hL3 : (sgn (nmb (sgs X [105, 116, 101, 109]) a) 32).1 = X.1 + 4 + dgs a + 1 := by rw [sgn_len, hL2]
  have hL4 : (nmb (sgn (nmb (sgs X [105, 116, 101, 109]) a) 32) v).1 = X.1 + 4 + dgs a + 1 + dgs v := by rw [nmb_len2, hL3]
  have hL5 : (sgs (nmb (sgn (nmb (sgs X [105, 116, 101, 109]) a) 32) v) s).1 = X.1 + 4 + dgs a + 1 + dgs v + s.length := by rw [sgs_1, hL4]
  have hL6 : (nmb (sgs (nmb (sgn (nmb (sgs X [105, 116, 101, 109]) a) 32) v) s) b).1 = X.1 + 4 + dgs a + 1 + dgs v + s.length + dgs b := by rw [nmb_len2, hL5]
  have hL7 : (itx X a v b s e).1 = X.1 + 4 + dgs a + 1 + dgs v + s.length + dgs b + e.length := by unfold itx; rw [sgs_1, hL6]
  have hda := dgs_in a
  have hdv := dgs_in v
  have hdb := dgs_in b
  obtain ⟨p6, c7⟩ := PX.sgs (l := e) h (by omega)
  obtain ⟨p5, c6⟩ := p6.nmb (by omega)
  obtain ⟨p4, c5⟩ := PX.sgs p5 (by omega)
  obtain ⟨p3, c4⟩ := p4.nmb (by omega)
  obtain ⟨p2, c3⟩ := PX.sgs (l := [32]) p3 (by omega)
  obtain ⟨p1, c2⟩ := p2.nmb (by omega)
  obtain ⟨p0, c1⟩ := PX.sgs p1 hX
  rw [hL1] at c2
  rw [hL2] at c3
  rw [hL3] at c4
  rw [hL4] at c5
  rw [hL5] at c6
  rw [hL6] at c7
  have hn7 := h.2.1
  rw [hL7] at hn7
  have hel : 1 ≤ e.length := by rcases he with rfl | rfl <;> decide
  have hsl : 1 ≤ s.length := by rw [hs]; cases ng <;> decide
  have k3 : hr A n (X.1 + 4 + dgs a) = 32 := by have := c3 0 (by decide); rw [show ((0 : Nat) : Int) = 0 from rfl, Int.add_zero] at this; exact this
  have k5 : hr A n (X.1 + 4 + dgs a + 1 + dgs v) = 32 := by
    have := c5 0 (by omega)
    rw [show ((0 : Nat) : Int) = 0 from rfl, Int.add_zero, hs] at this
    rw [this]; cases ng <;> rfl
  have k7 : hr A n (X.1 + 4 + dgs a + 1 + dgs v + s.length + dgs b) = 59 := by
    have := c7 0 (by omega)
    rw [show ((0 : Nat) : Int) = 0 from rfl, Int.add_zero] at this
    rw [this]; rcases he with rfl | rfl <;> rfl
  have i0 : hr A n (X.1 + 0) = 105 := c1 0 (by decide)
  have i1 : hr A n (X.1 + 1) = 116 := c1 1 (by decide)
  have i2 : hr A n (X.1 + 2) = 101 := c1 2 (by decide)
  have i3 : hr A n (X.1 + 3) = 109 := c1 3 (by decide)
  have d0 : 48 ≤ hr A n (X.1 + 4) ∧ hr A n (X.1 + 4) ≤ 57 := by
    have := c2 0 (by omega) (by omega)
    rw [Int.add_zero] at this
    rw [this]; omega
  have esw : sw A n X.1 = X.1 + 4 := by
    refine skp_run 4 X.1 (fun j x y => ?_) (by omega) ?_
    · have : j = 0 ∨ j = 1 ∨ j = 2 ∨ j = 3 := by omega
      rcases this with rfl | rfl | rfl | rfl
      · rw [i0]; rfl
      · rw [i1]; rfl
      · rw [i2]; rfl
      · rw [i3]; rfl
    · unfold fLe
      simp only [decide_eq_false_iff_not]
      rw [show X.1 + ((4 : Nat) : Int) = X.1 + 4 by omega]
      omega
  have eI : isI A n X.1 = true := by
    unfold isI wdq
    rw [esw]
    simp only [decide_eq_true_eq]
    refine ⟨by omega, fI_none (by omega) (fun j x y => ?_)⟩
    simp only [decide_eq_false_iff_not, Classical.not_not]
    have hh : A 7 (X.1 + j) % 256 = hr A n (X.1 + j) := (hr_at (by omega)).symm
    rw [hh]
    have : j = 0 ∨ j = 1 ∨ j = 2 ∨ j = 3 := by omega
    rcases this with rfl | rfl | rfl | rfl
    · rw [i0]; rfl
    · rw [i1]; rfl
    · rw [i2]; rfl
    · rw [i3]; rfl
  obtain ⟨n1, n2, n3, n4⟩ := num_at (A := A) (n := n) (p := X.1 + 4) (y := a) 0 (fun j x y => by omega) (fun j x y => by rw [show X.1 + 4 + ((0 : Nat) : Int) + j = X.1 + 4 + j by omega]; exact c2 j x y) (by rw [show X.1 + 4 + ((0 : Nat) : Int) + (dgs a : Int) = X.1 + 4 + dgs a by omega, k3]; rfl) a0 (by omega) (by omega)
  have ePA : pAq A n X.1 = X.1 + 4 + dgs a := by unfold pAq; rw [esw, n2]; omega
  obtain ⟨m1, m2, m3, m4⟩ := num_at (A := A) (n := n) (p := X.1 + 4 + dgs a) (y := v) 1 (fun j x y => by rw [show j = 0 by omega, Int.add_zero]; exact k3) (fun j x y => by rw [show X.1 + 4 + (dgs a : Int) + ((1 : Nat) : Int) + j = X.1 + 4 + dgs a + 1 + j by omega]; exact c4 j x y) (by rw [show X.1 + 4 + (dgs a : Int) + ((1 : Nat) : Int) + (dgs v : Int) = X.1 + 4 + dgs a + 1 + dgs v by omega, k5]; rfl) v0 (by omega) (by omega)
  have ePV : pVq A n X.1 = X.1 + 4 + dgs a + 1 + dgs v := by unfold pVq; rw [ePA, m2]; omega
  -- the sign
  have eS : mns A n X.1 = ng ∧ pSq A n X.1 = X.1 + 4 + dgs a + 1 + dgs v + s.length - 1 ∧ sb A n (pSq A n X.1) = X.1 + 4 + dgs a + 1 + dgs v + s.length ∧ nup A n (pSq A n X.1) = X.1 + 4 + dgs a + 1 + dgs v + s.length + dgs b ∧ nuv A n (pSq A n X.1) = b ∧ nue A n 99999 (pSq A n X.1) = 0 ∨ (mns A n X.1 = ng ∧ pSq A n X.1 = X.1 + 4 + dgs a + 1 + dgs v + s.length ∧ sb A n (pSq A n X.1) = X.1 + 4 + dgs a + 1 + dgs v + s.length ∧ nup A n (pSq A n X.1) = X.1 + 4 + dgs a + 1 + dgs v + s.length + dgs b ∧ nuv A n (pSq A n X.1) = b ∧ nue A n 99999 (pSq A n X.1) = 0) := by
    have hb6 : ∀ j, 0 ≤ j → j < (dgs b : Int) → hr A n (X.1 + 4 + dgs a + 1 + dgs v + s.length + j) = 48 + b / 10 ^ ((dgs b : Int) - 1 - j).toNat % 10 := c6
    have hb0 : 48 ≤ hr A n (X.1 + 4 + dgs a + 1 + dgs v + s.length) ∧ hr A n (X.1 + 4 + dgs a + 1 + dgs v + s.length) ≤ 57 := by
      have := hb6 0 (by omega) (by omega)
      rw [Int.add_zero] at this
      rw [this]; omega
    cases ng with
    | false =>
      have hsl1 : s.length = 1 := by rw [hs]; rfl
      rw [hsl1] at hb6 hb0 k7 hn7 ⊢
      have es : sb A n (X.1 + 4 + dgs a + 1 + dgs v) = X.1 + 4 + dgs a + 1 + dgs v + 1 := by
        refine skp_run 1 _ (fun j x y => ?_) (by omega) ?_
        · rw [show j = 0 by omega, Int.add_zero, k5]; rfl
        · exact fBl_no (by have := hb0; rw [show ((1 : Nat) : Int) = 1 from rfl] at this ⊢; omega)
      have em : mns A n X.1 = false := by
        unfold mns
        rw [ePV, es, eI]
        have := hb0
        rw [show ((1 : Nat) : Int) = 1 from rfl] at this
        simp
        omega
      have eP : pSq A n X.1 = X.1 + 4 + dgs a + 1 + dgs v + 1 := by
        unfold pSq
        rw [em, eI, if_pos rfl, if_neg (by decide), ePV, es]
      obtain ⟨q1, q2, q3, q4⟩ := num_at (A := A) (n := n) (p := X.1 + 4 + dgs a + 1 + dgs v + 1) (y := b) 0 (fun j x y => by omega) (fun j x y => by rw [show X.1 + 4 + (dgs a : Int) + 1 + (dgs v : Int) + 1 + ((0 : Nat) : Int) + j = X.1 + 4 + dgs a + 1 + dgs v + ((1 : Nat) : Int) + j by omega]; exact hb6 j x y) (by rw [show X.1 + 4 + (dgs a : Int) + 1 + (dgs v : Int) + 1 + ((0 : Nat) : Int) + (dgs b : Int) = X.1 + 4 + dgs a + 1 + dgs v + ((1 : Nat) : Int) + dgs b by omega, k7]; rfl) b0 (by omega) (by omega)
      rw [eP]
      exact Or.inr ⟨em, by omega, by rw [q1]; omega, by rw [q2]; omega, q3, q4 _ b1⟩
    | true =>
      have hsl3 : s.length = 3 := by rw [hs]; rfl
      have s1 : hr A n (X.1 + 4 + dgs a + 1 + dgs v + 1) = 45 := by have := c5 1 (by omega); rw [hs] at this; exact this
      have s2 : hr A n (X.1 + 4 + dgs a + 1 + dgs v + 2) = 32 := by have := c5 2 (by omega); rw [hs] at this; exact this
      rw [hsl3] at hb6 hb0 k7 hn7 ⊢
      have es : sb A n (X.1 + 4 + dgs a + 1 + dgs v) = X.1 + 4 + dgs a + 1 + dgs v + 1 := by
        refine skp_run 1 _ (fun j x y => ?_) (by omega) ?_
        · rw [show j = 0 by omega, Int.add_zero, k5]; rfl
        · rw [show ((1 : Nat) : Int) = 1 from rfl, s1]; rfl
      have em : mns A n X.1 = true := by
        unfold mns
        rw [ePV, es, eI, s1]
        rfl
      have eP : pSq A n X.1 = X.1 + 4 + dgs a + 1 + dgs v + 1 + 1 := by
        unfold pSq
        rw [em, eI, if_pos rfl, if_pos rfl, ePV, es]
      obtain ⟨q1, q2, q3, q4⟩ := num_at (A := A) (n := n) (p := X.1 + 4 + dgs a + 1 + dgs v + 1 + 1) (y := b) 1 (fun j x y => by rw [show X.1 + 4 + (dgs a : Int) + 1 + (dgs v : Int) + 1 + 1 + j = X.1 + 4 + dgs a + 1 + dgs v + 2 by omega]; exact s2) (fun j x y => by rw [show X.1 + 4 + (dgs a : Int) + 1 + (dgs v : Int) + 1 + 1 + ((1 : Nat) : Int) + j = X.1 + 4 + dgs a + 1 + dgs v + ((3 : Nat) : Int) + j by omega]; exact hb6 j x y) (by rw [show X.1 + 4 + (dgs a : Int) + 1 + (dgs v : Int) + 1 + 1 + ((1 : Nat) : Int) + (dgs b : Int) = X.1 + 4 + dgs a + 1 + dgs v + ((3 : Nat) : Int) + dgs b by omega, k7]; rfl) b0 (by omega) (by omega)
      rw [eP]
      exact Or.inl ⟨em, by omega, by rw [q1]; omega, by rw [q2]; omega, q3, q4 _ b1⟩
  obtain ⟨em, esS, esP, eV, eE⟩ : mns A n X.1 = ng ∧ sb A n (pSq A n X.1) = X.1 + 4 + dgs a + 1 + dgs v + s.length ∧ nup A n (pSq A n X.1) = X.1 + 4 + dgs a + 1 + dgs v + s.length + dgs b ∧ nuv A n (pSq A n X.1) = b ∧ nue A n 99999 (pSq A n X.1) = 0 := by
    rcases eS with ⟨x1, x2, x3, x4, x5, x6⟩ | ⟨x1, x2, x3, x4, x5, x6⟩
    · exact ⟨x1, x3, x4, x5, x6⟩
    · exact ⟨x1, x3, x4, x5, x6⟩
  have ePE : pEq A n X.1 = X.1 + 4 + dgs a + 1 + dgs v + s.length + dgs b := esP
  have esE : sb A n (pEq A n X.1) = X.1 + 4 + dgs a + 1 + dgs v + s.length + dgs b := by
    rw [ePE]
    exact skp_no (fBl_no (by rw [k7]; decide))
  have hvA : vAq A n X.1 = a := by unfold vAq; rw [esw]; exact n3
  have hvV : vVq A n X.1 = v := by unfold vVq; rw [ePA]; exact m3
  have hvB : vBq A n X.1 = b := eV
  have z0 : s0q A n X.1 = (0, -1) := by unfold s0q; rw [eI]; rfl
  have z1 : s1q A n X.1 = (0, -1) := by unfold s1q; rw [z0, esw, n4 99 a1, fq_0]
  have z2 : s2q A n X.1 = (0, -1) := by unfold s2q; rw [z1, ePA, m4 9999 v1, fq_0]
  have z3 : s3q A n X.1 = (0, -1) := by unfold s3q; rw [z2, eE, fq_0]
  refine ⟨?_, by omega, ?_, ?_, ?_⟩
  · refine skp_no (fBl_no ?_)
    have := i0
    rw [Int.add_zero] at this
    rw [this]; decide
  · unfold lnF
    rw [z3, if_neg (by decide)]
    have tb : tkB A n X.1 U = true := by
      unfold tkB
      rw [eI, if_pos rfl, hvA, hvV]
      simp only [decide_eq_true_eq]
      exact ⟨h48, hp⟩
    rw [tb, if_neg (by decide), esE, k7, if_pos rfl]
  · unfold tkT
    rw [eI, if_pos rfl, hvA, hvV, hvB, em]
  · unfold lnP
    rw [esE, hL7]
    rcases he with rfl | rfl
    · rfl
    · have := c7 1 (by decide)
      have k8 : hr A n (X.1 + 4 + dgs a + 1 + dgs v + s.length + dgs b + 1) = 32 := this
      refine (skp_yes (f := fBl) (by have : ([59, 32] : List Int).length = 2 := rfl; omega) (by rw [k8]; rfl)).trans ?_
      show sb A n _ = sb A n _
      congr 1
      show _ = _ + ((2 : Nat) : Int)
      omega
theorem atx_ln (hX : 0 ≤ X.1) (h : PX A n (atx X a v b)) (a0 : 0 ≤ a) (a1 : a ≤ 99) (v0 : 0 ≤ v) (v1 : v ≤ 9999) (b0 : 0 ≤ b) (b1 : b ≤ 99999) {i : Int} (hp : plcq U a v = i) (hi : i ≠ -1) (hco : co U i ≠ 0) (hb : b ≤ 2 * U 3 i) :
    sb A n X.1 = X.1 ∧ X.1 < n ∧ (lnF A n X.1 U).1 = 0 ∧ tkT A n X.1 U = ups U 4 i b ∧ sb A n (lnP A n X.1) = sb A n (atx X a v b).1 := by
  have hL1 : (sgs X [97, 117, 100, 105, 116, 32]).1 = X.1 + 6 := sgs_1 _ _
  have hL2 : (nmb (sgs X [97, 117, 100, 105, 116, 32]) a).1 = X.1 + 6 + dgs a := by rw [nmb_len2, hL1]
  have hL3 : (sgn (nmb (sgs X [97, 117, 100, 105, 116, 32]) a) 32).1 = X.1 + 6 + dgs a + 1 := by rw [sgn_len, hL2]
  have hL4 : (nmb (sgn (nmb (sgs X [97, 117, 100, 105, 116, 32]) a) 32) v).1 = X.1 + 6 + dgs a + 1 + dgs v := by rw [nmb_len2, hL3]
  have hL5 : (sgs (nmb (sgn (nmb (sgs X [97, 117, 100, 105, 116, 32]) a) 32) v) [32, 32]).1 = X.1 + 6 + dgs a + 1 + dgs v + 2 := by rw [sgs_1, hL4]; rfl
  have hL6 : (nmb (sgs (nmb (sgn (nmb (sgs X [97, 117, 100, 105, 116, 32]) a) 32) v) [32, 32]) b).1 = X.1 + 6 + dgs a + 1 + dgs v + 2 + dgs b := by rw [nmb_len2, hL5]
  have hL7 : (atx X a v b).1 = X.1 + 6 + dgs a + 1 + dgs v + 2 + dgs b + 1 := by unfold atx; rw [sgn_len, hL6]
  have hda := dgs_in a
  have hdv := dgs_in v
  have hdb := dgs_in b
  obtain ⟨p6, c7⟩ := PX.sgs (l := [59]) h (by omega)
  obtain ⟨p5, c6⟩ := p6.nmb (by omega)
  obtain ⟨p4, c5⟩ := PX.sgs p5 (by omega)
  obtain ⟨p3, c4⟩ := p4.nmb (by omega)
  obtain ⟨p2, c3⟩ := PX.sgs (l := [32]) p3 (by omega)
  obtain ⟨p1, c2⟩ := p2.nmb (by omega)
  obtain ⟨p0, c1⟩ := PX.sgs p1 hX
  rw [hL1] at c2
  rw [hL2] at c3
  rw [hL3] at c4
  rw [hL4] at c5
  rw [hL5] at c6
  rw [hL6] at c7
  have hn7 := h.2.1
  rw [hL7] at hn7
  have k3 : hr A n (X.1 + 6 + dgs a) = 32 := by have := c3 0 (by decide); rw [show ((0 : Nat) : Int) = 0 from rfl, Int.add_zero] at this; exact this
  have k5 : hr A n (X.1 + 6 + dgs a + 1 + dgs v) = 32 := by have := c5 0 (by decide); rw [show ((0 : Nat) : Int) = 0 from rfl, Int.add_zero] at this; exact this
  have k5' : hr A n (X.1 + 6 + dgs a + 1 + dgs v + 1) = 32 := c5 1 (by decide)
  have k7 : hr A n (X.1 + 6 + dgs a + 1 + dgs v + 2 + dgs b) = 59 := by have := c7 0 (by decide); rw [show ((0 : Nat) : Int) = 0 from rfl, Int.add_zero] at this; exact this
  have i0 : hr A n (X.1 + 0) = 97 := c1 0 (by decide)
  have i1 : hr A n (X.1 + 1) = 117 := c1 1 (by decide)
  have i2 : hr A n (X.1 + 2) = 100 := c1 2 (by decide)
  have i3 : hr A n (X.1 + 3) = 105 := c1 3 (by decide)
  have i4 : hr A n (X.1 + 4) = 116 := c1 4 (by decide)
  have i5 : hr A n (X.1 + 5) = 32 := c1 5 (by decide)
  have esw : sw A n X.1 = X.1 + 5 := by
    refine skp_run 5 X.1 (fun j x y => ?_) (by omega) ?_
    · have : j = 0 ∨ j = 1 ∨ j = 2 ∨ j = 3 ∨ j = 4 := by omega
      rcases this with rfl | rfl | rfl | rfl | rfl
      · rw [i0]; rfl
      · rw [i1]; rfl
      · rw [i2]; rfl
      · rw [i3]; rfl
      · rw [i4]; rfl
    · rw [show X.1 + ((5 : Nat) : Int) = X.1 + 5 by omega, i5]; rfl
  have eI : isI A n X.1 = false := by
    unfold isI wdq
    rw [esw]
    simp only [decide_eq_false_iff_not]
    omega
  have eU : isU A n X.1 = true := by
    unfold isU wdq
    rw [esw]
    simp only [decide_eq_true_eq]
    refine ⟨by omega, fI_none (by omega) (fun j x y => ?_)⟩
    simp only [decide_eq_false_iff_not, Classical.not_not]
    have hh : A 7 (X.1 + j) % 256 = hr A n (X.1 + j) := (hr_at (by omega)).symm
    rw [hh]
    have : j = 0 ∨ j = 1 ∨ j = 2 ∨ j = 3 ∨ j = 4 := by omega
    rcases this with rfl | rfl | rfl | rfl | rfl
    · rw [i0]; rfl
    · rw [i1]; rfl
    · rw [i2]; rfl
    · rw [i3]; rfl
    · rw [i4]; rfl
  obtain ⟨n1, n2, n3, n4⟩ := num_at (A := A) (n := n) (p := X.1 + 5) (y := a) 1 (fun j x y => by rw [show j = 0 by omega, Int.add_zero]; exact i5) (fun j x y => by rw [show X.1 + 5 + ((1 : Nat) : Int) + j = X.1 + 6 + j by omega]; exact c2 j x y) (by rw [show X.1 + 5 + ((1 : Nat) : Int) + (dgs a : Int) = X.1 + 6 + dgs a by omega, k3]; rfl) a0 (by omega) (by omega)
  have ePA : pAq A n X.1 = X.1 + 6 + dgs a := by unfold pAq; rw [esw, n2]; omega
  obtain ⟨m1, m2, m3, m4⟩ := num_at (A := A) (n := n) (p := X.1 + 6 + dgs a) (y := v) 1 (fun j x y => by rw [show j = 0 by omega, Int.add_zero]; exact k3) (fun j x y => by rw [show X.1 + 6 + (dgs a : Int) + ((1 : Nat) : Int) + j = X.1 + 6 + dgs a + 1 + j by omega]; exact c4 j x y) (by rw [show X.1 + 6 + (dgs a : Int) + ((1 : Nat) : Int) + (dgs v : Int) = X.1 + 6 + dgs a + 1 + dgs v by omega, k5]; rfl) v0 (by omega) (by omega)
  have ePV : pVq A n X.1 = X.1 + 6 + dgs a + 1 + dgs v := by unfold pVq; rw [ePA, m2]; omega
  have eP : pSq A n X.1 = X.1 + 6 + dgs a + 1 + dgs v := by unfold pSq; rw [eI, if_neg (by decide), ePV]
  obtain ⟨q1, q2, q3, q4⟩ := num_at (A := A) (n := n) (p := X.1 + 6 + dgs a + 1 + dgs v) (y := b) 2 (fun j x y => by
      have : j = 0 ∨ j = 1 := by omega
      rcases this with rfl | rfl
      · rw [Int.add_zero]; exact k5
      · exact k5') (fun j x y => by rw [show X.1 + 6 + (dgs a : Int) + 1 + (dgs v : Int) + ((2 : Nat) : Int) + j = X.1 + 6 + dgs a + 1 + dgs v + 2 + j by omega]; exact c6 j x y) (by rw [show X.1 + 6 + (dgs a : Int) + 1 + (dgs v : Int) + ((2 : Nat) : Int) + (dgs b : Int) = X.1 + 6 + dgs a + 1 + dgs v + 2 + dgs b by omega, k7]; rfl) b0 (by omega) (by omega)
  have ePE : pEq A n X.1 = X.1 + 6 + dgs a + 1 + dgs v + 2 + dgs b := by unfold pEq; rw [eP, q2]; omega
  have esE : sb A n (pEq A n X.1) = X.1 + 6 + dgs a + 1 + dgs v + 2 + dgs b := by
    rw [ePE]
    exact skp_no (fBl_no (by rw [k7]; decide))
  have hvA : vAq A n X.1 = a := by unfold vAq; rw [esw]; exact n3
  have hvV : vVq A n X.1 = v := by unfold vVq; rw [ePA]; exact m3
  have hvB : vBq A n X.1 = b := by unfold vBq; rw [eP]; exact q3
  have z0 : s0q A n X.1 = (0, -1) := by unfold s0q; rw [eI, eU]; rfl
  have z1 : s1q A n X.1 = (0, -1) := by unfold s1q; rw [z0, esw, n4 99 a1, fq_0]
  have z2 : s2q A n X.1 = (0, -1) := by unfold s2q; rw [z1, ePA, m4 9999 v1, fq_0]
  have z3 : s3q A n X.1 = (0, -1) := by unfold s3q; rw [z2, eP, q4 99999 b1, fq_0]
  refine ⟨?_, by omega, ?_, ?_, ?_⟩
  · refine skp_no (fBl_no ?_)
    have := i0
    rw [Int.add_zero] at this
    rw [this]; decide
  · unfold lnF
    rw [z3, if_neg (by decide)]
    have tb : tkB A n X.1 U = true := by
      unfold tkB
      rw [eI, if_neg (by decide), hvA, hvV, hvB, hp]
      simp only [decide_eq_true_eq]
      exact ⟨hi, hco, hb⟩
    rw [tb, if_neg (by decide), esE, k7, if_pos rfl]
  · unfold tkT
    rw [eI, if_neg (by decide), hvA, hvV, hvB, hp]
  · unfold lnP
    rw [esE, hL7]
/-- the text so far tells the ledger so far, in L lines -/
def PRQ (X : Txt) (U : St) (L : Nat) : Prop := ∀ (A : St) (n : Int), X.1 ≤ n → (∀ j, 0 ≤ j → j < X.1 → hr A n j = X.2 j) → ∀ m, psq A n (L + m) (sb A n 0) T0 = psq A n m (sb A n X.1) U
theorem PRQ.nil : PRQ T00 T0 0 := fun A n _ _ m => by
  rw [Nat.zero_add]
  rfl
theorem PRQ.st {X' : Txt} {U' : St} {L : Nat} (h : PRQ X U L) (hX : 0 ≤ X.1) (hl : X.1 ≤ X'.1) (he : ∀ j, 0 ≤ j → j < X.1 → X'.2 j = X.2 j)
    (hs : ∀ (A : St) (n : Int), PX A n X' → sb A n X.1 = X.1 ∧ X.1 < n ∧ (lnF A n X.1 U).1 = 0 ∧ tkT A n X.1 U = U' ∧ sb A n (lnP A n X.1) = sb A n X'.1) : PRQ X' U' (L + 1) := fun A n hn hb m => by
  have hp : PX A n X' := ⟨by omega, hn, hb⟩
  obtain ⟨s1, s2, s3, s4, s5⟩ := hs A n hp
  rw [show L + 1 + m = L + (m + 1) by omega, h A n (by omega) (fun j a b => (hb j a (by omega)).trans (he j a b)) (m + 1), s1]
  conv => lhs; unfold psq
  rw [if_neg (by omega), if_neg (by omega), s4, s5]
/-- all of it is read -/
theorem PRQ.all {L : Nat} (h : PRQ X U L) (hX : 0 ≤ X.1) (hL : L < 900) (hb : ∀ j, 0 ≤ j → j < X.1 → hr A X.1 j = X.2 j) : psq A X.1 900 (sb A X.1 0) T0 = ((0, -1), U) := by
  have := h A X.1 (Int.le_refl _) hb (900 - L)
  rw [show L + (900 - L) = 900 by omega] at this
  rw [this]
  have e := sb_in (A := A) (n := X.1) (p := X.1) (Int.le_refl _)
  rw [show 900 - L = (900 - L - 1) + 1 by omega]
  unfold psq
  rw [if_pos (by omega)]
end RB
