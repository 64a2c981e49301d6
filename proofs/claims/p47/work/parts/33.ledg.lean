-- the ledger grows, is taken over; a line is written
def addI (A : St) (a v b : Int) : St := ups (ups (ups (ups (ups A 1 (A 0 0) a) 2 (A 0 0) v) 3 (A 0 0) b) 4 (A 0 0) (-1)) 0 0 (A 0 0 + 1)
theorem addI_old {A : St} {a v b : Int} {c : Nat} {i : Int} (h : i < A 0 0) (hc : c ≠ 0) : addI A a v b c i = A c i := by
  unfold addI
  rw [ups_c hc]
  unfold ups
  rw [if_neg (by omega), if_neg (by omega), if_neg (by omega), if_neg (by omega)]
theorem addI_new {A : St} {a v b : Int} : addI A a v b 1 (A 0 0) = a ∧ addI A a v b 2 (A 0 0) = v ∧ addI A a v b 3 (A 0 0) = b ∧ addI A a v b 4 (A 0 0) = -1 := by
  refine ⟨?_, ?_, ?_, ?_⟩ <;> simp [addI, ups]
theorem addI_okL {A : St} (hA : OKL A) (hn : A 0 0 < 48) {a v b : Int} (a0 : 0 ≤ a) (a1 : a ≤ 99) (v0 : 0 ≤ v) (v1 : v ≤ 9999) (b0 : -99999 ≤ b) (b1 : b ≤ 99999) : OKL (addI A a v b) := by
  obtain ⟨h1, h2, h3⟩ := hA
  refine ⟨by show 0 ≤ A 0 0 + 1; omega, by show A 0 0 + 1 ≤ 48; omega, fun i x y => ?_⟩
  have y : i < A 0 0 + 1 := y
  by_cases hi : i = A 0 0
  · subst hi
    obtain ⟨e1, e2, e3, e4⟩ := addI_new (A := A) (a := a) (v := v) (b := b)
    rw [e1, e2, e3, e4]
    omega
  · rw [addI_old (by omega) (by decide), addI_old (by omega) (by decide), addI_old (by omega) (by decide), addI_old (by omega) (by decide)]
    exact h3 i x (by omega)
theorem s_append_3 {K : St → Prop} {A σ : St} (hL : LR 3 A σ) (h0 : 0 ≤ A 0 0) (hn : A 0 0 < 48) {x y z : Int} (hK : ∀ σ', Sm [3, 4, 5, 6, 7] σ σ' → LR 3 (addI A x y z) σ' → K σ') : CV M_Le_append [vR 3, vI x, vI y, vI z] σ K := by
  apply e_Le_append_3
  refine s_isFull_3 hL (fun h => by omega) (fun _ => ⟨fun _ => ?_, fun h => absurd rfl h⟩)
  rw [hL.1]
  refine ⟨h0, hn, by omega, hK _ (((((Sm.rf.up (by decide)).up (by decide)).up (by decide)).up (by decide)).up (by decide)) ⟨by rw [ups_s]; rfl, fun i p q => ?_⟩⟩
  have q : i < A 0 0 + 1 := q
  refine ⟨(?_ : ups σ 4 (A 0 0) x 4 i = ups A 1 (A 0 0) x 1 i), (?_ : ups σ 5 (A 0 0) y 5 i = ups A 2 (A 0 0) y 2 i), (?_ : ups σ 6 (A 0 0) z 6 i = ups A 3 (A 0 0) z 3 i), (?_ : ups σ 7 (A 0 0) (-1) 7 i = ups A 4 (A 0 0) (-1) 4 i)⟩
  all_goals by_cases hi : i = A 0 0
  all_goals first | (subst hi; rw [ups_s, ups_s]) | rw [ups_f hi, ups_f hi]
  · exact (hL.2 i p (by omega)).1
  · exact (hL.2 i p (by omega)).2.1
  · exact (hL.2 i p (by omega)).2.2.1
  · exact (hL.2 i p (by omega)).2.2.2
theorem s_append_9 {K : St → Prop} {A σ : St} (hL : LR 9 A σ) (h0 : 0 ≤ A 0 0) (hn : A 0 0 < 48) {x y z : Int} (hK : ∀ σ', Sm [9, 10, 11, 12, 13] σ σ' → LR 9 (addI A x y z) σ' → K σ') : CV M_Le_append [vR 9, vI x, vI y, vI z] σ K := by
  apply e_Le_append_9
  refine s_isFull_9 hL (fun h => by omega) (fun _ => ⟨fun _ => ?_, fun h => absurd rfl h⟩)
  rw [hL.1]
  refine ⟨h0, hn, by omega, hK _ (((((Sm.rf.up (by decide)).up (by decide)).up (by decide)).up (by decide)).up (by decide)) ⟨by rw [ups_s]; rfl, fun i p q => ?_⟩⟩
  have q : i < A 0 0 + 1 := q
  refine ⟨(?_ : ups σ 10 (A 0 0) x 10 i = ups A 1 (A 0 0) x 1 i), (?_ : ups σ 11 (A 0 0) y 11 i = ups A 2 (A 0 0) y 2 i), (?_ : ups σ 12 (A 0 0) z 12 i = ups A 3 (A 0 0) z 3 i), (?_ : ups σ 13 (A 0 0) (-1) 13 i = ups A 4 (A 0 0) (-1) 4 i)⟩
  all_goals by_cases hi : i = A 0 0
  all_goals first | (subst hi; rw [ups_s, ups_s]) | rw [ups_f hi, ups_f hi]
  · exact (hL.2 i p (by omega)).1
  · exact (hL.2 i p (by omega)).2.1
  · exact (hL.2 i p (by omega)).2.2.1
  · exact (hL.2 i p (by omega)).2.2.2
theorem LR9.sm {S : List Nat} {A σ σ' : St} (h : LR 9 A σ) (hs : Sm S σ σ') (hS : ∀ x ∈ S, x < 9 ∨ 13 < x) : LR 9 A σ' := by
  have q : ∀ c, 9 ≤ c → c ≤ 13 → ∀ j, σ' c j = σ c j := fun c h1 h2 j => hs c (fun hc => by have := hS c hc; omega) j
  refine ⟨by rw [q 9 (by decide) (by decide)]; exact h.1, fun i a b => ?_⟩
  show σ' 10 i = _ ∧ σ' 11 i = _ ∧ σ' 12 i = _ ∧ σ' 13 i = _
  rw [q 10 (by decide) (by decide), q 11 (by decide) (by decide), q 12 (by decide) (by decide), q 13 (by decide) (by decide)]
  exact h.2 i a b
theorem s_become {K : St → Prop} {T σ : St} (hL : LR 9 T σ) (hT : OKL T) (hK : ∀ σ', Sm [3, 4, 5, 6, 7] σ σ' → LR 3 T σ' → K σ') : CV M_Le_become [vR 3, vR 9] σ K := by
  apply e_Le_become
  have h48 := hT.2.1
  have key : ∀ i, 0 ≤ i → i ≤ T 0 0 → ∀ τ, Sm [3, 4, 5, 6, 7] σ τ → LR 3 (ups T 0 0 i) τ → WM M_Le_become 7 [(0, vR 3), (1, vR 9), (2, vI i)] [] τ (QV K) := by
    refine up_ind (fun τ t1 t2 => ?_) (fun i a b ih τ t1 t2 => ?_)
    · apply l_Le_become_1
      have h9 := LR9.sm hL t1 (by decide)
      rw [h9.1]
      refine ⟨fun _ => hK τ t1 ⟨t2.1, fun i a b => t2.2 i a b⟩, fun h => by omega⟩
    · apply l_Le_become_1
      have h9 := LR9.sm hL t1 (by decide)
      rw [h9.1, LR9.acc h9 a b, LR9.vou h9 a b, LR9.bk h9 a b]
      refine ⟨fun h => by omega, fun _ => ⟨a, by omega, s_append_3 t2 a (by show i < 48; omega) (fun σ4 s1 s2 => ⟨by omega, ?_⟩)⟩⟩
      have t3 := t1.tr s1
      have h9' := LR9.sm hL t3 (by decide)
      rw [LR9.au h9' a b]
      refine ih _ (t3.up (by decide)) ⟨?_, fun j x y => ?_⟩
      · exact s2.1
      · have y : j < i + 1 := y
        have hj := s2.2 j x (show j < i + 1 from y)
        obtain ⟨e1, e2, e3, e4⟩ := hj
        refine ⟨e1.trans ?_, e2.trans ?_, e3.trans ?_, (?_ : ups σ4 7 i (T 4 i) 7 j = T 4 j)⟩
        · show ups T 1 i (T 1 i) 1 j = T 1 j
          by_cases hji : j = i
          · subst hji; rw [ups_s]
          · rw [ups_f hji]
        · show ups T 2 i (T 2 i) 2 j = T 2 j
          by_cases hji : j = i
          · subst hji; rw [ups_s]
          · rw [ups_f hji]
        · show ups T 3 i (T 3 i) 3 j = T 3 j
          by_cases hji : j = i
          · subst hji; rw [ups_s]
          · rw [ups_f hji]
        · by_cases hji : j = i
          · subst hji; rw [ups_s]
          · rw [ups_f hji]
            refine e4.trans ?_
            show ups T 4 i (-1) 4 j = T 4 j
            rw [ups_f hji]
  refine key 0 (by omega) hT.1 _ (Sm.rf.up (by decide)) ⟨rfl, fun i a b => ?_⟩
  have b : i < 0 := b
  omega
-- a line
def lnU (A : St) (R i : Int) : Txt := if ce A (A 0 1) i then sgn (nmb (sgn (nmb (sgn (nmb (0, fun _ => 0) (A 1 i)) 47) (A 2 i)) 32) (A 3 i)) 33 else nmb (sgn (nmb (sgn (nmb (sgn (nmb (0, fun _ => 0) (A 1 i)) 47) (A 2 i)) 32) (A 3 i)) 120) (th A R i)
def lnW (A : St) (R i : Int) : Txt := if A 4 i = -1 then lnU A R i else nmb (sgn (sgn (lnU A R i) 32) 61) (A 4 i)
theorem nmb_len2 (v : Int) (T : Txt) : (nmb T v).1 = T.1 + dgs v := by
  unfold nmb
  rw [nme_len]
theorem ln_len {A : St} (hA : OKA A) {i : Int} (h0 : 0 ≤ i) (h1 : i < A 0 0) {R : Int} (hR0 : 0 ≤ R) (hR1 : R ≤ A 0 2) (hp : 0 < A 3 i) :
    (nmb (0, fun _ => 0) (A 1 i)).1 ≤ 2 ∧ (nmb (sgn (nmb (0, fun _ => 0) (A 1 i)) 47) (A 2 i)).1 ≤ 7 ∧ (nmb (sgn (nmb (sgn (nmb (0, fun _ => 0) (A 1 i)) 47) (A 2 i)) 32) (A 3 i)).1 ≤ 13 ∧ (lnU A R i).1 ≤ 15 := by
  have hi := hA.1.2.2 i h0 h1
  have h5 := hA.2.2.1.2.1
  have ht := cI_in (p := fun q => sk A (A 0 1) (A 5 q) i) hR0
  have ht : 0 ≤ th A R i ∧ th A R i ≤ R := ht
  have d1 : dgs (A 1 i) ≤ 2 := (by unfold dgs; (repeat' split) <;> omega)
  have d2 : dgs (A 2 i) ≤ 4 := (by unfold dgs; (repeat' split) <;> omega)
  have d3 : dgs (A 3 i) ≤ 5 := (by unfold dgs; (repeat' split) <;> omega)
  have d4 : dgs (th A R i) ≤ 1 := (by unfold dgs; (repeat' split) <;> omega)
  have s0 : ∀ (T : Txt) (c : Int), (sgn T c).1 = T.1 + 1 := fun T c => rfl
  have e1 : (nmb (0, fun _ => 0) (A 1 i)).1 = 0 + dgs (A 1 i) := nmb_len2 _ _
  refine ⟨by omega, ?_, ?_, ?_⟩
  · rw [nmb_len2, s0, e1]; omega
  · rw [nmb_len2, s0, nmb_len2, s0, e1]; omega
  · unfold lnU
    split
    · rw [s0, nmb_len2, s0, nmb_len2, s0, e1]; omega
    · rw [nmb_len2, s0, nmb_len2, s0, nmb_len2, s0, e1]; omega
theorem s_writeLine {K : St → Prop} {A σ : St} (hC : CR A σ) (hA : OKA A) {i : Int} (h0 : 0 ≤ i) (h1 : i < A 0 0) (hp : 0 < A 3 i) (hK : ∀ σ', Sm [33, 34] σ σ' → TXc (lnW A (A 0 2) i) σ' → K σ') : CV M_Cs_writeLine [vR 0, vI i] σ K := by
  apply e_Cs_writeLine
  have hi := hA.1.2.2 i h0 h1
  have h48 := hA.1.2.1
  have h5 := hA.2.2.1.2.1
  obtain ⟨l1, l2, l3, l4⟩ := ln_len hA h0 h1 hA.2.2.1.1 (Int.le_refl _) hp
  have ht := cI_in (p := fun q => sk A (A 0 1) (A 5 q) i) hA.2.2.1.1
  have ht : 0 ≤ th A (A 0 2) i ∧ th A (A 0 2) i ≤ A 0 2 := ht
  have s0 : ∀ (T : Txt) (c : Int), (sgn T c).1 = T.1 + 1 := fun T c => rfl
  rw [LR3.acc hC.1 h0 h1]
  refine ⟨h0, by omega, s_number (T := (0, fun _ => 0)) ⟨Int.le_refl _, by rw [ups_s], fun j a b => absurd b (by show ¬ j < 0; omega)⟩ (by show (0 : Int) ≤ 26; omega) hi.1 (by omega) (fun σ1 s1 u1 => s_sign u1 (by omega) (by omega) (by omega) (fun σ2 s2 u2 => ?_))⟩
  have m2 : Sm [33, 34] σ σ2 := ((Sm.rf.up (by decide)).tr s1).tr s2
  rw [LR3.vou (hC.sm m2 (by decide)).1 h0 h1]
  refine s_number u2 (by rw [s0]; omega) hi.2.2.1 (by omega) (fun σ3 s3 u3 => s_sign u3 (by omega) (by omega) (by omega) (fun σ4 s4 u4 => ?_))
  have m4 := (m2.tr s3).tr s4
  rw [LR3.bk (hC.sm m4 (by decide)).1 h0 h1]
  refine s_number u4 (by rw [s0]; omega) (by omega) (by omega) (fun σ5 s5 u5 => ?_)
  have m5 := m4.tr s5
  have hC5 := hC.sm m5 (by decide)
  -- the end: audited or not
  have fin : ∀ τ, Sm [33, 34] σ τ → TXc (lnU A (A 0 2) i) τ → CI M_Le_isAudited [vR 3, vI i] τ (fun v23 σ22 => (v23 = 0 → K σ22) ∧ (¬ v23 = 0 → CV M_Li_sign [vR 33, vI 32] σ22 (fun σ25 => CV M_Li_sign [vR 33, vI 61] σ25 (fun σ27 => CV M_Li_number [vR 33, vI (σ27 7 i)] σ27 (fun σ29 => K σ29))))) := by
    intro τ m u
    refine s_isAudited (hC.sm m (by decide)).1 hA.1 (fun _ _ h => ⟨fun h => by omega, fun _ => s_sign u (by omega) (by omega) (by omega) (fun σ6 s6 u6 => s_sign u6 (by rw [s0]; omega) (by omega) (by omega) (fun σ7 s7 u7 => ?_))⟩) (fun h => ⟨fun _ => hK τ m ?_, fun h => absurd rfl h⟩)
    · have m7 := (m.tr s6).tr s7
      rw [LR3.au (hC.sm m7 (by decide)).1 h0 h1]
      refine s_number u7 (by rw [s0, s0]; omega) (by omega) (by omega) (fun σ8 s8 u8 => hK σ8 (m7.tr s8) ?_)
      unfold lnW
      rw [if_neg h]
      exact u8
    · unfold lnW
      rw [if_pos (by omega)]
      exact u
  refine v_isCertain_16 hC5.1 hA.1 hC5.2.2.1.1 h0 h1 ?_
  cases hce : ce A (A 0 1) i with
  | true =>
    refine ⟨fun h => by simp [bi] at h, fun _ => s_sign u5 (by omega) (by omega) (by omega) (fun σ6 s6 u6 => fin σ6 (m5.tr s6) ?_)⟩
    unfold lnU
    rw [if_pos hce]
    exact u6
  | false =>
    refine ⟨fun _ => s_sign u5 (by omega) (by omega) (by omega) (fun σ6 s6 u6 => ?_), fun h => by simp [bi] at h⟩
    have m6 := m5.tr s6
    have hC6 := hC.sm m6 (by decide)
    rw [hC6.2.2.2.1.2.1]
    refine v_timesHit hC6 hA hA.2.2.1.1 (Int.le_refl _) h0 h1 (s_number u6 (by rw [s0]; omega) ht.1 (by omega) (fun σ7 s7 u7 => fin σ7 (m6.tr s7) ?_))
    unfold lnU
    rw [if_neg (by simp [hce])]
    exact u7

