-- the model's methods
def EM (A σ : St) (v : Int) (K : Int → St → Prop) : Prop := ∀ σ', MR A σ' → FM σ' → UM σ σ' → K v σ'
theorem mcl {K : Int → St → Prop} {σ σ' : St} {q : Int × St} {v : Int} {B : St} (hK : EM q.2 σ q.1 K) (e : q = (v, B)) (h1 : MR B σ') (h2 : FM σ') (h3 : UM σ σ') : K v σ' := by
  subst e
  exact hK σ' h1 h2 h3
/-- only what is laid anew has changed -/
theorem mrd {K : Int → St → Prop} {A σ σ' : St} {q v : Int} (hM : MR A σ) (hK : EM A σ q K) (hs : Mm scM scP σ σ') (hF : FM σ') (e : q = v) : K v σ' := by
  subst e
  exact hK σ' (hM.sm hs (fun x hx => Or.inl hx) (fun x hx => hx)) hF (hs.um (by decide))
theorem t0_M {A σ : St} (hM : MR A σ) : MR A (ups σ 35 0 0) := hM.sm (S := []) (P := [0]) (Mm.rf.fd (by decide)) (by decide) (by decide)
theorem t0_F {σ : St} (hF : FM σ) : FM (ups σ 35 0 0) := hF.sm (S := []) (P := [0]) (Mm.rf.fd (by decide)) (by decide) (by decide) (by decide) (by decide)
theorem t0_s {σ : St} : Mm scM scP σ (ups σ 35 0 0) := Mm.rf.fd (by decide)
theorem t0_u {σ : St} : UM σ (ups σ 35 0 0) := UM.rf.up (by decide)
theorem p_fault {K : Int → St → Prop} {A σ : St} (hM : MR A σ) (hF : FM σ) {x : Int} (hK : EM A σ (q_fault A x) K) : CI M_Mo_fault [vR 35, vI x] σ K := by
  apply e_Mo_fault
  rw [hM.2.2.2.2.2.2.1.1, hM.2.2.2.2.2.2.1.2]
  exact ⟨fun h => ⟨fun h2 => (mrd hM hK t0_s (t0_F hF) (by unfold q_fault; (repeat' split) <;> first | (exfalso; omega) | rfl | simp_all)), fun h2 => (mrd hM hK t0_s (t0_F hF) (by unfold q_fault; (repeat' split) <;> first | (exfalso; omega) | rfl | simp_all))⟩, fun h => (mrd hM hK t0_s (t0_F hF) (by unfold q_fault; (repeat' split) <;> first | (exfalso; omega) | rfl | simp_all))⟩
theorem p_feed {K : Int → St → Prop} {A σ : St} (hM : MR A σ) (hF : FM σ) (hA : OKA A) {a b c d e : Int} (hK : EM (q_feed A a b c d e).2 σ (q_feed A a b c d e).1 K) : CI M_Mo_feed [vR 35, vI a, vI b, vI c, vI d, vI e] σ K := by
  apply e_Mo_feed
  have hL := hA.2.2.2.2.1
  rw [hM.2.2.2.2.2.1.1]
  refine ⟨by omega, fun hle => ?_, fun hgt => mcl hK (by unfold q_feed; (repeat' split) <;> first | (exfalso; omega) | rfl | simp_all) (t0_M hM) (t0_F hF) t0_u⟩
  have key : ∀ k, 0 ≤ k → k ≤ 20 → ∀ τ, Mm [42] [0, 13] σ τ → τ 35 13 = A 0 4 + k → (∀ j, 0 ≤ j → j < A 0 4 + k → τ 42 j = fdA A (fdb a b c d e) 20 7 j) → WM M_Mo_feed 24 [(0, vR 35), (1, vI a), (2, vI b), (3, vI c), (4, vI d), (5, vI e), (6, vI k)] [] τ (QI K) := by
    refine up_ind (fun τ t1 t2 t3 => ?_) (fun k h0 h1 ih τ t1 t2 t3 => ?_)
    · apply l_Mo_feed_1
      rw [t2]
      refine ⟨fun _ => mcl hK (show q_feed A a b c d e = (A 0 4 + 20, fdA A (fdb a b c d e) 20) by unfold q_feed; rw [if_neg (by omega)]) ?_ (hF.sm t1 (by decide) (by decide) (by decide) (by decide)) (t1.um (by decide)), fun h => by omega⟩
      have n : ∀ (c : Nat) (j : Int), c ≠ 42 → c ≠ 35 → τ c j = σ c j := fun c j h1 h2 => t1 c j (by simp [h1]) (fun q => h2 q.1)
      have f : ∀ j : Int, j ≠ 0 → j ≠ 13 → τ 35 j = σ 35 j := fun j h1 h2 => t1 35 j (by decide) (by simp [h1, h2])
      obtain ⟨m1, m2, m3, m4, m5, m6, m7, m8⟩ := hM
      refine ⟨⟨by rw [f 6 (by decide) (by decide)]; exact m1.1, fun i x y => ?_⟩, ⟨?_, ?_, fun r x y => ?_⟩, ?_, fun k x y => ?_, fun k x y => ?_, ⟨t2, fun i x y => t3 i x y⟩, ⟨?_, ?_⟩, fun k x y => ?_⟩
      · rw [n 39 _ (by decide) (by decide), n 39 _ (by decide) (by decide), n 39 _ (by decide) (by decide), n 39 _ (by decide) (by decide)]; exact m1.2 i x y
      · rw [f 9 (by decide) (by decide)]; exact m2.1
      · rw [f 10 (by decide) (by decide)]; exact m2.2.1
      · rw [n 41 _ (by decide) (by decide)]; exact m2.2.2 r x y
      · rw [f 11 (by decide) (by decide)]; exact m3
      · rw [n 36 _ (by decide) (by decide)]; exact m4 k x y
      · rw [n 37 _ (by decide) (by decide), n 38 _ (by decide) (by decide)]; exact m5 k x y
      · rw [f 16 (by decide) (by decide)]; exact m7.1
      · rw [f 17 (by decide) (by decide)]; exact m7.2
      · rw [n 43 _ (by decide) (by decide)]; exact m8 k x y
    · refine WM.wf (fun _ hl => ?_)
      have ha : inR a := hl (1, vI a) (by simp)
      have hb : inR b := hl (2, vI b) (by simp)
      have hc : inR c := hl (3, vI c) (by simp)
      have hd : inR d := hl (4, vI d) (by simp)
      have he : inR e := hl (5, vI e) (by simp)
      apply l_Mo_feed_1
      rw [t2]
      have go : ∀ x : Int, inR x → fdb a b c d e k = bv x (24 - 8 * (k % 4)) → (0 ≤ k) ∧ (inR (8 * (k % 4))) ∧ (inR (24 - (8 * (k % 4)))) ∧ (0 ≤ (24 - (8 * (k % 4)))) ∧ ((24 - (8 * (k % 4))) < 32) ∧ (inR (x / 2 ^ (24 - (8 * (k % 4))).toNat)) ∧ (0 ≤ (A 0 4 + k)) ∧ ((A 0 4 + k) < 900) ∧ (-128 ≤ (((x / 2 ^ (24 - (8 * (k % 4))).toNat) + 128) % 256 - 128)) ∧ ((((x / 2 ^ (24 - (8 * (k % 4))).toNat) + 128) % 256 - 128) ≤ 127) ∧ (inR ((A 0 4 + k) + 1)) ∧ (inR (k + 1)) ∧ WM M_Mo_feed 24 [(0, vR 35), (1, vI a), (2, vI b), (3, vI c), (4, vI d), (5, vI e), (6, vI (k + 1))] [] (ups (ups τ 42 (A 0 4 + k) (((x / 2 ^ (24 - (8 * (k % 4))).toNat) + 128) % 256 - 128)) 35 13 ((A 0 4 + k) + 1)) (QI K) := fun x hx hf => by
        have hs := shr_in hx (24 - 8 * (k % 4)).toNat
        have hbv := bv_in x (24 - 8 * (k % 4))
        refine ⟨h0, by omega, by omega, by omega, by omega, hs, by omega, by omega, hbv.1, hbv.2, by omega, by omega, ih _ ((t1.up (by decide)).fd (by decide)) (by rw [ups_s]; omega) (fun j p q => ?_)⟩
        rw [ups_c (by decide)]
        by_cases hj : j = A 0 4 + k
        · subst hj
          rw [ups_s, fdA_7, if_pos (by omega), show A 0 4 + k - A 0 4 = k by omega, hf]
          rfl
        · rw [ups_f hj]; exact t3 j p (by omega)
      refine ⟨fun h => by omega, fun _ => ⟨fun g1 => ⟨fun g2 => ⟨fun g3 => ⟨fun g4 => go e he ?_, fun g4 => go d hd ?_⟩, fun g3 => go c hc ?_⟩, fun g2 => go b hb ?_⟩, fun g1 => go a ha ?_⟩⟩
      · unfold fdb; rw [if_neg (by omega), if_neg (by omega), if_neg (by omega), if_neg (by omega)]
      · unfold fdb; rw [if_neg (by omega), if_neg (by omega), if_neg (by omega), if_pos (by omega)]
      · unfold fdb; rw [if_neg (by omega), if_neg (by omega), if_pos (by omega)]
      · unfold fdb; rw [if_neg (by omega), if_pos (by omega)]
      · unfold fdb; rw [if_pos (by omega)]
  refine key 0 (by omega) (by omega) _ (Mm.rf.fd (by decide)) ?_ (fun j a b => ?_)
  · rw [ups_f (by decide), Int.add_zero]; exact hM.2.2.2.2.2.1.1
  · rw [ups_c (by decide), fdA_7, if_neg (by omega)]
    exact hM.2.2.2.2.2.1.2 j a (by omega)
theorem p_terms {K : Int → St → Prop} {A σ : St} (hM : MR A σ) (hF : FM σ) {x y : Int} (hK : EM (q_terms A x y).2 σ (q_terms A x y).1 K) : CI M_Mo_terms [vR 35, vI x, vI y] σ K := by
  apply e_Mo_terms
  have hM0 := t0_M hM
  have hF0 := t0_F hF
  refine s_isIn (fun h0 h1 => ⟨fun _ => ⟨h0, by omega, ?_⟩, fun h => by omega⟩) (fun h => ⟨fun h => absurd rfl h, fun _ => mcl hK (show q_terms A x y = (-2, A) by unfold q_terms; rw [if_pos (by omega)]) hM0 hF0 t0_u⟩)
  obtain ⟨l1, l2⟩ := hM0.2.2.2.2.1 x h0 (by omega)
  rw [l1, l2]
  refine s_isIn (fun h2 h3 => ⟨fun _ => ?_, fun h => by omega⟩) (fun h => ⟨fun h => absurd rfl h, fun _ => mcl hK (show q_terms A x y = (-3, A) by unfold q_terms; rw [if_neg (by omega), if_pos (by omega)]) hM0 hF0 t0_u⟩)
  have hT : ∀ k, 0 ≤ k → k < 5 → ups (ups σ 35 0 0) 36 x y 36 k = ups A 6 x y 6 k := fun k a b => by
    by_cases hk : k = x
    · subst hk; rw [ups_s, ups_s]
    · rw [ups_f hk, ups_f hk]; exact hM0.2.2.2.1 k a b
  have e : q_terms A x y = (A 6 x, if x = 4 then ups (ups A 6 x y) 0 3 y else ups A 6 x y) := by unfold q_terms; rw [if_neg (by omega), if_neg (by omega)]
  rw [hM0.2.2.2.1 x h0 (by omega)]
  obtain ⟨m1, m2, m3, m4, m5, m6, m7, m8⟩ := hM0
  exact ⟨fun h => mcl (B := ups A 6 x y) hK (by rw [e, if_neg h]) ⟨m1, m2, m3, hT, m5, m6, m7, m8⟩ (fun k a b => hF0 k a b) (t0_u.up (by decide)), fun h => mcl (B := ups (ups A 6 x y) 0 3 y) hK (by rw [e, if_pos h]) ⟨m1, m2, rfl, hT, m5, m6, m7, m8⟩ (fun k a b => hF0 k a b) ((t0_u.up (by decide)).up (by decide))⟩
theorem p_add {K : Int → St → Prop} {A σ : St} (hM : MR A σ) (hF : FM σ) (hA : OKA A) {a v b : Int} (hK : EM (q_add A a v b).2 σ (q_add A a v b).1 K) : CI M_Mo_add [vR 35, vI a, vI v, vI b] σ K := by
  apply e_Mo_add
  have hM0 := t0_M hM
  have hF0 := t0_F hF
  have h48 := hA.1.2.1
  have h0 := hA.1.1
  have hR0 := hA.2.2.1.1
  have bad : (a < 0 ∨ 99 < a ∨ v < 0 ∨ 9999 < v ∨ b < -99999 ∨ 99999 < b) → K (-3) (ups σ 35 0 0) := fun h => mcl hK (show q_add A a v b = (-3, A) by unfold q_add; rw [if_pos h]) hM0 hF0 t0_u
  refine s_isIn (fun a0 a1 => ⟨fun h => by omega, fun _ => s_isIn (fun v0 v1 => ⟨fun h => by omega, fun _ => s_isIn (fun b0 b1 => ⟨fun _ => ?_, fun h => by omega⟩) (fun h => ⟨fun h => absurd rfl h, fun _ => bad (by omega)⟩)⟩) (fun h => ⟨fun _ => bad (by omega), fun h => absurd rfl h⟩)⟩) (fun h => ⟨fun _ => bad (by omega), fun h => absurd rfl h⟩)
  rw [hM0.1.1, hM0.2.1.2.1]
  have no : A 0 0 ≠ 48 → (0 < A 0 2 ∨ plcq A a v ≠ -1) → K (-5) (ups σ 35 0 0) := fun hn h => mcl hK (show q_add A a v b = (-5, A) by unfold q_add; rw [if_neg (by omega), if_neg hn, if_pos h]) hM0 hF0 t0_u
  refine ⟨fun hn => ⟨fun hR => no hn (Or.inl hR), fun hR => v_placeIn hM0.1 hA.1 ⟨fun hp => ?_, fun hp => no hn (Or.inr hp)⟩⟩, fun hn => mcl hK (show q_add A a v b = (-4, A) by unfold q_add; rw [if_neg (by omega), if_pos hn]) hM0 hF0 t0_u⟩
  rw [hM0.1.1]
  refine ⟨by omega, by omega, by omega, by omega, by omega, by omega, by omega, by omega, by omega, by omega, by omega, by omega, by omega, by omega, by omega, mcl hK (v := A 0 0 + 1 - 1) (show q_add A a v b = (A 0 0 + 1 - 1, addI A a v b) by unfold q_add; rw [if_neg (by omega), if_neg hn, if_neg (by omega), show A 0 0 + 1 - 1 = A 0 0 by omega]) ?_ (fun k x y => hF0 k x y) ((((((t0_u.up (by decide)).up (by decide)).up (by decide)).up (by decide)).up (by decide)))⟩
  refine ⟨⟨rfl, fun i x y => ?_⟩, hM0.2⟩
  have y : i < A 0 0 + 1 := y
  obtain ⟨e1, e2, e3, e4⟩ := addI_new (A := A) (a := a) (v := v) (b := b)
  refine ⟨(?_ : ups (ups (ups (ups (ups σ 35 0 0) 39 (4 * A 0 0 + 0) a) 39 (4 * A 0 0 + 1) v) 39 (4 * A 0 0 + 2) b) 39 (4 * A 0 0 + 3) (-1) 39 (4 * i + 0) = _), (?_ : ups (ups (ups (ups (ups σ 35 0 0) 39 (4 * A 0 0 + 0) a) 39 (4 * A 0 0 + 1) v) 39 (4 * A 0 0 + 2) b) 39 (4 * A 0 0 + 3) (-1) 39 (4 * i + 1) = _), (?_ : ups (ups (ups (ups (ups σ 35 0 0) 39 (4 * A 0 0 + 0) a) 39 (4 * A 0 0 + 1) v) 39 (4 * A 0 0 + 2) b) 39 (4 * A 0 0 + 3) (-1) 39 (4 * i + 2) = _), (?_ : ups (ups (ups (ups (ups σ 35 0 0) 39 (4 * A 0 0 + 0) a) 39 (4 * A 0 0 + 1) v) 39 (4 * A 0 0 + 2) b) 39 (4 * A 0 0 + 3) (-1) 39 (4 * i + 3) = _)⟩
  all_goals by_cases hi : i = A 0 0
  · subst hi; rw [ups_f (by omega), ups_f (by omega), ups_f (by omega), ups_s, e1]
  · rw [ups_f (by omega), ups_f (by omega), ups_f (by omega), ups_f (by omega), addI_old (by omega) (by decide)]; exact (hM0.1.2 i x (by omega)).1
  · subst hi; rw [ups_f (by omega), ups_f (by omega), ups_s, e2]
  · rw [ups_f (by omega), ups_f (by omega), ups_f (by omega), ups_f (by omega), addI_old (by omega) (by decide)]; exact (hM0.1.2 i x (by omega)).2.1
  · subst hi; rw [ups_f (by omega), ups_s, e3]
  · rw [ups_f (by omega), ups_f (by omega), ups_f (by omega), ups_f (by omega), addI_old (by omega) (by decide)]; exact (hM0.1.2 i x (by omega)).2.2.1
  · subst hi; rw [ups_s, e4]
  · rw [ups_f (by omega), ups_f (by omega), ups_f (by omega), ups_f (by omega), addI_old (by omega) (by decide)]; exact (hM0.1.2 i x (by omega)).2.2.2
theorem p_post {K : Int → St → Prop} {A σ : St} (hM : MR A σ) (hF : FM σ) (hA : OKA A) {i v : Int} (hK : EM (q_post A i v).2 σ (q_post A i v).1 K) : CI M_Mo_post [vR 35, vI i, vI v] σ K := by
  apply e_Mo_post
  have hM0 := t0_M hM
  have hF0 := t0_F hF
  have h48 := hA.1.2.1
  have hR0 := hA.2.2.1.1
  have bad : (i < 0 ∨ A 0 0 ≤ i ∨ v < -99999 ∨ 99999 < v ∨ 0 < A 0 2) → K (-10000000) (ups σ 35 0 0) := fun h => mcl hK (show q_post A i v = (-10000000, A) by unfold q_post; rw [if_pos h]) hM0 hF0 t0_u
  refine s_isItem hM0.1 hA.1 (fun h0 h1 => ⟨fun h => by omega, fun _ => s_isIn (fun v0 v1 => ⟨fun h => by omega, fun _ => ?_⟩) (fun h => ⟨fun _ => bad (by omega), fun h => absurd rfl h⟩)⟩) (fun h => ⟨fun _ => bad (by omega), fun h => absurd rfl h⟩)
  rw [hM0.2.1.2.1]
  refine ⟨fun hR => v_book hM0.1 hA.1 h0 h1 ⟨by omega, by omega, by omega, by omega, by omega, by omega, by omega, mcl hK (show q_post A i v = (A 3 i, ups (ups A 3 i v) 4 i (-1)) by unfold q_post; rw [if_neg (by omega)]) ⟨⟨hM0.1.1, fun j x y => ?_⟩, hM0.2⟩ (fun k x y => hF0 k x y) ((t0_u.up (by decide)).up (by decide))⟩, fun h => bad (by omega)⟩
  obtain ⟨g1, g2, g3, g4⟩ := hM0.1.2 j x y
  refine ⟨(?_ : ups (ups (ups σ 35 0 0) 39 (4 * i + 2) v) 39 (4 * i + 3) (-1) 39 (4 * j + 0) = A 1 j), (?_ : ups (ups (ups σ 35 0 0) 39 (4 * i + 2) v) 39 (4 * i + 3) (-1) 39 (4 * j + 1) = A 2 j), (?_ : ups (ups (ups σ 35 0 0) 39 (4 * i + 2) v) 39 (4 * i + 3) (-1) 39 (4 * j + 2) = ups A 3 i v 3 j), (?_ : ups (ups (ups σ 35 0 0) 39 (4 * i + 2) v) 39 (4 * i + 3) (-1) 39 (4 * j + 3) = ups A 4 i (-1) 4 j)⟩
  · rw [ups_f (by omega), ups_f (by omega)]; exact g1
  · rw [ups_f (by omega), ups_f (by omega)]; exact g2
  · by_cases hj : j = i
    · subst hj; rw [ups_f (by omega), ups_s, ups_s]
    · rw [ups_f (by omega), ups_f (by omega), ups_f hj]; exact g3
  · by_cases hj : j = i
    · subst hj; rw [ups_s, ups_s]
    · rw [ups_f (by omega), ups_f (by omega), ups_f hj]; exact g4
theorem p_audit {K : Int → St → Prop} {A σ : St} (hM : MR A σ) (hF : FM σ) (hA : OKA A) {i v : Int} (hK : EM (q_audit A i v).2 σ (q_audit A i v).1 K) : CI M_Mo_audit [vR 35, vI i, vI v] σ K := by
  apply e_Mo_audit
  have hM0 := t0_M hM
  have hF0 := t0_F hF
  have h48 := hA.1.2.1
  refine s_isItem hM0.1 hA.1 (fun h0 h1 => ⟨fun _ => s_isAudit hM0.1 hA.1 h0 h1 (fun v0 v1 => ⟨fun _ => m_coinsOf hM0.1 hA.1 h0 h1 ⟨fun hc => v_audited hM0.1 hA.1 h0 h1 ⟨by omega, by omega, by omega, by omega, mcl hK (show q_audit A i v = (A 4 i, ups A 4 i v) by unfold q_audit; rw [if_neg (by omega), if_neg (by omega), if_neg hc]) hM0.au (fun k x y => hF0 k x y) (t0_u.up (by decide))⟩, fun hc => mcl hK (show q_audit A i v = (-5, A) by unfold q_audit; rw [if_neg (by omega), if_neg (by omega), if_pos hc]) hM0 hF0 t0_u⟩, fun h => by omega⟩) (fun h => ⟨fun h => absurd rfl h, fun _ => mcl hK (show q_audit A i v = (-3, A) by unfold q_audit; rw [if_neg (by omega), if_pos (by omega)]) hM0 hF0 t0_u⟩), fun h => by omega⟩) (fun h => ⟨fun h => absurd rfl h, fun _ => mcl hK (show q_audit A i v = (-2, A) by unfold q_audit; rw [if_pos (by omega)]) hM0 hF0 t0_u⟩)
theorem p_forget {K : Int → St → Prop} {A σ : St} (hM : MR A σ) (hF : FM σ) (hA : OKA A) {i : Int} (hK : EM (q_forget A i).2 σ (q_forget A i).1 K) : CI M_Mo_forget [vR 35, vI i] σ K := by
  apply e_Mo_forget
  have hM0 := t0_M hM
  have hF0 := t0_F hF
  have h48 := hA.1.2.1
  exact s_isItem hM0.1 hA.1 (fun h0 h1 => ⟨fun _ => v_audited hM0.1 hA.1 h0 h1 ⟨by omega, by omega, by omega, by omega, mcl hK (show q_forget A i = (A 4 i, ups A 4 i (-1)) by unfold q_forget; rw [if_neg (by omega)]) hM0.au (fun k x y => hF0 k x y) (t0_u.up (by decide))⟩, fun h => by omega⟩) (fun h => ⟨fun h => absurd rfl h, fun _ => mcl hK (show q_forget A i = (-2, A) by unfold q_forget; rw [if_pos (by omega)]) hM0 hF0 t0_u⟩)
/-- another interval -/
theorem MR.iv {A σ : St} (hM : MR A σ) {v : Int} : MR (ups A 0 1 v) (ups σ 35 9 v) := ⟨hM.1, ⟨rfl, hM.2.1.2⟩, hM.2.2⟩
theorem p_interval {K : Int → St → Prop} {A σ : St} (hM : MR A σ) (hF : FM σ) (hA : OKA A) {v : Int} (hK : EM (q_interval A v).2 σ (q_interval A v).1 K) : CI M_Mo_interval [vR 35, vI v] σ K := by
  apply e_Mo_interval
  have hM0 := t0_M hM
  have hF0 := t0_F hF
  have hR0 := hA.2.2.1.1
  refine s_isIn (fun h0 h1 => ⟨fun _ => ?_, fun h => by omega⟩) (fun h => ⟨fun h => absurd rfl h, fun _ => mcl hK (show q_interval A v = (-3, A) by unfold q_interval; rw [if_pos (by omega)]) hM0 hF0 t0_u⟩)
  rw [hM0.2.1.2.1]
  refine ⟨fun hR => m_certainMany (A := A) hM0.1 hA.1 (v := v) (by rw [ups_s]) (mcl hK (show q_interval A v = (cI (ce A v) (A 0 0), ups A 0 1 v) by unfold q_interval; rw [if_neg (by omega), if_neg (by omega)]) hM0.iv (fun k x y => hF0 k x y) (t0_u.up (by decide))), fun hR => mcl hK (show q_interval A v = (-5, A) by unfold q_interval; rw [if_neg (by omega), if_pos (by omega)]) hM0 hF0 t0_u⟩
theorem p_plan {K : Int → St → Prop} {A σ : St} (hM : MR A σ) (hF : FM σ) (hA : OKA A) (hK : EM (q_plan A).2 σ (q_plan A).1 K) : CI M_Mo_plan [vR 35] σ K := by
  apply e_Mo_plan
  have hM0 := t0_M hM
  have hR0 := hA.2.2.1.1
  have ha := al_in hA.1
  have ht := hA.2.2.2.2.2
  rw [hM.2.2.2.1 0 (by omega) (by omega), hM.2.2.2.1 2 (by omega) (by omega)]
  refine m_sizeBy hM0 hA (t0_F hF) ht.2.2.1.1 ht.2.2.1.2 (fun σ1 s1 f1 => ?_)
  have M1 := hM0.sm s1 (by decide) (by decide)
  have u1 : UM σ σ1 := t0_u.tr (s1.um (by decide))
  generalize hn : SZ (al A) (A 6 0) (A 6 2) (A 6 1) = n
  have hsz := SZ_in (al A) (A 6 0) (A 6 2) (A 6 1)
  rw [hn] at hsz
  have hq : q_plan A = if n = -1 then (-4, A) else if al A = 0 ∨ 0 < A 0 2 then (-5, A) else (n, ups A 0 1 (if 1 < al A / n then al A / n else 1)) := by unfold q_plan; rw [hn]
  refine ⟨fun h1 => m_allCoins M1.1 hA.1 ?_, fun h => mcl hK (show q_plan A = (-4, A) by rw [hq, if_pos h]) M1 f1 u1⟩
  rw [M1.2.1.2.1]
  refine ⟨fun h => mcl hK (show q_plan A = (-5, A) by rw [hq, if_neg h1, if_pos (Or.inl h)]) M1 f1 u1, fun h2 => ⟨fun hR => m_allCoins M1.1 hA.1 ⟨ha.1, by omega, fun hd => ?_, fun hd => ?_⟩, fun hR => mcl hK (show q_plan A = (-5, A) by rw [hq, if_neg h1, if_pos (by omega)]) M1 f1 u1⟩⟩
  · have h3 := Int.ediv_nonneg ha.1 (show 0 ≤ n by omega)
    have he : (if 1 < al A / n then al A / n else 1) = al A / n := by split <;> omega
    refine mcl hK (B := ups A 0 1 (al A / n)) (show q_plan A = (n, ups A 0 1 (al A / n)) by rw [hq, if_neg h1, if_neg (by omega), he]) M1.iv (fun k x y => f1 k x y) (u1.up (by decide))
  · refine mcl hK (B := ups A 0 1 1) (show q_plan A = (n, ups A 0 1 1) by rw [hq, if_neg h1, if_neg (by omega), hd]; rfl) ⟨M1.1, ⟨rfl, M1.2.1.2⟩, M1.2.2⟩ (fun k x y => f1 k x y) ((u1.up (by decide)).up (by decide))
/-- the model's draws -/
def MS (A σ : St) : Prop := σ 35 9 = A 0 1 ∧ σ 35 10 = A 0 2 ∧ (0 ≤ A 0 2 ∧ A 0 2 ≤ 5) ∧ ∀ r, 0 ≤ r → r < A 0 2 → σ 41 r = A 5 r
theorem m_isStart {K : Int → St → Prop} {A σ : St} (hW : MS A σ) {v : Int} (hK : K (bi (isS A v)) σ) : CI M_Mo_isStart [vR 35, vI v] σ K := by
  apply e_Mo_isStart
  obtain ⟨_, h1, h2, h3⟩ := hW
  have key : ∀ r, 0 ≤ r → r ≤ A 0 2 → (∀ q, 0 ≤ q → q < r → A 5 q ≠ v) → WM M_Mo_isStart 2 [(0, vR 35), (1, vI v), (2, vI r)] [] σ (QI K) := by
    refine up_ind (fun hf => ?_) (fun r a b ih hf => ?_)
    · apply l_Mo_isStart_1
      rw [h1]
      refine ⟨fun _ => ?_, fun h => by omega⟩
      rw [isS_f h2.1 hf] at hK
      exact hK
    · apply l_Mo_isStart_1
      rw [h1, h3 r a b]
      refine ⟨fun h => by omega, fun _ => ⟨a, by omega, fun hne => ⟨by omega, ih (fun q x y => ?_)⟩, fun he => ?_⟩⟩
      · by_cases hq : q = r
        · subst hq; exact hne
        · exact hf q x (by omega)
      · rw [isS_t a b he] at hK
        exact hK
  exact key 0 (by omega) h2.1 (fun q a b => by omega)
theorem m_drawnStart {K : Int → St → Prop} {A σ : St} (hW : MS A σ) (hiv : 0 < A 0 1) (hiv1 : A 0 1 ≤ 4799952) {s : Int} (hs : σ 35 11 = s) (hs0 : 0 ≤ s) (hs1 : s ≤ 1000003) (hK : ∀ τ, Mm [] [11] σ τ → τ 35 11 = (drw A 50 s).2 → K (drw A 50 s).1 τ) : CI M_Mo_drawnStart [vR 35] σ K := by
  apply e_Mo_drawnStart
  generalize hP : drw A 50 s = P at hK
  have hl := lf_spec hW.2.2.1.1 hW.2.2.1.2
  have hWt : ∀ τ : St, Mm [] [11] σ τ → MS A τ := fun τ h => ⟨by rw [h 35 9 (by simp) (by simp)]; exact hW.1, by rw [h 35 10 (by simp) (by simp)]; exact hW.2.1, hW.2.2.1, fun r a b => by rw [h 41 r (by simp) (by simp)]; exact hW.2.2.2 r a b⟩
  have low : ∀ τ, MS A τ → K (lf A) τ → ∀ d, 0 ≤ d → d ≤ lf A - 1 → WM M_Mo_drawnStart 60 [(0, vR 35), (1, vI (d + 1))] [] τ (QI K) := fun τ hτ hk => by
    refine up_ind ?_ (fun d a b ih => ?_)
    · rw [show lf A - 1 + 1 = lf A by omega]
      apply l_Mo_drawnStart_2
      refine m_isStart hτ ?_
      rw [hl.2.2.1]
      exact ⟨fun _ => hk, fun h => absurd rfl h⟩
    · apply l_Mo_drawnStart_2
      refine m_isStart hτ ?_
      have := hW.2.2.1
      rw [hl.2.2.2 (d + 1) (by omega) (by omega)]
      exact ⟨fun h => by simp [bi] at h, fun _ => ⟨by omega, ih⟩⟩
  have key : ∀ (m : Nat) (x s' : Int) (τ : St), x + m = 50 → 0 ≤ x → 0 ≤ s' → s' ≤ 1000003 → Mm [] [11] σ τ → τ 35 11 = s' → drw A m s' = P → WM M_Mo_drawnStart 2 [(0, vR 35), (1, vI x)] [] τ (QI K) := by
    intro m
    induction m with
    | zero =>
      intro x s' τ h1 h2 h3 h4 h5 h6 h7
      apply l_Mo_drawnStart_1
      refine ⟨fun _ => ?_, fun h => by omega⟩
      have := hK τ h5 (by rw [h6, ← h7]; rfl)
      rw [← h7] at this
      exact low τ (hWt τ h5) this 0 (by omega) (by omega)
    | succ m ih =>
      intro x s' τ h1 h2 h3 h4 h5 h6 h7
      apply l_Mo_drawnStart_1
      have hl := lcg_in s'
      have hm1 := Int.emod_nonneg (lcg s') (show A 0 1 ≠ 0 by omega)
      have hm2 := Int.emod_lt_of_pos (lcg s') hiv
      rw [h6, (hWt τ h5).1, show (1103 * s' + 12345) % 1000003 = lcg s' by unfold lcg; rw [Int.mul_comm]]
      have h8 : Mm [] [11] σ (ups τ 35 11 (lcg s')) := h5.fd (by decide)
      refine ⟨fun h => by omega, fun _ => ⟨by omega, by omega, by omega, by omega, hl.1, hiv, by omega, m_isStart (hWt _ h8) ?_⟩⟩
      unfold drw at h7
      cases hq : isS A (lcg s' % A 0 1 + 1) with
      | true =>
        rw [hq, if_pos rfl] at h7
        exact ⟨fun _ => ⟨by omega, ih _ _ _ (by omega) (by omega) hl.1 (by omega) h8 (by rw [ups_s]) h7⟩, fun h => by simp [bi] at h⟩
      | false =>
        rw [hq, if_neg (by decide)] at h7
        refine ⟨fun h => absurd rfl h, fun _ => ?_⟩
        have := hK _ h8 (by rw [ups_s, ← h7])
        rw [← h7] at this
        exact this
  exact key 50 0 s σ (by omega) (by omega) hs0 hs1 Mm.rf hs hP
theorem p_draw {K : Int → St → Prop} {A σ : St} (hM : MR A σ) (hF : FM σ) (hA : OKA A) (hK : EM (q_draw A).2 σ (q_draw A).1 K) : CI M_Mo_draw [vR 35] σ K := by
  apply e_Mo_draw
  have hM0 := t0_M hM
  have hF0 := t0_F hF
  have hR := hA.2.2.1
  have hi := hA.2.1
  have hs := hA.2.2.2.1
  rw [hM.2.1.1, hM.2.1.2.1]
  refine ⟨fun h1 => ⟨fun h => by omega, fun h => mcl hK (by unfold q_draw; (repeat' split) <;> first | (exfalso; omega) | rfl | simp_all) hM0 hF0 t0_u⟩, fun h1 => ⟨fun h => mcl hK (by unfold q_draw; (repeat' split) <;> first | (exfalso; omega) | rfl | simp_all) hM0 hF0 t0_u, fun h2 => ⟨fun h3 => ⟨fun _ => ?_, fun h => by omega⟩, fun h => mcl hK (by unfold q_draw; (repeat' split) <;> first | (exfalso; omega) | rfl | simp_all) hM0 hF0 t0_u⟩⟩⟩
  have hd := drw_in hR.1 hR.2.1 h3 50 (A 0 3) hs.1 hs.2
  refine m_drawnStart (A := A) ⟨hM0.2.1.1, hM0.2.1.2.1, ⟨hR.1, hR.2.1⟩, hM0.2.1.2.2⟩ (by omega) hi.2 hM0.2.2.1 hs.1 hs.2 (fun τ t1 t2 => ?_)
  have e10 : τ 35 10 = A 0 2 := by rw [t1 35 10 (by simp) (by simp)]; exact hM0.2.1.2.1
  rw [e10, show A 0 2 + 1 - 1 = A 0 2 by omega, ups_s]
  refine ⟨hR.1, by omega, by omega, by omega, hR.1, by omega, mcl hK (show q_draw A = ((drw A 50 (A 0 3)).1, addS (ups A 0 3 (drw A 50 (A 0 3)).2) (drw A 50 (A 0 3)).1) by unfold q_draw; rw [if_neg (by omega), if_neg (by omega)]) ?_ ?_ (((t0_u.tr (t1.um (by decide))).up (by decide)).up (by decide))⟩
  · have n : ∀ (c : Nat) (j : Int), c ≠ 35 → τ c j = ups σ 35 0 0 c j := fun c j h => t1 c j (by simp) (fun q => h q.1)
    have f : ∀ j : Int, j ≠ 11 → τ 35 j = ups σ 35 0 0 35 j := fun j h => t1 35 j (by simp) (by simp [h])
    obtain ⟨m1, m2, m3, m4, m5, m6, m7, m8⟩ := hM0
    refine ⟨⟨(f 6 (by decide)).trans m1.1, fun i x y => ?_⟩, ⟨(f 9 (by decide)).trans m2.1, rfl, fun r x y => ?_⟩, t2, fun k x y => (n 36 k (by decide)).trans (m4 k x y), fun k x y => ?_, ⟨(f 13 (by decide)).trans m6.1, fun i x y => (n 42 i (by decide)).trans (m6.2 i x y)⟩, ⟨(f 16 (by decide)).trans m7.1, (f 17 (by decide)).trans m7.2⟩, fun k x y => (n 43 k (by decide)).trans (m8 k x y)⟩
    · obtain ⟨g1, g2, g3, g4⟩ := m1.2 i x y
      exact ⟨(n 39 _ (by decide)).trans g1, (n 39 _ (by decide)).trans g2, (n 39 _ (by decide)).trans g3, (n 39 _ (by decide)).trans g4⟩
    · have y : r < A 0 2 + 1 := y
      show ups τ 41 (A 0 2) (drw A 50 (A 0 3)).1 41 r = ups A 5 (A 0 2) (drw A 50 (A 0 3)).1 5 r
      by_cases hr : r = A 0 2
      · subst hr; rw [ups_s, ups_s]
      · rw [ups_f hr, ups_f hr]; exact (n 41 r (by decide)).trans (m2.2.2 r x (by omega))
    · obtain ⟨g1, g2⟩ := m5 k x y
      exact ⟨(n 37 k (by decide)).trans g1, (n 38 k (by decide)).trans g2⟩
  · have f1 := hF0.sm t1 (by simp) (by simp) (by decide) (by decide)
    exact fun k x y => f1 k x y
theorem p_clear {K : Int → St → Prop} {A σ : St} (hM : MR A σ) (hF : FM σ) (hK : EM (q_clear A).2 σ (q_clear A).1 K) : CI M_Mo_clear [vR 35] σ K := by
  apply e_Mo_clear
  have hM0 := t0_M hM
  have hF0 := t0_F hF
  rw [hM.2.1.2.1]
  refine mcl hK rfl ⟨hM0.1, ⟨hM0.2.1.1, rfl, fun r x y => ?_⟩, hM0.2.2⟩ (fun k x y => hF0 k x y) (t0_u.up (by decide))
  have y : r < 0 := y
  omega
