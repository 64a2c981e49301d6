-- the class's methods that change what stands
def UC (σ σ' : St) : Prop := ∀ c, mdl c → ∀ j, σ' c j = σ c j
def UM (σ σ' : St) : Prop := ∀ c, ¬ mdl c → ∀ j, σ' c j = σ c j
theorem UC.rf {σ : St} : UC σ σ := fun _ _ _ => rfl
theorem UC.tr {a b c : St} (h1 : UC a b) (h2 : UC b c) : UC a c := fun x hx j => (h2 x hx j).trans (h1 x hx j)
theorem UC.up {σ τ : St} {c : Nat} {j v : Int} (h : UC σ τ) (hc : ¬ mdl c) : UC σ (ups τ c j v) := fun x hx i => by
  rw [ups_c (fun e => hc (by rw [← e]; exact hx))]
  exact h x hx i
theorem Sm.uc {S : List Nat} {σ σ' : St} (h : Sm S σ σ') (hS : ∀ x ∈ S, ¬ mdl x) : UC σ σ' := fun c hc j => h c (fun q => hS c q hc) j
/-- what a call of the class leaves, and answers -/
def EC (A σ : St) (v : Int) (K : Int → St → Prop) : Prop := ∀ σ', CR A σ' → FC σ' → UC σ σ' → K v σ'
theorem ecl {K : Int → St → Prop} {σ σ' : St} {q : Int × St} {v : Int} {B : St} (hK : EC q.2 σ q.1 K) (e : q = (v, B)) (h1 : CR B σ') (h2 : FC σ') (h3 : UC σ σ') : K v σ' := by
  subst e
  exact hK σ' h1 h2 h3
theorem rdo {K : Int → St → Prop} {A σ σ' : St} {q v : Int} (hC : CR A σ) (hK : EC A σ q K) (hs : Sm scC σ σ') (hF : FC σ') (e : q = v) : K v σ' := by
  subst e
  exact hK σ' (hC.sm hs (fun x hx => Or.inl hx)) hF (hs.uc (by decide))
theorem WR0 {A σ : St} (h0 : σ 20 0 = A 0 3) (h1 : σ 20 1 = A 0 2) (h : A 0 2 = 0) : WR A σ := by
  refine ⟨h0, h1, fun r a b => by omega, fun k a b => ?_⟩
  rw [h] at b
  have : hb A 0 = 0 := rfl
  omega
-- feed
def fdb (a b c d e : Int) (k : Int) : Int := bv (if k < 4 then a else if k < 8 then b else if k < 12 then c else if k < 16 then d else e) (24 - 8 * (k % 4))
def fdA (A : St) (f : Int → Int) (k : Int) : St := fun c j => if c = 7 ∧ (A 0 4 ≤ j ∧ j < A 0 4 + k) then f (j - A 0 4) else if c = 0 ∧ j = 4 then A 0 4 + k else A c j
theorem fdA_7 {A : St} {f : Int → Int} {k j : Int} : fdA A f k 7 j = if A 0 4 ≤ j ∧ j < A 0 4 + k then f (j - A 0 4) else A 7 j := by
  unfold fdA
  by_cases h : A 0 4 ≤ j ∧ j < A 0 4 + k
  · rw [if_pos ⟨rfl, h⟩, if_pos h]
  · rw [if_neg (fun q => h q.2), if_neg (fun q => absurd q.1 (by decide)), if_neg h]
def q_feed (A : St) (a b c d e : Int) : Int × St := if 880 < A 0 4 then (-4, A) else (A 0 4 + 20, fdA A (fdb a b c d e) 20)
theorem c_feed {K : Int → St → Prop} {A σ : St} (hC : CR A σ) (hF : FC σ) (hA : OKA A) {a b c d e : Int} (hK : EC (q_feed A a b c d e).2 σ (q_feed A a b c d e).1 K) : CI M_Cs_feed [vR 0, vI a, vI b, vI c, vI d, vI e] σ K := by
  apply e_Cs_feed
  have hL := hA.2.2.2.2.1
  have ht := hC.2.2.2.2.1
  rw [ht.1]
  refine ⟨by omega, fun hle => ?_, fun hgt => ecl hK (by unfold q_feed; (repeat' split) <;> first | rfl | (exfalso; omega) | simp_all) hC hF UC.rf⟩
  have f0 : TB (A 0 4) (fun j => A 7 j) (fdb a b c d e) 0 σ := ⟨by rw [Int.add_zero]; exact ht.1, ht.2, fun d x y => by omega⟩
  have hf : ∀ (x k0 : Int), 0 ≤ k0 → k0 % 4 = 0 → (∀ q, 0 ≤ q → q < 4 → (if k0 + q < 4 then a else if k0 + q < 8 then b else if k0 + q < 12 then c else if k0 + q < 16 then d else e) = x) → ∀ q, 0 ≤ q → q < 4 → fdb a b c d e (k0 + q) = bv x (24 - 8 * q) := fun x k0 h0 h1 h2 q x0 x1 => by
    unfold fdb
    rw [h2 q x0 x1, show (k0 + q) % 4 = q by omega]
  refine s_write hL.1 (by omega) (by omega) f0 (hf a 0 (by omega) (by omega) (fun q x y => by rw [if_pos (by omega)])) (fun σ1 s1 f1 => ?_)
  refine s_write hL.1 (by omega) (by omega) f1 (hf b 4 (by omega) (by omega) (fun q x y => by rw [if_neg (by omega), if_pos (by omega)])) (fun σ2 s2 f2 => ?_)
  refine s_write hL.1 (by omega) (by omega) f2 (hf c 8 (by omega) (by omega) (fun q x y => by rw [if_neg (by omega), if_neg (by omega), if_pos (by omega)])) (fun σ3 s3 f3 => ?_)
  refine s_write hL.1 (by omega) (by omega) f3 (hf d 12 (by omega) (by omega) (fun q x y => by rw [if_neg (by omega), if_neg (by omega), if_neg (by omega), if_pos (by omega)])) (fun σ4 s4 f4 => ?_)
  refine s_write hL.1 (by omega) (by omega) f4 (hf e 16 (by omega) (by omega) (fun q x y => by rw [if_neg (by omega), if_neg (by omega), if_neg (by omega), if_neg (by omega)])) (fun σ5 s5 f5 => ?_)
  have s := (((s1.tr s2).tr s3).tr s4).tr s5
  have q : ∀ c, c ≠ 1 → c ≠ 2 → ∀ j, σ5 c j = σ c j := fun c h1 h2 j => s c (by simp [h1, h2]) j
  rw [f5.1, show (0 : Int) + 4 + 4 + 4 + 4 + 4 = 20 by rfl] at *
  refine ecl hK (show q_feed A a b c d e = (A 0 4 + 20, fdA A (fdb a b c d e) 20) by unfold q_feed; rw [if_neg (by omega)]) ?_ (hF.sm s (by decide) (by decide)) (s.uc (by decide))
  obtain ⟨c1, c2, c3, c4, c5, c6⟩ := hC
  refine ⟨⟨by rw [q 3 (by decide) (by decide)]; exact c1.1, fun i x y => ?_⟩, fun k x y => by rw [q 15 (by decide) (by decide)]; exact c2 k x y, ⟨?_, ?_, ?_, fun i x y => ?_, fun i x y => ?_⟩, ⟨?_, ?_, fun r x y => ?_, fun k x y => ?_⟩, ⟨?_, fun i x y => ?_⟩, ?_, ?_⟩
  · rw [q 4 (by decide) (by decide), q 5 (by decide) (by decide), q 6 (by decide) (by decide), q 7 (by decide) (by decide)]; exact c1.2 i x y
  · rw [q 16 (by decide) (by decide)]; exact c3.1
  · rw [q 16 (by decide) (by decide)]; exact c3.2.1
  · rw [q 16 (by decide) (by decide)]; exact c3.2.2.1
  · rw [q 17 (by decide) (by decide)]; exact c3.2.2.2.1 i x y
  · rw [show lc 16 = 35 from rfl, q 35 (by decide) (by decide)]; exact c3.2.2.2.2 i x y
  · rw [q 20 (by decide) (by decide)]; exact c4.1
  · rw [q 20 (by decide) (by decide)]; exact c4.2.1
  · rw [q 21 (by decide) (by decide), q 25 (by decide) (by decide)]; exact c4.2.2.1 r x y
  · rw [q 22 (by decide) (by decide), q 23 (by decide) (by decide), q 24 (by decide) (by decide)]; exact c4.2.2.2 k x y
  · rw [f5.1]; rfl
  · have y : i < A 0 4 + 20 := y
    rw [fdA_7]
    by_cases hi : i < A 0 4
    · rw [if_neg (by omega)]; exact f5.2.1 i x hi
    · rw [if_pos (by omega)]
      have := f5.2.2 (i - A 0 4) (by omega) (by omega)
      rwa [show A 0 4 + (i - A 0 4) = i by omega] at this
  · rw [q 8 (by decide) (by decide)]; exact c6.1
  · rw [q 8 (by decide) (by decide)]; exact c6.2
theorem feed_ok {A : St} (hA : OKA A) {a b c d e : Int} : OKA (q_feed A a b c d e).2 := by
  unfold q_feed
  split
  · exact hA
  · obtain ⟨a1, a2, a3, a4, a5, a6⟩ := hA
    exact ⟨a1, a2, a3, a4, (by show 0 ≤ A 0 4 + 20 ∧ A 0 4 + 20 ≤ 900; omega), a6⟩
-- terms
def q_terms (A : St) (x y : Int) : Int × St := if x < 0 ∨ 5 ≤ x then (-2, A) else if y < leastq x ∨ greatq x < y then (-3, A) else (A 6 x, if x = 4 then ups (ups A 6 x y) 0 3 y else ups A 6 x y)
theorem c_terms {K : Int → St → Prop} {A σ : St} (hC : CR A σ) (hF : FC σ) {x y : Int} (hK : EC (q_terms A x y).2 σ (q_terms A x y).1 K) : CI M_Cs_terms [vR 0, vI x, vI y] σ K := by
  apply e_Cs_terms
  refine s_has (fun h0 h1 => ⟨fun _ => ?_, fun h => by omega⟩) (fun h => ⟨fun h => absurd rfl h, fun _ => ecl hK (by unfold q_terms; (repeat' split) <;> first | rfl | (exfalso; omega) | simp_all) hC hF UC.rf⟩)
  refine s_allows (fun _ _ h2 h3 => ⟨fun _ => ?_, fun h => by omega⟩) (fun h => ⟨fun h => absurd rfl h, fun _ => ecl hK (show q_terms A x y = (-3, A) by unfold q_terms; rw [if_neg (by omega), if_pos (by omega)]) hC hF UC.rf⟩)
  refine v_of hC.2.1 h0 h1 (s_tell h0 h1 ?_)
  have hT : TR (ups A 6 x y) (ups σ 15 x y) := fun k a b => by
    by_cases hk : k = x
    · subst hk; rw [ups_s, ups_s]
    · rw [ups_f hk, ups_f hk]; exact hC.2.1 k a b
  have e : q_terms A x y = (A 6 x, if x = 4 then ups (ups A 6 x y) 0 3 y else ups A 6 x y) := by unfold q_terms; rw [if_neg (by omega), if_neg (by omega)]
  refine ⟨fun h => ecl (B := ups A 6 x y) hK (by rw [e, if_neg h]) ⟨hC.1, hT, hC.2.2⟩ (hF.sm (Sm.rf.up (S := [15]) (by decide)) (by decide) (by decide)) (UC.rf.up (by decide)), fun h => ecl (B := ups (ups A 6 x y) 0 3 y) hK (by rw [e, if_pos h]) ⟨hC.1, fun k a b => hT k a b, hC.2.2.1, ?_, hC.2.2.2.2⟩ (hF.sm ((Sm.rf.up (S := [15, 20]) (by decide)).up (by decide)) (by decide) (by decide)) ((UC.rf.up (by decide)).up (by decide))⟩
  have hW := hC.2.2.2.1
  exact ⟨rfl, hW.2.1, hW.2.2⟩
theorem terms_ok {A : St} (hA : OKA A) {x y : Int} : OKA (q_terms A x y).2 := by
  unfold q_terms
  split
  · exact hA
  · split
    · exact hA
    · next h1 h2 =>
      obtain ⟨a1, a2, a3, a4, a5, a6⟩ := hA
      have hx : x = 0 ∨ x = 1 ∨ x = 2 ∨ x = 3 ∨ x = 4 := by omega
      have key : ∀ B : St, (∀ k, B 6 k = ups A 6 x y 6 k) → ((1 ≤ B 6 0 ∧ B 6 0 ≤ 9999999) ∧ (1 ≤ B 6 1 ∧ B 6 1 ≤ 500) ∧ (0 ≤ B 6 2 ∧ B 6 2 ≤ 9) ∧ (0 ≤ B 6 3 ∧ B 6 3 ≤ 1) ∧ (0 ≤ B 6 4 ∧ B 6 4 ≤ 1000003)) := by
        intro B hB
        rw [hB, hB, hB, hB, hB]
        rcases hx with h | h | h | h | h <;> subst h <;> simp [leastq, greatq] at h2 <;> simp [ups] <;> omega
      split
      · next h4 =>
        subst h4
        simp [leastq, greatq] at h2
        exact ⟨a1, a2, a3, (by show 0 ≤ y ∧ y ≤ 1000003; omega), a5, key _ (fun k => rfl)⟩
      · exact ⟨a1, a2, a3, a4, a5, key _ (fun k => rfl)⟩
-- add, post
def plcq (A : St) (a v : Int) : Int := fI (fun i => decide (A 1 i = a ∧ A 2 i = v)) (A 0 0)
def q_add (A : St) (a v b : Int) : Int × St := if a < 0 ∨ 99 < a ∨ v < 0 ∨ 9999 < v ∨ b < -99999 ∨ 99999 < b then (-3, A) else if A 0 0 = 48 then (-4, A) else if 0 < A 0 2 ∨ plcq A a v ≠ -1 then (-5, A) else (A 0 0, addI A a v b)
theorem s_isBook {K : Int → St → Prop} {σ : St} {x : Int} (h1 : -99999 ≤ x → x ≤ 99999 → K 1 σ) (h0 : (x < -99999 ∨ 99999 < x) → K 0 σ) : CI M_Cs_isBook [vI x] σ K := by
  apply e_Cs_isBook
  exact ⟨fun h => h0 (by omega), fun h => ⟨fun h2 => h0 (by omega), fun h2 => h1 (by omega) (by omega)⟩⟩
/-- the ledger has changed and no run stands: the layout is laid anew -/
theorem CR.laid {A B σ τ σ' : St} {v : Int} (hC : CR A σ) (hs : Sm [3, 4, 5, 6, 7] σ τ) (hs2 : ∀ c j, c ≠ 16 → c ≠ 17 → c ≠ 35 → σ' c j = τ c j) (hL : LR 3 B τ) (hY : YR 16 B v σ') (hR : A 0 2 = 0) (h01 : B 0 1 = v) (h02 : B 0 2 = A 0 2) (h03 : B 0 3 = A 0 3) (h04 : B 0 4 = A 0 4) (h05 : B 0 5 = A 0 5) (h06 : B 0 6 = A 0 6) (h6 : ∀ k, B 6 k = A 6 k) (h7 : ∀ k, B 7 k = A 7 k) : CR B σ' := by
  have q : ∀ c, (c < 3 ∨ 7 < c) → c ≠ 16 → c ≠ 17 → c ≠ 35 → ∀ j, σ' c j = σ c j := fun c h h1 h2 h3 j => (hs2 c j h1 h2 h3).trans (hs c (by simp; omega) j)
  obtain ⟨c1, c2, c3, c4, c5, c6⟩ := hC
  refine ⟨⟨by rw [hs2 3 4 (by decide) (by decide) (by decide)]; exact hL.1, fun i a b => ?_⟩, fun k a b => by rw [q 15 (by decide) (by decide) (by decide) (by decide), h6]; exact c2 k a b, by rw [h01]; exact hY, WR0 ?_ ?_ ?_, ⟨?_, fun i a b => ?_⟩, ?_, ?_⟩
  · rw [hs2 (3 + 1) i (by decide) (by decide) (by decide), hs2 (3 + 2) i (by decide) (by decide) (by decide), hs2 (3 + 3) i (by decide) (by decide) (by decide), hs2 (3 + 4) i (by decide) (by decide) (by decide)]; exact hL.2 i a b
  · rw [q 20 (by decide) (by decide) (by decide) (by decide), h03]; exact c4.1
  · rw [q 20 (by decide) (by decide) (by decide) (by decide), h02]; exact c4.2.1
  · rw [h02]; exact hR
  · rw [q 1 (by decide) (by decide) (by decide) (by decide), h04]; exact c5.1
  · rw [q 2 (by decide) (by decide) (by decide) (by decide), h7]; rw [h04] at b; exact c5.2 i a b
  · rw [q 8 (by decide) (by decide) (by decide) (by decide), h05]; exact c6.1
  · rw [q 8 (by decide) (by decide) (by decide) (by decide), h06]; exact c6.2
theorem laid_sm {τ σ' : St} (hs2 : ∀ c j, c ≠ 16 → c ≠ 17 → c ≠ 35 → σ' c j = τ c j) : Sm [16, 17, 35] τ σ' := fun c hc j => hs2 c j (fun h => hc (by simp [h])) (fun h => hc (by simp [h])) (fun h => hc (by simp [h]))
theorem c_add {K : Int → St → Prop} {A σ : St} (hC : CR A σ) (hF : FC σ) (hA : OKA A) {a v b : Int} (hK : EC (q_add A a v b).2 σ (q_add A a v b).1 K) : CI M_Cs_add [vR 0, vI a, vI v, vI b] σ K := by
  apply e_Cs_add
  have bad : (a < 0 ∨ 99 < a ∨ v < 0 ∨ 9999 < v ∨ b < -99999 ∨ 99999 < b) → K (-3) σ := fun h => ecl hK (show q_add A a v b = (-3, A) by unfold q_add; rw [if_pos h]) hC hF UC.rf
  have h48 := hA.1.2.1
  have h0 := hA.1.1
  refine ⟨fun h => bad (by omega), fun h1 => ⟨fun h => bad (by omega), fun h2 => ⟨fun h => bad (by omega), fun h3 => ⟨fun h => bad (by omega), fun h4 => s_isBook (fun h5 h6 => ⟨fun _ => ?_, fun h => by omega⟩) (fun h => ⟨fun h => absurd rfl h, fun _ => bad (by omega)⟩)⟩⟩⟩⟩
  refine s_isFull_3 hC.1 (fun h => ⟨fun h => by omega, fun _ => ecl hK (show q_add A a v b = (-4, A) by unfold q_add; rw [if_neg (by omega), if_pos (by omega)]) hC hF UC.rf⟩) (fun hn => ⟨fun _ => s_indexOf_3 hC.1 hA.1 ?_, fun h => absurd rfl h⟩)
  have no : (0 < A 0 2 ∨ plcq A a v ≠ -1) → K (-5) σ := fun h => ecl hK (show q_add A a v b = (-5, A) by unfold q_add; rw [if_neg (by omega), if_neg (by omega), if_pos h]) hC hF UC.rf
  rw [show fI (fun i => decide (A 1 i = a ∧ A 2 i = v)) (A 0 0) = plcq A a v from rfl, hC.2.2.2.1.2.1]
  have hR0 := hA.2.2.1.1
  refine ⟨fun h => no (Or.inr h), fun hp => ⟨fun hR => s_append_3 hC.1 h0 hn (fun σ1 s1 l1 => ?_), fun h => no (Or.inl (by omega))⟩⟩
  have okL := addI_okL hA.1 hn (a := a) (v := v) (b := b) (by omega) (by omega) (by omega) (by omega) (by omega) (by omega)
  rw [s1 16 (by decide), hC.2.2.1.1]
  refine s_lay_16 l1 okL (fun σ2 s2 y2 => ?_)
  rw [s2 3 4 (by decide) (by decide) (by decide), l1.1]
  refine ⟨by show inR (A 0 0 + 1 - 1); omega, ecl hK (v := A 0 0 + 1 - 1) (show q_add A a v b = (A 0 0 + 1 - 1, addI A a v b) by unfold q_add; rw [if_neg (by omega), if_neg (by omega), if_neg (by omega), show A 0 0 + 1 - 1 = A 0 0 by omega]) (hC.laid s1 s2 l1 y2 (by omega) rfl rfl rfl rfl rfl rfl (fun _ => rfl) (fun _ => rfl)) ((hF.sm s1 (by decide) (by decide)).sm (laid_sm s2) (by decide) (by decide)) ((s1.uc (by decide)).tr ((laid_sm s2).uc (by decide)))⟩
theorem add_ok {A : St} (hA : OKA A) {a v b : Int} : OKA (q_add A a v b).2 := by
  unfold q_add
  split
  · exact hA
  · split
    · exact hA
    · split
      · exact hA
      · next h1 h2 h3 =>
        have h48 := hA.1.2.1
        exact ⟨addI_okL hA.1 (by omega) (by omega) (by omega) (by omega) (by omega) (by omega) (by omega), hA.2⟩
def q_post (A : St) (i v : Int) : Int × St := if i < 0 ∨ A 0 0 ≤ i ∨ v < -99999 ∨ 99999 < v ∨ 0 < A 0 2 then (-10000000, A) else (A 3 i, ups (ups A 3 i v) 4 i (-1))
theorem post_okL {A : St} (hA : OKL A) {i v : Int} (v0 : -99999 ≤ v) (v1 : v ≤ 99999) : OKL (ups (ups A 3 i v) 4 i (-1)) := by
  obtain ⟨h1, h2, h3⟩ := hA
  refine ⟨h1, h2, fun j a b => ?_⟩
  have h := h3 j a b
  show 0 ≤ A 1 j ∧ A 1 j ≤ 99 ∧ 0 ≤ A 2 j ∧ A 2 j ≤ 9999 ∧ -99999 ≤ ups A 3 i v 3 j ∧ ups A 3 i v 3 j ≤ 99999 ∧ (ups A 4 i (-1) 4 j = -1 ∨ (0 ≤ ups A 4 i (-1) 4 j ∧ ups A 4 i (-1) 4 j ≤ 2 * ups A 3 i v 3 j ∧ 0 < ups A 3 i v 3 j))
  by_cases hj : j = i
  · subst hj; rw [ups_s, ups_s]; omega
  · rw [ups_f hj, ups_f hj]; exact h
theorem c_post {K : Int → St → Prop} {A σ : St} (hC : CR A σ) (hF : FC σ) (hA : OKA A) {i v : Int} (hK : EC (q_post A i v).2 σ (q_post A i v).1 K) : CI M_Cs_post [vR 0, vI i, vI v] σ K := by
  apply e_Cs_post
  have bad : (i < 0 ∨ A 0 0 ≤ i ∨ v < -99999 ∨ 99999 < v ∨ 0 < A 0 2) → K (-10000000) σ := fun h => ecl hK (show q_post A i v = (-10000000, A) by unfold q_post; rw [if_pos h]) hC hF UC.rf
  have h48 := hA.1.2.1
  have hR0 := hA.2.2.1.1
  refine s_holds_3 hC.1 (fun h0 h1 => ⟨fun h => by omega, fun _ => s_isBook (fun h5 h6 => ⟨fun h => by omega, fun _ => ?_⟩) (fun h => ⟨fun _ => bad (by omega), fun h => absurd rfl h⟩)⟩) (fun h => ⟨fun _ => bad (by omega), fun h => absurd rfl h⟩)
  rw [hC.2.2.2.1.2.1, hC.2.2.1.1, LR3.bk hC.1 h0 h1]
  refine ⟨fun hR => ⟨h0, by omega, ?_⟩, fun h => bad (by omega)⟩
  have s1 : Sm [3, 4, 5, 6, 7] σ (ups (ups σ 6 i v) 7 i (-1)) := (Sm.rf.up (by decide)).up (by decide)
  have l1 : LR 3 (ups (ups A 3 i v) 4 i (-1)) (ups (ups σ 6 i v) 7 i (-1)) := by
    refine ⟨hC.1.1, fun j a b => ?_⟩
    obtain ⟨g1, g2, g3, g4⟩ := hC.1.2 j a b
    refine ⟨g1, g2, (?_ : ups σ 6 i v 6 j = ups A 3 i v 3 j), (?_ : ups σ 7 i (-1) 7 j = ups A 4 i (-1) 4 j)⟩
    · by_cases hj : j = i
      · subst hj; rw [ups_s, ups_s]
      · rw [ups_f hj, ups_f hj]; exact g3
    · by_cases hj : j = i
      · subst hj; rw [ups_s, ups_s]
      · rw [ups_f hj, ups_f hj]; exact g4
  refine s_lay_16 l1 (post_okL hA.1 h5 h6) (fun σ2 s2 y2 => ecl hK (show q_post A i v = (A 3 i, ups (ups A 3 i v) 4 i (-1)) by unfold q_post; rw [if_neg (by omega)]) (hC.laid s1 s2 l1 y2 (by omega) rfl rfl rfl rfl rfl rfl (fun _ => rfl) (fun _ => rfl)) ((hF.sm s1 (by decide) (by decide)).sm (laid_sm s2) (by decide) (by decide)) ((s1.uc (by decide)).tr ((laid_sm s2).uc (by decide))))
theorem post_ok {A : St} (hA : OKA A) {i v : Int} : OKA (q_post A i v).2 := by
  unfold q_post
  split
  · exact hA
  · exact ⟨post_okL hA.1 (by omega) (by omega), hA.2⟩
-- audit, forget
theorem CR.au {A σ : St} (hC : CR A σ) {i v : Int} : CR (ups A 4 i v) (ups σ 7 i v) := by
  refine ⟨⟨hC.1.1, fun j a b => ?_⟩, hC.2⟩
  obtain ⟨g1, g2, g3, g4⟩ := hC.1.2 j a b
  refine ⟨g1, g2, g3, (?_ : ups σ 7 i v 7 j = ups A 4 i v 4 j)⟩
  by_cases hj : j = i
  · subst hj; rw [ups_s, ups_s]
  · rw [ups_f hj, ups_f hj]; exact g4
theorem au_ok {A : St} (hA : OKA A) {i v : Int} (hv : v = -1 ∨ (0 ≤ v ∧ v ≤ 2 * A 3 i ∧ 0 < A 3 i)) : OKA (ups A 4 i v) := by
  obtain ⟨⟨h1, h2, h3⟩, hr⟩ := hA
  refine ⟨⟨h1, h2, fun j a b => ?_⟩, hr⟩
  have h := h3 j a b
  show 0 ≤ A 1 j ∧ A 1 j ≤ 99 ∧ 0 ≤ A 2 j ∧ A 2 j ≤ 9999 ∧ -99999 ≤ A 3 j ∧ A 3 j ≤ 99999 ∧ (ups A 4 i v 4 j = -1 ∨ (0 ≤ ups A 4 i v 4 j ∧ ups A 4 i v 4 j ≤ 2 * A 3 j ∧ 0 < A 3 j))
  by_cases hj : j = i
  · subst hj; rw [ups_s]; omega
  · rw [ups_f hj]; exact h
def q_audit (A : St) (i v : Int) : Int × St := if i < 0 ∨ A 0 0 ≤ i then (-2, A) else if v < 0 ∨ 2 * A 3 i < v then (-3, A) else if co A i = 0 then (-5, A) else (A 4 i, ups A 4 i v)
theorem c_audit {K : Int → St → Prop} {A σ : St} (hC : CR A σ) (hF : FC σ) (hA : OKA A) {i v : Int} (hK : EC (q_audit A i v).2 σ (q_audit A i v).1 K) : CI M_Cs_audit [vR 0, vI i, vI v] σ K := by
  apply e_Cs_audit
  have h48 := hA.1.2.1
  refine s_holds_3 hC.1 (fun h0 h1 => ⟨fun _ => s_mayBeWorth_3 hC.1 hA.1 (fun _ _ h2 h3 => ⟨fun _ => v_coinsOf_3 hC.1 hA.1 h0 h1 ?_, fun h => by omega⟩) (fun h => ⟨fun h => absurd rfl h, fun _ => ecl hK (show q_audit A i v = (-3, A) by unfold q_audit; rw [if_neg (by omega), if_pos (by omega)]) hC hF UC.rf⟩), fun h => by omega⟩) (fun h => ⟨fun h => absurd rfl h, fun _ => ecl hK (show q_audit A i v = (-2, A) by unfold q_audit; rw [if_pos (by omega)]) hC hF UC.rf⟩)
  rw [LR3.au hC.1 h0 h1]
  exact ⟨fun hc => ⟨h0, by omega, ecl hK (show q_audit A i v = (A 4 i, ups A 4 i v) by unfold q_audit; rw [if_neg (by omega), if_neg (by omega), if_neg hc]) hC.au (hF.sm (Sm.rf.up (S := [7]) (by decide)) (by decide) (by decide)) (UC.rf.up (by decide))⟩, fun hc => ecl hK (show q_audit A i v = (-5, A) by unfold q_audit; rw [if_neg (by omega), if_neg (by omega), if_pos hc]) hC hF UC.rf⟩
theorem audit_ok {A : St} (hA : OKA A) {i v : Int} : OKA (q_audit A i v).2 := by
  unfold q_audit
  split
  · exact hA
  · split
    · exact hA
    · split
      · exact hA
      · next h1 h2 h3 =>
        refine au_ok hA (Or.inr ⟨by omega, by omega, ?_⟩)
        unfold co at h3
        split at h3
        · assumption
        · omega
def q_forget (A : St) (i : Int) : Int × St := if i < 0 ∨ A 0 0 ≤ i then (-2, A) else (A 4 i, ups A 4 i (-1))
theorem c_forget {K : Int → St → Prop} {A σ : St} (hC : CR A σ) (hF : FC σ) (hA : OKA A) {i : Int} (hK : EC (q_forget A i).2 σ (q_forget A i).1 K) : CI M_Cs_forget [vR 0, vI i] σ K := by
  apply e_Cs_forget
  have h48 := hA.1.2.1
  refine s_holds_3 hC.1 (fun h0 h1 => ⟨fun _ => ?_, fun h => by omega⟩) (fun h => ⟨fun h => absurd rfl h, fun _ => ecl hK (show q_forget A i = (-2, A) by unfold q_forget; rw [if_pos (by omega)]) hC hF UC.rf⟩)
  rw [LR3.au hC.1 h0 h1]
  exact ⟨h0, by omega, ecl hK (show q_forget A i = (A 4 i, ups A 4 i (-1)) by unfold q_forget; rw [if_neg (by omega)]) hC.au (hF.sm (Sm.rf.up (S := [7]) (by decide)) (by decide) (by decide)) (UC.rf.up (by decide))⟩
theorem forget_ok {A : St} (hA : OKA A) {i : Int} : OKA (q_forget A i).2 := by
  unfold q_forget
  split
  · exact hA
  · exact au_ok hA (Or.inl rfl)
-- interval, plan
theorem CR.iv {A σ σ' : St} {v : Int} (hC : CR A σ) (hs2 : ∀ c j, c ≠ 16 → c ≠ 17 → c ≠ 35 → σ' c j = σ c j) (hY : YR 16 A v σ') (hR : A 0 2 = 0) : CR (ups A 0 1 v) σ' := hC.laid Sm.rf hs2 (B := ups A 0 1 v) hC.1 hY hR rfl rfl rfl rfl rfl rfl (fun _ => rfl) (fun _ => rfl)
theorem iv_ok {A : St} (hA : OKA A) (hR : A 0 2 = 0) {v : Int} (h0 : 1 ≤ v) (h1 : v ≤ 4799952) : OKA (ups A 0 1 v) := by
  obtain ⟨a1, a2, a3, a4, a5, a6⟩ := hA
  refine ⟨a1, (by show 0 ≤ v ∧ v ≤ 4799952; omega), ⟨a3.1, a3.2.1, fun h => by show 0 < v; omega, fun r a b => ?_⟩, a4, a5, a6⟩
  have b : r < A 0 2 := b
  omega
def q_interval (A : St) (v : Int) : Int × St := if v < 1 ∨ 99999 < v then (-3, A) else if 0 < A 0 2 then (-5, A) else (cI (ce A v) (A 0 0), ups A 0 1 v)
theorem c_interval {K : Int → St → Prop} {A σ : St} (hC : CR A σ) (hF : FC σ) (hA : OKA A) {v : Int} (hK : EC (q_interval A v).2 σ (q_interval A v).1 K) : CI M_Cs_interval [vR 0, vI v] σ K := by
  apply e_Cs_interval
  have hR0 := hA.2.2.1.1
  rw [hC.2.2.2.1.2.1]
  refine ⟨fun h => ecl hK (by unfold q_interval; (repeat' split) <;> first | rfl | (exfalso; omega) | simp_all) hC hF UC.rf, fun h1 => ⟨fun h2 => ⟨fun hR => s_lay_16 hC.1 hA.1 (fun σ2 s2 y2 => ?_), fun hR => ecl hK (by unfold q_interval; (repeat' split) <;> first | rfl | (exfalso; omega) | simp_all) hC hF UC.rf⟩, fun h => ecl hK (by unfold q_interval; (repeat' split) <;> first | rfl | (exfalso; omega) | simp_all) hC hF UC.rf⟩⟩
  rw [y2.2.2.1]
  exact ecl hK (show q_interval A v = (cI (ce A v) (A 0 0), ups A 0 1 v) by unfold q_interval; rw [if_neg (by omega), if_neg (by omega)]) (hC.iv s2 y2 (by omega)) (hF.sm (laid_sm s2) (by decide) (by decide)) ((laid_sm s2).uc (by decide))
theorem interval_ok {A : St} (hA : OKA A) {v : Int} : OKA (q_interval A v).2 := by
  have hR0 := hA.2.2.1.1
  unfold q_interval
  split
  · exact hA
  · split
    · exact hA
    · exact iv_ok hA (by omega) (by omega) (by omega)
theorem SZ_in (c t e r : Int) : SZ c t e r = -1 ∨ (1 ≤ SZ c t e r ∧ SZ c t e r ≤ 400) := by
  unfold SZ
  rcases fI_spec (fun i => szb c t e r (i + 1)) (n := 400) (by omega) with ⟨h, _⟩ | ⟨a, b, _⟩
  · rw [if_pos h]; exact Or.inl rfl
  · rw [if_neg (by omega)]; omega
def q_plan (A : St) : Int × St := if SZ (al A) (A 6 0) (A 6 2) (A 6 1) = -1 then (-4, A) else if al A = 0 ∨ 0 < A 0 2 then (-5, A) else (SZ (al A) (A 6 0) (A 6 2) (A 6 1), ups A 0 1 (if 1 < al A / SZ (al A) (A 6 0) (A 6 2) (A 6 1) then al A / SZ (al A) (A 6 0) (A 6 2) (A 6 1) else 1))
theorem c_plan {K : Int → St → Prop} {A σ : St} (hC : CR A σ) (hF : FC σ) (hA : OKA A) (hK : EC (q_plan A).2 σ (q_plan A).1 K) : CI M_Cs_plan [vR 0] σ K := by
  apply e_Cs_plan
  have hR0 := hA.2.2.1.1
  have ha := al_in hA.1
  have ht := hA.2.2.2.2.2
  refine s_allCoins hC.1 hA.1 (v_of hC.2.1 (by omega) (by omega) (v_of hC.2.1 (by omega) (by omega) (v_of hC.2.1 (by omega) (by omega) (v_leastN ha.1 ha.2 ht.2.2.1.1 ht.2.2.1.2 ht.2.1.1 ht.2.1.2 ?_))))
  rw [hC.2.2.2.1.2.1]
  generalize hn : SZ (al A) (A 6 0) (A 6 2) (A 6 1) = n
  have hsz := SZ_in (al A) (A 6 0) (A 6 2) (A 6 1)
  rw [hn] at hsz
  have hq : q_plan A = if n = -1 then (-4, A) else if al A = 0 ∨ 0 < A 0 2 then (-5, A) else (n, ups A 0 1 (if 1 < al A / n then al A / n else 1)) := by unfold q_plan; rw [hn]
  refine ⟨fun h1 => ⟨fun h => by omega, fun h2 => ⟨fun h => ecl hK (show q_plan A = (-5, A) by rw [hq, if_neg h1, if_pos (Or.inl h)]) hC hF UC.rf, fun h3 => ⟨fun hR => ⟨ha.1, by omega, s_max (s_lay_16 hC.1 hA.1 (fun σ2 s2 y2 => ?_))⟩, fun hR => ecl hK (show q_plan A = (-5, A) by rw [hq, if_neg h1, if_pos (by omega)]) hC hF UC.rf⟩⟩⟩, fun h => ecl hK (show q_plan A = (-4, A) by rw [hq, if_pos h]) hC hF UC.rf⟩
  exact ecl hK (show q_plan A = (n, ups A 0 1 (if 1 < al A / n then al A / n else 1)) by rw [hq, if_neg h1, if_neg (by omega)]) (hC.iv s2 y2 (by omega)) (hF.sm (laid_sm s2) (by decide) (by decide)) ((laid_sm s2).uc (by decide))
theorem plan_ok {A : St} (hA : OKA A) : OKA (q_plan A).2 := by
  have hR0 := hA.2.2.1.1
  have ha := al_in hA.1
  have hsz := SZ_in (al A) (A 6 0) (A 6 2) (A 6 1)
  unfold q_plan
  generalize SZ (al A) (A 6 0) (A 6 2) (A 6 1) = n at hsz
  split
  · exact hA
  · split
    · exact hA
    · have := q_div_le ha.1 (show 0 < n by omega)
      refine iv_ok hA (by omega) ?_ ?_
      · split <;> omega
      · split <;> omega
-- draw, clear
def q_draw (A : St) : Int × St := if A 0 1 = 0 then (-5, A) else if 5 ≤ A 0 2 ∨ A 0 1 ≤ A 0 2 then (-4, A) else ((drw A 50 (A 0 3)).1, addS (ups A 0 3 (drw A 50 (A 0 3)).2) (drw A 50 (A 0 3)).1)
theorem CR.s {A σ τ : St} {s : Int} (hC : CR A σ) (hs : ∀ c j, ¬ (c = 20 ∧ j = 0) → τ c j = σ c j) (h0 : τ 20 0 = s) : CR (ups A 0 3 s) τ := by
  obtain ⟨c1, c2, c3, c4, c5, c6⟩ := hC
  refine ⟨⟨by rw [hs 3 4 (by omega)]; exact c1.1, fun i x y => ?_⟩, fun k x y => by rw [hs 15 k (by omega)]; exact c2 k x y, ⟨?_, ?_, ?_, fun i x y => ?_, fun i x y => ?_⟩, ⟨?_, ?_, fun r x y => ?_, fun k x y => ?_⟩, ⟨?_, fun i x y => ?_⟩, ?_, ?_⟩
  · rw [hs (3 + 1) i (by omega), hs (3 + 2) i (by omega), hs (3 + 3) i (by omega), hs (3 + 4) i (by omega)]; exact c1.2 i x y
  · rw [hs 16 0 (by omega)]; exact c3.1
  · rw [hs 16 1 (by omega)]; exact c3.2.1
  · rw [hs 16 2 (by omega)]; exact c3.2.2.1
  · rw [hs (16 + 1) i (by omega)]; exact c3.2.2.2.1 i x y
  · rw [show lc 16 = 35 from rfl, hs 35 i (by omega)]; exact c3.2.2.2.2 i x y
  · rw [h0]; rfl
  · rw [hs 20 1 (by omega)]; exact c4.2.1
  · rw [hs 21 r (by omega), hs 25 r (by omega)]; exact c4.2.2.1 r x y
  · rw [hs 22 k (by omega), hs 23 k (by omega), hs 24 k (by omega)]; exact c4.2.2.2 k x y
  · rw [hs 1 1 (by omega)]; exact c5.1
  · rw [hs 2 i (by omega)]; exact c5.2 i x y
  · rw [hs 8 1 (by omega)]; exact c6.1
  · rw [hs 8 2 (by omega)]; exact c6.2
theorem s_ok {A : St} (hA : OKA A) {s : Int} (h0 : 0 ≤ s) (h1 : s ≤ 1000003) : OKA (ups A 0 3 s) := ⟨hA.1, hA.2.1, hA.2.2.1, ⟨h0, h1⟩, hA.2.2.2.2⟩
theorem c_draw {K : Int → St → Prop} {A σ : St} (hC : CR A σ) (hF : FC σ) (hA : OKA A) (hK : EC (q_draw A).2 σ (q_draw A).1 K) : CI M_Cs_draw [vR 0] σ K := by
  apply e_Cs_draw
  have hR := hA.2.2.1
  have hs := hA.2.2.2.1
  rw [hC.2.2.1.1, hC.2.2.2.1.2.1]
  refine ⟨fun h1 => ⟨fun h => ecl hK (by unfold q_draw; (repeat' split) <;> first | rfl | (exfalso; omega) | simp_all) hC hF UC.rf, fun h2 => ⟨fun h3 => ?_, fun h => ecl hK (by unfold q_draw; (repeat' split) <;> first | rfl | (exfalso; omega) | simp_all) hC hF UC.rf⟩⟩, fun h => ecl hK (by unfold q_draw; (repeat' split) <;> first | rfl | (exfalso; omega) | simp_all) hC hF UC.rf⟩
  have hd := drw_in hR.1 hR.2.1 h3 50 (A 0 3) hs.1 hs.2
  have hW : WS A σ := ⟨hC.2.2.1.1, hC.2.2.2.1.2.1, ⟨hR.1, hR.2.1⟩, fun r a b => (hC.2.2.2.1.2.2.1 r a b).1⟩
  refine s_drawStart hW (by omega) hA.2.1.2 hC.2.2.2.1.1 hs.1 hs.2 (fun τ t1 t2 => ?_)
  have hsm : Sm [20] σ τ := fun c hc j => t1 c j (fun q => hc (by simp [q.1]))
  refine s_follow (hC.s t1 t2) (s_ok hA hd.2.2.1 hd.2.2.2) (show A 0 2 < 5 by omega) hd.1 hd.2.1 (fun σ' s1 c1 => ?_)
  exact ecl hK (show q_draw A = ((drw A 50 (A 0 3)).1, addS (ups A 0 3 (drw A 50 (A 0 3)).2) (drw A 50 (A 0 3)).1) by unfold q_draw; rw [if_neg h1, if_neg (by omega)]) c1 ((hF.sm hsm (by decide) (by decide)).sm s1 (by decide) (by decide)) ((hsm.uc (by decide)).tr (s1.uc (by decide)))
theorem draw_ok {A : St} (hA : OKA A) : OKA (q_draw A).2 := by
  have hR := hA.2.2.1
  have hs := hA.2.2.2.1
  unfold q_draw
  split
  · exact hA
  · split
    · exact hA
    · have hd := drw_in hR.1 hR.2.1 (show A 0 2 < A 0 1 by omega) 50 (A 0 3) hs.1 hs.2
      exact addS_ok (s_ok hA hd.2.2.1 hd.2.2.2) (show A 0 2 < 5 by omega) hd.1 hd.2.1
def q_clear (A : St) : Int × St := (A 0 2, ups A 0 2 0)
theorem c_clear {K : Int → St → Prop} {A σ : St} (hC : CR A σ) (hF : FC σ) (hK : EC (q_clear A).2 σ (q_clear A).1 K) : CI M_Cs_clear [vR 0] σ K := by
  apply e_Cs_clear
  apply e_Wa_forgetRuns
  rw [hC.2.2.2.1.2.1]
  exact ecl hK rfl ⟨hC.1, hC.2.1, hC.2.2.1, WR0 hC.2.2.2.1.1 rfl rfl, hC.2.2.2.2⟩ (hF.sm (Sm.rf.up (S := [20]) (by decide)) (by decide) (by decide)) (UC.rf.up (by decide))
theorem clear_ok {A : St} (hA : OKA A) : OKA (q_clear A).2 := by
  obtain ⟨a1, a2, a3, a4, a5, a6⟩ := hA
  refine ⟨a1, a2, ⟨Int.le_refl _, by show (0 : Int) ≤ 5; omega, fun h => absurd h (by show ¬ (0 : Int) < 0; omega), fun r a b => ?_⟩, a4, a5, a6⟩
  have b : r < 0 := b
  omega

