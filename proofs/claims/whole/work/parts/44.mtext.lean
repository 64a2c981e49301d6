-- the model reads a text
def OKB (A : St) : Prop := ∀ i, 0 ≤ i → i < A 0 4 → -128 ≤ A 7 i ∧ A 7 i ≤ 127
def RN (A : St) (n p : Int) (s : Int × Int) (σ : St) : Prop := ((∀ i, 0 ≤ i → i < A 0 4 → σ 42 i = A 7 i) ∧ ∀ k, 0 ≤ k → k < 9 → σ 43 k = wrq k) ∧ σ 35 14 = n ∧ σ 35 15 = p ∧ σ 35 16 = s.1 ∧ σ 35 17 = s.2
theorem RN.mv {A : St} {n p p' : Int} {s : Int × Int} {σ : St} (h : RN A n p s σ) : RN A n p' s (ups σ 35 15 p') := ⟨h.1, h.2.1, rfl, h.2.2.2⟩
def LMr (T σ : St) : Prop := σ 35 7 = T 0 0 ∧ ∀ i, 0 ≤ i → i < T 0 0 → σ 40 (4 * i + 0) = T 1 i ∧ σ 40 (4 * i + 1) = T 2 i ∧ σ 40 (4 * i + 2) = T 3 i ∧ σ 40 (4 * i + 3) = T 4 i
theorem LMr.sm {S : List Nat} {P : List Int} {A σ σ' : St} (h : LMr A σ) (hs : Mm S P σ σ') (h7 : (7 : Int) ∉ P) (h35 : 35 ∉ S) (h40 : 40 ∉ S) : LMr A σ' := by
  have q : ∀ j, σ' 40 j = σ 40 j := fun j => hs 40 j h40 (fun q => by simp at q)
  refine ⟨by rw [hs 35 7 h35 (fun q => h7 q.2)]; exact h.1, fun i a b => ?_⟩
  rw [q, q, q, q]
  exact h.2 i a b
theorem v_peek {K : Int → St → Prop} {A σ : St} {n p : Int} {s : Int × Int} (hS : RN A n p s σ) (hP : PN A n p) (hK : K (hr A n p) σ) : CI M_Mo_peek [vR 35] σ K := by
  apply e_Mo_peek
  obtain ⟨h1, h2, h3, h4⟩ := hS
  obtain ⟨g1, g2, g3, g4⟩ := hP
  rw [h2, h3]
  refine ⟨fun h => ?_, fun h => ⟨g3, by omega, ?_⟩⟩
  · rw [hr_end h] at hK; exact hK
  · rw [hr_at (by omega)] at hK
    rw [h1.1 p g3 (by omega)]
    exact hK
theorem s_blanks {K : St → Prop} {A σ : St} {n p : Int} {s : Int × Int} (hS : RN A n p s σ) (hP : PN A n p) (hK : ∀ σ', Mm [] [15] σ σ' → RN A n (sb A n p) s σ' → K σ') : CV M_Mo_blanks [vR 35] σ K := by
  apply e_Mo_blanks
  have key : ∀ m : Nat, ∀ q τ, PN A n q → Mm [] [15] σ τ → RN A n q s τ → sb A n q = sb A n p → (n - q).toNat = m → WM M_Mo_blanks 0 [(0, vR 35)] [] τ (QV K) := by
    have stop : ∀ q τ, Mm [] [15] σ τ → RN A n q s τ → sb A n q = sb A n p → fBl (hr A n q) = false → K τ := fun q τ h2 h3 h4 hf => hK τ h2 (by rw [← h4, show sb A n q = q from skp_no hf]; exact h3)
    intro m
    induction m with
    | zero =>
      intro q τ h1 h2 h3 h4 h5
      apply l_Mo_blanks_1
      have h12 := h1.2.2.2
      refine v_peek h3 h1 ⟨fun _ => stop q τ h2 h3 h4 (by rw [hr_end (by omega)]; rfl), fun h => ?_⟩
      rw [hr_end (by omega)] at h
      omega
    | succ m ih =>
      intro q τ h1 h2 h3 h4 h5
      apply l_Mo_blanks_1
      have h11 := h1.1
      have h10 := h1.2.1
      have h12 := h1.2.2
      refine v_peek h3 h1 ⟨fun hne => stop q τ h2 h3 h4 (by unfold fBl; simp [hne]), fun he => ?_⟩
      rw [h3.2.2.1]
      refine ⟨by omega, ih (q + 1) _ ⟨h11, h10, by omega, by omega⟩ (h2.fd (by decide)) h3.mv ?_ (by omega)⟩
      rw [← h4]
      exact (skp_yes (by omega) (by unfold fBl; simp [he])).symm
  exact key _ p σ hP Mm.rf hS rfl rfl
theorem s_fails {K : St → Prop} {A σ : St} {n p e l : Int} {s : Int × Int} (hS : RN A n p s σ) (he : e ≠ 0) (hK : ∀ σ', Mm [] [16, 17] σ σ' → RN A n p (fq s e l) σ' → K σ') : CV M_Mo_fails [vR 35, vI e, vI l] σ K := by
  apply e_Mo_fails
  rw [hS.2.2.2.1]
  refine ⟨fun h => hK _ ((Mm.rf.fd (by decide)).fd (by decide)) ?_, fun h => hK σ Mm.rf (by rw [fq_n h]; exact hS)⟩
  rw [fq_e h he]
  exact ⟨hS.1, hS.2.1, hS.2.2.1, rfl, rfl⟩
theorem v_isLetter {K : Int → St → Prop} {A σ : St} {n p : Int} {s : Int × Int} (hS : RN A n p s σ) (hP : PN A n p) (hK : K (bi (fLe (hr A n p))) σ) : CI M_Mo_isLetter [vR 35] σ K := by
  apply e_Mo_isLetter
  refine v_peek hS hP (s_isIn (fun a b => ⟨Or.inr rfl, ?_⟩) (fun h => ⟨Or.inl rfl, ?_⟩))
  · rw [bi_t (by unfold fLe; simp; omega)] at hK; exact hK
  · rw [bi_f (by unfold fLe; simp; omega)] at hK; exact hK
theorem v_isDigit {K : Int → St → Prop} {A σ : St} {n p : Int} {s : Int × Int} (hS : RN A n p s σ) (hP : PN A n p) (hK : K (bi (fDi (hr A n p))) σ) : CI M_Mo_isDigit [vR 35] σ K := by
  apply e_Mo_isDigit
  refine v_peek hS hP (s_isIn (fun a b => ⟨Or.inr rfl, ?_⟩) (fun h => ⟨Or.inl rfl, ?_⟩))
  · rw [bi_t (by unfold fDi; simp; omega)] at hK; exact hK
  · rw [bi_f (by unfold fDi; simp; omega)] at hK; exact hK
theorem m_number {K : Int → St → Prop} {A σ : St} {n p g : Int} {s : Int × Int} (hS : RN A n p s σ) (hP : PN A n p) (hK : ∀ σ', Mm [] [15, 16, 17] σ σ' → RN A n (nup A n p) (fq s (nue A n g p) (sb A n p)) σ' → K (nuv A n p) σ') : CI M_Mo_number [vR 35, vI g] σ K := by
  apply e_Mo_number
  refine s_blanks hS hP (fun σ1 s1 r1 => ?_)
  have hb := sb_in (A := A) hP.2.2.2
  have h900 := hP.2.1
  have hnL := hP.1
  have hp0 := hP.2.2.1
  rw [r1.2.2.1]
  generalize ho : sb A n p = o at *
  have hup : nup A n p = sd A n o := by unfold nup; rw [ho]
  have huv : nuv A n p = dvq A n o o 0 := by unfold nuv dv; rw [ho]
  have hue : nue A n g p = if sd A n o = o then 1 else if 5 < sd A n o - o ∨ g < dvq A n o o 0 then 2 else 0 := by unfold nue dv; rw [ho]
  rw [hup, huv, hue] at hK
  have key : ∀ m : Nat, ∀ q v τ, o ≤ q → q ≤ n → vok (q - o) v → Mm [] [15, 16, 17] σ τ → RN A n q s τ → sd A n q = sd A n o → dvq A n o q v = dvq A n o o 0 → (n - q).toNat = m → WM M_Mo_number 11 [(0, vR 35), (1, vI g), (2, vI o), (3, vI v)] [] τ (QI K) := by
    have over : ∀ q v τ, o ≤ q → q ≤ n → Mm [] [15, 16, 17] σ τ → RN A n q s τ → sd A n q = sd A n o → dvq A n o q v = dvq A n o o 0 → fDi (hr A n q) = false → (¬ (q = o) → (inR (q - o)) ∧ (5 < (q - o) → CV M_Mo_fails [vR 35, vI 2, vI o] τ (fun σ7 => K v σ7)) ∧ (¬ 5 < (q - o) → (v ≤ g → K v τ) ∧ (¬ v ≤ g → CV M_Mo_fails [vR 35, vI 2, vI o] τ (fun σ10 => K v σ10)))) ∧ (q = o → CV M_Mo_fails [vR 35, vI 1, vI o] τ (fun σ12 => K v σ12)) := by
      intro q v τ q0 q1 t1 t2 e1' e2' hf
      have e1 : sd A n o = q := by rw [← e1']; exact skp_no hf
      have e2 : dvq A n o o 0 = v := by rw [← e2']; exact dvq_no hf
      have hk : ∀ σ', Mm [] [15, 16, 17] σ σ' → RN A n q (fq s (if q = o then 1 else if 5 < q - o ∨ g < v then 2 else 0) o) σ' → K v σ' := fun σ' a b => by
        have := hK σ' a (by rw [e1, e2]; exact b)
        rw [e2] at this
        exact this
      have wk : ∀ σ', Mm [] [16, 17] τ σ' → Mm [] [15, 16, 17] σ σ' := fun σ' a => t1.tr (a.wk (by decide) (by decide))
      refine ⟨fun hne => ⟨by omega, fun h5 => s_fails t2 (by omega) (fun σ' a b => hk σ' (wk σ' a) ?_), fun h5 => ⟨fun hle => hk τ t1 ?_, fun hgt => s_fails t2 (by omega) (fun σ' a b => hk σ' (wk σ' a) ?_)⟩⟩, fun he => s_fails t2 (by omega) (fun σ' a b => hk σ' (wk σ' a) ?_)⟩
      · rw [if_neg hne, if_pos (Or.inl h5)]; exact b
      · rw [if_neg hne, if_neg (by omega), fq_0]; exact t2
      · rw [if_neg hne, if_pos (Or.inr (by omega))]; exact b
      · rw [if_pos he]; exact b
    intro m
    induction m with
    | zero =>
      intro q v τ h1 h2 h3 h4 h5 h6 h7 h8
      apply l_Mo_number_1
      have hP1 : PN A n q := ⟨hnL, h900, by omega, h2⟩
      have hf : fDi (hr A n q) = false := by rw [hr_end (by omega)]; rfl
      refine v_isDigit h5 hP1 ?_
      rw [hf, h5.2.2.1]
      exact ⟨fun _ => over q v τ h1 h2 h4 h5 h6 h7 hf, fun h => absurd rfl h⟩
    | succ m ih =>
      intro q v τ h1 h2 h3 h4 h5 h6 h7 h8
      apply l_Mo_number_1
      have hP1 : PN A n q := ⟨hnL, h900, by omega, h2⟩
      refine v_isDigit h5 hP1 ?_
      rw [h5.2.2.1]
      cases hd : fDi (hr A n q) with
      | false => exact ⟨fun _ => over q v τ h1 h2 h4 h5 h6 h7 hd, fun h => absurd rfl h⟩
      | true =>
        refine ⟨fun h => by simp [bi] at h, fun _ => ?_⟩
        have hd2 := hd
        unfold fDi at hd2
        simp only [decide_eq_true_eq] at hd2
        have e6 : sd A n (q + 1) = sd A n o := by rw [← h6]; exact (skp_yes (by omega) hd).symm
        have e7 := dvq_yes (A := A) (n := n) (o := o) (v := v) (show q < n by omega) hd
        have hv := vok_s (x := hr A n q) (show 0 ≤ q - o by omega) h3 (by omega) (by omega)
        rw [show q - o + 1 = q + 1 - o by omega] at hv
        rw [e7] at h7
        refine ⟨by omega, fun g5 => ⟨by omega, ?_⟩, fun g5 => ⟨by unfold vok at h3; omega, v_peek h5 hP1 ?_⟩⟩
        · rw [if_neg (by omega)] at h7 hv
          exact ih (q + 1) v _ (by omega) (by omega) hv (h4.fd (by decide)) h5.mv e6 h7 (by omega)
        · rw [if_pos (by omega)] at h7 hv
          rw [h5.2.2.1]
          exact ⟨by unfold vok at h3; omega, by unfold vok at h3; omega, by omega, ih (q + 1) _ _ (by omega) (by omega) hv (h4.fd (by decide)) h5.mv e6 h7 (by omega)⟩
  exact key _ o 0 σ1 (Int.le_refl _) hb.2 (by rw [Int.sub_self]; exact vok_0) (s1.wk (by decide) (by decide)) r1 rfl rfl rfl
theorem v_passesSign {K : Int → St → Prop} {A σ : St} {n p c : Int} {s : Int × Int} (hS : RN A n p s σ) (hP : PN A n p) (h1 : ∀ σ', Mm [] [15] σ σ' → s.1 = 0 → hr A n (sb A n p) = c → RN A n (sb A n p + 1) s σ' → K 1 σ') (h0 : ∀ σ', Mm [] [15] σ σ' → (s.1 ≠ 0 ∨ hr A n (sb A n p) ≠ c) → RN A n (sb A n p) s σ' → K 0 σ') : CI M_Mo_passesSign [vR 35, vI c] σ K := by
  apply e_Mo_passesSign
  have hb := sb_in (A := A) hP.2.2.2
  have h900 := hP.2.1
  have hnL := hP.1
  have hp0 := hP.2.2.1
  refine s_blanks hS hP (fun σ1 s1 r1 => ?_)
  rw [r1.2.2.2.1]
  refine ⟨fun h => h0 σ1 s1 (Or.inl h) r1, fun hz => v_peek r1 ⟨hnL, h900, by omega, hb.2⟩ ?_⟩
  rw [r1.2.2.1]
  exact ⟨fun h => ⟨by omega, h1 _ (s1.fd (by decide)) hz h r1.mv⟩, fun h => h0 σ1 s1 (Or.inr h) r1⟩
theorem m_isWord_4 {K : Int → St → Prop} {A σ : St} {n o p : Int} {s : Int × Int} (hS : RN A n p s σ) (hP : PN A n p) (hB : OKB A) (ho : 0 ≤ o) (hop : o ≤ p) (hK : K (bi (wdq A o p 4 wit)) σ) : CI M_Mo_isWord [vR 35, vI o, vI 0, vI 4] σ K := by
  apply e_Mo_isWord
  have h900 := hP.2.1
  have hnL := hP.1
  have hpn := hP.2.2.2
  rw [hS.2.2.1]
  refine ⟨by omega, by omega, fun hl => ?_, fun hl => ?_⟩
  · have key : ∀ i, 0 ≤ i → i ≤ 4 → (∀ j, 0 ≤ j → j < i → decide (A 7 (o + j) % 256 ≠ wit j) = false) → WM M_Mo_isWord 17 [(0, vR 35), (1, vI o), (2, vI 0), (3, vI 4), (4, vI (0 + i))] [] σ (QI K) := by
      refine up_ind (fun hf => ?_) (fun i h0 h1 ih hf => ?_)
      · apply l_Mo_isWord_1
        refine ⟨fun _ => ?_, fun h => by omega⟩
        rw [bi_t (by unfold wdq; simp only [decide_eq_true_eq]; exact ⟨by omega, fI_none (by omega) hf⟩)] at hK
        exact hK
      · apply l_Mo_isWord_1
        rw [show o + (0 + i) - 0 = o + i by omega, hS.1.1 (o + i) (by omega) (by omega), hS.1.2 (0 + i) (by omega) (by omega), show 0 + i + 1 = 0 + (i + 1) by omega]
        have hr := hB (o + i) (by omega) (by omega)
        have ew : wrq (0 + i) = wit i ∧ 97 ≤ wit i ∧ wit i ≤ 122 := by
          have hi : i = 0 ∨ i = 1 ∨ i = 2 ∨ i = 3 ∨ i = 4 := by omega
          rcases hi with h | h | h | h | h <;> subst h <;> first | (refine ⟨rfl, ?_, ?_⟩ <;> decide) | (exfalso; omega)
        rw [ew.1]
        refine ⟨fun h => by omega, fun _ => ⟨by omega, by omega, by omega, by omega, by omega, by omega, fun he => ⟨by omega, ih (fun j a b => ?_)⟩, fun hne => ?_⟩⟩
        · by_cases hj : j = i
          · subst hj; simp; omega
          · exact hf j a (by omega)
        · rw [bi_f (by unfold wdq; simp only [decide_eq_false_iff_not]; rw [fI_eq h0 h1 (by simp; omega) hf]; omega)] at hK
          exact hK
    exact key 0 (by omega) (by omega) (fun j a b => by omega)
  · rw [bi_f (by unfold wdq; simp only [decide_eq_false_iff_not]; omega)] at hK
    exact hK
theorem m_isWord_5 {K : Int → St → Prop} {A σ : St} {n o p : Int} {s : Int × Int} (hS : RN A n p s σ) (hP : PN A n p) (hB : OKB A) (ho : 0 ≤ o) (hop : o ≤ p) (hK : K (bi (wdq A o p 5 wau)) σ) : CI M_Mo_isWord [vR 35, vI o, vI 4, vI 9] σ K := by
  apply e_Mo_isWord
  have h900 := hP.2.1
  have hnL := hP.1
  have hpn := hP.2.2.2
  rw [hS.2.2.1]
  refine ⟨by omega, by omega, fun hl => ?_, fun hl => ?_⟩
  · have key : ∀ i, 0 ≤ i → i ≤ 5 → (∀ j, 0 ≤ j → j < i → decide (A 7 (o + j) % 256 ≠ wau j) = false) → WM M_Mo_isWord 17 [(0, vR 35), (1, vI o), (2, vI 4), (3, vI 9), (4, vI (4 + i))] [] σ (QI K) := by
      refine up_ind (fun hf => ?_) (fun i h0 h1 ih hf => ?_)
      · apply l_Mo_isWord_1
        refine ⟨fun _ => ?_, fun h => by omega⟩
        rw [bi_t (by unfold wdq; simp only [decide_eq_true_eq]; exact ⟨by omega, fI_none (by omega) hf⟩)] at hK
        exact hK
      · apply l_Mo_isWord_1
        rw [show o + (4 + i) - 4 = o + i by omega, hS.1.1 (o + i) (by omega) (by omega), hS.1.2 (4 + i) (by omega) (by omega), show 4 + i + 1 = 4 + (i + 1) by omega]
        have hr := hB (o + i) (by omega) (by omega)
        have ew : wrq (4 + i) = wau i ∧ 97 ≤ wau i ∧ wau i ≤ 122 := by
          have hi : i = 0 ∨ i = 1 ∨ i = 2 ∨ i = 3 ∨ i = 4 := by omega
          rcases hi with h | h | h | h | h <;> subst h <;> first | (refine ⟨rfl, ?_, ?_⟩ <;> decide) | (exfalso; omega)
        rw [ew.1]
        refine ⟨fun h => by omega, fun _ => ⟨by omega, by omega, by omega, by omega, by omega, by omega, fun he => ⟨by omega, ih (fun j a b => ?_)⟩, fun hne => ?_⟩⟩
        · by_cases hj : j = i
          · subst hj; simp; omega
          · exact hf j a (by omega)
        · rw [bi_f (by unfold wdq; simp only [decide_eq_false_iff_not]; rw [fI_eq h0 h1 (by simp; omega) hf]; omega)] at hK
          exact hK
    exact key 0 (by omega) (by omega) (fun j a b => by omega)
  · rw [bi_f (by unfold wdq; simp only [decide_eq_false_iff_not]; omega)] at hK
    exact hK
theorem v_placeIn40 {K : Int → St → Prop} {A σ : St} (hL : LMr A σ) (hA : OKL A) {x y : Int} (hK : K (plcq A x y) σ) : CI M_Mo_placeIn [vR 40, vI (A 0 0), vI x, vI y] σ K := by
  apply e_Mo_placeIn_40
  have h48 := hA.2.1
  unfold plcq at hK
  have key : ∀ i, 0 ≤ i → i ≤ A 0 0 → (∀ j, 0 ≤ j → j < i → decide (A 1 j = x ∧ A 2 j = y) = false) → WM M_Mo_placeIn 3 [(0, vR 40), (1, vI (A 0 0)), (2, vI x), (3, vI y), (4, vI i)] [] σ (QI K) := by
    refine up_ind (fun hf => ?_) (fun i h0 h1 ih hf => ?_)
    · apply l_Mo_placeIn_40_1
      refine ⟨fun _ => ?_, fun h => by omega⟩
      rw [fI_none hA.1 hf] at hK
      exact hK
    · apply l_Mo_placeIn_40_1
      obtain ⟨e1, e2, _, _⟩ := hL.2 i h0 h1
      rw [e1, e2]
      refine ⟨fun h => by omega, fun _ => ⟨by omega, by omega, by omega, by omega, fun hne => ⟨by omega, ih ?_⟩, fun he => ⟨by omega, by omega, by omega, fun hne => ⟨by omega, ih ?_⟩, fun he2 => ?_⟩⟩⟩
      · intro j a b
        by_cases hj : j = i
        · subst hj; simp [hne]
        · exact hf j a (by omega)
      · intro j a b
        by_cases hj : j = i
        · subst hj; simp [hne]
        · exact hf j a (by omega)
      · rw [fI_eq h0 h1 (by simp [he, he2]) hf] at hK
        exact hK
  exact key 0 (by omega) hA.1 (fun j a b => by omega)
def pR : List Int := [7, 15, 16, 17]
/-- what a line's words and numbers come to, ahead of its semicolon -/
def lnM (A : St) (n p : Int) (T : St) : Int × Int := if (s3q A n p).1 ≠ 0 then s3q A n p else if tkB A n p T = false then (3, p) else (0, -1)
def LNM (A : St) (n p : Int) (T : St) (σ' : St) : Prop := ((lnM A n p T).1 ≠ 0 ∧ ∃ q, PN A n q ∧ RN A n q (lnM A n p T) σ') ∨ ((lnM A n p T).1 = 0 ∧ tkB A n p T = true ∧ (s3q A n p).1 = 0 ∧ RN A n (pEq A n p) (0, -1) σ' ∧ LMr (tkT A n p T) σ')
theorem s3_live {A : St} {n p : Int} (h : (s3q A n p).1 = 0) : s3q A n p = (0, -1) ∧ (s2q A n p).1 = 0 ∧ (s1q A n p).1 = 0 := by
  have z3 := fq_z (s := s2q A n p) h
  have z2 := fq_z (s := s1q A n p) z3.1
  have z1 := fq_z (s := s0q A n p) z2.1
  have e : s3q A n p = s0q A n p := z3.2.2.trans (z2.2.2.trans z1.2.2)
  refine ⟨?_, z3.1, z2.1⟩
  rw [e]
  unfold s0q
  split
  · rfl
  · next hn =>
    have := z1.1
    unfold s0q at this
    rw [if_neg hn] at this
    exact absurd this (by show ¬ (1 : Int) = 0; omega)
theorem LMr.app {T σ : St} (h : LMr T σ) (h0 : 0 ≤ T 0 0) {a v b : Int} : LMr (addI T a v b) (ups (ups (ups (ups (ups σ 40 ((4 * T 0 0) + 0) a) 40 ((4 * T 0 0) + 1) v) 40 ((4 * T 0 0) + 2) b) 40 ((4 * T 0 0) + 3) (-1)) 35 7 (T 0 0 + 1)) := by
  refine ⟨rfl, fun i x y => ?_⟩
  have y : i < T 0 0 + 1 := y
  obtain ⟨e1, e2, e3, e4⟩ := addI_new (A := T) (a := a) (v := v) (b := b)
  refine ⟨(?_ : ups (ups (ups (ups σ 40 ((4 * T 0 0) + 0) a) 40 ((4 * T 0 0) + 1) v) 40 ((4 * T 0 0) + 2) b) 40 ((4 * T 0 0) + 3) (-1) 40 (4 * i + 0) = _), (?_ : ups (ups (ups (ups σ 40 ((4 * T 0 0) + 0) a) 40 ((4 * T 0 0) + 1) v) 40 ((4 * T 0 0) + 2) b) 40 ((4 * T 0 0) + 3) (-1) 40 (4 * i + 1) = _), (?_ : ups (ups (ups (ups σ 40 ((4 * T 0 0) + 0) a) 40 ((4 * T 0 0) + 1) v) 40 ((4 * T 0 0) + 2) b) 40 ((4 * T 0 0) + 3) (-1) 40 (4 * i + 2) = _), (?_ : ups (ups (ups (ups σ 40 ((4 * T 0 0) + 0) a) 40 ((4 * T 0 0) + 1) v) 40 ((4 * T 0 0) + 2) b) 40 ((4 * T 0 0) + 3) (-1) 40 (4 * i + 3) = _)⟩
  all_goals by_cases hi : i = T 0 0
  · subst hi; rw [ups_f (by omega), ups_f (by omega), ups_f (by omega), ups_s, e1]
  · rw [ups_f (by omega), ups_f (by omega), ups_f (by omega), ups_f (by omega), addI_old (by omega) (by decide)]; exact (h.2 i x (by omega)).1
  · subst hi; rw [ups_f (by omega), ups_f (by omega), ups_s, e2]
  · rw [ups_f (by omega), ups_f (by omega), ups_f (by omega), ups_f (by omega), addI_old (by omega) (by decide)]; exact (h.2 i x (by omega)).2.1
  · subst hi; rw [ups_f (by omega), ups_s, e3]
  · rw [ups_f (by omega), ups_f (by omega), ups_f (by omega), ups_f (by omega), addI_old (by omega) (by decide)]; exact (h.2 i x (by omega)).2.2.1
  · subst hi; rw [ups_s, e4]
  · rw [ups_f (by omega), ups_f (by omega), ups_f (by omega), ups_f (by omega), addI_old (by omega) (by decide)]; exact (h.2 i x (by omega)).2.2.2
theorem m_itemLine {K : St → Prop} {A σ : St} {n p : Int} {T : St} (hS : RN A n (sw A n p) (0, -1) σ) (hP : PN A n p) (hL : LMr T σ) (hT : OKL T) (hi : isI A n p = true) (hK : ∀ σ', Mm [40] pR σ σ' → LNM A n p T σ' → K σ') : CV M_Mo_itemLine [vR 35, vI p] σ K := by
  apply e_Mo_itemLine
  have hpos := pos_in (A := A) hP.2.2.2
  have h900 := hP.2.1
  have hnL := hP.1
  have hp0 := hP.2.2.1
  have h48 := hT.2.1
  have hT0 := hT.1
  have pn : ∀ q, p ≤ q → q ≤ n → PN A n q := fun q a b => ⟨hnL, h900, by omega, b⟩
  have e0 : s0q A n p = (0, -1) := by unfold s0q; rw [hi]; rfl
  rw [← e0] at hS
  have dead : ∀ τ q, Mm [40] pR σ τ → PN A n q → RN A n q (s3q A n p) τ → (s3q A n p).1 ≠ 0 → K τ := fun τ q t1 t2 t3 t4 => hK τ t1 (Or.inl (by
    have eF : lnM A n p T = s3q A n p := by unfold lnM; rw [if_pos t4]
    rw [eF]
    exact ⟨t4, q, t2, t3⟩))
  have cant : ∀ τ, Mm [40] pR σ τ → RN A n (pEq A n p) (0, -1) τ → (s3q A n p).1 = 0 → tkB A n p T = false → CV M_Mo_fails [vR 35, vI 3, vI p] τ (fun σ24 => K σ24) := fun τ t1 t2 t3 t4 => by
    have eF : lnM A n p T = (3, p) := by unfold lnM; rw [if_neg (by omega), if_pos t4]
    refine s_fails t2 (by omega) (fun σ2 s2 r2 => hK σ2 (t1.tr (s2.wk (by decide) (by decide))) (Or.inl ?_))
    rw [eF]
    rw [fq_e rfl (by omega)] at r2
    exact ⟨by show (3 : Int) ≠ 0; omega, _, pn _ (by omega) (by omega), r2⟩
  have eB : tkB A n p T = decide (T 0 0 < 48 ∧ plcq T (vAq A n p) (vVq A n p) = -1) := by unfold tkB; rw [if_pos hi]
  refine m_number hS (pn _ (by omega) (by omega)) (fun σ1 s1 r1 => ?_)
  have t1 : Mm [40] pR σ σ1 := s1.wk (by decide) (by decide)
  have L1 : LMr T σ1 := hL.sm s1 (by decide) (by decide) (by decide)
  have r1 : RN A n (pAq A n p) (s1q A n p) σ1 := r1
  rw [r1.2.2.2.1]
  refine ⟨fun h1 => ?_, fun h1 => ?_⟩
  · -- the first number is at fault: what follows tells nothing more
    have e2 : s2q A n p = s1q A n p := fq_n h1
    have e3 : s3q A n p = s1q A n p := (fq_n (by rw [e2]; exact h1)).trans e2
    refine v_passesSign r1 (pn _ (by omega) (by omega)) (fun σ2 s2 h _ _ => absurd h h1) (fun σ2 s2 _ r2 => ?_)
    rw [r2.2.2.2.1]
    refine ⟨fun _ => dead σ2 _ (t1.tr (s2.wk (by decide) (by decide))) (pn (sb A n (pAq A n p)) ?_ ?_) (by rw [e3]; exact r2) (by rw [e3]; exact h1), fun h => absurd h h1⟩
    · have := sb_in (A := A) (n := n) (p := pAq A n p) (by omega); omega
    · exact (sb_in (A := A) (n := n) (p := pAq A n p) (by omega)).2
  · refine m_number r1 (pn _ (by omega) (by omega)) (fun σ2 s2 r2 => ?_)
    have t2 : Mm [40] pR σ σ2 := t1.tr (s2.wk (by decide) (by decide))
    have L2 : LMr T σ2 := L1.sm s2 (by decide) (by decide) (by decide)
    have r2 : RN A n (pVq A n p) (s2q A n p) σ2 := r2
    -- behind the sign
    have tail : ∀ (τ : St) (v43 : Int), Mm [40] pR σ τ → LMr T τ → (s2q A n p).1 = 0 → RN A n (pSq A n p) (s2q A n p) τ → ((v43 = 0 ∧ mns A n p = false) ∨ (v43 = 1 ∧ mns A n p = true)) → CI M_Mo_number [vR 35, vI 99999] τ (fun v46 σ45 => ((σ45 35 16) = 0 → ((σ45 35 7) = 48 → CV M_Mo_fails [vR 35, vI 3, vI p] σ45 (fun σ49 => K σ49)) ∧ (¬ (σ45 35 7) = 48 → CI M_Mo_placeIn [vR 40, vI (σ45 35 7), vI (vAq A n p), vI (vVq A n p)] σ45 (fun v52 σ51 => (v52 = (-1) → (inR (4 * (σ51 35 7))) ∧ (inR ((4 * (σ51 35 7)) + 0)) ∧ (0 ≤ ((4 * (σ51 35 7)) + 0)) ∧ (((4 * (σ51 35 7)) + 0) < 192) ∧ (inR ((4 * (σ51 35 7)) + 1)) ∧ (0 ≤ ((4 * (σ51 35 7)) + 1)) ∧ (((4 * (σ51 35 7)) + 1) < 192) ∧ (inR ((4 * (σ51 35 7)) + 2)) ∧ (v43 = 0 → (0 ≤ ((4 * (σ51 35 7)) + 2)) ∧ (((4 * (σ51 35 7)) + 2) < 192) ∧ (inR ((4 * (σ51 35 7)) + 3)) ∧ (0 ≤ ((4 * (σ51 35 7)) + 3)) ∧ (((4 * (σ51 35 7)) + 3) < 192) ∧ (inR ((σ51 35 7) + 1)) ∧ K (ups (ups (ups (ups (ups σ51 40 ((4 * (σ51 35 7)) + 0) (vAq A n p)) 40 ((4 * (σ51 35 7)) + 1) (vVq A n p)) 40 ((4 * (σ51 35 7)) + 2) v46) 40 ((4 * (σ51 35 7)) + 3) (-1)) 35 7 ((σ51 35 7) + 1))) ∧ (¬ v43 = 0 → (inR (-v46)) ∧ (0 ≤ ((4 * (σ51 35 7)) + 2)) ∧ (((4 * (σ51 35 7)) + 2) < 192) ∧ (inR ((4 * (σ51 35 7)) + 3)) ∧ (0 ≤ ((4 * (σ51 35 7)) + 3)) ∧ (((4 * (σ51 35 7)) + 3) < 192) ∧ (inR ((σ51 35 7) + 1)) ∧ K (ups (ups (ups (ups (ups σ51 40 ((4 * (σ51 35 7)) + 0) (vAq A n p)) 40 ((4 * (σ51 35 7)) + 1) (vVq A n p)) 40 ((4 * (σ51 35 7)) + 2) (-v46)) 40 ((4 * (σ51 35 7)) + 3) (-1)) 35 7 ((σ51 35 7) + 1)))) ∧ (¬ v52 = (-1) → CV M_Mo_fails [vR 35, vI 3, vI p] σ51 (fun σ76 => K σ76))))) ∧ (¬ (σ45 35 16) = 0 → K σ45)) := by
      intro τ v43 z1 z2 z3 z4 z5
      refine m_number z4 (pn _ (by omega) (by omega)) (fun σ3 s3 r3 => ?_)
      have t3 : Mm [40] pR σ σ3 := z1.tr (s3.wk (by decide) (by decide))
      have L3 : LMr T σ3 := z2.sm s3 (by decide) (by decide) (by decide)
      have r3 : RN A n (pEq A n p) (s3q A n p) σ3 := r3
      rw [r3.2.2.2.1, L3.1]
      refine ⟨fun hz => ?_, fun hz => dead σ3 _ t3 (pn _ (by omega) (by omega)) r3 hz⟩
      have r5 := r3
      rw [(s3_live hz).1] at r5
      refine ⟨fun hf => cant σ3 t3 r5 hz (by rw [eB]; exact decide_eq_false (by omega)), fun hf => v_placeIn40 L3 hT ⟨fun hp => ?_, fun hp => cant σ3 t3 r5 hz (by rw [eB]; exact decide_eq_false (by omega))⟩⟩
      rw [L3.1]
      have hb := nuv_in (A := A) (n := n) (p := pSq A n p) (by omega)
      have ok : tkB A n p T = true := by rw [eB]; exact decide_eq_true (by omega)
      have eM : (lnM A n p T).1 = 0 := by unfold lnM; rw [if_neg (by omega), if_neg (by simp [ok])]
      have put : ∀ b, (if mns A n p = true then -vBq A n p else vBq A n p) = b → K (ups (ups (ups (ups (ups σ3 40 ((4 * T 0 0) + 0) (vAq A n p)) 40 ((4 * T 0 0) + 1) (vVq A n p)) 40 ((4 * T 0 0) + 2) b) 40 ((4 * T 0 0) + 3) (-1)) 35 7 (T 0 0 + 1)) := fun b eb => by
        have eT : tkT A n p T = addI T (vAq A n p) (vVq A n p) b := by unfold tkT; rw [if_pos hi, eb]
        refine hK _ (((((t3.up (by decide)).up (by decide)).up (by decide)).up (by decide)).fd (by decide)) (Or.inr ⟨eM, ok, hz, r5, ?_⟩)
        rw [eT]
        exact L3.app hT0
      rcases z5 with ⟨z5, z6⟩ | ⟨z5, z6⟩
      · exact ⟨by omega, by omega, by omega, by omega, by omega, by omega, by omega, by omega, fun _ => ⟨by omega, by omega, by omega, by omega, by omega, by omega, put _ (by rw [if_neg (by simp [z6])]; rfl)⟩, fun h => absurd z5 h⟩
      · exact ⟨by omega, by omega, by omega, by omega, by omega, by omega, by omega, by omega, fun h => by omega, fun _ => ⟨by omega, by omega, by omega, by omega, by omega, by omega, by omega, put _ (by rw [if_pos z6]; rfl)⟩⟩
    refine v_passesSign r2 (pn _ (by omega) (by omega)) (fun σ3 s3 hz he r3 => ?_) (fun σ3 s3 hno r3 => ?_)
    · have em : mns A n p = true := by unfold mns; simp [hi, he]
      have eS : pSq A n p = sb A n (pVq A n p) + 1 := by unfold pSq; rw [if_pos hi, if_pos em]
      rw [← eS] at r3
      rw [r3.2.2.2.1]
      exact ⟨fun h => absurd hz h, fun _ => tail σ3 1 (t2.tr (s3.wk (by decide) (by decide))) (L2.sm s3 (by decide) (by decide) (by decide)) hz r3 (Or.inr ⟨rfl, em⟩)⟩
    · rw [r3.2.2.2.1]
      refine ⟨fun h => ?_, fun hz => ?_⟩
      · have e3 : s3q A n p = s2q A n p := fq_n h
        exact dead σ3 (sb A n (pVq A n p)) (t2.tr (s3.wk (by decide) (by decide))) (pn _ (by omega) (by omega)) (by rw [e3]; exact r3) (by rw [e3]; exact h)
      · have hne : hr A n (sb A n (pVq A n p)) ≠ 45 := by
          rcases hno with h | h
          · exact absurd hz h
          · exact h
        have em : mns A n p = false := by unfold mns; simp [hne]
        have eS : pSq A n p = sb A n (pVq A n p) := by unfold pSq; rw [if_pos hi, if_neg (by simp [em])]
        rw [← eS] at r3
        exact tail σ3 0 (t2.tr (s3.wk (by decide) (by decide))) (L2.sm s3 (by decide) (by decide) (by decide)) hz r3 (Or.inl ⟨rfl, em⟩)
theorem m_auditLine {K : St → Prop} {A σ : St} {n p : Int} {T : St} (hS : RN A n (sw A n p) (0, -1) σ) (hP : PN A n p) (hL : LMr T σ) (hT : OKL T) (hi : isI A n p = false) (hu : isU A n p = true) (hK : ∀ σ', Mm [40] pR σ σ' → LNM A n p T σ' → K σ') : CV M_Mo_auditLine [vR 35, vI p] σ K := by
  apply e_Mo_auditLine
  have hpos := pos_in (A := A) hP.2.2.2
  have h900 := hP.2.1
  have hnL := hP.1
  have hp0 := hP.2.2.1
  have h48 := hT.2.1
  have hT0 := hT.1
  have pn : ∀ q, p ≤ q → q ≤ n → PN A n q := fun q a b => ⟨hnL, h900, by omega, b⟩
  have e0 : s0q A n p = (0, -1) := by unfold s0q; rw [hi, hu]; rfl
  have eS : pSq A n p = pVq A n p := by unfold pSq; rw [if_neg (by simp [hi])]
  rw [← e0] at hS
  have dead : ∀ τ q, Mm [40] pR σ τ → PN A n q → RN A n q (s3q A n p) τ → (s3q A n p).1 ≠ 0 → K τ := fun τ q t1 t2 t3 t4 => hK τ t1 (Or.inl (by
    have eF : lnM A n p T = s3q A n p := by unfold lnM; rw [if_pos t4]
    rw [eF]
    exact ⟨t4, q, t2, t3⟩))
  have cant : ∀ τ, Mm [40] pR σ τ → RN A n (pEq A n p) (0, -1) τ → (s3q A n p).1 = 0 → tkB A n p T = false → CV M_Mo_fails [vR 35, vI 3, vI p] τ (fun σ24 => K σ24) := fun τ t1 t2 t3 t4 => by
    have eF : lnM A n p T = (3, p) := by unfold lnM; rw [if_neg (by omega), if_pos t4]
    refine s_fails t2 (by omega) (fun σ2 s2 r2 => hK σ2 (t1.tr (s2.wk (by decide) (by decide))) (Or.inl ?_))
    rw [eF]
    rw [fq_e rfl (by omega)] at r2
    exact ⟨by show (3 : Int) ≠ 0; omega, _, pn _ (by omega) (by omega), r2⟩
  have eB : tkB A n p T = decide (plcq T (vAq A n p) (vVq A n p) ≠ -1 ∧ co T (plcq T (vAq A n p) (vVq A n p)) ≠ 0 ∧ vBq A n p ≤ 2 * T 3 (plcq T (vAq A n p) (vVq A n p))) := by unfold tkB; rw [if_neg (by simp [hi])]
  have eT : tkT A n p T = ups T 4 (plcq T (vAq A n p) (vVq A n p)) (vBq A n p) := by unfold tkT; rw [if_neg (by simp [hi])]
  refine m_number hS (pn _ (by omega) (by omega)) (fun σ1 s1 r1 => ?_)
  have t1 : Mm [40] pR σ σ1 := s1.wk (by decide) (by decide)
  have L1 : LMr T σ1 := hL.sm s1 (by decide) (by decide) (by decide)
  have r1 : RN A n (pAq A n p) (s1q A n p) σ1 := r1
  rw [r1.2.2.2.1]
  refine ⟨fun h1 => ?_, fun h1 => m_number r1 (pn _ (by omega) (by omega)) (fun σ2 s2 r2 => ?_)⟩
  · have e2 : s2q A n p = s1q A n p := fq_n h1
    have e3 : s3q A n p = s1q A n p := (fq_n (by rw [e2]; exact h1)).trans e2
    exact dead σ1 (pAq A n p) t1 (pn _ (by omega) (by omega)) (by rw [e3]; exact r1) (by rw [e3]; exact h1)
  · have t2 : Mm [40] pR σ σ2 := t1.tr (s2.wk (by decide) (by decide))
    have L2 : LMr T σ2 := L1.sm s2 (by decide) (by decide) (by decide)
    have r2 : RN A n (pVq A n p) (s2q A n p) σ2 := r2
    rw [r2.2.2.2.1]
    refine ⟨fun h => ?_, fun hz2 => ?_⟩
    · have e3 : s3q A n p = s2q A n p := fq_n h
      exact dead σ2 (pVq A n p) t2 (pn _ (by omega) (by omega)) (by rw [e3]; exact r2) (by rw [e3]; exact h)
    · rw [← eS] at r2
      refine m_number r2 (pn _ (by omega) (by omega)) (fun σ3 s3 r3 => ?_)
      have t3 : Mm [40] pR σ σ3 := t2.tr (s3.wk (by decide) (by decide))
      have L3 : LMr T σ3 := L2.sm s3 (by decide) (by decide) (by decide)
      have r3 : RN A n (pEq A n p) (s3q A n p) σ3 := r3
      rw [r3.2.2.2.1, L3.1]
      refine ⟨fun hz => ?_, fun hz => dead σ3 _ t3 (pn _ (by omega) (by omega)) r3 hz⟩
      have r5 := r3
      rw [(s3_live hz).1] at r5
      have hb := nuv_in (A := A) (n := n) (p := pSq A n p) (by omega)
      have hb' : 0 ≤ vBq A n p ∧ vBq A n p ≤ 99999 := hb
      refine v_placeIn40 L3 hT ?_
      rw [show nuv A n (sw A n p) = vAq A n p from rfl, show nuv A n (pAq A n p) = vVq A n p from rfl, show nuv A n (pSq A n p) = vBq A n p from rfl]
      have hpi := plcq_in hT (a := vAq A n p) (v := vVq A n p)
      generalize plcq T (vAq A n p) (vVq A n p) = i at *
      refine ⟨fun h => cant σ3 t3 r5 hz (by rw [eB]; exact decide_eq_false (by omega)), fun hne => ?_⟩
      obtain ⟨_, _, g3, g4⟩ := L3.2 i (by omega) (by omega)
      have hbk := hT.2.2 i (by omega) (by omega)
      rw [g3]
      have hco : co T i = 0 ↔ T 3 i < 1 := by unfold co; split <;> omega
      refine ⟨by omega, by omega, by omega, by omega, fun h => cant σ3 t3 r5 hz (by rw [eB]; exact decide_eq_false (by omega)), fun h => ⟨by omega, fun hle => ⟨by omega, by omega, by omega, hK _ (t3.up (by decide)) (Or.inr ⟨?_, ?_, hz, r5, ?_⟩)⟩, fun hgt => cant σ3 t3 r5 hz (by rw [eB]; exact decide_eq_false (by omega))⟩⟩
      · unfold lnM; rw [if_neg (by omega), if_neg (by rw [eB]; simp; omega)]
      · rw [eB]; exact decide_eq_true (by omega)
      · rw [eT]
        refine ⟨L3.1, fun j x y => ?_⟩
        obtain ⟨q1, q2, q3, q4⟩ := L3.2 j x y
        refine ⟨?_, ?_, ?_, (?_ : ups σ3 40 (4 * i + 3) (vBq A n p) 40 (4 * j + 3) = ups T 4 i (vBq A n p) 4 j)⟩
        · rw [ups_f (by omega)]; exact q1
        · rw [ups_f (by omega)]; exact q2
        · rw [ups_f (by omega)]; exact q3
        · by_cases hj : j = i
          · subst hj; rw [ups_s, ups_s]
          · rw [ups_f (by omega), ups_f hj]; exact q4
def LNN (A : St) (n p : Int) (T : St) (σ' : St) : Prop := ((lnF A n p T).1 ≠ 0 ∧ ∃ q, PN A n q ∧ RN A n q (lnF A n p T) σ') ∨ ((lnF A n p T).1 = 0 ∧ PN A n (lnP A n p) ∧ RN A n (lnP A n p) (0, -1) σ' ∧ LMr (tkT A n p T) σ')
theorem m_line {K : St → Prop} {A σ : St} {n p : Int} {T : St} (hS : RN A n p (0, -1) σ) (hP : PN A n p) (hB : OKB A) (hL : LMr T σ) (hT : OKL T) (hK : ∀ σ', Mm [40] pR σ σ' → LNN A n p T σ' → K σ') : CV M_Mo_line [vR 35] σ K := by
  apply e_Mo_line
  have hpos := pos_in (A := A) hP.2.2.2
  have h900 := hP.2.1
  have hnL := hP.1
  have hp0 := hP.2.2.1
  have pn : ∀ q, p ≤ q → q ≤ n → PN A n q := fun q a b => ⟨hnL, h900, by omega, b⟩
  rw [hS.2.2.1]
  -- behind the words and numbers
  have semi : ∀ τ, Mm [40] pR σ τ → LNM A n p T τ → (¬ (τ 35 16) = 0 → K τ) ∧ ((τ 35 16) = 0 → CI M_Mo_passesSign [vR 35, vI 59] τ (fun v14 σ13 => (¬ v14 = 0 → K σ13) ∧ (v14 = 0 → CV M_Mo_fails [vR 35, vI 1, vI (σ13 35 15)] σ13 (fun σ16 => K σ16)))) := by
    intro τ t1 hl
    rcases hl with ⟨hf, q, hq, rq⟩ | ⟨hf, hok, hz, rq, lq⟩
    · rw [rq.2.2.2.1]
      refine ⟨fun _ => hK τ t1 (Or.inl ?_), fun h => absurd h hf⟩
      have e : lnF A n p T = lnM A n p T := by
        unfold lnM at hf ⊢
        unfold lnF
        by_cases h3 : (s3q A n p).1 ≠ 0
        · rw [if_pos h3, if_pos h3]
        · rw [if_neg h3] at hf
          rw [if_neg h3, if_neg h3]
          by_cases hk : tkB A n p T = false
          · rw [if_pos hk, if_pos hk]
          · rw [if_neg hk] at hf
            exact absurd rfl hf
      rw [e]
      exact ⟨hf, q, hq, rq⟩
    · have eF : lnF A n p T = if hr A n (sb A n (pEq A n p)) = 59 then (0, -1) else (1, sb A n (pEq A n p)) := by
        unfold lnF
        rw [if_neg (by omega), if_neg (by simp [hok])]
      rw [rq.2.2.2.1]
      refine ⟨fun h => absurd rfl h, fun _ => v_passesSign rq (pn _ (by omega) (by omega)) (fun σ1 s1 _ he r1 => ⟨fun _ => hK σ1 (t1.tr (s1.wk (by decide) (by decide))) (Or.inr ⟨by rw [eF, if_pos he], ?_, r1, lq.sm s1 (by decide) (by decide) (by decide)⟩), fun h => by omega⟩) (fun σ1 s1 hno r1 => ⟨fun h => absurd rfl h, fun _ => ?_⟩)⟩
      · have hlt : sb A n (pEq A n p) < n := by
          rcases Int.lt_or_le (sb A n (pEq A n p)) n with g | g
          · exact g
          · rw [hr_end g] at he; omega
        exact pn _ (by unfold lnP; omega) (by unfold lnP; omega)
      · have hne : hr A n (sb A n (pEq A n p)) ≠ 59 := by
          rcases hno with h | h
          · exact absurd rfl h
          · exact h
        rw [r1.2.2.1]
        refine s_fails r1 (by omega) (fun σ2 s2 r2 => hK σ2 ((t1.tr (s1.wk (by decide) (by decide))).tr (s2.wk (by decide) (by decide))) (Or.inl ⟨by rw [eF, if_neg hne]; show (1 : Int) ≠ 0; omega, sb A n (pEq A n p), pn _ (by omega) (by omega), ?_⟩))
        rw [eF, if_neg hne]
        rw [fq_e rfl (by omega)] at r2
        exact r2
  -- the word is over
  have word : ∀ τ, Mm [] [15] σ τ → RN A n (sw A n p) (0, -1) τ → CI M_Mo_isWord [vR 35, vI p, vI 0, vI 4] τ (fun v5 σ4 => (v5 = 0 → CI M_Mo_isWord [vR 35, vI p, vI 4, vI 9] σ4 (fun v8 σ7 => (v8 = 0 → CV M_Mo_fails [vR 35, vI 1, vI p] σ7 (fun σ10 => (¬ (σ10 35 16) = 0 → K σ10) ∧ ((σ10 35 16) = 0 → CI M_Mo_passesSign [vR 35, vI 59] σ10 (fun v14 σ13 => (¬ v14 = 0 → K σ13) ∧ (v14 = 0 → CV M_Mo_fails [vR 35, vI 1, vI (σ13 35 15)] σ13 (fun σ16 => K σ16)))))) ∧ (¬ v8 = 0 → CV M_Mo_auditLine [vR 35, vI p] σ7 (fun σ18 => (¬ (σ18 35 16) = 0 → K σ18) ∧ ((σ18 35 16) = 0 → CI M_Mo_passesSign [vR 35, vI 59] σ18 (fun v22 σ21 => (¬ v22 = 0 → K σ21) ∧ (v22 = 0 → CV M_Mo_fails [vR 35, vI 1, vI (σ21 35 15)] σ21 (fun σ24 => K σ24)))))))) ∧ (¬ v5 = 0 → CV M_Mo_itemLine [vR 35, vI p] σ4 (fun σ26 => (¬ (σ26 35 16) = 0 → K σ26) ∧ ((σ26 35 16) = 0 → CI M_Mo_passesSign [vR 35, vI 59] σ26 (fun v30 σ29 => (¬ v30 = 0 → K σ29) ∧ (v30 = 0 → CV M_Mo_fails [vR 35, vI 1, vI (σ29 35 15)] σ29 (fun σ32 => K σ32))))))) := by
    intro τ t1 r1
    have t1' : Mm [40] pR σ τ := t1.wk (by decide) (by decide)
    have L1 := hL.sm t1 (by decide) (by decide) (by decide)
    refine m_isWord_4 r1 (pn _ (by omega) (by omega)) hB hp0 (by omega) ?_
    rw [show wdq A p (sw A n p) 4 wit = isI A n p from rfl]
    cases hi : isI A n p with
    | true => exact ⟨fun h => by simp [bi] at h, fun _ => m_itemLine r1 hP L1 hT hi (fun σ2 s2 l2 => semi σ2 (t1'.tr s2) l2)⟩
    | false =>
      refine ⟨fun _ => m_isWord_5 r1 (pn _ (by omega) (by omega)) hB hp0 (by omega) ?_, fun h => absurd rfl h⟩
      rw [show wdq A p (sw A n p) 5 wau = isU A n p from rfl]
      cases hu : isU A n p with
      | true => exact ⟨fun h => by simp [bi] at h, fun _ => m_auditLine r1 hP L1 hT hi hu (fun σ2 s2 l2 => semi σ2 (t1'.tr s2) l2)⟩
      | false =>
        refine ⟨fun _ => s_fails r1 (by omega) (fun σ2 s2 r2 => ?_), fun h => absurd rfl h⟩
        rw [fq_e rfl (by omega)] at r2
        rw [r2.2.2.2.1]
        have e0 : s0q A n p = (1, p) := by unfold s0q; rw [hi, hu]; rfl
        have n0 : (s0q A n p).1 ≠ 0 := by rw [e0]; show (1 : Int) ≠ 0; omega
        have e1 : s1q A n p = (1, p) := (fq_n n0).trans e0
        have e2 : s2q A n p = (1, p) := (fq_n (by rw [e1]; show (1 : Int) ≠ 0; omega)).trans e1
        have e3 : s3q A n p = (1, p) := (fq_n (by rw [e2]; show (1 : Int) ≠ 0; omega)).trans e2
        have eF : lnF A n p T = (1, p) := by unfold lnF; rw [if_pos (by rw [e3]; show (1 : Int) ≠ 0; omega), e3]
        refine ⟨fun _ => hK σ2 (t1'.tr (s2.wk (by decide) (by decide))) (Or.inl ?_), fun h => by have h : (1 : Int) = 0 := h; omega⟩
        rw [eF]
        exact ⟨by show (1 : Int) ≠ 0; omega, _, pn _ (by omega) (by omega), r2⟩
  have key : ∀ m : Nat, ∀ q τ, p ≤ q → q ≤ n → Mm [] [15] σ τ → RN A n q (0, -1) τ → sw A n q = sw A n p → (n - q).toNat = m → WM M_Mo_line 5 [(0, vR 35), (1, vI p)] [] τ (QV K) := by
    intro m
    induction m with
    | zero =>
      intro q τ h0 h1 h2 h3 h4 h5
      apply l_Mo_line_1
      have hf : fLe (hr A n q) = false := by rw [hr_end (by omega)]; rfl
      refine v_isLetter h3 (pn _ h0 h1) ?_
      rw [hf]
      refine ⟨fun _ => word τ h2 ?_, fun h => absurd rfl h⟩
      rw [← h4, show sw A n q = q from skp_no hf]
      exact h3
    | succ m ih =>
      intro q τ h0 h1 h2 h3 h4 h5
      apply l_Mo_line_1
      refine v_isLetter h3 (pn _ h0 h1) ?_
      rw [h3.2.2.1]
      cases hf : fLe (hr A n q) with
      | false =>
        refine ⟨fun _ => word τ h2 ?_, fun h => absurd rfl h⟩
        rw [← h4, show sw A n q = q from skp_no hf]
        exact h3
      | true =>
        refine ⟨fun h => by simp [bi] at h, fun _ => ⟨by omega, ih (q + 1) _ (by omega) (by omega) (h2.fd (by decide)) h3.mv ?_ (by omega)⟩⟩
        rw [← h4]
        exact (skp_yes (by omega) hf).symm
  exact key _ p σ (Int.le_refl _) hP.2.2.2 Mm.rf hS rfl rfl
theorem p_text {K : Int → St → Prop} {A σ : St} (hM : MR A σ) (hF : FM σ) (hA : OKA A) (hB : OKB A) {n : Int} (hK : EM (q_text A n).2 σ (q_text A n).1 K) : CI M_Mo_text [vR 35, vI n] σ K := by
  apply e_Mo_text
  have hL := hA.2.2.2.2.1
  have hM0 := t0_M hM
  have hF0 := t0_F hF
  rw [hM.2.2.2.2.2.1.1]
  refine s_isIn (fun h0 h1 => ⟨fun _ => ?_, fun h => by omega⟩) (fun h => ⟨fun h => absurd rfl h, fun _ => mcl hK (show q_text A n = (-3, A) by unfold q_text; rw [if_pos (by omega)]) hM0 hF0 t0_u⟩)
  have hb := sb_in (A := A) h0
  have hok := psq_ok (A := A) (n := n) 900 (sb A n 0) T0 T0_ok
  have h3 := psq_3 (A := A) (n := n) 900 (sb A n 0) T0
  have hz1 := psq_z (A := A) (n := n) 900 (sb A n 0) T0
  generalize hR : psq A n 900 (sb A n 0) T0 = R at *
  obtain ⟨m1, m2, m3, m4, m5, m6, m7, m8⟩ := hM0
  have r0 : RN A n 0 (0, -1) (ups (ups (ups (ups (ups (ups (ups σ 35 0 0) 35 13 0) 35 14 n) 35 15 0) 35 16 0) 35 17 (-1)) 35 7 0) := ⟨⟨m6.2, m8⟩, rfl, rfl, rfl, rfl⟩
  refine s_blanks r0 ⟨h1, hL.2, Int.le_refl _, h0⟩ (fun σ1 s1 r1 => ?_)
  -- what stays all the while
  have base : Mm [40] [0, 13, 14, 7, 15, 16, 17] σ σ1 := ((((((((Mm.rf.fd (by decide)).fd (by decide)).fd (by decide)).fd (by decide)).fd (by decide)).fd (by decide)).fd (by decide)).tr (s1.wk (by decide) (by decide)))
  have e13 : ∀ τ, Mm [40] pR σ1 τ → τ 35 13 = 0 := fun τ t => by
    rw [t 35 13 (by decide) (by decide), s1 35 13 (by decide) (by decide)]
    rfl
  have keep : ∀ τ, Mm [40] pR σ1 τ → Mm [40] [0, 13, 14, 7, 15, 16, 17] σ τ := fun τ t => base.tr (t.wk (by decide) (by decide))
  have fm : ∀ τ, Mm [40] pR σ1 τ → FM τ := fun τ t => hF.sm (keep τ t) (by decide) (by decide) (by decide) (by decide)
  -- the end at a fault
  have bad : ∀ τ q, Mm [40] pR σ1 τ → RN A n q R.1 τ → R.1.1 ≠ 0 → K (-30 - R.1.1) τ := by
    intro τ q t1 t2 t3
    have z := keep τ t1
    have n1 : ∀ (c : Nat) (j : Int), c ≠ 40 → c ≠ 35 → τ c j = σ c j := fun c j h1 h2 => z c j (by simp [h1]) (fun q => h2 q.1)
    have f1 : ∀ j : Int, j ∉ [0, 13, 14, 7, 15, 16, 17] → τ 35 j = σ 35 j := fun j h => z 35 j (by decide) (fun q => h q.2)
    obtain ⟨m1, m2, m3, m4, m5, m6, m7, m8⟩ := hM
    refine mcl hK (show q_text A n = (-30 - R.1.1, ups (ups (ups A 0 5 R.1.1) 0 6 R.1.2) 0 4 0) by unfold q_text; rw [if_neg (by omega), hR, if_pos t3]) ⟨⟨by rw [f1 6 (by decide)]; exact m1.1, fun i x y => ?_⟩, ⟨?_, ?_, fun r x y => ?_⟩, ?_, fun k x y => ?_, fun k x y => ?_, ⟨e13 τ t1, fun i x y => absurd y (by show ¬ i < 0; omega)⟩, ⟨t2.2.2.2.1, t2.2.2.2.2⟩, fun k x y => ?_⟩ (fm τ t1) (z.um (by decide))
    · rw [n1 39 _ (by decide) (by decide), n1 39 _ (by decide) (by decide), n1 39 _ (by decide) (by decide), n1 39 _ (by decide) (by decide)]; exact m1.2 i x y
    · rw [f1 9 (by decide)]; exact m2.1
    · rw [f1 10 (by decide)]; exact m2.2.1
    · rw [n1 41 _ (by decide) (by decide)]; exact m2.2.2 r x y
    · rw [f1 11 (by decide)]; exact m3
    · rw [n1 36 _ (by decide) (by decide)]; exact m4 k x y
    · rw [n1 37 _ (by decide) (by decide), n1 38 _ (by decide) (by decide)]; exact m5 k x y
    · rw [n1 43 _ (by decide) (by decide)]; exact m8 k x y
  -- the end of the text: the ledger is taken over
  have good : ∀ τ q, Mm [40] pR σ1 τ → RN A n q (0, -1) τ → LMr R.2 τ → R.1.1 = 0 → WM M_Mo_text 107 [(0, vR 35), (2, vI 0)] [] (ups τ 35 6 (τ 35 7)) (QI K) := by
    intro τ q t1 t2 t3 t4
    have h48 := hok.2.1
    have hT0 := hok.1
    have z := keep τ t1
    have key : ∀ k, 0 ≤ k → k ≤ 4 * R.2 0 0 → ∀ ρ, Mm [39] [6] τ ρ → ρ 35 6 = R.2 0 0 → (∀ j, 0 ≤ j → j < k → ρ 39 j = τ 40 j) → WM M_Mo_text 107 [(0, vR 35), (2, vI k)] [] ρ (QI K) := by
      refine up_ind (fun ρ y1 y2 y3 => ?_) (fun k a b ih ρ y1 y2 y3 => ?_)
      · apply l_Mo_text_2
        have e7 : ρ 35 7 = R.2 0 0 := by rw [y1 35 7 (by decide) (by decide)]; exact t3.1
        rw [e7, y2]
        refine ⟨by omega, fun _ => ?_, fun h => by omega⟩
        have n2 : ∀ (c : Nat) (j : Int), c ≠ 39 → c ≠ 40 → c ≠ 35 → ρ c j = σ c j := fun c j h0 h1 h2 => by
          rw [y1 c j (by simp [h0]) (fun q => h2 q.1)]
          exact z c j (by simp [h1]) (fun q => h2 q.1)
        have f2 : ∀ j : Int, j ≠ 6 → j ∉ [0, 13, 14, 7, 15, 16, 17] → ρ 35 j = σ 35 j := fun j h0 h => by
          rw [y1 35 j (by decide) (by simp [h0])]
          exact z 35 j (by decide) (fun q => h q.2)
        obtain ⟨m1, m2, m3, m4, m5, m6, m7, m8⟩ := hM
        have e36 : ρ 36 4 = A 6 4 := by rw [n2 36 4 (by decide) (by decide) (by decide)]; exact m4 4 (by omega) (by omega)
        rw [e36]
        refine mcl hK (show q_text A n = (R.2 0 0, txA A R.2) by unfold q_text; rw [if_neg (by omega), hR, if_neg (by omega)]) ⟨⟨y2, fun i x y => ?_⟩, ⟨rfl, rfl, fun r x y => absurd y (by show ¬ r < 0; omega)⟩, rfl, fun k x y => ?_, fun k x y => ?_, ⟨?_, fun i x y => absurd y (by show ¬ i < 0; omega)⟩, ⟨?_, ?_⟩, fun k x y => ?_⟩ (fun k x y => ?_) ((((z.um (by decide)).tr (y1.um (by decide))).up (by decide)).up (by decide) |>.up (by decide))
        · have y : i < R.2 0 0 := y
          obtain ⟨g1, g2, g3, g4⟩ := t3.2 i x y
          refine ⟨(?_ : ρ 39 (4 * i + 0) = R.2 1 i), (?_ : ρ 39 (4 * i + 1) = R.2 2 i), (?_ : ρ 39 (4 * i + 2) = R.2 3 i), (?_ : ρ 39 (4 * i + 3) = R.2 4 i)⟩
          · rw [y3 _ (by omega) (by omega)]; exact g1
          · rw [y3 _ (by omega) (by omega)]; exact g2
          · rw [y3 _ (by omega) (by omega)]; exact g3
          · rw [y3 _ (by omega) (by omega)]; exact g4
        · exact (n2 36 k (by decide) (by decide) (by decide)).trans (m4 k x y)
        · obtain ⟨g1, g2⟩ := m5 k x y
          exact ⟨(n2 37 k (by decide) (by decide) (by decide)).trans g1, (n2 38 k (by decide) (by decide) (by decide)).trans g2⟩
        · show ρ 35 13 = 0
          rw [y1 35 13 (by decide) (by decide)]; exact e13 τ t1
        · show ρ 35 16 = 0
          rw [y1 35 16 (by decide) (by decide)]; exact t2.2.2.2.1
        · show ρ 35 17 = -1
          rw [y1 35 17 (by decide) (by decide)]; exact t2.2.2.2.2
        · exact (n2 43 k (by decide) (by decide) (by decide)).trans (m8 k x y)
        · have ff : FM ρ := (fm τ t1).sm y1 (by decide) (by decide) (by decide) (by decide)
          exact ff k x y
      · apply l_Mo_text_2
        have e7 : ρ 35 7 = R.2 0 0 := by rw [y1 35 7 (by decide) (by decide)]; exact t3.1
        rw [e7]
        have e40 : ρ 40 k = τ 40 k := y1 40 k (by decide) (by simp)
        rw [e40]
        refine ⟨by omega, fun h => by omega, fun _ => ⟨a, by omega, by omega, ih _ (y1.up (by decide)) (by rw [ups_c (by decide)]; exact y2) (fun j x y => ?_)⟩⟩
        by_cases hj : j = k
        · subst hj; rw [ups_s]
        · rw [ups_f hj]; exact y3 j x (by omega)
    rw [t3.1]
    exact key 0 (by omega) (by omega) _ (Mm.rf.fd (by decide)) (by rw [ups_s]) (fun j a b => by omega)
  have loop : ∀ m : Nat, ∀ p T τ, n - p ≤ m → PN A n p → OKL T → Mm [40] pR σ1 τ → RN A n p (0, -1) τ → LMr T τ → psq A n m p T = R → WM M_Mo_text 56 [(0, vR 35)] [] τ (QI K) := by
    intro m
    induction m with
    | zero =>
      intro p T τ h2 h3' h4 h5 h6 h7 h8
      apply l_Mo_text_1
      rw [h6.2.2.2.1]
      refine ⟨fun h => absurd rfl h, fun _ => v_peek h6 h3' ?_⟩
      rw [h6.2.2.2.1]
      subst h8
      refine ⟨fun _ => ⟨fun _ => good τ p h5 h6 h7 rfl, fun h => absurd rfl h⟩, fun h => ?_⟩
      rw [hr_end (by omega)] at h
      exact absurd rfl h
    | succ m ih =>
      intro p T τ h2 h3' h4 h5 h6 h7 h8
      apply l_Mo_text_1
      rw [h6.2.2.2.1]
      have hp2 := h3'.2.2
      unfold psq at h8
      refine ⟨fun h => absurd rfl h, fun _ => v_peek h6 h3' ?_⟩
      rw [h6.2.2.2.1]
      refine ⟨fun he => ⟨fun _ => ?_, fun h => absurd rfl h⟩, fun hne => ?_⟩
      · have hle : n ≤ p := by
          rcases Int.lt_or_le p n with g | g
          · rw [hr_at g] at he; omega
          · exact g
        rw [if_pos hle] at h8
        subst h8
        exact good τ p h5 h6 h7 rfl
      · have hlt : ¬ n ≤ p := fun g => hne (hr_end g)
        rw [if_neg hlt] at h8
        refine m_line h6 h3' hB h7 h4 (fun σ2 s2 hl => ?_)
        rcases hl with ⟨hf, q, hq, rq⟩ | ⟨hf, hq, rq, lq⟩
        · rw [if_pos hf] at h8
          refine s_blanks rq hq (fun σ3 s3 r3 => ?_)
          apply l_Mo_text_1
          subst h8
          have e16 : σ3 35 16 = (lnF A n p T).1 := r3.2.2.2.1
          have h3l := lnF_3 (A := A) (n := n) (p := p) (T := T)
          refine ⟨fun _ => ?_, fun h => absurd (e16.symm.trans h) hf⟩
          rw [e16]
          exact ⟨by omega, bad σ3 _ ((h5.tr s2).tr (s3.wk (by decide) (by decide))) r3 hf⟩
        · rw [if_neg (by omega)] at h8
          have hlp := ln_ok (A := A) (n := n) (p := p) (T := T) (by omega) h4 hf
          refine s_blanks rq hq (fun σ3 s3 r3 => ih _ (tkT A n p T) σ3 ?_ ?_ hlp.2.2 ((h5.tr s2).tr (s3.wk (by decide) (by decide))) r3 (lq.sm s3 (by decide) (by decide) (by decide)) h8)
          · have := sb_in (A := A) hq.2.2.2
            omega
          · have := sb_in (A := A) hq.2.2.2
            have := hq.2.2.1
            exact ⟨h1, hL.2, by omega, by omega⟩
  refine loop 900 (sb A n 0) T0 σ1 (by omega) ⟨h1, hL.2, by omega, hb.2⟩ T0_ok Mm.rf r1 ⟨?_, fun i a b => absurd b (by show ¬ i < 0; omega)⟩ hR
  rw [s1 35 7 (by decide) (by decide)]
  rfl
