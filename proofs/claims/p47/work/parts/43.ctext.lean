-- the class's reader
def RS (A : St) (n p : Int) (s : Int × Int) (σ : St) : Prop := (σ 1 1 = A 0 4 ∧ ∀ i, 0 ≤ i → i < A 0 4 → σ 2 i = A 7 i) ∧ σ 8 4 = n ∧ σ 8 5 = p ∧ σ 8 1 = s.1 ∧ σ 8 2 = s.2
/-- what is asked of a text's length and a place in it -/
def PN (A : St) (n p : Int) : Prop := n ≤ A 0 4 ∧ A 0 4 ≤ 900 ∧ 0 ≤ p ∧ p ≤ n
theorem RS.mv {A : St} {n p p' : Int} {s : Int × Int} {σ : St} (h : RS A n p s σ) : RS A n p' s (ups σ 8 5 p') := ⟨h.1, h.2.1, rfl, h.2.2.2⟩
theorem v_here {K : Int → St → Prop} {A σ : St} {n p : Int} {s : Int × Int} (hS : RS A n p s σ) (hP : PN A n p) (hK : K (hr A n p) σ) : CI M_Re_here [vR 8] σ K := by
  apply e_Re_here
  obtain ⟨h1, h2, h3, h4⟩ := hS
  obtain ⟨g1, g2, g3, g4⟩ := hP
  rw [h2, h3]
  refine ⟨fun h => ?_, fun h => v_byteAt h1.1 h1.2 g2 g3 (by omega) ?_⟩
  · rw [hr_end h] at hK; exact hK
  · rw [hr_at (by omega)] at hK; exact hK
theorem s_skipBlanks {K : St → Prop} {A σ : St} {n p : Int} {s : Int × Int} (hS : RS A n p s σ) (hP : PN A n p) (hK : ∀ σ', Sm [8] σ σ' → RS A n (sb A n p) s σ' → K σ') : CV M_Re_skipBlanks [vR 8] σ K := by
  apply e_Re_skipBlanks
  have key : ∀ m : Nat, ∀ q τ, PN A n q → Sm [8] σ τ → RS A n q s τ → sb A n q = sb A n p → (n - q).toNat = m → WM M_Re_skipBlanks 0 [(0, vR 8)] [] τ (QV K) := by
    intro m
    induction m with
    | zero =>
      intro q τ h1 h2 h3 h4 h5
      apply l_Re_skipBlanks_1
      rw [h3.2.1, h3.2.2.1]
      have h12 := h1.2.2
      refine ⟨fun _ => hK τ h2 ?_, fun h => by omega⟩
      rw [← h4, show sb A n q = q from skp_no (by rw [hr_end (by omega)]; rfl)]
      exact h3
    | succ m ih =>
      intro q τ h1 h2 h3 h4 h5
      apply l_Re_skipBlanks_1
      rw [h3.2.1, h3.2.2.1]
      have h12 := h1.2.2
      have h11 := h1.1
      have h10 := h1.2.1
      refine ⟨fun h => by omega, fun _ => v_here h3 h1 ?_⟩
      rw [h3.2.2.1]
      refine ⟨fun hne => hK τ h2 ?_, fun he => ⟨by omega, ih (q + 1) _ ⟨h11, h10, by omega, by omega⟩ (h2.up (by decide)) h3.mv ?_ (by omega)⟩⟩
      · rw [← h4, show sb A n q = q from skp_no (by unfold fBl; simp [hne])]
        exact h3
      · rw [← h4]
        exact (skp_yes (by omega) (by unfold fBl; simp [he])).symm
  exact key _ p σ hP Sm.rf hS rfl rfl
theorem s_skipWord {K : St → Prop} {A σ : St} {n p : Int} {s : Int × Int} (hS : RS A n p s σ) (hP : PN A n p) (hK : ∀ σ', Sm [8] σ σ' → RS A n (sw A n p) s σ' → K σ') : CV M_Re_skipWord [vR 8] σ K := by
  apply e_Re_skipWord
  have key : ∀ m : Nat, ∀ q τ, PN A n q → Sm [8] σ τ → RS A n q s τ → sw A n q = sw A n p → (n - q).toNat = m → WM M_Re_skipWord 0 [(0, vR 8)] [] τ (QV K) := by
    intro m
    induction m with
    | zero =>
      intro q τ h1 h2 h3 h4 h5
      apply l_Re_skipWord_1
      rw [h3.2.1, h3.2.2.1]
      have h12 := h1.2.2
      refine ⟨fun _ => hK τ h2 ?_, fun h => by omega⟩
      rw [← h4, show sw A n q = q from skp_no (by rw [hr_end (by omega)]; rfl)]
      exact h3
    | succ m ih =>
      intro q τ h1 h2 h3 h4 h5
      apply l_Re_skipWord_1
      rw [h3.2.1, h3.2.2.1]
      have h12 := h1.2.2
      have h11 := h1.1
      have h10 := h1.2.1
      have stop : fLe (hr A n q) = false → K τ := fun hf => hK τ h2 (by rw [← h4, show sw A n q = q from skp_no hf]; exact h3)
      refine ⟨fun h => by omega, fun _ => v_here h3 h1 ⟨fun hlt => stop (by unfold fLe; simp; omega), fun hge => v_here h3 h1 ?_⟩⟩
      rw [h3.2.2.1]
      refine ⟨fun hgt => stop (by unfold fLe; simp; omega), fun hle => ⟨by omega, ih (q + 1) _ ⟨h11, h10, by omega, by omega⟩ (h2.up (by decide)) h3.mv ?_ (by omega)⟩⟩
      rw [← h4]
      exact (skp_yes (by omega) (by unfold fLe; simp; omega)).symm
  exact key _ p σ hP Sm.rf hS rfl rfl
theorem s_fail {K : St → Prop} {A σ : St} {n p e l : Int} {s : Int × Int} (hS : RS A n p s σ) (he : e ≠ 0) (hK : ∀ σ', Sm [8] σ σ' → RS A n p (fq s e l) σ' → K σ') : CV M_Re_fail [vR 8, vI e, vI l] σ K := by
  apply e_Re_fail
  rw [hS.2.2.2.1]
  refine ⟨fun h => hK σ Sm.rf (by rw [fq_n h]; exact hS), fun h => hK _ ((Sm.rf.up (by decide)).up (by decide)) ?_⟩
  rw [fq_e h he]
  exact ⟨hS.1, hS.2.1, hS.2.2.1, rfl, rfl⟩
theorem v_readNumber {K : Int → St → Prop} {A σ : St} {n p g : Int} {s : Int × Int} (hS : RS A n p s σ) (hP : PN A n p) (hK : ∀ σ', Sm [8] σ σ' → RS A n (nup A n p) (fq s (nue A n g p) (sb A n p)) σ' → K (nuv A n p) σ') : CI M_Re_readNumber [vR 8, vI g] σ K := by
  apply e_Re_readNumber
  refine s_skipBlanks hS hP (fun σ1 s1 r1 => ?_)
  have hb := sb_in (A := A) hP.2.2.2
  have h900 := hP.2.1
  have hnL := hP.1
  have hp0 := hP.2.2.1
  rw [r1.2.2.1]
  generalize ho : sb A n p = o at *
  have hup : nup A n p = sd A n o := by unfold nup; rw [ho]
  have huv : nuv A n p = dvq A n o o 0 := by unfold nuv dv; rw [ho]
  have hue : nue A n g p = if sd A n o = o then 1 else if 5 < sd A n o - o ∨ g < dvq A n o o 0 then 2 else 0 := by unfold nue dv; rw [ho]
  rw [hup, huv, hue] at hK
  have key : ∀ m : Nat, ∀ q v τ, o ≤ q → q ≤ n → vok (q - o) v → Sm [8] σ τ → RS A n q s τ → sd A n q = sd A n o → dvq A n o q v = dvq A n o o 0 → (n - q).toNat = m → WM M_Re_readNumber 11 [(0, vR 8), (1, vI g), (2, vI o), (3, vI v)] [] τ (QI K) := by
    -- the digits are over
    have fin : ∀ q v τ, o ≤ q → q ≤ n → Sm [8] σ τ → RS A n q s τ → sd A n o = q → dvq A n o o 0 = v → (¬ (q = o) → (inR (q - o)) ∧ (5 < (q - o) → CV M_Re_fail [vR 8, vI 2, vI o] τ (fun σ7 => K v σ7)) ∧ (¬ 5 < (q - o) → (v ≤ g → K v τ) ∧ (¬ v ≤ g → CV M_Re_fail [vR 8, vI 2, vI o] τ (fun σ10 => K v σ10)))) ∧ (q = o → CV M_Re_fail [vR 8, vI 1, vI o] τ (fun σ12 => K v σ12)) := by
      intro q v τ q0 q1 t1 t2 e1 e2
      have hk : ∀ σ', Sm [8] σ σ' → RS A n q (fq s (if q = o then 1 else if 5 < q - o ∨ g < v then 2 else 0) o) σ' → K v σ' := fun σ' a b => by
        have := hK σ' a (by rw [e1, e2]; exact b)
        rw [e2] at this
        exact this
      refine ⟨fun hne => ⟨by omega, fun h5 => s_fail t2 (by omega) (fun σ' a b => hk σ' (t1.tr a) ?_), fun h5 => ⟨fun hle => hk τ t1 ?_, fun hgt => s_fail t2 (by omega) (fun σ' a b => hk σ' (t1.tr a) ?_)⟩⟩, fun he => s_fail t2 (by omega) (fun σ' a b => hk σ' (t1.tr a) ?_)⟩
      · rw [if_neg hne, if_pos (Or.inl h5)]; exact b
      · rw [if_neg hne, if_neg (by omega), fq_0]; exact t2
      · rw [if_neg hne, if_pos (Or.inr (by omega))]; exact b
      · rw [if_pos he]; exact b
    have over : ∀ q v τ, o ≤ q → q ≤ n → Sm [8] σ τ → RS A n q s τ → sd A n q = sd A n o → dvq A n o q v = dvq A n o o 0 → fDi (hr A n q) = false → (¬ (q = o) → (inR (q - o)) ∧ (5 < (q - o) → CV M_Re_fail [vR 8, vI 2, vI o] τ (fun σ7 => K v σ7)) ∧ (¬ 5 < (q - o) → (v ≤ g → K v τ) ∧ (¬ v ≤ g → CV M_Re_fail [vR 8, vI 2, vI o] τ (fun σ10 => K v σ10)))) ∧ (q = o → CV M_Re_fail [vR 8, vI 1, vI o] τ (fun σ12 => K v σ12)) := by
      intro q v τ q0 q1 t1 t2 e1 e2 hf
      exact fin q v τ q0 q1 t1 t2 (by rw [← e1]; exact skp_no hf) (by rw [← e2]; exact dvq_no hf)
    intro m
    induction m with
    | zero =>
      intro q v τ h1 h2 h3 h4 h5 h6 h7 h8
      apply l_Re_readNumber_1
      rw [h5.2.1, h5.2.2.1]
      exact ⟨fun _ => over q v τ h1 h2 h4 h5 h6 h7 (by rw [hr_end (by omega)]; rfl), fun h => by omega⟩
    | succ m ih =>
      intro q v τ h1 h2 h3 h4 h5 h6 h7 h8
      apply l_Re_readNumber_1
      rw [h5.2.1, h5.2.2.1]
      have hP1 : PN A n q := ⟨hnL, h900, by omega, h2⟩
      refine ⟨fun h => by omega, fun _ => v_here h5 hP1 ?_⟩
      rw [h5.2.2.1]
      have ov := over q v τ h1 h2 h4 h5 h6 h7
      refine ⟨fun h48 => ov (by unfold fDi; simp; omega), fun h48 => v_here h5 hP1 ?_⟩
      rw [h5.2.2.1]
      refine ⟨fun h57 => ov (by unfold fDi; simp; omega), fun h57 => ?_⟩
      have hd : fDi (hr A n q) = true := by unfold fDi; simp; omega
      have e6 : sd A n (q + 1) = sd A n o := by rw [← h6]; exact (skp_yes (by omega) hd).symm
      have e7 := dvq_yes (A := A) (n := n) (o := o) (v := v) (show q < n by omega) hd
      have hv := vok_s (x := hr A n q) (show 0 ≤ q - o by omega) h3 (by omega) (by omega)
      rw [show q - o + 1 = q + 1 - o by omega] at hv
      rw [e7] at h7
      refine ⟨by omega, fun g5 => ⟨by omega, ?_⟩, fun g5 => ⟨by unfold vok at h3; omega, v_here h5 hP1 ?_⟩⟩
      · rw [if_neg (by omega)] at h7 hv
        exact ih (q + 1) v _ (by omega) (by omega) hv (h4.up (by decide)) h5.mv e6 h7 (by omega)
      · rw [if_pos (by omega)] at h7 hv
        rw [h5.2.2.1]
        exact ⟨by unfold vok at h3; omega, by unfold vok at h3; omega, by omega, ih (q + 1) _ _ (by omega) (by omega) hv (h4.up (by decide)) h5.mv e6 h7 (by omega)⟩
  exact key _ o 0 σ1 (Int.le_refl _) hb.2 (by rw [Int.sub_self]; exact vok_0) s1 r1 rfl rfl rfl
theorem v_skipSign {K : Int → St → Prop} {A σ : St} {n p c : Int} {s : Int × Int} (hS : RS A n p s σ) (hP : PN A n p) (h1 : ∀ σ', Sm [8] σ σ' → hr A n (sb A n p) = c → RS A n (sb A n p + 1) s σ' → K 1 σ') (h0 : ∀ σ', Sm [8] σ σ' → hr A n (sb A n p) ≠ c → RS A n (sb A n p) s σ' → K 0 σ') : CI M_Re_skipSign [vR 8, vI c] σ K := by
  apply e_Re_skipSign
  have hb := sb_in (A := A) hP.2.2.2
  have h900 := hP.2.1
  have hnL := hP.1
  have hp0 := hP.2.2.1
  refine s_skipBlanks hS hP (fun σ1 s1 r1 => v_here r1 ⟨hnL, h900, by omega, hb.2⟩ ?_)
  rw [r1.2.2.1]
  exact ⟨fun h => ⟨by omega, h1 _ (s1.up (by decide)) h r1.mv⟩, fun h => h0 σ1 s1 h r1⟩
theorem v_length_62 {K : Int → St → Prop} {σ : St} (hK : K 4 σ) : CI M_Sg_length [vR 62] σ K := by
  apply e_Sg_length_62
  apply e_Sg_coder_62
  have e : (2 : Int) ^ (0 : Int).toNat = 1 := rfl
  rw [e]
  exact ⟨by omega, by omega, by omega, hK⟩
theorem v_charAt_62 {K : Int → St → Prop} {σ : St} {i : Int} (h0 : 0 ≤ i) (h1 : i < 4) (hK : K (wit i) σ) : CI M_Sg_charAt [vR 62, vI i] σ K := by
  apply e_Sg_charAt_62
  apply e_Sg_isLatin1_62
  refine ⟨fun h => by omega, fun _ => ?_⟩
  apply e_Sl_charAt_64
  apply e_Sg_checkIndex
  intro o1 _
  apply e_Pc_checkIndex
  have e : (chq0 i % 256) % 65536 = wit i := by
    have hi : i = 0 ∨ i = 1 ∨ i = 2 ∨ i = 3 ∨ i = 4 := by omega
    rcases hi with h | h | h | h | h <;> subst h <;> first | rfl | (exfalso; omega)
  have r : 0 ≤ wit i ∧ wit i < 65536 := by unfold wit; (repeat' split) <;> omega
  rw [e]
  exact ⟨fun h => by omega, fun _ => ⟨fun _ => ⟨h0, h1, r.1, r.2, r.1, r.2, hK⟩, fun h => by omega⟩⟩
theorem v_isWord_62 {K : Int → St → Prop} {A σ : St} {n o p : Int} {s : Int × Int} (hS : RS A n p s σ) (hP : PN A n p) (ho : 0 ≤ o) (hop : o ≤ p) (hK : K (bi (wdq A o p 4 wit)) σ) : CI M_Re_isWord [vR 8, vI o, vR 62] σ K := by
  apply e_Re_isWord_8_62
  have h900 := hP.2.1
  have hnL := hP.1
  have hpn := hP.2.2.2
  rw [hS.2.2.1]
  refine ⟨by omega, v_length_62 ⟨fun hl => ?_, fun hl => ?_⟩⟩
  · have key : ∀ i, 0 ≤ i → i ≤ 4 → (∀ j, 0 ≤ j → j < i → decide (A 7 (o + j) % 256 ≠ wit j) = false) → WM M_Re_isWord 17 [(0, vR 8), (1, vI o), (2, vR 62), (3, vI i)] [] σ (QI K) := by
      refine up_ind (fun hf => ?_) (fun i h0 h1 ih hf => ?_)
      · apply l_Re_isWord_8_62_1
        refine v_length_62 ⟨fun _ => ?_, fun h => by omega⟩
        rw [bi_t (by unfold wdq; simp only [decide_eq_true_eq]; exact ⟨hl, fI_none (by omega) hf⟩)] at hK
        exact hK
      · apply l_Re_isWord_8_62_1
        refine v_length_62 ⟨fun h => by omega, fun _ => ⟨by omega, v_byteAt hS.1.1 hS.1.2 h900 (by omega) (by omega) (v_charAt_62 h0 h1 ⟨fun he => ⟨by omega, ih (fun j a b => ?_)⟩, fun hne => ?_⟩)⟩⟩
        · by_cases hj : j = i
          · subst hj; simp [he]
          · exact hf j a (by omega)
        · rw [bi_f (by unfold wdq; simp only [decide_eq_false_iff_not]; rw [fI_eq h0 h1 (by simp [hne]) hf]; omega)] at hK
          exact hK
    exact key 0 (by omega) (by omega) (fun j a b => by omega)
  · rw [bi_f (by unfold wdq; simp only [decide_eq_false_iff_not]; omega)] at hK
    exact hK
theorem v_length_63 {K : Int → St → Prop} {σ : St} (hK : K 5 σ) : CI M_Sg_length [vR 63] σ K := by
  apply e_Sg_length_63
  apply e_Sg_coder_63
  have e : (2 : Int) ^ (0 : Int).toNat = 1 := rfl
  rw [e]
  exact ⟨by omega, by omega, by omega, hK⟩
theorem v_charAt_63 {K : Int → St → Prop} {σ : St} {i : Int} (h0 : 0 ≤ i) (h1 : i < 5) (hK : K (wau i) σ) : CI M_Sg_charAt [vR 63, vI i] σ K := by
  apply e_Sg_charAt_63
  apply e_Sg_isLatin1_63
  refine ⟨fun h => by omega, fun _ => ?_⟩
  apply e_Sl_charAt_65
  apply e_Sg_checkIndex
  intro o1 _
  apply e_Pc_checkIndex
  have e : (chq1 i % 256) % 65536 = wau i := by
    have hi : i = 0 ∨ i = 1 ∨ i = 2 ∨ i = 3 ∨ i = 4 := by omega
    rcases hi with h | h | h | h | h <;> subst h <;> first | rfl | (exfalso; omega)
  have r : 0 ≤ wau i ∧ wau i < 65536 := by unfold wau; (repeat' split) <;> omega
  rw [e]
  exact ⟨fun h => by omega, fun _ => ⟨fun _ => ⟨h0, h1, r.1, r.2, r.1, r.2, hK⟩, fun h => by omega⟩⟩
theorem v_isWord_63 {K : Int → St → Prop} {A σ : St} {n o p : Int} {s : Int × Int} (hS : RS A n p s σ) (hP : PN A n p) (ho : 0 ≤ o) (hop : o ≤ p) (hK : K (bi (wdq A o p 5 wau)) σ) : CI M_Re_isWord [vR 8, vI o, vR 63] σ K := by
  apply e_Re_isWord_8_63
  have h900 := hP.2.1
  have hnL := hP.1
  have hpn := hP.2.2.2
  rw [hS.2.2.1]
  refine ⟨by omega, v_length_63 ⟨fun hl => ?_, fun hl => ?_⟩⟩
  · have key : ∀ i, 0 ≤ i → i ≤ 5 → (∀ j, 0 ≤ j → j < i → decide (A 7 (o + j) % 256 ≠ wau j) = false) → WM M_Re_isWord 17 [(0, vR 8), (1, vI o), (2, vR 63), (3, vI i)] [] σ (QI K) := by
      refine up_ind (fun hf => ?_) (fun i h0 h1 ih hf => ?_)
      · apply l_Re_isWord_8_63_1
        refine v_length_63 ⟨fun _ => ?_, fun h => by omega⟩
        rw [bi_t (by unfold wdq; simp only [decide_eq_true_eq]; exact ⟨hl, fI_none (by omega) hf⟩)] at hK
        exact hK
      · apply l_Re_isWord_8_63_1
        refine v_length_63 ⟨fun h => by omega, fun _ => ⟨by omega, v_byteAt hS.1.1 hS.1.2 h900 (by omega) (by omega) (v_charAt_63 h0 h1 ⟨fun he => ⟨by omega, ih (fun j a b => ?_)⟩, fun hne => ?_⟩)⟩⟩
        · by_cases hj : j = i
          · subst hj; simp [he]
          · exact hf j a (by omega)
        · rw [bi_f (by unfold wdq; simp only [decide_eq_false_iff_not]; rw [fI_eq h0 h1 (by simp [hne]) hf]; omega)] at hK
          exact hK
    exact key 0 (by omega) (by omega) (fun j a b => by omega)
  · rw [bi_f (by unfold wdq; simp only [decide_eq_false_iff_not]; omega)] at hK
    exact hK
theorem s_takeItem {K : Int → St → Prop} {T σ : St} (hL : LR 9 T σ) (hT : OKL T) {a v b : Int} (h1 : ∀ σ', Sm [9, 10, 11, 12, 13] σ σ' → (T 0 0 < 48 ∧ plcq T a v = -1) → LR 9 (addI T a v b) σ' → K 1 σ') (h0 : ¬ (T 0 0 < 48 ∧ plcq T a v = -1) → K 0 σ) : CI M_Re_takeItem [vR 8, vI a, vI v, vI b] σ K := by
  apply e_Re_takeItem
  refine s_isFull_9 hL (fun h => ⟨fun _ => h0 (by omega), fun h => by omega⟩) (fun hn => ⟨fun h => absurd rfl h, fun _ => s_indexOf_9 hL hT ?_⟩)
  rw [show fI (fun i => decide (T 1 i = a ∧ T 2 i = v)) (T 0 0) = plcq T a v from rfl]
  exact ⟨fun hp => s_append_9 hL hT.1 hn (fun σ1 s1 l1 => h1 σ1 s1 ⟨hn, hp⟩ l1), fun hp => h0 (fun q => hp q.2)⟩
theorem s_takeAudit {K : Int → St → Prop} {T σ : St} (hL : LR 9 T σ) (hT : OKL T) {a v b : Int} (hb : 0 ≤ b) (h1 : ∀ σ', Sm [9, 10, 11, 12, 13] σ σ' → (plcq T a v ≠ -1 ∧ co T (plcq T a v) ≠ 0 ∧ b ≤ 2 * T 3 (plcq T a v)) → LR 9 (ups T 4 (plcq T a v) b) σ' → K 1 σ') (h0 : ¬ (plcq T a v ≠ -1 ∧ co T (plcq T a v) ≠ 0 ∧ b ≤ 2 * T 3 (plcq T a v)) → K 0 σ) : CI M_Re_takeAudit [vR 8, vI a, vI v, vI b] σ K := by
  apply e_Re_takeAudit
  have h48 := hT.2.1
  refine s_indexOf_9 hL hT ?_
  rw [show fI (fun i => decide (T 1 i = a ∧ T 2 i = v)) (T 0 0) = plcq T a v from rfl]
  have hp := plcq_in hT (a := a) (v := v)
  generalize plcq T a v = i at *
  refine s_coinsOf_9 hL hT (fun i0 i1 => ⟨fun hc => h0 (fun q => q.2.1 hc), fun hc => s_mayBeWorth_9 hL hT (fun _ _ _ w1 => ⟨fun _ => ⟨i0, by omega, h1 _ (Sm.rf.up (by decide)) ⟨by omega, hc, w1⟩ ⟨hL.1, fun j x y => ?_⟩⟩, fun h => by omega⟩) (fun h => ⟨fun h => absurd rfl h, fun _ => h0 (by omega)⟩)⟩) (fun h => ⟨fun _ => h0 (by omega), fun h => absurd rfl h⟩)
  obtain ⟨g1, g2, g3, g4⟩ := hL.2 j x y
  refine ⟨g1, g2, g3, (?_ : ups σ 13 i b 13 j = ups T 4 i b 4 j)⟩
  by_cases hj : j = i
  · subst hj; rw [ups_s, ups_s]
  · rw [ups_f hj, ups_f hj]; exact g4
def scR : List Nat := [8, 9, 10, 11, 12, 13]
/-- what a line leaves -/
def LNR (A : St) (n p : Int) (T : St) (σ' : St) : Prop := ((lnF A n p T).1 ≠ 0 ∧ ∃ q, PN A n q ∧ RS A n q (lnF A n p T) σ') ∨ ((lnF A n p T).1 = 0 ∧ PN A n (lnP A n p) ∧ RS A n (lnP A n p) (0, -1) σ' ∧ LR 9 (tkT A n p T) σ')
theorem s_readLine {K : St → Prop} {A σ : St} {n p : Int} {T : St} (hS : RS A n p (0, -1) σ) (hP : PN A n p) (hL : LR 9 T σ) (hT : OKL T) (hK : ∀ σ', Sm scR σ σ' → LNR A n p T σ' → K σ') : CV M_Re_readLine [vR 8] σ K := by
  apply e_Re_readLine
  have hpos := pos_in (A := A) hP.2.2.2
  have h900 := hP.2.1
  have hnL := hP.1
  have hp0 := hP.2.2.1
  have pn : ∀ q, p ≤ q → q ≤ n → PN A n q := fun q a b => ⟨hnL, h900, by omega, b⟩
  have RSmv : ∀ {q : Int} {s : Int × Int} {σ1 σ2 : St}, RS A n q s σ1 → Sm [9, 10, 11, 12, 13] σ1 σ2 → RS A n q s σ2 := fun {q s σ1 σ2} h hs => ⟨⟨by rw [hs 1 (by decide)]; exact h.1.1, fun i a b => by rw [hs 2 (by decide)]; exact h.1.2 i a b⟩, by rw [hs 8 (by decide)]; exact h.2.1, by rw [hs 8 (by decide)]; exact h.2.2.1, by rw [hs 8 (by decide)]; exact h.2.2.2.1, by rw [hs 8 (by decide)]; exact h.2.2.2.2⟩
  rw [hS.2.2.1]
  -- the end of a line, behind what was taken
  have semi : ∀ τ, Sm scR σ τ → RS A n (pEq A n p) (0, -1) τ → (s3q A n p).1 = 0 → tkB A n p T = true → LR 9 (tkT A n p T) τ → CI M_Re_skipSign [vR 8, vI 59] τ (fun v20 σ19 => (¬ v20 = 0 → K σ19) ∧ (v20 = 0 → CV M_Re_fail [vR 8, vI 1, vI (σ19 8 5)] σ19 (fun σ22 => K σ22))) := by
    intro τ t1 t2 t3 t4 t5
    have eF : lnF A n p T = if hr A n (sb A n (pEq A n p)) = 59 then (0, -1) else (1, sb A n (pEq A n p)) := by
      unfold lnF
      rw [if_neg (by omega), if_neg (by simp [t4])]
    refine v_skipSign t2 (pn _ (by omega) (by omega)) (fun σ1 s1 he r1 => ⟨fun _ => hK σ1 (t1.tr (s1.wk (by decide))) (Or.inr ⟨by rw [eF, if_pos he], ?_, r1, LR9.sm t5 s1 (by decide)⟩), fun h => by omega⟩) (fun σ1 s1 hne r1 => ⟨fun h => absurd rfl h, fun _ => ?_⟩)
    · have hlt : sb A n (pEq A n p) < n := by
        rcases Int.lt_or_le (sb A n (pEq A n p)) n with g | g
        · exact g
        · rw [hr_end g] at he; omega
      exact pn _ (by unfold lnP; omega) (by unfold lnP; omega)
    · rw [r1.2.2.1]
      refine s_fail r1 (by omega) (fun σ2 s2 r2 => hK σ2 ((t1.tr (s1.wk (by decide))).tr (s2.wk (by decide))) (Or.inl ⟨by rw [eF, if_neg hne]; show (1 : Int) ≠ 0; omega, sb A n (pEq A n p), pn _ (by omega) (by omega), ?_⟩))
      rw [eF, if_neg hne]
      rw [fq_e rfl (by omega)] at r2
      exact r2
  -- a fault in the line's words and numbers
  have dead : ∀ τ q, Sm scR σ τ → PN A n q → RS A n q (s3q A n p) τ → (s3q A n p).1 ≠ 0 → K τ := fun τ q t1 t2 t3 t4 => hK τ t1 (Or.inl (by
    have eF : lnF A n p T = s3q A n p := by unfold lnF; rw [if_pos t4]
    rw [eF]
    exact ⟨t4, q, t2, t3⟩))
  -- it can't be
  have cant : ∀ τ, Sm scR σ τ → RS A n (pEq A n p) (0, -1) τ → (s3q A n p).1 = 0 → tkB A n p T = false → CV M_Re_fail [vR 8, vI 3, vI p] τ (fun σ24 => K σ24) := fun τ t1 t2 t3 t4 => by
    have eF : lnF A n p T = (3, p) := by unfold lnF; rw [if_neg (by omega), if_pos t4]
    refine s_fail t2 (by omega) (fun σ2 s2 r2 => hK σ2 (t1.tr (s2.wk (by decide))) (Or.inl ?_))
    rw [eF]
    rw [fq_e rfl (by omega)] at r2
    exact ⟨by show (3 : Int) ≠ 0; omega, _, pn _ (by omega) (by omega), r2⟩
  have live : (s3q A n p).1 = 0 → s3q A n p = (0, -1) := fun h => by
    have z3 := fq_z (s := s2q A n p) h
    have z2 := fq_z (s := s1q A n p) z3.1
    have z1 := fq_z (s := s0q A n p) z2.1
    have e : s3q A n p = s0q A n p := z3.2.2.trans (z2.2.2.trans z1.2.2)
    rw [e]
    unfold s0q
    split
    · rfl
    · next hn =>
      have := z1.1
      unfold s0q at this
      rw [if_neg hn] at this
      exact absurd this (by show ¬ (1 : Int) = 0; omega)
  refine s_skipWord hS hP (fun σ1 s1 r1 => v_isWord_62 r1 (pn _ (by omega) (by omega)) hp0 (by omega) ?_)
  rw [show wdq A p (sw A n p) 4 wit = isI A n p from rfl]
  have t1 : Sm scR σ σ1 := s1.wk (by decide)
  -- an audit's line, or none
  have aud : ∀ τ, Sm scR σ τ → LR 9 T τ → isI A n p = false → RS A n (sw A n p) (s0q A n p) τ → CI M_Re_readNumber [vR 8, vI 99] τ (fun v44 σ43 => CI M_Re_readNumber [vR 8, vI 9999] σ43 (fun v46 σ45 => CI M_Re_readNumber [vR 8, vI 99999] σ45 (fun v48 σ47 => ((σ47 8 1) = 0 → CI M_Re_takeAudit [vR 8, vI v44, vI v46, vI v48] σ47 (fun v51 σ50 => (¬ v51 = 0 → CI M_Re_skipSign [vR 8, vI 59] σ50 (fun v54 σ53 => (¬ v54 = 0 → K σ53) ∧ (v54 = 0 → CV M_Re_fail [vR 8, vI 1, vI (σ53 8 5)] σ53 (fun σ56 => K σ56)))) ∧ (v51 = 0 → CV M_Re_fail [vR 8, vI 3, vI p] σ50 (fun σ58 => K σ58)))) ∧ (¬ (σ47 8 1) = 0 → K σ47)))) := by
    intro τ t1 tL hi r1
    have eS : pSq A n p = pVq A n p := by unfold pSq; rw [if_neg (by simp [hi])]
    refine v_readNumber r1 (pn _ (by omega) (by omega)) (fun σ2 s2 r2 => v_readNumber (p := pAq A n p) r2 (pn _ (by omega) (by omega)) (fun σ3 s3 r3 => v_readNumber (p := pVq A n p) r3 (pn _ (by omega) (by omega)) (fun σ4 s4 r4 => ?_)))
    have t4 : Sm scR σ σ4 := ((t1.tr (s2.wk (by decide))).tr (s3.wk (by decide))).tr (s4.wk (by decide))
    have L4 : LR 9 T σ4 := LR9.sm (LR9.sm (LR9.sm tL s2 (by decide)) s3 (by decide)) s4 (by decide)
    rw [← eS] at r4 ⊢
    have r4 : RS A n (pEq A n p) (s3q A n p) σ4 := r4
    rw [r4.2.2.2.1]
    refine ⟨fun hz => ?_, fun hz => dead σ4 _ t4 (pn _ (by omega) (by omega)) r4 hz⟩
    have r5 := r4
    rw [live hz] at r5
    have hb := nuv_in (A := A) (n := n) (p := pSq A n p) (by omega)
    have eB : tkB A n p T = decide (plcq T (vAq A n p) (vVq A n p) ≠ -1 ∧ co T (plcq T (vAq A n p) (vVq A n p)) ≠ 0 ∧ vBq A n p ≤ 2 * T 3 (plcq T (vAq A n p) (vVq A n p))) := by unfold tkB; rw [if_neg (by simp [hi])]
    have eT : tkT A n p T = ups T 4 (plcq T (vAq A n p) (vVq A n p)) (vBq A n p) := by unfold tkT; rw [if_neg (by simp [hi])]
    refine s_takeAudit (a := vAq A n p) (v := vVq A n p) (b := vBq A n p) L4 hT hb.1 (fun σ5 s5 ok l5 => ⟨fun _ => semi σ5 (t4.tr (s5.wk (by decide))) (RSmv r5 s5) hz (by rw [eB]; exact decide_eq_true ok) (by rw [eT]; exact l5), fun h => by omega⟩) (fun no => ⟨fun h => absurd rfl h, fun _ => cant σ4 t4 r5 hz (by rw [eB]; exact decide_eq_false no)⟩)
  cases hi : isI A n p with
  | true =>
    refine ⟨fun _ => ?_, fun h => by simp [bi] at h⟩
    have e0 : s0q A n p = (0, -1) := by unfold s0q; rw [hi]; rfl
    rw [← e0] at r1
    refine v_readNumber r1 (pn _ (by omega) (by omega)) (fun σ2 s2 r2 => v_readNumber (p := pAq A n p) r2 (pn _ (by omega) (by omega)) (fun σ3 s3 r3 => ?_))
    have t3 : Sm scR σ σ3 := (t1.tr (s2.wk (by decide))).tr (s3.wk (by decide))
    have r3 : RS A n (pVq A n p) (s2q A n p) σ3 := r3
    -- behind the sign: the amount, and what is taken
    have tail : ∀ σ4, Sm scR σ σ4 → LR 9 T σ4 → RS A n (pSq A n p) (s2q A n p) σ4 → ∀ (Kc : Int → St → Prop), (∀ σ5, Sm scR σ σ5 → LR 9 T σ5 → RS A n (pEq A n p) (s3q A n p) σ5 → Kc (vBq A n p) σ5) → CI M_Re_readNumber [vR 8, vI 99999] σ4 Kc := fun σ4 t4 l4 r4 Kc hk => v_readNumber r4 (pn _ (by omega) (by omega)) (fun σ5 s5 r5 => hk σ5 (t4.tr (s5.wk (by decide))) (LR9.sm l4 s5 (by decide)) r5)
    have L3 : LR 9 T σ3 := LR9.sm (LR9.sm (LR9.sm hL s1 (by decide)) s2 (by decide)) s3 (by decide)
    have hb := nuv_in (A := A) (n := n) (p := pSq A n p) (by omega)
    have hb' : 0 ≤ vBq A n p ∧ vBq A n p ≤ 99999 := hb
    have eB : tkB A n p T = decide (T 0 0 < 48 ∧ plcq T (vAq A n p) (vVq A n p) = -1) := by unfold tkB; rw [if_pos hi]
    have take : ∀ b, (if mns A n p then -vBq A n p else vBq A n p) = b → ∀ σ5, Sm scR σ σ5 → LR 9 T σ5 → RS A n (pEq A n p) (s3q A n p) σ5 → (s3q A n p).1 = 0 → CI M_Re_takeItem [vR 8, vI (vAq A n p), vI (vVq A n p), vI b] σ5 (fun v17 σ16 => (¬ v17 = 0 → CI M_Re_skipSign [vR 8, vI 59] σ16 (fun v20 σ19 => (¬ v20 = 0 → K σ19) ∧ (v20 = 0 → CV M_Re_fail [vR 8, vI 1, vI (σ19 8 5)] σ19 (fun σ22 => K σ22)))) ∧ (v17 = 0 → CV M_Re_fail [vR 8, vI 3, vI p] σ16 (fun σ24 => K σ24))) := fun b eb σ5 t5 l5 r5 hz => by
      rw [live hz] at r5
      have eT : tkT A n p T = addI T (vAq A n p) (vVq A n p) b := by unfold tkT; rw [if_pos hi, eb]
      exact s_takeItem l5 hT (fun σ6 s6 ok l6 => ⟨fun _ => semi σ6 (t5.tr (s6.wk (by decide))) (RSmv r5 s6) hz (by rw [eB]; exact decide_eq_true ok) (by rw [eT]; exact l6), fun h => by omega⟩) (fun no => ⟨fun h => absurd rfl h, fun _ => cant σ5 t5 r5 hz (by rw [eB]; exact decide_eq_false no)⟩)
    refine v_skipSign r3 (pn _ (by omega) (by omega)) (fun σ4 s4 he r4 => ⟨fun h => by omega, fun _ => ?_⟩) (fun σ4 s4 hne r4 => ⟨fun _ => ?_, fun h => absurd rfl h⟩)
    · have em : mns A n p = true := by unfold mns; simp [hi, he]
      have eS : pSq A n p = sb A n (pVq A n p) + 1 := by unfold pSq; rw [if_pos hi, if_pos em]
      rw [← eS] at r4
      refine tail σ4 (t3.tr (s4.wk (by decide))) (LR9.sm L3 s4 (by decide)) r4 _ (fun σ5 t5 l5 r5 => ?_)
      rw [r5.2.2.2.1]
      exact ⟨fun hz => ⟨by omega, take (-vBq A n p) (by rw [if_pos em]) σ5 t5 l5 r5 hz⟩, fun hz => dead σ5 _ t5 (pn _ (by omega) (by omega)) r5 hz⟩
    · have em : mns A n p = false := by unfold mns; simp [hne]
      have eS : pSq A n p = sb A n (pVq A n p) := by unfold pSq; rw [if_pos hi, if_neg (by simp [em])]
      rw [← eS] at r4
      refine tail σ4 (t3.tr (s4.wk (by decide))) (LR9.sm L3 s4 (by decide)) r4 _ (fun σ5 t5 l5 r5 => ?_)
      rw [r5.2.2.2.1]
      exact ⟨fun hz => take (vBq A n p) (by rw [if_neg (by simp [em])]) σ5 t5 l5 r5 hz, fun hz => dead σ5 _ t5 (pn _ (by omega) (by omega)) r5 hz⟩
  | false =>
    refine ⟨fun h => absurd rfl h, fun _ => v_isWord_63 r1 (pn _ (by omega) (by omega)) hp0 (by omega) ?_⟩
    rw [show wdq A p (sw A n p) 5 wau = isU A n p from rfl]
    have L1 : LR 9 T σ1 := LR9.sm hL s1 (by decide)
    cases hu : isU A n p with
    | true =>
      have e0 : s0q A n p = (0, -1) := by unfold s0q; rw [hi, hu]; rfl
      rw [← e0] at r1
      exact ⟨fun _ => aud σ1 t1 L1 hi r1, fun h => by simp [bi] at h⟩
    | false =>
      have e0 : s0q A n p = (1, p) := by unfold s0q; rw [hi, hu]; rfl
      refine ⟨fun h => absurd rfl h, fun _ => s_fail r1 (by omega) (fun σ2 s2 r2 => ?_)⟩
      rw [fq_e rfl (by omega), ← e0] at r2
      exact aud σ2 (t1.tr (s2.wk (by decide))) (LR9.sm L1 s2 (by decide)) hi r2
theorem s_read {K : St → Prop} {A σ : St} (hTp : σ 1 1 = A 0 4 ∧ ∀ i, 0 ≤ i → i < A 0 4 → σ 2 i = A 7 i) (h900 : A 0 4 ≤ 900) {n : Int} (hn0 : 0 ≤ n) (hn1 : n ≤ A 0 4) (hK : ∀ σ', Sm scR σ σ' → σ' 8 1 = (psq A n 900 (sb A n 0) T0).1.1 → σ' 8 2 = (psq A n 900 (sb A n 0) T0).1.2 → ((psq A n 900 (sb A n 0) T0).1.1 = 0 → LR 9 (psq A n 900 (sb A n 0) T0).2 σ') → K σ') : CV M_Re_read [vR 8, vI n] σ K := by
  apply e_Re_read
  have hP0 : PN A n 0 := ⟨hn1, h900, Int.le_refl _, hn0⟩
  have r0 : RS A n 0 (0, -1) (ups (ups (ups (ups (ups σ 9 4 0) 8 1 0) 8 2 (-1)) 8 4 n) 8 5 0) := ⟨hTp, rfl, rfl, rfl, rfl⟩
  have m0 : Sm scR σ (ups (ups (ups (ups (ups σ 9 4 0) 8 1 0) 8 2 (-1)) 8 4 n) 8 5 0) := ((((Sm.rf.up (by decide)).up (by decide)).up (by decide)).up (by decide)).up (by decide)
  refine s_skipBlanks r0 hP0 (fun σ1 s1 r1 => ?_)
  have hb := sb_in (A := A) hn0
  generalize hR : psq A n 900 (sb A n 0) T0 = R at hK
  have key : ∀ m : Nat, ∀ x p T τ, x + m = 900 → 0 ≤ x → PN A n p → OKL T → Sm scR σ τ → RS A n p (0, -1) τ → LR 9 T τ → psq A n m p T = R → WM M_Re_read 34 [(0, vR 8), (2, vI x)] [] τ (QV K) := by
    intro m
    induction m with
    | zero =>
      intro x p T τ h1 h2 h3 h4 h5 h6 h7 h8
      apply l_Re_read_1
      subst h8
      exact ⟨fun _ => hK τ h5 h6.2.2.2.1 h6.2.2.2.2 (fun _ => h7), fun h => by omega⟩
    | succ m ih =>
      intro x p T τ h1 h2 h3 h4 h5 h6 h7 h8
      apply l_Re_read_1
      rw [h6.2.1, h6.2.2.1, h6.2.2.2.1]
      have hp2 := h3.2.2
      unfold psq at h8
      refine ⟨fun h => by omega, fun _ => ⟨fun hle => ?_, fun hgt => ⟨fun h => absurd rfl h, fun _ => s_readLine h6 h3 h7 h4 (fun σ2 s2 hl => ?_)⟩⟩⟩
      · rw [if_pos hle] at h8
        subst h8
        exact hK τ h5 h6.2.2.2.1 h6.2.2.2.2 (fun _ => h7)
      · rw [if_neg hgt] at h8
        rcases hl with ⟨hf, q, hq, rq⟩ | ⟨hf, hq, rq, lq⟩
        · rw [if_pos hf] at h8
          refine s_skipBlanks rq hq (fun σ3 s3 r3 => ⟨by omega, ?_⟩)
          -- a fault: it ends
          apply l_Re_read_1
          rw [r3.2.1, r3.2.2.1, r3.2.2.2.1]
          have out : K σ3 := by
            subst h8
            refine hK σ3 ((h5.tr s2).tr (s3.wk (by decide))) r3.2.2.2.1 r3.2.2.2.2 (fun h => absurd h hf)
          exact ⟨fun _ => out, fun _ => ⟨fun _ => out, fun _ => ⟨fun _ => out, fun h => absurd h hf⟩⟩⟩
        · rw [if_neg (by omega)] at h8
          refine s_skipBlanks rq hq (fun σ3 s3 r3 => ⟨by omega, ih (x + 1) _ (tkT A n p T) σ3 (by omega) (by omega) ?_ (ln_ok (by omega) h4 hf).2.2 ((h5.tr s2).tr (s3.wk (by decide))) r3 (LR9.sm lq s3 (by decide)) h8⟩)
          have := sb_in (A := A) hq.2.2.2
          have := hq.2.2.1
          exact ⟨hn1, h900, by omega, by omega⟩
  refine key 900 0 (sb A n 0) T0 σ1 (by omega) (by omega) ⟨hn1, h900, by omega, hb.2⟩ T0_ok (m0.tr (s1.wk (by decide))) r1 ⟨?_, fun i a b => absurd b (by show ¬ i < 0; omega)⟩ hR
  rw [s1 9 (by decide)]
  rfl
theorem c_text {K : Int → St → Prop} {A σ : St} (hCr : CR A σ) (hF : FC σ) (hA : OKA A) {n : Int} (hK : EC (q_text A n).2 σ (q_text A n).1 K) : CI M_Cs_text [vR 0, vI n] σ K := by
  apply e_Cs_text
  have hL := hA.2.2.2.2.1
  have ht := hCr.2.2.2.2.1
  have bad : (n < 0 ∨ A 0 4 < n) → K (-3) σ := fun h => ecl hK (show q_text A n = (-3, A) by unfold q_text; rw [if_pos h]) hCr hF UC.rf
  rw [ht.1]
  refine ⟨fun h => bad (Or.inl h), fun h0 => ⟨fun h1 => s_read ht hL.2 (by omega) h1 (fun σ1 s1 f1 f2 f3 => ?_), fun h => bad (by omega)⟩⟩
  have hok := psq_ok (A := A) (n := n) 900 (sb A n 0) T0 T0_ok
  have h3 := psq_3 (A := A) (n := n) 900 (sb A n 0) T0
  generalize hR : psq A n 900 (sb A n 0) T0 = R at *
  have q : ∀ c, c ∉ scR → ∀ j, σ1 c j = σ c j := s1
  obtain ⟨c1, c2, c3, c4, c5, c6⟩ := hCr
  rw [f1]
  refine ⟨fun hz => ?_, fun hz => ⟨by omega, ?_⟩⟩
  · refine s_become (f3 hz) hok (fun σ2 s2 l2 => ?_)
    apply e_Wa_forgetRuns
    have T2 : TR A (ups σ2 20 1 0) := fun k a b => by
      rw [ups_c (by decide), s2 15 (by decide), ups_c (by decide), q 15 (by decide)]
      exact c2 k a b
    refine v_of T2 (by omega) (by omega) ?_
    have l2' : LR 3 R.2 (ups (ups σ2 20 1 0) 20 0 (A 6 4)) := l2
    refine s_lay_16 (A := R.2) (v := 0) l2' hok (fun σ3 s3 y3 => ?_)
    have z : ∀ c, c ∉ scR → c ∉ [3, 4, 5, 6, 7] → c ≠ 1 → c ≠ 16 → c ≠ 17 → c ≠ 20 → c ≠ 35 → ∀ j, σ3 c j = σ c j := fun c h1 h2 h3 h4 h5 h6 h7 j => by
      rw [s3 c j h4 h5 h7, ups_c h6, ups_c h6, s2 c h2, ups_c h3]
      exact q c h1 j
    rw [s3 3 4 (by decide) (by decide) (by decide), ups_c (by decide), ups_c (by decide), l2.1]
    have e8 : ∀ j, σ3 8 j = σ1 8 j := fun j => by rw [s3 8 j (by decide) (by decide) (by decide), ups_c (by decide), ups_c (by decide), s2 8 (by decide), ups_c (by decide)]
    have eq : q_text A n = (R.2 0 0, txA A R.2) := by unfold q_text; rw [if_neg (by omega), hR, if_neg (by omega)]
    refine ecl hK eq ⟨⟨?_, fun i a b => ?_⟩, fun k a b => ?_, y3, WR0 ?_ ?_ rfl, ⟨?_, fun i a b => absurd b (by show ¬ i < 0; omega)⟩, ?_, ?_⟩ ?_ ?_
    · rw [s3 3 4 (by decide) (by decide) (by decide), ups_c (by decide), ups_c (by decide), l2.1]; rfl
    · rw [s3 _ i (by decide) (by decide) (by decide), s3 _ i (by decide) (by decide) (by decide), s3 _ i (by decide) (by decide) (by decide), s3 _ i (by decide) (by decide) (by decide)]
      exact l2.2 i a b
    · rw [z 15 (by decide) (by decide) (by decide) (by decide) (by decide) (by decide) (by decide)]; exact c2 k a b
    · rw [s3 20 0 (by decide) (by decide) (by decide), ups_s]; rfl
    · rw [s3 20 1 (by decide) (by decide) (by decide), ups_f (by decide), ups_s]; rfl
    · rw [s3 1 1 (by decide) (by decide) (by decide), ups_c (by decide), ups_c (by decide), s2 1 (by decide), ups_s]; rfl
    · rw [e8, f1]; exact hz
    · rw [e8, f2]
      have : R.1.2 = -1 := by
        have := psq_z (A := A) (n := n) 900 (sb A n 0) T0
        rw [hR] at this
        exact this hz
      rw [this]; rfl
    · intro k a b
      rw [z 27 (by decide) (by decide) (by decide) (by decide) (by decide) (by decide) (by decide), z 26 (by decide) (by decide) (by decide) (by decide) (by decide) (by decide) (by decide), z 26 (by decide) (by decide) (by decide) (by decide) (by decide) (by decide) (by decide)]
      exact hF k a b
    · intro c hc j
      have hne : ∀ x, ¬ mdl x → c ≠ x := fun x hx e => hx (e ▸ hc)
      refine z c ?_ ?_ (hne _ (by decide)) (hne _ (by decide)) (hne _ (by decide)) (hne _ (by decide)) (hne _ (by decide)) j
      · intro hm
        have : ∀ x ∈ scR, ¬ mdl x := by decide
        exact this c hm hc
      · intro hm
        have : ∀ x ∈ [3, 4, 5, 6, 7], ¬ mdl x := by decide
        exact this c hm hc
  · have eq : q_text A n = (-30 - R.1.1, ups (ups (ups A 0 5 R.1.1) 0 6 R.1.2) 0 4 0) := by unfold q_text; rw [if_neg (by omega), hR, if_pos hz]
    have w : ∀ c, c ∉ scR → c ≠ 1 → ∀ j, ups σ1 1 1 0 c j = σ c j := fun c h1 h2 j => by rw [ups_c h2]; exact q c h1 j
    refine ecl hK eq ⟨⟨?_, fun i a b => ?_⟩, fun k a b => ?_, ⟨?_, ?_, ?_, fun i a b => ?_, fun i a b => ?_⟩, ⟨?_, ?_, fun r a b => ?_, fun k a b => ?_⟩, ⟨?_, fun i a b => absurd b (by show ¬ i < 0; omega)⟩, ?_, ?_⟩ ?_ ?_
    · rw [w 3 (by decide) (by decide)]; exact c1.1
    · rw [w _ (by decide) (by decide), w _ (by decide) (by decide), w _ (by decide) (by decide), w _ (by decide) (by decide)]; exact c1.2 i a b
    · rw [w 15 (by decide) (by decide)]; exact c2 k a b
    · rw [w 16 (by decide) (by decide)]; exact c3.1
    · rw [w 16 (by decide) (by decide)]; exact c3.2.1
    · rw [w 16 (by decide) (by decide)]; exact c3.2.2.1
    · rw [w _ (by decide) (by decide)]; exact c3.2.2.2.1 i a b
    · rw [w _ (by decide) (by decide)]; exact c3.2.2.2.2 i a b
    · rw [w 20 (by decide) (by decide)]; exact c4.1
    · rw [w 20 (by decide) (by decide)]; exact c4.2.1
    · rw [w 21 (by decide) (by decide), w 25 (by decide) (by decide)]; exact c4.2.2.1 r a b
    · rw [w 22 (by decide) (by decide), w 23 (by decide) (by decide), w 24 (by decide) (by decide)]; exact c4.2.2.2 k a b
    · rw [ups_s]; rfl
    · rw [ups_c (by decide), f1]; rfl
    · rw [ups_c (by decide), f2]; rfl
    · intro k a b
      rw [w 27 (by decide) (by decide), w 26 (by decide) (by decide), w 26 (by decide) (by decide)]
      exact hF k a b
    · intro c hc j
      refine w c ?_ (fun e => absurd hc (by rw [e]; decide)) j
      intro hm
      have : ∀ x ∈ scR, ¬ mdl x := by decide
      exact this c hm hc

