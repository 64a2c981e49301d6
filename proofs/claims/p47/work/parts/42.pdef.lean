-- how a text is read (plain words): up to n bytes
def hr (A : St) (n p : Int) : Int := if p < n then A 7 p % 256 else -1
def skN (h : Int → Int) (f : Int → Bool) : Nat → Int → Int
  | 0, p => p
  | k + 1, p => if f (h p) then skN h f k (p + 1) else p
def skp (A : St) (n : Int) (f : Int → Bool) (p : Int) : Int := skN (hr A n) f (n - p).toNat p
def fBl (x : Int) : Bool := decide (x = 32)
def fLe (x : Int) : Bool := decide (97 ≤ x ∧ x ≤ 122)
def fDi (x : Int) : Bool := decide (48 ≤ x ∧ x ≤ 57)
def sb (A : St) (n p : Int) : Int := skp A n fBl p
def sw (A : St) (n p : Int) : Int := skp A n fLe p
def sd (A : St) (n p : Int) : Int := skp A n fDi p
theorem hr_end {A : St} {n p : Int} (h : n ≤ p) : hr A n p = -1 := by unfold hr; rw [if_neg (by omega)]
theorem hr_at {A : St} {n p : Int} (h : p < n) : hr A n p = A 7 p % 256 := by unfold hr; rw [if_pos h]
theorem hr_in {A : St} {n p : Int} : -1 ≤ hr A n p ∧ hr A n p ≤ 255 := by unfold hr; split <;> omega
theorem skp_no {A : St} {n p : Int} {f : Int → Bool} (h : f (hr A n p) = false) : skp A n f p = p := by
  unfold skp
  cases hk : (n - p).toNat with
  | zero => rfl
  | succ k => unfold skN; rw [if_neg (by simp [h])]
theorem skp_yes {A : St} {n p : Int} {f : Int → Bool} (hp : p < n) (h : f (hr A n p) = true) : skp A n f p = skp A n f (p + 1) := by
  unfold skp
  rw [show (n - p).toNat = (n - (p + 1)).toNat + 1 by omega]
  conv => lhs; unfold skN
  rw [if_pos h]
theorem skp_in {A : St} {n : Int} {f : Int → Bool} : ∀ p, p ≤ n → p ≤ skp A n f p ∧ skp A n f p ≤ n := by
  have : ∀ m : Nat, ∀ p, p ≤ n → (n - p).toNat = m → p ≤ skp A n f p ∧ skp A n f p ≤ n := by
    intro m
    induction m with
    | zero =>
      intro p h1 h2
      unfold skp
      rw [h2]
      exact ⟨Int.le_refl _, h1⟩
    | succ m ih =>
      intro p h1 h2
      cases hf : f (hr A n p) with
      | false => rw [skp_no hf]; omega
      | true =>
        rw [skp_yes (by omega) hf]
        have := ih (p + 1) (by omega) (by omega)
        omega
  exact fun p h => this _ p h rfl
theorem sb_in {A : St} {n p : Int} (h : p ≤ n) : p ≤ sb A n p ∧ sb A n p ≤ n := skp_in p h
theorem sw_in {A : St} {n p : Int} (h : p ≤ n) : p ≤ sw A n p ∧ sw A n p ≤ n := skp_in p h
theorem sd_in {A : St} {n p : Int} (h : p ≤ n) : p ≤ sd A n p ∧ sd A n p ≤ n := skp_in p h
/-- where a skip ends it is over -/
theorem skp_end {A : St} {n : Int} {f : Int → Bool} (hf : f (-1) = false) : ∀ p, p ≤ n → f (hr A n (skp A n f p)) = false := by
  have : ∀ m : Nat, ∀ p, p ≤ n → (n - p).toNat = m → f (hr A n (skp A n f p)) = false := by
    intro m
    induction m with
    | zero =>
      intro p h1 h2
      unfold skp
      rw [h2]
      show f (hr A n p) = false
      rw [hr_end (by omega)]
      exact hf
    | succ m ih =>
      intro p h1 h2
      cases hh : f (hr A n p) with
      | false => rw [skp_no hh]; exact hh
      | true =>
        rw [skp_yes (by omega) hh]
        exact ih (p + 1) (by omega) (by omega)
  exact fun p h => this _ p h rfl
/-- the number that the digits from a place on tell, five of them at most -/
def dvN (h : Int → Int) (o : Int) : Nat → Int → Int → Int
  | 0, _, v => v
  | k + 1, p, v => if fDi (h p) then dvN h o k (p + 1) (if p - o < 5 then 10 * v + h p - 48 else v) else v
def dvq (A : St) (n o p v : Int) : Int := dvN (hr A n) o (n - p).toNat p v
theorem dvq_no {A : St} {n o p v : Int} (h : fDi (hr A n p) = false) : dvq A n o p v = v := by
  unfold dvq
  cases hk : (n - p).toNat with
  | zero => rfl
  | succ k => unfold dvN; rw [if_neg (by simp [h])]
theorem dvq_yes {A : St} {n o p v : Int} (hp : p < n) (h : fDi (hr A n p) = true) : dvq A n o p v = dvq A n o (p + 1) (if p - o < 5 then 10 * v + hr A n p - 48 else v) := by
  unfold dvq
  rw [show (n - p).toNat = (n - (p + 1)).toNat + 1 by omega]
  conv => lhs; unfold dvN
  rw [if_pos h]
def dv (A : St) (n p : Int) : Int := dvq A n p p 0
/-- so far told: as many digits as there were -/
def vok (d v : Int) : Prop := 0 ≤ v ∧ v ≤ 99999 ∧ (d ≤ 0 → v = 0) ∧ (d ≤ 1 → v ≤ 9) ∧ (d ≤ 2 → v ≤ 99) ∧ (d ≤ 3 → v ≤ 999) ∧ (d ≤ 4 → v ≤ 9999)
theorem vok_s {d v x : Int} (hd : 0 ≤ d) (h : vok d v) (hx0 : 48 ≤ x) (hx1 : x ≤ 57) : vok (d + 1) (if d < 5 then 10 * v + x - 48 else v) := by
  unfold vok at h ⊢
  split <;> omega
theorem dvq_in {A : St} {n o : Int} : ∀ p v, p ≤ n → o ≤ p → vok (p - o) v → 0 ≤ dvq A n o p v ∧ dvq A n o p v ≤ 99999 := by
  have : ∀ m : Nat, ∀ p v, p ≤ n → o ≤ p → (n - p).toNat = m → vok (p - o) v → 0 ≤ dvq A n o p v ∧ dvq A n o p v ≤ 99999 := by
    intro m
    induction m with
    | zero =>
      intro p v h1 h2 h3 h4
      rw [dvq_no (by rw [hr_end (by omega)]; rfl)]
      exact ⟨h4.1, h4.2.1⟩
    | succ m ih =>
      intro p v h1 h2 h3 h4
      cases hf : fDi (hr A n p) with
      | false => rw [dvq_no hf]; exact ⟨h4.1, h4.2.1⟩
      | true =>
        rw [dvq_yes (by omega) hf]
        unfold fDi at hf
        simp only [decide_eq_true_eq] at hf
        refine ih (p + 1) _ (by omega) (by omega) (by omega) ?_
        rw [show p + 1 - o = (p - o) + 1 by omega]
        exact vok_s (by omega) h4 hf.1 hf.2
  exact fun p v h1 h2 h4 => this _ p v h1 h2 rfl h4
theorem vok_0 : vok 0 0 := by unfold vok; omega
theorem dv_in {A : St} {n p : Int} (h : p ≤ n) : 0 ≤ dv A n p ∧ dv A n p ≤ 99999 := dvq_in p 0 h (Int.le_refl _) (by rw [Int.sub_self]; exact vok_0)
/-- a number: what it is, where it ends, its fault -/
def nuv (A : St) (n p : Int) : Int := dv A n (sb A n p)
def nup (A : St) (n p : Int) : Int := sd A n (sb A n p)
def nue (A : St) (n g p : Int) : Int := if sd A n (sb A n p) = sb A n p then 1 else if 5 < sd A n (sb A n p) - sb A n p ∨ g < dv A n (sb A n p) then 2 else 0
theorem nuv_in {A : St} {n p : Int} (h : p ≤ n) : 0 ≤ nuv A n p ∧ nuv A n p ≤ 99999 := dv_in (sb_in h).2
theorem nup_in {A : St} {n p : Int} (h : p ≤ n) : p ≤ nup A n p ∧ nup A n p ≤ n := by
  have h1 := sb_in (A := A) h
  have h2 := sd_in (A := A) h1.2
  unfold nup
  omega
theorem nue_0 {A : St} {n g p : Int} (h : nue A n g p = 0) : nuv A n p ≤ g := by
  unfold nue at h
  unfold nuv
  split at h
  · omega
  · split at h
    · omega
    · omega
/-- the first fault counts -/
def fq (s : Int × Int) (e l : Int) : Int × Int := if s.1 ≠ 0 ∨ e = 0 then s else (e, l)
theorem fq_z {s : Int × Int} {e l : Int} (h : (fq s e l).1 = 0) : s.1 = 0 ∧ e = 0 ∧ fq s e l = s := by
  unfold fq at h ⊢
  by_cases hh : s.1 ≠ 0 ∨ e = 0
  · rw [if_pos hh] at h ⊢
    exact ⟨h, by omega, rfl⟩
  · rw [if_neg hh] at h
    have h : e = 0 := h
    omega
theorem fq_n {s : Int × Int} {e l : Int} (h : s.1 ≠ 0) : fq s e l = s := by unfold fq; rw [if_pos (Or.inl h)]
theorem fq_e {s : Int × Int} {e l : Int} (h : s.1 = 0) (he : e ≠ 0) : fq s e l = (e, l) := by unfold fq; rw [if_neg (by omega)]
theorem fq_0 {s : Int × Int} {l : Int} : fq s 0 l = s := by unfold fq; rw [if_pos (Or.inr rfl)]
def wit (i : Int) : Int := if i = 0 then 105 else if i = 1 then 116 else if i = 2 then 101 else 109
def wau (i : Int) : Int := if i = 0 then 97 else if i = 1 then 117 else if i = 2 then 100 else if i = 3 then 105 else 116
def wdq (A : St) (o p l : Int) (w : Int → Int) : Bool := decide (p - o = l ∧ fI (fun i => decide (A 7 (o + i) % 256 ≠ w i)) l = -1)
def isI (A : St) (n p : Int) : Bool := wdq A p (sw A n p) 4 wit
def isU (A : St) (n p : Int) : Bool := wdq A p (sw A n p) 5 wau
def pAq (A : St) (n p : Int) : Int := nup A n (sw A n p)
def pVq (A : St) (n p : Int) : Int := nup A n (pAq A n p)
def mns (A : St) (n p : Int) : Bool := isI A n p && decide (hr A n (sb A n (pVq A n p)) = 45)
def pSq (A : St) (n p : Int) : Int := if isI A n p then (if mns A n p then sb A n (pVq A n p) + 1 else sb A n (pVq A n p)) else pVq A n p
def pEq (A : St) (n p : Int) : Int := nup A n (pSq A n p)
def s0q (A : St) (n p : Int) : Int × Int := if isI A n p || isU A n p then (0, -1) else (1, p)
def s1q (A : St) (n p : Int) : Int × Int := fq (s0q A n p) (nue A n 99 (sw A n p)) (sb A n (sw A n p))
def s2q (A : St) (n p : Int) : Int × Int := fq (s1q A n p) (nue A n 9999 (pAq A n p)) (sb A n (pAq A n p))
def s3q (A : St) (n p : Int) : Int × Int := fq (s2q A n p) (nue A n 99999 (pSq A n p)) (sb A n (pSq A n p))
def vAq (A : St) (n p : Int) : Int := nuv A n (sw A n p)
def vVq (A : St) (n p : Int) : Int := nuv A n (pAq A n p)
def vBq (A : St) (n p : Int) : Int := nuv A n (pSq A n p)
def tkB (A : St) (n p : Int) (T : St) : Bool := if isI A n p then decide (T 0 0 < 48 ∧ plcq T (vAq A n p) (vVq A n p) = -1) else decide (plcq T (vAq A n p) (vVq A n p) ≠ -1 ∧ co T (plcq T (vAq A n p) (vVq A n p)) ≠ 0 ∧ vBq A n p ≤ 2 * T 3 (plcq T (vAq A n p) (vVq A n p)))
def tkT (A : St) (n p : Int) (T : St) : St := if isI A n p then addI T (vAq A n p) (vVq A n p) (if mns A n p then -vBq A n p else vBq A n p) else ups T 4 (plcq T (vAq A n p) (vVq A n p)) (vBq A n p)
/-- a line: its fault and place, where it ends, what it makes of the ledger -/
def lnF (A : St) (n p : Int) (T : St) : Int × Int := if (s3q A n p).1 ≠ 0 then s3q A n p else if tkB A n p T = false then (3, p) else if hr A n (sb A n (pEq A n p)) = 59 then (0, -1) else (1, sb A n (pEq A n p))
def lnP (A : St) (n p : Int) : Int := sb A n (pEq A n p) + 1
def psq (A : St) (n : Int) : Nat → Int → St → (Int × Int) × St
  | 0, _, T => ((0, -1), T)
  | m + 1, p, T => if n ≤ p then ((0, -1), T) else if (lnF A n p T).1 ≠ 0 then (lnF A n p T, T) else psq A n m (sb A n (lnP A n p)) (tkT A n p T)
theorem plcq_in {T : St} (hT : OKL T) {a v : Int} : plcq T a v = -1 ∨ (0 ≤ plcq T a v ∧ plcq T a v < T 0 0) := by
  unfold plcq
  rcases fI_spec (fun i => decide (T 1 i = a ∧ T 2 i = v)) hT.1 with ⟨h, _⟩ | ⟨a, b, _⟩
  · exact Or.inl h
  · exact Or.inr ⟨a, b⟩
theorem pos_in {A : St} {n p : Int} (hp : p ≤ n) : p ≤ sw A n p ∧ sw A n p ≤ n ∧ sw A n p ≤ pAq A n p ∧ pAq A n p ≤ n ∧ pAq A n p ≤ pVq A n p ∧ pVq A n p ≤ n ∧ pVq A n p ≤ sb A n (pVq A n p) ∧ sb A n (pVq A n p) ≤ n ∧ pVq A n p ≤ pSq A n p ∧ pSq A n p ≤ n ∧ pSq A n p ≤ pEq A n p ∧ pEq A n p ≤ n ∧ pEq A n p ≤ sb A n (pEq A n p) ∧ sb A n (pEq A n p) ≤ n := by
  have h1 := sw_in (A := A) hp
  have h2 := nup_in (A := A) h1.2
  have h2' : sw A n p ≤ pAq A n p ∧ pAq A n p ≤ n := h2
  have h3 := nup_in (A := A) h2'.2
  have h3' : pAq A n p ≤ pVq A n p ∧ pVq A n p ≤ n := h3
  have h4 := sb_in (A := A) h3'.2
  have h5 : pVq A n p ≤ pSq A n p ∧ pSq A n p ≤ n := by
    unfold pSq
    split
    · split
      · next _ hm =>
        unfold mns at hm
        simp only [Bool.and_eq_true, decide_eq_true_eq] at hm
        have : sb A n (pVq A n p) < n := by
          rcases Int.lt_or_le (sb A n (pVq A n p)) n with h | h
          · exact h
          · have := hm.2
            rw [hr_end h] at this
            omega
        omega
      · omega
    · omega
  have h6 := nup_in (A := A) h5.2
  have h6' : pSq A n p ≤ pEq A n p ∧ pEq A n p ≤ n := h6
  have h7 := sb_in (A := A) h6'.2
  omega
/-- a line without a fault: it goes on, and its numbers are in their bounds -/
theorem ln_ok {A : St} {n p : Int} {T : St} (hp : p < n) (hT : OKL T) (h : (lnF A n p T).1 = 0) : p < lnP A n p ∧ lnP A n p ≤ n ∧ OKL (tkT A n p T) := by
  have hpos := pos_in (A := A) (n := n) (p := p) (by omega)
  unfold lnF at h
  by_cases h3 : (s3q A n p).1 ≠ 0
  · rw [if_pos h3] at h; exact absurd h h3
  · rw [if_neg h3] at h
    by_cases hk : tkB A n p T = false
    · rw [if_pos hk] at h
      exact absurd h (by show ¬ (3 : Int) = 0; omega)
    · rw [if_neg hk] at h
      by_cases h59 : hr A n (sb A n (pEq A n p)) = 59
      · have hlt : sb A n (pEq A n p) < n := by
          rcases Int.lt_or_le (sb A n (pEq A n p)) n with g | g
          · exact g
          · rw [hr_end g] at h59; omega
        refine ⟨by unfold lnP; omega, by unfold lnP; omega, ?_⟩
        have z3 := fq_z (s := s2q A n p) (show (s3q A n p).1 = 0 by omega)
        have z2 := fq_z (s := s1q A n p) z3.1
        have z1 := fq_z (s := s0q A n p) z2.1
        have a1 := nue_0 z1.2.1
        have a2 := nue_0 z2.2.1
        have b1 := nuv_in (A := A) (n := n) (p := sw A n p) (by omega)
        have b2 := nuv_in (A := A) (n := n) (p := pAq A n p) (by omega)
        have b3 := nuv_in (A := A) (n := n) (p := pSq A n p) (by omega)
        unfold tkB at hk
        unfold tkT
        by_cases hi : isI A n p = true
        · rw [if_pos hi] at hk ⊢
          simp only [decide_eq_false_iff_not, Classical.not_not] at hk
          refine addI_okL hT hk.1 b1.1 a1 b2.1 a2 ?_ ?_
          · show -99999 ≤ (if mns A n p = true then -nuv A n (pSq A n p) else nuv A n (pSq A n p)); split <;> omega
          · show (if mns A n p = true then -nuv A n (pSq A n p) else nuv A n (pSq A n p)) ≤ 99999; split <;> omega
        · rw [if_neg hi] at hk ⊢
          simp only [decide_eq_false_iff_not, Classical.not_not] at hk
          obtain ⟨k1, k2, k3⟩ := hk
          have hpi := plcq_in hT (a := vAq A n p) (v := vVq A n p)
          generalize plcq T (vAq A n p) (vVq A n p) = i at *
          have hc : 0 < T 3 i := by
            unfold co at k2
            split at k2
            · assumption
            · omega
          refine ⟨hT.1, hT.2.1, fun j x y => ?_⟩
          have := hT.2.2 j x y
          show 0 ≤ T 1 j ∧ T 1 j ≤ 99 ∧ 0 ≤ T 2 j ∧ T 2 j ≤ 9999 ∧ -99999 ≤ T 3 j ∧ T 3 j ≤ 99999 ∧ (ups T 4 i (vBq A n p) 4 j = -1 ∨ (0 ≤ ups T 4 i (vBq A n p) 4 j ∧ ups T 4 i (vBq A n p) 4 j ≤ 2 * T 3 j ∧ 0 < T 3 j))
          by_cases hj : j = i
          · subst hj
            rw [ups_s]
            have b3' : 0 ≤ vBq A n p := b3.1
            omega
          · rw [ups_f hj]; exact this
      · rw [if_neg h59] at h
        exact absurd h (by show ¬ (1 : Int) = 0; omega)
theorem psq_ok {A : St} {n : Int} : ∀ (m : Nat) (p : Int) (T : St), OKL T → OKL (psq A n m p T).2 := by
  intro m
  induction m with
  | zero => intro p T h; exact h
  | succ m ih =>
    intro p T h
    unfold psq
    split
    · exact h
    · split
      · exact h
      · next h1 h2 => exact ih _ _ (ln_ok (by omega) h (by omega)).2.2
def T0 : St := fun _ _ => 0
def txA (A : St) (T : St) : St := fun c j => if c = 1 ∨ c = 2 ∨ c = 3 ∨ c = 4 then T c j else if c = 0 then (if j = 0 then T 0 0 else if j = 3 then A 6 4 else if j = 6 then -1 else if j = 1 ∨ j = 2 ∨ j = 4 ∨ j = 5 then 0 else A 0 j) else A c j
def q_text (A : St) (n : Int) : Int × St := if n < 0 ∨ A 0 4 < n then (-3, A) else if (psq A n 900 (sb A n 0) T0).1.1 ≠ 0 then (-30 - (psq A n 900 (sb A n 0) T0).1.1, ups (ups (ups A 0 5 (psq A n 900 (sb A n 0) T0).1.1) 0 6 (psq A n 900 (sb A n 0) T0).1.2) 0 4 0) else ((psq A n 900 (sb A n 0) T0).2 0 0, txA A (psq A n 900 (sb A n 0) T0).2)
theorem T0_ok : OKL T0 := ⟨Int.le_refl _, by show (0 : Int) ≤ 48; omega, fun i a b => absurd b (by show ¬ i < 0; omega)⟩
theorem text_ok {A : St} (hA : OKA A) {n : Int} : OKA (q_text A n).2 := by
  have hT := psq_ok (A := A) (n := n) 900 (sb A n 0) T0 T0_ok
  unfold q_text
  split
  · exact hA
  · split
    · obtain ⟨a1, a2, a3, a4, a5, a6⟩ := hA
      exact ⟨a1, a2, a3, a4, ⟨by show (0 : Int) ≤ 0; omega, by show (0 : Int) ≤ 900; omega⟩, a6⟩
    · generalize (psq A n 900 (sb A n 0) T0).2 = T at hT
      obtain ⟨a1, a2, a3, a4, a5, a6⟩ := hA
      refine ⟨hT, ⟨by show (0 : Int) ≤ 0; omega, by show (0 : Int) ≤ 4799952; omega⟩, ⟨by show (0 : Int) ≤ 0; omega, by show (0 : Int) ≤ 5; omega, fun h => absurd h (by show ¬ (0 : Int) < 0; omega), fun r a b => absurd b (by show ¬ r < 0; omega)⟩, a6.2.2.2.2, ⟨by show (0 : Int) ≤ 0; omega, by show (0 : Int) ≤ 900; omega⟩, a6⟩
theorem lnF_3 {A : St} {n p : Int} {T : St} : 0 ≤ (lnF A n p T).1 ∧ (lnF A n p T).1 ≤ 3 := by
  have hn : ∀ g x, 0 ≤ nue A n g x ∧ nue A n g x ≤ 2 := fun g x => by unfold nue; (repeat' split) <;> omega
  have hf : ∀ (s : Int × Int) e l, 0 ≤ s.1 → s.1 ≤ 2 → 0 ≤ e → e ≤ 2 → 0 ≤ (fq s e l).1 ∧ (fq s e l).1 ≤ 2 := fun s e l a b c d => by
    unfold fq
    split
    · exact ⟨a, b⟩
    · exact ⟨c, d⟩
  have h0 : 0 ≤ (s0q A n p).1 ∧ (s0q A n p).1 ≤ 2 := by
    unfold s0q
    split
    · exact ⟨Int.le_refl _, by show (0 : Int) ≤ 2; omega⟩
    · exact ⟨by show (0 : Int) ≤ 1; omega, by show (1 : Int) ≤ 2; omega⟩
  have h1 := hf (s0q A n p) _ (sb A n (sw A n p)) h0.1 h0.2 (hn 99 (sw A n p)).1 (hn 99 (sw A n p)).2
  have h2 := hf (s1q A n p) _ (sb A n (pAq A n p)) h1.1 h1.2 (hn 9999 (pAq A n p)).1 (hn 9999 (pAq A n p)).2
  have h3 := hf (s2q A n p) _ (sb A n (pSq A n p)) h2.1 h2.2 (hn 99999 (pSq A n p)).1 (hn 99999 (pSq A n p)).2
  have h3 : 0 ≤ (s3q A n p).1 ∧ (s3q A n p).1 ≤ 2 := h3
  unfold lnF
  split
  · omega
  · split
    · exact ⟨by show (0 : Int) ≤ 3; omega, Int.le_refl _⟩
    · split
      · exact ⟨Int.le_refl _, by show (0 : Int) ≤ 3; omega⟩
      · exact ⟨by show (0 : Int) ≤ 1; omega, by show (1 : Int) ≤ 3; omega⟩
theorem psq_3 {A : St} {n : Int} : ∀ (m : Nat) (p : Int) (T : St), 0 ≤ (psq A n m p T).1.1 ∧ (psq A n m p T).1.1 ≤ 3 := by
  intro m
  induction m with
  | zero => intro p T; exact ⟨Int.le_refl _, by show (0 : Int) ≤ 3; omega⟩
  | succ m ih =>
    intro p T
    unfold psq
    split
    · exact ⟨Int.le_refl _, by show (0 : Int) ≤ 3; omega⟩
    · split
      · exact lnF_3
      · exact ih _ _
theorem psq_z {A : St} {n : Int} : ∀ (m : Nat) (p : Int) (T : St), (psq A n m p T).1.1 = 0 → (psq A n m p T).1.2 = -1 := by
  intro m
  induction m with
  | zero => intro p T _; rfl
  | succ m ih =>
    intro p T h
    unfold psq at h ⊢
    split
    · rfl
    · next h1 =>
      rw [if_neg h1] at h
      split
      · next h2 => rw [if_pos h2] at h; exact absurd h h2
      · next h2 => rw [if_neg h2] at h; exact ih _ _ h

