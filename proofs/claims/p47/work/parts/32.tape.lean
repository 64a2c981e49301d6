-- coins hit, the tape's bytes, a line's signs
theorem cI_uniq {p : Int → Bool} {n j0 : Int} (h0 : 0 ≤ j0) (h1 : j0 < n) (h : ∀ j, 0 ≤ j → j < n → (p j = true ↔ j = j0)) : cI p n = 1 := by
  have e : cI p n = cI (fun v => decide (v = j0)) n := cI_congr (by omega) (fun j a b => by
    have := h j a b
    cases hp : p j
    · simp [hp] at this; simp [this]
    · simp [hp] at this; simp [this])
  rw [e]
  have : ∀ i, 0 ≤ i → j0 < i → cI (fun v => decide (v = j0)) i = 1 := by
    refine nn_ind (fun h => by omega) (fun i hi ih h => ?_)
    by_cases hj : i = j0
    · rw [cI_t hi (by simp [hj]), (cI_one (c := j0) i hi).2 (by omega)]; omega
    · rw [cI_f hi (by simp [hj]), ih (by omega)]
  exact this n (by omega) h1
theorem cI_none {p : Int → Bool} : ∀ n, 0 ≤ n → (∀ j, 0 ≤ j → j < n → p j = false) → cI p n = 0 := by
  refine nn_ind (fun _ => rfl) (fun i hi ih h => ?_)
  rw [cI_f hi (h i hi (by omega)), ih (fun j a b => h j a (by omega))]
theorem cI_shift {p : Int → Bool} {a : Int} (ha : 0 ≤ a) : ∀ d, 0 ≤ d → cI p (a + d) = cI p a + cI (fun j => p (a + j)) d := by
  refine nn_ind (by rw [Int.add_zero, cI_0, Int.add_zero]) (fun d hd ih => ?_)
  rw [← Int.add_assoc]
  cases hp : p (a + d) with
  | true => rw [cI_t (by omega) hp, cI_t (p := fun j => p (a + j)) hd hp, ih]; omega
  | false => rw [cI_f (by omega) hp, cI_f (p := fun j => p (a + j)) hd hp, ih]
/-- hits counted run by run -/
theorem cI_hits {A : St} (hA : OKA A) {p : Int → Bool} {q : Int → Bool} (h : ∀ r, 0 ≤ r → r < A 0 2 → cI (fun j => p (hb A r + j)) (nh A (A 0 1) (A 5 r)) = bi (q r)) : ∀ r, 0 ≤ r → r ≤ A 0 2 → cI p (hb A r) = cI q r := by
  refine nn_ind (fun _ => rfl) (fun r hr ih hle => ?_)
  have h1 := hb_in hA hr (by omega)
  have h2 := nh_in hA.1 (v := A 0 1) hA.2.1.1 (hA.2.2.1.2.2.2 r hr (by omega)).1
  rw [hb_s hr, cI_shift h1.1 _ h2.1, ih (by omega), h r hr (by omega)]
  cases hq : q r with
  | true => rw [cI_t hr hq]; rfl
  | false => rw [cI_f hr hq]; simp [bi]
/-- a coin of the rest is hit by the runs that start where it lies in its interval -/
theorem coin_hits {A : St} (hA : OKA A) {c : Int} (h0 : 1 ≤ c) (h1 : c ≤ Mq A (A 0 1)) : cI (fun k => decide (hC A k = c)) (hb A (A 0 2)) = cI (fun r => decide ((c - 1) % A 0 1 + 1 = A 5 r)) (A 0 2) := by
  refine cI_hits hA (fun r a b => ?_) _ hA.2.2.1.1 (Int.le_refl _)
  have hs := hA.2.2.1.2.2.2 r a b
  have hiv : 0 < A 0 1 := by omega
  have hn := nh_in hA.1 (v := A 0 1) hA.2.1.1 hs.1
  have e1 := Int.emod_add_mul_ediv (c - 1) (A 0 1)
  have e2 := Int.emod_nonneg (c - 1) (show A 0 1 ≠ 0 by omega)
  have e3 := Int.emod_lt_of_pos (c - 1) hiv
  have hc : ∀ j, 0 ≤ j → j < nh A (A 0 1) (A 5 r) → ((fun j => decide (hC A (hb A r + j) = c)) j = true ↔ A 5 r + j * A 0 1 = c) := fun j x y => by
    simp only [decide_eq_true_eq]
    rw [hC_eq hA a b x y]
  by_cases hq : (c - 1) % A 0 1 + 1 = A 5 r
  · rw [bi_t (by simpa using hq)]
    have hj : A 5 r + (c - 1) / A 0 1 * A 0 1 = c := by rw [Int.mul_comm]; omega
    have hj0 : 0 ≤ (c - 1) / A 0 1 := Int.ediv_nonneg (by omega) (by omega)
    refine cI_uniq (j0 := (c - 1) / A 0 1) hj0 ?_ (fun j x y => ?_)
    · have hne : ¬ (A 0 1 = 0 ∨ Mq A (A 0 1) < A 5 r) := by
        have := Int.mul_nonneg hj0 (show 0 ≤ A 0 1 by omega)
        omega
      unfold nh
      rw [if_neg hne]
      have : (c - 1) / A 0 1 ≤ (Mq A (A 0 1) - A 5 r) / A 0 1 := (Int.le_ediv_iff_mul_le hiv).mpr (by omega)
      omega
    · rw [hc j x y]
      refine ⟨fun h => ?_, fun h => by rw [h]; exact hj⟩
      have : j * A 0 1 = (c - 1) / A 0 1 * A 0 1 := by omega
      exact Int.eq_of_mul_eq_mul_right (by omega) this
  · rw [bi_f (by simpa using hq)]
    refine cI_none _ hn.1 (fun j x y => ?_)
    cases hp : (fun j => decide (hC A (hb A r + j) = c)) j with
    | false => exact hp
    | true =>
      have h := (hc j x y).mp hp
      exfalso
      apply hq
      rw [show c - 1 = (A 5 r - 1) + A 0 1 * j by rw [Int.mul_comm]; omega, Int.add_mul_emod_self_left, Int.emod_eq_of_lt (by omega) (by omega)]
      omega
/-- how often an item is hit: once by each run that hits it -/
theorem item_hits {A : St} (hA : OKA A) {i : Int} (h0 : 0 ≤ i) (h1 : i < A 0 0) : ∀ R, 0 ≤ R → R ≤ A 0 2 → cI (fun k => decide (hI A k = i)) (hb A R) = th A R i := by
  refine cI_hits hA (fun r a b => ?_)
  have hs := hA.2.2.1.2.2.2 r a b
  have hiv : 0 < A 0 1 := by omega
  have hn := nh_in hA.1 (v := A 0 1) hA.2.1.1 hs.1
  have hf := fc_in hA.1 (v := A 0 1) h0 h1
  have hr := rc_lt (A := A) (i := i) hiv
  have e2 := Int.emod_nonneg (A 5 r - fc A (A 0 1) i) (show A 0 1 ≠ 0 by omega)
  have e3 := Int.emod_lt_of_pos (A 5 r - fc A (A 0 1) i) hiv
  have e1 := Int.emod_add_mul_ediv (A 5 r - fc A (A 0 1) i) (A 0 1)
  have hc : ∀ j, 0 ≤ j → j < nh A (A 0 1) (A 5 r) → ((fun j => decide (hI A (hb A r + j) = i)) j = true ↔ (prq A (A 0 1) i < A 5 r + j * A 0 1 ∧ A 5 r + j * A 0 1 ≤ prq A (A 0 1) i + rc A (A 0 1) i)) := fun j x y => by
    have hco := nh_coin hA.1 (v := A 0 1) hA.2.1.1 hs.1 hs.2 x y
    have ho := ow_spec hA.1 (v := A 0 1) hco.1 hco.2.1
    simp only [decide_eq_true_eq]
    unfold hI
    rw [hC_eq hA a b x y]
    refine ⟨fun h => ?_, fun h => ow_eq hA.1 h0 h1 h.1 h.2⟩
    rw [h] at ho
    exact ⟨ho.2.2.2.1, ho.2.2.2.2⟩
  cases hq : sk A (A 0 1) (A 5 r) i with
  | true =>
    unfold sk at hq
    simp only [decide_eq_true_eq] at hq
    -- the coin
    have hj0 : (A 5 r - fc A (A 0 1) i) / A 0 1 ≤ 0 := by
      have : (A 5 r - fc A (A 0 1) i) / A 0 1 < 1 := (Int.ediv_lt_iff_lt_mul hiv).mpr (by omega)
      omega
    have hcoin : A 5 r + (-((A 5 r - fc A (A 0 1) i) / A 0 1)) * A 0 1 = fc A (A 0 1) i + (A 5 r - fc A (A 0 1) i) % A 0 1 := by
      rw [Int.neg_mul, Int.mul_comm]; omega
    refine cI_uniq (j0 := -((A 5 r - fc A (A 0 1) i) / A 0 1)) (by omega) ?_ (fun j x y => ?_)
    · have hne : ¬ (A 0 1 = 0 ∨ Mq A (A 0 1) < A 5 r) := by
        have := Int.mul_nonneg (show 0 ≤ -((A 5 r - fc A (A 0 1) i) / A 0 1) by omega) (show 0 ≤ A 0 1 by omega)
        omega
      unfold nh
      rw [if_neg hne]
      have : -((A 5 r - fc A (A 0 1) i) / A 0 1) ≤ (Mq A (A 0 1) - A 5 r) / A 0 1 := (Int.le_ediv_iff_mul_le hiv).mpr (by omega)
      omega
    · rw [hc j x y]
      refine ⟨fun h => ?_, fun h => by rw [h, hcoin]; omega⟩
      -- two coins of one item, an interval apart
      generalize hX : -((A 5 r - fc A (A 0 1) i) / A 0 1) = X at hcoin ⊢
      rcases Int.lt_trichotomy j X with g | g | g
      · have : (j + 1) * A 0 1 ≤ X * A 0 1 := Int.mul_le_mul_of_nonneg_right (by omega) (by omega)
        rw [Int.add_mul] at this
        omega
      · exact g
      · have : (X + 1) * A 0 1 ≤ j * A 0 1 := Int.mul_le_mul_of_nonneg_right (by omega) (by omega)
        rw [Int.add_mul] at this
        omega
  | false =>
    refine cI_none _ hn.1 (fun j x y => ?_)
    cases hp : (fun j => decide (hI A (hb A r + j) = i)) j with
    | false => exact hp
    | true =>
      have h := (hc j x y).mp hp
      exfalso
      have : sk A (A 0 1) (A 5 r) i = true := by
        unfold sk
        simp only [decide_eq_true_eq]
        refine ⟨hiv, by omega, ?_⟩
        have hco : fc A (A 0 1) i = prq A (A 0 1) i + 1 := by omega
        rw [show A 5 r - fc A (A 0 1) i = (A 5 r + j * A 0 1 - fc A (A 0 1) i) + A 0 1 * (-j) by rw [Int.mul_neg, Int.mul_comm]; omega, Int.add_mul_emod_self_left, Int.emod_eq_of_lt (by omega) (by omega)]
        omega
      rw [this] at hq
      cases hq
theorem v_timesCoinHit {K : Int → St → Prop} {A σ : St} (hW : WR A σ) (hA : OKA A) {c : Int} (hK : K (cI (fun k => decide (hC A k = c)) (hb A (A 0 2))) σ) : CI M_Wa_timesCoinHit [vR 20, vI c] σ K := by
  apply e_Wa_timesCoinHit
  have hh := hb_in hA hA.2.2.1.1 (Int.le_refl _)
  have h5 := hA.2.2.1.2.1
  have key : ∀ k, 0 ≤ k → k ≤ hb A (A 0 2) → WM M_Wa_timesCoinHit 4 [(0, vR 20), (1, vI c), (2, vI (cI (fun k => decide (hC A k = c)) k)), (3, vI k)] [] σ (QI K) := by
    refine up_ind ?_ (fun k a b ih => ?_)
    · apply l_Wa_timesCoinHit_1
      rw [hW.2.1]
      exact v_hitsOf hW hA hA.2.2.1.1 (Int.le_refl _) ⟨fun _ => hK, fun h => by omega⟩
    · apply l_Wa_timesCoinHit_1
      rw [hW.2.1]
      have hc := cI_in (p := fun k => decide (hC A k = c)) a
      refine v_hitsOf hW hA hA.2.2.1.1 (Int.le_refl _) ?_
      rw [(hW.2.2.2 k a b).2.1]
      refine ⟨fun h => by omega, fun _ => ⟨a, by omega, fun h => ⟨by omega, ?_⟩, fun h => ⟨by omega, by omega, ?_⟩⟩⟩
      · rw [cI_f a (by simp [h])] at ih; exact ih
      · rw [cI_t a (by simp [h])] at ih; exact ih
  exact key 0 (by omega) hh.1
-- the tape
def bv (x sh : Int) : Int := ((x / 2 ^ sh.toNat) + 128) % 256 - 128
theorem bv_in (x sh : Int) : -128 ≤ bv x sh ∧ bv x sh ≤ 127 := by unfold bv; omega
theorem shr_in {x : Int} (h : inR x) (n : Nat) : inR (x / 2 ^ n) := by
  have hp : (0 : Int) < 2 ^ n := Int.pow_pos (by decide)
  have h1 : (-2147483648 : Int) * 2 ^ n ≤ -2147483648 * 1 := by
    have := mul_le_l (c := 2147483648) (show (1 : Int) ≤ 2 ^ n by omega) (by decide)
    omega
  have h2 : (2147483648 : Int) * 1 ≤ 2147483648 * 2 ^ n := mul_le_l (by omega) (by decide)
  have h3 := (Int.le_ediv_iff_mul_le (a := -2147483648) (b := x) hp).mpr (by omega)
  have h4 := (Int.ediv_lt_iff_lt_mul (a := x) (b := 2147483648) hp).mpr (by omega)
  omega
/-- behind L bytes stand k more, those of f -/
def TB (L : Int) (B f : Int → Int) (k : Int) (σ : St) : Prop := σ 1 1 = L + k ∧ (∀ j, 0 ≤ j → j < L → σ 2 j = B j) ∧ ∀ d, 0 ≤ d → d < k → σ 2 (L + d) = f d
theorem s_write {K : St → Prop} {σ : St} {L k x : Int} {B f : Int → Int} (hL : 0 ≤ L) (hk : 0 ≤ k) (hLk : L + k ≤ 896) (hT : TB L B f k σ) (hf : ∀ e, 0 ≤ e → e < 4 → f (k + e) = bv x (24 - 8 * e)) (hK : ∀ σ', Sm [1, 2] σ σ' → TB L B f (k + 4) σ' → K σ') : CV M_Ta_write [vR 1, vI x] σ K := by
  apply e_Ta_write
  have key : ∀ e, 0 ≤ e → e ≤ 4 → ∀ τ, Sm [1, 2] σ τ → TB L B f (k + e) τ → WM M_Ta_write 3 [(0, vR 1), (1, vI x), (2, vI (24 - 8 * e))] [] τ (QV K) := by
    refine up_ind (fun τ t1 t2 => ?_) (fun e a b ih τ t1 t2 => ?_)
    · apply l_Ta_write_1
      exact ⟨fun _ => hK τ t1 t2, fun h => by omega⟩
    · refine WM.wf (fun _ hl => ?_)
      have hx : inR x := hl (1, vI x) (by simp)
      apply l_Ta_write_1
      rw [t2.1]
      have hs := shr_in hx (24 - 8 * e).toNat
      have hb := bv_in x (24 - 8 * e)
      refine ⟨fun h => by omega, fun _ => ⟨fun h => by omega, fun _ => ⟨by omega, by omega, hs, by omega, by omega, hb.1, hb.2, by omega, by omega, ?_⟩⟩⟩
      rw [show ((x / 2 ^ (24 - 8 * e).toNat) + 128) % 256 - 128 = bv x (24 - 8 * e) from rfl, show 24 - 8 * e + -8 = 24 - 8 * (e + 1) by omega]
      refine ih _ ((t1.up (by decide)).up (by decide)) ⟨by rw [ups_s]; omega, fun j x y => ?_, fun d x y => ?_⟩
      · rw [ups_c (by decide), ups_f (by omega)]; exact t2.2.1 j x y
      · rw [ups_c (by decide)]
        by_cases hd : d = k + e
        · subst hd; rw [ups_s]; exact (hf e a b).symm
        · rw [ups_f (by omega)]; exact t2.2.2 d x (by omega)
  have := key 0 (by omega) (by omega) σ Sm.rf (by rw [Int.add_zero]; exact hT)
  exact this
theorem v_byteAt {K : Int → St → Prop} {A σ : St} (h1 : σ 1 1 = A 0 4) (h2 : ∀ i, 0 ≤ i → i < A 0 4 → σ 2 i = A 7 i) (h900 : A 0 4 ≤ 900) {x : Int} (h0 : 0 ≤ x) (hx : x < A 0 4) (hK : K (A 7 x % 256) σ) : CI M_Ta_byteAt [vR 1, vI x] σ K := by
  apply e_Ta_byteAt
  rw [h1, h2 x h0 hx]
  exact ⟨fun h => by omega, fun _ => ⟨fun h => by omega, fun _ => ⟨h0, by omega, hK⟩⟩⟩
-- signs
abbrev Txt : Type := Int × (Int → Int)
def sgn (T : Txt) (c : Int) : Txt := (T.1 + 1, fun j => if j = T.1 then c else T.2 j)
def nme (v : Int) : Nat → Txt → Txt
  | 0, T => T
  | e + 1, T => nme v e (sgn T (48 + v / 10 ^ e % 10))
def dgs (v : Int) : Nat := if v < 10 then 1 else if v < 100 then 2 else if v < 1000 then 3 else if v < 10000 then 4 else if v < 100000 then 5 else 6
def nmb (T : Txt) (v : Int) : Txt := nme v (dgs v) T
theorem nme_len (v : Int) : ∀ (e : Nat) (T : Txt), (nme v e T).1 = T.1 + e := by
  intro e
  induction e with
  | zero => intro T; show T.1 = T.1 + 0; omega
  | succ e ih => intro T; show (nme v e _).1 = _; rw [ih]; show T.1 + 1 + (e : Int) = _; omega
theorem dgs_in (v : Int) : 1 ≤ dgs v ∧ dgs v ≤ 6 := by
  unfold dgs
  repeat' split
  all_goals omega
theorem nmb_len (v : Int) (T : Txt) : T.1 + 1 ≤ (nmb T v).1 ∧ (nmb T v).1 ≤ T.1 + 6 := by
  unfold nmb
  rw [nme_len]
  have := dgs_in v
  omega
def pw : Nat → Int
  | 0 => 0
  | e + 1 => 10 ^ e
theorem pw_div (e : Nat) : pw (e + 1) / 10 = pw e := by
  cases e with
  | zero => rfl
  | succ e => show (10 : Int) ^ (e + 1) / 10 = 10 ^ e; rw [Int.pow_succ]; exact Int.mul_ediv_cancel _ (by decide)
def lnT (A : St) (R i : Int) : Txt :=
  let T := nmb (sgn (nmb (sgn (nmb (0, fun _ => 0) (A 1 i)) 47) (A 2 i)) 32) (A 3 i)
  let U := if ce A (A 0 1) i then sgn T 33 else nmb (sgn T 120) (th A R i)
  if A 4 i = -1 then U else nmb (sgn (sgn U 32) 61) (A 4 i)
def TXc (T : Txt) (σ : St) : Prop := 0 ≤ T.1 ∧ σ 33 1 = T.1 ∧ ∀ j, 0 ≤ j → j < T.1 → σ 34 j = T.2 j
theorem s_sign {K : St → Prop} {σ : St} {T : Txt} (hT : TXc T σ) (hl : T.1 < 32) {c : Int} (hc0 : 0 ≤ c) (hc1 : c < 65536) (hK : ∀ σ', Sm [33, 34] σ σ' → TXc (sgn T c) σ' → K σ') : CV M_Li_sign [vR 33, vI c] σ K := by
  apply e_Li_sign
  rw [hT.2.1]
  have hT0 := hT.1
  refine ⟨fun h => by omega, fun _ => ⟨hT.1, hl, hc0, hc1, by omega, hK _ ((Sm.rf.up (by decide)).up (by decide)) ⟨by show 0 ≤ T.1 + 1; have := hT.1; omega, by rw [ups_s]; rfl, fun j a b => ?_⟩⟩⟩
  have b : j < T.1 + 1 := b
  show _ = if j = T.1 then c else T.2 j
  rw [ups_c (by decide)]
  by_cases hj : j = T.1
  · subst hj; rw [ups_s, if_pos rfl]
  · rw [ups_f hj, if_neg hj]; exact hT.2.2 j a (by omega)
theorem s_number {K : St → Prop} {σ : St} {T : Txt} (hT : TXc T σ) (hl : T.1 ≤ 26) {v : Int} (hv0 : 0 ≤ v) (hv1 : v < 1000000) (hK : ∀ σ', Sm [33, 34] σ σ' → TXc (nmb T v) σ' → K σ') : CV M_Li_number [vR 33, vI v] σ K := by
  apply e_Li_number
  have key : ∀ (e : Nat) (U : Txt) (τ : St), U.1 + e ≤ 32 → Sm [33, 34] σ τ → TXc U τ → nme v e U = nmb T v → WM M_Li_number 29 [(0, vR 33), (1, vI v), (2, vI (pw e))] [] τ (QV K) := by
    intro e
    induction e with
    | zero =>
      intro U τ h1 h2 h3 h4
      apply l_Li_number_2
      refine ⟨fun _ => hK τ h2 (by rw [← h4]; exact h3), fun h => absurd (Int.le_refl 0) h⟩
    | succ e ih =>
      intro U τ h1 h2 h3 h4
      have hp : (0 : Int) < 10 ^ e := Int.pow_pos (by decide)
      have hpe : pw (e + 1) = 10 ^ e := rfl
      have hd := pw_div e
      apply l_Li_number_2
      rw [hd]
      have hq := Int.ediv_nonneg hv0 (show (0 : Int) ≤ 10 ^ e by omega)
      rw [hpe]
      have ec : (48 + v / 10 ^ e % 10) % 65536 = 48 + v / 10 ^ e % 10 := by omega
      refine ⟨fun h => by omega, fun _ => ⟨hv0, hp, hq, by omega, ?_⟩⟩
      rw [ec]
      exact s_sign h3 (by omega) (by omega) (by omega) (fun σ' s1 s2 => ⟨by omega, ih _ σ' (by show U.1 + 1 + (e : Int) ≤ 32; omega) (h2.tr s1) s2 h4⟩)
  have go : ∀ e : Nat, dgs v = e → e ≤ 6 → WM M_Li_number 29 [(0, vR 33), (1, vI v), (2, vI (pw e))] [] σ (QV K) := fun e he h6 => key e T σ (by omega) Sm.rf hT (by unfold nmb; rw [he])
  have k6 : ¬ v < 100000 → WM M_Li_number 4 [(0, vR 33), (1, vI v), (2, vI 100000), (3, vI 6)] [] σ (QV K) := fun h => by
    apply l_Li_number_1
    exact ⟨fun h => by omega, fun _ => ⟨hv0, fun _ => go 6 (by unfold dgs; repeat rw [if_neg (by omega)]) (by omega), fun h => by omega⟩⟩
  have k5 : ¬ v < 10000 → WM M_Li_number 4 [(0, vR 33), (1, vI v), (2, vI 10000), (3, vI 5)] [] σ (QV K) := fun h => by
    apply l_Li_number_1
    exact ⟨fun h => by omega, fun _ => ⟨hv0, fun h2 => go 5 (by unfold dgs; repeat (first | rw [if_neg (by omega)] | rw [if_pos (by omega)])) (by omega), fun h2 => ⟨by omega, by omega, k6 (by omega)⟩⟩⟩
  have k4 : ¬ v < 1000 → WM M_Li_number 4 [(0, vR 33), (1, vI v), (2, vI 1000), (3, vI 4)] [] σ (QV K) := fun h => by
    apply l_Li_number_1
    exact ⟨fun h => by omega, fun _ => ⟨hv0, fun h2 => go 4 (by unfold dgs; repeat (first | rw [if_neg (by omega)] | rw [if_pos (by omega)])) (by omega), fun h2 => ⟨by omega, by omega, k5 (by omega)⟩⟩⟩
  have k3 : ¬ v < 100 → WM M_Li_number 4 [(0, vR 33), (1, vI v), (2, vI 100), (3, vI 3)] [] σ (QV K) := fun h => by
    apply l_Li_number_1
    exact ⟨fun h => by omega, fun _ => ⟨hv0, fun h2 => go 3 (by unfold dgs; repeat (first | rw [if_neg (by omega)] | rw [if_pos (by omega)])) (by omega), fun h2 => ⟨by omega, by omega, k4 (by omega)⟩⟩⟩
  have k2 : ¬ v < 10 → WM M_Li_number 4 [(0, vR 33), (1, vI v), (2, vI 10), (3, vI 2)] [] σ (QV K) := fun h => by
    apply l_Li_number_1
    exact ⟨fun h => by omega, fun _ => ⟨hv0, fun h2 => go 2 (by unfold dgs; repeat (first | rw [if_neg (by omega)] | rw [if_pos (by omega)])) (by omega), fun h2 => ⟨by omega, by omega, k3 (by omega)⟩⟩⟩
  have k1 : True → WM M_Li_number 4 [(0, vR 33), (1, vI v), (2, vI 1), (3, vI 1)] [] σ (QV K) := fun h => by
    apply l_Li_number_1
    exact ⟨fun h => by omega, fun _ => ⟨hv0, fun h2 => go 1 (by unfold dgs; repeat (first | rw [if_neg (by omega)] | rw [if_pos (by omega)])) (by omega), fun h2 => ⟨by omega, by omega, k2 (by omega)⟩⟩⟩
  exact k1 trivial

