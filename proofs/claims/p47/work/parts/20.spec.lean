-- plain numbers: sums, first places, counts
def sN (f : Int → Int) : Nat → Int
  | 0 => 0
  | k + 1 => sN f k + f k
def sI (f : Int → Int) (i : Int) : Int := sN f i.toNat
theorem sI_0 {f : Int → Int} : sI f 0 = 0 := rfl
theorem sI_s {f : Int → Int} {i : Int} (h : 0 ≤ i) : sI f (i + 1) = sI f i + f i := by
  unfold sI
  rw [show (i + 1).toNat = i.toNat + 1 by omega]
  show sN f i.toNat + f (i.toNat : Int) = _
  rw [Int.toNat_of_nonneg h]
/-- from a place on, step by step, to the end -/
theorem up_ind {n : Int} {P : Int → Prop} (he : P n) (hs : ∀ i, 0 ≤ i → i < n → P (i + 1) → P i) : ∀ i, 0 ≤ i → i ≤ n → P i := by
  have key : ∀ (m : Nat) (i : Int), 0 ≤ i → i ≤ n → (n - i).toNat = m → P i := by
    intro m
    induction m with
    | zero => intro i h0 h1 h2; have : i = n := by omega
              subst this; exact he
    | succ m ih => intro i h0 h1 h2; exact hs i h0 (by omega) (ih (i + 1) (by omega) (by omega) (by omega))
  exact fun i h0 h1 => key _ i h0 h1 rfl
/-- from 0 on, by what stands at each place -/
theorem nn_ind {P : Int → Prop} (h0 : P 0) (hs : ∀ i, 0 ≤ i → P i → P (i + 1)) : ∀ i, 0 ≤ i → P i := by
  intro i hi
  have key : ∀ m : Nat, P (m : Int) := by
    intro m
    induction m with
    | zero => exact h0
    | succ m ih => have := hs m (by omega) ih; rwa [show ((m + 1 : Nat) : Int) = (m : Int) + 1 by omega]
  have := key i.toNat
  rwa [Int.toNat_of_nonneg hi] at this
theorem sI_congr {f g : Int → Int} {i : Int} (hi : 0 ≤ i) (h : ∀ j, 0 ≤ j → j < i → f j = g j) : sI f i = sI g i := by
  have : ∀ i, 0 ≤ i → ((∀ j, 0 ≤ j → j < i → f j = g j) → sI f i = sI g i) := by
    refine nn_ind (fun _ => rfl) (fun i hi ih h => ?_)
    rw [sI_s hi, sI_s hi, ih (fun j a b => h j a (by omega)), h i hi (by omega)]
  exact this i hi h
theorem sI_le {f : Int → Int} {b i : Int} (hi : 0 ≤ i) (h : ∀ j, 0 ≤ j → j < i → f j ≤ b) : sI f i ≤ b * i := by
  have : ∀ i, 0 ≤ i → ((∀ j, 0 ≤ j → j < i → f j ≤ b) → sI f i ≤ b * i) := by
    refine nn_ind (fun _ => by simp [sI_0]) (fun i hi ih h => ?_)
    rw [sI_s hi, Int.mul_add, Int.mul_one]
    have h1 := ih (fun j a b => h j a (by omega))
    have h2 := h i hi (by omega)
    omega
  exact this i hi h
theorem sI_ge {f : Int → Int} {b i : Int} (hi : 0 ≤ i) (h : ∀ j, 0 ≤ j → j < i → b ≤ f j) : b * i ≤ sI f i := by
  have : ∀ i, 0 ≤ i → ((∀ j, 0 ≤ j → j < i → b ≤ f j) → b * i ≤ sI f i) := by
    refine nn_ind (fun _ => by simp [sI_0]) (fun i hi ih h => ?_)
    rw [sI_s hi, Int.mul_add, Int.mul_one]
    have h1 := ih (fun j a b => h j a (by omega))
    have h2 := h i hi (by omega)
    omega
  exact this i hi h
theorem sI_nn {f : Int → Int} {i : Int} (hi : 0 ≤ i) (h : ∀ j, 0 ≤ j → j < i → 0 ≤ f j) : 0 ≤ sI f i := by
  have := sI_ge (b := 0) hi h
  omega
theorem sI_add {f g : Int → Int} {i : Int} (hi : 0 ≤ i) : sI (fun j => f j + g j) i = sI f i + sI g i := by
  have : ∀ i, 0 ≤ i → sI (fun j => f j + g j) i = sI f i + sI g i := by
    refine nn_ind rfl (fun i hi ih => ?_)
    rw [sI_s hi, sI_s hi, sI_s hi, ih]
    omega
  exact this i hi
/-- a sum grows by what stands between -/
theorem sI_mono {f : Int → Int} {i k : Int} (h0 : 0 ≤ i) (hik : i ≤ k) (h : ∀ j, i ≤ j → j < k → 0 ≤ f j) : sI f i ≤ sI f k := by
  have : ∀ d, 0 ≤ d → ((∀ j, i ≤ j → j < i + d → 0 ≤ f j) → sI f i ≤ sI f (i + d)) := by
    refine nn_ind (fun _ => by rw [Int.add_zero]; exact Int.le_refl _) (fun d hd ih h => ?_)
    rw [← Int.add_assoc, sI_s (by omega)]
    have h1 := ih (fun j a b => h j a (by omega))
    have h2 := h (i + d) (by omega) (by omega)
    omega
  have h2 := this (k - i) (by omega) (fun j a b => h j a (by omega))
  rwa [show i + (k - i) = k by omega] at h2
def bi (b : Bool) : Int := if b then 1 else 0
theorem bi_01 (b : Bool) : bi b = 0 ∨ bi b = 1 := by cases b <;> simp [bi]
theorem bi_t {b : Bool} (h : b = true) : bi b = 1 := by subst h; rfl
theorem bi_f {b : Bool} (h : b = false) : bi b = 0 := by subst h; rfl
/-- how many places below i are so -/
def cI (p : Int → Bool) (i : Int) : Int := sI (fun j => bi (p j)) i
theorem cI_0 {p : Int → Bool} : cI p 0 = 0 := rfl
theorem cI_t {p : Int → Bool} {i : Int} (h : 0 ≤ i) (hp : p i = true) : cI p (i + 1) = cI p i + 1 := by unfold cI; rw [sI_s h, bi_t hp]
theorem cI_f {p : Int → Bool} {i : Int} (h : 0 ≤ i) (hp : p i = false) : cI p (i + 1) = cI p i := by unfold cI; rw [sI_s h, bi_f hp, Int.add_zero]
theorem cI_in {p : Int → Bool} {i : Int} (h : 0 ≤ i) : 0 ≤ cI p i ∧ cI p i ≤ i := by
  have h1 := sI_nn (f := fun j => bi (p j)) h (fun j _ _ => by have := bi_01 (p j); omega)
  have h2 := sI_le (f := fun j => bi (p j)) (b := 1) h (fun j _ _ => by have := bi_01 (p j); omega)
  unfold cI
  omega
theorem cI_congr {p q : Int → Bool} {i : Int} (hi : 0 ≤ i) (h : ∀ j, 0 ≤ j → j < i → p j = q j) : cI p i = cI q i := sI_congr hi (fun j a b => by rw [h j a b])
/-- the first place below n that is so, or -1 -/
def fN (p : Int → Bool) : Nat → Int
  | 0 => -1
  | k + 1 => if fN p k = -1 then (if p k then k else -1) else fN p k
def fI (p : Int → Bool) (n : Int) : Int := fN p n.toNat
theorem fN_spec (p : Int → Bool) : ∀ k : Nat, (fN p k = -1 ∧ ∀ j : Int, 0 ≤ j → j < k → p j = false) ∨ (0 ≤ fN p k ∧ fN p k < k ∧ p (fN p k) = true ∧ ∀ j : Int, 0 ≤ j → j < fN p k → p j = false) := by
  intro k
  induction k with
  | zero => exact Or.inl ⟨rfl, fun j a b => by omega⟩
  | succ k ih =>
    rcases ih with ⟨h1, h2⟩ | ⟨h1, h2, h3, h4⟩
    · by_cases hp : p k = true
      · have e : fN p (k + 1) = k := by simp [fN, h1, hp]
        rw [e]
        exact Or.inr ⟨by omega, by omega, hp, fun j a b => h2 j a b⟩
      · have e : fN p (k + 1) = -1 := by simp [fN, h1, hp]
        rw [e]
        refine Or.inl ⟨rfl, fun j a b => ?_⟩
        by_cases hj : j = k
        · rw [hj]; simpa using hp
        · exact h2 j a (by omega)
    · have e : fN p (k + 1) = fN p k := by
        have : ¬ fN p k = -1 := by omega
        simp [fN, this]
      rw [e]
      exact Or.inr ⟨h1, by omega, h3, h4⟩
theorem fI_spec (p : Int → Bool) {n : Int} (hn : 0 ≤ n) : (fI p n = -1 ∧ ∀ j : Int, 0 ≤ j → j < n → p j = false) ∨ (0 ≤ fI p n ∧ fI p n < n ∧ p (fI p n) = true ∧ ∀ j : Int, 0 ≤ j → j < fI p n → p j = false) := by
  have := fN_spec p n.toNat
  rw [Int.toNat_of_nonneg hn] at this
  exact this
theorem fI_eq {p : Int → Bool} {n i : Int} (h0 : 0 ≤ i) (h1 : i < n) (hp : p i = true) (hb : ∀ j, 0 ≤ j → j < i → p j = false) : fI p n = i := by
  rcases fI_spec p (n := n) (by omega) with ⟨_, h⟩ | ⟨a, b, c, d⟩
  · rw [h i h0 h1] at hp; cases hp
  · rcases Int.lt_trichotomy (fI p n) i with h | h | h
    · rw [hb _ a h] at c; cases c
    · exact h
    · rw [d i h0 h] at hp; cases hp
theorem fI_none {p : Int → Bool} {n : Int} (hn : 0 ≤ n) (hb : ∀ j, 0 ≤ j → j < n → p j = false) : fI p n = -1 := by
  rcases fI_spec p hn with ⟨h, _⟩ | ⟨a, b, c, d⟩
  · exact h
  · rw [hb _ a b] at c; cases c
theorem fI_congr {p q : Int → Bool} {n : Int} (hn : 0 ≤ n) (h : ∀ j, 0 ≤ j → j < n → p j = q j) : fI p n = fI q n := by
  rcases fI_spec p hn with ⟨h1, h2⟩ | ⟨a, b, c, d⟩
  · rw [h1, fI_none hn (fun j x y => by rw [← h j x y]; exact h2 j x y)]
  · exact (fI_eq a b (by rw [← h _ a b]; exact c) (fun j x y => by rw [← h j x (by omega)]; exact d j x y)).symm
/-- the k-th place that is so; how many (k -1); none (-1); k below that (-3) -/
def kI (p : Int → Bool) (k n : Int) : Int := if k < -1 then -3 else if k = -1 then cI p n else fI (fun i => p i && decide (cI p i = k)) n
/-! what a ledger is: 0: items, interval, runs, s, bytes on the tape, fault, place; 1 accounts, 2 vouchers, 3 books, 4 audited, 5 starts, 6 terms, 7 bytes -/
def co (A : St) (i : Int) : Int := if 0 < A 3 i then A 3 i else 0
def er (A : St) (i : Int) : Int := if A 4 i = -1 then 0 else A 3 i - A 4 i
def ta (A : St) (i : Int) : Int := if A 4 i = -1 then 0 else (10000 * er A i).tdiv (A 3 i)
def ce (A : St) (v i : Int) : Bool := decide (0 < v ∧ v ≤ A 3 i)
def rc (A : St) (v i : Int) : Int := if ce A v i then 0 else co A i
def prq (A : St) (v i : Int) : Int := sI (rc A v) i
def Mq (A : St) (v : Int) : Int := prq A v (A 0 0)
def fc (A : St) (v i : Int) : Int := if rc A v i = 0 then 0 else prq A v i + 1
def nh (A : St) (v s : Int) : Int := if v = 0 ∨ Mq A v < s then 0 else (Mq A v - s) / v + 1
def sk (A : St) (v s i : Int) : Bool := decide (0 < v ∧ 0 < rc A v i ∧ (s - fc A v i) % v < rc A v i)
def ow (A : St) (v c : Int) : Int := fI (fun i => decide (0 < rc A v i ∧ c ≤ prq A v i + rc A v i)) (A 0 0)
/-- hits of the first r runs; of hit k its run, coin, item; how often an item is hit by the first r runs -/
def hb (A : St) (r : Int) : Int := sI (fun q => nh A (A 0 1) (A 5 q)) r
def hR (A : St) (k : Int) : Int := fI (fun r => decide (k < hb A (r + 1))) 5
def hC (A : St) (k : Int) : Int := A 5 (hR A k) + (k - hb A (hR A k)) * A 0 1
def hI (A : St) (k : Int) : Int := ow A (A 0 1) (hC A k)
def th (A : St) (r i : Int) : Int := cI (fun q => sk A (A 0 1) (A 5 q) i) r
def al (A : St) : Int := sI (co A) (A 0 0)
/-- looked at: certain, or hit by the first r runs -/
def lk (A : St) (r i : Int) : Bool := ce A (A 0 1) i || decide (0 < th A r i)
/-- a ledger's items are in their bounds -/
def OKL (A : St) : Prop := 0 ≤ A 0 0 ∧ A 0 0 ≤ 48 ∧ ∀ i, 0 ≤ i → i < A 0 0 → 0 ≤ A 1 i ∧ A 1 i ≤ 99 ∧ 0 ≤ A 2 i ∧ A 2 i ≤ 9999 ∧ -99999 ≤ A 3 i ∧ A 3 i ≤ 99999 ∧ (A 4 i = -1 ∨ (0 ≤ A 4 i ∧ A 4 i ≤ 2 * A 3 i ∧ 0 < A 3 i))
def OKA (A : St) : Prop := OKL A ∧ (0 ≤ A 0 1 ∧ A 0 1 ≤ 4799952) ∧ (0 ≤ A 0 2 ∧ A 0 2 ≤ 5 ∧ (0 < A 0 2 → 0 < A 0 1) ∧ ∀ r, 0 ≤ r → r < A 0 2 → 1 ≤ A 5 r ∧ A 5 r ≤ A 0 1) ∧ (0 ≤ A 0 3 ∧ A 0 3 ≤ 1000003) ∧ (0 ≤ A 0 4 ∧ A 0 4 ≤ 900) ∧
  ((1 ≤ A 6 0 ∧ A 6 0 ≤ 9999999) ∧ (1 ≤ A 6 1 ∧ A 6 1 ≤ 500) ∧ (0 ≤ A 6 2 ∧ A 6 2 ≤ 9) ∧ (0 ≤ A 6 3 ∧ A 6 3 ≤ 1) ∧ (0 ≤ A 6 4 ∧ A 6 4 ≤ 1000003))
theorem co_in {A : St} (h : OKL A) {i : Int} (h0 : 0 ≤ i) (h1 : i < A 0 0) : 0 ≤ co A i ∧ co A i ≤ 99999 := by
  have := h.2.2 i h0 h1
  unfold co
  split <;> omega
theorem er_in {A : St} (h : OKL A) {i : Int} (h0 : 0 ≤ i) (h1 : i < A 0 0) : -99999 ≤ er A i ∧ er A i ≤ 99999 := by
  have := h.2.2 i h0 h1
  unfold er
  split <;> omega
theorem tdiv_in {a b m : Int} (hb : 0 < b) (h0 : -(m * b) ≤ a) (h1 : a ≤ m * b) : -m ≤ a.tdiv b ∧ a.tdiv b ≤ m := by
  rcases Int.le_total 0 a with ha | ha
  · rw [Int.tdiv_eq_ediv_of_nonneg ha]
    have h2 : a / b ≤ m := by
      have := Int.ediv_le_ediv hb h1
      rwa [Int.mul_ediv_cancel m (by omega)] at this
    have h3 := Int.ediv_nonneg ha (by omega : 0 ≤ b)
    omega
  · have e : a.tdiv b = -((-a) / b) := by
      rw [← Int.tdiv_eq_ediv_of_nonneg (by omega), Int.neg_tdiv, Int.neg_neg]
    rw [e]
    have h2 : (-a) / b ≤ m := by
      have := Int.ediv_le_ediv hb (show -a ≤ m * b by omega)
      rwa [Int.mul_ediv_cancel m (by omega)] at this
    have h3 := Int.ediv_nonneg (show 0 ≤ -a by omega) (by omega : 0 ≤ b)
    omega
theorem ta_in {A : St} (h : OKL A) {i : Int} (h0 : 0 ≤ i) (h1 : i < A 0 0) : -10000 ≤ ta A i ∧ ta A i ≤ 10000 := by
  have h2 := h.2.2 i h0 h1
  unfold ta
  split
  · omega
  · next hh =>
    have e : er A i = A 3 i - A 4 i := by unfold er; rw [if_neg hh]
    rw [e]
    exact tdiv_in (by omega) (by omega) (by omega)
theorem rc_in {A : St} (h : OKL A) {v i : Int} (h0 : 0 ≤ i) (h1 : i < A 0 0) : 0 ≤ rc A v i ∧ rc A v i ≤ co A i := by
  have := co_in h h0 h1
  unfold rc
  split <;> omega
theorem rc_lt {A : St} {v i : Int} (hv : 0 < v) : rc A v i < v := by
  unfold rc ce co
  split
  · exact hv
  · next h =>
    have h : ¬ (0 < v ∧ v ≤ A 3 i) := by simpa using h
    split <;> omega
theorem prq_s {A : St} {v i : Int} (h : 0 ≤ i) : prq A v (i + 1) = prq A v i + rc A v i := sI_s h
theorem prq_in {A : St} (h : OKL A) {v i : Int} (h0 : 0 ≤ i) (h1 : i ≤ A 0 0) : 0 ≤ prq A v i ∧ prq A v i ≤ 99999 * i ∧ prq A v i ≤ Mq A v := by
  have hr : ∀ j, 0 ≤ j → j < A 0 0 → 0 ≤ rc A v j ∧ rc A v j ≤ 99999 := fun j a b => by
    have h2 := rc_in h (v := v) a b
    have h3 := co_in h a b
    omega
  refine ⟨sI_nn h0 (fun j a b => (hr j a (by omega)).1), sI_le h0 (fun j a b => (hr j a (by omega)).2), sI_mono h0 h1 (fun j a b => (hr j (by omega) b).1)⟩
theorem Mq_in {A : St} (h : OKL A) {v : Int} : 0 ≤ Mq A v ∧ Mq A v ≤ 4799952 := by
  have h2 := prq_in h (v := v) h.1 (Int.le_refl _)
  have h3 := h.2.1
  unfold Mq
  omega
theorem al_in {A : St} (h : OKL A) : 0 ≤ al A ∧ al A ≤ 4799952 := by
  have h2 := sI_nn (f := co A) h.1 (fun j a b => (co_in h a b).1)
  have h3 := sI_le (f := co A) (b := 99999) h.1 (fun j a b => (co_in h a b).2)
  have h4 := h.2.1
  unfold al
  omega
