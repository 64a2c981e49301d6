-- what the calls that change nothing answer
def hmq (A : St) : Int := hb A (A 0 2)
def q_fault (A : St) (x : Int) : Int := if x = 0 then A 0 5 else if x = 1 then A 0 6 else -1
def q_item (A : St) (i w : Int) : Int := if i < 0 ∨ A 0 0 ≤ i then -10000000 else if w = 0 then A 1 i else if w = 1 then A 2 i else if w = 2 then A 3 i else if w = 3 then A 4 i else if w = 4 then er A i else if w = 5 then ta A i else if w = 6 then bi (ce A (A 0 1) i) else if w = 7 then th A (A 0 2) i else if w = 8 then fc A (A 0 1) i else -10000000
def q_coin (A : St) (c w : Int) : Int := if c < 1 ∨ Mq A (A 0 1) < c ∨ w < 0 ∨ 2 < w then -2 else if A 0 1 = 0 then -5 else if w = 0 then ow A (A 0 1) c else if w = 1 then (c - 1) / A 0 1 else cI (fun r => decide ((c - 1) % A 0 1 + 1 = A 5 r)) (A 0 2)
def q_hit (A : St) (k w : Int) : Int := if k < 0 ∨ hmq A ≤ k then -2 else if w = 0 then hI A k else if w = 1 then hC A k else if w = 2 then hR A k else if w = 3 then ta A (hI A k) + 10000 else -2
def q_start (A : St) (k : Int) : Int := if k < 0 ∨ A 0 2 ≤ k then -2 else A 5 k
def lackp (A : St) (R i : Int) : Bool := decide (A 4 i = -1) && lk A R i
def kdp (A : St) (w i : Int) : Bool := if w = 0 then ce A (A 0 1) i else if w = 1 then lackp A (A 0 2) i else lk A (A 0 2) i
def q_list (A : St) (w k : Int) : Int := kI (kdp A w) k (A 0 0)
def shq (A : St) (w i : Int) : Int := if w = 0 then 1 else if w = 1 then A 3 i else if w = 2 then th A (A 0 2) i else if w = 3 then er A i else if w = 4 then bi (ce A (A 0 1) i) else pj A (A 0 2) i * th A (A 0 2) i
def q_account (A : St) (a w : Int) : Int := if a < 0 ∨ 99 < a ∨ w < 0 ∨ 5 < w then -10000000 else sI (fun i => if A 1 i = a then shq A w i else 0) (A 0 0)
def fstq (A : St) (i : Int) : Bool := decide (fI (fun j => decide (A 1 j = A 1 i)) (A 0 0) = i)
def q_accounts (A : St) (k : Int) : Int := if k < -1 ∨ k = -1 ∨ kI (fstq A) k (A 0 0) = -1 then kI (fstq A) k (A 0 0) else A 1 (kI (fstq A) k (A 0 0))
def q_line (A : St) (k i : Int) : Int := if k < 0 ∨ q_list A 2 k = -1 then -2 else if i < 0 then -3 else if i < (lnW A (A 0 2) (q_list A 2 k)).1 then (lnW A (A 0 2) (q_list A 2 k)).2 i else -1
def q_upper (A : St) (n k : Int) : Int := if n < 0 ∨ 400 < n ∨ k < 0 ∨ 400 < k then -3 else UP n k (A 6 1)
def q_size (A : St) (t : Int) : Int := if t < 1 ∨ 9999999 < t then -3 else if al A = 0 then -5 else SZ (al A) t (A 6 2) (A 6 1)
def q_sizes (A : St) (e : Int) : Int := if e < 0 ∨ 9 < e then -3 else if al A = 0 then -5 else SZ (al A) (A 6 0) e (A 6 1)
def q_projected (A : St) (w : Int) : Int := if A 0 2 = 0 ∨ w < 0 ∨ 4 < w then -10000000 else if w = 0 then pn A (A 0 2) 1 (hmq A) else if w = 1 then pn A (A 0 2) (-1) (hmq A) else if w = 2 then kn A 1 else if w = 3 then kn A (-1) else pn A (A 0 2) 1 (hmq A) + kn A 1 - pn A (A 0 2) (-1) (hmq A) - kn A (-1)
def q_taint (A : St) (k w : Int) : Int := if k < 0 ∨ rm (wT A 1) (hmq A) ≤ k then -2 else if w = 0 then rf (wT A 1) (hmq A) k else if w = 1 then ta A (hI A (rf (wT A 1) (hmq A) k)) else if w = 2 then ri A 1 (hmq A) (hmq A) (A 6 1) k else -2
def prt (A : St) (sg w : Int) : Int := if w = 0 then ba A (hmq A) (A 6 1) else if w = 1 then rs A sg (hmq A) (hmq A) (A 6 1) else if w = 2 then kn A sg else LI A (A 0 2) (hmq A) (A 6 1) sg
def q_bound (A : St) (w : Int) : Int := if w < 0 ∨ 4 < w ∨ A 0 2 = 0 then -10000000 else if w = 4 then A 6 0 - LI A (A 0 2) (hmq A) (A 6 1) 1 else prt A 1 w
def q_below (A : St) (w : Int) : Int := if w < 0 ∨ 3 < w ∨ A 0 2 = 0 then -10000000 else prt A (-1) w
def q_judged (A : St) : Int := if A 0 2 = 0 then 0 else if 0 < cI (lackp A (A 0 2)) (A 0 0) then 1 else if ACC A (A 0 2) (hmq A) (A 6 1) then 2 else 3
/-- the bound, were an item worth so -/
def bwq (A : St) (i v : Int) : Int := LI (ups A 4 i v) (A 0 2) (hmq A) (A 6 1) 1
def q_would (A : St) (i v : Int) : Int := if i < 0 ∨ A 0 0 ≤ i ∨ v < 0 ∨ 2 * A 3 i < v ∨ co A i = 0 ∨ A 0 2 = 0 then -10000000 else bwq A i v
def deN (A : St) : Nat → Int × Int
  | 0 => (-1, 0)
  | k + 1 => if lk A (A 0 2) k = true ∧ 0 < er A k ∧ ((deN A k).1 = -1 ∨ bwq A k (A 3 k) < (deN A k).2) then ((k : Int), bwq A k (A 3 k)) else deN A k
def q_dearest (A : St) : Int := if A 0 2 = 0 then -5 else (deN A (A 0 0).toNat).1
def mop (A : St) (x : Int) : Bool := ACC A (A 0 2) (hmq A + x * (Mq A (A 0 1) / A 0 1)) (A 6 1)
def q_more (A : St) : Int := if A 0 2 = 0 then -5 else fI (mop A) (6 - A 0 2)
def q_step (A : St) (r w : Int) : Int := if r < 1 ∨ A 0 2 < r ∨ w < 0 ∨ 3 < w then -10000000 else if w = 0 then hb A r else if w = 1 then LI A r (hb A r) (A 6 1) 1 else if w = 2 then bi (ACC A r (hb A r) (A 6 1)) else cI (lackp A r) (A 0 0)
def rkq (A : St) : Int := bq (fun u => ACC A (A 0 2) (hmq A) u) 60 0 501
def q_risky (A : St) : Int := if A 0 2 = 0 then -5 else if rkq A = 501 then -1 else rkq A
def q_trial (A : St) (s w : Int) : Int := if w < 0 ∨ 3 < w then -2 else if A 0 1 = 0 then -5 else if s < 1 ∨ A 0 1 < s then -3 else if w = 0 then nh A (A 0 1) s else if w = 1 then na A s else if w = 2 then tb A s else if nh A (A 0 1) s = 0 then 0 else s + (nh A (A 0 1) s - 1) * A 0 1
def lkc (A : St) (i : Int) : Int := if lk A (A 0 2) i then co A i else 0
def q_covered (A : St) : Int := if al A = 0 then 0 else sI (lkc A) (A 0 0) * 1000 / al A
def erm (A : St) (i : Int) : Bool := decide (0 < fc A (A 0 1) i ∧ er A i ≠ 0)
def q_caught (A : St) (k : Int) : Int := if k < 0 then -3 else if A 0 1 = 0 then -5 else caq A (erm A) k
def wqN (A : St) : Nat → Int
  | 0 => 1
  | k + 1 => if tb A (wqN A k) < tb A ((k : Int) + 1) then (k : Int) + 1 else wqN A k
def Wq (A : St) : Int := wqN A (A 0 1).toNat
theorem Wq_eq {A : St} {s : Int} (h : isW A s) : Wq A = s := by
  obtain ⟨h0, h1, h2, h3⟩ := h
  have key : ∀ k : Nat, (k : Int) ≤ A 0 1 → 1 ≤ wqN A k ∧ (wqN A k ≤ k ∨ wqN A k = 1) ∧ (s ≤ (k : Int) → wqN A k = s) := by
    intro k
    induction k with
    | zero => exact fun _ => ⟨Int.le_refl _, Or.inr rfl, fun h => by omega⟩
    | succ k ih =>
      intro hk
      obtain ⟨i1, i2, i3⟩ := ih (by omega)
      unfold wqN
      split
      · next hlt =>
        refine ⟨by omega, Or.inl (by omega), fun hs => ?_⟩
        by_cases e : (k : Int) + 1 = s
        · exact e
        · have := i3 (by omega)
          rw [this] at hlt
          have := h2 ((k : Int) + 1) (by omega) (by omega)
          omega
      · next hge =>
        refine ⟨i1, by omega, fun hs => ?_⟩
        by_cases e : (k : Int) + 1 = s
        · rcases i2 with i2 | i2
          · have := h3 (wqN A k) i1 (by omega)
            rw [e] at hge
            omega
          · by_cases e2 : s = 1
            · omega
            · have := h3 1 (by omega) (by omega)
              rw [e, i2] at hge
              omega
        · exact i3 (by omega)
  have := (key (A 0 1).toNat (by omega)).2.2 (by omega)
  exact this
def q_worst (A : St) (w : Int) : Int := if w ≠ 0 ∧ w ≠ 1 then -2 else if A 0 1 = 0 then -5 else if w = 0 then Wq A else tb A (Wq A)
def gq (a b : Int) : Int := (Nat.gcd a.toNat b.toNat : Nat)
def cgq (A : St) : Int := A 0 1 - caq A (erm A) 0
def q_chance (A : St) (w : Int) : Int := if w ≠ 0 ∧ w ≠ 1 then -2 else if A 0 1 = 0 then -5 else if w = 0 then cgq A / gq (A 0 1) (cgq A) else A 0 1 / gq (A 0 1) (cgq A)
def kpp (A : St) (v s i : Int) : Bool := lk A (A 0 2) i && (ce A v i || sk A v s i)
def q_were (A : St) (v s w : Int) : Int := if w < 0 ∨ 3 < w then -2 else if v < 1 ∨ 9999999 < v ∨ s < 1 ∨ v < s then -3 else if w = 0 then cI (ce A v) (A 0 0) else if w = 1 then Mq A v else if w = 2 then nh A v s else cI (kpp A v s) (A 0 0)
def q_both (A : St) (i j : Int) : Int := if i < 0 ∨ A 0 0 ≤ i ∨ j < 0 ∨ A 0 0 ≤ j ∨ fc A (A 0 1) i = 0 ∨ fc A (A 0 1) j = 0 then -2 else if A 0 1 = 0 then -5 else caq A (fun x => decide (x = i ∨ x = j)) (if i = j then 1 else 2)
def hitp (A : St) (i : Int) : Bool := decide (0 < th A (A 0 2) i)
def audp (A : St) (i : Int) : Bool := decide (A 4 i ≠ -1)
def q_count (A : St) (w : Int) : Int := if 10 ≤ w ∧ w < 15 then A 6 (w - 10) else if w = 0 then A 0 0 else if w = 1 then al A else if w = 2 then Mq A (A 0 1) else if w = 3 then A 0 1 else if w = 4 then A 0 2 else if w = 5 then hmq A else if w = 6 then cI (hitp A) (A 0 0) else if w = 7 then A 0 4 else if w = 8 then cI (audp A) (A 0 0) else if w = 9 then A 0 3 else -1
-- facts
theorem kI_end {p : Int → Bool} {k n : Int} (hn : 0 ≤ n) (hk : -1 ≤ k) (h : ∀ j, 0 ≤ j → j < n → p j = true → cI p j ≠ k) : kI p k n = if k = -1 then cI p n else -1 := by
  unfold kI
  rw [if_neg (by omega)]
  split
  · rfl
  · refine fI_none hn (fun j a b => ?_)
    cases hp : p j with
    | false => simp
    | true => simpa using h j a b hp
theorem kI_hit {p : Int → Bool} {k n i : Int} (h0 : 0 ≤ i) (h1 : i < n) (hp : p i = true) (hc : cI p i = k) : kI p k n = i := by
  have hi := cI_in (p := p) h0
  unfold kI
  rw [if_neg (by omega), if_neg (by omega)]
  refine fI_eq h0 h1 (by simp [hp, hc]) (fun j a b => ?_)
  cases hpj : p j with
  | false => simp
  | true =>
    have h2 : cI p (j + 1) ≤ cI p i := sI_mono (by omega) (by omega) (fun q _ _ => by have := bi_01 (p q); omega)
    rw [cI_t a hpj] at h2
    simp
    omega
theorem kI_low {p : Int → Bool} {k n : Int} (hk : k < -1) : kI p k n = -3 := by unfold kI; rw [if_pos hk]
/-- one that is found is so -/
theorem kI_in {p : Int → Bool} {k n : Int} (hn : 0 ≤ n) (hk : 0 ≤ k) : kI p k n = -1 ∨ (0 ≤ kI p k n ∧ kI p k n < n ∧ p (kI p k n) = true) := by
  unfold kI
  rw [if_neg (by omega), if_neg (by omega)]
  rcases fI_spec (fun i => p i && decide (cI p i = k)) hn with ⟨h, _⟩ | ⟨a, b, c, _⟩
  · exact Or.inl h
  · refine Or.inr ⟨a, b, ?_⟩
    simp at c
    exact c.1
theorem sI_lef {f g : Int → Int} {i : Int} (hi : 0 ≤ i) (h : ∀ j, 0 ≤ j → j < i → f j ≤ g j) : sI f i ≤ sI g i := by
  have : ∀ i, 0 ≤ i → ((∀ j, 0 ≤ j → j < i → f j ≤ g j) → sI f i ≤ sI g i) := by
    refine nn_ind (fun _ => Int.le_refl _) (fun i hi ih h => ?_)
    rw [sI_s hi, sI_s hi]
    have h1 := ih (fun j a b => h j a (by omega))
    have h2 := h i hi (by omega)
    omega
  exact this i hi h
theorem th_in {A : St} (hA : OKA A) {R i : Int} (h0 : 0 ≤ R) (h1 : R ≤ A 0 2) : 0 ≤ th A R i ∧ th A R i ≤ R ∧ R ≤ 5 := by
  have := cI_in (p := fun q => sk A (A 0 1) (A 5 q) i) h0
  have h5 := hA.2.2.1.2.1
  have : 0 ≤ th A R i ∧ th A R i ≤ R := this
  omega
theorem pjth_in {A : St} (hA : OKA A) {i : Int} (h0 : 0 ≤ i) (h1 : i < A 0 0) : -23999760 ≤ pj A (A 0 2) i * th A (A 0 2) i ∧ pj A (A 0 2) i * th A (A 0 2) i ≤ 23999760 := by
  have hp := pj_in hA (R := A 0 2) h0 h1
  have ht := th_in hA (i := i) hA.2.2.1.1 (Int.le_refl _)
  have hc : th A (A 0 2) i = 0 ∨ th A (A 0 2) i = 1 ∨ th A (A 0 2) i = 2 ∨ th A (A 0 2) i = 3 ∨ th A (A 0 2) i = 4 ∨ th A (A 0 2) i = 5 := by omega
  rcases hc with h | h | h | h | h | h <;> rw [h] <;> omega
theorem shq_in {A : St} (hA : OKA A) {w i : Int} (h0 : 0 ≤ i) (h1 : i < A 0 0) : -23999760 ≤ shq A w i ∧ shq A w i ≤ 23999760 := by
  have hi := hA.1.2.2 i h0 h1
  have ht := th_in hA (i := i) hA.2.2.1.1 (Int.le_refl _)
  have he := er_in hA.1 h0 h1
  have hb := bi_01 (ce A (A 0 1) i)
  have hp := pjth_in hA h0 h1
  unfold shq
  repeat' split
  all_goals omega
theorem acs_in {A : St} (hA : OKA A) {a w i : Int} (h0 : 0 ≤ i) (h1 : i ≤ A 0 0) : -23999760 * i ≤ sI (fun i => if A 1 i = a then shq A w i else 0) i ∧ sI (fun i => if A 1 i = a then shq A w i else 0) i ≤ 23999760 * i := by
  have hr : ∀ j, 0 ≤ j → j < i → -23999760 ≤ (if A 1 j = a then shq A w j else 0) ∧ (if A 1 j = a then shq A w j else 0) ≤ 23999760 := fun j x y => by
    have := shq_in hA (w := w) x (show j < A 0 0 by omega)
    split <;> omega
  exact ⟨sI_ge h0 (fun j x y => (hr j x y).1), sI_le h0 (fun j x y => (hr j x y).2)⟩
theorem gq_0 {a : Int} (h : 0 ≤ a) : gq a 0 = a := by
  unfold gq
  simp
  omega
theorem gq_s {a b : Int} (h0 : 0 ≤ a) (h1 : 0 < b) : gq a b = gq b (a % b) := by
  unfold gq
  rw [Int.toNat_emod h0 (by omega), Nat.gcd_comm a.toNat, Nat.gcd_rec b.toNat a.toNat, Nat.gcd_comm]
theorem gq_comm (a b : Int) : gq a b = gq b a := by unfold gq; rw [Nat.gcd_comm]
theorem gq_pos {a b : Int} (h : 0 < a) : 0 < gq a b := by
  unfold gq
  have := Nat.gcd_pos_of_pos_left b.toNat (show 0 < a.toNat by omega)
  omega
theorem caq_in {A : St} (hA : OKA A) {f : Int → Bool} {k : Int} : 0 ≤ caq A f k ∧ caq A f k ≤ A 0 1 := cI_in hA.2.1.1
/-- how far more hits may go -/
theorem mor_in {A : St} (hA : OKA A) (hR : 0 < A 0 2) : 0 ≤ Mq A (A 0 1) / A 0 1 ∧ Mq A (A 0 1) / A 0 1 ≤ 48 := by
  have h1 := hA.2.2.1.2.2.1 hR
  have h2 := nh_in hA.1 (v := A 0 1) (s := A 0 1) hA.2.1.1 (by omega)
  have hM := Mq_in hA.1 (v := A 0 1)
  unfold nh at h2
  by_cases h : A 0 1 = 0 ∨ Mq A (A 0 1) < A 0 1
  · rw [Int.ediv_eq_zero_of_lt hM.1 (by omega)]; omega
  · rw [if_neg h] at h2
    rw [show Mq A (A 0 1) - A 0 1 = Mq A (A 0 1) + A 0 1 * (-1) by omega, Int.add_mul_ediv_left _ _ (by omega)] at h2
    omega

