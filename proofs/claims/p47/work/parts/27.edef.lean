-- what the hits make: taints ranked, rises, known, projected, the limit (plain numbers)
theorem hI_in {A : St} (hA : OKA A) {k : Int} (h0 : 0 ≤ k) (h1 : k < hb A (A 0 2)) : 0 ≤ hI A k ∧ hI A k < A 0 0 ∧ 1 ≤ hC A k ∧ hC A k ≤ Mq A (A 0 1) ∧ 0 ≤ hR A k ∧ hR A k < A 0 2 := by
  obtain ⟨r, j, a, b, c, d, rfl⟩ := hR_ex hA h0 h1
  have hs := hA.2.2.1.2.2.2 r a b
  have h2 := nh_coin hA.1 (v := A 0 1) hA.2.1.1 hs.1 hs.2 c d
  have h3 := hC_eq hA a b c d
  have h4 := hR_eq hA a b c d
  unfold hI
  rw [h3, h4]
  have h5 := ow_spec hA.1 (v := A 0 1) h2.1 h2.2.1
  exact ⟨h5.1, h5.2.1, h2.1, h2.2.1, a, b⟩
def mx (x : Int) : Int := if 0 < x then x else 0
theorem mx_in (x : Int) : 0 ≤ mx x ∧ (mx x = x ∨ mx x = 0) ∧ x ≤ mx x := by unfold mx; split <;> omega
def plc (w f : Int → Int) (h : Int) : Nat → Nat
  | 0 => 0
  | m + 1 => if w (f m) < w h then plc w f h m else m + 1
def insf (f : Int → Int) (p h : Int) : Int → Int := fun j => if j < p then f j else if j = p then h else f (j - 1)
def rkS (w : Int → Int) : Nat → Nat × (Int → Int)
  | 0 => (0, fun _ => 0)
  | h + 1 => if w h ≤ 0 then rkS w h else ((rkS w h).1 + 1, insf (rkS w h).2 (plc w (rkS w h).2 h (rkS w h).1) h)
def rm (w : Int → Int) (h : Int) : Int := (rkS w h.toNat).1
def rf (w : Int → Int) (h : Int) : Int → Int := (rkS w h.toNat).2
theorem plc_le (w f : Int → Int) (h : Int) : ∀ m, plc w f h m ≤ m := by
  intro m
  induction m with
  | zero => exact Nat.le_refl _
  | succ m ih => unfold plc; split <;> omega
theorem rm_0 {w : Int → Int} : rm w 0 = 0 := rfl
theorem rm_no {w : Int → Int} {h : Int} (h0 : 0 ≤ h) (hw : w h ≤ 0) : rm w (h + 1) = rm w h ∧ rf w (h + 1) = rf w h := by
  unfold rm rf
  rw [show (h + 1).toNat = h.toNat + 1 by omega]
  simp only [rkS, Int.toNat_of_nonneg h0, if_pos hw, and_self]
theorem rm_yes {w : Int → Int} {h : Int} (h0 : 0 ≤ h) (hw : ¬ w h ≤ 0) : rm w (h + 1) = rm w h + 1 ∧ rf w (h + 1) = insf (rf w h) (plc w (rf w h) h (rm w h).toNat) h := by
  unfold rm rf
  rw [show (h + 1).toNat = h.toNat + 1 by omega]
  simp only [rkS, Int.toNat_of_nonneg h0, if_neg hw, Int.toNat_natCast, and_true]
  omega
theorem rk_in {w : Int → Int} : ∀ h, 0 ≤ h → (0 ≤ rm w h ∧ rm w h ≤ h ∧ ∀ j, 0 ≤ j → j < rm w h → 0 ≤ rf w h j ∧ rf w h j < h ∧ 0 < w (rf w h j)) := by
  refine nn_ind ⟨Int.le_refl _, Int.le_refl _, fun j a b => by rw [rm_0] at b; omega⟩ (fun h h0 ih => ?_)
  by_cases hw : w h ≤ 0
  · obtain ⟨e1, e2⟩ := rm_no h0 hw
    rw [e1, e2]
    exact ⟨ih.1, by omega, fun j a b => by have := ih.2.2 j a b; omega⟩
  · obtain ⟨e1, e2⟩ := rm_yes h0 hw
    rw [e1, e2]
    have hp := plc_le w (rf w h) h (rm w h).toNat
    refine ⟨by omega, by omega, fun j a b => ?_⟩
    unfold insf
    split
    · have := ih.2.2 j a (by omega); omega
    · split
      · omega
      · have := ih.2.2 (j - 1) (by omega) (by omega); omega
def wT (A : St) (sg k : Int) : Int := sg * ta A (hI A k)
def pj (A : St) (R i : Int) : Int := if 0 < R then (ta A i * A 0 1).tdiv (10000 * R) else 0
def kn (A : St) (sg : Int) : Int := sI (fun i => if ce A (A 0 1) i then mx (sg * er A i) else 0) (A 0 0)
def pn (A : St) (R sg h : Int) : Int := sI (fun k => mx (sg * pj A R (hI A k))) h
def ri (A : St) (sg h n r k : Int) : Int := (Mq A (A 0 1) * (UP n (k + 1) r - UP n k r) * wT A sg (rf (wT A sg) h k)) / 10000000000
def rs (A : St) (sg h n r : Int) : Int := sI (ri A sg h n r) (rm (wT A sg) h)
def ba (A : St) (n r : Int) : Int := (Mq A (A 0 1) * UP n 0 r) / 1000000
/-- the limit of a side (1, -1), by the first R runs, n hits in all, the risk r -/
def LI (A : St) (R n r sg : Int) : Int := if A 6 3 = 0 then ba A n r + rs A sg (hb A R) n r + kn A sg else ba A n r + rs A sg (hb A R) n r + kn A sg - kn A (-sg) - pn A R (-sg) (hb A R)
def ACC (A : St) (R n r : Int) : Bool := decide (LI A R n r 1 ≤ A 6 0)
theorem sg_in {sg v b : Int} (h : sg = 1 ∨ sg = -1) (h0 : -b ≤ v) (h1 : v ≤ b) : -b ≤ sg * v ∧ sg * v ≤ b := by
  rcases h with h | h <;> subst h <;> omega
theorem sg_neg {sg : Int} (h : sg = 1 ∨ sg = -1) : -sg = 1 ∨ -sg = -1 := by omega
theorem wT_in {A : St} (hA : OKA A) {sg k : Int} (h : sg = 1 ∨ sg = -1) (h0 : 0 ≤ k) (h1 : k < hb A (A 0 2)) : -10000 ≤ wT A sg k ∧ wT A sg k ≤ 10000 := by
  have h2 := hI_in hA h0 h1
  have h3 := ta_in hA.1 h2.1 h2.2.1
  exact sg_in h h3.1 h3.2
theorem pj_in {A : St} (hA : OKA A) {R i : Int} (h0 : 0 ≤ i) (h1 : i < A 0 0) : -4799952 ≤ pj A R i ∧ pj A R i ≤ 4799952 := by
  unfold pj
  split
  · next hR =>
    have h2 := ta_in hA.1 h0 h1
    have hi := hA.2.1
    have h3 : A 0 1 * ta A i ≤ A 0 1 * 10000 := mul_le_l h2.2 hi.1
    have h4 : A 0 1 * (-10000) ≤ A 0 1 * ta A i := mul_le_l h2.1 hi.1
    have h5 : A 0 1 * 10000 ≤ A 0 1 * (10000 * R) := mul_le_l (by omega) hi.1
    rw [Int.mul_comm (ta A i)]
    have := tdiv_in (a := A 0 1 * ta A i) (b := 10000 * R) (m := A 0 1) (by omega) (by omega) (by omega)
    omega
  · omega
theorem kn_in {A : St} (hA : OKA A) {sg : Int} (h : sg = 1 ∨ sg = -1) {i : Int} (h0 : 0 ≤ i) (h1 : i ≤ A 0 0) : 0 ≤ sI (fun i => if ce A (A 0 1) i then mx (sg * er A i) else 0) i ∧ sI (fun i => if ce A (A 0 1) i then mx (sg * er A i) else 0) i ≤ 99999 * i := by
  have hr : ∀ j, 0 ≤ j → j < A 0 0 → 0 ≤ (if ce A (A 0 1) j then mx (sg * er A j) else 0) ∧ (if ce A (A 0 1) j then mx (sg * er A j) else 0) ≤ 99999 := fun j a b => by
    have h2 := er_in hA.1 a b
    have h3 := sg_in h h2.1 h2.2
    have h4 := mx_in (sg * er A j)
    split <;> omega
  exact ⟨sI_nn h0 (fun j a b => (hr j a (by omega)).1), sI_le h0 (fun j a b => (hr j a (by omega)).2)⟩
theorem kn_in2 {A : St} (hA : OKA A) {sg : Int} (h : sg = 1 ∨ sg = -1) : 0 ≤ kn A sg ∧ kn A sg ≤ 4799952 := by
  have h2 := kn_in hA h hA.1.1 (Int.le_refl _)
  have h3 := hA.1.2.1
  unfold kn
  omega
theorem pn_in {A : St} (hA : OKA A) {R sg h : Int} (hs : sg = 1 ∨ sg = -1) (h0 : 0 ≤ h) (h1 : h ≤ hb A (A 0 2)) : 0 ≤ pn A R sg h ∧ pn A R sg h ≤ 4799952 * h := by
  have hr : ∀ j, 0 ≤ j → j < h → 0 ≤ mx (sg * pj A R (hI A j)) ∧ mx (sg * pj A R (hI A j)) ≤ 4799952 := fun j a b => by
    have h2 := hI_in hA a (by omega)
    have h3 := pj_in hA (R := R) h2.1 h2.2.1
    have h4 := sg_in hs h3.1 h3.2
    have h5 := mx_in (sg * pj A R (hI A j))
    omega
  exact ⟨sI_nn h0 (fun j a b => (hr j a b).1), sI_le h0 (fun j a b => (hr j a b).2)⟩
theorem ba_in {A : St} (hA : OKA A) {n r : Int} : 0 ≤ Mq A (A 0 1) * UP n 0 r ∧ Mq A (A 0 1) * UP n 0 r ≤ 4799952000000 ∧ 0 ≤ ba A n r ∧ ba A n r ≤ 4799952 := by
  have h1 := Mq_in hA.1 (v := A 0 1)
  have h2 := UP_in n 0 r
  have h3 := Int.mul_nonneg h1.1 (show 0 ≤ UP n 0 r by omega)
  have h4 := mul_le_l h2.2 h1.1
  unfold ba
  omega
theorem ri_in {A : St} (hA : OKA A) {sg h n r k : Int} (hs : sg = 1 ∨ sg = -1) (h0 : 0 ≤ h) (h1 : h ≤ hb A (A 0 2)) (hn : n ≤ 1000) (hr0 : 1 ≤ r) (hr1 : r ≤ 500) (hk0 : 0 ≤ k) (hk1 : k < rm (wT A sg) h) :
    0 ≤ UP n (k + 1) r - UP n k r ∧ UP n (k + 1) r - UP n k r ≤ 1000000 ∧ 0 ≤ Mq A (A 0 1) * (UP n (k + 1) r - UP n k r) ∧ Mq A (A 0 1) * (UP n (k + 1) r - UP n k r) ≤ 4799952000000 ∧
    0 ≤ Mq A (A 0 1) * (UP n (k + 1) r - UP n k r) * wT A sg (rf (wT A sg) h k) ∧ Mq A (A 0 1) * (UP n (k + 1) r - UP n k r) * wT A sg (rf (wT A sg) h k) ≤ 47999520000000000 ∧ 0 ≤ ri A sg h n r k ∧ ri A sg h n r k ≤ 4799952 := by
  have hM := Mq_in hA.1 (v := A 0 1)
  have hU := UP_k (n := n) (k := k) (r := r) hk0 hn hr0 hr1
  have u1 := UP_in n k r
  have u2 := UP_in n (k + 1) r
  have h2 := (rk_in (w := wT A sg) h h0).2.2 k hk0 hk1
  have h3 := wT_in hA hs (k := rf (wT A sg) h k) h2.1 (by omega)
  have g1 := Int.mul_nonneg hM.1 (show 0 ≤ UP n (k + 1) r - UP n k r by omega)
  have g2 := mul_le_l (c := Mq A (A 0 1)) (show UP n (k + 1) r - UP n k r ≤ 1000000 by omega) hM.1
  have g3 := Int.mul_nonneg g1 (show 0 ≤ wT A sg (rf (wT A sg) h k) by omega)
  have g4 := mul_le_l (c := Mq A (A 0 1) * (UP n (k + 1) r - UP n k r)) h3.2 g1
  have e : ri A sg h n r k = (Mq A (A 0 1) * (UP n (k + 1) r - UP n k r) * wT A sg (rf (wT A sg) h k)) / 10000000000 := rfl
  omega
theorem rs_in {A : St} (hA : OKA A) {sg h n r : Int} (hs : sg = 1 ∨ sg = -1) (h0 : 0 ≤ h) (h1 : h ≤ hb A (A 0 2)) (hn : n ≤ 1000) (hr0 : 1 ≤ r) (hr1 : r ≤ 500) {k : Int} (hk0 : 0 ≤ k) (hk1 : k ≤ rm (wT A sg) h) : 0 ≤ sI (ri A sg h n r) k ∧ sI (ri A sg h n r) k ≤ 4799952 * k := by
  have hr : ∀ j, 0 ≤ j → j < k → 0 ≤ ri A sg h n r j ∧ ri A sg h n r j ≤ 4799952 := fun j a b => by
    have := ri_in hA hs h0 h1 hn hr0 hr1 a (show j < rm (wT A sg) h by omega)
    omega
  exact ⟨sI_nn hk0 (fun j a b => (hr j a b).1), sI_le hk0 (fun j a b => (hr j a b).2)⟩
theorem LI_in {A : St} (hA : OKA A) {R sg n r : Int} (hs : sg = 1 ∨ sg = -1) (h0 : 0 ≤ R) (h1 : R ≤ A 0 2) (hn : n ≤ 1000) (hr0 : 1 ≤ r) (hr1 : r ≤ 500) :
    0 ≤ rs A sg (hb A R) n r ∧ rs A sg (hb A R) n r ≤ 1151988480 ∧ 0 ≤ pn A R (-sg) (hb A R) ∧ pn A R (-sg) (hb A R) ≤ 1151988480 ∧ -1156788432 ≤ LI A R n r sg ∧ LI A R n r sg ≤ 1161588384 := by
  have hh := hb_in hA h0 h1
  have hh2 := hb_mono hA h0 h1 (Int.le_refl _)
  have h5 := hA.2.2.1.2.1
  have b1 := ba_in hA (n := n) (r := r)
  have b2 := rk_in (w := wT A sg) (hb A R) hh.1
  have b3 := rs_in hA hs hh.1 hh2 hn hr0 hr1 b2.1 (Int.le_refl _)
  have b4 := kn_in2 hA hs
  have b5 := kn_in2 hA (sg_neg hs)
  have b6 := pn_in hA (R := R) (sg_neg hs) hh.1 hh2
  have e : rs A sg (hb A R) n r = sI (ri A sg (hb A R) n r) (rm (wT A sg) (hb A R)) := rfl
  have eL : LI A R n r sg = ba A n r + rs A sg (hb A R) n r + kn A sg ∨ LI A R n r sg = ba A n r + rs A sg (hb A R) n r + kn A sg - kn A (-sg) - pn A R (-sg) (hb A R) := by
    unfold LI
    split
    · exact Or.inl rfl
    · exact Or.inr rfl
  omega

