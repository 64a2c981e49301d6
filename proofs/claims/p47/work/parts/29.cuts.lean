-- starts by places where what they hit changes (plain numbers)
/-- a place put where it belongs -/
def Ins (f : Int → Int) (m x : Int) (g : Int → Int) : Prop := ∃ p, 0 ≤ p ∧ p ≤ m ∧ (∀ j, 0 ≤ j → j < p → g j = f j) ∧ (0 < p → f (p - 1) ≤ x) ∧ g p = x ∧ (∀ j, p ≤ j → j < m → g (j + 1) = f j ∧ x < f j)
def SCq (v m : Int) (f : Int → Int) : Prop := 1 ≤ m ∧ f 0 = 1 ∧ (∀ j, 0 ≤ j → j < m → 1 ≤ f j ∧ f j ≤ v) ∧ (∀ j, 0 ≤ j → j + 1 < m → f j ≤ f (j + 1))
theorem SCq.ins {v m x : Int} {f g : Int → Int} (h : SCq v m f) (hx0 : 1 ≤ x) (hx1 : x ≤ v) (hi : Ins f m x g) : SCq v (m + 1) g := by
  obtain ⟨p, p0, pm, h1, h2, h3, h4⟩ := hi
  obtain ⟨a1, a2, a3, a4⟩ := h
  have hp : 0 < p := by
    rcases Int.lt_or_le 0 p with hp | hp
    · exact hp
    · have e : p = 0 := by omega
      have := (h4 0 (by omega) (by omega)).2
      omega
  refine ⟨by omega, by rw [h1 0 (by omega) hp]; exact a2, fun j b c => ?_, fun j b c => ?_⟩
  · rcases Int.lt_trichotomy j p with hj | hj | hj
    · rw [h1 j b hj]; exact a3 j b (by omega)
    · rw [hj, h3]; omega
    · have e := h4 (j - 1) (by omega) (by omega)
      rw [show j - 1 + 1 = j by omega] at e
      rw [e.1]; exact a3 (j - 1) (by omega) (by omega)
  · rcases Int.lt_trichotomy (j + 1) p with hj | hj | hj
    · rw [h1 j b (by omega), h1 (j + 1) (by omega) hj]; exact a4 j b (by omega)
    · rw [h1 j b (by omega), hj, h3]
      have := h2 hp
      rw [show p - 1 = j by omega] at this
      exact this
    · by_cases hjp : j = p
      · rw [(h4 j (by omega) (by omega)).1, hjp, h3]
        have := (h4 p (by omega) (by omega)).2
        omega
      · rw [(h4 j (by omega) (by omega)).1]
        have e := h4 (j - 1) (by omega) (by omega)
        rw [show j - 1 + 1 = j by omega] at e
        rw [e.1]
        have := a4 (j - 1) (by omega) (by omega)
        rw [show j - 1 + 1 = j by omega] at this
        exact this
theorem Ins.old {m x : Int} {f g : Int → Int} (hi : Ins f m x g) {y : Int} (h : ∃ j, 0 ≤ j ∧ j < m ∧ f j = y) : ∃ j, 0 ≤ j ∧ j < m + 1 ∧ g j = y := by
  obtain ⟨p, p0, pm, h1, h2, h3, h4⟩ := hi
  obtain ⟨j, a, b, c⟩ := h
  by_cases hj : j < p
  · exact ⟨j, a, by omega, by rw [h1 j a hj]; exact c⟩
  · exact ⟨j + 1, by omega, by omega, by rw [(h4 j (by omega) b).1]; exact c⟩
theorem Ins.new {m x : Int} {f g : Int → Int} (hi : Ins f m x g) : ∃ j, 0 ≤ j ∧ j < m + 1 ∧ g j = x := by
  obtain ⟨p, p0, pm, h1, h2, h3, h4⟩ := hi
  exact ⟨p, p0, by omega, h3⟩
theorem SCq.le {v m : Int} {f : Int → Int} (h : SCq v m f) {i j : Int} (h0 : 0 ≤ i) (hij : i ≤ j) (hj : j < m) : f i ≤ f j := by
  have : ∀ d, 0 ≤ d → i + d < m → f i ≤ f (i + d) := by
    refine nn_ind (fun _ => by rw [Int.add_zero]; exact Int.le_refl _) (fun d hd ih hm => ?_)
    have h1 := ih (by omega)
    have h2 := h.2.2.2 (i + d) (by omega) (by omega)
    rw [← Int.add_assoc]
    omega
  have := this (j - i) (by omega) (by omega)
  rwa [show i + (j - i) = j by omega] at this
/-- where a stretch ends -/
def nxt (v m : Int) (f : Int → Int) (j : Int) : Int := if j < m then f j else v + 1
theorem SCq.nx {v m : Int} {f : Int → Int} (h : SCq v m f) {j : Int} (h0 : 0 ≤ j) (h1 : j < m) : f j ≤ nxt v m f (j + 1) ∧ nxt v m f (j + 1) ≤ v + 1 := by
  unfold nxt
  have := h.2.2.1 j h0 h1
  split
  · next hh =>
    have h2 := h.2.2.2 j h0 hh
    have h3 := h.2.2.1 (j + 1) (by omega) hh
    omega
  · omega
/-- every place where P changes is among them -/
def CHq (v m : Int) (f : Int → Int) (P : Int → Bool) : Prop := ∀ s, 1 ≤ s → s < v → P s ≠ P (s + 1) → ∃ j, 0 ≤ j ∧ j < m ∧ f j = s + 1
theorem seg_const {v m : Int} {f : Int → Int} {P : Int → Bool} (h : SCq v m f) (hc : CHq v m f P) {j : Int} (h0 : 0 ≤ j) (h1 : j < m) : ∀ d, 0 ≤ d → f j + d < nxt v m f (j + 1) → P (f j + d) = P (f j) := by
  have hn := h.nx h0 h1
  have hr := h.2.2.1 j h0 h1
  refine nn_ind (fun _ => by rw [Int.add_zero]) (fun d hd ih hlt => ?_)
  rw [← ih (by omega), ← Int.add_assoc]
  refine Classical.byContradiction fun hne => ?_
  obtain ⟨q, q0, q1, q2⟩ := hc (f j + d) (by omega) (by omega) (fun e => hne e.symm)
  rcases Int.lt_or_le j q with hq | hq
  · have h3 := h.le (i := j + 1) (by omega) (show j + 1 ≤ q by omega) q1
    have e : nxt v m f (j + 1) = f (j + 1) := by unfold nxt; rw [if_pos (by omega)]
    omega
  · have := h.le q0 hq h1
    omega
theorem cI_run {p : Int → Bool} {a : Int} {b : Bool} (ha : 0 ≤ a) : ∀ d, 0 ≤ d → (∀ e, 0 ≤ e → e < d → p (a + e) = b) → cI p (a + d) = cI p a + (if b then d else 0) := by
  refine nn_ind (fun _ => by rw [Int.add_zero]; cases b <;> simp) (fun d hd ih hb => ?_)
  have h1 := ih (fun e x y => hb e x (by omega))
  have h2 := hb d hd (by omega)
  rw [← Int.add_assoc]
  cases b with
  | true => rw [cI_t (by omega) h2, h1]; simp; omega
  | false => rw [cI_f (by omega) h2, h1]; simp
/-- the sum of the stretches that are so is the number of starts that are so -/
def ssq (v m : Int) (f : Int → Int) (P : Int → Bool) (j : Int) : Int := sI (fun c => if P (f c) then nxt v m f (c + 1) - f c else 0) j
theorem ssq_s {v m : Int} {f : Int → Int} {P : Int → Bool} {j : Int} (h : 0 ≤ j) : ssq v m f P (j + 1) = ssq v m f P j + (if P (f j) then nxt v m f (j + 1) - f j else 0) := sI_s h
theorem ssq_eq {v m : Int} {f : Int → Int} {P : Int → Bool} (h : SCq v m f) (hc : CHq v m f P) : ∀ j, 0 ≤ j → j ≤ m → ssq v m f P j = cI (fun s => P (s + 1)) (nxt v m f j - 1) := by
  refine nn_ind (fun _ => ?_) (fun j hj ih hm => ?_)
  · have : nxt v m f 0 - 1 = 0 := by unfold nxt; rw [if_pos (by have := h.1; omega), h.2.1]; rfl
    rw [this]; rfl
  · have hn := h.nx hj (by omega)
    have hr := h.2.2.1 j hj (by omega)
    have e : nxt v m f j = f j := by unfold nxt; rw [if_pos (by omega)]
    rw [ssq_s hj, ih (by omega), e]
    have := cI_run (p := fun s => P (s + 1)) (a := f j - 1) (b := P (f j)) (by omega) (nxt v m f (j + 1) - f j) (by omega) (fun d x y => by
      show P (f j - 1 + d + 1) = _
      rw [show f j - 1 + d + 1 = f j + d by omega]
      exact seg_const h hc hj (by omega) d x (by omega))
    rw [show f j - 1 + (nxt v m f (j + 1) - f j) = nxt v m f (j + 1) - 1 by omega] at this
    rw [this]
theorem ssq_all {v m : Int} {f : Int → Int} {P : Int → Bool} (h : SCq v m f) (hc : CHq v m f P) : ssq v m f P m = cI (fun s => P (s + 1)) v := by
  rw [ssq_eq h hc m (by have := h.1; omega) (Int.le_refl _)]
  have : nxt v m f m - 1 = v := by unfold nxt; rw [if_neg (by omega)]; omega
  rw [this]
theorem ssq_in {v m : Int} {f : Int → Int} {P : Int → Bool} (h : SCq v m f) (hc : CHq v m f P) {j : Int} (h0 : 0 ≤ j) (h1 : j ≤ m) : 0 ≤ ssq v m f P j ∧ ssq v m f P j ≤ v := by
  rw [ssq_eq h hc j h0 h1]
  have : 0 ≤ nxt v m f j - 1 ∧ nxt v m f j - 1 ≤ v := by
    unfold nxt
    split
    · have := h.2.2.1 j h0 (by omega); omega
    · have := h.2.2.1 0 (by omega) (by have := h.1; omega); omega
  have := cI_in (p := fun s => P (s + 1)) this.1
  omega
/-- where what a start hits changes -/
def CUT (A : St) (v s : Int) : Prop := s = 1 ∨ ∃ i, 0 ≤ i ∧ i < A 0 0 ∧ 0 < rc A v i ∧ s = (prq A v i + rc A v i) % v + 1
/-- before an item of the rest with coins ahead of it lies the last coin of another -/
theorem prq_prev {A : St} (hA : OKL A) {v : Int} : ∀ i, 0 ≤ i → i ≤ A 0 0 → 0 < prq A v i → ∃ j, 0 ≤ j ∧ j < i ∧ 0 < rc A v j ∧ prq A v j + rc A v j = prq A v i := by
  refine nn_ind (fun _ h => ?_) (fun i hi ih h1 h2 => ?_)
  · have : prq A v 0 = 0 := rfl
    omega
  · have hr := rc_in hA (v := v) hi (by omega)
    rw [prq_s hi] at h2 ⊢
    by_cases hz : rc A v i = 0
    · rw [hz, Int.add_zero] at h2 ⊢
      obtain ⟨j, a, b, c⟩ := ih (by omega) h2
      exact ⟨j, a, by omega, c⟩
    · exact ⟨i, hi, by omega, by omega, rfl⟩
theorem emod_up {a v : Int} (hv : 0 < v) : (a + 1) % v = a % v + 1 ∧ a % v + 1 < v ∨ (a + 1) % v = 0 ∧ a % v + 1 = v := by
  have h1 := Int.emod_nonneg a (show v ≠ 0 by omega)
  have h2 := Int.emod_lt_of_pos a hv
  have h3 := Int.emod_add_mul_ediv a v
  have e : a + 1 = (a % v + 1) + v * (a / v) := by omega
  rw [e, Int.add_mul_emod_self_left]
  by_cases h : a % v + 1 < v
  · exact Or.inl ⟨Int.emod_eq_of_lt (by omega) h, h⟩
  · have : a % v + 1 = v := by omega
    rw [this]
    exact Or.inr ⟨Int.emod_self, rfl⟩
theorem emod_of_sub {s b x v : Int} (h0 : 0 ≤ s) (h1 : s < v) (hx : (s - b) % v = x) : s = (b + x) % v := by
  have h3 := Int.emod_add_mul_ediv (s - b) v
  rw [hx] at h3
  have : b + x = s + v * (-((s - b) / v)) := by rw [Int.mul_neg]; omega
  rw [this, Int.add_mul_emod_self_left, Int.emod_eq_of_lt h0 h1]
theorem sk_cut {A : St} (hA : OKL A) {v s i : Int} (hi0 : 0 ≤ i) (hi1 : i < A 0 0) (h0 : 1 ≤ s) (h1 : s < v) (hne : sk A v s i ≠ sk A v (s + 1) i) : CUT A v (s + 1) := by
  have hv : 0 < v := by omega
  have hf := fc_in hA (v := v) hi0 hi1
  have hr := rc_lt (A := A) (i := i) hv
  have hp := prq_in hA (v := v) hi0 (by omega)
  have hlo := Int.emod_nonneg (s - fc A v i) (show v ≠ 0 by omega)
  have hup := emod_up (a := s - fc A v i) hv
  rw [show s - fc A v i + 1 = s + 1 - fc A v i by omega] at hup
  by_cases hz : 0 < rc A v i
  · by_cases ha : (s - fc A v i) % v < rc A v i
    · have hb : ¬ (s + 1 - fc A v i) % v < rc A v i := fun hb => hne (by unfold sk; simp [hv, hz, ha, hb])
      have e := emod_of_sub (b := fc A v i) (by omega) h1 (show (s - fc A v i) % v = rc A v i - 1 by omega)
      rw [show fc A v i + (rc A v i - 1) = prq A v i + rc A v i by omega] at e
      exact Or.inr ⟨i, hi0, hi1, hz, by omega⟩
    · have hb : (s + 1 - fc A v i) % v < rc A v i := Classical.byContradiction fun hb => hne (by unfold sk; simp [ha, hb])
      have e := emod_of_sub (b := fc A v i) (by omega) h1 (show (s - fc A v i) % v = v - 1 by omega)
      rw [show fc A v i + (v - 1) = prq A v i + v by omega, Int.add_emod_right] at e
      have hpp : 0 < prq A v i := by
        rcases Int.lt_or_le 0 (prq A v i) with h | h
        · exact h
        · have : prq A v i = 0 := by omega
          rw [this] at e; simp at e; omega
      obtain ⟨j, a, b, c, d⟩ := prq_prev hA i hi0 (by omega) hpp
      exact Or.inr ⟨j, a, by omega, c, by rw [d]; omega⟩
  · exact absurd (by unfold sk; simp [hz]) hne
/-- all cuts are among them -/
def CAq (A : St) (v m : Int) (f : Int → Int) : Prop := ∀ s, CUT A v s → ∃ j, 0 ≤ j ∧ j < m ∧ f j = s
/-- what only looks at which items are hit changes at cuts alone -/
theorem ch_of {A : St} (hA : OKL A) {v m : Int} {f : Int → Int} (hc : CAq A v m f) {P : Int → Bool} (hP : ∀ s, 1 ≤ s → s < v → (∀ i, 0 ≤ i → i < A 0 0 → sk A v s i = sk A v (s + 1) i) → P s = P (s + 1)) : CHq v m f P := by
  intro s h0 h1 hne
  by_cases h : ∃ i, 0 ≤ i ∧ i < A 0 0 ∧ sk A v s i ≠ sk A v (s + 1) i
  · obtain ⟨i, a, b, c⟩ := h
    exact hc _ (sk_cut hA a b h0 h1 c)
  · refine absurd (hP s h0 h1 (fun i a b => ?_)) hne
    exact Classical.byContradiction fun q => h ⟨i, a, b, q⟩
/-- how many of the marked a start hits; taints above; not audited -/
def mh (A : St) (f : Int → Bool) (s : Int) : Int := cI (fun i => f i && sk A (A 0 1) s i) (A 0 0)
def tb (A : St) (s : Int) : Int := sI (fun i => if sk A (A 0 1) s i then mx (ta A i) else 0) (A 0 0)
def na (A : St) (s : Int) : Int := cI (fun i => decide (A 4 i = -1) && (ce A (A 0 1) i || sk A (A 0 1) s i)) (A 0 0)
theorem mh_congr {A : St} (hA : OKL A) {f : Int → Bool} {s t : Int} (h : ∀ i, 0 ≤ i → i < A 0 0 → sk A (A 0 1) s i = sk A (A 0 1) t i) : mh A f s = mh A f t := cI_congr hA.1 (fun i a b => by rw [h i a b])
theorem tb_congr {A : St} (hA : OKL A) {s t : Int} (h : ∀ i, 0 ≤ i → i < A 0 0 → sk A (A 0 1) s i = sk A (A 0 1) t i) : tb A s = tb A t := sI_congr hA.1 (fun i a b => by rw [h i a b])
theorem tb_in {A : St} (hA : OKL A) {s i : Int} (h0 : 0 ≤ i) (h1 : i ≤ A 0 0) : 0 ≤ sI (fun i => if sk A (A 0 1) s i then mx (ta A i) else 0) i ∧ sI (fun i => if sk A (A 0 1) s i then mx (ta A i) else 0) i ≤ 10000 * i := by
  have hr : ∀ j, 0 ≤ j → j < A 0 0 → 0 ≤ (if sk A (A 0 1) s j then mx (ta A j) else 0) ∧ (if sk A (A 0 1) s j then mx (ta A j) else 0) ≤ 10000 := fun j a b => by
    have h2 := ta_in hA a b
    have h4 := mx_in (ta A j)
    split <;> omega
  exact ⟨sI_nn h0 (fun j a b => (hr j a (by omega)).1), sI_le h0 (fun j a b => (hr j a (by omega)).2)⟩
/-- how many starts hit just k of the marked -/
def caq (A : St) (f : Int → Bool) (k : Int) : Int := cI (fun s => decide (mh A f (s + 1) = k)) (A 0 1)
/-- the lowest start that hits the most taint -/
def isW (A : St) (s : Int) : Prop := 1 ≤ s ∧ s ≤ A 0 1 ∧ (∀ t, 1 ≤ t → t ≤ A 0 1 → tb A t ≤ tb A s) ∧ (∀ t, 1 ≤ t → t < s → tb A t < tb A s)
theorem isW_one {A : St} {s t : Int} (h : isW A s) (g : isW A t) : s = t := by
  rcases Int.lt_trichotomy s t with q | q | q
  · have h1 := g.2.2.2 s h.1 q
    have h2 := h.2.2.1 t g.1 g.2.1
    omega
  · exact q
  · have h1 := h.2.2.2 t g.1 q
    have h2 := g.2.2.1 s h.1 h.2.1
    omega
/-- of the cuts up to j the first with the most taint: it is so among all starts below the next cut -/
theorem isW_of {A : St} (hA : OKL A) {m : Int} {f : Int → Int} (h : SCq (A 0 1) m f) (hc : CAq A (A 0 1) m f) {s j : Int} (hj0 : 0 ≤ j) (hj1 : j < m) (hs : s = f j) (hb : ∀ i, 0 ≤ i → i < j → tb A (f i) < tb A s) (ha : ∀ i, 0 ≤ i → i < m → tb A (f i) ≤ tb A s) : isW A s := by
  -- every start lies behind a cut, and is as that
  have key : ∀ t, 1 ≤ t → t ≤ A 0 1 → ∃ i, 0 ≤ i ∧ i < m ∧ f i ≤ t ∧ tb A (f i) = tb A t := by
    have : ∀ d, 0 ≤ d → 1 + d ≤ A 0 1 → ∃ i, 0 ≤ i ∧ i < m ∧ f i ≤ 1 + d ∧ tb A (f i) = tb A (1 + d) := by
      refine nn_ind (fun _ => ⟨0, by omega, by have := h.1; omega, by rw [h.2.1]; omega, by rw [h.2.1]; rfl⟩) (fun d hd ih hle => ?_)
      obtain ⟨i, i0, i1, i2, i3⟩ := ih (by omega)
      rw [← Int.add_assoc]
      by_cases hq : ∃ i, 0 ≤ i ∧ i < A 0 0 ∧ sk A (A 0 1) (1 + d) i ≠ sk A (A 0 1) (1 + d + 1) i
      · obtain ⟨q, a, b, c⟩ := hq
        obtain ⟨x, x0, x1, x2⟩ := hc _ (sk_cut hA a b (by omega) (by omega) c)
        exact ⟨x, x0, x1, by omega, by rw [x2]⟩
      · refine ⟨i, i0, i1, by omega, ?_⟩
        rw [i3]
        exact tb_congr hA (fun q a b => Classical.byContradiction fun z => hq ⟨q, a, b, z⟩)
    intro t t0 t1
    have := this (t - 1) (by omega) (by omega)
    rwa [show 1 + (t - 1) = t by omega] at this
  have hr := h.2.2.1 j hj0 hj1
  refine ⟨by omega, by omega, fun t a b => ?_, fun t a b => ?_⟩
  · obtain ⟨i, i0, i1, i2, i3⟩ := key t a b
    rw [← i3]; exact ha i i0 i1
  · obtain ⟨i, i0, i1, i2, i3⟩ := key t a (by omega)
    rw [← i3]
    refine hb i i0 ?_
    rcases Int.lt_or_le i j with q | q
    · exact q
    · have := h.le hj0 q i1
      omega

