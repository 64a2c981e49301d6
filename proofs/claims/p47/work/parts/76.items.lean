-- items, accounts: the class's answers beside the books
def AC (A : St) : Prop := ∀ i, 0 ≤ i → i < A 0 0 → A 1 i ≤ 4
/-- no two items have one key -/
def UK (A : St) : Prop := ∀ i j, 0 ≤ i → i < A 0 0 → 0 ≤ j → j < A 0 0 → A 1 i = A 1 j → A 2 i = A 2 j → i = j
/-- rows of the accounts -/
def MX (w0 w : Wd) (q : Nat) (ρ : Int → Nat) (v : Int → Int → Int) : Prop :=
  (Ow w q (kR 6 100) ∧ q ∉ wL w0 ∧ ∀ t, 0 ≤ t → t < 100 → wR w q t = some (ρ t)) ∧
  (∀ t, 0 ≤ t → t < 100 → Ow w (ρ t) (kA 0 6) ∧ ρ t ∉ wL w0 ∧ ∀ j, 0 ≤ j → j < 6 → wI w (ρ t) j = v t j) ∧ ∀ s t, 0 ≤ s → s < 100 → 0 ≤ t → t < 100 → ρ s = ρ t → s = t
def vaq (A : St) (i t j : Int) : Int := if j = 5 then 0 else sI (fun i => if A 1 i = t then shq A j i else 0) i
section FQ
variable {A : St} {i j k t n : Int}
theorem fst_t (i0 : 0 ≤ i) (i1 : i < A 0 0) (h : ∀ j, 0 ≤ j → j < i → A 1 j ≠ A 1 i) : fstq A i = true := by
  unfold fstq
  rw [fI_eq i0 i1 (by simp) (fun j a b => by simpa using h j a b)]
  simp
theorem fst_f (i0 : 0 ≤ i) (i1 : i < A 0 0) (j0 : 0 ≤ j) (j1 : j < i) (h : A 1 j = A 1 i) : fstq A i = false := by
  unfold fstq
  simp only [decide_eq_false_iff_not]
  intro e
  rcases fI_spec (fun j => decide (A 1 j = A 1 i)) (n := A 0 0) (by omega) with ⟨h1, _⟩ | ⟨a, b, c, d⟩
  · omega
  · rw [e] at d
    have := d j j0 j1
    simp at this
    exact this h
/-- the first of the account -/
theorem fst_ex (i0 : 0 ≤ i) (i1 : i < A 0 0) : ∃ t, 0 ≤ t ∧ t ≤ i ∧ fstq A t = true ∧ A 1 t = A 1 i := by
  rcases fI_spec (fun j => decide (A 1 j = A 1 i)) (n := A 0 0) (by omega) with ⟨_, h⟩ | ⟨a, b, c, d⟩
  · have := h i i0 i1
    simp at this
  · have hle : fI (fun j => decide (A 1 j = A 1 i)) (A 0 0) ≤ i := by
      rcases Int.lt_or_le i (fI (fun j => decide (A 1 j = A 1 i)) (A 0 0)) with h | h
      · have := d i i0 h
        simp at this
      · exact h
    generalize fI (fun j => decide (A 1 j = A 1 i)) (A 0 0) = t at a b c d hle
    have c' : A 1 t = A 1 i := by simpa using c
    refine ⟨t, a, hle, fst_t a b (fun j x y e => ?_), c'⟩
    have := d j x y
    simp at this
    exact this (e.trans c')
theorem cI_mo {p : Int → Bool} (h0 : 0 ≤ i) (h : i ≤ j) : cI p i ≤ cI p j := sI_mono h0 h (fun q _ _ => by have := bi_01 (p q); omega)
theorem cI_lt {p : Int → Bool} (h0 : 0 ≤ i) (h : i < j) (hp : p i = true) : cI p i < cI p j := by
  have := cI_mo (p := p) (i := i + 1) (j := j) (by omega) (by omega)
  rw [cI_t h0 hp] at this
  omega
theorem cI_ex {p : Int → Bool} : ∀ n, 0 ≤ n → (∀ k, 0 ≤ k → k < cI p n → ∃ t, 0 ≤ t ∧ t < n ∧ p t = true ∧ cI p t = k) := by
  refine nn_ind (fun k a b => by rw [cI_0] at b; omega) (fun n hn ih k a b => ?_)
  cases hp : p n with
  | true =>
    rw [cI_t hn hp] at b
    by_cases e : k = cI p n
    · exact ⟨n, hn, by omega, hp, e.symm⟩
    · obtain ⟨t, t0, t1, t2, t3⟩ := ih k a (by omega)
      exact ⟨t, t0, by omega, t2, t3⟩
  | false =>
    rw [cI_f hn hp] at b
    obtain ⟨t, t0, t1, t2, t3⟩ := ih k a b
    exact ⟨t, t0, by omega, t2, t3⟩
theorem acs_at (t0 : 0 ≤ t) (t1 : t < A 0 0) (h : fstq A t = true) : q_accounts A (cI (fstq A) t) = A 1 t := by
  have e := kI_hit (n := A 0 0) t0 t1 h rfl
  have := cI_in (p := fstq A) t0
  unfold q_accounts
  rw [e, if_neg (by omega)]
/-- the account was told before: where -/
theorem acs_old (i0 : 0 ≤ i) (i1 : i < A 0 0) (h : fstq A i = false) : ∃ k, 0 ≤ k ∧ k < cI (fstq A) i ∧ q_accounts A k = A 1 i := by
  obtain ⟨t, t0, t1, t2, t3⟩ := fst_ex i0 i1
  have hne : t ≠ i := fun e => by rw [e, h] at t2; cases t2
  have := cI_in (p := fstq A) t0
  exact ⟨cI (fstq A) t, this.1, cI_lt t0 (by omega) t2, (acs_at t0 (by omega) t2).trans t3⟩
theorem acs_new (i0 : 0 ≤ i) (i1 : i < A 0 0) (h : fstq A i = true) (k0 : 0 ≤ k) (k1 : k < cI (fstq A) i) : q_accounts A k ≠ A 1 i := by
  obtain ⟨t, t0, t1, t2, t3⟩ := cI_ex i i0 k k0 k1
  intro e
  have e1 := acs_at t0 (by omega) t2
  rw [t3, e] at e1
  rw [fst_f i0 i1 t0 t1 e1.symm] at h
  cases h
theorem acs_end (h : 0 ≤ A 0 0) : q_accounts A (cI (fstq A) (A 0 0)) = -1 := by
  have h1 := cI_in (p := fstq A) h
  have e := kI_end (p := fstq A) (k := cI (fstq A) (A 0 0)) h (by omega) (fun j a b c => by have := cI_lt a b c; omega)
  rw [if_neg (by omega)] at e
  unfold q_accounts
  rw [e, if_pos (by omega)]
theorem acs_all : q_accounts A (-1) = cI (fstq A) (A 0 0) := by
  unfold q_accounts kI
  rw [if_pos (by omega), if_neg (by omega), if_pos rfl]
theorem acs_low : q_accounts A (-2) = -3 := by
  unfold q_accounts kI
  rw [if_pos (by omega), if_pos (by omega)]
theorem plcq_at (hU : UK A) (i0 : 0 ≤ i) (i1 : i < A 0 0) : plcq A (A 1 i) (A 2 i) = i := by
  unfold plcq
  refine fI_eq i0 i1 (by simp) (fun j a b => ?_)
  simp only [decide_eq_false_iff_not]
  intro h
  have := hU j i a (by omega) i0 i1 h.1 h.2
  omega
theorem plcq_99 (hA : OKL A) (hC : AC A) : plcq A 99 9999 = -1 := by
  unfold plcq
  refine fI_none hA.1 (fun j a b => ?_)
  have := hC j a b
  simp only [decide_eq_false_iff_not]
  omega
theorem q_item_in {c : Int} (i0 : 0 ≤ i) (i1 : i < A 0 0) : q_item A i c = if c = 0 then A 1 i else if c = 1 then A 2 i else if c = 2 then A 3 i else if c = 3 then A 4 i else if c = 4 then er A i else if c = 5 then ta A i else if c = 6 then bi (ce A (A 0 1) i) else if c = 7 then th A (A 0 2) i else if c = 8 then fc A (A 0 1) i else -10000000 := by
  unfold q_item
  rw [if_neg (by omega)]
theorem sI_m {F : Int → Int} {N : Int} {h : Int → Int} (hN : 0 ≤ N) : ∀ n, 0 ≤ n → ((∀ k, 0 ≤ k → k < n → 0 ≤ h k ∧ h k < N) → sI (fun k => F (h k)) n = sI (fun i => F i * cI (fun k => decide (h k = i)) n) N) := by
  have one : ∀ (x : Int) (f : Int → Int) (M : Int), 0 ≤ M → (sI (fun i => f i + F i * bi (decide (x = i))) M = sI f M + if 0 ≤ x ∧ x < M then F x else 0) := fun x f => by
    refine nn_ind (by rw [if_neg (by omega)]; rfl) (fun M hM ih => ?_)
    rw [sI_s hM, sI_s hM, ih]
    by_cases e : x = M
    · subst e
      rw [if_neg (by omega), if_pos (by omega), bi_t (by simp)]
      omega
    · rw [bi_f (by simpa using e)]
      by_cases e2 : 0 ≤ x ∧ x < M
      · rw [if_pos e2, if_pos (by omega)]; omega
      · rw [if_neg e2, if_neg (by omega)]; omega
  refine nn_ind (fun _ => ?_) (fun n hn ih hh => ?_)
  · have e : sI (fun i => F i * cI (fun k => decide (h k = i)) 0) N = sI (fun _ => 0) N := sI_congr hN (fun j a b => by rw [cI_0, Int.mul_zero])
    rw [e]
    have : ∀ M, 0 ≤ M → sI (fun _ => (0 : Int)) M = 0 := nn_ind rfl (fun M hM ih => by rw [sI_s hM, ih]; rfl)
    rw [this N hN]
    rfl
  · have hx := hh n hn (by omega)
    rw [sI_s hn, ih (fun k a b => hh k a (by omega))]
    have e : sI (fun i => F i * cI (fun k => decide (h k = i)) (n + 1)) N = sI (fun i => F i * cI (fun k => decide (h k = i)) n + F i * bi (decide (h n = i))) N := sI_congr hN (fun j a b => by
      show F j * sI _ (n + 1) = F j * sI _ n + _
      rw [sI_s hn, Int.mul_add])
    rw [e, one (h n) _ N hN, if_pos hx]
end FQ
section IT2
variable {G : Gq} {w0 w w' u v : Wd} {A A' : St} {B : Bks} {S T : List Nat} {a r n mc ms q x h row N y p : Nat} {m k i j R sg t e d : Int} {f g g0 : Int → Nat} {σ : St} {ρ : Int → Nat} {va : Int → Int → Int} {gg : Int → Int} {mm : Nat}
theorem MX.kt (hm : MX w0 w q ρ va) (hk : Kt w0 w w') : MX w0 w' q ρ va := by
  obtain ⟨⟨a1, a2, a3⟩, b, c⟩ := hm
  refine ⟨⟨hk.ow a1, a2, fun t x y => ((hk.at a1 (by simp) (by simp) (by simp) (by simp) (by simp)).2 t).trans (a3 t x y)⟩, fun t x y => ?_, c⟩
  obtain ⟨b1, b2, b3⟩ := b t x y
  exact ⟨hk.ow b1, b2, fun j x y => ((hk.at b1 (by simp) (by simp) (by simp) (by simp) (by simp)).1 j).trans (b3 j x y)⟩
theorem MX.k0 (hm : MX w0 w q ρ va) (hk : Kp [] w w') : MX w0 w' q ρ va := hm.kt (Kt.of hk)
/-- one row has changed -/
theorem MX.set {v2 : Int → Int → Int} (hm : MX w0 w q ρ va) (t0 : 0 ≤ t) (t1 : t < 100) (hk : Kp [ρ t] w w') (h1 : ∀ j, 0 ≤ j → j < 6 → wI w' (ρ t) j = v2 t j) (h2 : ∀ s j, 0 ≤ s → s < 100 → s ≠ t → 0 ≤ j → j < 6 → v2 s j = va s j) : MX w0 w' q ρ v2 := by
  obtain ⟨⟨a1, a2, a3⟩, b, c⟩ := hm
  have hq : q ∉ [ρ t] := fun hm => (a1.kne (b t t0 t1).1 (by simp)) (List.mem_singleton.mp hm)
  refine ⟨⟨a1.kp hk, a2, fun t x y => (hk.R a1.1 hq).trans (a3 t x y)⟩, fun s x y => ?_, c⟩
  obtain ⟨b1, b2, b3⟩ := b s x y
  refine ⟨b1.kp hk, b2, fun j u z => ?_⟩
  by_cases es : s = t
  · subst es; exact h1 j u z
  · have hs : ρ s ∉ [ρ t] := fun hm => es (c s t x y t0 t1 (List.mem_singleton.mp hm))
    rw [hk.I b1.1 hs, b3 j u z, h2 s j x y es u z]
theorem LSh.kq (hl : LSh G w0 w p mm d f gg) (hk : Kp S w w') (hS : ∀ b ∈ S, ∃ kk, wK w b = kk ∧ kk ≠ kO 19 ∧ kk ≠ kO 20 ∧ kk ≠ kO 21 ∧ kk ≠ kR 5 16) : LSh G w0 w' p mm d f gg := by
  have ns : ∀ {b : Nat} {kk : Kd}, Ow w b kk → (kk = kO 19 ∨ kk = kO 20 ∨ kk = kO 21 ∨ kk = kR 5 16) → b ∉ S := fun hO hne hb => by
    obtain ⟨kk, e, e1, e2, e3, e4⟩ := hS _ hb
    rw [hO.2] at e
    subst e
    rcases hne with h | h | h | h
    · exact e1 h
    · exact e2 h
    · exact e3 h
    · exact e4 h
  obtain ⟨⟨p1, p2⟩, hl⟩ := hl
  refine ⟨⟨p1.kp hk, (hk.R p1.1 (ns p1 (by simp))).trans p2⟩, ?_⟩
  rcases hl with ⟨hd, m1, m2, m3, m4, m5, m6, m7, m8, m9, m10, m11, m12⟩ | ⟨t, ⟨m1, m2, m3, m4, m5, m6, m7, m8, m9⟩, ⟨d0, dz, dp⟩, ⟨t1, t2, t3⟩, n1, n2⟩
  · have hm := ns m1 (by simp)
    exact Or.inl ⟨hd, m1.kp hk, m2, (hk.I m1.1 hm).trans m3, (hk.I m1.1 hm).trans m4, (hk.I m1.1 hm).trans m5, (hk.I m1.1 hm).trans m6, (hk.I m1.1 hm).trans m7, (hk.R m1.1 hm).trans m8, (hk.R m1.1 hm).trans m9, (hk.R m1.1 hm).trans m10, (hk.R m1.1 hm).trans m11, (hk.J m1.1 hm).trans m12⟩
  · have hm := ns m1 (by simp)
    have ht := ns t1 (by simp)
    refine Or.inr ⟨t, ⟨m1.kp hk, m2, (hk.I m1.1 hm).trans m3, (hk.I m1.1 hm).trans m4, (hk.I m1.1 hm).trans m5, (hk.I m1.1 hm).trans m6, (hk.I m1.1 hm).trans m7, (hk.R m1.1 hm).trans m8, (hk.R m1.1 hm).trans m9⟩, ⟨d0, fun h => ⟨(hk.R m1.1 hm).trans (dz h).1, (hk.R m1.1 hm).trans (dz h).2⟩, fun h => ⟨(hk.R m1.1 hm).trans (dp h).1, (hk.R m1.1 hm).trans (dp h).2⟩⟩, ⟨t1.kp hk, t2, fun a x y => ⟨fun j x1 y1 e => (hk.R t1.1 ht).trans ((t3 a x y).1 j x1 y1 e), fun e => (hk.R t1.1 ht).trans ((t3 a x y).2 e)⟩⟩, fun j x y => ?_, n2⟩
    obtain ⟨c1, c2, c3, c4, c5, c6, c7⟩ := n1 j x y
    have hf := ns c1 (by simp)
    exact ⟨c1.kp hk, c2, c3, (hk.I c1.1 hf).trans c4, (hk.R c1.1 hf).trans c5, (hk.R c1.1 hf).trans c6, (hk.R c1.1 hf).trans c7⟩
theorem LSh.k0 (hl : LSh G w0 w p mm d f gg) (hk : Kp [] w w') : LSh G w0 w' p mm d f gg := hl.kq hk (fun b hb => absurd hb List.not_mem_nil)
/-- so far: i items looked at -/
def IX (G : Gq) (w0 w : Wd) (A : St) (q : Nat) (ρ : Int → Nat) (p mm : Nat) (f : Int → Nat) (gg : Int → Int) (i : Int) : Prop :=
  CL G w0 w A ∧ MX w0 w q ρ (vaq A i) ∧ LSh G w0 w p mm (cI (fstq A) i) f gg ∧ ∀ k, 0 ≤ k → k < cI (fstq A) i → gg k = q_accounts A k
theorem IX.k0 (hi : IX G w0 w A q ρ p mm f gg i) (hk : Kp [] w w') (hl : CL G w0 w' A) : IX G w0 w' A q ρ p mm f gg i := ⟨hl, hi.2.1.k0 hk, hi.2.2.1.k0 hk, hi.2.2.2⟩
theorem IX.cls (hi : IX G w0 w A q ρ p mm f gg i) (hC : CR A σ) (hF : FC σ) : IX G w0 (uS w σ) A q ρ p mm f gg i := ⟨hi.1.cls hC hF, hi.2.1, hi.2.2.1, hi.2.2.2⟩
theorem CL.sub (h : CL G w0 w A) : ∀ b, b ∈ wL w0 → b ∈ wL w := fun b hb => (h.1.2 b hb).1
theorem CL.kt (h : CL G w0 w A) (hk : Kt w0 w w') (hx : XOK G w0) (hx' : XOK G w') : CL G w0 w' A := by
  have hs : wS w' = wS w := by obtain ⟨S, h1, _⟩ := hk; exact h1.1
  have k1 : Kp [] w0 (uS w' (wS w0)) := (Kt.us (σ := wS w0) hk).kp h.1
  exact ⟨k1, (Kg.of (w' := uS w' (wS w0)) k1 hx hx').2, by rw [hs]; exact h.2.2.1, by rw [hs]; exact h.2.2.2⟩
/-- one row more has changed -/
theorem CL.wr (hl : CL G w0 w A) (hx : XOK G w0) (hx' : XOK G w') (hk : Kp [x] w w') (hn : x ∉ wL w0) : CL G w0 w' A := by
  have kt5 : Kp [] w0 (uS w' (wS w0)) := hl.1.trd (hk.us (σ := wS w0)) (fun b hb => by rw [List.mem_singleton.mp hb]; exact Or.inr hn)
  have hsw : wS w' = wS w := hk.1
  exact ⟨kt5, (Kg.of (w' := uS w' (wS w0)) kt5 hx hx').2, by rw [hsw]; exact hl.2.2.1, by rw [hsw]; exact hl.2.2.2⟩
/-- the nine of an item, laid out -/
theorem y_itA {K : Int → Wd → Prop} {rc0 rs0 : Nat} {x3 y0 : Int} (hB : BK G w0 A B) (hA : OKA A) (hL : HL G w0 A h r n m (A 0 2) g0) (hI : IX G w0 w A q ρ p mm f gg i) (i0 : 0 ≤ i) (i1 : i < A 0 0) (hx3 : x3 = 1 + prq A (A 0 1) i) (hy : y0 = if rc A (A 0 1) i = 0 then 0 else 1) (hc : 2 ≤ rc0) (hs : 13 ≤ rs0)
    (hK : ∀ W its rc1 rs1, IX G w0 W A q ρ p mm f gg i → Ow W its (kA 0 9) → (∀ j, 0 ≤ j → j < 9 → wI W its j = q_item A i j) → rc0 ≤ rc1 + 2 → rs0 ≤ rs1 + 13 → WD G M_Cl_items 181 [(0, vR 0), (1, vA (bD B)), (2, vA h), (3, vI x3), (4, vI (A 0 0)), (5, vA q), (6, vA p), (7, vI i), (8, vA (bF B i)), (9, vI (bi (ce A (A 0 1) i))), (10, vI y0), (11, vI (th A (A 0 2) i)), (12, vA its), (13, vI 0)] [] W rc1 rs1 (yI K)) :
    WD G M_Cl_items 80 [(0, vR 0), (1, vA (bD B)), (2, vA h), (3, vI x3), (4, vI (A 0 0)), (5, vA q), (6, vA p), (7, vI i), (8, vA (bF B i)), (9, vI (bi (ce A (A 0 1) i)))] [vI y0] w rc0 rs0 (yI K) := by
  have h02 := hA.2.2.1
  have hhb := hb_in hA h02.1 (Int.le_refl _)
  refine l_Cl_items_2 _ _ _ _ _ _ _ _ _ _ ⟨1, 4, by omega, by omega, y_oftenOf (hI.1.hl hL) hA hhb.1 (by omega) (Nat.le_refl _) (Nat.le_refl _) (fun w48 hg => ⟨by omega, by omega, fun z hz => ?_⟩)⟩
  rw [oft_th hA i0 i1 _ h02.1 (Int.le_refl _)]
  have l48 := hI.1.law hg
  have z0 : Fr G w0 z := hz.up l48
  have l1 := l48.uN hz (kk := kA 0 9)
  have im1 := (l1.bk hB).2.2.2.2.1 i i0 i1
  have hne : bF B i ≠ z := fun e => z0.1 (e ▸ (hB.2.2.2.2.1 i i0 i1).1.1)
  have e0 : wI (uN w48 z (kA 0 9)) (bF B i) 0 = A 1 i := im1.2.1
  rw [e0]
  have e1 : wI (uI (uN w48 z (kA 0 9)) z 0 (A 1 i)) (bF B i) 1 = A 2 i := (wI_uI_a hne).trans im1.2.2.1
  rw [e1]
  have e2 : wI (uI (uI (uN w48 z (kA 0 9)) z 0 (A 1 i)) z 1 (A 2 i)) (bF B i) 2 = A 3 i := (wI_uI_a hne).trans ((wI_uI_a hne).trans im1.2.2.2.1)
  rw [e2]
  have e3 : wI (uI (uI (uI (uN w48 z (kA 0 9)) z 0 (A 1 i)) z 1 (A 2 i)) z 2 (A 3 i)) (bF B i) 3 = A 4 i := (wI_uI_a hne).trans ((wI_uI_a hne).trans ((wI_uI_a hne).trans im1.2.2.2.2))
  rw [e3]
  have k4 : Kp [] w (uI (uI (uI (uI (uN w48 z (kA 0 9)) z 0 (A 1 i)) z 1 (A 2 i)) z 2 (A 3 i)) z 3 (A 4 i)) := hg.1.tr (((((Kp.rf.uN hz.1).uI (Or.inr hz.1)).uI (Or.inr hz.1)).uI (Or.inr hz.1)).uI (Or.inr hz.1))
  have l4 := (((l1.uI z0 (j := 0) (i := A 1 i)).uI z0 (j := 1) (i := A 2 i)).uI z0 (j := 2) (i := A 3 i)).uI z0 (j := 3) (i := A 4 i)
  have O4 : Ow (uI (uI (uI (uI (uN w48 z (kA 0 9)) z 0 (A 1 i)) z 1 (A 2 i)) z 2 (A 3 i)) z 3 (A 4 i)) z (kA 0 9) := ((((Ow.sN (w := w48)).sI).sI).sI).sI
  have v4 : ∀ j, 0 ≤ j → j < 4 → wI (uI (uI (uI (uI (uN w48 z (kA 0 9)) z 0 (A 1 i)) z 1 (A 2 i)) z 2 (A 3 i)) z 3 (A 4 i)) z j = q_item A i j := fun j a b => by
    rw [q_item_in i0 i1]
    by_cases h3 : j = 3
    · subst h3; rw [wI_uI_s]; rfl
    rw [wI_uI_j h3]
    by_cases h2 : j = 2
    · subst h2; rw [wI_uI_s]; rfl
    rw [wI_uI_j h2]
    by_cases h1 : j = 1
    · subst h1; rw [wI_uI_s]; rfl
    rw [wI_uI_j h1, show j = 0 by omega, wI_uI_s]; rfl
  have hzw : z ∉ wL w := fun hm => hz.1 (hg.1.L hm)
  have kz : ∀ (j' x' : Int) (W : Wd), Kp [] w W → Kp [] w (uI W z j' x') := fun j' x' W hk => hk.uI (Or.inr hzw)
  generalize uI (uI (uI (uI (uN w48 z (kA 0 9)) z 0 (A 1 i)) z 1 (A 2 i)) z 2 (A 3 i)) z 3 (A 4 i) = W4 at k4 l4 O4 v4 ⊢
  have im4 := (l4.bk hB).2.2.2.2.1 i i0 i1
  refine ⟨im1.1.is, by omega, by omega, by omega, by omega, v_It_error im4 hA.1 i0 i1 ⟨by omega, ?_⟩⟩
  have l5 := l4.uI z0 (j := 4) (i := er A i)
  refine v_It_taint ((l5.bk hB).2.2.2.2.1 i i0 i1) hA.1 i0 i1 ⟨by omega, ?_⟩
  have l6 := l5.uI z0 (j := 5) (i := ta A i)
  have O6 : Ow (uI (uI W4 z 4 (er A i)) z 5 (ta A i)) z (kA 0 9) := O4.sI.sI
  have k6 := kz 5 (ta A i) _ (kz 4 (er A i) _ k4)
  have v6 : ∀ j, 0 ≤ j → j < 6 → wI (uI (uI W4 z 4 (er A i)) z 5 (ta A i)) z j = q_item A i j := fun j a b => by
    by_cases h5 : j = 5
    · subst h5; rw [wI_uI_s, q_item_in i0 i1]; rfl
    rw [wI_uI_j h5]
    by_cases h4 : j = 4
    · subst h4; rw [wI_uI_s, q_item_in i0 i1]; rfl
    rw [wI_uI_j h4]
    exact v4 j a (by omega)
  generalize uI (uI W4 z 4 (er A i)) z 5 (ta A i) = W6 at l6 O6 k6 v6 ⊢
  have key2 : ∀ c2, c2 = fc A (A 0 1) i → WD G M_Cl_items 175 [(0, vR 0), (1, vA (bD B)), (2, vA h), (3, vI x3), (4, vI (A 0 0)), (5, vA q), (6, vA p), (7, vI i), (8, vA (bF B i)), (9, vI (bi (ce A (A 0 1) i))), (10, vI y0), (11, vI (th A (A 0 2) i))] [vI c2, vI 8, vA z, vA z] (uI (uI W6 z 6 (bi (ce A (A 0 1) i))) z 7 (th A (A 0 2) i)) (rc0 - 1 - 1) (rs0 - 4 - 9) (yI K) := fun c2 hc2 => by
    subst hc2
    refine l_Cl_items_4 _ _ _ _ _ _ _ _ _ _ _ _ _ _ _ ⟨9, O6.sI.sI, by omega, by omega, hK _ z _ _ (hI.k0 (kz 8 _ _ (kz 7 _ _ (kz 6 _ _ k6))) (((l6.uI z0).uI z0).uI z0)) O6.sI.sI.sI (fun j a b => ?_) (by omega) (by omega)⟩
    by_cases h8 : j = 8
    · subst h8; rw [wI_uI_s, q_item_in i0 i1]; rfl
    rw [wI_uI_j h8]
    by_cases h7 : j = 7
    · subst h7; rw [wI_uI_s, q_item_in i0 i1]; rfl
    rw [wI_uI_j h7]
    by_cases h6 : j = 6
    · subst h6; rw [wI_uI_s, q_item_in i0 i1]; rfl
    rw [wI_uI_j h6]
    exact v6 j a (by omega)
  have key : ∀ c1, c1 = bi (ce A (A 0 1) i) → WD G M_Cl_items 155 [(0, vR 0), (1, vA (bD B)), (2, vA h), (3, vI x3), (4, vI (A 0 0)), (5, vA q), (6, vA p), (7, vI i), (8, vA (bF B i)), (9, vI (bi (ce A (A 0 1) i))), (10, vI y0), (11, vI (th A (A 0 2) i))] [vI c1, vI 6, vA z, vA z] W6 (rc0 - 1 - 1) (rs0 - 4 - 9) (yI K) := fun c1 hc1 => by
    subst hc1
    refine l_Cl_items_3 _ _ _ _ _ _ _ _ _ _ _ _ _ _ _ ⟨9, O6, by omega, by omega, 9, O6.sI, by omega, fun hz => ?_, fun hz => ?_⟩
    · refine key2 0 ?_
      unfold fc
      by_cases hr : rc A (A 0 1) i = 0
      · rw [if_pos hr]
      · rw [hy, if_neg hr] at hz; cases hz
    · refine key2 x3 ?_
      unfold fc
      by_cases hr : rc A (A 0 1) i = 0
      · rw [hy, if_pos hr] at hz; exact absurd rfl hz
      · rw [if_neg hr, hx3]; omega
  refine ⟨fun hz => key 0 hz.symm, fun hz => key 1 ?_⟩
  rcases bi_01 (ce A (A 0 1) i) with e | e
  · exact absurd e hz
  · exact e.symm
/-- the nine are asked for, and where the item is -/
theorem y_itB {K : Int → Wd → Prop} {x3 y0 : Int} {its : Nat} (hB : BK G w0 A B) (hA : OKA A) (hU : UK A) (i0 : 0 ≤ i) (i1 : i < A 0 0) (hy : y0 = if rc A (A 0 1) i = 0 then 0 else 1)
    (hK : ∀ W rc1 rs1, IX G w0 W A q ρ p mm f gg i → rc1 ≥ mc → rs1 ≥ ms → WD G M_Cl_items 248 [(0, vR 0), (1, vA (bD B)), (2, vA h), (4, vI (A 0 0)), (5, vA q), (6, vA p), (7, vI i), (8, vA (bF B i)), (9, vI (bi (ce A (A 0 1) i))), (11, vI (th A (A 0 2) i))] [vI (rc A (A 0 1) i), vI x3] W rc1 rs1 (yI K)) :
    ∀ c : Int, 0 ≤ c → c ≤ 9 → ∀ (W : Wd) (rc1 rs1 : Nat), IX G w0 W A q ρ p mm f gg i → Ow W its (kA 0 9) → (∀ j, 0 ≤ j → j < 9 → wI W its j = q_item A i j) → rc1 ≥ mc → rs1 ≥ ms → WD G M_Cl_items 181 [(0, vR 0), (1, vA (bD B)), (2, vA h), (3, vI x3), (4, vI (A 0 0)), (5, vA q), (6, vA p), (7, vI i), (8, vA (bF B i)), (9, vI (bi (ce A (A 0 1) i))), (10, vI y0), (11, vI (th A (A 0 2) i)), (12, vA its), (13, vI c)] [] W rc1 rs1 (yI K) := by
  refine up_ind (fun W rc1 rs1 hI hO hv hc hs => ?_) (fun c c0 c1 ih W rc1 rs1 hI hO hv hc hs => ?_)
  · have him := (hI.1.bk hB).2.2.2.2.1 i i0 i1
    refine l_Cl_items_5 _ _ _ _ _ _ _ _ _ _ _ _ _ ⟨fun _ => ⟨him.1.is, ?_⟩, fun h => absurd (Int.le_refl _) h⟩
    rw [him.2.1, him.2.2.1]
    refine c_find hI.1.2.2.1 hI.1.2.2.2 hA (fun σ1 c1 f1 _ => ⟨fun _ => ⟨fun hz => ?_, fun hz => ?_⟩, fun hne => absurd (plcq_at hU i0 i1) hne⟩)
    · have hr : rc A (A 0 1) i = 0 := by
        by_cases hr : rc A (A 0 1) i = 0
        · exact hr
        · rw [hy, if_neg hr] at hz; cases hz
      have := hK _ rc1 rs1 (hI.cls c1 f1) hc hs
      rw [hr] at this
      exact this
    · have hr : ¬ rc A (A 0 1) i = 0 := fun hr => hz (by rw [hy, if_pos hr])
      have hco : rc A (A 0 1) i = co A i := by
        unfold rc at hr ⊢
        split
        · next h => rw [if_pos h] at hr; exact absurd rfl hr
        · rfl
      have := hK _ rc1 rs1 (hI.cls c1 f1) hc hs
      rw [hco] at this
      exact v_It_coins (w := uS W σ1) him this
  · refine l_Cl_items_5 _ _ _ _ _ _ _ _ _ _ _ _ _ ⟨fun h => by omega, fun _ => c_item hI.1.2.2.1 hI.1.2.2.2 hA (fun σ1 c1' f1 _ => ⟨9, hO.is, c0, by omega, fun _ => ⟨inR_s (by omega) (by omega), ih _ _ _ (hI.cls c1' f1) hO hv hc hs⟩, fun hne => absurd (hv c c0 c1).symm hne⟩)⟩
theorem shq_0 : shq A 0 i = 1 := by unfold shq; rw [if_pos rfl]
theorem shq_1 : shq A 1 i = A 3 i := by unfold shq; rw [if_neg (by decide), if_pos rfl]
theorem shq_2 : shq A 2 i = th A (A 0 2) i := by unfold shq; rw [if_neg (by decide), if_neg (by decide), if_pos rfl]
theorem shq_3 : shq A 3 i = er A i := by unfold shq; rw [if_neg (by decide), if_neg (by decide), if_neg (by decide), if_pos rfl]
theorem shq_4 : shq A 4 i = bi (ce A (A 0 1) i) := by unfold shq; rw [if_neg (by decide), if_neg (by decide), if_neg (by decide), if_neg (by decide), if_pos rfl]
theorem vaq_5 {t : Int} : vaq A i t 5 = 0 := by unfold vaq; rw [if_pos rfl]
theorem vaq_s {c t : Int} (i0 : 0 ≤ i) (hc : c ≠ 5) : vaq A (i + 1) t c = vaq A i t c + if A 1 i = t then shq A c i else 0 := by
  unfold vaq
  rw [if_neg hc, if_neg hc, sI_s i0]
theorem vaq_in (hA : OKA A) {c t : Int} (i0 : 0 ≤ i) (i1 : i ≤ A 0 0) : -1151988480 ≤ vaq A i t c ∧ vaq A i t c ≤ 1151988480 := by
  have h := acs_in hA (a := t) (w := c) i0 i1
  have := hA.1.2.1
  unfold vaq
  split
  · omega
  · omega
/-- the account's row is counted up -/
theorem y_itC {K : Int → Wd → Prop} {rc0 rs0 : Nat} {x3 : Int} (hB : BK G w0 A B) (hA : OKA A) (hC : AC A) (hI : IX G w0 w A q ρ p mm f gg i) (hx0 : XOK G w0) (i0 : 0 ≤ i) (i1 : i < A 0 0) (hx3 : x3 = 1 + prq A (A 0 1) i) (hc : 2 ≤ rc0) (hs : 22 ≤ rs0)
    (hK : ∀ W f' gg' rc1 rs1, IX G w0 W A q ρ p mm f' gg' (i + 1) → rc0 ≤ rc1 + 2 → rs0 ≤ rs1 + 22 → WD G M_Cl_items 33 [(0, vR 0), (1, vA (bD B)), (2, vA h), (3, vI (1 + prq A (A 0 1) (i + 1))), (4, vI (A 0 0)), (5, vA q), (6, vA p), (7, vI (i + 1))] [] W rc1 rs1 (yI K)) :
    WD G M_Cl_items 248 [(0, vR 0), (1, vA (bD B)), (2, vA h), (4, vI (A 0 0)), (5, vA q), (6, vA p), (7, vI i), (8, vA (bF B i)), (9, vI (bi (ce A (A 0 1) i))), (11, vI (th A (A 0 2) i))] [vI (rc A (A 0 1) i), vI x3] w rc0 rs0 (yI K) := by
  have hA48 := hA.1.2.1
  have him := (hI.1.bk hB).2.2.2.2.1 i i0 i1
  have hit := hA.1.2.2 i i0 i1
  have ac := hC i i0 i1
  have hp := prq_in hA.1 (v := A 0 1) i0 (by omega : i ≤ A 0 0)
  have hr := rc_in hA.1 (v := A 0 1) i0 i1
  have hco := co_in hA.1 i0 i1
  have her := er_in hA.1 i0 i1
  have hth := th_in hA (i := i) hA.2.2.1.1 (Int.le_refl _)
  obtain ⟨hl, hM, hS, hg⟩ := id hI
  obtain ⟨⟨q1, q2, q3⟩, rr, rj⟩ := id hM
  obtain ⟨r1, r2, r3⟩ := rr (A 1 i) hit.1 (by omega)
  have hxa : bF B i ≠ ρ (A 1 i) := him.1.kne r1 (by simp)
  have hv := fun c => vaq_in hA (c := c) (t := A 1 i) i0 (by omega : i ≤ A 0 0)
  refine l_Cl_items_6 _ _ _ _ _ _ _ _ _ _ _ ⟨inR_s (by omega) (by omega), him.1.is, 100, q1.is, ?_⟩
  rw [him.2.1]
  refine ⟨hit.1, by omega, q1, ρ (A 1 i), q3 _ hit.1 (by omega), 6, r1.is, by omega, ?_⟩
  have e2 : wI (uI w (ρ (A 1 i)) 0 (wI w (ρ (A 1 i)) 0 + 1)) (bF B i) 2 = A 3 i := (wI_uI_a hxa).trans him.2.2.2.1
  rw [e2, r3 0 (by omega) (by omega), r3 1 (by omega) (by omega), r3 2 (by omega) (by omega), r3 3 (by omega) (by omega)]
  have h0 := hv 0
  have h1 := hv 1
  have h2 := hv 2
  have h3 := hv 3
  have h4 := hv 4
  refine ⟨inR_of (by omega) (by omega), r1, by omega, inR_of (by omega) (by omega), by omega, inR_of (by omega) (by omega), by omega, ?_⟩
  have kp3 : Kp [ρ (A 1 i)] w (uI (uI (uI w (ρ (A 1 i)) 0 (vaq A i (A 1 i) 0 + 1)) (ρ (A 1 i)) 1 (vaq A i (A 1 i) 1 + A 3 i)) (ρ (A 1 i)) 2 (vaq A i (A 1 i) 2 + th A (A 0 2) i)) := ((Kp.rf.uI (Or.inl (by simp))).uI (Or.inl (by simp))).uI (Or.inl (by simp))
  have hxs : bF B i ∉ [ρ (A 1 i)] := fun hm => hxa (List.mem_singleton.mp hm)
  refine v_It_error (him.kp kp3 hxs) hA.1 i0 i1 ⟨inR_of (by omega) (by omega), by omega, ?_⟩
  have e4 : wI (uI (uI (uI w (ρ (A 1 i)) 0 (vaq A i (A 1 i) 0 + 1)) (ρ (A 1 i)) 1 (vaq A i (A 1 i) 1 + A 3 i)) (ρ (A 1 i)) 2 (vaq A i (A 1 i) 2 + th A (A 0 2) i)) (ρ (A 1 i)) 4 = vaq A i (A 1 i) 4 := by
    rw [wI_uI_j (by decide), wI_uI_j (by decide), wI_uI_j (by decide)]; exact r3 4 (by omega) (by omega)
  rw [e4]
  have key : ∀ z, z = bi (ce A (A 0 1) i) → WD G M_Cl_items 316 [(0, vR 0), (1, vA (bD B)), (2, vA h), (3, vI (x3 + rc A (A 0 1) i)), (4, vI (A 0 0)), (5, vA q), (6, vA p), (7, vI i), (8, vA (bF B i))] [vI z, vI (vaq A i (A 1 i) 4), vI 4, vA (ρ (A 1 i))] (uI (uI (uI (uI w (ρ (A 1 i)) 0 (vaq A i (A 1 i) 0 + 1)) (ρ (A 1 i)) 1 (vaq A i (A 1 i) 1 + A 3 i)) (ρ (A 1 i)) 2 (vaq A i (A 1 i) 2 + th A (A 0 2) i)) (ρ (A 1 i)) 3 (vaq A i (A 1 i) 3 + er A i)) rc0 rs0 (yI K) := fun z hz => by
    subst hz
    have hbi := bi_01 (ce A (A 0 1) i)
    have kp4 := kp3.uI (a := ρ (A 1 i)) (j := 3) (x := vaq A i (A 1 i) 3 + er A i) (Or.inl (by simp))
    refine l_Cl_items_7 _ _ _ _ _ _ _ _ _ _ _ _ ⟨inR_of (by omega) (by omega), 6, r1.sI.sI.sI.sI, by omega, by omega, ?_⟩
    have kp5 := kp4.uI (a := ρ (A 1 i)) (j := 4) (x := vaq A i (A 1 i) 4 + bi (ce A (A 0 1) i)) (Or.inl (by simp))
    have v5 : ∀ j, 0 ≤ j → j < 6 → wI (uI (uI (uI (uI (uI w (ρ (A 1 i)) 0 (vaq A i (A 1 i) 0 + 1)) (ρ (A 1 i)) 1 (vaq A i (A 1 i) 1 + A 3 i)) (ρ (A 1 i)) 2 (vaq A i (A 1 i) 2 + th A (A 0 2) i)) (ρ (A 1 i)) 3 (vaq A i (A 1 i) 3 + er A i)) (ρ (A 1 i)) 4 (vaq A i (A 1 i) 4 + bi (ce A (A 0 1) i))) (ρ (A 1 i)) j = vaq A (i + 1) (A 1 i) j := fun j a b => by
      by_cases j4 : j = 4
      · subst j4; rw [wI_uI_s, vaq_s i0 (by decide), if_pos rfl, shq_4]
      rw [wI_uI_j j4]
      by_cases j3 : j = 3
      · subst j3; rw [wI_uI_s, vaq_s i0 (by decide), if_pos rfl, shq_3]
      rw [wI_uI_j j3]
      by_cases j2 : j = 2
      · subst j2; rw [wI_uI_s, vaq_s i0 (by decide), if_pos rfl, shq_2]
      rw [wI_uI_j j2]
      by_cases j1 : j = 1
      · subst j1; rw [wI_uI_s, vaq_s i0 (by decide), if_pos rfl, shq_1]
      rw [wI_uI_j j1]
      by_cases j0 : j = 0
      · subst j0; rw [wI_uI_s, vaq_s i0 (by decide), if_pos rfl, shq_0]
      rw [wI_uI_j j0, show j = 5 by omega, r3 5 (by omega) (by omega), vaq_5, vaq_5]
    generalize uI (uI (uI (uI (uI w (ρ (A 1 i)) 0 (vaq A i (A 1 i) 0 + 1)) (ρ (A 1 i)) 1 (vaq A i (A 1 i) 1 + A 3 i)) (ρ (A 1 i)) 2 (vaq A i (A 1 i) 2 + th A (A 0 2) i)) (ρ (A 1 i)) 3 (vaq A i (A 1 i) 3 + er A i)) (ρ (A 1 i)) 4 (vaq A i (A 1 i) 4 + bi (ce A (A 0 1) i)) = W5 at kp5 v5 ⊢
    have im5 := him.kp kp5 hxs
    refine ⟨im5.1.is, 0, 0, Nat.zero_le _, Nat.zero_le _, ?_⟩
    rw [im5.2.1]
    refine DC.wf fun _ hx5 => v_In_small hit.1 ac (fun _ => ⟨kX G (A 1 i), rfl, 2, 22, by omega, by omega, ?_⟩)
    have S5 := hS.kq kp5 (fun b hb => by rw [List.mem_singleton.mp hb]; exact ⟨_, r1.2, by simp, by simp, by simp, by simp⟩)
    have M5 : MX w0 W5 q ρ (vaq A (i + 1)) := hM.set hit.1 (by omega) kp5 v5 (fun s j s0 s1 hne j0 j1 => by
      by_cases j5 : j = 5
      · subst j5; rw [vaq_5, vaq_5]
      · rw [vaq_s i0 j5, if_neg (fun e => hne e.symm), Int.add_zero])
    have l5 : CL G w0 W5 A := hl.wr hx0 hx5 kp5 r2
    have ep : x3 + rc A (A 0 1) i = 1 + prq A (A 0 1) (i + 1) := by rw [prq_s i0]; omega
    rw [ep]
    refine ⟨S5.1.1.is, DI.gx (v_Hs_add S5 l5.sub hit.1 ac (Nat.le_refl _) (Nat.le_refl _) (fun hex _ _ _ => ⟨inR_s (by omega) (by omega), hK W5 f gg _ _ ?_ (by omega) (by omega)⟩) (fun hno z w' kt hS' _ hx' _ => ⟨inR_s (by omega) (by omega), hK w' (fun j => if j = cI (fstq A) i then z else f j) (fun j => if j = cI (fstq A) i then A 1 i else gg j) _ _ ⟨l5.kt kt hx0 hx', M5.kt kt, ?_, fun k k0 k1 => ?_⟩ (by omega) (by omega)⟩))⟩
    · have hfs : fstq A i = false := by
        cases hf : fstq A i with
        | false => rfl
        | true =>
          obtain ⟨j, j0, j1, ej⟩ := hex
          exact absurd ((hg j j0 j1).symm.trans ej) (acs_new i0 i1 hf j0 j1)
      have e := cI_f (p := fstq A) i0 hfs
      exact ⟨l5, M5, by rw [e]; exact S5, by rw [e]; exact hg⟩
    all_goals
      have hfs : fstq A i = true := by
        cases hf : fstq A i with
        | true => rfl
        | false =>
          obtain ⟨j, j0, j1, ej⟩ := acs_old i0 i1 hf
          exact absurd ((hg j j0 j1).trans ej) (hno j j0 j1)
    · rw [cI_t i0 hfs]; exact hS'
    · rw [cI_t i0 hfs] at k1
      dsimp only
      by_cases ek : k = cI (fstq A) i
      · rw [if_pos ek, ek]; exact (acs_at i0 i1 hfs).symm
      · rw [if_neg ek]; exact hg k k0 (by omega)
  refine ⟨fun hz => key 0 hz.symm, fun hz => key 1 ?_⟩
  rcases bi_01 (ce A (A 0 1) i) with e | e
  · exact absurd e hz
  · exact e.symm
end IT2
