-- what stands between the acts: the books, a cell of numbers drawn (z, ns, fz: left over from where the script was of this world; they say nothing)
def FZ (w : Wd) (_B : Bks) (y _z _ns : Nat) (_fz : Int → Int) : Prop := True ∧ True ∧ True ∧ True ∧ Ow w y (kA 0 1)
def IB (G : Gq) (w : Wd) (A : St) (B : Bks) (M : Int) (y z ns : Nat) (fz : Int → Int) : Prop :=
  BK G w A B ∧ SPB B ∧ (∀ i j, 0 ≤ i → i < A 0 0 → 0 ≤ j → j < A 0 0 → bF B i = bF B j → i = j) ∧ (bIn B ≤ 73 ∧ bSn B ≤ 20 ∧ 0 ≤ bIm B ∧ bIm B ≤ M ∧ 0 ≤ bSm B ∧ bSm B ≤ M) ∧ FZ w B y z ns fz
/-- the items' list with another row, other items -/
def bIt (B : Bks) (r n : Nat) (m : Int) (f : Int → Nat) : Bks := ((bD B, bI B, r, n, m, f), B.2)
section IV
variable {G : Gq} {w0 w w' u : Wd} {A A' : St} {B : Bks} {S : List Nat} {a r n mc ms q x y z ns : Nat} {m k i j M : Int} {f : Int → Nat} {σ : St} {fz : Int → Int}
theorem FZ.kp (h : FZ w B y z ns fz) (hk : Kp S w w') : FZ w' B y z ns fz := ⟨trivial, trivial, trivial, trivial, h.2.2.2.2.kp hk⟩
theorem IB.mono {M' : Int} (h : IB G w A B M y z ns fz) (hM : M ≤ M') : IB G w A B M' y z ns fz := ⟨h.1, h.2.1, h.2.2.1, ⟨h.2.2.2.1.1, h.2.2.2.1.2.1, h.2.2.2.1.2.2.1, Int.le_trans h.2.2.2.1.2.2.2.1 hM, h.2.2.2.1.2.2.2.2.1, Int.le_trans h.2.2.2.1.2.2.2.2.2 hM⟩, h.2.2.2.2⟩
/-- the books don't speak of some cells -/
theorem BK.fr (h : BK G w A B) (hk : Kg G S w w') (hS : ∀ b ∈ S, wK w b = kO 17 ∨ (∃ n, wK w b = kA 1 n) ∨ wK w b = kA 0 1) : BK G w' A B := by
  obtain ⟨a1, a2, a3, ⟨a4, a5⟩, a6, a7⟩ := h
  have ne : ∀ (t : Nat) (kk : Kd), wK w t = kk → kk ≠ kO 17 → (∀ n, kk ≠ kA 1 n) → kk ≠ kA 0 1 → t ∉ S := fun t kk e1 e2 e3 e4 hm => by
    rcases hS t hm with e | ⟨n, e⟩ | e
    · exact e2 (e1.symm.trans e)
    · exact e3 n (e1.symm.trans e)
    · exact e4 (e1.symm.trans e)
  exact ⟨a1.kp hk.1 (ne _ _ a1.1.2 (by simp) (by simp) (by simp)), a2.kq hk.1 (ne _ _ a2.1.2 (by simp) (by simp) (by simp)) (fun h => ne _ _ h.2 (by simp) (by simp) (by simp)), a3.kq hk.1 (ne _ _ a3.1.2 (by simp) (by simp) (by simp)) (fun h => ne _ _ h.2 (by simp) (by simp) (by simp)), ⟨a4.kp hk.1, fun j b1 b2 => (hk.1.I a4.1 (ne _ _ a4.2 (by simp) (by simp) (by simp))).trans (a5 j b1 b2)⟩, fun j b1 b2 => (a6 j b1 b2).kp hk.1 (ne _ _ (a6 j b1 b2).1.2 (by simp) (by simp) (by simp)), fun j b1 b2 => (a7 j b1 b2).kg hk (ne _ _ (a7 j b1 b2).1.2 (by simp) (by simp) (by simp))⟩
theorem IB.fr (h : IB G w A B M y z ns fz) (hk : Kg G S w w') (hS : ∀ b ∈ S, wK w b = kO 17 ∨ (∃ n, wK w b = kA 1 n) ∨ b = y) : IB G w' A B M y z ns fz := by
  have hy := h.2.2.2.2.2.2.2.2
  refine ⟨h.1.fr hk (fun b hb => ?_), h.2.1, h.2.2.1, h.2.2.2.1, h.2.2.2.2.kp hk.1⟩
  · rcases hS b hb with e | e | e
    · exact Or.inl e
    · exact Or.inr (Or.inl e)
    · exact Or.inr (Or.inr (by rw [e]; exact hy.2))
theorem IB.k0 (h : IB G w A B M y z ns fz) (hk : Kg G [] w w') : IB G w' A B M y z ns fz := h.fr hk (fun b hb => absurd hb List.not_mem_nil)
/-- a number drawn -/
theorem IB.dr (h : IB G w A B M y z ns fz) (hx : XOK G w) (hx' : XOK G (uI w y 0 i)) : IB G (uI w y 0 i) A B M y z ns fz := h.fr (Kg.of (Kp.rf.uI (Or.inl (List.mem_singleton.mpr rfl))) hx hx') (fun b hb => Or.inr (Or.inr (List.mem_singleton.mp hb)))
/-- the books depend on what a ledger is alone -/
theorem BK.cg (h : BK G w A B) (h0 : A' 0 0 = A 0 0) (h1 : A' 0 1 = A 0 1) (h2 : A' 0 2 = A 0 2) (h3 : A' 0 3 = A 0 3) (hi : ∀ i, 0 ≤ i → i < A 0 0 → A' 1 i = A 1 i ∧ A' 2 i = A 2 i ∧ A' 3 i = A 3 i ∧ A' 4 i = A 4 i) (h5 : ∀ r, 0 ≤ r → r < A 0 2 → A' 5 r = A 5 r) (h6 : ∀ j, 0 ≤ j → j < 5 → A' 6 j = A 6 j) : BK G w A' B := by
  obtain ⟨a1, a2, a3, ⟨a4, a5⟩, a6, a7⟩ := h
  refine ⟨⟨a1.1, a1.2.1, a1.2.2.1, a1.2.2.2.1, a1.2.2.2.2.1.trans h1.symm, a1.2.2.2.2.2.trans h3.symm⟩, by rw [h0]; exact a2, by rw [h2]; exact a3, ⟨a4, fun j b c => (a5 j b c).trans (h6 j b c).symm⟩, fun j b c => ?_, fun j b c => ?_⟩
  · rw [h0] at c
    obtain ⟨e1, e2, e3, e4⟩ := hi j b c
    have im := a6 j b c
    exact ⟨im.1, im.2.1.trans e1.symm, im.2.2.1.trans e2.symm, im.2.2.2.1.trans e3.symm, im.2.2.2.2.trans e4.symm⟩
  · rw [h2] at c
    rw [h5 j b c]
    exact a7 j b c
theorem IB.cg (h : IB G w A B M y z ns fz) (h0 : A' 0 0 = A 0 0) (h1 : A' 0 1 = A 0 1) (h2 : A' 0 2 = A 0 2) (h3 : A' 0 3 = A 0 3) (hi : ∀ i, 0 ≤ i → i < A 0 0 → A' 1 i = A 1 i ∧ A' 2 i = A 2 i ∧ A' 3 i = A 3 i ∧ A' 4 i = A 4 i) (h5 : ∀ r, 0 ≤ r → r < A 0 2 → A' 5 r = A 5 r) (h6 : ∀ j, 0 ≤ j → j < 5 → A' 6 j = A 6 j) : IB G w A' B M y z ns fz := ⟨h.1.cg h0 h1 h2 h3 hi h5 h6, h.2.1, by rw [h0]; exact h.2.2.1, h.2.2.2⟩
/-- the books' own cell written -/
theorem IB.kd (h : IB G w A B M y z ns fz) (hk : Kg G [bD B] w w') (hd : BKd w' A' B) (e0 : A' 0 0 = A 0 0) (e2 : A' 0 2 = A 0 2) (ec : ∀ c, c ≠ 0 → ∀ j, A' c j = A c j) : IB G w' A' B M y z ns fz :=
  ⟨h.1.kdA hk hd e0 e2 ec, h.2.1, by rw [e0]; exact h.2.2.1, h.2.2.2.1, h.2.2.2.2.kp hk.1⟩
/-- one item written -/
theorem IB.it (h : IB G w A B M y z ns fz) (j0 : 0 ≤ j) (j1 : j < A 0 0) (hk : Kg G [bF B j] w w') (hi : IM w' A' (bF B j) j) (ec : ∀ c i, ¬ ((c = 3 ∨ c = 4) ∧ i = j) → A' c i = A c i) : IB G w' A' B M y z ns fz := by
  obtain ⟨⟨a1, a2, a3, ⟨a4, a5⟩, a6, a7⟩, hb, hinj, hn, hf⟩ := h
  have hO := (a6 j j0 j1).1
  have ne : ∀ (t : Nat) (kk : Kd), wK w t = kk → kk ≠ kO 13 → t ∉ [bF B j] := fun t kk e1 e2 hm => by
    rw [List.mem_singleton.mp hm, hO.2] at e1
    exact e2 e1.symm
  have e00 : A' 0 0 = A 0 0 := ec 0 0 (by omega)
  have e01 : A' 0 1 = A 0 1 := ec 0 1 (by omega)
  have e02 : A' 0 2 = A 0 2 := ec 0 2 (by omega)
  have e03 : A' 0 3 = A 0 3 := ec 0 3 (by omega)
  have hd := a1.kp hk.1 (ne _ _ a1.1.2 (by simp))
  refine ⟨⟨⟨hd.1, hd.2.1, hd.2.2.1, hd.2.2.2.1, hd.2.2.2.2.1.trans e01.symm, hd.2.2.2.2.2.trans e03.symm⟩, by rw [e00]; exact a2.kq hk.1 (ne _ _ a2.1.2 (by simp)) (fun h => ne _ _ h.2 (by simp)), by rw [e02]; exact a3.kq hk.1 (ne _ _ a3.1.2 (by simp)) (fun h => ne _ _ h.2 (by simp)), ⟨a4.kp hk.1, fun t b c => (hk.1.I a4.1 (ne _ _ a4.2 (by simp))).trans ((a5 t b c).trans (ec 6 t (by omega)).symm)⟩, fun i b c => ?_, fun i b c => ?_⟩, hb, by rw [e00]; exact hinj, hn, hf.kp hk.1⟩
  · rw [e00] at c
    by_cases e : i = j
    · rw [e]; exact hi
    · have im := (a6 i b c).kp hk.1 (fun hm => e (hinj i j b c j0 j1 (List.mem_singleton.mp hm)))
      exact ⟨im.1, im.2.1.trans (ec 1 i (by omega)).symm, im.2.2.1.trans (ec 2 i (by omega)).symm, im.2.2.2.1.trans (ec 3 i (by omega)).symm, im.2.2.2.2.trans (ec 4 i (by omega)).symm⟩
  · rw [e02] at c
    rw [ec 5 i (by omega)]
    exact (a7 i b c).kg hk (ne _ _ (a7 i b c).1.2 (by simp))
/-- the terms' cell written -/
theorem IB.tm (h : IB G w A B M y z ns fz) (hk : Kg G [bT B] w w') (ht : ∀ j, 0 ≤ j → j < 5 → wI w' (bT B) j = A' 6 j) (ec : ∀ c, c ≠ 6 → ∀ j, A' c j = A c j) : IB G w' A' B M y z ns fz := by
  obtain ⟨⟨a1, a2, a3, ⟨a4, a5⟩, a6, a7⟩, hb, hinj, hn, hf⟩ := h
  have ne : ∀ (t : Nat) (kk : Kd), wK w t = kk → kk ≠ kA 0 5 → t ∉ [bT B] := fun t kk e1 e2 hm => by
    rw [List.mem_singleton.mp hm, a4.2] at e1
    exact e2 e1.symm
  have hd := a1.kp hk.1 (ne _ _ a1.1.2 (by simp))
  refine ⟨⟨⟨hd.1, hd.2.1, hd.2.2.1, hd.2.2.2.1, hd.2.2.2.2.1.trans (ec 0 (by decide) 1).symm, hd.2.2.2.2.2.trans (ec 0 (by decide) 3).symm⟩, by rw [ec 0 (by decide)]; exact a2.kq hk.1 (ne _ _ a2.1.2 (by simp)) (fun h => ne _ _ h.2 (by simp)), by rw [ec 0 (by decide)]; exact a3.kq hk.1 (ne _ _ a3.1.2 (by simp)) (fun h => ne _ _ h.2 (by simp)), ⟨a4.kp hk.1, ht⟩, fun i b c => ?_, fun i b c => ?_⟩, hb, by rw [ec 0 (by decide)]; exact hinj, hn, hf.kp hk.1⟩
  · rw [ec 0 (by decide)] at c
    have im := (a6 i b c).kp hk.1 (ne _ _ (a6 i b c).1.2 (by simp))
    exact ⟨im.1, im.2.1.trans (ec 1 (by decide) i).symm, im.2.2.1.trans (ec 2 (by decide) i).symm, im.2.2.2.1.trans (ec 3 (by decide) i).symm, im.2.2.2.2.trans (ec 4 (by decide) i).symm⟩
  · rw [ec 0 (by decide)] at c
    rw [ec 5 (by decide) i]
    exact (a7 i b c).kg hk (ne _ _ (a7 i b c).1.2 (by simp))
/-- lists' cells written -/
theorem ne14 (hS : ∀ b ∈ S, wK w b = kO 14 ∨ ∃ n, wK w b = kR 4 n) {t : Nat} {kk : Kd} (e1 : wK w t = kk) (e2 : kk ≠ kO 14) (e3 : ∀ n, kk ≠ kR 4 n) : t ∉ S := fun hm => by
  rcases hS t hm with e | ⟨n, e⟩
  · exact e2 (e1.symm.trans e)
  · exact e3 n (e1.symm.trans e)
/-- the items emptied -/
theorem y_clrI {K : Wd → Prop} (h : IB G w A B M y z ns fz) (hM : M ≤ 900000) (hx : XOK G w) (hK : ∀ w' S, XOK G w' → Kg G S w w' → (∀ b ∈ S, b ∈ wL w → wK w b = kO 14 ∨ ∃ n, wK w b = kR 4 n) → IB G w' (ups A 0 0 0) (bIt B (bIr B) (bIn B) (bIm B + 1) (bF B)) (M + 1) y z ns fz → K w') : DV G M_Al_clear [vA (bI B)] w mc ms K := by
  obtain ⟨⟨a1, a2, a3, ⟨a4, a5⟩, a6, a7⟩, hb, hinj, hn, hf⟩ := id h
  refine DV.gx (v_Al_clear a2 hn.2.2.1 (by omega) (fun w' hk hL _ hx' _ => ?_))
  have hk' : Kg G [bI B, bIr B] w w' := Kg.of hk hx hx'
  have hrk : wK w (bIr B) = kR 4 (bIn B) := (a2.isr hx).2
  have hS : ∀ b ∈ [bI B, bIr B], wK w b = kO 14 ∨ ∃ n, wK w b = kR 4 n := fun b hb2 => by
    rcases List.mem_cons.mp hb2 with e | e
    · exact Or.inl (by rw [e]; exact a2.1.2)
    · exact Or.inr ⟨_, by rw [List.mem_singleton.mp e]; exact hrk⟩
  have hd := a1.kp hk (ne14 hS a1.1.2 (by simp) (by simp))
  have hbS : bS B ∉ [bI B, bIr B] := fun hm => by
    rcases List.mem_cons.mp hm with e | e
    · exact hb.1 e.symm
    · have e := List.mem_singleton.mp e
      have := a3.1.2
      rw [e, hrk] at this
      cases this
  refine hK w' _ hx' hk' (fun b hb _ => hS b hb) ⟨⟨⟨hd.1, hd.2.1, hd.2.2.1, hd.2.2.2.1, hd.2.2.2.2.1.trans (ups_f (by decide)).symm, hd.2.2.2.2.2.trans (ups_f (by decide)).symm⟩, ?_, ?_, ⟨a4.kp hk, fun t b c => (hk.I a4.1 (ne14 hS a4.2 (by simp) (by simp))).trans ((a5 t b c).trans (ups_c (by decide)).symm)⟩, fun i b c => ?_, fun i b c => ?_⟩, ⟨hb.1, hb.2⟩, fun i j b c => ?_, ⟨hn.1, hn.2.1, by show 0 ≤ bIm B + 1; omega, by show bIm B + 1 ≤ M + 1; omega, hn.2.2.2.2.1, by show bSm B ≤ M + 1; omega⟩, hf.kp hk⟩
  · rw [ups_s]; exact hL
  · rw [ups_f (by decide)]
    refine a3.kr hk hbS (fun h0 hO hm => ?_)
    rcases List.mem_cons.mp hm with e | e
    · rw [e] at hO
      have h2 := hO.2.symm.trans a2.1.2
      cases h2
    · have e := List.mem_singleton.mp e
      rcases hb.2 with e3 | e3 | e3
      · have h2 := hO.2
        rw [e, hrk, e3] at h2
        injection h2 with h2
        injection h2 with h2
        injection h2 with _ h2
        omega
      · omega
      · exact e3 e.symm
  · rw [ups_s] at c; omega
  · rw [ups_f (by decide)] at c
    rw [ups_c (by decide)]
    exact (a7 i b c).kg hk' (ne14 hS (a7 i b c).1.2 (by simp) (by simp))
  · rw [ups_s] at c; omega
/-- the starts emptied -/
def bSt (B : Bks) (m : Int) : Bks := (B.1, (bS B, bSr B, bSn B, m, bG B), B.2.2)
theorem y_clrS {K : Wd → Prop} (h : IB G w A B M y z ns fz) (hM : M ≤ 900000) (hx : XOK G w) (hK : ∀ w' S, XOK G w' → Kg G S w w' → (∀ b ∈ S, b ∈ wL w → wK w b = kO 14 ∨ ∃ n, wK w b = kR 4 n) → IB G w' (ups A 0 2 0) (bSt B (bSm B + 1)) (M + 1) y z ns fz → K w') : DV G M_Al_clear [vA (bS B)] w mc ms K := by
  obtain ⟨⟨a1, a2, a3, ⟨a4, a5⟩, a6, a7⟩, hb, hinj, hn, hf⟩ := id h
  refine DV.gx (v_Al_clear a3 hn.2.2.2.2.1 (by omega) (fun w' hk hL _ hx' _ => ?_))
  have hk' : Kg G [bS B, bSr B] w w' := Kg.of hk hx hx'
  have hrk : wK w (bSr B) = kR 4 (bSn B) := (a3.isr hx).2
  have hS : ∀ b ∈ [bS B, bSr B], wK w b = kO 14 ∨ ∃ n, wK w b = kR 4 n := fun b hb2 => by
    rcases List.mem_cons.mp hb2 with e | e
    · exact Or.inl (by rw [e]; exact a3.1.2)
    · exact Or.inr ⟨_, by rw [List.mem_singleton.mp e]; exact hrk⟩
  have hd := a1.kp hk (ne14 hS a1.1.2 (by simp) (by simp))
  have hbS : bI B ∉ [bS B, bSr B] := fun hm => by
    rcases List.mem_cons.mp hm with e | e
    · exact hb.1 e
    · have e := List.mem_singleton.mp e
      have := a2.1.2
      rw [e, hrk] at this
      cases this
  refine hK w' _ hx' hk' (fun b hb _ => hS b hb) ⟨⟨⟨hd.1, hd.2.1, hd.2.2.1, hd.2.2.2.1, hd.2.2.2.2.1.trans (ups_f (by decide)).symm, hd.2.2.2.2.2.trans (ups_f (by decide)).symm⟩, ?_, ?_, ⟨a4.kp hk, fun t b c => (hk.I a4.1 (ne14 hS a4.2 (by simp) (by simp))).trans ((a5 t b c).trans (ups_c (by decide)).symm)⟩, fun i b c => ?_, fun i b c => ?_⟩, ⟨hb.1, hb.2⟩, ?_, ⟨hn.1, hn.2.1, hn.2.2.1, by show bIm B ≤ M + 1; omega, by show 0 ≤ bSm B + 1; omega, by show bSm B + 1 ≤ M + 1; omega⟩, hf.kp hk⟩
  · rw [ups_f (by decide)]
    refine a2.kr hk hbS (fun h0 hO hm => ?_)
    rcases List.mem_cons.mp hm with e | e
    · rw [e] at hO
      have h2 := hO.2.symm.trans a3.1.2
      cases h2
    · have e := List.mem_singleton.mp e
      rcases hb.2 with e3 | e3 | e3
      · omega
      · have h2 := hO.2
        rw [e, hrk, e3] at h2
        injection h2 with h2
        injection h2 with h2
        injection h2 with _ h2
        omega
      · exact e3 e
  · rw [ups_s]; exact hL
  · rw [ups_f (by decide)] at c
    have im := (a6 i b c).kp hk (ne14 hS (a6 i b c).1.2 (by simp) (by simp))
    exact ⟨im.1, im.2.1.trans (ups_c (by decide)).symm, im.2.2.1.trans (ups_c (by decide)).symm, im.2.2.2.1.trans (ups_c (by decide)).symm, im.2.2.2.2.trans (ups_c (by decide)).symm⟩
  · rw [ups_s] at c; omega
  · rw [ups_f (by decide)]; exact hinj
theorem addI_0 {a v b : Int} : addI A a v b 0 0 = A 0 0 + 1 := by unfold addI; rw [ups_s]
theorem addI_0j {a v b : Int} (h : j ≠ 0) : addI A a v b 0 j = A 0 j := by unfold addI; rw [ups_f h, ups_c (by decide), ups_c (by decide), ups_c (by decide), ups_c (by decide)]
theorem addI_hi {a v b : Int} {c : Nat} (h : 5 ≤ c) : addI A a v b c j = A c j := by
  unfold addI
  rw [ups_c (by omega), ups_c (by omega), ups_c (by omega), ups_c (by omega), ups_c (by omega)]
theorem addI_nw {a v b : Int} : addI A a v b 1 (A 0 0) = a ∧ addI A a v b 2 (A 0 0) = v ∧ addI A a v b 3 (A 0 0) = b ∧ addI A a v b 4 (A 0 0) = -1 := by
  unfold addI
  refine ⟨?_, ?_, ?_, ?_⟩
  · rw [ups_c (by decide), ups_c (by decide), ups_c (by decide), ups_c (by decide), ups_s]
  · rw [ups_c (by decide), ups_c (by decide), ups_c (by decide), ups_s]
  · rw [ups_c (by decide), ups_c (by decide), ups_s]
  · rw [ups_c (by decide), ups_s]
/-- one item more -/
theorem y_addI {K : Int → Wd → Prop} {ac vo bo : Int} (h : IB G w A B M y z ns fz) (hM : M ≤ 900000) (hA0 : 0 ≤ A 0 0) (h48 : A 0 0 < 48) (hx : XOK G w) (hq : Ow w q (kO 13)) (q0 : wI w q 0 = ac) (q1 : wI w q 1 = vo) (q2 : wI w q 2 = bo) (q3 : wI w q 3 = -1) (hqn : ∀ i, 0 ≤ i → i < A 0 0 → bF B i ≠ q) (hc : 1 ≤ mc) (hs : 73 ≤ ms)
    (hK : ∀ w' S r n, XOK G w' → Kg G S w w' → (∀ b ∈ S, b ∈ wL w → wK w b = kO 14 ∨ ∃ n, wK w b = kR 4 n) → IB G w' (addI A ac vo bo) (bIt B r n (bIm B + 1) (fup (bF B) (A 0 0) q)) (M + 1) y z ns fz → K 1 w') : DI G M_Al_add_9ea2d [vA (bI B), vA q] w mc ms K := by
  obtain ⟨⟨a1, a2, a3, ⟨a4, a5⟩, a6, a7⟩, hb, hinj, hn, hf⟩ := id h
  have hel : ∀ j, 0 ≤ j → j < A 0 0 → EO G w (bF B j) := fun j x0 x1 => eo_13 (a6 j x0 x1).1.is
  have hrk : wK w (bIr B) = kR 4 (bIn B) := (a2.isr hx).2
  have hcap : A 0 0 = (bIn B : Int) → ncap (bIn B) ≤ 73 := fun e => by unfold ncap; split <;> omega
  -- whatever of the two lists' cells changes
  have fin : ∀ (S : List Nat) (w' : Wd) (r n : Nat), XOK G w' → Kp S w w' → (∀ b ∈ S, wK w b = kO 14 ∨ ∃ n, wK w b = kR 4 n) → bS B ∉ S → (0 < bSn B → Ow w (bSr B) (kR 4 (bSn B)) → bSr B ∉ S) → AL G w' (bI B) r n (bIm B + 1) (A 0 0 + 1) (fup (bF B) (A 0 0) q) → n ≤ 73 → (n = 0 ∨ bSn B = 0 ∨ r ≠ bSr B) → K 1 w' := by
    intro S w' r n hx' hk hS hbS hbr hL hn73 hsp
    have hk' : Kg G S w w' := Kg.of hk hx hx'
    have hd := a1.kp hk (ne14 hS a1.1.2 (by simp) (by simp))
    obtain ⟨n1, n2, n3, n4⟩ := addI_nw (A := A) (a := ac) (v := vo) (b := bo)
    refine hK w' S r n hx' hk' (fun b hb _ => hS b hb) ⟨⟨⟨hd.1, hd.2.1, hd.2.2.1, hd.2.2.2.1, hd.2.2.2.2.1.trans (addI_0j (by decide)).symm, hd.2.2.2.2.2.trans (addI_0j (by decide)).symm⟩, by rw [addI_0]; exact hL, by rw [addI_0j (by decide)]; exact a3.kr hk hbS hbr, ⟨a4.kp hk, fun t b c => (hk.I a4.1 (ne14 hS a4.2 (by simp) (by simp))).trans ((a5 t b c).trans (addI_hi (by decide)).symm)⟩, fun i b c => ?_, fun i b c => ?_⟩, ⟨hb.1, hsp⟩, fun i j i0 i1 j0 j1 e => ?_, ⟨hn73, hn.2.1, by show 0 ≤ bIm B + 1; omega, by show bIm B + 1 ≤ M + 1; omega, hn.2.2.2.2.1, by show bSm B ≤ M + 1; omega⟩, hf.kp hk⟩
    · rw [addI_0] at c
      show IM w' _ (fup (bF B) (A 0 0) q i) i
      unfold fup
      by_cases e : i = A 0 0
      · rw [if_pos e, e]
        have hqS : q ∉ S := ne14 hS hq.2 (by simp) (by simp)
        exact ⟨hq.kp hk, (hk.I hq.1 hqS).trans (q0.trans n1.symm), (hk.I hq.1 hqS).trans (q1.trans n2.symm), (hk.I hq.1 hqS).trans (q2.trans n3.symm), (hk.I hq.1 hqS).trans (q3.trans n4.symm)⟩
      · rw [if_neg e]
        have im := (a6 i b (by omega)).kp hk (ne14 hS (a6 i b (by omega)).1.2 (by simp) (by simp))
        exact ⟨im.1, im.2.1.trans (addI_old (by omega) (by decide)).symm, im.2.2.1.trans (addI_old (by omega) (by decide)).symm, im.2.2.2.1.trans (addI_old (by omega) (by decide)).symm, im.2.2.2.2.trans (addI_old (by omega) (by decide)).symm⟩
    · rw [addI_0j (by decide)] at c
      rw [addI_hi (by decide)]
      exact (a7 i b c).kg hk' (ne14 hS (a7 i b c).1.2 (by simp) (by simp))
    · rw [addI_0] at i1 j1
      have e : fup (bF B) (A 0 0) q i = fup (bF B) (A 0 0) q j := e
      unfold fup at e
      by_cases ei : i = A 0 0 <;> by_cases ej : j = A 0 0
      · omega
      · rw [if_pos ei, if_neg ej] at e
        exact absurd e.symm (hqn j j0 (by omega))
      · rw [if_neg ei, if_pos ej] at e
        exact absurd e (hqn i i0 (by omega))
      · rw [if_neg ei, if_neg ej] at e
        exact hinj i j i0 (by omega) j0 (by omega) e
  have nS : ∀ t, wK w t = kO 14 → t ≠ bI B → t ∉ [bI B, bIr B] := fun t e ht hm => by
    rcases List.mem_cons.mp hm with h1 | h1
    · exact ht h1
    · rw [List.mem_singleton.mp h1, hrk] at e
      cases e
  refine DI.gx (v_Al_add a2 hn.2.2.1 (by omega) (by omega) hel (eo_13 hq.is) (fun e => ⟨hc, Nat.le_trans (hcap e) hs⟩) (fun w' r n hk hL hs1 hg1 _ hx' _ => ?_))
  by_cases e : A 0 0 = (bIn B : Int)
  · obtain ⟨g1, g2, g3⟩ := hg1 e
    subst g2
    refine fin [bI B] w' r _ hx' g3 (fun b hb => Or.inl (by rw [List.mem_singleton.mp hb]; exact a2.1.2)) (fun hm => hb.1 (List.mem_singleton.mp hm).symm) (fun _ hO hm => ?_) hL (hcap e) ?_
    · rw [List.mem_singleton.mp hm] at hO
      have h2 := hO.2.symm.trans a2.1.2
      cases h2
    · by_cases hz : bSn B = 0
      · exact Or.inr (Or.inl hz)
      · refine Or.inr (Or.inr (fun e2 => ?_))
        rcases a3.2.2.2.2.2.1 with ⟨_, h0⟩ | ⟨hO, _⟩
        · exact hz h0
        · exact g1.1 (by rw [e2]; exact hO.1)
  · obtain ⟨g1, g2⟩ := hs1 e
    subst g1 g2
    have hn0 : 0 < bIn B := by have := a2.2.2.2.2.1; omega
    refine fin [bI B, bIr B] w' _ _ hx' hk (fun b hb2 => ?_) (nS _ a3.1.2 (fun e => hb.1 e.symm)) (fun h0 hO hm => ?_) hL hn.1 hb.2
    · rcases List.mem_cons.mp hb2 with e | e
      · exact Or.inl (by rw [e]; exact a2.1.2)
      · exact Or.inr ⟨_, by rw [List.mem_singleton.mp e]; exact hrk⟩
    · rcases List.mem_cons.mp hm with e2 | e2
      · rw [e2] at hO
        have h2 := hO.2.symm.trans a2.1.2
        cases h2
      · have e2 := List.mem_singleton.mp e2
        rcases hb.2 with e3 | e3 | e3
        · omega
        · omega
        · exact e3 e2.symm
end IV
