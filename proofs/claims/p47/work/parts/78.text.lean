-- texts: what a builder holds, what a text holds
theorem ishrq_0 {a : Int} (ha : inR a) : ishrq a 0 = a := by
  unfold ishrq
  rw [show Int32.ofInt 0 &&& 31 = Int32.ofInt 0 &&& 31 from rfl, q_shr ha (by decide) (by decide)]
  rw [show (2 : Int) ^ (0 : Int).toNat = 1 from rfl, Int.ediv_one]
  exact toI ha
theorem ishlq_0 {a : Int} (ha : inR a) : ishlq a 0 = a := by
  unfold ishlq
  rw [show Int32.ofInt 0 &&& 31 = 0 from by decide]
  have e : ∀ x : Int32, x <<< (0 : Int32) = x := fun x => by simp [← Int32.toBitVec_inj]
  rw [e]
  exact toI ha
theorem iand255 {a : Int} (ha : inR a) : iandq a 255 = a % 256 := by
  unfold iandq
  rw [q_and255 ha]
  exact toI (by unfold inR; omega)
theorem nme_at (v : Int) : ∀ (e : Nat) (T : Txt) (j : Int), (nme v e T).2 j = if T.1 ≤ j ∧ j < T.1 + e then 48 + v / 10 ^ (T.1 + e - 1 - j).toNat % 10 else T.2 j := by
  intro e
  induction e with
  | zero => intro T j; rw [if_neg (by omega)]; rfl
  | succ e ih =>
    intro T j
    show (nme v e (sgn T (48 + v / 10 ^ e % 10))).2 j = _
    rw [ih]
    show (if T.1 + 1 ≤ j ∧ j < T.1 + 1 + (e : Int) then 48 + v / 10 ^ (T.1 + 1 + (e : Int) - 1 - j).toNat % 10 else if j = T.1 then 48 + v / 10 ^ e % 10 else T.2 j) = _
    by_cases h : T.1 + 1 ≤ j ∧ j < T.1 + 1 + (e : Int)
    · rw [if_pos h, if_pos (by omega), show T.1 + 1 + (e : Int) - 1 - j = T.1 + ((e + 1 : Nat) : Int) - 1 - j by omega]
    · rw [if_neg h]
      by_cases h2 : j = T.1
      · rw [if_pos h2, if_pos (by omega), show (T.1 + ((e + 1 : Nat) : Int) - 1 - j).toNat = e by omega]
      · rw [if_neg h2, if_neg (by omega)]
theorem nmb_at {v j : Int} {T : Txt} : (nmb T v).2 j = if T.1 ≤ j ∧ j < T.1 + dgs v then 48 + v / 10 ^ (T.1 + dgs v - 1 - j).toNat % 10 else T.2 j := nme_at v _ T j
theorem dgs_100 {v : Int} (h : 100 ≤ v) (h2 : v < 1000000) : dgs v = dgs (v / 100) + 2 := by
  unfold dgs
  (repeat' split) <;> omega
/-- letters of seven bits -/
def asc (T : Txt) : Prop := ∀ j, 0 ≤ j → j < T.1 → 0 ≤ T.2 j ∧ T.2 j ≤ 127
theorem asc_sgn {T : Txt} {c : Int} (h : asc T) (c0 : 0 ≤ c) (c1 : c ≤ 127) : asc (sgn T c) := fun j a b => by
  have b : j < T.1 + 1 := b
  show 0 ≤ (if j = T.1 then c else T.2 j) ∧ (if j = T.1 then c else T.2 j) ≤ 127
  by_cases e : j = T.1
  · rw [if_pos e]; omega
  · rw [if_neg e]; exact h j a (by omega)
theorem asc_nmb {T : Txt} {v : Int} (h : asc T) (v0 : 0 ≤ v) : asc (nmb T v) := fun j a b => by
  have hl := nmb_len2 v T
  rw [nmb_at]
  by_cases e : T.1 ≤ j ∧ j < T.1 + dgs v
  · rw [if_pos e]; omega
  · rw [if_neg e]; exact h j a (by omega)
def sgs : Txt → List Int → Txt
  | T, [] => T
  | T, c :: l => sgs (sgn T c) l
theorem sgs_1 : ∀ (l : List Int) (T : Txt), (sgs T l).1 = T.1 + l.length := by
  intro l
  induction l with
  | nil => intro T; show T.1 = T.1 + ((0 : Nat) : Int); omega
  | cons c l ih =>
    intro T
    show (sgs (sgn T c) l).1 = _
    rw [ih]
    show T.1 + 1 + (l.length : Int) = T.1 + ((l.length + 1 : Nat) : Int)
    omega
theorem sgs_lo : ∀ (l : List Int) (T : Txt) (j : Int), j < T.1 → (sgs T l).2 j = T.2 j := by
  intro l
  induction l with
  | nil => intro T j _; rfl
  | cons c l ih =>
    intro T j h
    show (sgs (sgn T c) l).2 j = _
    rw [ih (sgn T c) j (by show j < T.1 + 1; omega)]
    show (if j = T.1 then c else T.2 j) = _
    rw [if_neg (by omega)]
theorem sgs_hi : ∀ (l : List Int) (T : Txt) (j : Nat), j < l.length → (sgs T l).2 (T.1 + j) = l.getD j 0 := by
  intro l
  induction l with
  | nil => intro T j h; exact absurd h (Nat.not_lt_zero _)
  | cons c l ih =>
    intro T j h
    show (sgs (sgn T c) l).2 _ = _
    cases j with
    | zero =>
      rw [sgs_lo l (sgn T c) _ (by show T.1 + ((0 : Nat) : Int) < T.1 + 1; omega)]
      show (if T.1 + ((0 : Nat) : Int) = T.1 then c else _) = c
      rw [if_pos (by omega)]
    | succ j =>
      have := ih (sgn T c) j (by simpa using h)
      have e : (sgn T c).1 + (j : Int) = T.1 + ((j + 1 : Nat) : Int) := by show T.1 + 1 + (j : Int) = _; omega
      rw [e] at this
      rw [this]
      rfl
theorem asc_sgs : ∀ (l : List Int) (T : Txt), asc T → (∀ c ∈ l, 0 ≤ c ∧ c ≤ 127) → asc (sgs T l) := by
  intro l
  induction l with
  | nil => intro T h _; exact h
  | cons c l ih =>
    intro T h hc
    have h1 := hc c List.mem_cons_self
    exact ih (sgn T c) (asc_sgn h h1.1 h1.2) (fun c' hc' => hc c' (List.mem_cons_of_mem _ hc'))
/-- a builder -/
def SQ (w : Wd) (b v cap : Nat) (T : Txt) : Prop :=
  Ow w b (kO 17) ∧ wR w b 0 = some v ∧ wI w b 1 = 0 ∧ wI w b 3 = T.1 ∧ Ow w v (kA 1 cap) ∧ (0 ≤ T.1 ∧ T.1 ≤ (cap : Int) ∧ cap ≤ 30000) ∧ (∀ j, 0 ≤ j → j < (cap : Int) → -128 ≤ wI w v j ∧ wI w v j ≤ 127) ∧ (∀ j, 0 ≤ j → j < T.1 → wI w v j = T.2 j) ∧ asc T
/-- a text -/
def TTx (G : Gq) (w : Wd) (x vx n : Nat) (T : Txt) : Prop := Is G w x (kO 18) ∧ wR w x 0 = some vx ∧ wI w x 1 = 0 ∧ Is G w vx (kA 1 n) ∧ ((n : Int) = T.1 ∧ n ≤ 30000) ∧ (∀ j, 0 ≤ j → j < T.1 → wI w vx j = T.2 j) ∧ asc T
def lit (l : List Int) : Txt := (l.length, fun j => l.getD j.toNat 0)
section TX
variable {G : Gq} {w0 w w' u : Wd} {S : List Nat} {b v cap x vx n mc ms M c0 s0 rc rs : Nat} {T U T' : Txt} {j i : Int} {σ : St}
theorem TTx.kg (h : TTx G w x vx n T) (hk : Kg G S w w') (hS : ∀ y ∈ S, wK w y ≠ kO 18 ∧ wK w y ≠ kA 1 n) : TTx G w' x vx n T := by
  obtain ⟨h1, h2, h3, h4, h5, h6, h7⟩ := h
  have r1 : wR w' x 0 = some vx ∧ wI w' x 1 = 0 := by
    rcases h1.1 with hm | ⟨i, hi, rfl⟩
    · have hn : x ∉ S := fun hs => (hS x hs).1 h1.2
      exact ⟨(hk.1.R hm hn).trans h2, (hk.1.I hm hn).trans h3⟩
    · exact ⟨((hk.2.2 i hi).2.2 0).trans h2, ((hk.2.2 i hi).2.1 1).trans h3⟩
  refine ⟨h1.g hk.2, r1.1, r1.2, h4.g hk.2, h5, fun j a c => ?_, h7⟩
  rcases h4.1 with hm | ⟨i, hi, rfl⟩
  · have hn : vx ∉ S := fun hs => (hS vx hs).2 h4.2
    exact (hk.1.I hm hn).trans (h6 j a c)
  · exact ((hk.2.2 i hi).2.1 j).trans (h6 j a c)
theorem TTx.k0 (h : TTx G w x vx n T) (hk : Kg G [] w w') : TTx G w' x vx n T := h.kg hk (fun y hy => absurd hy List.not_mem_nil)
theorem SQ.kp (h : SQ w b v cap T) (hk : Kp S w w') (hb : b ∉ S) (hv : v ∉ S) : SQ w' b v cap T := by
  obtain ⟨h1, h2, h3, h4, h5, h6, h7, h8, h9⟩ := h
  exact ⟨h1.kp hk, (hk.R h1.1 hb).trans h2, (hk.I h1.1 hb).trans h3, (hk.I h1.1 hb).trans h4, h5.kp hk, h6, fun j a c => by rw [hk.I h5.1 hv]; exact h7 j a c, fun j a c => (hk.I h5.1 hv).trans (h8 j a c), h9⟩
theorem SQ.k0 (h : SQ w b v cap T) (hk : Kp [] w w') : SQ w' b v cap T := h.kp hk List.not_mem_nil List.not_mem_nil
/-- a text that stands behind -/
theorem lit_x (hx : XOK G w) {i : Nat} (l : List Int) (hi : i + 1 < xN) (h : (xk i = kO 18 ∧ xi i 1 = 0 ∧ xr i 0 = some (i + 1) ∧ xk (i + 1) = kA 1 l.length ∧ l.length ≤ 100) ∧ ∀ j, j < l.length → xi (i + 1) ((j : Nat) : Int) = l.getD j 0 ∧ 0 ≤ l.getD j 0 ∧ l.getD j 0 ≤ 127) : TTx G w (xa G i) (xa G (i + 1)) l.length (lit l) := by
  obtain ⟨⟨h1, h2, h3, h4, h4'⟩, h5⟩ := h
  refine ⟨hx.is (by omega) h1, ?_, (hx i (by omega)).2.1 1 |>.trans h2, hx.is hi h4, ⟨rfl, by omega⟩, fun j a c => ?_, fun j a c => ?_⟩
  · rw [(hx i (by omega)).2.2.1 0, h3]; rfl
  · have c : j < (l.length : Int) := c
    rw [(hx _ hi).2.1 j]
    have := (h5 j.toNat (by omega)).1
    rw [Int.toNat_of_nonneg a] at this
    exact this
  · have c : j < (l.length : Int) := c
    exact (h5 j.toNat (by omega)).2
theorem v_Sg_length {K : Int → Wd → Prop} (hx : TTx G w x vx n T) (hK : K T.1 w) : DI G M_Sg_length [vA x] w mc ms K := by
  refine ed_Sg_length x ⟨hx.1, vx, hx.2.1, n, hx.2.2.2.1, inR_of (by omega) (by have := hx.2.2.2.2.1.2; omega), ed_Sg_coder x ⟨hx.1, hx.2.2.1, ?_⟩⟩
  rw [ishrq_0 (inR_of (by omega) (by have := hx.2.2.2.2.1.2; omega)), hx.2.2.2.2.1.1]
  exact hK
theorem v_Sg_charAt {K : Int → Wd → Prop} (hx : TTx G w x vx n T) (h0 : 0 ≤ i) (h1 : i < T.1) (hK : K (T.2 i) w) : DI G M_Sg_charAt [vA x, vI i] w mc ms K := by
  obtain ⟨g1, g2, g3, g4, g5, g6, g7⟩ := id hx
  have ha := g7 i h0 h1
  refine ed_Sg_charAt x i ⟨g1, ed_Sg_isLatin1 x ⟨g1, g3, fun h => absurd h (by decide), fun _ => ⟨vx, g2, ed_Sl_charAt vx i ⟨n, g4, inR_of (by omega) (by omega), ed_Sg_checkIndex i n (fun o ho => ed_Pc_checkIndex _ _ _ ⟨fun h => by omega, fun _ => ⟨fun _ => ?_, fun h => by omega⟩⟩)⟩⟩⟩⟩
  have e : iandq (wI w vx i) 255 % 65536 = T.2 i := by
    rw [g6 i h0 h1, iand255 (inR_of (by omega) (by omega))]; omega
  rw [e]
  exact ⟨h0, by omega, by omega, by omega, by omega, by omega, hK⟩
theorem v_stringSize {K : Int → Wd → Prop} {y : Int} (h0 : 0 ≤ y) (h1 : y < 1000000) (hK : K (dgs y) w) : DI G M_In_stringSize [vI y] w mc ms K := by
  refine e_In_stringSize y ⟨fun h => by omega, fun _ => ⟨inR_of (by omega) (by omega), ?_⟩⟩
  have fin : ∀ e : Int, e = (dgs y : Int) → K e w := fun e he => by rw [he]; exact hK
  have D : (dgs y : Int) = if y < 10 then 1 else if y < 100 then 2 else if y < 1000 then 3 else if y < 10000 then 4 else if y < 100000 then 5 else 6 := by
    unfold dgs
    (repeat' split) <;> rfl
  refine l_In_stringSize_1 _ _ _ _ ⟨fun h => absurd h (by decide), fun _ => ⟨fun h1 => ⟨inR_of (by omega) (by omega), inR_of (by omega) (by omega), ?_⟩, fun h1 => ⟨inR_of (by omega) (by omega), fin _ (by rw [D]; (repeat' split) <;> omega)⟩⟩⟩
  refine l_In_stringSize_1 _ _ _ _ ⟨fun h => absurd h (by decide), fun _ => ⟨fun h2 => ⟨inR_of (by omega) (by omega), inR_of (by omega) (by omega), ?_⟩, fun h2 => ⟨inR_of (by omega) (by omega), fin _ (by rw [D]; (repeat' split) <;> omega)⟩⟩⟩
  refine l_In_stringSize_1 _ _ _ _ ⟨fun h => absurd h (by decide), fun _ => ⟨fun h3 => ⟨inR_of (by omega) (by omega), inR_of (by omega) (by omega), ?_⟩, fun h3 => ⟨inR_of (by omega) (by omega), fin _ (by rw [D]; (repeat' split) <;> omega)⟩⟩⟩
  refine l_In_stringSize_1 _ _ _ _ ⟨fun h => absurd h (by decide), fun _ => ⟨fun h4 => ⟨inR_of (by omega) (by omega), inR_of (by omega) (by omega), ?_⟩, fun h4 => ⟨inR_of (by omega) (by omega), fin _ (by rw [D]; (repeat' split) <;> omega)⟩⟩⟩
  refine l_In_stringSize_1 _ _ _ _ ⟨fun h => absurd h (by decide), fun _ => ⟨fun h5 => ⟨inR_of (by omega) (by omega), inR_of (by omega) (by omega), ?_⟩, fun h5 => ⟨inR_of (by omega) (by omega), fin _ (by rw [D]; (repeat' split) <;> omega)⟩⟩⟩
  exact l_In_stringSize_1 _ _ _ _ ⟨fun h => absurd h (by decide), fun _ => ⟨fun h6 => by omega, fun h6 => ⟨inR_of (by omega) (by omega), fin _ (by rw [D]; (repeat' split) <;> omega)⟩⟩⟩
/-- digits -/
theorem dig_ones (hx : XOK G w) (h0 : 0 ≤ i) (h1 : i < 100) : wI w (xa G 259) i = 48 + i % 10 := by
  rw [(hx 259 (by decide)).2.1 i]
  unfold xi
  rw [if_neg (by decide), if_neg (by decide), if_neg (by decide), if_pos rfl, if_pos ⟨h0, h1⟩]
theorem dig_tens (hx : XOK G w) (h0 : 0 ≤ i) (h1 : i < 100) : wI w (xa G 258) i = 48 + i / 10 := by
  rw [(hx 258 (by decide)).2.1 i]
  unfold xi
  rw [if_neg (by decide), if_neg (by decide), if_pos rfl, if_pos ⟨h0, h1⟩]
theorem xa_ne (hx : XOK G w) {k : Nat} (hi : k = 258 ∨ k = 259) (hO : Ow w v (kA 1 cap)) (hn : v ∉ wL w ∨ ∀ i, i < xN → v ≠ xa G i) : xa G k ≠ v := by
  rcases hn with h | h
  · exact absurd hO.1 h
  · rcases hi with rfl | rfl
    · exact fun e => h 258 (by decide) e.symm
    · exact fun e => h 259 (by decide) e.symm
/-- a number's digits, from behind; the row is apart from what stands behind -/
theorem v_getL {K : Int → Wd → Prop} (hv : ∀ i, i < xN → v ≠ xa G i) : ∀ (m : Nat) (y : Int), 0 ≤ y → y < 10 ^ (2 * m + 2) → y < 1000000 → ∀ (i : Int) (w : Wd), XOK G w → Ow w v (kA 1 cap) → cap ≤ 30000 → (dgs y : Int) ≤ i → i ≤ (cap : Int) →
    (∀ r w', Kp [v] w w' → (∀ j, wI w' v j = if i - dgs y ≤ j ∧ j < i then 48 + y / 10 ^ (i - 1 - j).toNat % 10 else wI w v j) → K r w') → WD G M_In_getChars 22 [(0, vI (-y)), (2, vA v), (5, vI i), (6, vI 0)] [] w mc ms (yI K) := by
  have small : ∀ (y : Int), 0 ≤ y → y < 100 → ∀ (i : Int) (w : Wd), XOK G w → Ow w v (kA 1 cap) → cap ≤ 30000 → (dgs y : Int) ≤ i → i ≤ (cap : Int) →
    (∀ r w', Kp [v] w w' → (∀ j, wI w' v j = if i - dgs y ≤ j ∧ j < i then 48 + y / 10 ^ (i - 1 - j).toNat % 10 else wI w v j) → K r w') → WD G M_In_getChars 22 [(0, vI (-y)), (2, vA v), (5, vI i), (6, vI 0)] [] w mc ms (yI K) := by
    intro y y0 y1 i w hx hO hc hd hi hK
    have e9 := dig_ones hx y0 y1
    have e8 := dig_tens hx y0 y1
    have ey : - -y = y := by omega
    have hd1 : 1 ≤ i := by have := (dgs_in y).1; omega
    refine l_In_getChars_1 _ _ _ _ ⟨fun _ => ⟨inR_of (by omega) (by omega), inR_of (by omega) (by omega), by omega, by omega, cap, hO, by omega, by omega, ?_⟩, fun h => by omega⟩
    rw [ey, e9]
    have i1 : i + -1 = i - 1 := by omega
    rw [i1]
    refine ⟨by omega, by omega, fun h9 => ⟨fun _ => ?_, fun h => absurd rfl h⟩, fun h9 => ⟨inR_of (by omega) (by omega), ?_⟩⟩
    · have hdg : dgs y = 1 := by unfold dgs; rw [if_pos (by omega)]
      refine hK _ _ (Kp.rf.uI (Or.inl (by simp))) (fun j => ?_)
      rw [hdg]
      by_cases hj : j = i - 1
      · rw [hj, wI_uI_s, if_pos (by omega), show (i - 1 - (i - 1)).toNat = 0 by omega]
        show _ = 48 + y / 1 % 10
        omega
      · rw [wI_uI_j hj, if_neg (by omega)]
    · have hdg : dgs y = 2 := by unfold dgs; rw [if_neg (by omega), if_pos (by omega)]
      rw [hdg] at hd
      have e8' : wI (uI w v (i - 1) (48 + y % 10)) (xa G 258) y = 48 + y / 10 := (wI_uI_a (fun e => hv 258 (by decide) e.symm)).trans e8
      have i2 : i - 1 + -1 = i - 2 := by omega
      rw [i2, e8']
      refine ⟨by omega, by omega, by omega, by omega, fun _ => ?_, fun h => absurd rfl h⟩
      refine hK _ _ ((Kp.rf.uI (Or.inl (by simp))).uI (Or.inl (by simp))) (fun j => ?_)
      rw [hdg]
      by_cases hj : j = i - 2
      · rw [hj, wI_uI_s, if_pos (by omega), show (i - 1 - (i - 2)).toNat = 1 by omega]
        show _ = 48 + y / 10 % 10
        omega
      · rw [wI_uI_j hj]
        by_cases hj1 : j = i - 1
        · rw [hj1, wI_uI_s, if_pos (by omega), show (i - 1 - (i - 1)).toNat = 0 by omega]
          show _ = 48 + y / 1 % 10
          omega
        · rw [wI_uI_j hj1, if_neg (by omega)]
  intro m
  induction m with
  | zero => intro y y0 y1 _; exact small y y0 (by simpa using y1)
  | succ m ih =>
    intro y y0 y1 y6
    by_cases hs : y < 100
    · exact small y y0 hs
    intro i w hx hO hc hd hi hK
    have hq : (-y).tdiv 100 = -(y / 100) := by rw [Int.neg_tdiv, Int.tdiv_eq_ediv_of_nonneg y0]
    have hdg := dgs_100 (by omega : 100 ≤ y) y6
    have hr : -(y / 100) * 100 - -y = y % 100 := by omega
    refine l_In_getChars_1 _ _ _ _ ⟨fun h => by omega, fun _ => ?_⟩
    rw [hq, hr]
    have e9 := dig_ones hx (i := y % 100) (by omega) (by omega)
    have e8 := dig_tens hx (i := y % 100) (by omega) (by omega)
    have i1 : i + -1 = i - 1 := by omega
    have i2 : i - 1 + -1 = i - 2 := by omega
    rw [i1, e9, i2]
    have e8' : wI (uI w v (i - 1) (48 + y % 100 % 10)) (xa G 258) (y % 100) = 48 + y % 100 / 10 := (wI_uI_a (fun e => hv 258 (by decide) e.symm)).trans e8
    rw [e8']
    have hdm := (dgs_in (y / 100)).1
    refine ⟨inR_of (by omega) (by omega), inR_of (by omega) (by omega), inR_of (by omega) (by omega), inR_of (by omega) (by omega), by omega, by omega, cap, hO, by omega, by omega, by omega, by omega, inR_of (by omega) (by omega), by omega, by omega, by omega, by omega, WD.wf (fun _ hx2 _ => ?_)⟩
    have hp : y / 100 < 10 ^ (2 * m + 2) := by
      have e : (10 : Int) ^ (2 * (m + 1) + 2) = 10 ^ (2 * m + 2) * 100 := by
        rw [show 2 * (m + 1) + 2 = 2 * m + 2 + 2 by omega, Int.pow_add]
        rfl
      rw [e] at y1
      exact Int.ediv_lt_of_lt_mul (by omega) y1
    refine ih (y / 100) (by omega) hp (by omega) (i - 2) _ hx2 hO hc (by omega) (by omega) (fun r w' hk hv' => hK r w' (((Kp.rf.uI (Or.inl (by simp))).uI (Or.inl (by simp))).tr hk) (fun j => ?_))
    rw [hv' j, hdg]
    by_cases h1 : j = i - 1
    · rw [if_neg (by omega), if_pos (by omega), h1, wI_uI_j (by omega), wI_uI_s, show (i - 1 - (i - 1)).toNat = 0 by omega]
      show _ = 48 + y / 1 % 10
      omega
    by_cases h2 : j = i - 2
    · rw [if_neg (by omega), if_pos (by omega), h2, wI_uI_s, show (i - 1 - (i - 2)).toNat = 1 by omega]
      show _ = 48 + y / 10 % 10
      omega
    by_cases h3 : i - 2 - (dgs (y / 100) : Int) ≤ j ∧ j < i - 2
    · rw [if_pos h3, if_pos (by omega), show (i - 1 - j).toNat = 2 + (i - 2 - 1 - j).toNat by omega, Int.pow_add, ← Int.ediv_ediv_of_nonneg (by decide)]
      rfl
    · rw [if_neg h3, if_neg (by omega), wI_uI_j h2, wI_uI_j h1]
def gcap (cap : Nat) (need : Int) : Nat := max (2 * cap + 2) need.toNat
/-- room enough -/
theorem v_ensure {K : Wd → Prop} {need : Int} (hQ : SQ w b v cap T) (h0 : 0 ≤ need) (hn : need ≤ 10000) (hcap : cap ≤ 10000) (hb : (cap : Int) < need → 1 ≤ mc ∧ gcap cap need ≤ ms)
    (hK : ∀ w' v' cap', Kp [b] w w' → SQ w' b v' cap' T → need ≤ (cap' : Int) → ((v' = v ∧ cap' = cap) ∨ ((cap : Int) < need ∧ cap' = gcap cap need ∧ Fr G w v')) → K w') : DV G M_As_ensureCapacityInternal [vA b, vI need] w mc ms K := by
  obtain ⟨h1, h2, h3, h4, h5, h6, h7, h8, h9⟩ := id hQ
  refine e_As_ensureCapacityInternal b need ⟨h1.is, v, h2, cap, h5.is, inR_of (by omega) (by omega), h3, ?_⟩
  rw [ishrq_0 (inR_of (by omega) (by omega))]
  refine ⟨inR_of (by omega) (by omega), fun hle => hK w v cap Kp.rf hQ (by omega) (Or.inl ⟨rfl, rfl⟩), fun hgt => ?_⟩
  obtain ⟨hb1, hb2⟩ := hb (by omega)
  refine e_As_newCapacity b need ⟨h1.is, v, h2, cap, h5.is, inR_of (by omega) (by omega), h3, ?_⟩
  rw [ishlq_0 (inR_of (by omega) (by omega)), ishlq_0 (inR_of (by omega) (by omega))]
  refine ⟨inR_of (by omega) (by omega), inR_of (by omega) (by omega), v_newLength (by omega) (by omega) (by omega) (by omega) (by omega) ?_⟩
  have eg : (cap : Int) + (if need - (cap : Int) < (cap : Int) + 2 then (cap : Int) + 2 else need - (cap : Int)) = (gcap cap need : Int) := by
    unfold gcap; split <;> omega
  rw [eg]
  have hg : gcap cap need ≤ 30000 := by unfold gcap; omega
  have hgc : cap < gcap cap need := by unfold gcap; omega
  refine ⟨fun _ => ⟨h3, ?_⟩, fun h => by omega⟩
  rw [ishrq_0 (inR_of (by omega) (by omega))]
  refine ⟨h3, v, h2, 1, gcap cap need, hb1, hb2, ?_⟩
  rw [ishlq_0 (inR_of (by omega) (by omega))]
  refine e_Ar_copyOf_9075b v _ ⟨cap, h5.is, inR_of (by omega) (by omega), fun _ => ⟨gcap cap need, rfl, by omega, Nat.le_refl _, Nat.le_refl _, fun q hq => v_min ?_⟩, fun h => by omega⟩
  have em : (if (gcap cap need : Int) < (cap : Int) then (gcap cap need : Int) else (cap : Int)) = (cap : Int) := by rw [if_neg (by omega)]
  rw [em]
  have hvq : v ≠ q := hq.ne (G := G) h5.is
  have hbq : b ≠ q := hq.ne (G := G) h1.is
  refine ⟨by omega, by omega, by omega, fun i a c => by rw [Int.zero_add, wI_uN hvq]; exact h7 i a c, h1.nu hq, ?_⟩
  have kp : Kp [b] w (uR (uF (uN w q (kA 1 (gcap cap need))) q (cpyI (uN w q (kA 1 (gcap cap need))) v q 0 0 (cap : Int))) b 0 (some q)) := ((Kp.rf.uN hq.1).uF (Or.inr hq.1)).uR (Or.inl (by simp))
  have oq : Ow (uR (uF (uN w q (kA 1 (gcap cap need))) q (cpyI (uN w q (kA 1 (gcap cap need))) v q 0 0 (cap : Int))) b 0 (some q)) q (kA 1 (gcap cap need)) := ((Ow.sN (w := w)).sF).sR
  have vq : ∀ j, wI (uR (uF (uN w q (kA 1 (gcap cap need))) q (cpyI (uN w q (kA 1 (gcap cap need))) v q 0 0 (cap : Int))) b 0 (some q)) q j = if 0 ≤ j ∧ j < (cap : Int) then wI w v j else 0 := fun j => by
    rw [wI_uR, wI_uF_s]
    unfold cpyI
    by_cases h : 0 ≤ j ∧ j < (cap : Int)
    · rw [if_pos (by omega), if_pos h, wI_uN hvq, show (0 : Int) + (j - 0) = j by omega]
    · rw [if_neg (by omega), if_neg h, wI_uN_s]
  refine hK _ q (gcap cap need) kp ⟨h1.kp kp, wR_uR_s, ?_, ?_, oq, ⟨h6.1, by omega, hg⟩, fun j a c => ?_, fun j a c => ?_, h9⟩ (by unfold gcap; omega) (Or.inr ⟨by omega, rfl, hq⟩)
  · rw [wI_uR, wI_uF hbq, wI_uN hbq]; exact h3
  · rw [wI_uR, wI_uF hbq, wI_uN hbq]; exact h4
  · rw [vq]
    by_cases h : 0 ≤ j ∧ j < (cap : Int)
    · rw [if_pos h]; exact h7 j h.1 h.2
    · rw [if_neg h]; omega
  · rw [vq, if_pos (by omega)]; exact h8 j a c
/-- the row filled on, the count set -/
theorem SQ.fin {len : Int} (hQ : SQ w b v cap T) (hl : 0 ≤ len) (hc : T.1 + len ≤ (cap : Int)) (hk : Kp [b, v] w w') (hr : wR w' b 0 = some v) (hi1 : wI w' b 1 = 0) (hi : wI w' b 3 = T.1 + len) (hF : ∀ j, 0 ≤ j → j < (cap : Int) → wI w' v j = if T.1 ≤ j ∧ j < T.1 + len then T'.2 j else wI w v j) (e1 : T'.1 = T.1 + len) (e2 : ∀ j, 0 ≤ j → j < T.1 → T'.2 j = T.2 j) (ha : asc T') : SQ w' b v cap T' := by
  obtain ⟨h1, h2, h3, h4, h5, h6, h7, h8, h9⟩ := id hQ
  refine ⟨h1.kp hk, hr, hi1, by rw [hi, e1], h5.kp hk, ⟨by omega, by omega, h6.2.2⟩, fun j a c => ?_, fun j a c => ?_, ha⟩
  · rw [hF j a c]
    by_cases h : T.1 ≤ j ∧ j < T.1 + len
    · rw [if_pos h]
      have := ha j a (by omega)
      omega
    · rw [if_neg h]; exact h7 j a c
  · rw [hF j a (by omega)]
    by_cases h : T.1 ≤ j ∧ j < T.1 + len
    · rw [if_pos h]
    · rw [if_neg h, h8 j a (by omega), e2 j a (by omega)]
/-- one more text, one more sign, one more number at the end -/
theorem v_apS {K : Option Nat → Wd → Prop} (hQ : SQ w b v cap T) (hS : TTx G w x vx n U) (hn : T.1 + U.1 ≤ 10000) (hcap : cap ≤ 10000) (hb : (cap : Int) < T.1 + U.1 → 1 ≤ mc ∧ gcap cap (T.1 + U.1) ≤ ms)
    (e1 : T'.1 = T.1 + U.1) (e2 : ∀ j, 0 ≤ j → j < T.1 → T'.2 j = T.2 j) (e3 : ∀ j, 0 ≤ j → j < U.1 → T'.2 (T.1 + j) = U.2 j) (ha : asc T')
    (hK : ∀ w' v' cap', Kp [b, v] w w' → SQ w' b v' cap' T' → ((v' = v ∧ cap' = cap) ∨ ((cap : Int) < T.1 + U.1 ∧ cap' = gcap cap (T.1 + U.1) ∧ Fr G w v')) → K (some b) w') : DP G M_Sb_append_15ec4 [vA b, vA x] w mc ms K := by
  obtain ⟨h1, h2, h3, h4, h5, h6, h7, h8, h9⟩ := id hQ
  obtain ⟨s1, s2, s3, s4, s5, s6, s7⟩ := id hS
  refine e_Sb_append_15ec4 b x ⟨mc, ms, Nat.le_refl _, Nat.le_refl _, h1.is, e_As_append_cf1ce b x ⟨s1, v_Sg_length hS ⟨h1.is, ?_⟩⟩⟩
  rw [h4]
  refine ⟨inR_of (by omega) (by omega), mc, ms, Nat.le_refl _, Nat.le_refl _, DV.gx (v_ensure (G := G) hQ (by omega) hn hcap hb (fun w1 v1 cap1 k1 Q1 r1 hv1 _ _ hg1 => ?_))⟩
  have S1 := hS.kg ⟨k1, hg1⟩ (fun y hy => by rw [List.mem_singleton.mp hy, h1.2]; simp)
  obtain ⟨a1, a2, a3, a4, a5, a6, a7, a8, a9⟩ := id Q1
  obtain ⟨t1, t2, t3, t4, t5, t6, t7⟩ := id S1
  refine e_As_putStringAt b _ x ⟨a1.is, e_As_inflateIfNeededFor b x ⟨a1.is, a3, t1, ed_Sg_coder x ⟨t1, t3, fun _ => ⟨a3, v1, a2, t1, e_Sg_getBytes x v1 _ 0 ⟨t1, ed_Sg_coder x ⟨t1, t3, fun h => absurd rfl h, fun _ => ⟨vx, t2, n, t4, inR_of (by omega) (by omega), cap1, a5, ?_⟩⟩⟩⟩, fun h => absurd rfl h⟩⟩⟩
  rw [a4, ishlq_0 (inR_of (by omega) (by omega))]
  refine ⟨a6.1, by omega, by omega, by omega, fun i p q => ?_, ?_⟩
  · rw [Int.zero_add, t6 i p (by omega)]
    have := t7 i p (by omega)
    omega
  have hbv : b ≠ v1 := a1.kne a5 (by simp)
  have e4 : wI (uF w1 v1 (cpyI w1 vx v1 0 T.1 (n : Int))) b 3 = T.1 := (wI_uF hbv).trans a4
  rw [e4]
  refine ⟨inR_of (by omega) (by omega), a1, ?_⟩
  have kf : Kp [b, v1] w1 (uI (uF w1 v1 (cpyI w1 vx v1 0 T.1 (n : Int))) b 3 (T.1 + U.1)) := (Kp.rf.uF (Or.inl (by simp))).uI (Or.inl (by simp))
  have Q2 : SQ (uI (uF w1 v1 (cpyI w1 vx v1 0 T.1 (n : Int))) b 3 (T.1 + U.1)) b v1 cap1 T' := by
    refine Q1.fin (len := U.1) (by omega) (by omega) kf a2 ((wI_uI_j (by decide)).trans ((wI_uF hbv).trans a3)) wI_uI_s (fun j p q => ?_) e1 e2 ha
    rw [wI_uI_a hbv.symm, wI_uF_s]
    unfold cpyI
    by_cases h : T.1 ≤ j ∧ j < T.1 + U.1
    · rw [if_pos (by omega), if_pos h, t6 _ (by omega) (by omega), ← e3 _ (by omega) (by omega), show T.1 + (0 + (j - T.1)) = j by omega]
    · rw [if_neg (by omega), if_neg h]
  refine hK _ v1 cap1 ((k1.sub (by simp)).trd kf (fun y hy => ?_)) Q2 hv1
  rcases List.mem_cons.mp hy with e | e
  · exact Or.inl (by rw [e]; simp)
  · rcases hv1 with ⟨r, _⟩ | ⟨_, _, r⟩
    · exact Or.inl (by rw [List.mem_singleton.mp e, r]; simp)
    · exact Or.inr (by rw [List.mem_singleton.mp e]; exact r.1)
theorem v_apC {K : Option Nat → Wd → Prop} {c : Int} (hQ : SQ w b v cap T) (c0 : 0 ≤ c) (c1 : c ≤ 127) (hn : T.1 + 1 ≤ 10000) (hcap : cap ≤ 10000) (hb : (cap : Int) < T.1 + 1 → 1 ≤ mc ∧ gcap cap (T.1 + 1) ≤ ms)
    (hK : ∀ w' v' cap', Kp [b, v] w w' → SQ w' b v' cap' (sgn T c) → ((v' = v ∧ cap' = cap) ∨ ((cap : Int) < T.1 + 1 ∧ cap' = gcap cap (T.1 + 1) ∧ Fr G w v')) → K (some b) w') : DP G M_Sb_append_cf468 [vA b, vI c] w mc ms K := by
  obtain ⟨h1, h2, h3, h4, h5, h6, h7, h8, h9⟩ := id hQ
  refine e_Sb_append_cf468 b c ⟨mc, ms, Nat.le_refl _, Nat.le_refl _, h1.is, e_As_append_3fe6f b c ⟨h1.is, ?_⟩⟩
  rw [h4]
  refine ⟨inR_of (by omega) (by omega), mc, ms, Nat.le_refl _, Nat.le_refl _, v_ensure (G := G) hQ (by omega) hn hcap hb (fun w1 v1 cap1 k1 Q1 r1 hv1 => ?_)⟩
  obtain ⟨a1, a2, a3, a4, a5, a6, a7, a8, a9⟩ := id Q1
  refine e_As_isLatin1 b ⟨a1.is, a3, fun h => absurd h (by decide), fun _ => e_Sl_canEncode c ⟨fun h => by omega, fun _ => ⟨fun h => absurd h (by decide), fun _ => ?_⟩⟩⟩
  have ec : (c + 128) % 256 - 128 = c := by omega
  rw [a4, ec]
  have hbv : b ≠ v1 := a1.kne a5 (by simp)
  refine ⟨inR_of (by omega) (by omega), a1, v1, a2, cap1, a5, a6.1, by omega, by omega, by omega, ?_⟩
  have kf : Kp [b, v1] w1 (uI (uI w1 b 3 (T.1 + 1)) v1 T.1 c) := (Kp.rf.uI (Or.inl (by simp))).uI (Or.inl (by simp))
  have Q2 : SQ (uI (uI w1 b 3 (T.1 + 1)) v1 T.1 c) b v1 cap1 (sgn T c) := by
    refine Q1.fin (len := 1) (by omega) (by omega) kf a2 ((wI_uI_a hbv).trans ((wI_uI_j (by decide)).trans a3)) ((wI_uI_a hbv).trans wI_uI_s) (fun j p q => ?_) rfl (fun j p q => ?_) (asc_sgn h9 c0 c1)
    · by_cases e : j = T.1
      · rw [e, wI_uI_s, if_pos (by omega)]
        show c = if T.1 = T.1 then c else _
        rw [if_pos rfl]
      · rw [wI_uI_j e, wI_uI_a hbv.symm, if_neg (by omega)]
    · show (if j = T.1 then c else T.2 j) = _
      rw [if_neg (by omega)]
  refine hK _ v1 cap1 ((k1.sub (by simp)).trd kf (fun y hy => ?_)) Q2 hv1
  rcases List.mem_cons.mp hy with e | e
  · exact Or.inl (by rw [e]; simp)
  · rcases hv1 with ⟨r, _⟩ | ⟨_, _, r⟩
    · exact Or.inl (by rw [List.mem_singleton.mp e, r]; simp)
    · exact Or.inr (by rw [List.mem_singleton.mp e]; exact r.1)
theorem v_apI {K : Option Nat → Wd → Prop} {y : Int} (hQ : SQ w b v cap T) (hvx : ∀ i, i < xN → v ≠ xa G i) (y0 : 0 ≤ y) (y1 : y < 1000000) (hn : T.1 + dgs y ≤ 10000) (hcap : cap ≤ 10000) (hb : (cap : Int) < T.1 + dgs y → 1 ≤ mc ∧ gcap cap (T.1 + dgs y) ≤ ms)
    (hK : ∀ w' v' cap', Kp [b, v] w w' → SQ w' b v' cap' (nmb T y) → ((v' = v ∧ cap' = cap) ∨ ((cap : Int) < T.1 + dgs y ∧ cap' = gcap cap (T.1 + dgs y) ∧ Fr G w v')) → K (some b) w') : DP G M_Sb_append_bf812 [vA b, vI y] w mc ms K := by
  obtain ⟨h1, h2, h3, h4, h5, h6, h7, h8, h9⟩ := id hQ
  refine e_Sb_append_bf812 b y ⟨mc, ms, Nat.le_refl _, Nat.le_refl _, h1.is, e_As_append_c97b9 b y ⟨h1.is, v_stringSize y0 y1 ?_⟩⟩
  rw [h4]
  have hd := dgs_in y
  refine ⟨inR_of (by omega) (by omega), mc, ms, Nat.le_refl _, Nat.le_refl _, DV.gx (v_ensure (G := G) hQ (by omega) hn hcap hb (fun w1 v1 cap1 k1 Q1 r1 hv1 _ hx1 _ => ?_))⟩
  obtain ⟨a1, a2, a3, a4, a5, a6, a7, a8, a9⟩ := id Q1
  have hbv : b ≠ v1 := a1.kne a5 (by simp)
  have hv1x : ∀ i, i < xN → v1 ≠ xa G i := by
    rcases hv1 with ⟨r, _⟩ | ⟨_, _, r⟩
    · rw [r]; exact hvx
    · exact r.2
  refine e_As_isLatin1 b ⟨a1.is, a3, fun h => absurd h (by decide), fun _ => ⟨v1, a2, e_In_getChars y _ v1 ⟨fun _ => ⟨inR_of (by omega) (by omega), ?_⟩, fun h => absurd y0 h⟩⟩⟩
  refine v_getL hv1x 2 y y0 (by show y < 10 ^ 6; omega) y1 _ w1 hx1 a5 a6.2.2 (by omega) (by omega) (fun r w2 k2 hv2 => ⟨a1.kp k2, ?_⟩)
  have hbs : b ∉ [v1] := fun h => hbv (List.mem_singleton.mp h)
  have kf : Kp [b, v1] w1 (uI w2 b 3 (T.1 + dgs y)) := (k2.sub (by simp)).uI (Or.inl (by simp))
  have Q2 : SQ (uI w2 b 3 (T.1 + dgs y)) b v1 cap1 (nmb T y) := by
    refine Q1.fin (len := dgs y) (by omega) (by omega) kf ((k2.R a1.1 hbs).trans a2) ((wI_uI_j (by decide)).trans ((k2.I a1.1 hbs).trans a3)) wI_uI_s (fun j p q => ?_) (nmb_len2 y T) (fun j p q => ?_) (asc_nmb h9 y0)
    · rw [wI_uI_a hbv.symm, hv2 j, nmb_at]
      by_cases h : T.1 ≤ j ∧ j < T.1 + dgs y
      · rw [if_pos (by omega), if_pos h, if_pos h]
      · rw [if_neg (by omega), if_neg h]
    · rw [nmb_at, if_neg (by omega)]
  refine hK _ v1 cap1 ((k1.sub (by simp)).trd kf (fun z hz => ?_)) Q2 hv1
  rcases List.mem_cons.mp hz with e | e
  · exact Or.inl (by rw [e]; simp)
  · rcases hv1 with ⟨r, _⟩ | ⟨_, _, r⟩
    · exact Or.inl (by rw [List.mem_singleton.mp e, r]; simp)
    · exact Or.inr (by rw [List.mem_singleton.mp e]; exact r.1)
/-- made -/
theorem v_Sb_init {K : Wd → Prop} (hO : Ow w b (kO 17)) (hz : wI w b 3 = 0) (hc : 1 ≤ mc) (hs : 16 ≤ ms) (hK : ∀ w' v, Fr G w v → Kp [b] w w' → SQ w' b v 16 (0, fun _ => 0) → K w') : DV G M_Sb_init [vA b] w mc ms K := by
  refine e_Sb_init b ⟨1, 16, hc, hs, e_As_init b 16 ⟨16, rfl, by omega, Nat.le_refl _, Nat.le_refl _, fun q hq => ⟨hO.nu hq, ?_⟩⟩⟩
  have hbq : b ≠ q := hq.ne (G := G) hO.is
  have kp : Kp [b] w (uI (uR (uN w q (kA 1 16)) b 0 (some q)) b 1 0) := ((Kp.rf.uN hq.1).uR (Or.inl (by simp))).uI (Or.inl (by simp))
  refine hK _ q hq kp ⟨hO.kp kp, wR_uR_s, wI_uI_s, ?_, ((Ow.sN (w := w)).sR).sI, ⟨by show (0 : Int) ≤ 0; omega, by show (0 : Int) ≤ ((16 : Nat) : Int); omega, by omega⟩, fun j a c => ?_, fun j a c => absurd c (by show ¬ j < 0; omega), fun j a c => absurd c (by show ¬ j < 0; omega)⟩
  · rw [wI_uI_j (by decide), wI_uR, wI_uN hbq]; exact hz
  · have e : wI (uI (uR (uN w q (kA 1 16)) b 0 (some q)) b 1 0) q j = 0 := (wI_uI_a hbq.symm).trans (yIR.trans (wI_uN_s (k := kA 1 16)))
    rw [e]; omega
/-- told as a text -/
theorem v_toString {K : Option Nat → Wd → Prop} (hQ : SQ w b v cap T) (hc : 2 ≤ mc) (hs : 4 + T.1.toNat ≤ ms) (hK : ∀ x vx w', x ∉ wL w → Kp [] w w' → TTx G w' x vx T.1.toNat T → K (some x) w') : DP G M_Sb_toString [vA b] w mc ms K := by
  obtain ⟨h1, h2, h3, h4, h5, h6, h7, h8, h9⟩ := id hQ
  refine e_Sb_toString b ⟨by omega, by omega, fun x hx => ⟨1, T.1.toNat, by omega, by omega, ?_⟩⟩
  have hbx : b ≠ x := hx.ne (G := G) h1.is
  have hvx : v ≠ x := hx.ne (G := G) h5.is
  have Q1 := hQ.k0 ((Kp.rf (S := [])).uN (k := kO 18) hx.1)
  obtain ⟨a1, a2, a3, a4, a5, a6, a7, a8, a9⟩ := id Q1
  refine e_Sg_init_81219 x b ⟨1, T.1.toNat, Nat.le_refl _, Nat.le_refl _, e_Sg_init_db425 x b none ⟨a1.is, e_As_getValue b ⟨a1.is, e_Sb_length b ⟨a1.is, e_As_length b ⟨a1.is, e_As_isLatin1 b ⟨a1.is, a3, fun h => absurd h (by decide), fun _ => ⟨Ow.nw, v, a2, 1, T.1.toNat, Nat.le_refl _, Nat.le_refl _, ?_⟩⟩⟩⟩⟩⟩⟩
  rw [a4]
  have fin : ∀ (q : Nat) (F : Int → Int), Fr G (uI (uN w x (kO 18)) x 1 0) q → (∀ j, 0 ≤ j → j < T.1 → F j = T.2 j) → K (some x) (uR (uF (uN (uI (uN w x (kO 18)) x 1 0) q (kA 1 T.1.toNat)) q F) x 0 (some q)) := fun q F hq hF => by
    have hxq : x ≠ q := fun e => hq.1 (by rw [← e, show wL (uI (uN w x (kO 18)) x 1 0) = wL w ++ [x] from rfl]; simp)
    have hqw : q ∉ wL w := fun h => hq.1 (by rw [show wL (uI (uN w x (kO 18)) x 1 0) = wL w ++ [x] from rfl]; exact List.mem_append_left _ h)
    have k0 : Kp [] w (uR (uF (uN (uI (uN w x (kO 18)) x 1 0) q (kA 1 T.1.toNat)) q F) x 0 (some q)) := (((((Kp.rf.uN hx.1).uI (Or.inr hx.1)).uN hq.1).uF (Or.inr hqw)).uR (Or.inr hx.1))
    have ox : Ow (uI (uN w x (kO 18)) x 1 0) x (kO 18) := (Ow.sN (w := w)).sI
    have ox2 : Ow (uR (uF (uN (uI (uN w x (kO 18)) x 1 0) q (kA 1 T.1.toNat)) q F) x 0 (some q)) x (kO 18) := ((ox.nu hq).sF).sR
    have oq2 : Ow (uR (uF (uN (uI (uN w x (kO 18)) x 1 0) q (kA 1 T.1.toNat)) q F) x 0 (some q)) q (kA 1 T.1.toNat) := ((Ow.sN (w := uI (uN w x (kO 18)) x 1 0)).sF).sR
    refine hK x q _ hx.1 k0 ⟨ox2.is, wR_uR_s, ?_, oq2.is, ⟨by omega, by omega⟩, fun j p r => ?_, h9⟩
    · rw [wI_uR, wI_uF hxq, wI_uN hxq, wI_uI_s]
    · rw [wI_uR, wI_uF_s]; exact hF j p r
  have hvq : ∀ q, Fr G (uI (uN w x (kO 18)) x 1 0) q → v ≠ q := fun q hq => hq.ne (G := G) a5.is
  refine e_Ar_copyOfRange v 0 T.1 ⟨fun h => absurd rfl h, fun _ => ⟨cap, a5.is, inR_of (by omega) (by omega), fun he => ⟨a5, by omega, by omega, fun j p r => ?_, fun q hq => ?_⟩, fun hne => ⟨1, T.1.toNat, Nat.le_refl _, Nat.le_refl _, e_Ar_copyOfRangeByte v 0 T.1 (e_Ar_checkLength _ _ ⟨fun _ => ⟨inR_of (by omega) (by omega), T.1.toNat, by omega, by omega, Nat.le_refl _, Nat.le_refl _, fun q hq => ⟨cap, (a5.is).nu hq, inR_of (by omega) (by omega), inR_of (by omega) (by omega), v_min ?_⟩⟩, fun h => absurd h6.1 h⟩)⟩⟩⟩
  · rw [wI_uI_a hvx]; exact a7 j p r
  · have ecap : cap = T.1.toNat := by omega
    rw [ecap]
    refine fin q _ hq (fun j p r => ?_)
    rw [wI_uI_a hvx]; exact a8 j p r
  · have em : (if T.1 - 0 < (cap : Int) - 0 then T.1 - 0 else (cap : Int) - 0) = T.1 := by split <;> omega
    rw [em]
    have hq2 := hvq q hq
    have ev : ∀ j, wI (uN (uI (uN w x (kO 18)) x 1 0) q (kA 1 T.1.toNat)) v j = wI (uN w x (kO 18)) v j := fun j => (wI_uN hq2).trans (wI_uI_a hvx)
    refine ⟨by omega, by omega, by omega, by omega, fun i p r => ?_, fin q _ hq (fun j p r => ?_)⟩
    · rw [Int.zero_add, ev]; exact a7 i p (by omega)
    · unfold cpyI
      rw [if_pos (by omega), ev, show (0 : Int) + (j - 0) = j by omega]
      exact a8 j p r
end TX
