-- texts put together; the lists and their lines: the class's answers beside the books
/-- T', that is T followed by U -/
def CatQ (T U T' : Txt) : Prop := T'.1 = T.1 + U.1 ∧ (∀ j, 0 ≤ j → j < T.1 → T'.2 j = T.2 j) ∧ ∀ j, 0 ≤ j → j < U.1 → T'.2 (T.1 + j) = U.2 j
def T00 : Txt := (0, fun _ => 0)
theorem cat_nil {T : Txt} : CatQ T T00 T := ⟨by show T.1 = T.1 + 0; omega, fun _ _ _ => rfl, fun j a b => absurd b (by show ¬ j < 0; omega)⟩
theorem cat_sgn {T U T' : Txt} {c : Int} (h : CatQ T U T') (hU : 0 ≤ U.1) : CatQ T (sgn U c) (sgn T' c) := by
  obtain ⟨h1, h2, h3⟩ := h
  refine ⟨by show T'.1 + 1 = T.1 + (U.1 + 1); omega, fun j a b => ?_, fun j a b => ?_⟩
  · show (if j = T'.1 then c else T'.2 j) = _
    rw [if_neg (by omega)]; exact h2 j a b
  · have b : j < U.1 + 1 := b
    show (if T.1 + j = T'.1 then c else T'.2 (T.1 + j)) = if j = U.1 then c else U.2 j
    by_cases e : j = U.1
    · rw [if_pos (by omega), if_pos e]
    · rw [if_neg (by omega), if_neg e]; exact h3 j a (by omega)
theorem cat_nme {T : Txt} {y : Int} : ∀ (e : Nat) (U T' : Txt), CatQ T U T' → 0 ≤ U.1 → CatQ T (nme y e U) (nme y e T') := by
  intro e
  induction e with
  | zero => intro U T' h _; exact h
  | succ e ih => exact fun U T' h hU => ih _ _ (cat_sgn h hU) (by show 0 ≤ U.1 + 1; omega)
theorem cat_nmb {T U T' : Txt} {y : Int} (h : CatQ T U T') (hU : 0 ≤ U.1) : CatQ T (nmb U y) (nmb T' y) := cat_nme _ _ _ h hU
theorem cat_lit {T : Txt} (l : List Int) : CatQ T (lit l) (sgs T l) := by
  refine ⟨sgs_1 l T, fun j _ b => sgs_lo l T j b, fun j a b => ?_⟩
  have b : j < (l.length : Int) := b
  have := sgs_hi l T j.toNat (by omega)
  rw [Int.toNat_of_nonneg a] at this
  exact this
theorem asc_0 : asc T00 := fun j a b => absurd b (by show ¬ j < 0; omega)
section GE
variable {G : Gq} {w0 w1 w w' u : Wd} {S : List Nat} {b v cap x vx n mc ms M c0 s0 rc rs : Nat} {T U T' : Txt} {j i : Int} {σ : St} {P : Option Nat → Wd → Nat → Nat → Prop}
/-- what one more piece costs, by the room that there is -/
theorem g_gen {ν : Md} {vs : List Vq} {need : Int} (hcon : ∀ mc ms, ((cap : Int) < need → 1 ≤ mc ∧ gcap cap need ≤ ms) → ∀ K : Option Nat → Wd → Prop, (∀ w' v' cap', Kp [b, v] w w' → SQ w' b v' cap' T' → ((v' = v ∧ cap' = cap) ∨ ((cap : Int) < need ∧ cap' = gcap cap need ∧ Fr G w v')) → K (some b) w') → DP G ν vs w mc ms K)
    (hT : T'.1 = need) (hv : ∀ i, i < xN → v ≠ xa G i) (hvn : v ∉ wL w0) (hw : ∀ a, a ∈ wL w0 → a ∈ wL w) (h2 : 2 * need ≤ (M : Int)) (hcap : cap ≤ M) (hc : c0 + (M - cap) ≤ rc) (hs : s0 + 2 * (M - cap) ≤ rs)
    (hK : ∀ w' v' cap' c s, Kp [b, v] w w' → XOK G w' → Gw G w w' → SQ w' b v' cap' T' → (∀ i, i < xN → v' ≠ xa G i) → v' ∉ wL w0 → (v' = v ∨ v' ∉ wL w) → cap' ≤ M → c ≤ rc → s ≤ rs → c0 + (M - cap') ≤ rc - c → s0 + 2 * (M - cap') ≤ rs - s → P (some b) w' c s) :
    ∃ c s : Nat, c ≤ rc ∧ s ≤ rs ∧ DP G ν vs w c s (fun r w' => P r w' c s) := by
  by_cases hf : (cap : Int) < need
  · have hg : 2 * cap + 2 ≤ gcap cap need := by unfold gcap; omega
    have hg2 : gcap cap need ≤ M := by unfold gcap; omega
    refine ⟨1, gcap cap need, by omega, by omega, DP.gx (hcon 1 _ (fun _ => ⟨Nat.le_refl _, Nat.le_refl _⟩) _ (fun w' v' cap' hk hQ hv' _ hx' hg' => ?_))⟩
    rcases hv' with ⟨e1, e2⟩ | ⟨_, e2, e3⟩
    · have := hQ.2.2.2.2.2.1.2.1
      omega
    · subst e2
      exact hK w' v' _ 1 _ hk hx' hg' hQ e3.2 (fun h => e3.1 (hw _ h)) (Or.inr e3.1) hg2 (by omega) (by omega) (by omega) (by omega)
  · refine ⟨0, 0, Nat.zero_le _, Nat.zero_le _, DP.gx (hcon 0 0 (fun h => absurd h hf) _ (fun w' v' cap' hk hQ hv' _ hx' hg' => ?_))⟩
    rcases hv' with ⟨e1, e2⟩ | ⟨e, _⟩
    · subst e1 e2
      exact hK w' v' cap' 0 0 hk hx' hg' hQ hv hvn (Or.inl rfl) hcap (by omega) (by omega) (by omega) (by omega)
    · exact absurd e hf
/-- a builder that is new since a world, which else is as it was -/
def BB (G : Gq) (w1 w : Wd) (b v cap M : Nat) (T : Txt) : Prop := Kp [] w1 w ∧ SQ w b v cap T ∧ b ∉ wL w1 ∧ v ∉ wL w1 ∧ (∀ i, i < xN → v ≠ xa G i) ∧ cap ≤ M ∧ M ≤ 10000
theorem BB.nx {v' cap' : Nat} (h : BB G w1 w b v cap M T) (hk : Kp [b, v] w w') (hQ : SQ w' b v' cap' T') (hv : ∀ i, i < xN → v' ≠ xa G i) (hn : v' ∉ wL w1) (hc : cap' ≤ M) : BB G w1 w' b v' cap' M T' := by
  refine ⟨h.1.trd hk (fun y hy => Or.inr ?_), hQ, h.2.2.1, hn, hv, hc, h.2.2.2.2.2.2⟩
  rcases List.mem_cons.mp hy with e | e
  · rw [e]; exact h.2.2.1
  · rw [List.mem_singleton.mp e]; exact h.2.2.2.1
theorem w_is {R : Prop} {D : Nat → Nat → Prop} (hI : R) (h : ∃ c s : Nat, c ≤ rc ∧ s ≤ rs ∧ D c s) : ∃ c s : Nat, c ≤ rc ∧ s ≤ rs ∧ (R ∧ D c s) := by
  obtain ⟨c, s, h1, h2, h3⟩ := h
  exact ⟨c, s, h1, h2, hI, h3⟩
theorem bb_s (hB : BB G w1 w b v cap M T) (hS : TTx G w x vx n U) (hC : CatQ T U T') (ha : asc T') (h2 : 2 * T'.1 ≤ (M : Int)) (hc : c0 + (M - cap) ≤ rc) (hs : s0 + 2 * (M - cap) ≤ rs)
    (hK : ∀ w' v' cap' c s, XOK G w' → BB G w1 w' b v' cap' M T' → c ≤ rc → s ≤ rs → c0 + (M - cap') ≤ rc - c → s0 + 2 * (M - cap') ≤ rs - s → P (some b) w' c s) : ∃ c s : Nat, c ≤ rc ∧ s ≤ rs ∧ DP G M_Sb_append_15ec4 [vA b, vA x] w c s (fun r w' => P r w' c s) := by
  obtain ⟨b1, b2, b3, b4, b5, b6, b7⟩ := id hB
  obtain ⟨c1, c2, c3⟩ := id hC
  rw [c1] at h2
  exact g_gen (w0 := w1) (need := T.1 + U.1) (fun mc ms hb K hK => v_apS b2 hS (by omega) (by omega) hb c1 c2 c3 ha hK) c1 b5 b4 (fun a ha => b1.L ha) h2 b6 hc hs (fun w' v' cap' c s hk hx' _ hQ hv' hn' _ hc' a1 a2 a3 a4 => hK w' v' cap' c s hx' (hB.nx hk hQ hv' hn' hc') a1 a2 a3 a4)
theorem bb_i {y : Int} (hB : BB G w1 w b v cap M T) (y0 : 0 ≤ y) (y1 : y < 1000000) (h2 : 2 * (nmb T y).1 ≤ (M : Int)) (hc : c0 + (M - cap) ≤ rc) (hs : s0 + 2 * (M - cap) ≤ rs)
    (hK : ∀ w' v' cap' c s, XOK G w' → BB G w1 w' b v' cap' M (nmb T y) → c ≤ rc → s ≤ rs → c0 + (M - cap') ≤ rc - c → s0 + 2 * (M - cap') ≤ rs - s → P (some b) w' c s) : ∃ c s : Nat, c ≤ rc ∧ s ≤ rs ∧ DP G M_Sb_append_bf812 [vA b, vI y] w c s (fun r w' => P r w' c s) := by
  obtain ⟨b1, b2, b3, b4, b5, b6, b7⟩ := id hB
  rw [nmb_len2] at h2
  exact g_gen (w0 := w1) (need := T.1 + dgs y) (fun mc ms hb K hK => v_apI b2 b5 y0 y1 (by omega) (by omega) hb hK) (nmb_len2 y T) b5 b4 (fun a ha => b1.L ha) h2 b6 hc hs (fun w' v' cap' c s hk hx' _ hQ hv' hn' _ hc' a1 a2 a3 a4 => hK w' v' cap' c s hx' (hB.nx hk hQ hv' hn' hc') a1 a2 a3 a4)
/-- a new builder -/
theorem bb_n {K : Wd → Prop} (hm : 16 ≤ M) (hM : M ≤ 10000) (hb : Fr G w b) (hx : XOK G w) (hc : 1 ≤ mc) (hs : 16 ≤ ms) (hK : ∀ w' v, XOK G w' → BB G w w' b v 16 M T00 → K w') : DV G M_Sb_init [vA b] (uN w b (kO 17)) mc ms K := by
  refine DV.gx (v_Sb_init Ow.nw wI_uN_s hc hs (fun w3 v hv hk3 hQ3 _ hx3 _ => hK w3 v hx3 ⟨(Kp.rf.uN hb.1).trd hk3 (fun y hy => Or.inr (by rw [List.mem_singleton.mp hy]; exact hb.1)), hQ3, hb.1, ?_, hv.2, hm, hM⟩))
  exact fun h => hv.1 (by rw [wL_uN]; exact List.mem_append_left _ h)
end GE
section LI
variable {G : Gq} {w0 w w' u : Wd} {A A' : St} {B : Bks} {S : List Nat} {a r n mc ms q x h row N y p it rc0 rs0 : Nat} {m k i j R sg t e d : Int} {f g g0 : Int → Nat} {σ : St}
theorem CL.tr (h1 : CL G w0 w A) (h2 : CL G w w' A) : CL G w0 w' A := ⟨h1.1.tr (h2.1.us (σ := wS w0)), h1.2.1.tr h2.2.1, h2.2.2⟩
theorem q_li {c : Int} : q_list A c k = kI (kdp A c) k (A 0 0) := rfl
theorem q_li_all {c : Int} : q_list A c (-1) = cI (kdp A c) (A 0 0) := by
  unfold q_list kI
  rw [if_neg (by omega), if_pos rfl]
theorem q_li_low {c : Int} : q_list A c (-2) = -3 := by
  unfold q_list kI
  rw [if_pos (by omega)]
theorem q_li_end {c : Int} (h : 0 ≤ A 0 0) : q_list A c (cI (kdp A c) (A 0 0)) = -1 := by
  have h1 := cI_in (p := kdp A c) h
  have e := kI_end (p := kdp A c) (k := cI (kdp A c) (A 0 0)) h (by omega) (fun j a b d => by have := cI_lt a b d; omega)
  rw [if_neg (by omega)] at e
  exact e
theorem q_li_at {c : Int} (h0 : 0 ≤ i) (h1 : i < A 0 0) (h : kdp A c i = true) : q_list A c (cI (kdp A c) i) = i := kI_hit h0 h1 h rfl
theorem kdp_0 : kdp A 0 i = ce A (A 0 1) i := by unfold kdp; rw [if_pos rfl]
theorem kdp_1 : kdp A 1 i = lackp A (A 0 2) i := by unfold kdp; rw [if_neg (by decide), if_pos rfl]
theorem kdp_2 : kdp A 2 i = lk A (A 0 2) i := by unfold kdp; rw [if_neg (by decide), if_neg (by decide)]
theorem lkc_i2 (hA : OKL A) (h0 : 0 ≤ i) (h1 : i ≤ A 0 0) : 0 ≤ sI (lkc A) i ∧ sI (lkc A) i ≤ 99999 * i := by
  have hr : ∀ j, 0 ≤ j → j < i → 0 ≤ lkc A j ∧ lkc A j ≤ 99999 := fun j a b => by
    have := co_in hA a (by omega)
    unfold lkc
    split <;> omega
  exact ⟨sI_nn h0 (fun j a b => (hr j a b).1), sI_le h0 (fun j a b => (hr j a b).2)⟩
/-- the end -/
theorem y_liE {K : Int → Wd → Prop} {z : Int} (hA : OKA A) (hl : CL G w0 w A) (hz : z = q_covered A) (hK : ∀ w', CL G w0 w' A → K 1 w') : WD G M_Cl_lists 347 [(0, vR 0), (4, vI (cI (kdp A 0) (A 0 0))), (5, vI (cI (kdp A 1) (A 0 0))), (6, vI (cI (kdp A 2) (A 0 0)))] [vI z] w rc0 rs0 (yI K) := by
  have hA0 := hA.1.1
  have hd := cI_in (p := kdp A 2) hA0
  refine l_Cl_lists_7 _ _ _ _ ?_
  refine c_certain hl.2.2.1 hl.2.2.2 hA (fun σ1 c1 f1 _ => ⟨fun hne => absurd q_li_all hne, fun _ => ?_⟩)
  refine c_lacking c1 f1 hA (fun σ2 c2 f2 _ => ⟨fun hne => absurd q_li_all hne, fun _ => ?_⟩)
  refine c_drawn c2 f2 hA (fun σ3 c3 f3 _ => ⟨fun hne => absurd q_li_all hne, fun _ => ?_⟩)
  refine c_certain c3 f3 hA (fun σ4 c4 f4 _ => ⟨fun hne => absurd (q_li_end hA0) hne, fun _ => ?_⟩)
  refine c_lacking c4 f4 hA (fun σ5 c5 f5 _ => ⟨fun hne => absurd (q_li_end hA0) hne, fun _ => ?_⟩)
  refine c_drawn c5 f5 hA (fun σ6 c6 f6 _ => ⟨fun hne => absurd (q_li_end hA0) hne, fun _ => ?_⟩)
  refine c_certain c6 f6 hA (fun σ7 c7 f7 _ => ⟨fun hne => absurd q_li_low hne, fun _ => ?_⟩)
  refine c_lacking c7 f7 hA (fun σ8 c8 f8 _ => ⟨fun hne => absurd q_li_low hne, fun _ => ?_⟩)
  refine c_drawn c8 f8 hA (fun σ9 c9 f9 _ => ⟨fun hne => absurd q_li_low hne, fun _ => ?_⟩)
  have e1 : q_line A (cI (kdp A 2) (A 0 0)) 0 = -2 := by unfold q_line; rw [q_li_end hA0, if_pos (Or.inr rfl)]
  have e2 : q_line A (-1) 0 = -2 := by unfold q_line; rw [if_pos (Or.inl (by omega))]
  refine c_line c9 f9 hA (fun σ10 c10 f10 _ => ⟨fun hne => absurd e1 hne, fun _ => ?_⟩)
  refine c_line c10 f10 hA (fun σ11 c11 f11 _ => ⟨fun hne => absurd e2 hne, fun _ => ?_⟩)
  have last : ∀ (σ12 : St), CR A σ12 → FC σ12 → WD G M_Cl_lists 481 [(0, vR 0), (9, vI z)] [] (uS w σ12) rc0 rs0 (yI K) := fun σ12 c12 f12 => l_Cl_lists_8 _ (c_covered c12 f12 hA (fun σ13 c13 f13 _ => ⟨fun hne => absurd hz.symm hne, fun _ => hK _ ((hl.cls c12 f12).cls c13 f13)⟩))
  refine ⟨fun _ => last σ11 c11 f11, fun hne => c_line c11 f11 hA (fun σ12 c12 f12 _ => ⟨fun hn3 => ?_, fun _ => last σ12 c12 f12⟩)⟩
  exfalso
  apply hn3
  obtain ⟨t, t0, t1, t2, t3⟩ := cI_ex (p := kdp A 2) (A 0 0) hA0 0 (Int.le_refl _) (by omega)
  have e := q_li_at t0 t1 t2
  rw [t3] at e
  unfold q_line
  rw [if_neg (by rw [e]; omega), if_pos (by omega)]
/-- the line is asked for, sign by sign -/
theorem y_liL {K : Int → Wd → Prop} {s vs ns : Nat} {x4 x5 : Int} {x7 : Int} (hA : OKA A) (i0 : 0 ≤ i) (i1 : i < A 0 0) (hd : kdp A 2 i = true) (hX : TTx G w0 s vs ns (lnW A (A 0 2) i))
    (hK : ∀ W, CL G w0 W A → WD G M_Cl_lists 21 [(0, vR 0), (1, vA x), (2, vA h), (3, vP (some q)), (4, vI x4), (5, vI x5), (6, vI (cI (kdp A 2) i + 1)), (7, vL x7), (9, vI (i + 1))] [] W rc0 rs0 (yI K)) (hx0 : XOK G w0) :
    ∀ c : Int, 0 ≤ c → c ≤ (lnW A (A 0 2) i).1 + 1 → ∀ W, CL G w0 W A → WD G M_Cl_lists 264 [(0, vR 0), (1, vA x), (2, vA h), (3, vA q), (4, vI x4), (5, vI x5), (6, vI (cI (kdp A 2) i)), (7, vL x7), (9, vI i), (11, vP (some s)), (12, vI c)] [] W rc0 rs0 (yI K) := by
  have hA48 := hA.1.2.1
  have hcn := cI_in (p := kdp A 2) i0
  have hsl : (lnW A (A 0 2) i).1 ≤ 30000 := by have := hX.2.2.2.2.1; omega
  have tx : ∀ W, CL G w0 W A → TTx G W s vs ns (lnW A (A 0 2) i) := fun W hl => by
    have := hX.k0 hl.kg
    exact this
  have e := q_li_at i0 i1 hd
  refine up_ind (fun W hl => ?_) (fun c c0 c1 ih W hl => ?_)
  · have t1 := tx W hl
    exact l_Cl_lists_6 _ _ _ _ _ _ _ _ _ _ ⟨s, rfl, t1.1, v_Sg_length t1 ⟨fun _ => ⟨inR_s (by omega) (by omega), inR_s (by omega) (by omega), hK W hl⟩, fun h => absurd (by omega) h⟩⟩
  · have t1 := tx W hl
    refine l_Cl_lists_6 _ _ _ _ _ _ _ _ _ _ ⟨s, rfl, t1.1, v_Sg_length t1 ⟨fun h => by omega, fun _ => c_line hl.2.2.1 hl.2.2.2 hA (fun σ1 k1 f1 _ => ?_)⟩⟩
    have l1 := hl.cls k1 f1
    have t2 := tx _ l1
    have eq : q_line A (cI (kdp A 2) i) c = if c < (lnW A (A 0 2) i).1 then (lnW A (A 0 2) i).2 c else -1 := by
      unfold q_line
      rw [e, if_neg (by omega), if_neg (by omega)]
    refine v_Sg_length t2 ⟨fun hle => ⟨fun _ => ⟨inR_s (by omega) (by omega), ih _ l1⟩, fun hne => ?_⟩, fun hgt => v_Sg_charAt t2 c0 (by omega) ⟨fun _ => ⟨inR_s (by omega) (by omega), ih _ l1⟩, fun hne => ?_⟩⟩
    · exfalso; apply hne; rw [eq, if_neg (by omega)]
    · exfalso; apply hne; rw [eq, if_pos (by omega)]
end LI
