-- the lists: each line built and compared
def lP1 (A : St) (i : Int) : Txt := nmb T00 (A 1 i)
def lP2 (A : St) (i : Int) : Txt := nmb (sgn (lP1 A i) 47) (A 2 i)
def lP3 (A : St) (i : Int) : Txt := nmb (sgn (lP2 A i) 32) (A 3 i)
theorem lnU_eq {A : St} {R i : Int} : lnU A R i = if ce A (A 0 1) i then sgn (lP3 A i) 33 else nmb (sgn (lP3 A i) 120) (th A R i) := rfl
theorem sgn_len {T : Txt} {c : Int} : (sgn T c).1 = T.1 + 1 := rfl
theorem T00_len : T00.1 = 0 := rfl
section LJ
variable {G : Gq} {w0 w1 w w' u : Wd} {A A' : St} {B : Bks} {S : List Nat} {a r n mc ms q x h row N y p it rc0 rs0 b v cap c0 s0 : Nat} {m k i j R sg t e d : Int} {f g g0 : Int → Nat} {σ : St} {T U T' : Txt}
theorem lP_len : (lP1 A i).1 ≤ 6 ∧ 1 ≤ (lP1 A i).1 ∧ (lP2 A i).1 ≤ 13 ∧ 1 ≤ (lP2 A i).1 ∧ (lP3 A i).1 ≤ 20 ∧ 1 ≤ (lP3 A i).1 := by
  have h1 : (lP1 A i).1 = T00.1 + dgs (A 1 i) := nmb_len2 _ _
  have h2 : (lP2 A i).1 = (sgn (lP1 A i) 47).1 + dgs (A 2 i) := nmb_len2 _ _
  have h3 : (lP3 A i).1 = (sgn (lP2 A i) 32).1 + dgs (A 3 i) := nmb_len2 _ _
  rw [T00_len] at h1
  rw [sgn_len] at h2 h3
  have d1 := dgs_in (A 1 i)
  have d2 := dgs_in (A 2 i)
  have d3 := dgs_in (A 3 i)
  omega
theorem lnU_len : (lnU A R i).1 ≤ 27 ∧ 1 ≤ (lnU A R i).1 := by
  have h := lP_len (A := A) (i := i)
  rw [lnU_eq]
  split
  · rw [sgn_len]; omega
  · rw [nmb_len2, sgn_len]
    have d3 := dgs_in (th A R i)
    omega
theorem lnW_len : (lnW A R i).1 ≤ 35 ∧ 1 ≤ (lnW A R i).1 := by
  have h := lnU_len (A := A) (R := R) (i := i)
  unfold lnW
  split
  · omega
  · rw [nmb_len2, sgn_len, sgn_len]
    have d3 := dgs_in (A 4 i)
    omega
theorem lP_asc (hA : OKA A) (i0 : 0 ≤ i) (i1 : i < A 0 0) (hp : 0 < A 3 i) : asc (lP1 A i) ∧ asc (lP2 A i) ∧ asc (lP3 A i) := by
  have hi := hA.1.2.2 i i0 i1
  have h1 : asc (lP1 A i) := asc_nmb asc_0 (by omega)
  have h2 : asc (lP2 A i) := asc_nmb (asc_sgn h1 (by omega) (by omega)) (by omega)
  exact ⟨h1, h2, asc_nmb (asc_sgn h2 (by omega) (by omega)) (by omega)⟩
theorem lnU_asc (hA : OKA A) (i0 : 0 ≤ i) (i1 : i < A 0 0) (hp : 0 < A 3 i) (hR0 : 0 ≤ R) (hR1 : R ≤ A 0 2) : asc (lnU A R i) := by
  have h := (lP_asc hA i0 i1 hp).2.2
  have ht := th_in hA (i := i) hR0 hR1
  rw [lnU_eq]
  split
  · exact asc_sgn h (by omega) (by omega)
  · exact asc_nmb (asc_sgn h (by omega) (by omega)) (by omega)
theorem lnW_asc (hA : OKA A) (i0 : 0 ≤ i) (i1 : i < A 0 0) (hp : 0 < A 3 i) (hR0 : 0 ≤ R) (hR1 : R ≤ A 0 2) : asc (lnW A R i) := by
  have h := lnU_asc hA i0 i1 hp hR0 hR1
  have hi := hA.1.2.2 i i0 i1
  unfold lnW
  split
  · exact h
  · exact asc_nmb (asc_sgn (asc_sgn h (by omega) (by omega)) (by omega) (by omega)) (by omega)
theorem BB.k0 {M : Nat} (hb : BB G w1 w b v cap M T) (hk : Kp [] w w') : BB G w1 w' b v cap M T := ⟨hb.1.tr hk, hb.2.1.k0 hk, hb.2.2⟩
theorem BB.cl {M : Nat} (hb : BB G w1 w b v cap M T) (hl : CL G w0 w1 A) (hx : XOK G w1) (hx' : XOK G w) : CL G w0 w A := hl.law (Kg.of hb.1 hx hx')
/-- from 240 on: the last piece, the text told, its place -/
theorem y_li240 {K : Int → Wd → Prop} {s vs ns : Nat} {x4 x5 x7 : Int} (hA : OKA A) (hl : CL G w0 w1 A) (hx1 : XOK G w1) (i0 : 0 ≤ i) (i1 : i < A 0 0) (hd : kdp A 2 i = true) (hB : BB G w1 w b v cap 80 T) (hS : TTx G w s vs ns U) (hC : CatQ T U (lnW A (A 0 2) i)) (hc : c0 + 2 + (80 - cap) ≤ rc0) (hs : s0 + 50 + 2 * (80 - cap) ≤ rs0)
    (hK : ∀ W s vs ns rc1 rs1, CL G w0 W A → XOK G W → TTx G W s vs ns (lnW A (A 0 2) i) → c0 ≤ rc1 → s0 ≤ rs1 → WD G M_Cl_lists 264 [(0, vR 0), (1, vA x), (2, vA h), (3, vA q), (4, vI x4), (5, vI x5), (6, vI (cI (kdp A 2) i)), (7, vL x7), (9, vI i), (11, vP (some s)), (12, vI 0)] [] W rc1 rs1 (yI K)) :
    WD G M_Cl_lists 240 [(0, vR 0), (1, vA x), (2, vA h), (3, vA q), (4, vI x4), (5, vI x5), (6, vI (cI (kdp A 2) i)), (7, vL x7), (9, vI i)] [vP (some s), vP (some b)] w rc0 rs0 (yI K) := by
  have hp : 0 < A 3 i := lk_pos (R := A 0 2) (by rw [kdp_2] at hd; exact hd) hA.2.2.1.1
  have hlen := lnW_len (A := A) (R := A 0 2) (i := i)
  refine l_Cl_lists_5 _ _ _ _ _ _ _ _ _ _ ⟨b, rfl, s, rfl, w_is hB.2.1.1.is (bb_s (c0 := c0 + 2) (s0 := s0 + 50) hB hS hC (lnW_asc hA i0 i1 hp hA.2.2.1.1 (Int.le_refl _)) (by omega) hc hs (fun w2 v2 cap2 c s2 hx2 B2 _ _ hc2 hs2 => ⟨b, rfl, 2, 4 + (lnW A (A 0 2) i).1.toNat, by omega, by omega, B2.2.1.1.is, ?_⟩))⟩
  refine DP.gx (v_toString B2.2.1 (Nat.le_refl _) (Nat.le_refl _) (fun y vy w3 _ hk3 hX _ hx3 _ => ?_))
  have l3 := (B2.k0 hk3).cl hl hx1 hx3
  exact c_drawn l3.2.2.1 l3.2.2.2 hA (fun σ1 c1 f1 _ => ⟨fun _ => WD.wf (fun _ hx4 _ => hK _ y vy _ _ _ (l3.cls c1 f1) hx4 hX (by omega) (by omega)), fun hne => absurd (q_li_at i0 i1 hd) hne⟩)
/-- from 199 on: whether it's certain or how often; what it was worth -/
theorem y_li199 {K : Int → Wd → Prop} {s vs ns : Nat} {x4 x5 x7 : Int} (hBk : BK G w0 A B) (hA : OKA A) (hl : CL G w0 w1 A) (hx1 : XOK G w1) (i0 : 0 ≤ i) (i1 : i < A 0 0) (hd : kdp A 2 i = true) (hB : BB G w1 w b v cap 80 T) (hS : TTx G w s vs ns U) (hC : CatQ T U (lnU A (A 0 2) i)) (hc : c0 + 72 + (80 - cap) ≤ rc0) (hs : s0 + 250 + 2 * (80 - cap) ≤ rs0)
    (hK : ∀ W s vs ns rc1 rs1, CL G w0 W A → XOK G W → TTx G W s vs ns (lnW A (A 0 2) i) → c0 ≤ rc1 → s0 ≤ rs1 → WD G M_Cl_lists 264 [(0, vR 0), (1, vA x), (2, vA h), (3, vA q), (4, vI x4), (5, vI x5), (6, vI (cI (kdp A 2) i)), (7, vL x7), (9, vI i), (11, vP (some s)), (12, vI 0)] [] W rc1 rs1 (yI K)) :
    WD G M_Cl_lists 199 [(0, vR 0), (1, vA x), (2, vA h), (3, vA q), (4, vI x4), (5, vI x5), (6, vI (cI (kdp A 2) i)), (7, vL x7), (9, vI i), (10, vA (bF B i))] [vP (some s), vP (some b)] w rc0 rs0 (yI K) := by
  have hp : 0 < A 3 i := lk_pos (R := A 0 2) (by rw [kdp_2] at hd; exact hd) hA.2.2.1.1
  have hlen := lnU_len (A := A) (R := A 0 2) (i := i)
  have hi := hA.1.2.2 i i0 i1
  refine l_Cl_lists_4 _ _ _ _ _ _ _ _ _ _ _ ⟨b, rfl, s, rfl, w_is hB.2.1.1.is (bb_s (c0 := c0 + 72) (s0 := s0 + 250) hB hS hC (lnU_asc hA i0 i1 hp hA.2.2.1.1 (Int.le_refl _)) (by omega) hc hs (fun w2 v2 cap2 c s2 hx2 B2 _ _ hc2 hs2 => ?_))⟩
  have l2 := B2.cl hl hx1 hx2
  have im2 := (l2.bk hBk).2.2.2.2.1 i i0 i1
  refine ⟨im2.1.is, fun ha => ⟨by omega, by omega, fun z hz => ⟨1, 16, by omega, by omega, bb_n (M := 80) (by omega) (by omega) hz hx2 (Nat.le_refl _) (Nat.le_refl _) (fun w3 v3 hx3 B3 => ?_)⟩⟩, fun ha => ?_⟩
  · rw [im2.2.2.2.2] at ha
    have hlen2 : ∀ T, (nmb (sgs T [32, 61]) (A 4 i)).1 = T.1 + 2 + dgs (A 4 i) := fun T => by rw [nmb_len2, sgs_1]; rfl
    have dd := dgs_in (A 4 i)
    have hl3 := hlen2 T00
    rw [T00_len] at hl3
    have e2 : (sgs T00 [32, 61]).1 = 2 := by rw [sgs_1]; rfl
    refine bb_s (c0 := c0 + 4 + (80 - cap2)) (s0 := s0 + 100 + 2 * (80 - cap2)) B3 (lit_x hx3 [32, 61] (by decide) (by decide)) (cat_lit [32, 61]) (asc_sgs _ _ asc_0 (by decide)) (by rw [e2]; omega) (by omega) (by omega) (fun w4 v4 cap4 c4 s4 hx4 B4 _ _ hc4 hs4 => ⟨z, rfl, ?_⟩)
    have l4 := B4.cl l2 hx2 hx4
    have im4 := (l4.bk hBk).2.2.2.2.1 i i0 i1
    rw [im4.2.2.2.2]
    refine w_is B4.2.1.1.is (bb_i (c0 := c0 + 4 + (80 - cap2)) (s0 := s0 + 100 + 2 * (80 - cap2)) B4 ha (by omega) (by rw [hl3]; omega) hc4 hs4 (fun w5 v5 cap5 c5 s5 hx5 B5 _ _ hc5 hs5 => ⟨z, rfl, 2, 4 + (nmb (sgs T00 [32, 61]) (A 4 i)).1.toNat, by omega, by omega, B5.2.1.1.is, ?_⟩))
    refine DP.gx (v_toString B5.2.1 (Nat.le_refl _) (Nat.le_refl _) (fun y vy w6 _ hk6 hX _ hx6 _ => ?_))
    refine y_li240 (c0 := c0) (s0 := s0) hA hl hx1 i0 i1 hd (B2.k0 (B5.1.tr hk6)) hX ?_ (by omega) (by omega) hK
    have e : lnW A (A 0 2) i = nmb (sgn (sgn (lnU A (A 0 2) i) 32) 61) (A 4 i) := by unfold lnW; rw [if_neg (by omega)]
    rw [e]
    exact cat_nmb (cat_sgn (cat_sgn cat_nil (Int.le_refl _)) (by decide)) (by decide)
  · rw [im2.2.2.2.2] at ha
    refine y_li240 (c0 := c0) (s0 := s0) hA hl hx1 i0 i1 hd B2 (lit_x hx2 [] (by decide) (by decide)) ?_ (by omega) (by omega) hK
    have e : lnW A (A 0 2) i = lnU A (A 0 2) i := by unfold lnW; rw [if_pos (by omega)]
    rw [e]
    exact cat_lit []
/-- an item that is looked at -/
theorem y_li96 {K : Int → Wd → Prop} {x4 x5 x7 : Int} (hBk : BK G w0 A B) (hA : OKA A) (hL : HL G w0 A h r n m (A 0 2) g) (hl : CL G w0 w A) (hx : XOK G w) (hq : Ow w q (kA 2 N)) (hN : (N : Int) = A 0 0) (hqv : wI w q i = 1) (i0 : 0 ≤ i) (i1 : i < A 0 0) (hd : kdp A 2 i = true) (h7 : 0 ≤ x7 ∧ x7 ≤ 100000000) (hc : c0 + 220 ≤ rc0) (hs : s0 + 650 ≤ rs0)
    (hK : ∀ W s vs ns rc1 rs1, CL G w0 W A → XOK G W → TTx G W s vs ns (lnW A (A 0 2) i) → c0 ≤ rc1 → s0 ≤ rs1 → WD G M_Cl_lists 264 [(0, vR 0), (1, vA (bD B)), (2, vA h), (3, vA q), (4, vI x4), (5, vI x5), (6, vI (cI (kdp A 2) i)), (7, vL (x7 + co A i)), (9, vI i), (11, vP (some s)), (12, vI 0)] [] W rc1 rs1 (yI K)) :
    WD G M_Cl_lists 96 [(0, vR 0), (1, vA (bD B)), (2, vA h), (3, vA q), (4, vI x4), (5, vI x5), (6, vI (cI (kdp A 2) i)), (7, vL x7), (9, vI i), (10, vA (bF B i))] [] w rc0 rs0 (yI K) := by
  have hp : 0 < A 3 i := lk_pos (R := A 0 2) (by rw [kdp_2] at hd; exact hd) hA.2.2.1.1
  have hi := hA.1.2.2 i i0 i1
  have hco := co_in hA.1 i0 i1
  have hln := lP_len (A := A) (i := i)
  have has := lP_asc hA i0 i1 hp
  have him := (hl.bk hBk).2.2.2.2.1 i i0 i1
  have h02 := hA.2.2.1
  have hhb := hb_in hA h02.1 (Int.le_refl _)
  have hth := th_in hA (i := i) h02.1 (Int.le_refl _)
  refine l_Cl_lists_3 _ _ _ _ _ _ _ _ _ ⟨N, hq.is, i0, by omega, fun _ => ⟨him.1.is, v_It_coins him ⟨by unfold inL; omega, by omega, by omega, fun b hb => ⟨1, 16, by omega, by omega, bb_n (M := 80) (by omega) (by omega) hb hx (Nat.le_refl _) (Nat.le_refl _) (fun w3 v3 hx3 B3 => ?_)⟩⟩⟩, fun hz => absurd (hqv.symm.trans hz) (by decide)⟩
  rw [(((B3.cl hl hx hx3).bk hBk).2.2.2.2.1 i i0 i1).2.1]
  refine bb_i (c0 := c0 + 150) (s0 := s0 + 480) B3 (by omega) (by omega) (by show 2 * (lP1 A i).1 ≤ _; omega) (by omega) (by omega) (fun w4 v4 cap4 c4 s4 hx4 B4 _ _ hc4 hs4 => ⟨b, rfl, ?_⟩)
  have hB4 : BB G w w4 b v4 cap4 80 (lP1 A i) := B4
  refine w_is hB4.2.1.1.is (bb_s (T' := sgn (lP1 A i) 47) (c0 := c0 + 150) (s0 := s0 + 480) hB4 (lit_x hx4 [47] (by decide) (by decide)) (cat_lit [47]) (asc_sgn has.1 (by omega) (by omega)) (by rw [sgn_len]; omega) hc4 hs4 (fun w5 v5 cap5 c5 s5 hx5 B5 _ _ hc5 hs5 => ⟨b, rfl, ?_⟩))
  rw [(((B5.cl hl hx hx5).bk hBk).2.2.2.2.1 i i0 i1).2.2.1]
  refine w_is B5.2.1.1.is (bb_i (c0 := c0 + 150) (s0 := s0 + 480) B5 (by omega) (by omega) (by show 2 * (lP2 A i).1 ≤ _; omega) hc5 hs5 (fun w6 v6 cap6 c6 s6 hx6 B6 _ _ hc6 hs6 => ⟨b, rfl, ?_⟩))
  have hB6 : BB G w w6 b v6 cap6 80 (lP2 A i) := B6
  refine w_is hB6.2.1.1.is (bb_s (T' := sgn (lP2 A i) 32) (c0 := c0 + 150) (s0 := s0 + 480) hB6 (lit_x hx6 [32] (by decide) (by decide)) (cat_lit [32]) (asc_sgn has.2.1 (by omega) (by omega)) (by rw [sgn_len]; omega) hc6 hs6 (fun w7 v7 cap7 c7 s7 hx7 B7 _ _ hc7 hs7 => ⟨b, rfl, ?_⟩))
  rw [(((B7.cl hl hx hx7).bk hBk).2.2.2.2.1 i i0 i1).2.2.2.1]
  refine w_is B7.2.1.1.is (bb_i (c0 := c0 + 150) (s0 := s0 + 480) B7 (by omega) (by omega) (by show 2 * (lP3 A i).1 ≤ _; omega) hc7 hs7 (fun w8 v8 cap8 c8 s8 hx8 B8 _ _ hc8 hs8 => ?_))
  have hB8 : BB G w w8 b v8 cap8 80 (lP3 A i) := B8
  have l8 := hB8.cl hl hx hx8
  have bk8 := l8.bk hBk
  have im8 := bk8.2.2.2.2.1 i i0 i1
  refine ⟨bk8.1.1.is, v_Bo_certain bk8.1 im8 ⟨fun hz => ⟨by omega, by omega, fun z hz2 => ⟨1, 16, by omega, by omega, bb_n (M := 80) (by omega) (by omega) hz2 hx8 (Nat.le_refl _) (Nat.le_refl _) (fun w9 v9 hx9 B9 => ?_)⟩⟩, fun hz => ?_⟩⟩
  · have hce : ce A (A 0 1) i = false := by
      cases hc2 : ce A (A 0 1) i with
      | false => rfl
      | true => rw [hc2] at hz; exact absurd hz (by decide)
    have e2 : (sgs T00 [120]).1 = 1 := by rw [sgs_1]; rfl
    have dd := dgs_in (th A (A 0 2) i)
    have hl3 : (nmb (sgs T00 [120]) (th A (A 0 2) i)).1 = 1 + dgs (th A (A 0 2) i) := by rw [nmb_len2, e2]
    refine bb_s (T' := sgs T00 [120]) (c0 := c0 + 76 + (80 - cap8)) (s0 := s0 + 290 + 2 * (80 - cap8)) B9 (lit_x hx9 [120] (by decide) (by decide)) (cat_lit [120]) (asc_sgs _ _ asc_0 (by decide)) (by rw [e2]; omega) (by omega) (by omega) (fun w10 v10 cap10 c10 s10 hx10 B10 _ _ hc10 hs10 => ⟨1, 4, by omega, by omega, ?_⟩)
    have l10 := B10.cl l8 hx8 hx10
    refine DI.gx (y_oftenOf (l10.hl hL) hA hhb.1 (by have := h02.2.1; omega) (Nat.le_refl _) (Nat.le_refl _) (fun w11 hg11 _ hx11 _ => ⟨z, rfl, ?_⟩))
    rw [oft_th hA i0 i1 _ h02.1 (Int.le_refl _)]
    have B11 := B10.k0 hg11.1
    refine w_is B11.2.1.1.is (bb_i (c0 := c0 + 75 + (80 - cap8)) (s0 := s0 + 286 + 2 * (80 - cap8)) B11 hth.1 (by omega) (by rw [hl3]; omega) (by omega) (by omega) (fun w12 v12 cap12 c12 s12 hx12 B12 _ _ hc12 hs12 => ⟨z, rfl, 2, 4 + (nmb (sgs T00 [120]) (th A (A 0 2) i)).1.toNat, by omega, by omega, B12.2.1.1.is, ?_⟩))
    refine DP.gx (v_toString B12.2.1 (Nat.le_refl _) (Nat.le_refl _) (fun y vy w13 _ hk13 hX _ hx13 _ => ?_))
    refine y_li199 (c0 := c0) (s0 := s0) hBk hA hl hx i0 i1 hd (hB8.k0 (B12.1.tr hk13)) hX ?_ (by omega) (by omega) hK
    rw [lnU_eq, hce]
    exact cat_nmb (cat_sgn cat_nil (Int.le_refl _)) (by decide)
  · have hce : ce A (A 0 1) i = true := by
      cases hc2 : ce A (A 0 1) i with
      | true => rfl
      | false => rw [hc2] at hz; exact absurd rfl hz
    refine y_li199 (c0 := c0) (s0 := s0) hBk hA hl hx i0 i1 hd hB8 (lit_x hx8 [33] (by decide) (by decide)) ?_ (by omega) (by omega) hK
    rw [lnU_eq, hce]
    exact cat_lit [33]
theorem y_lists {K : Int → Wd → Prop} (hB : BK G w A B) (hA : OKA A) (hL : HL G w A h r n m (A 0 2) g) (hCR : CR A (wS w)) (hF : FC (wS w)) (hc : 11000 ≤ mc) (hs : 32000 ≤ ms) (hK : ∀ w', CL G w w' A → K 1 w') : DI G M_Cl_lists [vR 0, vA (bD B), vA h] w mc ms K := by
  refine DC.wf fun hσ hx => ?_
  have hA48 := hA.1.2.1
  have hA0 := hA.1.1
  have h02 := hA.2.2.1
  refine e_Cl_lists (bD B) h ⟨2, 52, by omega, by omega, hB.1.1.is, DP.gx (y_drawn hB hA hL h02.1 (Int.le_refl _) (Nat.le_refl _) (Nat.le_refl _) (fun q w2 N hg2 hqn hqO hN hqv _ hx2 _ => ?_))⟩
  have lw2 : CL G w w2 A := (CL.rf hCR hF).law hg2
  have bk2 := lw2.bk hB
  have L2 := lw2.hl hL
  have key : ∀ i : Int, 0 ≤ i → i ≤ A 0 0 → ∀ (W : Wd) (rc1 rs1 : Nat), CL G w2 W A → 2 + 220 * (48 - i.toNat) ≤ rc1 → 8 + 650 * (48 - i.toNat) ≤ rs1 → WD G M_Cl_lists 21 [(0, vR 0), (1, vA (bD B)), (2, vA h), (3, vP (some q)), (4, vI (cI (kdp A 0) i)), (5, vI (cI (kdp A 1) i)), (6, vI (cI (kdp A 2) i)), (7, vL (sI (lkc A) i)), (9, vI i)] [] W rc1 rs1 (yI K) := by
    refine up_ind (fun W rc1 rs1 hl hc1 hs1 => ?_) (fun i i0 i1 ih W rc1 rs1 hl hc1 hs1 => ?_)
    · have qO := hl.ow hqO
      have bk := hl.bk bk2
      have hlk := lkc_i2 hA.1 hA0 (Int.le_refl _)
      have hal := al_in hA.1
      refine l_Cl_lists_1 _ _ _ _ _ _ _ _ ⟨q, rfl, N, qO.is, inR_s (by omega) (by omega), fun _ => ⟨1, 4, by omega, by omega, bk.1.1.is, v_allCoins bk hA.1 (Nat.le_refl _) (Nat.le_refl _) (fun w3 hg3 => ?_)⟩, fun hh => by omega⟩
      have l3 := hl.law hg3
      have fin : ∀ (W4 : Wd) (z : Int) (rc4 rs4 : Nat), CL G w2 W4 A → z = q_covered A → WD G M_Cl_lists 347 [(0, vR 0), (4, vI (cI (kdp A 0) (A 0 0))), (5, vI (cI (kdp A 1) (A 0 0))), (6, vI (cI (kdp A 2) (A 0 0)))] [vI z] W4 rc4 rs4 (yI K) := fun W4 z rc4 rs4 l4 hz => y_liE hA l4 hz (fun w' hl' => hK w' (lw2.tr hl'))
      refine ⟨fun hne => ⟨by unfold inL; omega, 1, 4, by omega, by omega, v_allCoins (l3.bk bk2) hA.1 (Nat.le_refl _) (Nat.le_refl _) (fun w4 hg4 => ⟨by omega, by omega, ?_, fin w4 _ _ _ (l3.law hg4) ?_⟩)⟩, fun he => fin w3 _ _ _ l3 ?_⟩
      · have h1 : 0 ≤ 1000 * sI (lkc A) (A 0 0) / al A := Int.ediv_nonneg (by omega) (by omega)
        have h2 : 1000 * sI (lkc A) (A 0 0) / al A ≤ 1000 * sI (lkc A) (A 0 0) / 1 := by
          rw [Int.ediv_one]
          have := Int.ediv_le_self (a := 1000 * sI (lkc A) (A 0 0)) (al A) (by omega)
          exact this
        have hs3 : sI (lkc A) (A 0 0) ≤ sI (co A) (A 0 0) := (lkc_in hA hA0 (Int.le_refl _)).2
        have h3 : 1000 * sI (lkc A) (A 0 0) / al A ≤ 1000 := by
          have e : 1000 * sI (lkc A) (A 0 0) ≤ 1000 * al A := by have : al A = sI (co A) (A 0 0) := rfl; omega
          have := Int.ediv_le_ediv (show 0 < al A by omega) e
          rw [Int.mul_ediv_cancel _ (by omega)] at this
          exact this
        exact inR_s (by omega) (by omega)
      · unfold q_covered
        rw [if_neg hne, Int.mul_comm]
      · unfold q_covered
        rw [if_pos he]
    · have qO := hl.ow hqO
      have bk := hl.bk bk2
      have him := bk.2.2.2.2.1 i i0 i1
      have hc0 := cI_in (p := kdp A 0) i0
      have hc1' := cI_in (p := kdp A 1) i0
      have hc2' := cI_in (p := kdp A 2) i0
      have hlk := lkc_i2 hA.1 i0 (by omega : i ≤ A 0 0)
      have hit := hA.1.2.2 i i0 i1
      -- behind what is certain and what is lacking
      have s96 : ∀ W5, CL G w2 W5 A → WD G M_Cl_lists 96 [(0, vR 0), (1, vA (bD B)), (2, vA h), (3, vA q), (4, vI (cI (kdp A 0) (i + 1))), (5, vI (cI (kdp A 1) (i + 1))), (6, vI (cI (kdp A 2) i)), (7, vL (sI (lkc A) i)), (9, vI i), (10, vA (bF B i))] [] W5 rc1 rs1 (yI K) := fun W5 l5 => WD.wf (fun _ hx5 _ => by
        have qO5 := l5.ow hqO
        have qv5 : wI W5 q i = bi (lk A (A 0 2) i) := (l5.I hqO.1).trans (hqv i i0 i1)
        by_cases hd : kdp A 2 i = true
        · have hd' : lk A (A 0 2) i = true := by rw [← kdp_2]; exact hd
          rw [hd'] at qv5
          refine y_li96 (c0 := 2 + 220 * (48 - (i + 1).toNat)) (s0 := 8 + 650 * (48 - (i + 1).toNat)) bk2 hA L2 l5 hx5 qO5 hN qv5 i0 i1 hd (by omega) (by omega) (by omega) (fun W6 s vs ns rc6 rs6 l6 hx6 hX hc6 hs6 => ?_)
          refine y_liL hA i0 i1 hd hX (fun W7 l7 => ?_) hx6 0 (by omega) (by have := lnW_len (A := A) (R := A 0 2) (i := i); omega) W6 (CL.rf l6.2.2.1 l6.2.2.2)
          have nx := ih W7 rc6 rs6 (l6.tr l7) hc6 hs6
          have e7 : sI (lkc A) (i + 1) = sI (lkc A) i + co A i := by rw [sI_s i0]; unfold lkc; rw [hd']; rfl
          rw [cI_t (p := kdp A 2) i0 hd, e7] at nx
          exact nx
        · have hdf : kdp A 2 i = false := by simpa using hd
          have hd' : lk A (A 0 2) i = false := by rw [← kdp_2]; exact hdf
          rw [hd'] at qv5
          refine l_Cl_lists_3 _ _ _ _ _ _ _ _ _ ⟨N, qO5.is, i0, by omega, fun hne => absurd qv5 hne, fun _ => ⟨inR_s (by omega) (by omega), ?_⟩⟩
          have nx := ih W5 rc1 rs1 l5 (by omega) (by omega)
          have e7 : sI (lkc A) (i + 1) = sI (lkc A) i := by rw [sI_s i0]; unfold lkc; rw [hd']; exact Int.add_zero _
          rw [cI_f (p := kdp A 2) i0 hdf, e7] at nx
          exact nx)
      have s65 : ∀ W5, CL G w2 W5 A → WD G M_Cl_lists 65 [(0, vR 0), (1, vA (bD B)), (2, vA h), (3, vA q), (4, vI (cI (kdp A 0) (i + 1))), (5, vI (cI (kdp A 1) i)), (6, vI (cI (kdp A 2) i)), (7, vL (sI (lkc A) i)), (9, vI i), (10, vA (bF B i))] [] W5 rc1 rs1 (yI K) := fun W5 l5 => by
        have qO5 := l5.ow hqO
        have qv5 : wI W5 q i = bi (lk A (A 0 2) i) := (l5.I hqO.1).trans (hqv i i0 i1)
        have im5 := (l5.bk bk2).2.2.2.2.1 i i0 i1
        have no : kdp A 1 i = false → WD G M_Cl_lists 96 [(0, vR 0), (1, vA (bD B)), (2, vA h), (3, vA q), (4, vI (cI (kdp A 0) (i + 1))), (5, vI (cI (kdp A 1) i)), (6, vI (cI (kdp A 2) i)), (7, vL (sI (lkc A) i)), (9, vI i), (10, vA (bF B i))] [] W5 rc1 rs1 (yI K) := fun hf => by
          have := s96 W5 l5
          rw [cI_f (p := kdp A 1) i0 hf] at this
          exact this
        refine l_Cl_lists_2 _ _ _ _ _ _ _ _ _ ⟨N, qO5.is, i0, by omega, fun hz => no ?_, fun hz => ⟨im5.1.is, fun ha => no ?_, fun ha => ⟨inR_s (by omega) (by omega), ?_⟩⟩⟩
        · rw [qv5] at hz
          rw [kdp_1]
          unfold lackp
          cases hlk2 : lk A (A 0 2) i with
          | false => simp
          | true => rw [hlk2] at hz; exact absurd hz (by decide)
        · rw [im5.2.2.2.2] at ha
          rw [kdp_1]
          unfold lackp
          have : ¬ A 4 i = -1 := by omega
          simp [this]
        · rw [im5.2.2.2.2] at ha
          have hk1 : kdp A 1 i = true := by
            rw [kdp_1]
            unfold lackp
            cases hlk2 : lk A (A 0 2) i with
            | false => rw [qv5, hlk2] at hz; exact absurd rfl hz
            | true =>
              have : A 4 i = -1 := by omega
              simp [this]
          refine c_lacking l5.2.2.1 l5.2.2.2 hA (fun σ1 c1 f1 _ => ⟨fun _ => ?_, fun hne => absurd (q_li_at i0 i1 hk1) hne⟩)
          have := s96 _ (l5.cls c1 f1)
          rw [cI_t (p := kdp A 1) i0 hk1] at this
          exact this
      refine l_Cl_lists_1 _ _ _ _ _ _ _ _ ⟨q, rfl, N, qO.is, inR_s (by omega) (by omega), fun hh => by omega, fun _ => ⟨bk.1.1.is, bI B, bk.1.2.1, bk.2.1.1.is, v_Al_get bk.2.1 i0 i1 ⟨bF B i, rfl, him.1.is, v_Bo_certain bk.1 him ⟨fun hz => ?_, fun hz => ⟨inR_s (by omega) (by omega), ?_⟩⟩⟩⟩⟩
      · have hk0 : kdp A 0 i = false := by
          rw [kdp_0]
          cases hc2 : ce A (A 0 1) i with
          | false => rfl
          | true => rw [hc2] at hz; exact absurd hz (by decide)
        have := s65 W hl
        rw [cI_f (p := kdp A 0) i0 hk0] at this
        exact this
      · have hk0 : kdp A 0 i = true := by
          rw [kdp_0]
          cases hc2 : ce A (A 0 1) i with
          | true => rfl
          | false => rw [hc2] at hz; exact absurd rfl hz
        refine c_certain hl.2.2.1 hl.2.2.2 hA (fun σ1 c1 f1 _ => ⟨fun hne => absurd (q_li_at i0 i1 hk0) hne, fun _ => ?_⟩)
        have := s65 _ (hl.cls c1 f1)
        rw [cI_t (p := kdp A 0) i0 hk0] at this
        exact this
  exact key 0 (Int.le_refl _) hA0 w2 _ _ (CL.rf lw2.2.2.1 lw2.2.2.2) (by omega) (by omega)
end LJ
