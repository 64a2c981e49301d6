-- a ledger drawn as a text: the lines
section DX
variable {G : Gq} {w0 w W W' : Wd} {A T : St} {B : Bks} {S : List Nat} {mc ms q y z ns N d b v cap c0 s0 rc rs x vx n L : Nat} {i j M a vo bo k gr : Int} {σ : St} {fz : Int → Int} {row : Option Nat} {X X' U : Txt}
/-- between the lines -/
def DSt (G : Gq) (w0 W : Wd) (A T : St) (B : Bks) (M : Int) (y z ns : Nat) (fz : Int → Int) (row : Option Nat) (N d b v cap : Nat) (X : Txt) (L : Nat) : Prop :=
  DBk G w0 W A T B (M + T 0 0) y z ns fz row N d ∧ LT T ∧ QB G W b v cap X ∧ PRQ X T L ∧ (0 ≤ X.1 ∧ X.1 ≤ 885)
theorem len_it {s e : List Int} (hs : s.length ≤ 3) (he : e.length ≤ 2) (h : X.1 ≤ 859) (a1 : a ≤ 4) (v1 : vo ≤ 9999) (b1 : bo ≤ 999) : (itx X a vo bo s e).1 ≤ 885 ∧ (sgs X [105, 116, 101, 109]).1 ≤ 880 ∧ (nmb (sgs X [105, 116, 101, 109]) a).1 ≤ 880 ∧ (sgn (nmb (sgs X [105, 116, 101, 109]) a) 32).1 ≤ 880 ∧ (nmb (sgn (nmb (sgs X [105, 116, 101, 109]) a) 32) vo).1 ≤ 880 ∧ (sgs (nmb (sgn (nmb (sgs X [105, 116, 101, 109]) a) 32) vo) s).1 ≤ 880 ∧ (nmb (sgs (nmb (sgn (nmb (sgs X [105, 116, 101, 109]) a) 32) vo) s) bo).1 ≤ 880 ∧ X.1 ≤ (itx X a vo bo s e).1 := by
  have d1 : dgs a ≤ 1 := by unfold dgs; rw [if_pos (by omega)]; omega
  have d2 : dgs vo ≤ 4 := by unfold dgs; (repeat' split) <;> omega
  have d3 : dgs bo ≤ 3 := by unfold dgs; (repeat' split) <;> omega
  unfold itx
  rw [sgs_1, nmb_len2, sgs_1, nmb_len2, sgn_len, nmb_len2, sgs_1]
  have h4 : ([105, 116, 101, 109] : List Int).length = 4 := rfl
  rw [h4]
  refine ⟨by omega, by omega, by omega, by omega, by omega, by omega, by omega, by omega⟩
theorem len_at (h : X.1 ≤ 859) (a1 : a ≤ 4) (v1 : vo ≤ 9999) (b1 : bo ≤ 99999) : (atx X a vo bo).1 ≤ 885 ∧ (sgs X [97, 117, 100, 105, 116, 32]).1 ≤ 880 ∧ (nmb (sgs X [97, 117, 100, 105, 116, 32]) a).1 ≤ 880 ∧ (sgn (nmb (sgs X [97, 117, 100, 105, 116, 32]) a) 32).1 ≤ 880 ∧ (nmb (sgn (nmb (sgs X [97, 117, 100, 105, 116, 32]) a) 32) vo).1 ≤ 880 ∧ (sgs (nmb (sgn (nmb (sgs X [97, 117, 100, 105, 116, 32]) a) 32) vo) [32, 32]).1 ≤ 880 ∧ (nmb (sgs (nmb (sgn (nmb (sgs X [97, 117, 100, 105, 116, 32]) a) 32) vo) [32, 32]) bo).1 ≤ 885 ∧ X.1 ≤ (atx X a vo bo).1 := by
  have d1 : dgs a ≤ 1 := by unfold dgs; rw [if_pos (by omega)]; omega
  have d2 : dgs vo ≤ 4 := by unfold dgs; (repeat' split) <;> omega
  have d3 : dgs bo ≤ 5 := by unfold dgs; (repeat' split) <;> omega
  unfold atx
  rw [sgn_len, nmb_len2, sgs_1, nmb_len2, sgn_len, nmb_len2, sgs_1]
  have h4 : ([97, 117, 100, 105, 116, 32] : List Int).length = 6 := rfl
  have h2 : ([32, 32] : List Int).length = 2 := rfl
  rw [h4, h2]
  refine ⟨by omega, by omega, by omega, by omega, by omega, by omega, by omega, by omega⟩
theorem itx_lo {s e : List Int} (j1 : j < X.1) : (itx X a vo bo s e).2 j = X.2 j := by
  have l1 := sgs_1 [105, 116, 101, 109] X
  have l2 := nmb_len2 a (sgs X [105, 116, 101, 109])
  have l3 : (sgn (nmb (sgs X [105, 116, 101, 109]) a) 32).1 = (nmb (sgs X [105, 116, 101, 109]) a).1 + 1 := rfl
  have l4 := nmb_len2 vo (sgn (nmb (sgs X [105, 116, 101, 109]) a) 32)
  have l5 := sgs_1 s (nmb (sgn (nmb (sgs X [105, 116, 101, 109]) a) 32) vo)
  have l6 := nmb_len2 bo (sgs (nmb (sgn (nmb (sgs X [105, 116, 101, 109]) a) 32) vo) s)
  unfold itx
  rw [sgs_lo _ _ _ (by omega), nmb_at, if_neg (by omega), sgs_lo _ _ _ (by omega), nmb_at, if_neg (by omega)]
  show (if j = (nmb (sgs X [105, 116, 101, 109]) a).1 then 32 else (nmb (sgs X [105, 116, 101, 109]) a).2 j) = _
  rw [if_neg (by omega), nmb_at, if_neg (by omega), sgs_lo _ _ _ j1]
theorem atx_lo (j1 : j < X.1) : (atx X a vo bo).2 j = X.2 j := by
  have l1 := sgs_1 [97, 117, 100, 105, 116, 32] X
  have l2 := nmb_len2 a (sgs X [97, 117, 100, 105, 116, 32])
  have l3 : (sgn (nmb (sgs X [97, 117, 100, 105, 116, 32]) a) 32).1 = (nmb (sgs X [97, 117, 100, 105, 116, 32]) a).1 + 1 := rfl
  have l4 := nmb_len2 vo (sgn (nmb (sgs X [97, 117, 100, 105, 116, 32]) a) 32)
  have l5 := sgs_1 [32, 32] (nmb (sgn (nmb (sgs X [97, 117, 100, 105, 116, 32]) a) 32) vo)
  have l6 := nmb_len2 bo (sgs (nmb (sgn (nmb (sgs X [97, 117, 100, 105, 116, 32]) a) 32) vo) [32, 32])
  unfold atx
  show (if j = (nmb (sgs (nmb (sgn (nmb (sgs X [97, 117, 100, 105, 116, 32]) a) 32) vo) [32, 32]) bo).1 then 59 else (nmb (sgs (nmb (sgn (nmb (sgs X [97, 117, 100, 105, 116, 32]) a) 32) vo) [32, 32]) bo).2 j) = _
  rw [if_neg (by omega), nmb_at, if_neg (by omega), sgs_lo _ _ _ (by omega), nmb_at, if_neg (by omega)]
  show (if j = (nmb (sgs X [97, 117, 100, 105, 116, 32]) a).1 then 32 else (nmb (sgs X [97, 117, 100, 105, 116, 32]) a).2 j) = _
  rw [if_neg (by omega), nmb_at, if_neg (by omega), sgs_lo _ _ _ j1]
/-- an audit's line -/
theorem y_dA {K : Option Nat → Wd → Prop} {aud : Int} (hD : DSt G w0 W A T B M y z ns fz row N d b v cap X L) (hx : XOK G W) (h859 : X.1 ≤ 859) (j0 : 0 ≤ j) (j1 : j < T 0 0) (hb : 1 ≤ T 3 j) (u0 : 0 ≤ aud) (u1 : aud ≤ 2 * T 3 j) (hc : c0 + (1800 - cap) ≤ rc) (hs : s0 + 2 * (1800 - cap) ≤ rs)
    (hK : ∀ W' T' v' cap' X' rc' rs', XOK G W' → DSt G w0 W' A T' B M y z ns fz row N d b v' cap' X' (L + 1) → c0 + (1800 - cap') ≤ rc' → s0 + 2 * (1800 - cap') ≤ rs' → WD G M_Cl_drawn 82 [(0, vA d), (1, vA y), (2, vA b), (3, vI k), (4, vI gr)] [] W' rc' rs' (yP K)) :
    WD G M_Cl_drawn 192 [(0, vA d), (1, vA y), (2, vA b), (3, vI k), (4, vI gr), (5, vA (bF B j))] [vI aud, vA (bF B j)] W rc rs (yP K) := by
  obtain ⟨hK1, hLT, hQ, hP, hX0, hX1⟩ := hD
  have him := hK1.1.1.2.2.2.2.1 j j0 (by rw [txA_0]; exact j1)
  have hit := hLT.1.2.2 j j0 j1
  have hac := hLT.2.1 j j0 j1
  have hsb := hLT.2.2.2 j j0 j1
  have e1 : wI W (bF B j) 0 = T 1 j := him.2.1.trans (txA_i (by decide))
  have e2 : wI W (bF B j) 1 = T 2 j := him.2.2.1.trans (txA_i (by decide))
  have e3 : wI W (bF B j) 2 = T 3 j := him.2.2.2.1.trans (txA_i (by decide))
  have hkp : Kp [bF B j] W (uI W (bF B j) 3 aud) := Kp.rf.uI (Or.inl (List.mem_singleton.mpr rfl))
  have hbn : b ∉ [bF B j] := fun hm => by
    have := hQ.1.1.2
    rw [List.mem_singleton.mp hm, him.1.2] at this
    cases this
  have hvn : v ∉ [bF B j] := fun hm => by
    have := hQ.1.2.2.2.2.1.2
    rw [List.mem_singleton.mp hm, him.1.2] at this
    cases this
  have hdn : d ∉ [bF B j] := fun hm => by
    have h1 := hK1.1.1.1.1.2
    rw [hK1.2.2.2.2.1, List.mem_singleton.mp hm, him.1.2] at h1
    cases h1
  have hl := len_at (X := X) (a := T 1 j) (vo := T 2 j) (bo := aud) h859 hac (by omega) (by omega)
  refine l_Cl_drawn_5 _ _ _ _ _ _ _ _ ⟨him.1, ex_wf (hQ.kp hkp hbn hvn).1.1.is (fun hx1 => w_is (hQ.kp hkp hbn hvn).1.1.is ?_)⟩
  have Q1 := hQ.kp hkp hbn hvn
  have D1 : DBk G w0 (uI W (bF B j) 3 aud) A (ups T 4 j aud) B (M + T 0 0) y z ns fz row N d := by
    refine ⟨?_, hK1.2.1, ⟨(hkp.R (by rw [← hK1.2.2.2.2.1]; exact hK1.1.1.1.1.1) hdn).trans hK1.2.2.1.1, hK1.2.2.1.2.kp hkp⟩, hK1.2.2.2.1, hK1.2.2.2.2⟩
    rw [tx_ups]
    refine hK1.1.it j0 (by rw [txA_0]; exact j1) (Kg.of hkp hx hx1) ⟨him.1.kp hkp, ?_, ?_, ?_, ?_⟩ (fun c i h => ?_)
    · rw [wI_uI_j (by decide), ups_c (by decide)]; exact him.2.1
    · rw [wI_uI_j (by decide), ups_c (by decide)]; exact him.2.2.1
    · rw [wI_uI_j (by decide), ups_c (by decide)]; exact him.2.2.2.1
    · rw [wI_uI_s, ups_s]
    · by_cases hc4 : c = 4
      · rw [hc4, ups_f (fun e => h ⟨Or.inr hc4, e⟩)]
      · rw [ups_c hc4]
  have f1 : wI (uI W (bF B j) 3 aud) (bF B j) 0 = T 1 j := (wI_uI_j (by decide)).trans e1
  have I1 : IM (uI W (bF B j) 3 aud) (ups T 4 j aud) (bF B j) j := ⟨him.1.kp hkp, f1.trans (ups_c (by decide)).symm, ((wI_uI_j (by decide)).trans e2).trans (ups_c (by decide)).symm, ((wI_uI_j (by decide)).trans e3).trans (ups_c (by decide)).symm, wI_uI_s.trans ups_s.symm⟩
  have T1 := hLT.aud u0 u1 (by omega)
  have hP' : PRQ (atx X (T 1 j) (T 2 j) aud) (ups T 4 j aud) (L + 1) := hP.st hX0 hl.2.2.2.2.2.2.2 (fun i _ b => atx_lo b) (fun A n hp => by
    have hpl : plcq T (T 1 j) (T 2 j) = j := plcq_at hLT.2.2.1 j0 j1
    exact atx_ln hX0 hp (by omega) (by omega) (by omega) (by omega) u0 (by omega) hpl (by omega) (by unfold co; rw [if_pos (by omega)]; omega) u1)
  generalize hT' : ups T 4 j aud = T' at D1 I1 T1 hP'
  have t1 : T' 1 j = T 1 j := by rw [← hT', ups_c (by decide)]
  have t2 : T' 2 j = T 2 j := by rw [← hT', ups_c (by decide)]
  have t4 : T' 4 j = aud := by rw [← hT', ups_s]
  have t0 : T' 0 0 = T 0 0 := by rw [← hT', ups_c (by decide)]
  generalize uI W (bF B j) 3 aud = W1 at hx1 Q1 D1 I1 ⊢
  have kb : ∀ {W2 W3 : Wd} {v2 cap2 : Nat} {X2 : Txt}, QB G W2 b v2 cap2 X2 → IM W2 T' (bF B j) j → Kp [b, v2] W2 W3 → IM W3 T' (bF B j) j := fun hQ2 hI2 hk => hI2.kp hk (fun hm => by
    rcases List.mem_cons.mp hm with e | e
    · have := hI2.1.2
      rw [e, hQ2.1.1.2] at this
      cases this
    · have := hI2.1.2
      rw [List.mem_singleton.mp e, hQ2.1.2.2.2.2.1.2] at this
      cases this)
  have a0 := hQ.1.2.2.2.2.2.2.2.2
  have a1 : asc (sgs X [97, 117, 100, 105, 116, 32]) := asc_sgs _ _ a0 (by decide)
  have a2 : asc (nmb (sgs X [97, 117, 100, 105, 116, 32]) (T 1 j)) := asc_nmb a1 (by omega)
  have a3 := asc_sgn (c := 32) a2 (by omega) (by omega)
  have a4 : asc (nmb (sgn (nmb (sgs X [97, 117, 100, 105, 116, 32]) (T 1 j)) 32) (T 2 j)) := asc_nmb a3 (by omega)
  have a5 : asc (sgs (nmb (sgn (nmb (sgs X [97, 117, 100, 105, 116, 32]) (T 1 j)) 32) (T 2 j)) [32, 32]) := asc_sgs _ _ a4 (by decide)
  refine dd_s (c0 := c0) (s0 := s0) (lit_x hx1 [97, 117, 100, 105, 116, 32] (by decide) (by decide)) (cat_lit _) a1 D1 Q1 hx1 (by omega) hc hs (fun W2 v2 cap2 c2 s2 hx2 hk2 D2 Q2 _ _ hc2 hs2 => ?_)
  have I2 := kb Q1 I1 hk2
  refine ⟨I2.1.is, b, rfl, ?_⟩
  rw [I2.2.1, t1]
  refine w_is Q2.1.1.is (dd_i (c0 := c0) (s0 := s0) (by omega) (by omega) D2 Q2 hx2 (by omega) hc2 hs2 (fun W3 v3 cap3 c3 s3 hx3 hk3 D3 Q3 _ _ hc3 hs3 => ⟨b, rfl, ?_⟩))
  have I3 := kb Q2 I2 hk3
  refine w_is Q3.1.1.is (dd_c (c0 := c0) (s0 := s0) (by omega) (by omega) D3 Q3 hx3 (by omega) hc3 hs3 (fun W4 v4 cap4 c4 s4 hx4 hk4 D4 Q4 _ _ hc4 hs4 => ⟨b, rfl, ?_⟩))
  have I4 := kb Q3 I3 hk4
  rw [I4.2.2.1, t2]
  refine w_is Q4.1.1.is (dd_i (c0 := c0) (s0 := s0) (by omega) (by omega) D4 Q4 hx4 (by omega) hc4 hs4 (fun W5 v5 cap5 c5 s5 hx5 hk5 D5 Q5 _ _ hc5 hs5 => ⟨b, rfl, ?_⟩))
  have I5 := kb Q4 I4 hk5
  refine w_is Q5.1.1.is (dd_s (c0 := c0) (s0 := s0) (lit_x hx5 [32, 32] (by decide) (by decide)) (cat_lit _) a5 D5 Q5 hx5 (by omega) hc5 hs5 (fun W6 v6 cap6 c6 s6 hx6 hk6 D6 Q6 _ _ hc6 hs6 => ⟨b, rfl, ?_⟩))
  have I6 := kb Q5 I5 hk6
  rw [I6.2.2.2.2, t4]
  refine w_is Q6.1.1.is (dd_i (c0 := c0) (s0 := s0) u0 (by omega) D6 Q6 hx6 (by omega) hc6 hs6 (fun W7 v7 cap7 c7 s7 hx7 hk7 D7 Q7 _ _ hc7 hs7 => ⟨b, rfl, ?_⟩))
  refine w_is Q7.1.1.is (dd_c (c0 := c0) (s0 := s0) (by omega) (by omega) D7 Q7 hx7 (by rw [sgn_len]; omega) hc7 hs7 (fun W8 v8 cap8 c8 s8 hx8 hk8 D8 Q8 _ _ hc8 hs8 => ?_))
  exact hK W8 T' v8 cap8 (atx X (T 1 j) (T 2 j) aud) _ _ hx8 ⟨by rw [t0]; exact D8, T1, Q8, hP', Int.le_trans hX0 hl.2.2.2.2.2.2.2, hl.1⟩ hc8 hs8
end DX
