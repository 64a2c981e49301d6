-- what each stretch of a method asks (printed by wip/gen/gen_out.py)
set_option maxRecDepth 20000 in
theorem e_Re_read {K : St → Prop} {σ : St} (x1 : Int) (h : CV M_Re_skipBlanks [vR 8] (ups (ups (ups (ups (ups σ 9 4 0) 8 1 0) 8 2 (-1)) 8 4 x1) 8 5 0) (fun σ1 => WM M_Re_read 34 [(0, vR 8), (2, vI 0)] [] σ1 (QV K))) : CV M_Re_read [vR 8, vI x1] σ K := by
  refine Con.of ok_M_Re_read (ls := [(0, vR 8), (1, vI x1)]) rfl (Nat.le_of_ble_eq_true rfl) ?_
  refine r_aload_n d_Re_read_0 rfl (?_ : WM _ 1 _ _ _ _)
  refine r_getR (k := 8) (j := 0) (q := 9) (by decide) rfl clk_5 (by decide) (qm_1 (i := 116) rfl rfl) rfl d_Re_read_1 (?_ : WM _ 4 _ _ _ _)
  refine r_iconst d_Re_read_4 (by decide) (?_ : WM _ 5 _ _ _ _)
  refine r_put (k := 9) (j := 4) 4 (by decide) rfl clk_3 (by decide) (qm_1 (i := 90) rfl rfl) rfl rfl rfl tyX3_ok rfl nmX3 d_Re_read_5 (?_ : WM _ 8 _ _ _ _)
  refine r_aload_n d_Re_read_8 rfl (?_ : WM _ 9 _ _ _ _)
  refine r_iconst d_Re_read_9 (by decide) (?_ : WM _ 10 _ _ _ _)
  refine r_put (k := 8) (j := 1) 1 (by decide) rfl clk_5 (by decide) (qm_1 (i := 118) rfl rfl) rfl rfl rfl tyX5_ok rfl nmX5 d_Re_read_10 (?_ : WM _ 13 _ _ _ _)
  refine r_aload_n d_Re_read_13 rfl (?_ : WM _ 14 _ _ _ _)
  refine r_iconst d_Re_read_14 (by decide) (?_ : WM _ 15 _ _ _ _)
  refine r_put (k := 8) (j := 2) 2 (by decide) rfl clk_5 (by decide) (qm_1 (i := 120) rfl rfl) rfl rfl rfl tyX5_ok rfl nmX5 d_Re_read_15 (?_ : WM _ 18 _ _ _ _)
  refine r_aload_n d_Re_read_18 rfl (?_ : WM _ 19 _ _ _ _)
  refine r_iload_n d_Re_read_19 rfl (?_ : WM _ 20 _ _ _ _)
  refine r_put (k := 8) (j := 4) 4 (by decide) rfl clk_5 (by decide) (qm_1 (i := 123) rfl rfl) rfl rfl rfl tyX5_ok rfl nmX5 d_Re_read_20 (?_ : WM _ 23 _ _ _ _)
  refine r_aload_n d_Re_read_23 rfl (?_ : WM _ 24 _ _ _ _)
  refine r_iconst d_Re_read_24 (by decide) (?_ : WM _ 25 _ _ _ _)
  refine r_put (k := 8) (j := 5) 5 (by decide) rfl clk_5 (by decide) (qm_1 (i := 124) rfl rfl) rfl rfl rfl tyX5_ok rfl nmX5 d_Re_read_25 (?_ : WM _ 28 _ _ _ _)
  refine r_aload_n d_Re_read_28 rfl (?_ : WM _ 29 _ _ _ _)
  refine r_callV (ν := M_Re_skipBlanks) (k := 8) [] ok_M_Re_skipBlanks okv_M_Re_skipBlanks (by decide) rfl rfl rfl (qm_5 (i := 5) rfl rfl) np_M_Re_skipBlanks rfl (by decide) (Nat.le_of_ble_eq_true rfl) rfl d_Re_read_29 (CV.k h (fun σ1 h => (?_ : WM _ 32 _ _ _ _)))
  refine r_iconst d_Re_read_32 (by decide) (?_ : WM _ 33 _ _ _ _)
  refine r_istore_n (ls' := [(2, vI 0), (0, vR 8), (1, vI x1)]) d_Re_read_33 rfl (by decide) rfl (?_ : WM _ 34 _ _ _ _)
  refine r_pick (ls' := [(0, vR 8), (2, vI 0)]) [1, 0] rfl ?_
  exact h
set_option maxRecDepth 20000 in
theorem l_Re_read_1 {K : St → Prop} {σ : St} (x2 : Int) (h : (900 ≤ x2 → K σ) ∧ (¬ 900 ≤ x2 → ((σ 8 4) ≤ (σ 8 5) → K σ) ∧ (¬ (σ 8 4) ≤ (σ 8 5) → (¬ (σ 8 1) = 0 → K σ) ∧ ((σ 8 1) = 0 → CV M_Re_readLine [vR 8] σ (fun σ6 => CV M_Re_skipBlanks [vR 8] σ6 (fun σ8 => (inR (x2 + 1)) ∧ WM M_Re_read 34 [(0, vR 8), (2, vI (x2 + 1))] [] σ8 (QV K))))))) : WM M_Re_read 34 [(0, vR 8), (2, vI x2)] [] σ (QV K) := by
  refine r_iload_n d_Re_read_34 rfl (?_ : WM _ 35 _ _ _ _)
  refine r_sipush d_Re_read_35 (by decide) (by decide) (?_ : WM _ 38 _ _ _ _)
  refine r_icmp_ge 73 d_Re_read_38 rfl ⟨fun c3 => (?_ : WM _ 73 _ _ _ _), fun c3 => (?_ : WM _ 41 _ _ _ _)⟩
  · replace h := h.1 c3
    exact r_return rfl d_Re_read_73 h
  · replace h := h.2 c3
    refine r_aload_n d_Re_read_41 rfl (?_ : WM _ 42 _ _ _ _)
    refine r_getI (k := 8) (j := 5) 5 (by decide) rfl clk_5 (by decide) (qm_1 (i := 124) rfl rfl) rfl rfl d_Re_read_42 (y := (σ 8 5)) rfl (?_ : WM _ 45 _ _ _ _)
    refine r_aload_n d_Re_read_45 rfl (?_ : WM _ 46 _ _ _ _)
    refine r_getI (k := 8) (j := 4) 4 (by decide) rfl clk_5 (by decide) (qm_1 (i := 123) rfl rfl) rfl rfl d_Re_read_46 (y := (σ 8 4)) rfl (?_ : WM _ 49 _ _ _ _)
    refine r_icmp_ge 73 d_Re_read_49 rfl ⟨fun c4 => (?_ : WM _ 73 _ _ _ _), fun c4 => (?_ : WM _ 52 _ _ _ _)⟩
    · replace h := h.1 c4
      exact r_return rfl d_Re_read_73 h
    · replace h := h.2 c4
      refine r_aload_n d_Re_read_52 rfl (?_ : WM _ 53 _ _ _ _)
      refine r_getI (k := 8) (j := 1) 1 (by decide) rfl clk_5 (by decide) (qm_1 (i := 118) rfl rfl) rfl rfl d_Re_read_53 (y := (σ 8 1)) rfl (?_ : WM _ 56 _ _ _ _)
      refine r_if_ne 73 d_Re_read_56 rfl ⟨fun c5 => (?_ : WM _ 73 _ _ _ _), fun c5 => (?_ : WM _ 59 _ _ _ _)⟩
      · replace h := h.1 c5
        exact r_return rfl d_Re_read_73 h
      · replace h := h.2 c5
        refine r_aload_n d_Re_read_59 rfl (?_ : WM _ 60 _ _ _ _)
        refine r_callV (ν := M_Re_readLine) (k := 8) [] ok_M_Re_readLine okv_M_Re_readLine (by decide) rfl rfl rfl (qm_5 (i := 17) rfl rfl) np_M_Re_readLine rfl (by decide) (Nat.le_of_ble_eq_true rfl) rfl d_Re_read_60 (CV.k h (fun σ6 h => (?_ : WM _ 63 _ _ _ _)))
        refine r_aload_n d_Re_read_63 rfl (?_ : WM _ 64 _ _ _ _)
        refine r_callV (ν := M_Re_skipBlanks) (k := 8) [] ok_M_Re_skipBlanks okv_M_Re_skipBlanks (by decide) rfl rfl rfl (qm_5 (i := 5) rfl rfl) np_M_Re_skipBlanks rfl (by decide) (Nat.le_of_ble_eq_true rfl) rfl d_Re_read_64 (CV.k h (fun σ8 h => (?_ : WM _ 67 _ _ _ _)))
        obtain ⟨h10, h⟩ := h
        refine r_iinc (ls' := [(2, vI (x2 + 1)), (0, vR 8)]) d_Re_read_67 rfl h10 (by decide) rfl (?_ : WM _ 70 _ _ _ _)
        refine r_goto 34 d_Re_read_70 rfl ?_
        refine r_pick (ls' := [(0, vR 8), (2, vI (x2 + 1))]) [1, 0] rfl ?_
        exact h
set_option maxRecDepth 20000 in
theorem e_Wa_forgetRuns {K : St → Prop} {σ : St}  (h : K (ups σ 20 1 0)) : CV M_Wa_forgetRuns [vR 20] σ K := by
  refine Con.of ok_M_Wa_forgetRuns (ls := [(0, vR 20)]) rfl (Nat.le_of_ble_eq_true rfl) ?_
  refine r_aload_n d_Wa_forgetRuns_0 rfl (?_ : WM _ 1 _ _ _ _)
  refine r_iconst d_Wa_forgetRuns_1 (by decide) (?_ : WM _ 2 _ _ _ _)
  refine r_put (k := 20) (j := 1) 1 (by decide) rfl clk_9 (by decide) (qm_1 (i := 188) rfl rfl) rfl rfl rfl tyX9_ok rfl nmX9 d_Wa_forgetRuns_2 (?_ : WM _ 5 _ _ _ _)
  exact r_return rfl d_Wa_forgetRuns_5 h
set_option maxRecDepth 20000 in
theorem e_Fa_leastN {K : Int → St → Prop} {σ : St} (x1 : Int) (x2 : Int) (x3 : Int) (x4 : Int) (h : WM M_Fa_leastN 11 [(0, vR 26), (1, vI x1), (2, vI x2), (3, vI x3), (4, vI x4), (5, vI 0), (6, vI 401), (7, vI 0)] [] σ (QI K)) : CI M_Fa_leastN [vR 26, vI x1, vI x2, vI x3, vI x4] σ K := by
  refine Con.of ok_M_Fa_leastN (ls := [(0, vR 26), (1, vI x1), (2, vI x2), (3, vI x3), (4, vI x4)]) rfl (Nat.le_of_ble_eq_true rfl) ?_
  refine r_iconst d_Fa_leastN_0 (by decide) (?_ : WM _ 1 _ _ _ _)
  refine r_istore (ls' := [(5, vI 0), (0, vR 26), (1, vI x1), (2, vI x2), (3, vI x3), (4, vI x4)]) d_Fa_leastN_1 (by decide) rfl (?_ : WM _ 3 _ _ _ _)
  refine r_sipush d_Fa_leastN_3 (by decide) (by decide) (?_ : WM _ 6 _ _ _ _)
  refine r_istore (ls' := [(6, vI 401), (5, vI 0), (0, vR 26), (1, vI x1), (2, vI x2), (3, vI x3), (4, vI x4)]) d_Fa_leastN_6 (by decide) rfl (?_ : WM _ 8 _ _ _ _)
  refine r_iconst d_Fa_leastN_8 (by decide) (?_ : WM _ 9 _ _ _ _)
  refine r_istore (ls' := [(7, vI 0), (6, vI 401), (5, vI 0), (0, vR 26), (1, vI x1), (2, vI x2), (3, vI x3), (4, vI x4)]) d_Fa_leastN_9 (by decide) rfl (?_ : WM _ 11 _ _ _ _)
  refine r_pick (ls' := [(0, vR 26), (1, vI x1), (2, vI x2), (3, vI x3), (4, vI x4), (5, vI 0), (6, vI 401), (7, vI 0)]) [3, 4, 5, 6, 7, 2, 1, 0] rfl ?_
  exact h
set_option maxRecDepth 20000 in
theorem l_Fa_leastN_1 {K : Int → St → Prop} {σ : St} (x1 : Int) (x2 : Int) (x3 : Int) (x4 : Int) (x5 : Int) (x6 : Int) (x7 : Int) (h : (60 ≤ x7 → (x6 ≤ 400 → K x6 σ) ∧ (¬ x6 ≤ 400 → K (-1) σ)) ∧ (¬ 60 ≤ x7 → (inR (x6 - x5)) ∧ ((x6 - x5) ≤ 1 → (x6 ≤ 400 → K x6 σ) ∧ (¬ x6 ≤ 400 → K (-1) σ)) ∧ (¬ (x6 - x5) ≤ 1 → (inR (x5 + x6)) ∧ (0 ≤ (x5 + x6)) ∧ CI M_Fa_halved [vR 26, vI ((x5 + x6) / 2), vI x3, vI x4] σ (fun v9 σ8 => (inL (x1 * v9)) ∧ (0 ≤ (x1 * v9)) ∧ (0 < (lcq ((x1 * v9) / 1000000) x2) → (inR (x7 + 1)) ∧ WM M_Fa_leastN 11 [(0, vR 26), (1, vI x1), (2, vI x2), (3, vI x3), (4, vI x4), (5, vI ((x5 + x6) / 2)), (6, vI x6), (7, vI (x7 + 1))] [] σ8 (QI K)) ∧ (¬ 0 < (lcq ((x1 * v9) / 1000000) x2) → (inR (x7 + 1)) ∧ WM M_Fa_leastN 11 [(0, vR 26), (1, vI x1), (2, vI x2), (3, vI x3), (4, vI x4), (5, vI x5), (6, vI ((x5 + x6) / 2)), (7, vI (x7 + 1))] [] σ8 (QI K)))))) : WM M_Fa_leastN 11 [(0, vR 26), (1, vI x1), (2, vI x2), (3, vI x3), (4, vI x4), (5, vI x5), (6, vI x6), (7, vI x7)] [] σ (QI K) := by
  refine r_iload d_Fa_leastN_11 rfl (?_ : WM _ 13 _ _ _ _)
  refine r_bipush d_Fa_leastN_13 (by decide) (by decide) (?_ : WM _ 15 _ _ _ _)
  refine r_icmp_ge 76 d_Fa_leastN_15 rfl ⟨fun c1 => (?_ : WM _ 76 _ _ _ _), fun c1 => (?_ : WM _ 18 _ _ _ _)⟩
  · replace h := h.1 c1
    refine r_iload d_Fa_leastN_76 rfl (?_ : WM _ 78 _ _ _ _)
    refine r_sipush d_Fa_leastN_78 (by decide) (by decide) (?_ : WM _ 81 _ _ _ _)
    refine r_icmp_le 88 d_Fa_leastN_81 rfl ⟨fun c2 => (?_ : WM _ 88 _ _ _ _), fun c2 => (?_ : WM _ 84 _ _ _ _)⟩
    · replace h := h.1 c2
      refine r_iload d_Fa_leastN_88 rfl (?_ : WM _ 90 _ _ _ _)
      exact r_ireturn rfl d_Fa_leastN_90 h
    · replace h := h.2 c2
      refine r_iconst d_Fa_leastN_84 (by decide) (?_ : WM _ 85 _ _ _ _)
      refine r_goto 90 d_Fa_leastN_85 rfl ?_
      exact r_ireturn rfl d_Fa_leastN_90 h
  · replace h := h.2 c1
    refine r_iload d_Fa_leastN_18 rfl (?_ : WM _ 20 _ _ _ _)
    refine r_iload d_Fa_leastN_20 rfl (?_ : WM _ 22 _ _ _ _)
    obtain ⟨h3, h⟩ := h
    refine r_isub d_Fa_leastN_22 h3 (?_ : WM _ 23 _ _ _ _)
    refine r_iconst d_Fa_leastN_23 (by decide) (?_ : WM _ 24 _ _ _ _)
    refine r_icmp_le 76 d_Fa_leastN_24 rfl ⟨fun c4 => (?_ : WM _ 76 _ _ _ _), fun c4 => (?_ : WM _ 27 _ _ _ _)⟩
    · replace h := h.1 c4
      refine r_iload d_Fa_leastN_76 rfl (?_ : WM _ 78 _ _ _ _)
      refine r_sipush d_Fa_leastN_78 (by decide) (by decide) (?_ : WM _ 81 _ _ _ _)
      refine r_icmp_le 88 d_Fa_leastN_81 rfl ⟨fun c5 => (?_ : WM _ 88 _ _ _ _), fun c5 => (?_ : WM _ 84 _ _ _ _)⟩
      · replace h := h.1 c5
        refine r_iload d_Fa_leastN_88 rfl (?_ : WM _ 90 _ _ _ _)
        exact r_ireturn rfl d_Fa_leastN_90 h
      · replace h := h.2 c5
        refine r_iconst d_Fa_leastN_84 (by decide) (?_ : WM _ 85 _ _ _ _)
        refine r_goto 90 d_Fa_leastN_85 rfl ?_
        exact r_ireturn rfl d_Fa_leastN_90 h
    · replace h := h.2 c4
      refine r_iload d_Fa_leastN_27 rfl (?_ : WM _ 29 _ _ _ _)
      refine r_iload d_Fa_leastN_29 rfl (?_ : WM _ 31 _ _ _ _)
      obtain ⟨h6, h⟩ := h
      refine r_iadd d_Fa_leastN_31 h6 (?_ : WM _ 32 _ _ _ _)
      refine r_iconst d_Fa_leastN_32 (by decide) (?_ : WM _ 33 _ _ _ _)
      obtain ⟨h7, h⟩ := h
      refine r_idivn d_Fa_leastN_33 h7 (by decide) (?_ : WM _ 34 _ _ _ _)
      refine r_istore (ls' := [(8, vI ((x5 + x6) / 2)), (0, vR 26), (1, vI x1), (2, vI x2), (3, vI x3), (4, vI x4), (5, vI x5), (6, vI x6), (7, vI x7)]) d_Fa_leastN_34 (by decide) rfl (?_ : WM _ 36 _ _ _ _)
      refine r_iload_n d_Fa_leastN_36 rfl (?_ : WM _ 37 _ _ _ _)
      refine r_i2l d_Fa_leastN_37 (?_ : WM _ 38 _ _ _ _)
      refine r_aload_n d_Fa_leastN_38 rfl (?_ : WM _ 39 _ _ _ _)
      refine r_iload d_Fa_leastN_39 rfl (?_ : WM _ 41 _ _ _ _)
      refine r_iload_n d_Fa_leastN_41 rfl (?_ : WM _ 42 _ _ _ _)
      refine r_iload d_Fa_leastN_42 rfl (?_ : WM _ 44 _ _ _ _)
      refine r_callV (ν := M_Fa_halved) (k := 26) [vI ((x5 + x6) / 2), vI x3, vI x4] ok_M_Fa_halved okv_M_Fa_halved (by decide) rfl rfl rfl (qm_5 (i := 220) rfl rfl) np_M_Fa_halved rfl (by decide) (Nat.le_of_ble_eq_true rfl) rfl d_Fa_leastN_44 (CI.k h (fun v9 σ8 h => (?_ : WM _ 47 _ _ _ _)))
      refine r_i2l d_Fa_leastN_47 (?_ : WM _ 48 _ _ _ _)
      obtain ⟨h10, h⟩ := h
      refine r_lmul d_Fa_leastN_48 h10 (?_ : WM _ 49 _ _ _ _)
      refine r_ldc2 1000000 d_Fa_leastN_49 (qm_5 (i := 231) rfl rfl) (by decide) (by decide) (?_ : WM _ 52 _ _ _ _)
      obtain ⟨h11, h⟩ := h
      refine r_ldivn d_Fa_leastN_52 h11 (by decide) (?_ : WM _ 53 _ _ _ _)
      refine r_iload_n d_Fa_leastN_53 rfl (?_ : WM _ 54 _ _ _ _)
      refine r_i2l d_Fa_leastN_54 (?_ : WM _ 55 _ _ _ _)
      refine r_lcmp d_Fa_leastN_55 (?_ : WM _ 56 _ _ _ _)
      refine r_if_gt 66 d_Fa_leastN_56 rfl ⟨fun c12 => (?_ : WM _ 66 _ _ _ _), fun c12 => (?_ : WM _ 59 _ _ _ _)⟩
      · replace h := h.1 c12
        refine r_iload d_Fa_leastN_66 rfl (?_ : WM _ 68 _ _ _ _)
        refine r_istore (ls' := [(5, vI ((x5 + x6) / 2)), (8, vI ((x5 + x6) / 2)), (0, vR 26), (1, vI x1), (2, vI x2), (3, vI x3), (4, vI x4), (6, vI x6), (7, vI x7)]) d_Fa_leastN_68 (by decide) rfl (?_ : WM _ 70 _ _ _ _)
        obtain ⟨h13, h⟩ := h
        refine r_iinc (ls' := [(7, vI (x7 + 1)), (5, vI ((x5 + x6) / 2)), (8, vI ((x5 + x6) / 2)), (0, vR 26), (1, vI x1), (2, vI x2), (3, vI x3), (4, vI x4), (6, vI x6)]) d_Fa_leastN_70 rfl h13 (by decide) rfl (?_ : WM _ 73 _ _ _ _)
        refine r_goto 11 d_Fa_leastN_73 rfl ?_
        refine r_pick (ls' := [(0, vR 26), (1, vI x1), (2, vI x2), (3, vI x3), (4, vI x4), (5, vI ((x5 + x6) / 2)), (6, vI x6), (7, vI (x7 + 1))]) [3, 4, 5, 6, 7, 1, 8, 0] rfl ?_
        exact h
      · replace h := h.2 c12
        refine r_iload d_Fa_leastN_59 rfl (?_ : WM _ 61 _ _ _ _)
        refine r_istore (ls' := [(6, vI ((x5 + x6) / 2)), (8, vI ((x5 + x6) / 2)), (0, vR 26), (1, vI x1), (2, vI x2), (3, vI x3), (4, vI x4), (5, vI x5), (7, vI x7)]) d_Fa_leastN_61 (by decide) rfl (?_ : WM _ 63 _ _ _ _)
        refine r_goto 70 d_Fa_leastN_63 rfl ?_
        obtain ⟨h14, h⟩ := h
        refine r_iinc (ls' := [(7, vI (x7 + 1)), (6, vI ((x5 + x6) / 2)), (8, vI ((x5 + x6) / 2)), (0, vR 26), (1, vI x1), (2, vI x2), (3, vI x3), (4, vI x4), (5, vI x5)]) d_Fa_leastN_70 rfl h14 (by decide) rfl (?_ : WM _ 73 _ _ _ _)
        refine r_goto 11 d_Fa_leastN_73 rfl ?_
        refine r_pick (ls' := [(0, vR 26), (1, vI x1), (2, vI x2), (3, vI x3), (4, vI x4), (5, vI x5), (6, vI ((x5 + x6) / 2)), (7, vI (x7 + 1))]) [3, 4, 5, 6, 7, 8, 1, 0] rfl ?_
        exact h
set_option maxRecDepth 20000 in
theorem e_Wa_drawStart {K : Int → St → Prop} {σ : St}  (h : (¬ (σ 16 0) = 0 → WM M_Wa_drawStart 14 [(0, vR 20), (1, vI 0)] [] σ (QI K)) ∧ ((σ 16 0) = 0 → K (-1) σ)) : CI M_Wa_drawStart [vR 20] σ K := by
  refine Con.of ok_M_Wa_drawStart (ls := [(0, vR 20)]) rfl (Nat.le_of_ble_eq_true rfl) ?_
  refine r_aload_n d_Wa_drawStart_0 rfl (?_ : WM _ 1 _ _ _ _)
  refine r_getR (k := 20) (j := 7) (q := 16) (by decide) rfl clk_9 (by decide) (qm_1 (i := 201) rfl rfl) rfl d_Wa_drawStart_1 (?_ : WM _ 4 _ _ _ _)
  refine r_getI (k := 16) (j := 0) 0 (by decide) rfl clk_2 (by decide) (qm_1 (i := 157) rfl rfl) rfl rfl d_Wa_drawStart_4 (y := (σ 16 0)) rfl (?_ : WM _ 7 _ _ _ _)
  refine r_if_ne 12 d_Wa_drawStart_7 rfl ⟨fun c1 => (?_ : WM _ 12 _ _ _ _), fun c1 => (?_ : WM _ 10 _ _ _ _)⟩
  · replace h := h.1 c1
    refine r_iconst d_Wa_drawStart_12 (by decide) (?_ : WM _ 13 _ _ _ _)
    refine r_istore_n (ls' := [(1, vI 0), (0, vR 20)]) d_Wa_drawStart_13 rfl (by decide) rfl (?_ : WM _ 14 _ _ _ _)
    refine r_pick (ls' := [(0, vR 20), (1, vI 0)]) [1, 0] rfl ?_
    exact h
  · replace h := h.2 c1
    refine r_iconst d_Wa_drawStart_10 (by decide) (?_ : WM _ 11 _ _ _ _)
    exact r_ireturn rfl d_Wa_drawStart_11 h
set_option maxRecDepth 20000 in
theorem l_Wa_drawStart_1 {K : Int → St → Prop} {σ : St} (x1 : Int) (h : (50 ≤ x1 → CI M_Wa_lowestFree [vR 20] σ (fun v4 σ3 => K v4 σ3)) ∧ (¬ 50 ≤ x1 → (inL ((σ 20 0) * 1103)) ∧ (inL (((σ 20 0) * 1103) + 12345)) ∧ (0 ≤ (((σ 20 0) * 1103) + 12345)) ∧ (inR ((((σ 20 0) * 1103) + 12345) % 1000003)) ∧ (0 ≤ ((((σ 20 0) * 1103) + 12345) % 1000003)) ∧ (0 < (σ 16 0)) ∧ (inR ((((((σ 20 0) * 1103) + 12345) % 1000003) % (σ 16 0)) + 1)) ∧ CI M_Wa_isStart [vR 20, vI ((((((σ 20 0) * 1103) + 12345) % 1000003) % (σ 16 0)) + 1)] (ups σ 20 0 ((((σ 20 0) * 1103) + 12345) % 1000003)) (fun v13 σ12 => (¬ v13 = 0 → (inR (x1 + 1)) ∧ WM M_Wa_drawStart 14 [(0, vR 20), (1, vI (x1 + 1))] [] σ12 (QI K)) ∧ (v13 = 0 → K ((((((σ 20 0) * 1103) + 12345) % 1000003) % (σ 16 0)) + 1) σ12)))) : WM M_Wa_drawStart 14 [(0, vR 20), (1, vI x1)] [] σ (QI K) := by
  refine r_iload_n d_Wa_drawStart_14 rfl (?_ : WM _ 15 _ _ _ _)
  refine r_bipush d_Wa_drawStart_15 (by decide) (by decide) (?_ : WM _ 17 _ _ _ _)
  refine r_icmp_ge 73 d_Wa_drawStart_17 rfl ⟨fun c2 => (?_ : WM _ 73 _ _ _ _), fun c2 => (?_ : WM _ 20 _ _ _ _)⟩
  · replace h := h.1 c2
    refine r_aload_n d_Wa_drawStart_73 rfl (?_ : WM _ 74 _ _ _ _)
    refine r_callV (ν := M_Wa_lowestFree) (k := 20) [] ok_M_Wa_lowestFree okv_M_Wa_lowestFree (by decide) rfl rfl rfl (qm_6 (i := 84) rfl rfl) np_M_Wa_lowestFree rfl (by decide) (Nat.le_of_ble_eq_true rfl) rfl d_Wa_drawStart_74 (CI.k h (fun v4 σ3 h => (?_ : WM _ 77 _ _ _ _)))
    exact r_ireturn rfl d_Wa_drawStart_77 h
  · replace h := h.2 c2
    refine r_aload_n d_Wa_drawStart_20 rfl (?_ : WM _ 21 _ _ _ _)
    refine r_aload_n d_Wa_drawStart_21 rfl (?_ : WM _ 22 _ _ _ _)
    refine r_getI (k := 20) (j := 0) 0 (by decide) rfl clk_9 (by decide) (qm_1 (i := 187) rfl rfl) rfl rfl d_Wa_drawStart_22 (y := (σ 20 0)) rfl (?_ : WM _ 25 _ _ _ _)
    refine r_i2l d_Wa_drawStart_25 (?_ : WM _ 26 _ _ _ _)
    refine r_ldc2 1103 d_Wa_drawStart_26 (qm_6 (i := 77) rfl rfl) (by decide) (by decide) (?_ : WM _ 29 _ _ _ _)
    obtain ⟨h5, h⟩ := h
    refine r_lmul d_Wa_drawStart_29 h5 (?_ : WM _ 30 _ _ _ _)
    refine r_ldc2 12345 d_Wa_drawStart_30 (qm_6 (i := 78) rfl rfl) (by decide) (by decide) (?_ : WM _ 33 _ _ _ _)
    obtain ⟨h6, h⟩ := h
    refine r_ladd d_Wa_drawStart_33 h6 (?_ : WM _ 34 _ _ _ _)
    refine r_ldc2 1000003 d_Wa_drawStart_34 (qm_6 (i := 79) rfl rfl) (by decide) (by decide) (?_ : WM _ 37 _ _ _ _)
    obtain ⟨h7, h⟩ := h
    refine r_lremn d_Wa_drawStart_37 h7 (by decide) (?_ : WM _ 38 _ _ _ _)
    obtain ⟨h8, h⟩ := h
    refine r_l2i d_Wa_drawStart_38 h8 (?_ : WM _ 39 _ _ _ _)
    refine r_put (k := 20) (j := 0) 0 (by decide) rfl clk_9 (by decide) (qm_1 (i := 187) rfl rfl) rfl rfl rfl tyX9_ok rfl nmX9 d_Wa_drawStart_39 (?_ : WM _ 42 _ _ _ _)
    refine r_aload_n d_Wa_drawStart_42 rfl (?_ : WM _ 43 _ _ _ _)
    refine r_getI (k := 20) (j := 0) 0 (by decide) rfl clk_9 (by decide) (qm_1 (i := 187) rfl rfl) rfl rfl d_Wa_drawStart_43 (y := ((((σ 20 0) * 1103) + 12345) % 1000003)) (ups_s) (?_ : WM _ 46 _ _ _ _)
    refine r_aload_n d_Wa_drawStart_46 rfl (?_ : WM _ 47 _ _ _ _)
    refine r_getR (k := 20) (j := 7) (q := 16) (by decide) rfl clk_9 (by decide) (qm_1 (i := 201) rfl rfl) rfl d_Wa_drawStart_47 (?_ : WM _ 50 _ _ _ _)
    refine r_getI (k := 16) (j := 0) 0 (by decide) rfl clk_2 (by decide) (qm_1 (i := 157) rfl rfl) rfl rfl d_Wa_drawStart_50 (y := (σ 16 0)) (ups_c (by decide)) (?_ : WM _ 53 _ _ _ _)
    obtain ⟨h9, h⟩ := h
    obtain ⟨h10, h⟩ := h
    refine r_iremn d_Wa_drawStart_53 h9 h10 (?_ : WM _ 54 _ _ _ _)
    refine r_iconst d_Wa_drawStart_54 (by decide) (?_ : WM _ 55 _ _ _ _)
    obtain ⟨h11, h⟩ := h
    refine r_iadd d_Wa_drawStart_55 h11 (?_ : WM _ 56 _ _ _ _)
    refine r_istore_n (ls' := [(2, vI ((((((σ 20 0) * 1103) + 12345) % 1000003) % (σ 16 0)) + 1)), (0, vR 20), (1, vI x1)]) d_Wa_drawStart_56 rfl (by decide) rfl (?_ : WM _ 57 _ _ _ _)
    refine r_aload_n d_Wa_drawStart_57 rfl (?_ : WM _ 58 _ _ _ _)
    refine r_iload_n d_Wa_drawStart_58 rfl (?_ : WM _ 59 _ _ _ _)
    refine r_callV (ν := M_Wa_isStart) (k := 20) [vI ((((((σ 20 0) * 1103) + 12345) % 1000003) % (σ 16 0)) + 1)] ok_M_Wa_isStart okv_M_Wa_isStart (by decide) rfl rfl rfl (qm_6 (i := 80) rfl rfl) np_M_Wa_isStart rfl (by decide) (Nat.le_of_ble_eq_true rfl) rfl d_Wa_drawStart_59 (CI.k h (fun v13 σ12 h => (?_ : WM _ 62 _ _ _ _)))
    refine r_if_ne 67 d_Wa_drawStart_62 rfl ⟨fun c14 => (?_ : WM _ 67 _ _ _ _), fun c14 => (?_ : WM _ 65 _ _ _ _)⟩
    · replace h := h.1 c14
      obtain ⟨h15, h⟩ := h
      refine r_iinc (ls' := [(1, vI (x1 + 1)), (2, vI ((((((σ 20 0) * 1103) + 12345) % 1000003) % (σ 16 0)) + 1)), (0, vR 20)]) d_Wa_drawStart_67 rfl h15 (by decide) rfl (?_ : WM _ 70 _ _ _ _)
      refine r_goto 14 d_Wa_drawStart_70 rfl ?_
      refine r_pick (ls' := [(0, vR 20), (1, vI (x1 + 1))]) [2, 0] rfl ?_
      exact h
    · replace h := h.2 c14
      refine r_iload_n d_Wa_drawStart_65 rfl (?_ : WM _ 66 _ _ _ _)
      exact r_ireturn rfl d_Wa_drawStart_66 h
set_option maxRecDepth 20000 in
theorem e_Wa_follow {K : St → Prop} {σ : St} (x1 : Int) (h : ((σ 20 1) < 5 → CI M_Wa_hitsOf [vR 20, vI (σ 20 1)] σ (fun v3 σ2 => CI M_La_hitsFrom [vR 16, vI x1] σ2 (fun v5 σ4 => WM M_Wa_follow 30 [(0, vR 20), (1, vI x1), (2, vI v3), (3, vI v5), (4, vI 0)] [] σ4 (QV K)))) ∧ (¬ (σ 20 1) < 5 → K σ)) : CV M_Wa_follow [vR 20, vI x1] σ K := by
  refine Con.of ok_M_Wa_follow (ls := [(0, vR 20), (1, vI x1)]) rfl (Nat.le_of_ble_eq_true rfl) ?_
  refine r_aload_n d_Wa_follow_0 rfl (?_ : WM _ 1 _ _ _ _)
  refine r_getI (k := 20) (j := 1) 1 (by decide) rfl clk_9 (by decide) (qm_1 (i := 188) rfl rfl) rfl rfl d_Wa_follow_1 (y := (σ 20 1)) rfl (?_ : WM _ 4 _ _ _ _)
  refine r_iconst d_Wa_follow_4 (by decide) (?_ : WM _ 5 _ _ _ _)
  refine r_icmp_lt 9 d_Wa_follow_5 rfl ⟨fun c1 => (?_ : WM _ 9 _ _ _ _), fun c1 => (?_ : WM _ 8 _ _ _ _)⟩
  · replace h := h.1 c1
    refine r_aload_n d_Wa_follow_9 rfl (?_ : WM _ 10 _ _ _ _)
    refine r_aload_n d_Wa_follow_10 rfl (?_ : WM _ 11 _ _ _ _)
    refine r_getI (k := 20) (j := 1) 1 (by decide) rfl clk_9 (by decide) (qm_1 (i := 188) rfl rfl) rfl rfl d_Wa_follow_11 (y := (σ 20 1)) rfl (?_ : WM _ 14 _ _ _ _)
    refine r_callV (ν := M_Wa_hitsOf) (k := 20) [vI (σ 20 1)] ok_M_Wa_hitsOf okv_M_Wa_hitsOf (by decide) rfl rfl rfl (qm_6 (i := 92) rfl rfl) np_M_Wa_hitsOf rfl (by decide) (Nat.le_of_ble_eq_true rfl) rfl d_Wa_follow_14 (CI.k h (fun v3 σ2 h => (?_ : WM _ 17 _ _ _ _)))
    refine r_istore_n (ls' := [(2, vI v3), (0, vR 20), (1, vI x1)]) d_Wa_follow_17 rfl (by decide) rfl (?_ : WM _ 18 _ _ _ _)
    refine r_aload_n d_Wa_follow_18 rfl (?_ : WM _ 19 _ _ _ _)
    refine r_getR (k := 20) (j := 7) (q := 16) (by decide) rfl clk_9 (by decide) (qm_1 (i := 201) rfl rfl) rfl d_Wa_follow_19 (?_ : WM _ 22 _ _ _ _)
    refine r_iload_n d_Wa_follow_22 rfl (?_ : WM _ 23 _ _ _ _)
    refine r_callV (ν := M_La_hitsFrom) (k := 16) [vI x1] ok_M_La_hitsFrom okv_M_La_hitsFrom (by decide) rfl rfl rfl (qm_6 (i := 100) rfl rfl) np_M_La_hitsFrom rfl (by decide) (Nat.le_of_ble_eq_true rfl) rfl d_Wa_follow_23 (CI.k h (fun v5 σ4 h => (?_ : WM _ 26 _ _ _ _)))
    refine r_istore_n (ls' := [(3, vI v5), (2, vI v3), (0, vR 20), (1, vI x1)]) d_Wa_follow_26 rfl (by decide) rfl (?_ : WM _ 27 _ _ _ _)
    refine r_iconst d_Wa_follow_27 (by decide) (?_ : WM _ 28 _ _ _ _)
    refine r_istore (ls' := [(4, vI 0), (3, vI v5), (2, vI v3), (0, vR 20), (1, vI x1)]) d_Wa_follow_28 (by decide) rfl (?_ : WM _ 30 _ _ _ _)
    refine r_pick (ls' := [(0, vR 20), (1, vI x1), (2, vI v3), (3, vI v5), (4, vI 0)]) [3, 4, 2, 1, 0] rfl ?_
    exact h
  · replace h := h.2 c1
    exact r_return rfl d_Wa_follow_8 h
set_option maxRecDepth 20000 in
theorem l_Wa_follow_1 {K : St → Prop} {σ : St} (x1 : Int) (x2 : Int) (x3 : Int) (x4 : Int) (h : (x3 ≤ x4 → (0 ≤ (σ 20 1)) ∧ ((σ 20 1) < 5) ∧ (inR ((σ 20 1) + 1)) ∧ K (ups (ups (ups σ 21 (σ 20 1) x1) 25 (σ 20 1) x2) 20 1 ((σ 20 1) + 1))) ∧ (¬ x3 ≤ x4 → (240 ≤ x2 → (0 ≤ (σ 20 1)) ∧ ((σ 20 1) < 5) ∧ (inR ((σ 20 1) + 1)) ∧ K (ups (ups (ups σ 21 (σ 20 1) x1) 25 (σ 20 1) x2) 20 1 ((σ 20 1) + 1))) ∧ (¬ 240 ≤ x2 → (inR (x4 * (σ 16 0))) ∧ (inR (x1 + (x4 * (σ 16 0)))) ∧ (0 ≤ x2) ∧ (x2 < 240) ∧ CI M_La_ownerOf [vR 16, vI (x1 + (x4 * (σ 16 0)))] (ups σ 23 x2 (x1 + (x4 * (σ 16 0)))) (fun v19 σ18 => (inR (x2 + 1)) ∧ (inR (x4 + 1)) ∧ WM M_Wa_follow 30 [(0, vR 20), (1, vI x1), (2, vI (x2 + 1)), (3, vI x3), (4, vI (x4 + 1))] [] (ups (ups σ18 22 x2 v19) 24 x2 (σ18 20 1)) (QV K))))) : WM M_Wa_follow 30 [(0, vR 20), (1, vI x1), (2, vI x2), (3, vI x3), (4, vI x4)] [] σ (QV K) := by
  refine r_iload d_Wa_follow_30 rfl (?_ : WM _ 32 _ _ _ _)
  refine r_iload_n d_Wa_follow_32 rfl (?_ : WM _ 33 _ _ _ _)
  refine r_icmp_ge 99 d_Wa_follow_33 rfl ⟨fun c6 => (?_ : WM _ 99 _ _ _ _), fun c6 => (?_ : WM _ 36 _ _ _ _)⟩
  · replace h := h.1 c6
    refine r_aload_n d_Wa_follow_99 rfl (?_ : WM _ 100 _ _ _ _)
    refine r_getR (k := 20) (j := 2) (q := 21) (by decide) rfl clk_9 (by decide) (qm_1 (i := 191) rfl rfl) rfl d_Wa_follow_100 (?_ : WM _ 103 _ _ _ _)
    refine r_aload_n d_Wa_follow_103 rfl (?_ : WM _ 104 _ _ _ _)
    refine r_getI (k := 20) (j := 1) 1 (by decide) rfl clk_9 (by decide) (qm_1 (i := 188) rfl rfl) rfl rfl d_Wa_follow_104 (y := (σ 20 1)) rfl (?_ : WM _ 107 _ _ _ _)
    refine r_iload_n d_Wa_follow_107 rfl (?_ : WM _ 108 _ _ _ _)
    obtain ⟨h7, h⟩ := h
    obtain ⟨h8, h⟩ := h
    refine r_iast (k := 21) (n := 5) (by decide) rfl d_Wa_follow_108 h7 h8 (?_ : WM _ 109 _ _ _ _)
    refine r_aload_n d_Wa_follow_109 rfl (?_ : WM _ 110 _ _ _ _)
    refine r_getR (k := 20) (j := 6) (q := 25) (by decide) rfl clk_9 (by decide) (qm_1 (i := 200) rfl rfl) rfl d_Wa_follow_110 (?_ : WM _ 113 _ _ _ _)
    refine r_aload_n d_Wa_follow_113 rfl (?_ : WM _ 114 _ _ _ _)
    refine r_getI (k := 20) (j := 1) 1 (by decide) rfl clk_9 (by decide) (qm_1 (i := 188) rfl rfl) rfl rfl d_Wa_follow_114 (y := (σ 20 1)) (ups_c (by decide)) (?_ : WM _ 117 _ _ _ _)
    refine r_iload_n d_Wa_follow_117 rfl (?_ : WM _ 118 _ _ _ _)
    refine r_iast (k := 25) (n := 5) (by decide) rfl d_Wa_follow_118 h7 h8 (?_ : WM _ 119 _ _ _ _)
    refine r_aload_n d_Wa_follow_119 rfl (?_ : WM _ 120 _ _ _ _)
    refine r_dup d_Wa_follow_120 rfl (?_ : WM _ 121 _ _ _ _)
    refine r_getI (k := 20) (j := 1) 1 (by decide) rfl clk_9 (by decide) (qm_1 (i := 188) rfl rfl) rfl rfl d_Wa_follow_121 (y := (σ 20 1)) ((ups_c (by decide)).trans (ups_c (by decide))) (?_ : WM _ 124 _ _ _ _)
    refine r_iconst d_Wa_follow_124 (by decide) (?_ : WM _ 125 _ _ _ _)
    obtain ⟨h9, h⟩ := h
    refine r_iadd d_Wa_follow_125 h9 (?_ : WM _ 126 _ _ _ _)
    refine r_put (k := 20) (j := 1) 1 (by decide) rfl clk_9 (by decide) (qm_1 (i := 188) rfl rfl) rfl rfl rfl tyX9_ok rfl nmX9 d_Wa_follow_126 (?_ : WM _ 129 _ _ _ _)
    exact r_return rfl d_Wa_follow_129 h
  · replace h := h.2 c6
    refine r_iload_n d_Wa_follow_36 rfl (?_ : WM _ 37 _ _ _ _)
    refine r_sipush d_Wa_follow_37 (by decide) (by decide) (?_ : WM _ 40 _ _ _ _)
    refine r_icmp_ge 99 d_Wa_follow_40 rfl ⟨fun c10 => (?_ : WM _ 99 _ _ _ _), fun c10 => (?_ : WM _ 43 _ _ _ _)⟩
    · replace h := h.1 c10
      refine r_aload_n d_Wa_follow_99 rfl (?_ : WM _ 100 _ _ _ _)
      refine r_getR (k := 20) (j := 2) (q := 21) (by decide) rfl clk_9 (by decide) (qm_1 (i := 191) rfl rfl) rfl d_Wa_follow_100 (?_ : WM _ 103 _ _ _ _)
      refine r_aload_n d_Wa_follow_103 rfl (?_ : WM _ 104 _ _ _ _)
      refine r_getI (k := 20) (j := 1) 1 (by decide) rfl clk_9 (by decide) (qm_1 (i := 188) rfl rfl) rfl rfl d_Wa_follow_104 (y := (σ 20 1)) rfl (?_ : WM _ 107 _ _ _ _)
      refine r_iload_n d_Wa_follow_107 rfl (?_ : WM _ 108 _ _ _ _)
      obtain ⟨h11, h⟩ := h
      obtain ⟨h12, h⟩ := h
      refine r_iast (k := 21) (n := 5) (by decide) rfl d_Wa_follow_108 h11 h12 (?_ : WM _ 109 _ _ _ _)
      refine r_aload_n d_Wa_follow_109 rfl (?_ : WM _ 110 _ _ _ _)
      refine r_getR (k := 20) (j := 6) (q := 25) (by decide) rfl clk_9 (by decide) (qm_1 (i := 200) rfl rfl) rfl d_Wa_follow_110 (?_ : WM _ 113 _ _ _ _)
      refine r_aload_n d_Wa_follow_113 rfl (?_ : WM _ 114 _ _ _ _)
      refine r_getI (k := 20) (j := 1) 1 (by decide) rfl clk_9 (by decide) (qm_1 (i := 188) rfl rfl) rfl rfl d_Wa_follow_114 (y := (σ 20 1)) (ups_c (by decide)) (?_ : WM _ 117 _ _ _ _)
      refine r_iload_n d_Wa_follow_117 rfl (?_ : WM _ 118 _ _ _ _)
      refine r_iast (k := 25) (n := 5) (by decide) rfl d_Wa_follow_118 h11 h12 (?_ : WM _ 119 _ _ _ _)
      refine r_aload_n d_Wa_follow_119 rfl (?_ : WM _ 120 _ _ _ _)
      refine r_dup d_Wa_follow_120 rfl (?_ : WM _ 121 _ _ _ _)
      refine r_getI (k := 20) (j := 1) 1 (by decide) rfl clk_9 (by decide) (qm_1 (i := 188) rfl rfl) rfl rfl d_Wa_follow_121 (y := (σ 20 1)) ((ups_c (by decide)).trans (ups_c (by decide))) (?_ : WM _ 124 _ _ _ _)
      refine r_iconst d_Wa_follow_124 (by decide) (?_ : WM _ 125 _ _ _ _)
      obtain ⟨h13, h⟩ := h
      refine r_iadd d_Wa_follow_125 h13 (?_ : WM _ 126 _ _ _ _)
      refine r_put (k := 20) (j := 1) 1 (by decide) rfl clk_9 (by decide) (qm_1 (i := 188) rfl rfl) rfl rfl rfl tyX9_ok rfl nmX9 d_Wa_follow_126 (?_ : WM _ 129 _ _ _ _)
      exact r_return rfl d_Wa_follow_129 h
    · replace h := h.2 c10
      refine r_aload_n d_Wa_follow_43 rfl (?_ : WM _ 44 _ _ _ _)
      refine r_getR (k := 20) (j := 4) (q := 23) (by decide) rfl clk_9 (by decide) (qm_1 (i := 196) rfl rfl) rfl d_Wa_follow_44 (?_ : WM _ 47 _ _ _ _)
      refine r_iload_n d_Wa_follow_47 rfl (?_ : WM _ 48 _ _ _ _)
      refine r_iload_n d_Wa_follow_48 rfl (?_ : WM _ 49 _ _ _ _)
      refine r_iload d_Wa_follow_49 rfl (?_ : WM _ 51 _ _ _ _)
      refine r_aload_n d_Wa_follow_51 rfl (?_ : WM _ 52 _ _ _ _)
      refine r_getR (k := 20) (j := 7) (q := 16) (by decide) rfl clk_9 (by decide) (qm_1 (i := 201) rfl rfl) rfl d_Wa_follow_52 (?_ : WM _ 55 _ _ _ _)
      refine r_getI (k := 16) (j := 0) 0 (by decide) rfl clk_2 (by decide) (qm_1 (i := 157) rfl rfl) rfl rfl d_Wa_follow_55 (y := (σ 16 0)) rfl (?_ : WM _ 58 _ _ _ _)
      obtain ⟨h14, h⟩ := h
      refine r_imul d_Wa_follow_58 h14 (?_ : WM _ 59 _ _ _ _)
      obtain ⟨h15, h⟩ := h
      refine r_iadd d_Wa_follow_59 h15 (?_ : WM _ 60 _ _ _ _)
      obtain ⟨h16, h⟩ := h
      obtain ⟨h17, h⟩ := h
      refine r_iast (k := 23) (n := 240) (by decide) rfl d_Wa_follow_60 h16 h17 (?_ : WM _ 61 _ _ _ _)
      refine r_aload_n d_Wa_follow_61 rfl (?_ : WM _ 62 _ _ _ _)
      refine r_getR (k := 20) (j := 3) (q := 22) (by decide) rfl clk_9 (by decide) (qm_1 (i := 193) rfl rfl) rfl d_Wa_follow_62 (?_ : WM _ 65 _ _ _ _)
      refine r_iload_n d_Wa_follow_65 rfl (?_ : WM _ 66 _ _ _ _)
      refine r_aload_n d_Wa_follow_66 rfl (?_ : WM _ 67 _ _ _ _)
      refine r_getR (k := 20) (j := 7) (q := 16) (by decide) rfl clk_9 (by decide) (qm_1 (i := 201) rfl rfl) rfl d_Wa_follow_67 (?_ : WM _ 70 _ _ _ _)
      refine r_aload_n d_Wa_follow_70 rfl (?_ : WM _ 71 _ _ _ _)
      refine r_getR (k := 20) (j := 4) (q := 23) (by decide) rfl clk_9 (by decide) (qm_1 (i := 196) rfl rfl) rfl d_Wa_follow_71 (?_ : WM _ 74 _ _ _ _)
      refine r_iload_n d_Wa_follow_74 rfl (?_ : WM _ 75 _ _ _ _)
      refine r_iald (k := 23) (n := 240) (by decide) rfl d_Wa_follow_75 h16 h17 (y := (x1 + (x4 * (σ 16 0)))) (ups_s) (?_ : WM _ 76 _ _ _ _)
      refine r_callV (ν := M_La_ownerOf) (k := 16) [vI (x1 + (x4 * (σ 16 0)))] ok_M_La_ownerOf okv_M_La_ownerOf (by decide) rfl rfl rfl (qm_6 (i := 104) rfl rfl) np_M_La_ownerOf rfl (by decide) (Nat.le_of_ble_eq_true rfl) rfl d_Wa_follow_76 (CI.k h (fun v19 σ18 h => (?_ : WM _ 79 _ _ _ _)))
      refine r_iast (k := 22) (n := 240) (by decide) rfl d_Wa_follow_79 h16 h17 (?_ : WM _ 80 _ _ _ _)
      refine r_aload_n d_Wa_follow_80 rfl (?_ : WM _ 81 _ _ _ _)
      refine r_getR (k := 20) (j := 5) (q := 24) (by decide) rfl clk_9 (by decide) (qm_1 (i := 198) rfl rfl) rfl d_Wa_follow_81 (?_ : WM _ 84 _ _ _ _)
      refine r_iload_n d_Wa_follow_84 rfl (?_ : WM _ 85 _ _ _ _)
      refine r_aload_n d_Wa_follow_85 rfl (?_ : WM _ 86 _ _ _ _)
      refine r_getI (k := 20) (j := 1) 1 (by decide) rfl clk_9 (by decide) (qm_1 (i := 188) rfl rfl) rfl rfl d_Wa_follow_86 (y := (σ18 20 1)) (ups_c (by decide)) (?_ : WM _ 89 _ _ _ _)
      refine r_iast (k := 24) (n := 240) (by decide) rfl d_Wa_follow_89 h16 h17 (?_ : WM _ 90 _ _ _ _)
      obtain ⟨h20, h⟩ := h
      refine r_iinc (ls' := [(2, vI (x2 + 1)), (0, vR 20), (1, vI x1), (3, vI x3), (4, vI x4)]) d_Wa_follow_90 rfl h20 (by decide) rfl (?_ : WM _ 93 _ _ _ _)
      obtain ⟨h21, h⟩ := h
      refine r_iinc (ls' := [(4, vI (x4 + 1)), (2, vI (x2 + 1)), (0, vR 20), (1, vI x1), (3, vI x3)]) d_Wa_follow_93 rfl h21 (by decide) rfl (?_ : WM _ 96 _ _ _ _)
      refine r_goto 30 d_Wa_follow_96 rfl ?_
      refine r_pick (ls' := [(0, vR 20), (1, vI x1), (2, vI (x2 + 1)), (3, vI x3), (4, vI (x4 + 1))]) [2, 3, 1, 4, 0] rfl ?_
      exact h
set_option maxRecDepth 20000 in
theorem e_Wa_timesHit {K : Int → St → Prop} {σ : St} (x1 : Int) (x2 : Int) (h : WM M_Wa_timesHit 5 [(0, vR 20), (1, vI x1), (2, vI x2), (3, vI 0), (4, vI 0)] [] σ (QI K)) : CI M_Wa_timesHit [vR 20, vI x1, vI x2] σ K := by
  refine Con.of ok_M_Wa_timesHit (ls := [(0, vR 20), (1, vI x1), (2, vI x2)]) rfl (Nat.le_of_ble_eq_true rfl) ?_
  refine r_iconst d_Wa_timesHit_0 (by decide) (?_ : WM _ 1 _ _ _ _)
  refine r_istore_n (ls' := [(3, vI 0), (0, vR 20), (1, vI x1), (2, vI x2)]) d_Wa_timesHit_1 rfl (by decide) rfl (?_ : WM _ 2 _ _ _ _)
  refine r_iconst d_Wa_timesHit_2 (by decide) (?_ : WM _ 3 _ _ _ _)
  refine r_istore (ls' := [(4, vI 0), (3, vI 0), (0, vR 20), (1, vI x1), (2, vI x2)]) d_Wa_timesHit_3 (by decide) rfl (?_ : WM _ 5 _ _ _ _)
  refine r_pick (ls' := [(0, vR 20), (1, vI x1), (2, vI x2), (3, vI 0), (4, vI 0)]) [2, 3, 4, 1, 0] rfl ?_
  exact h
set_option maxRecDepth 20000 in
theorem l_Wa_timesHit_1 {K : Int → St → Prop} {σ : St} (x1 : Int) (x2 : Int) (x3 : Int) (x4 : Int) (h : (x2 ≤ x4 → K x3 σ) ∧ (¬ x2 ≤ x4 → ((σ 20 1) ≤ x4 → K x3 σ) ∧ (¬ (σ 20 1) ≤ x4 → (0 ≤ x4) ∧ (x4 < 5) ∧ CI M_La_strikes [vR 16, vI (σ 21 x4), vI x1] σ (fun v6 σ5 => (v6 = 0 → (inR (x4 + 1)) ∧ WM M_Wa_timesHit 5 [(0, vR 20), (1, vI x1), (2, vI x2), (3, vI x3), (4, vI (x4 + 1))] [] σ5 (QI K)) ∧ (¬ v6 = 0 → (inR (x3 + 1)) ∧ (inR (x4 + 1)) ∧ WM M_Wa_timesHit 5 [(0, vR 20), (1, vI x1), (2, vI x2), (3, vI (x3 + 1)), (4, vI (x4 + 1))] [] σ5 (QI K)))))) : WM M_Wa_timesHit 5 [(0, vR 20), (1, vI x1), (2, vI x2), (3, vI x3), (4, vI x4)] [] σ (QI K) := by
  refine r_iload d_Wa_timesHit_5 rfl (?_ : WM _ 7 _ _ _ _)
  refine r_iload_n d_Wa_timesHit_7 rfl (?_ : WM _ 8 _ _ _ _)
  refine r_icmp_ge 47 d_Wa_timesHit_8 rfl ⟨fun c1 => (?_ : WM _ 47 _ _ _ _), fun c1 => (?_ : WM _ 11 _ _ _ _)⟩
  · replace h := h.1 c1
    refine r_iload_n d_Wa_timesHit_47 rfl (?_ : WM _ 48 _ _ _ _)
    exact r_ireturn rfl d_Wa_timesHit_48 h
  · replace h := h.2 c1
    refine r_iload d_Wa_timesHit_11 rfl (?_ : WM _ 13 _ _ _ _)
    refine r_aload_n d_Wa_timesHit_13 rfl (?_ : WM _ 14 _ _ _ _)
    refine r_getI (k := 20) (j := 1) 1 (by decide) rfl clk_9 (by decide) (qm_1 (i := 188) rfl rfl) rfl rfl d_Wa_timesHit_14 (y := (σ 20 1)) rfl (?_ : WM _ 17 _ _ _ _)
    refine r_icmp_ge 47 d_Wa_timesHit_17 rfl ⟨fun c2 => (?_ : WM _ 47 _ _ _ _), fun c2 => (?_ : WM _ 20 _ _ _ _)⟩
    · replace h := h.1 c2
      refine r_iload_n d_Wa_timesHit_47 rfl (?_ : WM _ 48 _ _ _ _)
      exact r_ireturn rfl d_Wa_timesHit_48 h
    · replace h := h.2 c2
      refine r_aload_n d_Wa_timesHit_20 rfl (?_ : WM _ 21 _ _ _ _)
      refine r_getR (k := 20) (j := 7) (q := 16) (by decide) rfl clk_9 (by decide) (qm_1 (i := 201) rfl rfl) rfl d_Wa_timesHit_21 (?_ : WM _ 24 _ _ _ _)
      refine r_aload_n d_Wa_timesHit_24 rfl (?_ : WM _ 25 _ _ _ _)
      refine r_getR (k := 20) (j := 2) (q := 21) (by decide) rfl clk_9 (by decide) (qm_1 (i := 191) rfl rfl) rfl d_Wa_timesHit_25 (?_ : WM _ 28 _ _ _ _)
      refine r_iload d_Wa_timesHit_28 rfl (?_ : WM _ 30 _ _ _ _)
      obtain ⟨h3, h⟩ := h
      obtain ⟨h4, h⟩ := h
      refine r_iald (k := 21) (n := 5) (by decide) rfl d_Wa_timesHit_30 h3 h4 (y := (σ 21 x4)) rfl (?_ : WM _ 31 _ _ _ _)
      refine r_iload_n d_Wa_timesHit_31 rfl (?_ : WM _ 32 _ _ _ _)
      refine r_callV (ν := M_La_strikes) (k := 16) [vI (σ 21 x4), vI x1] ok_M_La_strikes okv_M_La_strikes (by decide) rfl rfl rfl (qm_6 (i := 236) rfl rfl) np_M_La_strikes rfl (by decide) (Nat.le_of_ble_eq_true rfl) rfl d_Wa_timesHit_32 (CI.k h (fun v6 σ5 h => (?_ : WM _ 35 _ _ _ _)))
      refine r_if_eq 41 d_Wa_timesHit_35 rfl ⟨fun c7 => (?_ : WM _ 41 _ _ _ _), fun c7 => (?_ : WM _ 38 _ _ _ _)⟩
      · replace h := h.1 c7
        obtain ⟨h8, h⟩ := h
        refine r_iinc (ls' := [(4, vI (x4 + 1)), (0, vR 20), (1, vI x1), (2, vI x2), (3, vI x3)]) d_Wa_timesHit_41 rfl h8 (by decide) rfl (?_ : WM _ 44 _ _ _ _)
        refine r_goto 5 d_Wa_timesHit_44 rfl ?_
        refine r_pick (ls' := [(0, vR 20), (1, vI x1), (2, vI x2), (3, vI x3), (4, vI (x4 + 1))]) [1, 2, 3, 4, 0] rfl ?_
        exact h
      · replace h := h.2 c7
        obtain ⟨h9, h⟩ := h
        refine r_iinc (ls' := [(3, vI (x3 + 1)), (0, vR 20), (1, vI x1), (2, vI x2), (4, vI x4)]) d_Wa_timesHit_38 rfl h9 (by decide) rfl (?_ : WM _ 41 _ _ _ _)
        obtain ⟨h10, h⟩ := h
        refine r_iinc (ls' := [(4, vI (x4 + 1)), (3, vI (x3 + 1)), (0, vR 20), (1, vI x1), (2, vI x2)]) d_Wa_timesHit_41 rfl h10 (by decide) rfl (?_ : WM _ 44 _ _ _ _)
        refine r_goto 5 d_Wa_timesHit_44 rfl ?_
        refine r_pick (ls' := [(0, vR 20), (1, vI x1), (2, vI x2), (3, vI (x3 + 1)), (4, vI (x4 + 1))]) [2, 3, 4, 1, 0] rfl ?_
        exact h
set_option maxRecDepth 20000 in
theorem e_Wa_timesCoinHit {K : Int → St → Prop} {σ : St} (x1 : Int) (h : WM M_Wa_timesCoinHit 4 [(0, vR 20), (1, vI x1), (2, vI 0), (3, vI 0)] [] σ (QI K)) : CI M_Wa_timesCoinHit [vR 20, vI x1] σ K := by
  refine Con.of ok_M_Wa_timesCoinHit (ls := [(0, vR 20), (1, vI x1)]) rfl (Nat.le_of_ble_eq_true rfl) ?_
  refine r_iconst d_Wa_timesCoinHit_0 (by decide) (?_ : WM _ 1 _ _ _ _)
  refine r_istore_n (ls' := [(2, vI 0), (0, vR 20), (1, vI x1)]) d_Wa_timesCoinHit_1 rfl (by decide) rfl (?_ : WM _ 2 _ _ _ _)
  refine r_iconst d_Wa_timesCoinHit_2 (by decide) (?_ : WM _ 3 _ _ _ _)
  refine r_istore_n (ls' := [(3, vI 0), (2, vI 0), (0, vR 20), (1, vI x1)]) d_Wa_timesCoinHit_3 rfl (by decide) rfl (?_ : WM _ 4 _ _ _ _)
  refine r_pick (ls' := [(0, vR 20), (1, vI x1), (2, vI 0), (3, vI 0)]) [2, 3, 1, 0] rfl ?_
  exact h
set_option maxRecDepth 20000 in
theorem l_Wa_timesCoinHit_1 {K : Int → St → Prop} {σ : St} (x1 : Int) (x2 : Int) (x3 : Int) (h : CI M_Wa_hitsOf [vR 20, vI (σ 20 1)] σ (fun v2 σ1 => (v2 ≤ x3 → K x2 σ1) ∧ (¬ v2 ≤ x3 → (0 ≤ x3) ∧ (x3 < 240) ∧ (¬ (σ1 23 x3) = x1 → (inR (x3 + 1)) ∧ WM M_Wa_timesCoinHit 4 [(0, vR 20), (1, vI x1), (2, vI x2), (3, vI (x3 + 1))] [] σ1 (QI K)) ∧ ((σ1 23 x3) = x1 → (inR (x2 + 1)) ∧ (inR (x3 + 1)) ∧ WM M_Wa_timesCoinHit 4 [(0, vR 20), (1, vI x1), (2, vI (x2 + 1)), (3, vI (x3 + 1))] [] σ1 (QI K))))) : WM M_Wa_timesCoinHit 4 [(0, vR 20), (1, vI x1), (2, vI x2), (3, vI x3)] [] σ (QI K) := by
  refine r_iload_n d_Wa_timesCoinHit_4 rfl (?_ : WM _ 5 _ _ _ _)
  refine r_aload_n d_Wa_timesCoinHit_5 rfl (?_ : WM _ 6 _ _ _ _)
  refine r_aload_n d_Wa_timesCoinHit_6 rfl (?_ : WM _ 7 _ _ _ _)
  refine r_getI (k := 20) (j := 1) 1 (by decide) rfl clk_9 (by decide) (qm_1 (i := 188) rfl rfl) rfl rfl d_Wa_timesCoinHit_7 (y := (σ 20 1)) rfl (?_ : WM _ 10 _ _ _ _)
  refine r_callV (ν := M_Wa_hitsOf) (k := 20) [vI (σ 20 1)] ok_M_Wa_hitsOf okv_M_Wa_hitsOf (by decide) rfl rfl rfl (qm_6 (i := 92) rfl rfl) np_M_Wa_hitsOf rfl (by decide) (Nat.le_of_ble_eq_true rfl) rfl d_Wa_timesCoinHit_10 (CI.k h (fun v2 σ1 h => (?_ : WM _ 13 _ _ _ _)))
  refine r_icmp_ge 35 d_Wa_timesCoinHit_13 rfl ⟨fun c3 => (?_ : WM _ 35 _ _ _ _), fun c3 => (?_ : WM _ 16 _ _ _ _)⟩
  · replace h := h.1 c3
    refine r_iload_n d_Wa_timesCoinHit_35 rfl (?_ : WM _ 36 _ _ _ _)
    exact r_ireturn rfl d_Wa_timesCoinHit_36 h
  · replace h := h.2 c3
    refine r_aload_n d_Wa_timesCoinHit_16 rfl (?_ : WM _ 17 _ _ _ _)
    refine r_getR (k := 20) (j := 4) (q := 23) (by decide) rfl clk_9 (by decide) (qm_1 (i := 196) rfl rfl) rfl d_Wa_timesCoinHit_17 (?_ : WM _ 20 _ _ _ _)
    refine r_iload_n d_Wa_timesCoinHit_20 rfl (?_ : WM _ 21 _ _ _ _)
    obtain ⟨h4, h⟩ := h
    obtain ⟨h5, h⟩ := h
    refine r_iald (k := 23) (n := 240) (by decide) rfl d_Wa_timesCoinHit_21 h4 h5 (y := (σ1 23 x3)) rfl (?_ : WM _ 22 _ _ _ _)
    refine r_iload_n d_Wa_timesCoinHit_22 rfl (?_ : WM _ 23 _ _ _ _)
    refine r_icmp_ne 29 d_Wa_timesCoinHit_23 rfl ⟨fun c6 => (?_ : WM _ 29 _ _ _ _), fun c6 => (?_ : WM _ 26 _ _ _ _)⟩
    · replace h := h.1 c6
      obtain ⟨h7, h⟩ := h
      refine r_iinc (ls' := [(3, vI (x3 + 1)), (0, vR 20), (1, vI x1), (2, vI x2)]) d_Wa_timesCoinHit_29 rfl h7 (by decide) rfl (?_ : WM _ 32 _ _ _ _)
      refine r_goto 4 d_Wa_timesCoinHit_32 rfl ?_
      refine r_pick (ls' := [(0, vR 20), (1, vI x1), (2, vI x2), (3, vI (x3 + 1))]) [1, 2, 3, 0] rfl ?_
      exact h
    · replace h := h.2 c6
      obtain ⟨h8, h⟩ := h
      refine r_iinc (ls' := [(2, vI (x2 + 1)), (0, vR 20), (1, vI x1), (3, vI x3)]) d_Wa_timesCoinHit_26 rfl h8 (by decide) rfl (?_ : WM _ 29 _ _ _ _)
      obtain ⟨h9, h⟩ := h
      refine r_iinc (ls' := [(3, vI (x3 + 1)), (2, vI (x2 + 1)), (0, vR 20), (1, vI x1)]) d_Wa_timesCoinHit_29 rfl h9 (by decide) rfl (?_ : WM _ 32 _ _ _ _)
      refine r_goto 4 d_Wa_timesCoinHit_32 rfl ?_
      refine r_pick (ls' := [(0, vR 20), (1, vI x1), (2, vI (x2 + 1)), (3, vI (x3 + 1))]) [2, 3, 1, 0] rfl ?_
      exact h
set_option maxRecDepth 20000 in
theorem e_Wa_hasHit {K : Int → St → Prop} {σ : St} (x1 : Int) (h : (x1 < 0 → K 0 σ) ∧ (¬ x1 < 0 → CI M_Wa_hitsOf [vR 20, vI (σ 20 1)] σ (fun v3 σ2 => (v3 ≤ x1 → K 0 σ2) ∧ (¬ v3 ≤ x1 → K 1 σ2)))) : CI M_Wa_hasHit [vR 20, vI x1] σ K := by
  refine Con.of ok_M_Wa_hasHit (ls := [(0, vR 20), (1, vI x1)]) rfl (Nat.le_of_ble_eq_true rfl) ?_
  refine r_iload_n d_Wa_hasHit_0 rfl (?_ : WM _ 1 _ _ _ _)
  refine r_if_lt 20 d_Wa_hasHit_1 rfl ⟨fun c1 => (?_ : WM _ 20 _ _ _ _), fun c1 => (?_ : WM _ 4 _ _ _ _)⟩
  · replace h := h.1 c1
    refine r_iconst d_Wa_hasHit_20 (by decide) (?_ : WM _ 21 _ _ _ _)
    exact r_zreturn rfl d_Wa_hasHit_21 (by decide) h
  · replace h := h.2 c1
    refine r_iload_n d_Wa_hasHit_4 rfl (?_ : WM _ 5 _ _ _ _)
    refine r_aload_n d_Wa_hasHit_5 rfl (?_ : WM _ 6 _ _ _ _)
    refine r_aload_n d_Wa_hasHit_6 rfl (?_ : WM _ 7 _ _ _ _)
    refine r_getI (k := 20) (j := 1) 1 (by decide) rfl clk_9 (by decide) (qm_1 (i := 188) rfl rfl) rfl rfl d_Wa_hasHit_7 (y := (σ 20 1)) rfl (?_ : WM _ 10 _ _ _ _)
    refine r_callV (ν := M_Wa_hitsOf) (k := 20) [vI (σ 20 1)] ok_M_Wa_hitsOf okv_M_Wa_hitsOf (by decide) rfl rfl rfl (qm_6 (i := 92) rfl rfl) np_M_Wa_hitsOf rfl (by decide) (Nat.le_of_ble_eq_true rfl) rfl d_Wa_hasHit_10 (CI.k h (fun v3 σ2 h => (?_ : WM _ 13 _ _ _ _)))
    refine r_icmp_ge 20 d_Wa_hasHit_13 rfl ⟨fun c4 => (?_ : WM _ 20 _ _ _ _), fun c4 => (?_ : WM _ 16 _ _ _ _)⟩
    · replace h := h.1 c4
      refine r_iconst d_Wa_hasHit_20 (by decide) (?_ : WM _ 21 _ _ _ _)
      exact r_zreturn rfl d_Wa_hasHit_21 (by decide) h
    · replace h := h.2 c4
      refine r_iconst d_Wa_hasHit_16 (by decide) (?_ : WM _ 17 _ _ _ _)
      refine r_goto 21 d_Wa_hasHit_17 rfl ?_
      exact r_zreturn rfl d_Wa_hasHit_21 (by decide) h
set_option maxRecDepth 20000 in
theorem e_Wa_hasRun {K : Int → St → Prop} {σ : St} (x1 : Int) (h : (x1 < 0 → K 0 σ) ∧ (¬ x1 < 0 → ((σ 20 1) ≤ x1 → K 0 σ) ∧ (¬ (σ 20 1) ≤ x1 → K 1 σ))) : CI M_Wa_hasRun [vR 20, vI x1] σ K := by
  refine Con.of ok_M_Wa_hasRun (ls := [(0, vR 20), (1, vI x1)]) rfl (Nat.le_of_ble_eq_true rfl) ?_
  refine r_iload_n d_Wa_hasRun_0 rfl (?_ : WM _ 1 _ _ _ _)
  refine r_if_lt 16 d_Wa_hasRun_1 rfl ⟨fun c1 => (?_ : WM _ 16 _ _ _ _), fun c1 => (?_ : WM _ 4 _ _ _ _)⟩
  · replace h := h.1 c1
    refine r_iconst d_Wa_hasRun_16 (by decide) (?_ : WM _ 17 _ _ _ _)
    exact r_zreturn rfl d_Wa_hasRun_17 (by decide) h
  · replace h := h.2 c1
    refine r_iload_n d_Wa_hasRun_4 rfl (?_ : WM _ 5 _ _ _ _)
    refine r_aload_n d_Wa_hasRun_5 rfl (?_ : WM _ 6 _ _ _ _)
    refine r_getI (k := 20) (j := 1) 1 (by decide) rfl clk_9 (by decide) (qm_1 (i := 188) rfl rfl) rfl rfl d_Wa_hasRun_6 (y := (σ 20 1)) rfl (?_ : WM _ 9 _ _ _ _)
    refine r_icmp_ge 16 d_Wa_hasRun_9 rfl ⟨fun c2 => (?_ : WM _ 16 _ _ _ _), fun c2 => (?_ : WM _ 12 _ _ _ _)⟩
    · replace h := h.1 c2
      refine r_iconst d_Wa_hasRun_16 (by decide) (?_ : WM _ 17 _ _ _ _)
      exact r_zreturn rfl d_Wa_hasRun_17 (by decide) h
    · replace h := h.2 c2
      refine r_iconst d_Wa_hasRun_12 (by decide) (?_ : WM _ 13 _ _ _ _)
      refine r_goto 17 d_Wa_hasRun_13 rfl ?_
      exact r_zreturn rfl d_Wa_hasRun_17 (by decide) h
set_option maxRecDepth 20000 in
theorem e_Es_supposeNothing {K : St → Prop} {σ : St}  (h : CI M_Te_of [vR 14, vI 1] σ (fun v2 σ1 => CV M_Es_suppose [vR 28, vI (σ 20 1), vI 0, vI v2] σ1 (fun σ3 => K σ3))) : CV M_Es_supposeNothing [vR 28] σ K := by
  refine Con.of ok_M_Es_supposeNothing (ls := [(0, vR 28)]) rfl (Nat.le_of_ble_eq_true rfl) ?_
  refine r_aload_n d_Es_supposeNothing_0 rfl (?_ : WM _ 1 _ _ _ _)
  refine r_aload_n d_Es_supposeNothing_1 rfl (?_ : WM _ 2 _ _ _ _)
  refine r_getR (k := 28) (j := 9) (q := 20) (by decide) rfl clk_0 (by decide) (qm_2 (i := 12) rfl rfl) rfl d_Es_supposeNothing_2 (?_ : WM _ 5 _ _ _ _)
  refine r_getI (k := 20) (j := 1) 1 (by decide) rfl clk_9 (by decide) (qm_1 (i := 189) rfl rfl) rfl rfl d_Es_supposeNothing_5 (y := (σ 20 1)) rfl (?_ : WM _ 8 _ _ _ _)
  refine r_iconst d_Es_supposeNothing_8 (by decide) (?_ : WM _ 9 _ _ _ _)
  refine r_aload_n d_Es_supposeNothing_9 rfl (?_ : WM _ 10 _ _ _ _)
  refine r_getR (k := 28) (j := 10) (q := 14) (by decide) rfl clk_0 (by decide) (qm_2 (i := 13) rfl rfl) rfl d_Es_supposeNothing_10 (?_ : WM _ 13 _ _ _ _)
  refine r_iconst d_Es_supposeNothing_13 (by decide) (?_ : WM _ 14 _ _ _ _)
  refine r_callV (ν := M_Te_of) (k := 14) [vI 1] ok_M_Te_of okv_M_Te_of (by decide) rfl rfl rfl (qm_9 (i := 40) rfl rfl) np_M_Te_of rfl (by decide) (Nat.le_of_ble_eq_true rfl) rfl d_Es_supposeNothing_14 (CI.k h (fun v2 σ1 h => (?_ : WM _ 17 _ _ _ _)))
  refine r_callV (ν := M_Es_suppose) (k := 28) [vI (σ 20 1), vI 0, vI v2] ok_M_Es_suppose okv_M_Es_suppose (by decide) rfl rfl rfl (qm_9 (i := 41) rfl rfl) np_M_Es_suppose rfl (by decide) (Nat.le_of_ble_eq_true rfl) rfl d_Es_supposeNothing_17 (CV.k h (fun σ3 h => (?_ : WM _ 20 _ _ _ _)))
  exact r_return rfl d_Es_supposeNothing_20 h
set_option maxRecDepth 20000 in
theorem e_Li_signAt {K : Int → St → Prop} {σ : St} (x1 : Int) (h : (x1 < 0 → K (-1) σ) ∧ (¬ x1 < 0 → ((σ 33 1) ≤ x1 → K (-1) σ) ∧ (¬ (σ 33 1) ≤ x1 → (32 ≤ x1 → K (-1) σ) ∧ (¬ 32 ≤ x1 → (0 ≤ x1) ∧ (x1 < 32) ∧ K (σ 34 x1) σ)))) : CI M_Li_signAt [vR 33, vI x1] σ K := by
  refine Con.of ok_M_Li_signAt (ls := [(0, vR 33), (1, vI x1)]) rfl (Nat.le_of_ble_eq_true rfl) ?_
  refine r_iload_n d_Li_signAt_0 rfl (?_ : WM _ 1 _ _ _ _)
  refine r_if_lt 30 d_Li_signAt_1 rfl ⟨fun c1 => (?_ : WM _ 30 _ _ _ _), fun c1 => (?_ : WM _ 4 _ _ _ _)⟩
  · replace h := h.1 c1
    refine r_iconst d_Li_signAt_30 (by decide) (?_ : WM _ 31 _ _ _ _)
    exact r_ireturn rfl d_Li_signAt_31 h
  · replace h := h.2 c1
    refine r_iload_n d_Li_signAt_4 rfl (?_ : WM _ 5 _ _ _ _)
    refine r_aload_n d_Li_signAt_5 rfl (?_ : WM _ 6 _ _ _ _)
    refine r_getI (k := 33) (j := 1) 1 (by decide) rfl clk_4 (by decide) (qm_2 (i := 69) rfl rfl) rfl rfl d_Li_signAt_6 (y := (σ 33 1)) rfl (?_ : WM _ 9 _ _ _ _)
    refine r_icmp_ge 30 d_Li_signAt_9 rfl ⟨fun c2 => (?_ : WM _ 30 _ _ _ _), fun c2 => (?_ : WM _ 12 _ _ _ _)⟩
    · replace h := h.1 c2
      refine r_iconst d_Li_signAt_30 (by decide) (?_ : WM _ 31 _ _ _ _)
      exact r_ireturn rfl d_Li_signAt_31 h
    · replace h := h.2 c2
      refine r_iload_n d_Li_signAt_12 rfl (?_ : WM _ 13 _ _ _ _)
      refine r_aload_n d_Li_signAt_13 rfl (?_ : WM _ 14 _ _ _ _)
      refine r_getR (k := 33) (j := 0) (q := 34) (by decide) rfl clk_4 (by decide) (qm_2 (i := 68) rfl rfl) rfl d_Li_signAt_14 (?_ : WM _ 17 _ _ _ _)
      refine r_alen (k := 34) (t := 3) (n := 32) 32 (by decide) rfl (fun _ => rfl) rfl (by decide) d_Li_signAt_17 (?_ : WM _ 18 _ _ _ _)
      refine r_icmp_ge 30 d_Li_signAt_18 rfl ⟨fun c3 => (?_ : WM _ 30 _ _ _ _), fun c3 => (?_ : WM _ 21 _ _ _ _)⟩
      · replace h := h.1 c3
        refine r_iconst d_Li_signAt_30 (by decide) (?_ : WM _ 31 _ _ _ _)
        exact r_ireturn rfl d_Li_signAt_31 h
      · replace h := h.2 c3
        refine r_aload_n d_Li_signAt_21 rfl (?_ : WM _ 22 _ _ _ _)
        refine r_getR (k := 33) (j := 0) (q := 34) (by decide) rfl clk_4 (by decide) (qm_2 (i := 68) rfl rfl) rfl d_Li_signAt_22 (?_ : WM _ 25 _ _ _ _)
        refine r_iload_n d_Li_signAt_25 rfl (?_ : WM _ 26 _ _ _ _)
        obtain ⟨h4, h⟩ := h
        obtain ⟨h5, h⟩ := h
        refine r_cald (k := 34) (n := 32) (by decide) rfl d_Li_signAt_26 h4 h5 (y := (σ 34 x1)) rfl (?_ : WM _ 27 _ _ _ _)
        refine r_goto 31 d_Li_signAt_27 rfl ?_
        exact r_ireturn rfl d_Li_signAt_31 h
set_option maxRecDepth 20000 in
theorem e_Es_projection {K : Int → St → Prop} {σ : St} (x1 : Int) (h : WM M_Es_projection 4 [(0, vR 28), (1, vI x1), (2, vI 0), (3, vI 0)] [] σ (QI K)) : CI M_Es_projection [vR 28, vI x1] σ K := by
  refine Con.of ok_M_Es_projection (ls := [(0, vR 28), (1, vI x1)]) rfl (Nat.le_of_ble_eq_true rfl) ?_
  refine r_iconst d_Es_projection_0 (by decide) (?_ : WM _ 1 _ _ _ _)
  refine r_istore_n (ls' := [(2, vI 0), (0, vR 28), (1, vI x1)]) d_Es_projection_1 rfl (by decide) rfl (?_ : WM _ 2 _ _ _ _)
  refine r_iconst d_Es_projection_2 (by decide) (?_ : WM _ 3 _ _ _ _)
  refine r_istore_n (ls' := [(3, vI 0), (2, vI 0), (0, vR 28), (1, vI x1)]) d_Es_projection_3 rfl (by decide) rfl (?_ : WM _ 4 _ _ _ _)
  refine r_pick (ls' := [(0, vR 28), (1, vI x1), (2, vI 0), (3, vI 0)]) [2, 3, 1, 0] rfl ?_
  exact h
set_option maxRecDepth 20000 in
theorem l_Es_projection_1 {K : Int → St → Prop} {σ : St} (x1 : Int) (x2 : Int) (x3 : Int) (h : ((σ 28 4) ≤ x3 → K x2 σ) ∧ (¬ (σ 28 4) ≤ x3 → CI M_Wa_hasHit [vR 20, vI x3] σ (fun v3 σ2 => (v3 = 0 → K x2 σ2) ∧ (¬ v3 = 0 → (0 ≤ x3) ∧ (x3 < 240) ∧ CI M_Es_projectionOfHit [vR 28, vI (σ2 22 x3)] σ2 (fun v8 σ7 => (inR (x1 * v8)) ∧ CI M_Ma_max [vI 0, vI (x1 * v8)] σ7 (fun v11 σ10 => (inR (x2 + v11)) ∧ (inR (x3 + 1)) ∧ WM M_Es_projection 4 [(0, vR 28), (1, vI x1), (2, vI (x2 + v11)), (3, vI (x3 + 1))] [] σ10 (QI K))))))) : WM M_Es_projection 4 [(0, vR 28), (1, vI x1), (2, vI x2), (3, vI x3)] [] σ (QI K) := by
  refine r_iload_n d_Es_projection_4 rfl (?_ : WM _ 5 _ _ _ _)
  refine r_aload_n d_Es_projection_5 rfl (?_ : WM _ 6 _ _ _ _)
  refine r_getI (k := 28) (j := 4) 4 (by decide) rfl clk_0 (by decide) (qm_2 (i := 7) rfl rfl) rfl rfl d_Es_projection_6 (y := (σ 28 4)) rfl (?_ : WM _ 9 _ _ _ _)
  refine r_icmp_ge 51 d_Es_projection_9 rfl ⟨fun c1 => (?_ : WM _ 51 _ _ _ _), fun c1 => (?_ : WM _ 12 _ _ _ _)⟩
  · replace h := h.1 c1
    refine r_iload_n d_Es_projection_51 rfl (?_ : WM _ 52 _ _ _ _)
    exact r_ireturn rfl d_Es_projection_52 h
  · replace h := h.2 c1
    refine r_aload_n d_Es_projection_12 rfl (?_ : WM _ 13 _ _ _ _)
    refine r_getR (k := 28) (j := 9) (q := 20) (by decide) rfl clk_0 (by decide) (qm_2 (i := 12) rfl rfl) rfl d_Es_projection_13 (?_ : WM _ 16 _ _ _ _)
    refine r_iload_n d_Es_projection_16 rfl (?_ : WM _ 17 _ _ _ _)
    refine r_callV (ν := M_Wa_hasHit) (k := 20) [vI x3] ok_M_Wa_hasHit okv_M_Wa_hasHit (by decide) rfl rfl rfl (qm_10 (i := 29) rfl rfl) np_M_Wa_hasHit rfl (by decide) (Nat.le_of_ble_eq_true rfl) rfl d_Es_projection_17 (CI.k h (fun v3 σ2 h => (?_ : WM _ 20 _ _ _ _)))
    refine r_if_eq 51 d_Es_projection_20 rfl ⟨fun c4 => (?_ : WM _ 51 _ _ _ _), fun c4 => (?_ : WM _ 23 _ _ _ _)⟩
    · replace h := h.1 c4
      refine r_iload_n d_Es_projection_51 rfl (?_ : WM _ 52 _ _ _ _)
      exact r_ireturn rfl d_Es_projection_52 h
    · replace h := h.2 c4
      refine r_iload_n d_Es_projection_23 rfl (?_ : WM _ 24 _ _ _ _)
      refine r_iconst d_Es_projection_24 (by decide) (?_ : WM _ 25 _ _ _ _)
      refine r_iload_n d_Es_projection_25 rfl (?_ : WM _ 26 _ _ _ _)
      refine r_aload_n d_Es_projection_26 rfl (?_ : WM _ 27 _ _ _ _)
      refine r_aload_n d_Es_projection_27 rfl (?_ : WM _ 28 _ _ _ _)
      refine r_getR (k := 28) (j := 9) (q := 20) (by decide) rfl clk_0 (by decide) (qm_2 (i := 12) rfl rfl) rfl d_Es_projection_28 (?_ : WM _ 31 _ _ _ _)
      refine r_getR (k := 20) (j := 3) (q := 22) (by decide) rfl clk_9 (by decide) (qm_1 (i := 194) rfl rfl) rfl d_Es_projection_31 (?_ : WM _ 34 _ _ _ _)
      refine r_iload_n d_Es_projection_34 rfl (?_ : WM _ 35 _ _ _ _)
      obtain ⟨h5, h⟩ := h
      obtain ⟨h6, h⟩ := h
      refine r_iald (k := 22) (n := 240) (by decide) rfl d_Es_projection_35 h5 h6 (y := (σ2 22 x3)) rfl (?_ : WM _ 36 _ _ _ _)
      refine r_callV (ν := M_Es_projectionOfHit) (k := 28) [vI (σ2 22 x3)] ok_M_Es_projectionOfHit okv_M_Es_projectionOfHit (by decide) rfl rfl rfl (qm_10 (i := 30) rfl rfl) np_M_Es_projectionOfHit rfl (by decide) (Nat.le_of_ble_eq_true rfl) rfl d_Es_projection_36 (CI.k h (fun v8 σ7 h => (?_ : WM _ 39 _ _ _ _)))
      obtain ⟨h9, h⟩ := h
      refine r_imul d_Es_projection_39 h9 (?_ : WM _ 40 _ _ _ _)
      refine r_callS (ν := M_Ma_max) [vI 0, vI (x1 * v8)] ok_M_Ma_max oks_M_Ma_max (qm_10 (i := 31) rfl rfl) np_M_Ma_max rfl (by decide) (Nat.le_of_ble_eq_true rfl) rfl d_Es_projection_40 (CI.k h (fun v11 σ10 h => (?_ : WM _ 43 _ _ _ _)))
      obtain ⟨h12, h⟩ := h
      refine r_iadd d_Es_projection_43 h12 (?_ : WM _ 44 _ _ _ _)
      refine r_istore_n (ls' := [(2, vI (x2 + v11)), (0, vR 28), (1, vI x1), (3, vI x3)]) d_Es_projection_44 rfl (by decide) rfl (?_ : WM _ 45 _ _ _ _)
      obtain ⟨h13, h⟩ := h
      refine r_iinc (ls' := [(3, vI (x3 + 1)), (2, vI (x2 + v11)), (0, vR 28), (1, vI x1)]) d_Es_projection_45 rfl h13 (by decide) rfl (?_ : WM _ 48 _ _ _ _)
      refine r_goto 4 d_Es_projection_48 rfl ?_
      refine r_pick (ls' := [(0, vR 28), (1, vI x1), (2, vI (x2 + v11)), (3, vI (x3 + 1))]) [2, 3, 1, 0] rfl ?_
      exact h
set_option maxRecDepth 20000 in
theorem e_Es_known {K : Int → St → Prop} {σ : St} (x1 : Int) (h : WM M_Es_known 4 [(0, vR 28), (1, vI x1), (2, vI 0), (3, vI 0)] [] σ (QI K)) : CI M_Es_known [vR 28, vI x1] σ K := by
  refine Con.of ok_M_Es_known (ls := [(0, vR 28), (1, vI x1)]) rfl (Nat.le_of_ble_eq_true rfl) ?_
  refine r_iconst d_Es_known_0 (by decide) (?_ : WM _ 1 _ _ _ _)
  refine r_istore_n (ls' := [(2, vI 0), (0, vR 28), (1, vI x1)]) d_Es_known_1 rfl (by decide) rfl (?_ : WM _ 2 _ _ _ _)
  refine r_iconst d_Es_known_2 (by decide) (?_ : WM _ 3 _ _ _ _)
  refine r_istore_n (ls' := [(3, vI 0), (2, vI 0), (0, vR 28), (1, vI x1)]) d_Es_known_3 rfl (by decide) rfl (?_ : WM _ 4 _ _ _ _)
  refine r_pick (ls' := [(0, vR 28), (1, vI x1), (2, vI 0), (3, vI 0)]) [2, 3, 1, 0] rfl ?_
  exact h
set_option maxRecDepth 20000 in
theorem l_Es_known_1 {K : Int → St → Prop} {σ : St} (x1 : Int) (x2 : Int) (x3 : Int) (h : ((σ 3 4) ≤ x3 → K x2 σ) ∧ (¬ (σ 3 4) ≤ x3 → CI M_La_isCertain [vR 16, vI x3] σ (fun v3 σ2 => (v3 = 0 → (inR (x3 + 1)) ∧ WM M_Es_known 4 [(0, vR 28), (1, vI x1), (2, vI x2), (3, vI (x3 + 1))] [] σ2 (QI K)) ∧ (¬ v3 = 0 → CI M_Le_errorOf [vR 3, vI x3] σ2 (fun v7 σ6 => (inR (x1 * v7)) ∧ CI M_Ma_max [vI 0, vI (x1 * v7)] σ6 (fun v10 σ9 => (inR (x2 + v10)) ∧ (inR (x3 + 1)) ∧ WM M_Es_known 4 [(0, vR 28), (1, vI x1), (2, vI (x2 + v10)), (3, vI (x3 + 1))] [] σ9 (QI K))))))) : WM M_Es_known 4 [(0, vR 28), (1, vI x1), (2, vI x2), (3, vI x3)] [] σ (QI K) := by
  refine r_iload_n d_Es_known_4 rfl (?_ : WM _ 5 _ _ _ _)
  refine r_aload_n d_Es_known_5 rfl (?_ : WM _ 6 _ _ _ _)
  refine r_getR (k := 28) (j := 7) (q := 3) (by decide) rfl clk_0 (by decide) (qm_2 (i := 10) rfl rfl) rfl d_Es_known_6 (?_ : WM _ 9 _ _ _ _)
  refine r_getI (k := 3) (j := 4) 4 (by decide) rfl clk_3 (by decide) (qm_1 (i := 94) rfl rfl) rfl rfl d_Es_known_9 (y := (σ 3 4)) rfl (?_ : WM _ 12 _ _ _ _)
  refine r_icmp_ge 49 d_Es_known_12 rfl ⟨fun c1 => (?_ : WM _ 49 _ _ _ _), fun c1 => (?_ : WM _ 15 _ _ _ _)⟩
  · replace h := h.1 c1
    refine r_iload_n d_Es_known_49 rfl (?_ : WM _ 50 _ _ _ _)
    exact r_ireturn rfl d_Es_known_50 h
  · replace h := h.2 c1
    refine r_aload_n d_Es_known_15 rfl (?_ : WM _ 16 _ _ _ _)
    refine r_getR (k := 28) (j := 8) (q := 16) (by decide) rfl clk_0 (by decide) (qm_2 (i := 11) rfl rfl) rfl d_Es_known_16 (?_ : WM _ 19 _ _ _ _)
    refine r_iload_n d_Es_known_19 rfl (?_ : WM _ 20 _ _ _ _)
    refine r_callV (ν := M_La_isCertain) (k := 16) [vI x3] ok_M_La_isCertain okv_M_La_isCertain (by decide) rfl rfl rfl (qm_10 (i := 36) rfl rfl) np_M_La_isCertain rfl (by decide) (Nat.le_of_ble_eq_true rfl) rfl d_Es_known_20 (CI.k h (fun v3 σ2 h => (?_ : WM _ 23 _ _ _ _)))
    refine r_if_eq 43 d_Es_known_23 rfl ⟨fun c4 => (?_ : WM _ 43 _ _ _ _), fun c4 => (?_ : WM _ 26 _ _ _ _)⟩
    · replace h := h.1 c4
      obtain ⟨h5, h⟩ := h
      refine r_iinc (ls' := [(3, vI (x3 + 1)), (0, vR 28), (1, vI x1), (2, vI x2)]) d_Es_known_43 rfl h5 (by decide) rfl (?_ : WM _ 46 _ _ _ _)
      refine r_goto 4 d_Es_known_46 rfl ?_
      refine r_pick (ls' := [(0, vR 28), (1, vI x1), (2, vI x2), (3, vI (x3 + 1))]) [1, 2, 3, 0] rfl ?_
      exact h
    · replace h := h.2 c4
      refine r_iload_n d_Es_known_26 rfl (?_ : WM _ 27 _ _ _ _)
      refine r_iconst d_Es_known_27 (by decide) (?_ : WM _ 28 _ _ _ _)
      refine r_iload_n d_Es_known_28 rfl (?_ : WM _ 29 _ _ _ _)
      refine r_aload_n d_Es_known_29 rfl (?_ : WM _ 30 _ _ _ _)
      refine r_getR (k := 28) (j := 7) (q := 3) (by decide) rfl clk_0 (by decide) (qm_2 (i := 10) rfl rfl) rfl d_Es_known_30 (?_ : WM _ 33 _ _ _ _)
      refine r_iload_n d_Es_known_33 rfl (?_ : WM _ 34 _ _ _ _)
      refine r_callV (ν := M_Le_errorOf) (k := 3) [vI x3] ok_M_Le_errorOf okv_M_Le_errorOf (by decide) rfl rfl rfl (qm_10 (i := 37) rfl rfl) np_M_Le_errorOf rfl (by decide) (Nat.le_of_ble_eq_true rfl) rfl d_Es_known_34 (CI.k h (fun v7 σ6 h => (?_ : WM _ 37 _ _ _ _)))
      obtain ⟨h8, h⟩ := h
      refine r_imul d_Es_known_37 h8 (?_ : WM _ 38 _ _ _ _)
      refine r_callS (ν := M_Ma_max) [vI 0, vI (x1 * v7)] ok_M_Ma_max oks_M_Ma_max (qm_10 (i := 31) rfl rfl) np_M_Ma_max rfl (by decide) (Nat.le_of_ble_eq_true rfl) rfl d_Es_known_38 (CI.k h (fun v10 σ9 h => (?_ : WM _ 41 _ _ _ _)))
      obtain ⟨h11, h⟩ := h
      refine r_iadd d_Es_known_41 h11 (?_ : WM _ 42 _ _ _ _)
      refine r_istore_n (ls' := [(2, vI (x2 + v10)), (0, vR 28), (1, vI x1), (3, vI x3)]) d_Es_known_42 rfl (by decide) rfl (?_ : WM _ 43 _ _ _ _)
      obtain ⟨h12, h⟩ := h
      refine r_iinc (ls' := [(3, vI (x3 + 1)), (2, vI (x2 + v10)), (0, vR 28), (1, vI x1)]) d_Es_known_43 rfl h12 (by decide) rfl (?_ : WM _ 46 _ _ _ _)
      refine r_goto 4 d_Es_known_46 rfl ?_
      refine r_pick (ls' := [(0, vR 28), (1, vI x1), (2, vI (x2 + v10)), (3, vI (x3 + 1))]) [2, 3, 1, 0] rfl ?_
      exact h
set_option maxRecDepth 20000 in
theorem e_Es_rank {K : St → Prop} {σ : St} (x1 : Int) (h : WM M_Es_rank 7 [(0, vR 28), (1, vI x1), (2, vI 0)] [] (ups σ 28 2 0) (QV K)) : CV M_Es_rank [vR 28, vI x1] σ K := by
  refine Con.of ok_M_Es_rank (ls := [(0, vR 28), (1, vI x1)]) rfl (Nat.le_of_ble_eq_true rfl) ?_
  refine r_aload_n d_Es_rank_0 rfl (?_ : WM _ 1 _ _ _ _)
  refine r_iconst d_Es_rank_1 (by decide) (?_ : WM _ 2 _ _ _ _)
  refine r_put (k := 28) (j := 2) 2 (by decide) rfl clk_0 (by decide) (qm_2 (i := 5) rfl rfl) rfl rfl rfl tyX0_ok rfl nmX0 d_Es_rank_2 (?_ : WM _ 5 _ _ _ _)
  refine r_iconst d_Es_rank_5 (by decide) (?_ : WM _ 6 _ _ _ _)
  refine r_istore_n (ls' := [(2, vI 0), (0, vR 28), (1, vI x1)]) d_Es_rank_6 rfl (by decide) rfl (?_ : WM _ 7 _ _ _ _)
  refine r_pick (ls' := [(0, vR 28), (1, vI x1), (2, vI 0)]) [1, 2, 0] rfl ?_
  exact h
set_option maxRecDepth 20000 in
theorem l_Es_rank_1 {K : St → Prop} {σ : St} (x1 : Int) (x2 : Int) (h : ((σ 28 4) ≤ x2 → K σ) ∧ (¬ (σ 28 4) ≤ x2 → CI M_Wa_hasHit [vR 20, vI x2] σ (fun v3 σ2 => (v3 = 0 → K σ2) ∧ (¬ v3 = 0 → (240 ≤ (σ2 28 2) → K σ2) ∧ (¬ 240 ≤ (σ2 28 2) → (0 ≤ x2) ∧ (x2 < 240) ∧ CI M_Le_taintOf [vR 3, vI (σ2 22 x2)] σ2 (fun v9 σ8 => (inR (x1 * v9)) ∧ ((x1 * v9) ≤ 0 → (inR (x2 + 1)) ∧ WM M_Es_rank 7 [(0, vR 28), (1, vI x1), (2, vI (x2 + 1))] [] σ8 (QV K)) ∧ (¬ (x1 * v9) ≤ 0 → WM M_Es_rank 65 [(0, vR 28), (1, vI x1), (2, vI x2), (3, vI (x1 * v9)), (4, vI (σ8 28 2))] [] σ8 (QV K)))))))) : WM M_Es_rank 7 [(0, vR 28), (1, vI x1), (2, vI x2)] [] σ (QV K) := by
  refine r_iload_n d_Es_rank_7 rfl (?_ : WM _ 8 _ _ _ _)
  refine r_aload_n d_Es_rank_8 rfl (?_ : WM _ 9 _ _ _ _)
  refine r_getI (k := 28) (j := 4) 4 (by decide) rfl clk_0 (by decide) (qm_2 (i := 7) rfl rfl) rfl rfl d_Es_rank_9 (y := (σ 28 4)) rfl (?_ : WM _ 12 _ _ _ _)
  refine r_icmp_ge 153 d_Es_rank_12 rfl ⟨fun c1 => (?_ : WM _ 153 _ _ _ _), fun c1 => (?_ : WM _ 15 _ _ _ _)⟩
  · replace h := h.1 c1
    exact r_return rfl d_Es_rank_153 h
  · replace h := h.2 c1
    refine r_aload_n d_Es_rank_15 rfl (?_ : WM _ 16 _ _ _ _)
    refine r_getR (k := 28) (j := 9) (q := 20) (by decide) rfl clk_0 (by decide) (qm_2 (i := 12) rfl rfl) rfl d_Es_rank_16 (?_ : WM _ 19 _ _ _ _)
    refine r_iload_n d_Es_rank_19 rfl (?_ : WM _ 20 _ _ _ _)
    refine r_callV (ν := M_Wa_hasHit) (k := 20) [vI x2] ok_M_Wa_hasHit okv_M_Wa_hasHit (by decide) rfl rfl rfl (qm_10 (i := 29) rfl rfl) np_M_Wa_hasHit rfl (by decide) (Nat.le_of_ble_eq_true rfl) rfl d_Es_rank_20 (CI.k h (fun v3 σ2 h => (?_ : WM _ 23 _ _ _ _)))
    refine r_if_eq 153 d_Es_rank_23 rfl ⟨fun c4 => (?_ : WM _ 153 _ _ _ _), fun c4 => (?_ : WM _ 26 _ _ _ _)⟩
    · replace h := h.1 c4
      exact r_return rfl d_Es_rank_153 h
    · replace h := h.2 c4
      refine r_aload_n d_Es_rank_26 rfl (?_ : WM _ 27 _ _ _ _)
      refine r_getI (k := 28) (j := 2) 2 (by decide) rfl clk_0 (by decide) (qm_2 (i := 5) rfl rfl) rfl rfl d_Es_rank_27 (y := (σ2 28 2)) rfl (?_ : WM _ 30 _ _ _ _)
      refine r_sipush d_Es_rank_30 (by decide) (by decide) (?_ : WM _ 33 _ _ _ _)
      refine r_icmp_ge 153 d_Es_rank_33 rfl ⟨fun c5 => (?_ : WM _ 153 _ _ _ _), fun c5 => (?_ : WM _ 36 _ _ _ _)⟩
      · replace h := h.1 c5
        exact r_return rfl d_Es_rank_153 h
      · replace h := h.2 c5
        refine r_iload_n d_Es_rank_36 rfl (?_ : WM _ 37 _ _ _ _)
        refine r_aload_n d_Es_rank_37 rfl (?_ : WM _ 38 _ _ _ _)
        refine r_getR (k := 28) (j := 7) (q := 3) (by decide) rfl clk_0 (by decide) (qm_2 (i := 10) rfl rfl) rfl d_Es_rank_38 (?_ : WM _ 41 _ _ _ _)
        refine r_aload_n d_Es_rank_41 rfl (?_ : WM _ 42 _ _ _ _)
        refine r_getR (k := 28) (j := 9) (q := 20) (by decide) rfl clk_0 (by decide) (qm_2 (i := 12) rfl rfl) rfl d_Es_rank_42 (?_ : WM _ 45 _ _ _ _)
        refine r_getR (k := 20) (j := 3) (q := 22) (by decide) rfl clk_9 (by decide) (qm_1 (i := 194) rfl rfl) rfl d_Es_rank_45 (?_ : WM _ 48 _ _ _ _)
        refine r_iload_n d_Es_rank_48 rfl (?_ : WM _ 49 _ _ _ _)
        obtain ⟨h6, h⟩ := h
        obtain ⟨h7, h⟩ := h
        refine r_iald (k := 22) (n := 240) (by decide) rfl d_Es_rank_49 h6 h7 (y := (σ2 22 x2)) rfl (?_ : WM _ 50 _ _ _ _)
        refine r_callV (ν := M_Le_taintOf) (k := 3) [vI (σ2 22 x2)] ok_M_Le_taintOf okv_M_Le_taintOf (by decide) rfl rfl rfl (qm_9 (i := 54) rfl rfl) np_M_Le_taintOf rfl (by decide) (Nat.le_of_ble_eq_true rfl) rfl d_Es_rank_50 (CI.k h (fun v9 σ8 h => (?_ : WM _ 53 _ _ _ _)))
        obtain ⟨h10, h⟩ := h
        refine r_imul d_Es_rank_53 h10 (?_ : WM _ 54 _ _ _ _)
        refine r_istore_n (ls' := [(3, vI (x1 * v9)), (0, vR 28), (1, vI x1), (2, vI x2)]) d_Es_rank_54 rfl (by decide) rfl (?_ : WM _ 55 _ _ _ _)
        refine r_iload_n d_Es_rank_55 rfl (?_ : WM _ 56 _ _ _ _)
        refine r_if_le 147 d_Es_rank_56 rfl ⟨fun c11 => (?_ : WM _ 147 _ _ _ _), fun c11 => (?_ : WM _ 59 _ _ _ _)⟩
        · replace h := h.1 c11
          obtain ⟨h12, h⟩ := h
          refine r_iinc (ls' := [(2, vI (x2 + 1)), (3, vI (x1 * v9)), (0, vR 28), (1, vI x1)]) d_Es_rank_147 rfl h12 (by decide) rfl (?_ : WM _ 150 _ _ _ _)
          refine r_goto 7 d_Es_rank_150 rfl ?_
          refine r_pick (ls' := [(0, vR 28), (1, vI x1), (2, vI (x2 + 1))]) [2, 3, 0] rfl ?_
          exact h
        · replace h := h.2 c11
          refine r_aload_n d_Es_rank_59 rfl (?_ : WM _ 60 _ _ _ _)
          refine r_getI (k := 28) (j := 2) 2 (by decide) rfl clk_0 (by decide) (qm_2 (i := 5) rfl rfl) rfl rfl d_Es_rank_60 (y := (σ8 28 2)) rfl (?_ : WM _ 63 _ _ _ _)
          refine r_istore (ls' := [(4, vI (σ8 28 2)), (3, vI (x1 * v9)), (0, vR 28), (1, vI x1), (2, vI x2)]) d_Es_rank_63 (by decide) rfl (?_ : WM _ 65 _ _ _ _)
          refine r_pick (ls' := [(0, vR 28), (1, vI x1), (2, vI x2), (3, vI (x1 * v9)), (4, vI (σ8 28 2))]) [2, 3, 4, 1, 0] rfl ?_
          exact h
set_option maxRecDepth 20000 in
theorem l_Es_rank_2 {K : St → Prop} {σ : St} (x1 : Int) (x2 : Int) (x3 : Int) (x4 : Int) (h : (x4 ≤ 0 → (0 ≤ x4) ∧ (x4 < 240) ∧ (inR ((σ 28 2) + 1)) ∧ (inR (x2 + 1)) ∧ WM M_Es_rank 7 [(0, vR 28), (1, vI x1), (2, vI (x2 + 1))] [] (ups (ups (ups σ 29 x4 x2) 37 x4 x3) 28 2 ((σ 28 2) + 1)) (QV K)) ∧ (¬ x4 ≤ 0 → (inR (x4 - 1)) ∧ (0 ≤ (x4 - 1)) ∧ ((x4 - 1) < 240) ∧ (x3 ≤ (σ 37 (x4 - 1)) → (0 ≤ x4) ∧ (x4 < 240) ∧ (inR ((σ 28 2) + 1)) ∧ (inR (x2 + 1)) ∧ WM M_Es_rank 7 [(0, vR 28), (1, vI x1), (2, vI (x2 + 1))] [] (ups (ups (ups σ 29 x4 x2) 37 x4 x3) 28 2 ((σ 28 2) + 1)) (QV K)) ∧ (¬ x3 ≤ (σ 37 (x4 - 1)) → (0 ≤ x4) ∧ (x4 < 240) ∧ (inR (x4 + (-1))) ∧ WM M_Es_rank 65 [(0, vR 28), (1, vI x1), (2, vI x2), (3, vI x3), (4, vI (x4 + (-1)))] [] (ups (ups σ 29 x4 (σ 29 (x4 - 1))) 37 x4 (σ 37 (x4 - 1))) (QV K)))) : WM M_Es_rank 65 [(0, vR 28), (1, vI x1), (2, vI x2), (3, vI x3), (4, vI x4)] [] σ (QV K) := by
  refine r_iload d_Es_rank_65 rfl (?_ : WM _ 67 _ _ _ _)
  refine r_if_le 121 d_Es_rank_67 rfl ⟨fun c13 => (?_ : WM _ 121 _ _ _ _), fun c13 => (?_ : WM _ 70 _ _ _ _)⟩
  · replace h := h.1 c13
    refine r_aload_n d_Es_rank_121 rfl (?_ : WM _ 122 _ _ _ _)
    refine r_getR (k := 28) (j := 0) (q := 29) (by decide) rfl clk_0 (by decide) (qm_2 (i := 1) rfl rfl) rfl d_Es_rank_122 (?_ : WM _ 125 _ _ _ _)
    refine r_iload d_Es_rank_125 rfl (?_ : WM _ 127 _ _ _ _)
    refine r_iload_n d_Es_rank_127 rfl (?_ : WM _ 128 _ _ _ _)
    obtain ⟨h14, h⟩ := h
    obtain ⟨h15, h⟩ := h
    refine r_iast (k := 29) (n := 240) (by decide) rfl d_Es_rank_128 h14 h15 (?_ : WM _ 129 _ _ _ _)
    refine r_aload_n d_Es_rank_129 rfl (?_ : WM _ 130 _ _ _ _)
    refine r_getR (k := 28) (j := 1) (q := 37) (by decide) rfl clk_0 (by decide) (qm_2 (i := 3) rfl rfl) rfl d_Es_rank_130 (?_ : WM _ 133 _ _ _ _)
    refine r_iload d_Es_rank_133 rfl (?_ : WM _ 135 _ _ _ _)
    refine r_iload_n d_Es_rank_135 rfl (?_ : WM _ 136 _ _ _ _)
    refine r_iast (k := 37) (n := 240) (by decide) rfl d_Es_rank_136 h14 h15 (?_ : WM _ 137 _ _ _ _)
    refine r_aload_n d_Es_rank_137 rfl (?_ : WM _ 138 _ _ _ _)
    refine r_dup d_Es_rank_138 rfl (?_ : WM _ 139 _ _ _ _)
    refine r_getI (k := 28) (j := 2) 2 (by decide) rfl clk_0 (by decide) (qm_2 (i := 5) rfl rfl) rfl rfl d_Es_rank_139 (y := (σ 28 2)) ((ups_c (by decide)).trans (ups_c (by decide))) (?_ : WM _ 142 _ _ _ _)
    refine r_iconst d_Es_rank_142 (by decide) (?_ : WM _ 143 _ _ _ _)
    obtain ⟨h16, h⟩ := h
    refine r_iadd d_Es_rank_143 h16 (?_ : WM _ 144 _ _ _ _)
    refine r_put (k := 28) (j := 2) 2 (by decide) rfl clk_0 (by decide) (qm_2 (i := 5) rfl rfl) rfl rfl rfl tyX0_ok rfl nmX0 d_Es_rank_144 (?_ : WM _ 147 _ _ _ _)
    obtain ⟨h17, h⟩ := h
    refine r_iinc (ls' := [(2, vI (x2 + 1)), (0, vR 28), (1, vI x1), (3, vI x3), (4, vI x4)]) d_Es_rank_147 rfl h17 (by decide) rfl (?_ : WM _ 150 _ _ _ _)
    refine r_goto 7 d_Es_rank_150 rfl ?_
    refine r_pick (ls' := [(0, vR 28), (1, vI x1), (2, vI (x2 + 1))]) [1, 2, 0] rfl ?_
    exact h
  · replace h := h.2 c13
    refine r_aload_n d_Es_rank_70 rfl (?_ : WM _ 71 _ _ _ _)
    refine r_getR (k := 28) (j := 1) (q := 37) (by decide) rfl clk_0 (by decide) (qm_2 (i := 3) rfl rfl) rfl d_Es_rank_71 (?_ : WM _ 74 _ _ _ _)
    refine r_iload d_Es_rank_74 rfl (?_ : WM _ 76 _ _ _ _)
    refine r_iconst d_Es_rank_76 (by decide) (?_ : WM _ 77 _ _ _ _)
    obtain ⟨h18, h⟩ := h
    refine r_isub d_Es_rank_77 h18 (?_ : WM _ 78 _ _ _ _)
    obtain ⟨h19, h⟩ := h
    obtain ⟨h20, h⟩ := h
    refine r_iald (k := 37) (n := 240) (by decide) rfl d_Es_rank_78 h19 h20 (y := (σ 37 (x4 - 1))) rfl (?_ : WM _ 79 _ _ _ _)
    refine r_iload_n d_Es_rank_79 rfl (?_ : WM _ 80 _ _ _ _)
    refine r_icmp_ge 121 d_Es_rank_80 rfl ⟨fun c21 => (?_ : WM _ 121 _ _ _ _), fun c21 => (?_ : WM _ 83 _ _ _ _)⟩
    · replace h := h.1 c21
      refine r_aload_n d_Es_rank_121 rfl (?_ : WM _ 122 _ _ _ _)
      refine r_getR (k := 28) (j := 0) (q := 29) (by decide) rfl clk_0 (by decide) (qm_2 (i := 1) rfl rfl) rfl d_Es_rank_122 (?_ : WM _ 125 _ _ _ _)
      refine r_iload d_Es_rank_125 rfl (?_ : WM _ 127 _ _ _ _)
      refine r_iload_n d_Es_rank_127 rfl (?_ : WM _ 128 _ _ _ _)
      obtain ⟨h22, h⟩ := h
      obtain ⟨h23, h⟩ := h
      refine r_iast (k := 29) (n := 240) (by decide) rfl d_Es_rank_128 h22 h23 (?_ : WM _ 129 _ _ _ _)
      refine r_aload_n d_Es_rank_129 rfl (?_ : WM _ 130 _ _ _ _)
      refine r_getR (k := 28) (j := 1) (q := 37) (by decide) rfl clk_0 (by decide) (qm_2 (i := 3) rfl rfl) rfl d_Es_rank_130 (?_ : WM _ 133 _ _ _ _)
      refine r_iload d_Es_rank_133 rfl (?_ : WM _ 135 _ _ _ _)
      refine r_iload_n d_Es_rank_135 rfl (?_ : WM _ 136 _ _ _ _)
      refine r_iast (k := 37) (n := 240) (by decide) rfl d_Es_rank_136 h22 h23 (?_ : WM _ 137 _ _ _ _)
      refine r_aload_n d_Es_rank_137 rfl (?_ : WM _ 138 _ _ _ _)
      refine r_dup d_Es_rank_138 rfl (?_ : WM _ 139 _ _ _ _)
      refine r_getI (k := 28) (j := 2) 2 (by decide) rfl clk_0 (by decide) (qm_2 (i := 5) rfl rfl) rfl rfl d_Es_rank_139 (y := (σ 28 2)) ((ups_c (by decide)).trans (ups_c (by decide))) (?_ : WM _ 142 _ _ _ _)
      refine r_iconst d_Es_rank_142 (by decide) (?_ : WM _ 143 _ _ _ _)
      obtain ⟨h24, h⟩ := h
      refine r_iadd d_Es_rank_143 h24 (?_ : WM _ 144 _ _ _ _)
      refine r_put (k := 28) (j := 2) 2 (by decide) rfl clk_0 (by decide) (qm_2 (i := 5) rfl rfl) rfl rfl rfl tyX0_ok rfl nmX0 d_Es_rank_144 (?_ : WM _ 147 _ _ _ _)
      obtain ⟨h25, h⟩ := h
      refine r_iinc (ls' := [(2, vI (x2 + 1)), (0, vR 28), (1, vI x1), (3, vI x3), (4, vI x4)]) d_Es_rank_147 rfl h25 (by decide) rfl (?_ : WM _ 150 _ _ _ _)
      refine r_goto 7 d_Es_rank_150 rfl ?_
      refine r_pick (ls' := [(0, vR 28), (1, vI x1), (2, vI (x2 + 1))]) [1, 2, 0] rfl ?_
      exact h
    · replace h := h.2 c21
      refine r_aload_n d_Es_rank_83 rfl (?_ : WM _ 84 _ _ _ _)
      refine r_getR (k := 28) (j := 0) (q := 29) (by decide) rfl clk_0 (by decide) (qm_2 (i := 1) rfl rfl) rfl d_Es_rank_84 (?_ : WM _ 87 _ _ _ _)
      refine r_iload d_Es_rank_87 rfl (?_ : WM _ 89 _ _ _ _)
      refine r_aload_n d_Es_rank_89 rfl (?_ : WM _ 90 _ _ _ _)
      refine r_getR (k := 28) (j := 0) (q := 29) (by decide) rfl clk_0 (by decide) (qm_2 (i := 1) rfl rfl) rfl d_Es_rank_90 (?_ : WM _ 93 _ _ _ _)
      refine r_iload d_Es_rank_93 rfl (?_ : WM _ 95 _ _ _ _)
      refine r_iconst d_Es_rank_95 (by decide) (?_ : WM _ 96 _ _ _ _)
      refine r_isub d_Es_rank_96 h18 (?_ : WM _ 97 _ _ _ _)
      refine r_iald (k := 29) (n := 240) (by decide) rfl d_Es_rank_97 h19 h20 (y := (σ 29 (x4 - 1))) rfl (?_ : WM _ 98 _ _ _ _)
      obtain ⟨h26, h⟩ := h
      obtain ⟨h27, h⟩ := h
      refine r_iast (k := 29) (n := 240) (by decide) rfl d_Es_rank_98 h26 h27 (?_ : WM _ 99 _ _ _ _)
      refine r_aload_n d_Es_rank_99 rfl (?_ : WM _ 100 _ _ _ _)
      refine r_getR (k := 28) (j := 1) (q := 37) (by decide) rfl clk_0 (by decide) (qm_2 (i := 3) rfl rfl) rfl d_Es_rank_100 (?_ : WM _ 103 _ _ _ _)
      refine r_iload d_Es_rank_103 rfl (?_ : WM _ 105 _ _ _ _)
      refine r_aload_n d_Es_rank_105 rfl (?_ : WM _ 106 _ _ _ _)
      refine r_getR (k := 28) (j := 1) (q := 37) (by decide) rfl clk_0 (by decide) (qm_2 (i := 3) rfl rfl) rfl d_Es_rank_106 (?_ : WM _ 109 _ _ _ _)
      refine r_iload d_Es_rank_109 rfl (?_ : WM _ 111 _ _ _ _)
      refine r_iconst d_Es_rank_111 (by decide) (?_ : WM _ 112 _ _ _ _)
      refine r_isub d_Es_rank_112 h18 (?_ : WM _ 113 _ _ _ _)
      refine r_iald (k := 37) (n := 240) (by decide) rfl d_Es_rank_113 h19 h20 (y := (σ 37 (x4 - 1))) (ups_c (by decide)) (?_ : WM _ 114 _ _ _ _)
      refine r_iast (k := 37) (n := 240) (by decide) rfl d_Es_rank_114 h26 h27 (?_ : WM _ 115 _ _ _ _)
      obtain ⟨h28, h⟩ := h
      refine r_iinc (ls' := [(4, vI (x4 + (-1))), (0, vR 28), (1, vI x1), (2, vI x2), (3, vI x3)]) d_Es_rank_115 rfl h28 (by decide) rfl (?_ : WM _ 118 _ _ _ _)
      refine r_goto 65 d_Es_rank_118 rfl ?_
      refine r_pick (ls' := [(0, vR 28), (1, vI x1), (2, vI x2), (3, vI x3), (4, vI (x4 + (-1)))]) [1, 2, 3, 4, 0] rfl ?_
      exact h
set_option maxRecDepth 20000 in
theorem e_Es_hasRank {K : Int → St → Prop} {σ : St} (x1 : Int) (h : (x1 < 0 → K 0 σ) ∧ (¬ x1 < 0 → ((σ 28 2) ≤ x1 → K 0 σ) ∧ (¬ (σ 28 2) ≤ x1 → K 1 σ))) : CI M_Es_hasRank [vR 28, vI x1] σ K := by
  refine Con.of ok_M_Es_hasRank (ls := [(0, vR 28), (1, vI x1)]) rfl (Nat.le_of_ble_eq_true rfl) ?_
  refine r_iload_n d_Es_hasRank_0 rfl (?_ : WM _ 1 _ _ _ _)
  refine r_if_lt 16 d_Es_hasRank_1 rfl ⟨fun c1 => (?_ : WM _ 16 _ _ _ _), fun c1 => (?_ : WM _ 4 _ _ _ _)⟩
  · replace h := h.1 c1
    refine r_iconst d_Es_hasRank_16 (by decide) (?_ : WM _ 17 _ _ _ _)
    exact r_zreturn rfl d_Es_hasRank_17 (by decide) h
  · replace h := h.2 c1
    refine r_iload_n d_Es_hasRank_4 rfl (?_ : WM _ 5 _ _ _ _)
    refine r_aload_n d_Es_hasRank_5 rfl (?_ : WM _ 6 _ _ _ _)
    refine r_getI (k := 28) (j := 2) 2 (by decide) rfl clk_0 (by decide) (qm_2 (i := 5) rfl rfl) rfl rfl d_Es_hasRank_6 (y := (σ 28 2)) rfl (?_ : WM _ 9 _ _ _ _)
    refine r_icmp_ge 16 d_Es_hasRank_9 rfl ⟨fun c2 => (?_ : WM _ 16 _ _ _ _), fun c2 => (?_ : WM _ 12 _ _ _ _)⟩
    · replace h := h.1 c2
      refine r_iconst d_Es_hasRank_16 (by decide) (?_ : WM _ 17 _ _ _ _)
      exact r_zreturn rfl d_Es_hasRank_17 (by decide) h
    · replace h := h.2 c2
      refine r_iconst d_Es_hasRank_12 (by decide) (?_ : WM _ 13 _ _ _ _)
      refine r_goto 17 d_Es_hasRank_13 rfl ?_
      exact r_zreturn rfl d_Es_hasRank_17 (by decide) h
set_option maxRecDepth 20000 in
theorem e_Es_rise {K : Int → St → Prop} {σ : St} (x1 : Int) (h : CI M_Es_hasRank [vR 28, vI x1] σ (fun v2 σ1 => (¬ v2 = 0 → (inR (x1 + 1)) ∧ CI M_Fa_upperOf [vR 26, vI (σ1 28 5), vI (x1 + 1), vI (σ1 28 6)] σ1 (fun v6 σ5 => CI M_Fa_upperOf [vR 26, vI (σ5 28 5), vI x1, vI (σ5 28 6)] σ5 (fun v8 σ7 => (inR (v6 - v8)) ∧ (inL ((σ7 16 1) * (v6 - v8))) ∧ (0 ≤ x1) ∧ (x1 < 240) ∧ (inL (((σ7 16 1) * (v6 - v8)) * (σ7 37 x1))) ∧ (0 ≤ (((σ7 16 1) * (v6 - v8)) * (σ7 37 x1))) ∧ (inR ((((σ7 16 1) * (v6 - v8)) * (σ7 37 x1)) / 10000000000)) ∧ K ((((σ7 16 1) * (v6 - v8)) * (σ7 37 x1)) / 10000000000) σ7))) ∧ (v2 = 0 → K 0 σ1))) : CI M_Es_rise [vR 28, vI x1] σ K := by
  refine Con.of ok_M_Es_rise (ls := [(0, vR 28), (1, vI x1)]) rfl (Nat.le_of_ble_eq_true rfl) ?_
  refine r_aload_n d_Es_rise_0 rfl (?_ : WM _ 1 _ _ _ _)
  refine r_iload_n d_Es_rise_1 rfl (?_ : WM _ 2 _ _ _ _)
  refine r_callV (ν := M_Es_hasRank) (k := 28) [vI x1] ok_M_Es_hasRank okv_M_Es_hasRank (by decide) rfl rfl rfl (qm_10 (i := 70) rfl rfl) np_M_Es_hasRank rfl (by decide) (Nat.le_of_ble_eq_true rfl) rfl d_Es_rise_2 (CI.k h (fun v2 σ1 h => (?_ : WM _ 5 _ _ _ _)))
  refine r_if_ne 10 d_Es_rise_5 rfl ⟨fun c3 => (?_ : WM _ 10 _ _ _ _), fun c3 => (?_ : WM _ 8 _ _ _ _)⟩
  · replace h := h.1 c3
    refine r_aload_n d_Es_rise_10 rfl (?_ : WM _ 11 _ _ _ _)
    refine r_getR (k := 28) (j := 11) (q := 26) (by decide) rfl clk_0 (by decide) (qm_2 (i := 14) rfl rfl) rfl d_Es_rise_11 (?_ : WM _ 14 _ _ _ _)
    refine r_aload_n d_Es_rise_14 rfl (?_ : WM _ 15 _ _ _ _)
    refine r_getI (k := 28) (j := 5) 5 (by decide) rfl clk_0 (by decide) (qm_2 (i := 8) rfl rfl) rfl rfl d_Es_rise_15 (y := (σ1 28 5)) rfl (?_ : WM _ 18 _ _ _ _)
    refine r_iload_n d_Es_rise_18 rfl (?_ : WM _ 19 _ _ _ _)
    refine r_iconst d_Es_rise_19 (by decide) (?_ : WM _ 20 _ _ _ _)
    obtain ⟨h4, h⟩ := h
    refine r_iadd d_Es_rise_20 h4 (?_ : WM _ 21 _ _ _ _)
    refine r_aload_n d_Es_rise_21 rfl (?_ : WM _ 22 _ _ _ _)
    refine r_getI (k := 28) (j := 6) 6 (by decide) rfl clk_0 (by decide) (qm_2 (i := 9) rfl rfl) rfl rfl d_Es_rise_22 (y := (σ1 28 6)) rfl (?_ : WM _ 25 _ _ _ _)
    refine r_callV (ν := M_Fa_upperOf) (k := 26) [vI (σ1 28 5), vI (x1 + 1), vI (σ1 28 6)] ok_M_Fa_upperOf okv_M_Fa_upperOf (by decide) rfl rfl rfl (qm_10 (i := 50) rfl rfl) np_M_Fa_upperOf rfl (by decide) (Nat.le_of_ble_eq_true rfl) rfl d_Es_rise_25 (CI.k h (fun v6 σ5 h => (?_ : WM _ 28 _ _ _ _)))
    refine r_aload_n d_Es_rise_28 rfl (?_ : WM _ 29 _ _ _ _)
    refine r_getR (k := 28) (j := 11) (q := 26) (by decide) rfl clk_0 (by decide) (qm_2 (i := 14) rfl rfl) rfl d_Es_rise_29 (?_ : WM _ 32 _ _ _ _)
    refine r_aload_n d_Es_rise_32 rfl (?_ : WM _ 33 _ _ _ _)
    refine r_getI (k := 28) (j := 5) 5 (by decide) rfl clk_0 (by decide) (qm_2 (i := 8) rfl rfl) rfl rfl d_Es_rise_33 (y := (σ5 28 5)) rfl (?_ : WM _ 36 _ _ _ _)
    refine r_iload_n d_Es_rise_36 rfl (?_ : WM _ 37 _ _ _ _)
    refine r_aload_n d_Es_rise_37 rfl (?_ : WM _ 38 _ _ _ _)
    refine r_getI (k := 28) (j := 6) 6 (by decide) rfl clk_0 (by decide) (qm_2 (i := 9) rfl rfl) rfl rfl d_Es_rise_38 (y := (σ5 28 6)) rfl (?_ : WM _ 41 _ _ _ _)
    refine r_callV (ν := M_Fa_upperOf) (k := 26) [vI (σ5 28 5), vI x1, vI (σ5 28 6)] ok_M_Fa_upperOf okv_M_Fa_upperOf (by decide) rfl rfl rfl (qm_10 (i := 50) rfl rfl) np_M_Fa_upperOf rfl (by decide) (Nat.le_of_ble_eq_true rfl) rfl d_Es_rise_41 (CI.k h (fun v8 σ7 h => (?_ : WM _ 44 _ _ _ _)))
    obtain ⟨h9, h⟩ := h
    refine r_isub d_Es_rise_44 h9 (?_ : WM _ 45 _ _ _ _)
    refine r_i2l d_Es_rise_45 (?_ : WM _ 46 _ _ _ _)
    refine r_lstore_n (ls' := [(2, vL (v6 - v8)), (0, vR 28), (1, vI x1)]) d_Es_rise_46 rfl (by decide) rfl (?_ : WM _ 47 _ _ _ _)
    refine r_aload_n d_Es_rise_47 rfl (?_ : WM _ 48 _ _ _ _)
    refine r_getR (k := 28) (j := 8) (q := 16) (by decide) rfl clk_0 (by decide) (qm_2 (i := 11) rfl rfl) rfl d_Es_rise_48 (?_ : WM _ 51 _ _ _ _)
    refine r_getI (k := 16) (j := 1) 1 (by decide) rfl clk_2 (by decide) (qm_1 (i := 160) rfl rfl) rfl rfl d_Es_rise_51 (y := (σ7 16 1)) rfl (?_ : WM _ 54 _ _ _ _)
    refine r_i2l d_Es_rise_54 (?_ : WM _ 55 _ _ _ _)
    refine r_lload_n d_Es_rise_55 rfl (?_ : WM _ 56 _ _ _ _)
    obtain ⟨h10, h⟩ := h
    refine r_lmul d_Es_rise_56 h10 (?_ : WM _ 57 _ _ _ _)
    refine r_aload_n d_Es_rise_57 rfl (?_ : WM _ 58 _ _ _ _)
    refine r_getR (k := 28) (j := 1) (q := 37) (by decide) rfl clk_0 (by decide) (qm_2 (i := 3) rfl rfl) rfl d_Es_rise_58 (?_ : WM _ 61 _ _ _ _)
    refine r_iload_n d_Es_rise_61 rfl (?_ : WM _ 62 _ _ _ _)
    obtain ⟨h11, h⟩ := h
    obtain ⟨h12, h⟩ := h
    refine r_iald (k := 37) (n := 240) (by decide) rfl d_Es_rise_62 h11 h12 (y := (σ7 37 x1)) rfl (?_ : WM _ 63 _ _ _ _)
    refine r_i2l d_Es_rise_63 (?_ : WM _ 64 _ _ _ _)
    obtain ⟨h13, h⟩ := h
    refine r_lmul d_Es_rise_64 h13 (?_ : WM _ 65 _ _ _ _)
    refine r_ldc2 10000000000 d_Es_rise_65 (qm_10 (i := 74) rfl rfl) (by decide) (by decide) (?_ : WM _ 68 _ _ _ _)
    obtain ⟨h14, h⟩ := h
    refine r_ldivn d_Es_rise_68 h14 (by decide) (?_ : WM _ 69 _ _ _ _)
    obtain ⟨h15, h⟩ := h
    refine r_l2i d_Es_rise_69 h15 (?_ : WM _ 70 _ _ _ _)
    exact r_ireturn rfl d_Es_rise_70 h
  · replace h := h.2 c3
    refine r_iconst d_Es_rise_8 (by decide) (?_ : WM _ 9 _ _ _ _)
    exact r_ireturn rfl d_Es_rise_9 h
set_option maxRecDepth 20000 in
theorem e_Es_partOf {K : Int → St → Prop} {σ : St} (x1 : Int) (x2 : Int) (h : (x1 = 0 → CI M_Es_basic [vR 28] σ (fun v2 σ1 => K v2 σ1)) ∧ (x1 = 1 → CI M_Es_rises [vR 28, vI x2] σ (fun v4 σ3 => K v4 σ3)) ∧ (x1 = 2 → CI M_Es_known [vR 28, vI x2] σ (fun v6 σ5 => K v6 σ5)) ∧ (x1 < 0 ∨ 2 < x1 → CI M_Es_limit [vR 28, vI x2] σ (fun v8 σ7 => K v8 σ7))) : CI M_Es_partOf [vR 28, vI x1, vI x2] σ K := by
  refine Con.of ok_M_Es_partOf (ls := [(0, vR 28), (1, vI x1), (2, vI x2)]) rfl (Nat.le_of_ble_eq_true rfl) ?_
  refine r_iload_n d_Es_partOf_0 rfl (?_ : WM _ 1 _ _ _ _)
  have hsw : (x1 = 0) ∨ (x1 = 1) ∨ (x1 = 2) ∨ (x1 < 0 ∨ 2 < x1) := by omega
  rcases hsw with hc | hc | hc | hc
  · replace h := h.1 hc
    refine r_tswIn 28 d_Es_partOf_1 (by omega) (by omega) (by rw [hc]; rfl) rfl ?_
    refine r_aload_n d_Es_partOf_28 rfl (?_ : WM _ 29 _ _ _ _)
    refine r_callV (ν := M_Es_basic) (k := 28) [] ok_M_Es_basic okv_M_Es_basic (by decide) rfl rfl rfl (qm_10 (i := 46) rfl rfl) np_M_Es_basic rfl (by decide) (Nat.le_of_ble_eq_true rfl) rfl d_Es_partOf_29 (CI.k h (fun v2 σ1 h => (?_ : WM _ 32 _ _ _ _)))
    exact r_ireturn rfl d_Es_partOf_32 h
  · replace h := h.2.1 hc
    refine r_tswIn 33 d_Es_partOf_1 (by omega) (by omega) (by rw [hc]; rfl) rfl ?_
    refine r_aload_n d_Es_partOf_33 rfl (?_ : WM _ 34 _ _ _ _)
    refine r_iload_n d_Es_partOf_34 rfl (?_ : WM _ 35 _ _ _ _)
    refine r_callV (ν := M_Es_rises) (k := 28) [vI x2] ok_M_Es_rises okv_M_Es_rises (by decide) rfl rfl rfl (qm_10 (i := 58) rfl rfl) np_M_Es_rises rfl (by decide) (Nat.le_of_ble_eq_true rfl) rfl d_Es_partOf_35 (CI.k h (fun v4 σ3 h => (?_ : WM _ 38 _ _ _ _)))
    exact r_ireturn rfl d_Es_partOf_38 h
  · replace h := h.2.2.1 hc
    refine r_tswIn 39 d_Es_partOf_1 (by omega) (by omega) (by rw [hc]; rfl) rfl ?_
    refine r_aload_n d_Es_partOf_39 rfl (?_ : WM _ 40 _ _ _ _)
    refine r_iload_n d_Es_partOf_40 rfl (?_ : WM _ 41 _ _ _ _)
    refine r_callV (ν := M_Es_known) (k := 28) [vI x2] ok_M_Es_known okv_M_Es_known (by decide) rfl rfl rfl (qm_10 (i := 75) rfl rfl) np_M_Es_known rfl (by decide) (Nat.le_of_ble_eq_true rfl) rfl d_Es_partOf_41 (CI.k h (fun v6 σ5 h => (?_ : WM _ 44 _ _ _ _)))
    exact r_ireturn rfl d_Es_partOf_44 h
  · replace h := h.2.2.2 hc
    refine r_tswOut 45 d_Es_partOf_1 hc rfl ?_
    refine r_aload_n d_Es_partOf_45 rfl (?_ : WM _ 46 _ _ _ _)
    refine r_iload_n d_Es_partOf_46 rfl (?_ : WM _ 47 _ _ _ _)
    refine r_callV (ν := M_Es_limit) (k := 28) [vI x2] ok_M_Es_limit okv_M_Es_limit (by decide) rfl rfl rfl (qm_10 (i := 81) rfl rfl) np_M_Es_limit rfl (by decide) (Nat.le_of_ble_eq_true rfl) rfl d_Es_partOf_47 (CI.k h (fun v8 σ7 h => (?_ : WM _ 50 _ _ _ _)))
    exact r_ireturn rfl d_Es_partOf_50 h
set_option maxRecDepth 20000 in
theorem e_Es_limit {K : Int → St → Prop} {σ : St} (x1 : Int) (h : CI M_Es_basic [vR 28] σ (fun v2 σ1 => CI M_Es_rises [vR 28, vI x1] σ1 (fun v4 σ3 => (inR (v2 + v4)) ∧ CI M_Es_known [vR 28, vI x1] σ3 (fun v7 σ6 => (inR ((v2 + v4) + v7)) ∧ CI M_Te_of [vR 14, vI 3] σ6 (fun v10 σ9 => (¬ v10 = 0 → (inR (-x1)) ∧ CI M_Es_known [vR 28, vI (-x1)] σ9 (fun v14 σ13 => (inR (((v2 + v4) + v7) - v14)) ∧ CI M_Es_projection [vR 28, vI (-x1)] σ13 (fun v17 σ16 => (inR ((((v2 + v4) + v7) - v14) - v17)) ∧ K ((((v2 + v4) + v7) - v14) - v17) σ16))) ∧ (v10 = 0 → K ((v2 + v4) + v7) σ9)))))) : CI M_Es_limit [vR 28, vI x1] σ K := by
  refine Con.of ok_M_Es_limit (ls := [(0, vR 28), (1, vI x1)]) rfl (Nat.le_of_ble_eq_true rfl) ?_
  refine r_aload_n d_Es_limit_0 rfl (?_ : WM _ 1 _ _ _ _)
  refine r_callV (ν := M_Es_basic) (k := 28) [] ok_M_Es_basic okv_M_Es_basic (by decide) rfl rfl rfl (qm_10 (i := 46) rfl rfl) np_M_Es_basic rfl (by decide) (Nat.le_of_ble_eq_true rfl) rfl d_Es_limit_1 (CI.k h (fun v2 σ1 h => (?_ : WM _ 4 _ _ _ _)))
  refine r_aload_n d_Es_limit_4 rfl (?_ : WM _ 5 _ _ _ _)
  refine r_iload_n d_Es_limit_5 rfl (?_ : WM _ 6 _ _ _ _)
  refine r_callV (ν := M_Es_rises) (k := 28) [vI x1] ok_M_Es_rises okv_M_Es_rises (by decide) rfl rfl rfl (qm_10 (i := 58) rfl rfl) np_M_Es_rises rfl (by decide) (Nat.le_of_ble_eq_true rfl) rfl d_Es_limit_6 (CI.k h (fun v4 σ3 h => (?_ : WM _ 9 _ _ _ _)))
  obtain ⟨h5, h⟩ := h
  refine r_iadd d_Es_limit_9 h5 (?_ : WM _ 10 _ _ _ _)
  refine r_aload_n d_Es_limit_10 rfl (?_ : WM _ 11 _ _ _ _)
  refine r_iload_n d_Es_limit_11 rfl (?_ : WM _ 12 _ _ _ _)
  refine r_callV (ν := M_Es_known) (k := 28) [vI x1] ok_M_Es_known okv_M_Es_known (by decide) rfl rfl rfl (qm_10 (i := 75) rfl rfl) np_M_Es_known rfl (by decide) (Nat.le_of_ble_eq_true rfl) rfl d_Es_limit_12 (CI.k h (fun v7 σ6 h => (?_ : WM _ 15 _ _ _ _)))
  obtain ⟨h8, h⟩ := h
  refine r_iadd d_Es_limit_15 h8 (?_ : WM _ 16 _ _ _ _)
  refine r_istore_n (ls' := [(2, vI ((v2 + v4) + v7)), (0, vR 28), (1, vI x1)]) d_Es_limit_16 rfl (by decide) rfl (?_ : WM _ 17 _ _ _ _)
  refine r_aload_n d_Es_limit_17 rfl (?_ : WM _ 18 _ _ _ _)
  refine r_getR (k := 28) (j := 10) (q := 14) (by decide) rfl clk_0 (by decide) (qm_2 (i := 13) rfl rfl) rfl d_Es_limit_18 (?_ : WM _ 21 _ _ _ _)
  refine r_iconst d_Es_limit_21 (by decide) (?_ : WM _ 22 _ _ _ _)
  refine r_callV (ν := M_Te_of) (k := 14) [vI 3] ok_M_Te_of okv_M_Te_of (by decide) rfl rfl rfl (qm_9 (i := 40) rfl rfl) np_M_Te_of rfl (by decide) (Nat.le_of_ble_eq_true rfl) rfl d_Es_limit_22 (CI.k h (fun v10 σ9 h => (?_ : WM _ 25 _ _ _ _)))
  refine r_if_ne 30 d_Es_limit_25 rfl ⟨fun c11 => (?_ : WM _ 30 _ _ _ _), fun c11 => (?_ : WM _ 28 _ _ _ _)⟩
  · replace h := h.1 c11
    refine r_iload_n d_Es_limit_30 rfl (?_ : WM _ 31 _ _ _ _)
    refine r_aload_n d_Es_limit_31 rfl (?_ : WM _ 32 _ _ _ _)
    refine r_iload_n d_Es_limit_32 rfl (?_ : WM _ 33 _ _ _ _)
    obtain ⟨h12, h⟩ := h
    refine r_ineg d_Es_limit_33 h12 (?_ : WM _ 34 _ _ _ _)
    refine r_callV (ν := M_Es_known) (k := 28) [vI (-x1)] ok_M_Es_known okv_M_Es_known (by decide) rfl rfl rfl (qm_10 (i := 75) rfl rfl) np_M_Es_known rfl (by decide) (Nat.le_of_ble_eq_true rfl) rfl d_Es_limit_34 (CI.k h (fun v14 σ13 h => (?_ : WM _ 37 _ _ _ _)))
    obtain ⟨h15, h⟩ := h
    refine r_isub d_Es_limit_37 h15 (?_ : WM _ 38 _ _ _ _)
    refine r_aload_n d_Es_limit_38 rfl (?_ : WM _ 39 _ _ _ _)
    refine r_iload_n d_Es_limit_39 rfl (?_ : WM _ 40 _ _ _ _)
    refine r_ineg d_Es_limit_40 h12 (?_ : WM _ 41 _ _ _ _)
    refine r_callV (ν := M_Es_projection) (k := 28) [vI (-x1)] ok_M_Es_projection okv_M_Es_projection (by decide) rfl rfl rfl (qm_10 (i := 76) rfl rfl) np_M_Es_projection rfl (by decide) (Nat.le_of_ble_eq_true rfl) rfl d_Es_limit_41 (CI.k h (fun v17 σ16 h => (?_ : WM _ 44 _ _ _ _)))
    obtain ⟨h18, h⟩ := h
    refine r_isub d_Es_limit_44 h18 (?_ : WM _ 45 _ _ _ _)
    exact r_ireturn rfl d_Es_limit_45 h
  · replace h := h.2 c11
    refine r_iload_n d_Es_limit_28 rfl (?_ : WM _ 29 _ _ _ _)
    exact r_ireturn rfl d_Es_limit_29 h
set_option maxRecDepth 20000 in
theorem e_Wa_lackingBy {K : Int → St → Prop} {σ : St} (x2 : Int) (h : WM M_Wa_lackingBy 5 [(0, vR 20), (1, vR 3), (2, vI x2), (3, vI 0), (4, vI 0)] [] σ (QI K)) : CI M_Wa_lackingBy [vR 20, vR 3, vI x2] σ K := by
  refine Con.of ok_M_Wa_lackingBy (ls := [(0, vR 20), (1, vR 3), (2, vI x2)]) rfl (Nat.le_of_ble_eq_true rfl) ?_
  refine r_iconst d_Wa_lackingBy_0 (by decide) (?_ : WM _ 1 _ _ _ _)
  refine r_istore_n (ls' := [(3, vI 0), (0, vR 20), (1, vR 3), (2, vI x2)]) d_Wa_lackingBy_1 rfl (by decide) rfl (?_ : WM _ 2 _ _ _ _)
  refine r_iconst d_Wa_lackingBy_2 (by decide) (?_ : WM _ 3 _ _ _ _)
  refine r_istore (ls' := [(4, vI 0), (3, vI 0), (0, vR 20), (1, vR 3), (2, vI x2)]) d_Wa_lackingBy_3 (by decide) rfl (?_ : WM _ 5 _ _ _ _)
  refine r_pick (ls' := [(0, vR 20), (1, vR 3), (2, vI x2), (3, vI 0), (4, vI 0)]) [2, 3, 4, 1, 0] rfl ?_
  exact h
set_option maxRecDepth 20000 in
theorem l_Wa_lackingBy_1 {K : Int → St → Prop} {σ : St} (x2 : Int) (x3 : Int) (x4 : Int) (h : ((σ 3 4) ≤ x4 → K x3 σ) ∧ (¬ (σ 3 4) ≤ x4 → CI M_Le_isAudited [vR 3, vI x4] σ (fun v3 σ2 => (¬ v3 = 0 → (inR (x4 + 1)) ∧ WM M_Wa_lackingBy 5 [(0, vR 20), (1, vR 3), (2, vI x2), (3, vI x3), (4, vI (x4 + 1))] [] σ2 (QI K)) ∧ (v3 = 0 → CI M_Wa_isLookedAt [vR 20, vI x4, vI x2] σ2 (fun v7 σ6 => (v7 = 0 → (inR (x4 + 1)) ∧ WM M_Wa_lackingBy 5 [(0, vR 20), (1, vR 3), (2, vI x2), (3, vI x3), (4, vI (x4 + 1))] [] σ6 (QI K)) ∧ (¬ v7 = 0 → (inR (x3 + 1)) ∧ (inR (x4 + 1)) ∧ WM M_Wa_lackingBy 5 [(0, vR 20), (1, vR 3), (2, vI x2), (3, vI (x3 + 1)), (4, vI (x4 + 1))] [] σ6 (QI K))))))) : WM M_Wa_lackingBy 5 [(0, vR 20), (1, vR 3), (2, vI x2), (3, vI x3), (4, vI x4)] [] σ (QI K) := by
  refine r_iload d_Wa_lackingBy_5 rfl (?_ : WM _ 7 _ _ _ _)
  refine r_aload_n d_Wa_lackingBy_7 rfl (?_ : WM _ 8 _ _ _ _)
  refine r_getI (k := 3) (j := 4) 4 (by decide) rfl clk_3 (by decide) (qm_1 (i := 95) rfl rfl) rfl rfl d_Wa_lackingBy_8 (y := (σ 3 4)) rfl (?_ : WM _ 11 _ _ _ _)
  refine r_icmp_ge 42 d_Wa_lackingBy_11 rfl ⟨fun c1 => (?_ : WM _ 42 _ _ _ _), fun c1 => (?_ : WM _ 14 _ _ _ _)⟩
  · replace h := h.1 c1
    refine r_iload_n d_Wa_lackingBy_42 rfl (?_ : WM _ 43 _ _ _ _)
    exact r_ireturn rfl d_Wa_lackingBy_43 h
  · replace h := h.2 c1
    refine r_aload_n d_Wa_lackingBy_14 rfl (?_ : WM _ 15 _ _ _ _)
    refine r_iload d_Wa_lackingBy_15 rfl (?_ : WM _ 17 _ _ _ _)
    refine r_callV (ν := M_Le_isAudited) (k := 3) [vI x4] ok_M_Le_isAudited okv_M_Le_isAudited (by decide) rfl rfl rfl (qm_10 (i := 101) rfl rfl) np_M_Le_isAudited rfl (by decide) (Nat.le_of_ble_eq_true rfl) rfl d_Wa_lackingBy_17 (CI.k h (fun v3 σ2 h => (?_ : WM _ 20 _ _ _ _)))
    refine r_if_ne 36 d_Wa_lackingBy_20 rfl ⟨fun c4 => (?_ : WM _ 36 _ _ _ _), fun c4 => (?_ : WM _ 23 _ _ _ _)⟩
    · replace h := h.1 c4
      obtain ⟨h5, h⟩ := h
      refine r_iinc (ls' := [(4, vI (x4 + 1)), (0, vR 20), (1, vR 3), (2, vI x2), (3, vI x3)]) d_Wa_lackingBy_36 rfl h5 (by decide) rfl (?_ : WM _ 39 _ _ _ _)
      refine r_goto 5 d_Wa_lackingBy_39 rfl ?_
      refine r_pick (ls' := [(0, vR 20), (1, vR 3), (2, vI x2), (3, vI x3), (4, vI (x4 + 1))]) [1, 2, 3, 4, 0] rfl ?_
      exact h
    · replace h := h.2 c4
      refine r_aload_n d_Wa_lackingBy_23 rfl (?_ : WM _ 24 _ _ _ _)
      refine r_iload d_Wa_lackingBy_24 rfl (?_ : WM _ 26 _ _ _ _)
      refine r_iload_n d_Wa_lackingBy_26 rfl (?_ : WM _ 27 _ _ _ _)
      refine r_callV (ν := M_Wa_isLookedAt) (k := 20) [vI x4, vI x2] ok_M_Wa_isLookedAt okv_M_Wa_isLookedAt (by decide) rfl rfl rfl (qm_10 (i := 102) rfl rfl) np_M_Wa_isLookedAt rfl (by decide) (Nat.le_of_ble_eq_true rfl) rfl d_Wa_lackingBy_27 (CI.k h (fun v7 σ6 h => (?_ : WM _ 30 _ _ _ _)))
      refine r_if_eq 36 d_Wa_lackingBy_30 rfl ⟨fun c8 => (?_ : WM _ 36 _ _ _ _), fun c8 => (?_ : WM _ 33 _ _ _ _)⟩
      · replace h := h.1 c8
        obtain ⟨h9, h⟩ := h
        refine r_iinc (ls' := [(4, vI (x4 + 1)), (0, vR 20), (1, vR 3), (2, vI x2), (3, vI x3)]) d_Wa_lackingBy_36 rfl h9 (by decide) rfl (?_ : WM _ 39 _ _ _ _)
        refine r_goto 5 d_Wa_lackingBy_39 rfl ?_
        refine r_pick (ls' := [(0, vR 20), (1, vR 3), (2, vI x2), (3, vI x3), (4, vI (x4 + 1))]) [1, 2, 3, 4, 0] rfl ?_
        exact h
      · replace h := h.2 c8
        obtain ⟨h10, h⟩ := h
        refine r_iinc (ls' := [(3, vI (x3 + 1)), (0, vR 20), (1, vR 3), (2, vI x2), (4, vI x4)]) d_Wa_lackingBy_33 rfl h10 (by decide) rfl (?_ : WM _ 36 _ _ _ _)
        obtain ⟨h11, h⟩ := h
        refine r_iinc (ls' := [(4, vI (x4 + 1)), (3, vI (x3 + 1)), (0, vR 20), (1, vR 3), (2, vI x2)]) d_Wa_lackingBy_36 rfl h11 (by decide) rfl (?_ : WM _ 39 _ _ _ _)
        refine r_goto 5 d_Wa_lackingBy_39 rfl ?_
        refine r_pick (ls' := [(0, vR 20), (1, vR 3), (2, vI x2), (3, vI (x3 + 1)), (4, vI (x4 + 1))]) [2, 3, 4, 1, 0] rfl ?_
        exact h
set_option maxRecDepth 20000 in
theorem e_Es_isAccepted {K : Int → St → Prop} {σ : St}  (h : CI M_Es_limit [vR 28, vI 1] σ (fun v2 σ1 => CI M_Te_of [vR 14, vI 0] σ1 (fun v4 σ3 => (v4 < v2 → K 0 σ3) ∧ (¬ v4 < v2 → K 1 σ3)))) : CI M_Es_isAccepted [vR 28] σ K := by
  refine Con.of ok_M_Es_isAccepted (ls := [(0, vR 28)]) rfl (Nat.le_of_ble_eq_true rfl) ?_
  refine r_aload_n d_Es_isAccepted_0 rfl (?_ : WM _ 1 _ _ _ _)
  refine r_iconst d_Es_isAccepted_1 (by decide) (?_ : WM _ 2 _ _ _ _)
  refine r_callV (ν := M_Es_limit) (k := 28) [vI 1] ok_M_Es_limit okv_M_Es_limit (by decide) rfl rfl rfl (qm_10 (i := 81) rfl rfl) np_M_Es_limit rfl (by decide) (Nat.le_of_ble_eq_true rfl) rfl d_Es_isAccepted_2 (CI.k h (fun v2 σ1 h => (?_ : WM _ 5 _ _ _ _)))
  refine r_aload_n d_Es_isAccepted_5 rfl (?_ : WM _ 6 _ _ _ _)
  refine r_getR (k := 28) (j := 10) (q := 14) (by decide) rfl clk_0 (by decide) (qm_2 (i := 13) rfl rfl) rfl d_Es_isAccepted_6 (?_ : WM _ 9 _ _ _ _)
  refine r_iconst d_Es_isAccepted_9 (by decide) (?_ : WM _ 10 _ _ _ _)
  refine r_callV (ν := M_Te_of) (k := 14) [vI 0] ok_M_Te_of okv_M_Te_of (by decide) rfl rfl rfl (qm_9 (i := 40) rfl rfl) np_M_Te_of rfl (by decide) (Nat.le_of_ble_eq_true rfl) rfl d_Es_isAccepted_10 (CI.k h (fun v4 σ3 h => (?_ : WM _ 13 _ _ _ _)))
  refine r_icmp_gt 20 d_Es_isAccepted_13 rfl ⟨fun c5 => (?_ : WM _ 20 _ _ _ _), fun c5 => (?_ : WM _ 16 _ _ _ _)⟩
  · replace h := h.1 c5
    refine r_iconst d_Es_isAccepted_20 (by decide) (?_ : WM _ 21 _ _ _ _)
    exact r_zreturn rfl d_Es_isAccepted_21 (by decide) h
  · replace h := h.2 c5
    refine r_iconst d_Es_isAccepted_16 (by decide) (?_ : WM _ 17 _ _ _ _)
    refine r_goto 21 d_Es_isAccepted_17 rfl ?_
    exact r_zreturn rfl d_Es_isAccepted_21 (by decide) h
set_option maxRecDepth 20000 in
theorem e_Wa_isLookedAt {K : Int → St → Prop} {σ : St} (x1 : Int) (x2 : Int) (h : CI M_La_isCertain [vR 16, vI x1] σ (fun v2 σ1 => (¬ v2 = 0 → K 1 σ1) ∧ (v2 = 0 → CI M_Wa_timesHit [vR 20, vI x1, vI x2] σ1 (fun v5 σ4 => (v5 ≤ 0 → K 0 σ4) ∧ (¬ v5 ≤ 0 → K 1 σ4))))) : CI M_Wa_isLookedAt [vR 20, vI x1, vI x2] σ K := by
  refine Con.of ok_M_Wa_isLookedAt (ls := [(0, vR 20), (1, vI x1), (2, vI x2)]) rfl (Nat.le_of_ble_eq_true rfl) ?_
  refine r_aload_n d_Wa_isLookedAt_0 rfl (?_ : WM _ 1 _ _ _ _)
  refine r_getR (k := 20) (j := 7) (q := 16) (by decide) rfl clk_9 (by decide) (qm_1 (i := 201) rfl rfl) rfl d_Wa_isLookedAt_1 (?_ : WM _ 4 _ _ _ _)
  refine r_iload_n d_Wa_isLookedAt_4 rfl (?_ : WM _ 5 _ _ _ _)
  refine r_callV (ν := M_La_isCertain) (k := 16) [vI x1] ok_M_La_isCertain okv_M_La_isCertain (by decide) rfl rfl rfl (qm_9 (i := 216) rfl rfl) np_M_La_isCertain rfl (by decide) (Nat.le_of_ble_eq_true rfl) rfl d_Wa_isLookedAt_5 (CI.k h (fun v2 σ1 h => (?_ : WM _ 8 _ _ _ _)))
  refine r_if_ne 20 d_Wa_isLookedAt_8 rfl ⟨fun c3 => (?_ : WM _ 20 _ _ _ _), fun c3 => (?_ : WM _ 11 _ _ _ _)⟩
  · replace h := h.1 c3
    refine r_iconst d_Wa_isLookedAt_20 (by decide) (?_ : WM _ 21 _ _ _ _)
    refine r_goto 25 d_Wa_isLookedAt_21 rfl ?_
    exact r_zreturn rfl d_Wa_isLookedAt_25 (by decide) h
  · replace h := h.2 c3
    refine r_aload_n d_Wa_isLookedAt_11 rfl (?_ : WM _ 12 _ _ _ _)
    refine r_iload_n d_Wa_isLookedAt_12 rfl (?_ : WM _ 13 _ _ _ _)
    refine r_iload_n d_Wa_isLookedAt_13 rfl (?_ : WM _ 14 _ _ _ _)
    refine r_callV (ν := M_Wa_timesHit) (k := 20) [vI x1, vI x2] ok_M_Wa_timesHit okv_M_Wa_timesHit (by decide) rfl rfl rfl (qm_9 (i := 217) rfl rfl) np_M_Wa_timesHit rfl (by decide) (Nat.le_of_ble_eq_true rfl) rfl d_Wa_isLookedAt_14 (CI.k h (fun v5 σ4 h => (?_ : WM _ 17 _ _ _ _)))
    refine r_if_le 24 d_Wa_isLookedAt_17 rfl ⟨fun c6 => (?_ : WM _ 24 _ _ _ _), fun c6 => (?_ : WM _ 20 _ _ _ _)⟩
    · replace h := h.1 c6
      refine r_iconst d_Wa_isLookedAt_24 (by decide) (?_ : WM _ 25 _ _ _ _)
      exact r_zreturn rfl d_Wa_isLookedAt_25 (by decide) h
    · replace h := h.2 c6
      refine r_iconst d_Wa_isLookedAt_20 (by decide) (?_ : WM _ 21 _ _ _ _)
      refine r_goto 25 d_Wa_isLookedAt_21 rfl ?_
      exact r_zreturn rfl d_Wa_isLookedAt_25 (by decide) h
set_option maxRecDepth 20000 in
theorem e_Wa_hitsOf {K : Int → St → Prop} {σ : St} (x1 : Int) (h : (inR (x1 - 1)) ∧ CI M_Wa_hasRun [vR 20, vI (x1 - 1)] σ (fun v3 σ2 => (v3 = 0 → K 0 σ2) ∧ (¬ v3 = 0 → (0 ≤ (x1 - 1)) ∧ ((x1 - 1) < 5) ∧ K (σ2 25 (x1 - 1)) σ2))) : CI M_Wa_hitsOf [vR 20, vI x1] σ K := by
  refine Con.of ok_M_Wa_hitsOf (ls := [(0, vR 20), (1, vI x1)]) rfl (Nat.le_of_ble_eq_true rfl) ?_
  refine r_aload_n d_Wa_hitsOf_0 rfl (?_ : WM _ 1 _ _ _ _)
  refine r_iload_n d_Wa_hitsOf_1 rfl (?_ : WM _ 2 _ _ _ _)
  refine r_iconst d_Wa_hitsOf_2 (by decide) (?_ : WM _ 3 _ _ _ _)
  obtain ⟨h1, h⟩ := h
  refine r_isub d_Wa_hitsOf_3 h1 (?_ : WM _ 4 _ _ _ _)
  refine r_callV (ν := M_Wa_hasRun) (k := 20) [vI (x1 - 1)] ok_M_Wa_hasRun okv_M_Wa_hasRun (by decide) rfl rfl rfl (qm_6 (i := 96) rfl rfl) np_M_Wa_hasRun rfl (by decide) (Nat.le_of_ble_eq_true rfl) rfl d_Wa_hitsOf_4 (CI.k h (fun v3 σ2 h => (?_ : WM _ 7 _ _ _ _)))
  refine r_if_eq 21 d_Wa_hitsOf_7 rfl ⟨fun c4 => (?_ : WM _ 21 _ _ _ _), fun c4 => (?_ : WM _ 10 _ _ _ _)⟩
  · replace h := h.1 c4
    refine r_iconst d_Wa_hitsOf_21 (by decide) (?_ : WM _ 22 _ _ _ _)
    exact r_ireturn rfl d_Wa_hitsOf_22 h
  · replace h := h.2 c4
    refine r_aload_n d_Wa_hitsOf_10 rfl (?_ : WM _ 11 _ _ _ _)
    refine r_getR (k := 20) (j := 6) (q := 25) (by decide) rfl clk_9 (by decide) (qm_1 (i := 200) rfl rfl) rfl d_Wa_hitsOf_11 (?_ : WM _ 14 _ _ _ _)
    refine r_iload_n d_Wa_hitsOf_14 rfl (?_ : WM _ 15 _ _ _ _)
    refine r_iconst d_Wa_hitsOf_15 (by decide) (?_ : WM _ 16 _ _ _ _)
    refine r_isub d_Wa_hitsOf_16 h1 (?_ : WM _ 17 _ _ _ _)
    obtain ⟨h5, h⟩ := h
    obtain ⟨h6, h⟩ := h
    refine r_iald (k := 25) (n := 5) (by decide) rfl d_Wa_hitsOf_17 h5 h6 (y := (σ2 25 (x1 - 1))) rfl (?_ : WM _ 18 _ _ _ _)
    refine r_goto 22 d_Wa_hitsOf_18 rfl ?_
    exact r_ireturn rfl d_Wa_hitsOf_22 h
set_option maxRecDepth 20000 in
theorem e_Re_skipBlanks {K : St → Prop} {σ : St}  (h : WM M_Re_skipBlanks 0 [(0, vR 8)] [] σ (QV K)) : CV M_Re_skipBlanks [vR 8] σ K := by
  refine Con.of ok_M_Re_skipBlanks (ls := [(0, vR 8)]) rfl (Nat.le_of_ble_eq_true rfl) ?_
  exact h
set_option maxRecDepth 20000 in
theorem l_Re_skipBlanks_1 {K : St → Prop} {σ : St}  (h : ((σ 8 4) ≤ (σ 8 5) → K σ) ∧ (¬ (σ 8 4) ≤ (σ 8 5) → CI M_Re_here [vR 8] σ (fun v3 σ2 => (¬ v3 = 32 → K σ2) ∧ (v3 = 32 → (inR ((σ2 8 5) + 1)) ∧ WM M_Re_skipBlanks 0 [(0, vR 8)] [] (ups σ2 8 5 ((σ2 8 5) + 1)) (QV K))))) : WM M_Re_skipBlanks 0 [(0, vR 8)] [] σ (QV K) := by
  refine r_aload_n d_Re_skipBlanks_0 rfl (?_ : WM _ 1 _ _ _ _)
  refine r_getI (k := 8) (j := 5) 5 (by decide) rfl clk_5 (by decide) (qm_1 (i := 124) rfl rfl) rfl rfl d_Re_skipBlanks_1 (y := (σ 8 5)) rfl (?_ : WM _ 4 _ _ _ _)
  refine r_aload_n d_Re_skipBlanks_4 rfl (?_ : WM _ 5 _ _ _ _)
  refine r_getI (k := 8) (j := 4) 4 (by decide) rfl clk_5 (by decide) (qm_1 (i := 123) rfl rfl) rfl rfl d_Re_skipBlanks_5 (y := (σ 8 4)) rfl (?_ : WM _ 8 _ _ _ _)
  refine r_icmp_ge 33 d_Re_skipBlanks_8 rfl ⟨fun c1 => (?_ : WM _ 33 _ _ _ _), fun c1 => (?_ : WM _ 11 _ _ _ _)⟩
  · replace h := h.1 c1
    exact r_return rfl d_Re_skipBlanks_33 h
  · replace h := h.2 c1
    refine r_aload_n d_Re_skipBlanks_11 rfl (?_ : WM _ 12 _ _ _ _)
    refine r_callV (ν := M_Re_here) (k := 8) [] ok_M_Re_here okv_M_Re_here (by decide) rfl rfl rfl (qm_5 (i := 9) rfl rfl) np_M_Re_here rfl (by decide) (Nat.le_of_ble_eq_true rfl) rfl d_Re_skipBlanks_12 (CI.k h (fun v3 σ2 h => (?_ : WM _ 15 _ _ _ _)))
    refine r_bipush d_Re_skipBlanks_15 (by decide) (by decide) (?_ : WM _ 17 _ _ _ _)
    refine r_icmp_ne 33 d_Re_skipBlanks_17 rfl ⟨fun c4 => (?_ : WM _ 33 _ _ _ _), fun c4 => (?_ : WM _ 20 _ _ _ _)⟩
    · replace h := h.1 c4
      exact r_return rfl d_Re_skipBlanks_33 h
    · replace h := h.2 c4
      refine r_aload_n d_Re_skipBlanks_20 rfl (?_ : WM _ 21 _ _ _ _)
      refine r_dup d_Re_skipBlanks_21 rfl (?_ : WM _ 22 _ _ _ _)
      refine r_getI (k := 8) (j := 5) 5 (by decide) rfl clk_5 (by decide) (qm_1 (i := 124) rfl rfl) rfl rfl d_Re_skipBlanks_22 (y := (σ2 8 5)) rfl (?_ : WM _ 25 _ _ _ _)
      refine r_iconst d_Re_skipBlanks_25 (by decide) (?_ : WM _ 26 _ _ _ _)
      obtain ⟨h5, h⟩ := h
      refine r_iadd d_Re_skipBlanks_26 h5 (?_ : WM _ 27 _ _ _ _)
      refine r_put (k := 8) (j := 5) 5 (by decide) rfl clk_5 (by decide) (qm_1 (i := 124) rfl rfl) rfl rfl rfl tyX5_ok rfl nmX5 d_Re_skipBlanks_27 (?_ : WM _ 30 _ _ _ _)
      refine r_goto 0 d_Re_skipBlanks_30 rfl ?_
      exact h
set_option maxRecDepth 20000 in
theorem e_Re_readLine {K : St → Prop} {σ : St}  (h : CV M_Re_skipWord [vR 8] σ (fun σ1 => CI M_Re_isWord [vR 8, vI (σ 8 5), vR 62] σ1 (fun v4 σ3 => (¬ v4 = 0 → CI M_Re_readNumber [vR 8, vI 99] σ3 (fun v7 σ6 => CI M_Re_readNumber [vR 8, vI 9999] σ6 (fun v9 σ8 => CI M_Re_skipSign [vR 8, vI 45] σ8 (fun v11 σ10 => (v11 = 0 → CI M_Re_readNumber [vR 8, vI 99999] σ10 (fun v14 σ13 => ((σ13 8 1) = 0 → CI M_Re_takeItem [vR 8, vI v7, vI v9, vI v14] σ13 (fun v17 σ16 => (¬ v17 = 0 → CI M_Re_skipSign [vR 8, vI 59] σ16 (fun v20 σ19 => (¬ v20 = 0 → K σ19) ∧ (v20 = 0 → CV M_Re_fail [vR 8, vI 1, vI (σ19 8 5)] σ19 (fun σ22 => K σ22)))) ∧ (v17 = 0 → CV M_Re_fail [vR 8, vI 3, vI (σ 8 5)] σ16 (fun σ24 => K σ24)))) ∧ (¬ (σ13 8 1) = 0 → K σ13))) ∧ (¬ v11 = 0 → CI M_Re_readNumber [vR 8, vI 99999] σ10 (fun v27 σ26 => ((σ26 8 1) = 0 → (inR (-v27)) ∧ CI M_Re_takeItem [vR 8, vI v7, vI v9, vI (-v27)] σ26 (fun v31 σ30 => (¬ v31 = 0 → CI M_Re_skipSign [vR 8, vI 59] σ30 (fun v34 σ33 => (¬ v34 = 0 → K σ33) ∧ (v34 = 0 → CV M_Re_fail [vR 8, vI 1, vI (σ33 8 5)] σ33 (fun σ36 => K σ36)))) ∧ (v31 = 0 → CV M_Re_fail [vR 8, vI 3, vI (σ 8 5)] σ30 (fun σ38 => K σ38)))) ∧ (¬ (σ26 8 1) = 0 → K σ26))))))) ∧ (v4 = 0 → CI M_Re_isWord [vR 8, vI (σ 8 5), vR 63] σ3 (fun v41 σ40 => (¬ v41 = 0 → CI M_Re_readNumber [vR 8, vI 99] σ40 (fun v44 σ43 => CI M_Re_readNumber [vR 8, vI 9999] σ43 (fun v46 σ45 => CI M_Re_readNumber [vR 8, vI 99999] σ45 (fun v48 σ47 => ((σ47 8 1) = 0 → CI M_Re_takeAudit [vR 8, vI v44, vI v46, vI v48] σ47 (fun v51 σ50 => (¬ v51 = 0 → CI M_Re_skipSign [vR 8, vI 59] σ50 (fun v54 σ53 => (¬ v54 = 0 → K σ53) ∧ (v54 = 0 → CV M_Re_fail [vR 8, vI 1, vI (σ53 8 5)] σ53 (fun σ56 => K σ56)))) ∧ (v51 = 0 → CV M_Re_fail [vR 8, vI 3, vI (σ 8 5)] σ50 (fun σ58 => K σ58)))) ∧ (¬ (σ47 8 1) = 0 → K σ47))))) ∧ (v41 = 0 → CV M_Re_fail [vR 8, vI 1, vI (σ 8 5)] σ40 (fun σ60 => CI M_Re_readNumber [vR 8, vI 99] σ60 (fun v63 σ62 => CI M_Re_readNumber [vR 8, vI 9999] σ62 (fun v65 σ64 => CI M_Re_readNumber [vR 8, vI 99999] σ64 (fun v67 σ66 => ((σ66 8 1) = 0 → CI M_Re_takeAudit [vR 8, vI v63, vI v65, vI v67] σ66 (fun v70 σ69 => (¬ v70 = 0 → CI M_Re_skipSign [vR 8, vI 59] σ69 (fun v73 σ72 => (¬ v73 = 0 → K σ72) ∧ (v73 = 0 → CV M_Re_fail [vR 8, vI 1, vI (σ72 8 5)] σ72 (fun σ75 => K σ75)))) ∧ (v70 = 0 → CV M_Re_fail [vR 8, vI 3, vI (σ 8 5)] σ69 (fun σ77 => K σ77)))) ∧ (¬ (σ66 8 1) = 0 → K σ66))))))))))) : CV M_Re_readLine [vR 8] σ K := by
  refine Con.of ok_M_Re_readLine (ls := [(0, vR 8)]) rfl (Nat.le_of_ble_eq_true rfl) ?_
  refine r_aload_n d_Re_readLine_0 rfl (?_ : WM _ 1 _ _ _ _)
  refine r_getI (k := 8) (j := 5) 5 (by decide) rfl clk_5 (by decide) (qm_1 (i := 124) rfl rfl) rfl rfl d_Re_readLine_1 (y := (σ 8 5)) rfl (?_ : WM _ 4 _ _ _ _)
  refine r_istore_n (ls' := [(1, vI (σ 8 5)), (0, vR 8)]) d_Re_readLine_4 rfl (by decide) rfl (?_ : WM _ 5 _ _ _ _)
  refine r_aload_n d_Re_readLine_5 rfl (?_ : WM _ 6 _ _ _ _)
  refine r_callV (ν := M_Re_skipWord) (k := 8) [] ok_M_Re_skipWord okv_M_Re_skipWord (by decide) rfl rfl rfl (qm_5 (i := 21) rfl rfl) np_M_Re_skipWord rfl (by decide) (Nat.le_of_ble_eq_true rfl) rfl d_Re_readLine_6 (CV.k h (fun σ1 h => (?_ : WM _ 9 _ _ _ _)))
  refine r_aload_n d_Re_readLine_9 rfl (?_ : WM _ 10 _ _ _ _)
  refine r_iload_n d_Re_readLine_10 rfl (?_ : WM _ 11 _ _ _ _)
  refine r_ldcS (q := 62) d_Re_readLine_11 (fun _ _ _ _ h => h.2.2.2.2.2.1) (?_ : WM _ 13 _ _ _ _)
  refine r_callV (ν := M_Re_isWord) (k := 8) [vI (σ 8 5), vR 62] ok_M_Re_isWord okv_M_Re_isWord (by decide) rfl rfl rfl (qm_5 (i := 26) rfl rfl) np_M_Re_isWord rfl (by decide) (Nat.le_of_ble_eq_true rfl) rfl d_Re_readLine_13 (CI.k h (fun v4 σ3 h => (?_ : WM _ 16 _ _ _ _)))
  refine r_istore_n (ls' := [(2, vI v4), (1, vI (σ 8 5)), (0, vR 8)]) d_Re_readLine_16 rfl (by decide) rfl (?_ : WM _ 17 _ _ _ _)
  refine r_iload_n d_Re_readLine_17 rfl (?_ : WM _ 18 _ _ _ _)
  refine r_if_ne 37 d_Re_readLine_18 rfl ⟨fun c5 => (?_ : WM _ 37 _ _ _ _), fun c5 => (?_ : WM _ 21 _ _ _ _)⟩
  · replace h := h.1 c5
    refine r_aload_n d_Re_readLine_37 rfl (?_ : WM _ 38 _ _ _ _)
    refine r_bipush d_Re_readLine_38 (by decide) (by decide) (?_ : WM _ 40 _ _ _ _)
    refine r_callV (ν := M_Re_readNumber) (k := 8) [vI 99] ok_M_Re_readNumber okv_M_Re_readNumber (by decide) rfl rfl rfl (qm_5 (i := 51) rfl rfl) np_M_Re_readNumber rfl (by decide) (Nat.le_of_ble_eq_true rfl) rfl d_Re_readLine_40 (CI.k h (fun v7 σ6 h => (?_ : WM _ 43 _ _ _ _)))
    refine r_istore_n (ls' := [(3, vI v7), (2, vI v4), (1, vI (σ 8 5)), (0, vR 8)]) d_Re_readLine_43 rfl (by decide) rfl (?_ : WM _ 44 _ _ _ _)
    refine r_aload_n d_Re_readLine_44 rfl (?_ : WM _ 45 _ _ _ _)
    refine r_sipush d_Re_readLine_45 (by decide) (by decide) (?_ : WM _ 48 _ _ _ _)
    refine r_callV (ν := M_Re_readNumber) (k := 8) [vI 9999] ok_M_Re_readNumber okv_M_Re_readNumber (by decide) rfl rfl rfl (qm_5 (i := 51) rfl rfl) np_M_Re_readNumber rfl (by decide) (Nat.le_of_ble_eq_true rfl) rfl d_Re_readLine_48 (CI.k h (fun v9 σ8 h => (?_ : WM _ 51 _ _ _ _)))
    refine r_istore (ls' := [(4, vI v9), (3, vI v7), (2, vI v4), (1, vI (σ 8 5)), (0, vR 8)]) d_Re_readLine_51 (by decide) rfl (?_ : WM _ 53 _ _ _ _)
    refine r_iload_n d_Re_readLine_53 rfl (?_ : WM _ 54 _ _ _ _)
    refine r_if_eq 70 d_Re_readLine_54 rfl ⟨fun hc => absurd hc c5, fun hc => (?_ : WM _ 57 _ _ _ _)⟩
    refine r_aload_n d_Re_readLine_57 rfl (?_ : WM _ 58 _ _ _ _)
    refine r_bipush d_Re_readLine_58 (by decide) (by decide) (?_ : WM _ 60 _ _ _ _)
    refine r_callV (ν := M_Re_skipSign) (k := 8) [vI 45] ok_M_Re_skipSign okv_M_Re_skipSign (by decide) rfl rfl rfl (qm_5 (i := 55) rfl rfl) np_M_Re_skipSign rfl (by decide) (Nat.le_of_ble_eq_true rfl) rfl d_Re_readLine_60 (CI.k h (fun v11 σ10 h => (?_ : WM _ 63 _ _ _ _)))
    refine r_if_eq 70 d_Re_readLine_63 rfl ⟨fun c12 => (?_ : WM _ 70 _ _ _ _), fun c12 => (?_ : WM _ 66 _ _ _ _)⟩
    · replace h := h.1 c12
      refine r_iconst d_Re_readLine_70 (by decide) (?_ : WM _ 71 _ _ _ _)
      refine r_istore (ls' := [(5, vI 0), (4, vI v9), (3, vI v7), (2, vI v4), (1, vI (σ 8 5)), (0, vR 8)]) d_Re_readLine_71 (by decide) rfl (?_ : WM _ 73 _ _ _ _)
      refine r_aload_n d_Re_readLine_73 rfl (?_ : WM _ 74 _ _ _ _)
      refine r_ldc 99999 d_Re_readLine_74 (qm_5 (i := 59) rfl rfl) (by decide) (by decide) (?_ : WM _ 76 _ _ _ _)
      refine r_callV (ν := M_Re_readNumber) (k := 8) [vI 99999] ok_M_Re_readNumber okv_M_Re_readNumber (by decide) rfl rfl rfl (qm_5 (i := 51) rfl rfl) np_M_Re_readNumber rfl (by decide) (Nat.le_of_ble_eq_true rfl) rfl d_Re_readLine_76 (CI.k h (fun v14 σ13 h => (?_ : WM _ 79 _ _ _ _)))
      refine r_istore (ls' := [(6, vI v14), (5, vI 0), (4, vI v9), (3, vI v7), (2, vI v4), (1, vI (σ 8 5)), (0, vR 8)]) d_Re_readLine_79 (by decide) rfl (?_ : WM _ 81 _ _ _ _)
      refine r_aload_n d_Re_readLine_81 rfl (?_ : WM _ 82 _ _ _ _)
      refine r_getI (k := 8) (j := 1) 1 (by decide) rfl clk_5 (by decide) (qm_1 (i := 118) rfl rfl) rfl rfl d_Re_readLine_82 (y := (σ13 8 1)) rfl (?_ : WM _ 85 _ _ _ _)
      refine r_if_eq 89 d_Re_readLine_85 rfl ⟨fun c15 => (?_ : WM _ 89 _ _ _ _), fun c15 => (?_ : WM _ 88 _ _ _ _)⟩
      · replace h := h.1 c15
        refine r_iload_n d_Re_readLine_89 rfl (?_ : WM _ 90 _ _ _ _)
        refine r_if_eq 116 d_Re_readLine_90 rfl ⟨fun hc => absurd hc c5, fun hc => (?_ : WM _ 93 _ _ _ _)⟩
        refine r_aload_n d_Re_readLine_93 rfl (?_ : WM _ 94 _ _ _ _)
        refine r_iload_n d_Re_readLine_94 rfl (?_ : WM _ 95 _ _ _ _)
        refine r_iload d_Re_readLine_95 rfl (?_ : WM _ 97 _ _ _ _)
        refine r_iload d_Re_readLine_97 rfl (?_ : WM _ 99 _ _ _ _)
        refine r_if_eq 108 d_Re_readLine_99 rfl ⟨fun hc => (?_ : WM _ 108 _ _ _ _), fun hc => absurd hc (by decide)⟩
        refine r_iload d_Re_readLine_108 rfl (?_ : WM _ 110 _ _ _ _)
        refine r_callV (ν := M_Re_takeItem) (k := 8) [vI v7, vI v9, vI v14] ok_M_Re_takeItem okv_M_Re_takeItem (by decide) rfl rfl rfl (qm_5 (i := 60) rfl rfl) np_M_Re_takeItem rfl (by decide) (Nat.le_of_ble_eq_true rfl) rfl d_Re_readLine_110 (CI.k h (fun v17 σ16 h => (?_ : WM _ 113 _ _ _ _)))
        refine r_goto 125 d_Re_readLine_113 rfl ?_
        refine r_istore (ls' := [(7, vI v17), (6, vI v14), (5, vI 0), (4, vI v9), (3, vI v7), (2, vI v4), (1, vI (σ 8 5)), (0, vR 8)]) d_Re_readLine_125 (by decide) rfl (?_ : WM _ 127 _ _ _ _)
        refine r_iload d_Re_readLine_127 rfl (?_ : WM _ 129 _ _ _ _)
        refine r_if_ne 141 d_Re_readLine_129 rfl ⟨fun c18 => (?_ : WM _ 141 _ _ _ _), fun c18 => (?_ : WM _ 132 _ _ _ _)⟩
        · replace h := h.1 c18
          refine r_aload_n d_Re_readLine_141 rfl (?_ : WM _ 142 _ _ _ _)
          refine r_bipush d_Re_readLine_142 (by decide) (by decide) (?_ : WM _ 144 _ _ _ _)
          refine r_callV (ν := M_Re_skipSign) (k := 8) [vI 59] ok_M_Re_skipSign okv_M_Re_skipSign (by decide) rfl rfl rfl (qm_5 (i := 55) rfl rfl) np_M_Re_skipSign rfl (by decide) (Nat.le_of_ble_eq_true rfl) rfl d_Re_readLine_144 (CI.k h (fun v20 σ19 h => (?_ : WM _ 147 _ _ _ _)))
          refine r_if_ne 159 d_Re_readLine_147 rfl ⟨fun c21 => (?_ : WM _ 159 _ _ _ _), fun c21 => (?_ : WM _ 150 _ _ _ _)⟩
          · replace h := h.1 c21
            exact r_return rfl d_Re_readLine_159 h
          · replace h := h.2 c21
            refine r_aload_n d_Re_readLine_150 rfl (?_ : WM _ 151 _ _ _ _)
            refine r_iconst d_Re_readLine_151 (by decide) (?_ : WM _ 152 _ _ _ _)
            refine r_aload_n d_Re_readLine_152 rfl (?_ : WM _ 153 _ _ _ _)
            refine r_getI (k := 8) (j := 5) 5 (by decide) rfl clk_5 (by decide) (qm_1 (i := 124) rfl rfl) rfl rfl d_Re_readLine_153 (y := (σ19 8 5)) rfl (?_ : WM _ 156 _ _ _ _)
            refine r_callV (ν := M_Re_fail) (k := 8) [vI 1, vI (σ19 8 5)] ok_M_Re_fail okv_M_Re_fail (by decide) rfl rfl rfl (qm_5 (i := 47) rfl rfl) np_M_Re_fail rfl (by decide) (Nat.le_of_ble_eq_true rfl) rfl d_Re_readLine_156 (CV.k h (fun σ22 h => (?_ : WM _ 159 _ _ _ _)))
            exact r_return rfl d_Re_readLine_159 h
        · replace h := h.2 c18
          refine r_aload_n d_Re_readLine_132 rfl (?_ : WM _ 133 _ _ _ _)
          refine r_iconst d_Re_readLine_133 (by decide) (?_ : WM _ 134 _ _ _ _)
          refine r_iload_n d_Re_readLine_134 rfl (?_ : WM _ 135 _ _ _ _)
          refine r_callV (ν := M_Re_fail) (k := 8) [vI 3, vI (σ 8 5)] ok_M_Re_fail okv_M_Re_fail (by decide) rfl rfl rfl (qm_5 (i := 47) rfl rfl) np_M_Re_fail rfl (by decide) (Nat.le_of_ble_eq_true rfl) rfl d_Re_readLine_135 (CV.k h (fun σ24 h => (?_ : WM _ 138 _ _ _ _)))
          refine r_goto 159 d_Re_readLine_138 rfl ?_
          exact r_return rfl d_Re_readLine_159 h
      · replace h := h.2 c15
        exact r_return rfl d_Re_readLine_88 h
    · replace h := h.2 c12
      refine r_iconst d_Re_readLine_66 (by decide) (?_ : WM _ 67 _ _ _ _)
      refine r_goto 71 d_Re_readLine_67 rfl ?_
      refine r_istore (ls' := [(5, vI 1), (4, vI v9), (3, vI v7), (2, vI v4), (1, vI (σ 8 5)), (0, vR 8)]) d_Re_readLine_71 (by decide) rfl (?_ : WM _ 73 _ _ _ _)
      refine r_aload_n d_Re_readLine_73 rfl (?_ : WM _ 74 _ _ _ _)
      refine r_ldc 99999 d_Re_readLine_74 (qm_5 (i := 59) rfl rfl) (by decide) (by decide) (?_ : WM _ 76 _ _ _ _)
      refine r_callV (ν := M_Re_readNumber) (k := 8) [vI 99999] ok_M_Re_readNumber okv_M_Re_readNumber (by decide) rfl rfl rfl (qm_5 (i := 51) rfl rfl) np_M_Re_readNumber rfl (by decide) (Nat.le_of_ble_eq_true rfl) rfl d_Re_readLine_76 (CI.k h (fun v27 σ26 h => (?_ : WM _ 79 _ _ _ _)))
      refine r_istore (ls' := [(6, vI v27), (5, vI 1), (4, vI v9), (3, vI v7), (2, vI v4), (1, vI (σ 8 5)), (0, vR 8)]) d_Re_readLine_79 (by decide) rfl (?_ : WM _ 81 _ _ _ _)
      refine r_aload_n d_Re_readLine_81 rfl (?_ : WM _ 82 _ _ _ _)
      refine r_getI (k := 8) (j := 1) 1 (by decide) rfl clk_5 (by decide) (qm_1 (i := 118) rfl rfl) rfl rfl d_Re_readLine_82 (y := (σ26 8 1)) rfl (?_ : WM _ 85 _ _ _ _)
      refine r_if_eq 89 d_Re_readLine_85 rfl ⟨fun c28 => (?_ : WM _ 89 _ _ _ _), fun c28 => (?_ : WM _ 88 _ _ _ _)⟩
      · replace h := h.1 c28
        refine r_iload_n d_Re_readLine_89 rfl (?_ : WM _ 90 _ _ _ _)
        refine r_if_eq 116 d_Re_readLine_90 rfl ⟨fun hc => absurd hc c5, fun hc => (?_ : WM _ 93 _ _ _ _)⟩
        refine r_aload_n d_Re_readLine_93 rfl (?_ : WM _ 94 _ _ _ _)
        refine r_iload_n d_Re_readLine_94 rfl (?_ : WM _ 95 _ _ _ _)
        refine r_iload d_Re_readLine_95 rfl (?_ : WM _ 97 _ _ _ _)
        refine r_iload d_Re_readLine_97 rfl (?_ : WM _ 99 _ _ _ _)
        refine r_if_eq 108 d_Re_readLine_99 rfl ⟨fun hc => absurd hc (by decide), fun hc => (?_ : WM _ 102 _ _ _ _)⟩
        refine r_iload d_Re_readLine_102 rfl (?_ : WM _ 104 _ _ _ _)
        obtain ⟨h29, h⟩ := h
        refine r_ineg d_Re_readLine_104 h29 (?_ : WM _ 105 _ _ _ _)
        refine r_goto 110 d_Re_readLine_105 rfl ?_
        refine r_callV (ν := M_Re_takeItem) (k := 8) [vI v7, vI v9, vI (-v27)] ok_M_Re_takeItem okv_M_Re_takeItem (by decide) rfl rfl rfl (qm_5 (i := 60) rfl rfl) np_M_Re_takeItem rfl (by decide) (Nat.le_of_ble_eq_true rfl) rfl d_Re_readLine_110 (CI.k h (fun v31 σ30 h => (?_ : WM _ 113 _ _ _ _)))
        refine r_goto 125 d_Re_readLine_113 rfl ?_
        refine r_istore (ls' := [(7, vI v31), (6, vI v27), (5, vI 1), (4, vI v9), (3, vI v7), (2, vI v4), (1, vI (σ 8 5)), (0, vR 8)]) d_Re_readLine_125 (by decide) rfl (?_ : WM _ 127 _ _ _ _)
        refine r_iload d_Re_readLine_127 rfl (?_ : WM _ 129 _ _ _ _)
        refine r_if_ne 141 d_Re_readLine_129 rfl ⟨fun c32 => (?_ : WM _ 141 _ _ _ _), fun c32 => (?_ : WM _ 132 _ _ _ _)⟩
        · replace h := h.1 c32
          refine r_aload_n d_Re_readLine_141 rfl (?_ : WM _ 142 _ _ _ _)
          refine r_bipush d_Re_readLine_142 (by decide) (by decide) (?_ : WM _ 144 _ _ _ _)
          refine r_callV (ν := M_Re_skipSign) (k := 8) [vI 59] ok_M_Re_skipSign okv_M_Re_skipSign (by decide) rfl rfl rfl (qm_5 (i := 55) rfl rfl) np_M_Re_skipSign rfl (by decide) (Nat.le_of_ble_eq_true rfl) rfl d_Re_readLine_144 (CI.k h (fun v34 σ33 h => (?_ : WM _ 147 _ _ _ _)))
          refine r_if_ne 159 d_Re_readLine_147 rfl ⟨fun c35 => (?_ : WM _ 159 _ _ _ _), fun c35 => (?_ : WM _ 150 _ _ _ _)⟩
          · replace h := h.1 c35
            exact r_return rfl d_Re_readLine_159 h
          · replace h := h.2 c35
            refine r_aload_n d_Re_readLine_150 rfl (?_ : WM _ 151 _ _ _ _)
            refine r_iconst d_Re_readLine_151 (by decide) (?_ : WM _ 152 _ _ _ _)
            refine r_aload_n d_Re_readLine_152 rfl (?_ : WM _ 153 _ _ _ _)
            refine r_getI (k := 8) (j := 5) 5 (by decide) rfl clk_5 (by decide) (qm_1 (i := 124) rfl rfl) rfl rfl d_Re_readLine_153 (y := (σ33 8 5)) rfl (?_ : WM _ 156 _ _ _ _)
            refine r_callV (ν := M_Re_fail) (k := 8) [vI 1, vI (σ33 8 5)] ok_M_Re_fail okv_M_Re_fail (by decide) rfl rfl rfl (qm_5 (i := 47) rfl rfl) np_M_Re_fail rfl (by decide) (Nat.le_of_ble_eq_true rfl) rfl d_Re_readLine_156 (CV.k h (fun σ36 h => (?_ : WM _ 159 _ _ _ _)))
            exact r_return rfl d_Re_readLine_159 h
        · replace h := h.2 c32
          refine r_aload_n d_Re_readLine_132 rfl (?_ : WM _ 133 _ _ _ _)
          refine r_iconst d_Re_readLine_133 (by decide) (?_ : WM _ 134 _ _ _ _)
          refine r_iload_n d_Re_readLine_134 rfl (?_ : WM _ 135 _ _ _ _)
          refine r_callV (ν := M_Re_fail) (k := 8) [vI 3, vI (σ 8 5)] ok_M_Re_fail okv_M_Re_fail (by decide) rfl rfl rfl (qm_5 (i := 47) rfl rfl) np_M_Re_fail rfl (by decide) (Nat.le_of_ble_eq_true rfl) rfl d_Re_readLine_135 (CV.k h (fun σ38 h => (?_ : WM _ 138 _ _ _ _)))
          refine r_goto 159 d_Re_readLine_138 rfl ?_
          exact r_return rfl d_Re_readLine_159 h
      · replace h := h.2 c28
        exact r_return rfl d_Re_readLine_88 h
  · replace h := h.2 c5
    refine r_aload_n d_Re_readLine_21 rfl (?_ : WM _ 22 _ _ _ _)
    refine r_iload_n d_Re_readLine_22 rfl (?_ : WM _ 23 _ _ _ _)
    refine r_ldcS (q := 63) d_Re_readLine_23 (fun _ _ _ _ h => h.2.2.2.2.2.2.1) (?_ : WM _ 25 _ _ _ _)
    refine r_callV (ν := M_Re_isWord) (k := 8) [vI (σ 8 5), vR 63] ok_M_Re_isWord okv_M_Re_isWord (by decide) rfl rfl rfl (qm_5 (i := 26) rfl rfl) np_M_Re_isWord rfl (by decide) (Nat.le_of_ble_eq_true rfl) rfl d_Re_readLine_25 (CI.k h (fun v41 σ40 h => (?_ : WM _ 28 _ _ _ _)))
    refine r_if_ne 37 d_Re_readLine_28 rfl ⟨fun c42 => (?_ : WM _ 37 _ _ _ _), fun c42 => (?_ : WM _ 31 _ _ _ _)⟩
    · replace h := h.1 c42
      refine r_aload_n d_Re_readLine_37 rfl (?_ : WM _ 38 _ _ _ _)
      refine r_bipush d_Re_readLine_38 (by decide) (by decide) (?_ : WM _ 40 _ _ _ _)
      refine r_callV (ν := M_Re_readNumber) (k := 8) [vI 99] ok_M_Re_readNumber okv_M_Re_readNumber (by decide) rfl rfl rfl (qm_5 (i := 51) rfl rfl) np_M_Re_readNumber rfl (by decide) (Nat.le_of_ble_eq_true rfl) rfl d_Re_readLine_40 (CI.k h (fun v44 σ43 h => (?_ : WM _ 43 _ _ _ _)))
      refine r_istore_n (ls' := [(3, vI v44), (2, vI v4), (1, vI (σ 8 5)), (0, vR 8)]) d_Re_readLine_43 rfl (by decide) rfl (?_ : WM _ 44 _ _ _ _)
      refine r_aload_n d_Re_readLine_44 rfl (?_ : WM _ 45 _ _ _ _)
      refine r_sipush d_Re_readLine_45 (by decide) (by decide) (?_ : WM _ 48 _ _ _ _)
      refine r_callV (ν := M_Re_readNumber) (k := 8) [vI 9999] ok_M_Re_readNumber okv_M_Re_readNumber (by decide) rfl rfl rfl (qm_5 (i := 51) rfl rfl) np_M_Re_readNumber rfl (by decide) (Nat.le_of_ble_eq_true rfl) rfl d_Re_readLine_48 (CI.k h (fun v46 σ45 h => (?_ : WM _ 51 _ _ _ _)))
      refine r_istore (ls' := [(4, vI v46), (3, vI v44), (2, vI v4), (1, vI (σ 8 5)), (0, vR 8)]) d_Re_readLine_51 (by decide) rfl (?_ : WM _ 53 _ _ _ _)
      refine r_iload_n d_Re_readLine_53 rfl (?_ : WM _ 54 _ _ _ _)
      refine r_if_eq 70 d_Re_readLine_54 rfl ⟨fun hc => (?_ : WM _ 70 _ _ _ _), fun hc => absurd c5 hc⟩
      refine r_iconst d_Re_readLine_70 (by decide) (?_ : WM _ 71 _ _ _ _)
      refine r_istore (ls' := [(5, vI 0), (4, vI v46), (3, vI v44), (2, vI v4), (1, vI (σ 8 5)), (0, vR 8)]) d_Re_readLine_71 (by decide) rfl (?_ : WM _ 73 _ _ _ _)
      refine r_aload_n d_Re_readLine_73 rfl (?_ : WM _ 74 _ _ _ _)
      refine r_ldc 99999 d_Re_readLine_74 (qm_5 (i := 59) rfl rfl) (by decide) (by decide) (?_ : WM _ 76 _ _ _ _)
      refine r_callV (ν := M_Re_readNumber) (k := 8) [vI 99999] ok_M_Re_readNumber okv_M_Re_readNumber (by decide) rfl rfl rfl (qm_5 (i := 51) rfl rfl) np_M_Re_readNumber rfl (by decide) (Nat.le_of_ble_eq_true rfl) rfl d_Re_readLine_76 (CI.k h (fun v48 σ47 h => (?_ : WM _ 79 _ _ _ _)))
      refine r_istore (ls' := [(6, vI v48), (5, vI 0), (4, vI v46), (3, vI v44), (2, vI v4), (1, vI (σ 8 5)), (0, vR 8)]) d_Re_readLine_79 (by decide) rfl (?_ : WM _ 81 _ _ _ _)
      refine r_aload_n d_Re_readLine_81 rfl (?_ : WM _ 82 _ _ _ _)
      refine r_getI (k := 8) (j := 1) 1 (by decide) rfl clk_5 (by decide) (qm_1 (i := 118) rfl rfl) rfl rfl d_Re_readLine_82 (y := (σ47 8 1)) rfl (?_ : WM _ 85 _ _ _ _)
      refine r_if_eq 89 d_Re_readLine_85 rfl ⟨fun c49 => (?_ : WM _ 89 _ _ _ _), fun c49 => (?_ : WM _ 88 _ _ _ _)⟩
      · replace h := h.1 c49
        refine r_iload_n d_Re_readLine_89 rfl (?_ : WM _ 90 _ _ _ _)
        refine r_if_eq 116 d_Re_readLine_90 rfl ⟨fun hc => (?_ : WM _ 116 _ _ _ _), fun hc => absurd c5 hc⟩
        refine r_aload_n d_Re_readLine_116 rfl (?_ : WM _ 117 _ _ _ _)
        refine r_iload_n d_Re_readLine_117 rfl (?_ : WM _ 118 _ _ _ _)
        refine r_iload d_Re_readLine_118 rfl (?_ : WM _ 120 _ _ _ _)
        refine r_iload d_Re_readLine_120 rfl (?_ : WM _ 122 _ _ _ _)
        refine r_callV (ν := M_Re_takeAudit) (k := 8) [vI v44, vI v46, vI v48] ok_M_Re_takeAudit okv_M_Re_takeAudit (by decide) rfl rfl rfl (qm_5 (i := 77) rfl rfl) np_M_Re_takeAudit rfl (by decide) (Nat.le_of_ble_eq_true rfl) rfl d_Re_readLine_122 (CI.k h (fun v51 σ50 h => (?_ : WM _ 125 _ _ _ _)))
        refine r_istore (ls' := [(7, vI v51), (6, vI v48), (5, vI 0), (4, vI v46), (3, vI v44), (2, vI v4), (1, vI (σ 8 5)), (0, vR 8)]) d_Re_readLine_125 (by decide) rfl (?_ : WM _ 127 _ _ _ _)
        refine r_iload d_Re_readLine_127 rfl (?_ : WM _ 129 _ _ _ _)
        refine r_if_ne 141 d_Re_readLine_129 rfl ⟨fun c52 => (?_ : WM _ 141 _ _ _ _), fun c52 => (?_ : WM _ 132 _ _ _ _)⟩
        · replace h := h.1 c52
          refine r_aload_n d_Re_readLine_141 rfl (?_ : WM _ 142 _ _ _ _)
          refine r_bipush d_Re_readLine_142 (by decide) (by decide) (?_ : WM _ 144 _ _ _ _)
          refine r_callV (ν := M_Re_skipSign) (k := 8) [vI 59] ok_M_Re_skipSign okv_M_Re_skipSign (by decide) rfl rfl rfl (qm_5 (i := 55) rfl rfl) np_M_Re_skipSign rfl (by decide) (Nat.le_of_ble_eq_true rfl) rfl d_Re_readLine_144 (CI.k h (fun v54 σ53 h => (?_ : WM _ 147 _ _ _ _)))
          refine r_if_ne 159 d_Re_readLine_147 rfl ⟨fun c55 => (?_ : WM _ 159 _ _ _ _), fun c55 => (?_ : WM _ 150 _ _ _ _)⟩
          · replace h := h.1 c55
            exact r_return rfl d_Re_readLine_159 h
          · replace h := h.2 c55
            refine r_aload_n d_Re_readLine_150 rfl (?_ : WM _ 151 _ _ _ _)
            refine r_iconst d_Re_readLine_151 (by decide) (?_ : WM _ 152 _ _ _ _)
            refine r_aload_n d_Re_readLine_152 rfl (?_ : WM _ 153 _ _ _ _)
            refine r_getI (k := 8) (j := 5) 5 (by decide) rfl clk_5 (by decide) (qm_1 (i := 124) rfl rfl) rfl rfl d_Re_readLine_153 (y := (σ53 8 5)) rfl (?_ : WM _ 156 _ _ _ _)
            refine r_callV (ν := M_Re_fail) (k := 8) [vI 1, vI (σ53 8 5)] ok_M_Re_fail okv_M_Re_fail (by decide) rfl rfl rfl (qm_5 (i := 47) rfl rfl) np_M_Re_fail rfl (by decide) (Nat.le_of_ble_eq_true rfl) rfl d_Re_readLine_156 (CV.k h (fun σ56 h => (?_ : WM _ 159 _ _ _ _)))
            exact r_return rfl d_Re_readLine_159 h
        · replace h := h.2 c52
          refine r_aload_n d_Re_readLine_132 rfl (?_ : WM _ 133 _ _ _ _)
          refine r_iconst d_Re_readLine_133 (by decide) (?_ : WM _ 134 _ _ _ _)
          refine r_iload_n d_Re_readLine_134 rfl (?_ : WM _ 135 _ _ _ _)
          refine r_callV (ν := M_Re_fail) (k := 8) [vI 3, vI (σ 8 5)] ok_M_Re_fail okv_M_Re_fail (by decide) rfl rfl rfl (qm_5 (i := 47) rfl rfl) np_M_Re_fail rfl (by decide) (Nat.le_of_ble_eq_true rfl) rfl d_Re_readLine_135 (CV.k h (fun σ58 h => (?_ : WM _ 138 _ _ _ _)))
          refine r_goto 159 d_Re_readLine_138 rfl ?_
          exact r_return rfl d_Re_readLine_159 h
      · replace h := h.2 c49
        exact r_return rfl d_Re_readLine_88 h
    · replace h := h.2 c42
      refine r_aload_n d_Re_readLine_31 rfl (?_ : WM _ 32 _ _ _ _)
      refine r_iconst d_Re_readLine_32 (by decide) (?_ : WM _ 33 _ _ _ _)
      refine r_iload_n d_Re_readLine_33 rfl (?_ : WM _ 34 _ _ _ _)
      refine r_callV (ν := M_Re_fail) (k := 8) [vI 1, vI (σ 8 5)] ok_M_Re_fail okv_M_Re_fail (by decide) rfl rfl rfl (qm_5 (i := 47) rfl rfl) np_M_Re_fail rfl (by decide) (Nat.le_of_ble_eq_true rfl) rfl d_Re_readLine_34 (CV.k h (fun σ60 h => (?_ : WM _ 37 _ _ _ _)))
      refine r_aload_n d_Re_readLine_37 rfl (?_ : WM _ 38 _ _ _ _)
      refine r_bipush d_Re_readLine_38 (by decide) (by decide) (?_ : WM _ 40 _ _ _ _)
      refine r_callV (ν := M_Re_readNumber) (k := 8) [vI 99] ok_M_Re_readNumber okv_M_Re_readNumber (by decide) rfl rfl rfl (qm_5 (i := 51) rfl rfl) np_M_Re_readNumber rfl (by decide) (Nat.le_of_ble_eq_true rfl) rfl d_Re_readLine_40 (CI.k h (fun v63 σ62 h => (?_ : WM _ 43 _ _ _ _)))
      refine r_istore_n (ls' := [(3, vI v63), (2, vI v4), (1, vI (σ 8 5)), (0, vR 8)]) d_Re_readLine_43 rfl (by decide) rfl (?_ : WM _ 44 _ _ _ _)
      refine r_aload_n d_Re_readLine_44 rfl (?_ : WM _ 45 _ _ _ _)
      refine r_sipush d_Re_readLine_45 (by decide) (by decide) (?_ : WM _ 48 _ _ _ _)
      refine r_callV (ν := M_Re_readNumber) (k := 8) [vI 9999] ok_M_Re_readNumber okv_M_Re_readNumber (by decide) rfl rfl rfl (qm_5 (i := 51) rfl rfl) np_M_Re_readNumber rfl (by decide) (Nat.le_of_ble_eq_true rfl) rfl d_Re_readLine_48 (CI.k h (fun v65 σ64 h => (?_ : WM _ 51 _ _ _ _)))
      refine r_istore (ls' := [(4, vI v65), (3, vI v63), (2, vI v4), (1, vI (σ 8 5)), (0, vR 8)]) d_Re_readLine_51 (by decide) rfl (?_ : WM _ 53 _ _ _ _)
      refine r_iload_n d_Re_readLine_53 rfl (?_ : WM _ 54 _ _ _ _)
      refine r_if_eq 70 d_Re_readLine_54 rfl ⟨fun hc => (?_ : WM _ 70 _ _ _ _), fun hc => absurd c5 hc⟩
      refine r_iconst d_Re_readLine_70 (by decide) (?_ : WM _ 71 _ _ _ _)
      refine r_istore (ls' := [(5, vI 0), (4, vI v65), (3, vI v63), (2, vI v4), (1, vI (σ 8 5)), (0, vR 8)]) d_Re_readLine_71 (by decide) rfl (?_ : WM _ 73 _ _ _ _)
      refine r_aload_n d_Re_readLine_73 rfl (?_ : WM _ 74 _ _ _ _)
      refine r_ldc 99999 d_Re_readLine_74 (qm_5 (i := 59) rfl rfl) (by decide) (by decide) (?_ : WM _ 76 _ _ _ _)
      refine r_callV (ν := M_Re_readNumber) (k := 8) [vI 99999] ok_M_Re_readNumber okv_M_Re_readNumber (by decide) rfl rfl rfl (qm_5 (i := 51) rfl rfl) np_M_Re_readNumber rfl (by decide) (Nat.le_of_ble_eq_true rfl) rfl d_Re_readLine_76 (CI.k h (fun v67 σ66 h => (?_ : WM _ 79 _ _ _ _)))
      refine r_istore (ls' := [(6, vI v67), (5, vI 0), (4, vI v65), (3, vI v63), (2, vI v4), (1, vI (σ 8 5)), (0, vR 8)]) d_Re_readLine_79 (by decide) rfl (?_ : WM _ 81 _ _ _ _)
      refine r_aload_n d_Re_readLine_81 rfl (?_ : WM _ 82 _ _ _ _)
      refine r_getI (k := 8) (j := 1) 1 (by decide) rfl clk_5 (by decide) (qm_1 (i := 118) rfl rfl) rfl rfl d_Re_readLine_82 (y := (σ66 8 1)) rfl (?_ : WM _ 85 _ _ _ _)
      refine r_if_eq 89 d_Re_readLine_85 rfl ⟨fun c68 => (?_ : WM _ 89 _ _ _ _), fun c68 => (?_ : WM _ 88 _ _ _ _)⟩
      · replace h := h.1 c68
        refine r_iload_n d_Re_readLine_89 rfl (?_ : WM _ 90 _ _ _ _)
        refine r_if_eq 116 d_Re_readLine_90 rfl ⟨fun hc => (?_ : WM _ 116 _ _ _ _), fun hc => absurd c5 hc⟩
        refine r_aload_n d_Re_readLine_116 rfl (?_ : WM _ 117 _ _ _ _)
        refine r_iload_n d_Re_readLine_117 rfl (?_ : WM _ 118 _ _ _ _)
        refine r_iload d_Re_readLine_118 rfl (?_ : WM _ 120 _ _ _ _)
        refine r_iload d_Re_readLine_120 rfl (?_ : WM _ 122 _ _ _ _)
        refine r_callV (ν := M_Re_takeAudit) (k := 8) [vI v63, vI v65, vI v67] ok_M_Re_takeAudit okv_M_Re_takeAudit (by decide) rfl rfl rfl (qm_5 (i := 77) rfl rfl) np_M_Re_takeAudit rfl (by decide) (Nat.le_of_ble_eq_true rfl) rfl d_Re_readLine_122 (CI.k h (fun v70 σ69 h => (?_ : WM _ 125 _ _ _ _)))
        refine r_istore (ls' := [(7, vI v70), (6, vI v67), (5, vI 0), (4, vI v65), (3, vI v63), (2, vI v4), (1, vI (σ 8 5)), (0, vR 8)]) d_Re_readLine_125 (by decide) rfl (?_ : WM _ 127 _ _ _ _)
        refine r_iload d_Re_readLine_127 rfl (?_ : WM _ 129 _ _ _ _)
        refine r_if_ne 141 d_Re_readLine_129 rfl ⟨fun c71 => (?_ : WM _ 141 _ _ _ _), fun c71 => (?_ : WM _ 132 _ _ _ _)⟩
        · replace h := h.1 c71
          refine r_aload_n d_Re_readLine_141 rfl (?_ : WM _ 142 _ _ _ _)
          refine r_bipush d_Re_readLine_142 (by decide) (by decide) (?_ : WM _ 144 _ _ _ _)
          refine r_callV (ν := M_Re_skipSign) (k := 8) [vI 59] ok_M_Re_skipSign okv_M_Re_skipSign (by decide) rfl rfl rfl (qm_5 (i := 55) rfl rfl) np_M_Re_skipSign rfl (by decide) (Nat.le_of_ble_eq_true rfl) rfl d_Re_readLine_144 (CI.k h (fun v73 σ72 h => (?_ : WM _ 147 _ _ _ _)))
          refine r_if_ne 159 d_Re_readLine_147 rfl ⟨fun c74 => (?_ : WM _ 159 _ _ _ _), fun c74 => (?_ : WM _ 150 _ _ _ _)⟩
          · replace h := h.1 c74
            exact r_return rfl d_Re_readLine_159 h
          · replace h := h.2 c74
            refine r_aload_n d_Re_readLine_150 rfl (?_ : WM _ 151 _ _ _ _)
            refine r_iconst d_Re_readLine_151 (by decide) (?_ : WM _ 152 _ _ _ _)
            refine r_aload_n d_Re_readLine_152 rfl (?_ : WM _ 153 _ _ _ _)
            refine r_getI (k := 8) (j := 5) 5 (by decide) rfl clk_5 (by decide) (qm_1 (i := 124) rfl rfl) rfl rfl d_Re_readLine_153 (y := (σ72 8 5)) rfl (?_ : WM _ 156 _ _ _ _)
            refine r_callV (ν := M_Re_fail) (k := 8) [vI 1, vI (σ72 8 5)] ok_M_Re_fail okv_M_Re_fail (by decide) rfl rfl rfl (qm_5 (i := 47) rfl rfl) np_M_Re_fail rfl (by decide) (Nat.le_of_ble_eq_true rfl) rfl d_Re_readLine_156 (CV.k h (fun σ75 h => (?_ : WM _ 159 _ _ _ _)))
            exact r_return rfl d_Re_readLine_159 h
        · replace h := h.2 c71
          refine r_aload_n d_Re_readLine_132 rfl (?_ : WM _ 133 _ _ _ _)
          refine r_iconst d_Re_readLine_133 (by decide) (?_ : WM _ 134 _ _ _ _)
          refine r_iload_n d_Re_readLine_134 rfl (?_ : WM _ 135 _ _ _ _)
          refine r_callV (ν := M_Re_fail) (k := 8) [vI 3, vI (σ 8 5)] ok_M_Re_fail okv_M_Re_fail (by decide) rfl rfl rfl (qm_5 (i := 47) rfl rfl) np_M_Re_fail rfl (by decide) (Nat.le_of_ble_eq_true rfl) rfl d_Re_readLine_135 (CV.k h (fun σ77 h => (?_ : WM _ 138 _ _ _ _)))
          refine r_goto 159 d_Re_readLine_138 rfl ?_
          exact r_return rfl d_Re_readLine_159 h
      · replace h := h.2 c68
        exact r_return rfl d_Re_readLine_88 h
set_option maxRecDepth 20000 in
theorem e_Fa_halved {K : Int → St → Prop} {σ : St} (x1 : Int) (x2 : Int) (x3 : Int) (h : (x2 < x1 → (vf_n64 (FP.ddiv (FP.i2d (Int32.ofInt x3)) 4652007308841189376)) ∧ WM M_Fa_halved 26 [(0, vR 26), (1, vI x1), (2, vI x2), (4, vD (FP.ddiv (FP.i2d (Int32.ofInt x3)) 4652007308841189376)), (6, vI 0), (7, vI 1000000), (8, vI 0)] [] σ (QI K)) ∧ (¬ x2 < x1 → K 1000000 σ)) : CI M_Fa_halved [vR 26, vI x1, vI x2, vI x3] σ K := by
  refine Con.of ok_M_Fa_halved (ls := [(0, vR 26), (1, vI x1), (2, vI x2), (3, vI x3)]) rfl (Nat.le_of_ble_eq_true rfl) ?_
  refine r_iload_n d_Fa_halved_0 rfl (?_ : WM _ 1 _ _ _ _)
  refine r_iload_n d_Fa_halved_1 rfl (?_ : WM _ 2 _ _ _ _)
  refine r_icmp_lt 8 d_Fa_halved_2 rfl ⟨fun c1 => (?_ : WM _ 8 _ _ _ _), fun c1 => (?_ : WM _ 5 _ _ _ _)⟩
  · replace h := h.1 c1
    refine r_iload_n d_Fa_halved_8 rfl (?_ : WM _ 9 _ _ _ _)
    refine r_i2d d_Fa_halved_9 (?_ : WM _ 10 _ _ _ _)
    refine r_ldc2d d_Fa_halved_10 (qm_5 (i := 225) rfl rfl) (?_ : WM _ 13 _ _ _ _)
    obtain ⟨h2, h⟩ := h
    refine r_ddiv d_Fa_halved_13 h2 (?_ : WM _ 14 _ _ _ _)
    refine r_dstore (ls' := [(4, vD (FP.ddiv (FP.i2d (Int32.ofInt x3)) 4652007308841189376)), (0, vR 26), (1, vI x1), (2, vI x2), (3, vI x3)]) d_Fa_halved_14 (by decide) rfl (?_ : WM _ 16 _ _ _ _)
    refine r_iconst d_Fa_halved_16 (by decide) (?_ : WM _ 17 _ _ _ _)
    refine r_istore (ls' := [(6, vI 0), (4, vD (FP.ddiv (FP.i2d (Int32.ofInt x3)) 4652007308841189376)), (0, vR 26), (1, vI x1), (2, vI x2), (3, vI x3)]) d_Fa_halved_17 (by decide) rfl (?_ : WM _ 19 _ _ _ _)
    refine r_ldc 1000000 d_Fa_halved_19 (qm_5 (i := 224) rfl rfl) (by decide) (by decide) (?_ : WM _ 21 _ _ _ _)
    refine r_istore (ls' := [(7, vI 1000000), (6, vI 0), (4, vD (FP.ddiv (FP.i2d (Int32.ofInt x3)) 4652007308841189376)), (0, vR 26), (1, vI x1), (2, vI x2), (3, vI x3)]) d_Fa_halved_21 (by decide) rfl (?_ : WM _ 23 _ _ _ _)
    refine r_iconst d_Fa_halved_23 (by decide) (?_ : WM _ 24 _ _ _ _)
    refine r_istore (ls' := [(8, vI 0), (7, vI 1000000), (6, vI 0), (4, vD (FP.ddiv (FP.i2d (Int32.ofInt x3)) 4652007308841189376)), (0, vR 26), (1, vI x1), (2, vI x2), (3, vI x3)]) d_Fa_halved_24 (by decide) rfl (?_ : WM _ 26 _ _ _ _)
    refine r_pick (ls' := [(0, vR 26), (1, vI x1), (2, vI x2), (4, vD (FP.ddiv (FP.i2d (Int32.ofInt x3)) 4652007308841189376)), (6, vI 0), (7, vI 1000000), (8, vI 0)]) [4, 5, 6, 3, 2, 1, 0] rfl ?_
    exact h
  · replace h := h.2 c1
    refine r_ldc 1000000 d_Fa_halved_5 (qm_5 (i := 224) rfl rfl) (by decide) (by decide) (?_ : WM _ 7 _ _ _ _)
    exact r_ireturn rfl d_Fa_halved_7 h
set_option maxRecDepth 20000 in
theorem l_Fa_halved_1 {K : Int → St → Prop} {σ : St} (x1 : Int) (x2 : Int) (x4 : UInt64) (x6 : Int) (x7 : Int) (x8 : Int) (h : (60 ≤ x8 → K x7 σ) ∧ (¬ 60 ≤ x8 → (inR (x7 - x6)) ∧ ((x7 - x6) ≤ 1 → K x7 σ) ∧ (¬ (x7 - x6) ≤ 1 → (inR (x6 + x7)) ∧ (0 ≤ (x6 + x7)) ∧ CI M_Fa_isWithin [vR 26, vD x4, vI x1, vI x2, vI ((x6 + x7) / 2)] σ (fun v9 σ8 => (v9 = 0 → (inR (x8 + 1)) ∧ WM M_Fa_halved 26 [(0, vR 26), (1, vI x1), (2, vI x2), (4, vD x4), (6, vI ((x6 + x7) / 2)), (7, vI x7), (8, vI (x8 + 1))] [] σ8 (QI K)) ∧ (¬ v9 = 0 → (inR (x8 + 1)) ∧ WM M_Fa_halved 26 [(0, vR 26), (1, vI x1), (2, vI x2), (4, vD x4), (6, vI x6), (7, vI ((x6 + x7) / 2)), (8, vI (x8 + 1))] [] σ8 (QI K)))))) : WM M_Fa_halved 26 [(0, vR 26), (1, vI x1), (2, vI x2), (4, vD x4), (6, vI x6), (7, vI x7), (8, vI x8)] [] σ (QI K) := by
  refine r_iload d_Fa_halved_26 rfl (?_ : WM _ 28 _ _ _ _)
  refine r_bipush d_Fa_halved_28 (by decide) (by decide) (?_ : WM _ 30 _ _ _ _)
  refine r_icmp_ge 81 d_Fa_halved_30 rfl ⟨fun c3 => (?_ : WM _ 81 _ _ _ _), fun c3 => (?_ : WM _ 33 _ _ _ _)⟩
  · replace h := h.1 c3
    refine r_iload d_Fa_halved_81 rfl (?_ : WM _ 83 _ _ _ _)
    exact r_ireturn rfl d_Fa_halved_83 h
  · replace h := h.2 c3
    refine r_iload d_Fa_halved_33 rfl (?_ : WM _ 35 _ _ _ _)
    refine r_iload d_Fa_halved_35 rfl (?_ : WM _ 37 _ _ _ _)
    obtain ⟨h4, h⟩ := h
    refine r_isub d_Fa_halved_37 h4 (?_ : WM _ 38 _ _ _ _)
    refine r_iconst d_Fa_halved_38 (by decide) (?_ : WM _ 39 _ _ _ _)
    refine r_icmp_le 81 d_Fa_halved_39 rfl ⟨fun c5 => (?_ : WM _ 81 _ _ _ _), fun c5 => (?_ : WM _ 42 _ _ _ _)⟩
    · replace h := h.1 c5
      refine r_iload d_Fa_halved_81 rfl (?_ : WM _ 83 _ _ _ _)
      exact r_ireturn rfl d_Fa_halved_83 h
    · replace h := h.2 c5
      refine r_iload d_Fa_halved_42 rfl (?_ : WM _ 44 _ _ _ _)
      refine r_iload d_Fa_halved_44 rfl (?_ : WM _ 46 _ _ _ _)
      obtain ⟨h6, h⟩ := h
      refine r_iadd d_Fa_halved_46 h6 (?_ : WM _ 47 _ _ _ _)
      refine r_iconst d_Fa_halved_47 (by decide) (?_ : WM _ 48 _ _ _ _)
      obtain ⟨h7, h⟩ := h
      refine r_idivn d_Fa_halved_48 h7 (by decide) (?_ : WM _ 49 _ _ _ _)
      refine r_istore (ls' := [(9, vI ((x6 + x7) / 2)), (0, vR 26), (1, vI x1), (2, vI x2), (4, vD x4), (6, vI x6), (7, vI x7), (8, vI x8)]) d_Fa_halved_49 (by decide) rfl (?_ : WM _ 51 _ _ _ _)
      refine r_aload_n d_Fa_halved_51 rfl (?_ : WM _ 52 _ _ _ _)
      refine r_dload d_Fa_halved_52 rfl (?_ : WM _ 54 _ _ _ _)
      refine r_iload_n d_Fa_halved_54 rfl (?_ : WM _ 55 _ _ _ _)
      refine r_iload_n d_Fa_halved_55 rfl (?_ : WM _ 56 _ _ _ _)
      refine r_iload d_Fa_halved_56 rfl (?_ : WM _ 58 _ _ _ _)
      refine r_callV (ν := M_Fa_isWithin) (k := 26) [vD x4, vI x1, vI x2, vI ((x6 + x7) / 2)] ok_M_Fa_isWithin okv_M_Fa_isWithin (by decide) rfl rfl rfl (qm_5 (i := 226) rfl rfl) np_M_Fa_isWithin rfl (by decide) (Nat.le_of_ble_eq_true rfl) rfl d_Fa_halved_58 (CI.k h (fun v9 σ8 h => (?_ : WM _ 61 _ _ _ _)))
      refine r_if_eq 71 d_Fa_halved_61 rfl ⟨fun c10 => (?_ : WM _ 71 _ _ _ _), fun c10 => (?_ : WM _ 64 _ _ _ _)⟩
      · replace h := h.1 c10
        refine r_iload d_Fa_halved_71 rfl (?_ : WM _ 73 _ _ _ _)
        refine r_istore (ls' := [(6, vI ((x6 + x7) / 2)), (9, vI ((x6 + x7) / 2)), (0, vR 26), (1, vI x1), (2, vI x2), (4, vD x4), (7, vI x7), (8, vI x8)]) d_Fa_halved_73 (by decide) rfl (?_ : WM _ 75 _ _ _ _)
        obtain ⟨h11, h⟩ := h
        refine r_iinc (ls' := [(8, vI (x8 + 1)), (6, vI ((x6 + x7) / 2)), (9, vI ((x6 + x7) / 2)), (0, vR 26), (1, vI x1), (2, vI x2), (4, vD x4), (7, vI x7)]) d_Fa_halved_75 rfl h11 (by decide) rfl (?_ : WM _ 78 _ _ _ _)
        refine r_goto 26 d_Fa_halved_78 rfl ?_
        refine r_pick (ls' := [(0, vR 26), (1, vI x1), (2, vI x2), (4, vD x4), (6, vI ((x6 + x7) / 2)), (7, vI x7), (8, vI (x8 + 1))]) [3, 4, 5, 6, 1, 7, 0] rfl ?_
        exact h
      · replace h := h.2 c10
        refine r_iload d_Fa_halved_64 rfl (?_ : WM _ 66 _ _ _ _)
        refine r_istore (ls' := [(7, vI ((x6 + x7) / 2)), (9, vI ((x6 + x7) / 2)), (0, vR 26), (1, vI x1), (2, vI x2), (4, vD x4), (6, vI x6), (8, vI x8)]) d_Fa_halved_66 (by decide) rfl (?_ : WM _ 68 _ _ _ _)
        refine r_goto 75 d_Fa_halved_68 rfl ?_
        obtain ⟨h12, h⟩ := h
        refine r_iinc (ls' := [(8, vI (x8 + 1)), (7, vI ((x6 + x7) / 2)), (9, vI ((x6 + x7) / 2)), (0, vR 26), (1, vI x1), (2, vI x2), (4, vD x4), (6, vI x6)]) d_Fa_halved_75 rfl h12 (by decide) rfl (?_ : WM _ 78 _ _ _ _)
        refine r_goto 26 d_Fa_halved_78 rfl ?_
        refine r_pick (ls' := [(0, vR 26), (1, vI x1), (2, vI x2), (4, vD x4), (6, vI x6), (7, vI ((x6 + x7) / 2)), (8, vI (x8 + 1))]) [3, 4, 5, 6, 7, 1, 0] rfl ?_
        exact h
set_option maxRecDepth 20000 in
theorem e_Wa_lowestFree {K : Int → St → Prop} {σ : St}  (h : WM M_Wa_lowestFree 2 [(0, vR 20), (1, vI 1)] [] σ (QI K)) : CI M_Wa_lowestFree [vR 20] σ K := by
  refine Con.of ok_M_Wa_lowestFree (ls := [(0, vR 20)]) rfl (Nat.le_of_ble_eq_true rfl) ?_
  refine r_iconst d_Wa_lowestFree_0 (by decide) (?_ : WM _ 1 _ _ _ _)
  refine r_istore_n (ls' := [(1, vI 1), (0, vR 20)]) d_Wa_lowestFree_1 rfl (by decide) rfl (?_ : WM _ 2 _ _ _ _)
  refine r_pick (ls' := [(0, vR 20), (1, vI 1)]) [1, 0] rfl ?_
  exact h
set_option maxRecDepth 20000 in
theorem l_Wa_lowestFree_1 {K : Int → St → Prop} {σ : St} (x1 : Int) (h : ((σ 20 1) < x1 → K x1 σ) ∧ (¬ (σ 20 1) < x1 → CI M_Wa_isStart [vR 20, vI x1] σ (fun v3 σ2 => (v3 = 0 → K x1 σ2) ∧ (¬ v3 = 0 → (inR (x1 + 1)) ∧ WM M_Wa_lowestFree 2 [(0, vR 20), (1, vI (x1 + 1))] [] σ2 (QI K))))) : WM M_Wa_lowestFree 2 [(0, vR 20), (1, vI x1)] [] σ (QI K) := by
  refine r_iload_n d_Wa_lowestFree_2 rfl (?_ : WM _ 3 _ _ _ _)
  refine r_aload_n d_Wa_lowestFree_3 rfl (?_ : WM _ 4 _ _ _ _)
  refine r_getI (k := 20) (j := 1) 1 (by decide) rfl clk_9 (by decide) (qm_1 (i := 188) rfl rfl) rfl rfl d_Wa_lowestFree_4 (y := (σ 20 1)) rfl (?_ : WM _ 7 _ _ _ _)
  refine r_icmp_gt 24 d_Wa_lowestFree_7 rfl ⟨fun c1 => (?_ : WM _ 24 _ _ _ _), fun c1 => (?_ : WM _ 10 _ _ _ _)⟩
  · replace h := h.1 c1
    refine r_iload_n d_Wa_lowestFree_24 rfl (?_ : WM _ 25 _ _ _ _)
    exact r_ireturn rfl d_Wa_lowestFree_25 h
  · replace h := h.2 c1
    refine r_aload_n d_Wa_lowestFree_10 rfl (?_ : WM _ 11 _ _ _ _)
    refine r_iload_n d_Wa_lowestFree_11 rfl (?_ : WM _ 12 _ _ _ _)
    refine r_callV (ν := M_Wa_isStart) (k := 20) [vI x1] ok_M_Wa_isStart okv_M_Wa_isStart (by decide) rfl rfl rfl (qm_6 (i := 80) rfl rfl) np_M_Wa_isStart rfl (by decide) (Nat.le_of_ble_eq_true rfl) rfl d_Wa_lowestFree_12 (CI.k h (fun v3 σ2 h => (?_ : WM _ 15 _ _ _ _)))
    refine r_if_eq 24 d_Wa_lowestFree_15 rfl ⟨fun c4 => (?_ : WM _ 24 _ _ _ _), fun c4 => (?_ : WM _ 18 _ _ _ _)⟩
    · replace h := h.1 c4
      refine r_iload_n d_Wa_lowestFree_24 rfl (?_ : WM _ 25 _ _ _ _)
      exact r_ireturn rfl d_Wa_lowestFree_25 h
    · replace h := h.2 c4
      obtain ⟨h5, h⟩ := h
      refine r_iinc (ls' := [(1, vI (x1 + 1)), (0, vR 20)]) d_Wa_lowestFree_18 rfl h5 (by decide) rfl (?_ : WM _ 21 _ _ _ _)
      refine r_goto 2 d_Wa_lowestFree_21 rfl ?_
      refine r_pick (ls' := [(0, vR 20), (1, vI (x1 + 1))]) [1, 0] rfl ?_
      exact h
set_option maxRecDepth 20000 in
theorem e_Wa_isStart {K : Int → St → Prop} {σ : St} (x1 : Int) (h : WM M_Wa_isStart 2 [(0, vR 20), (1, vI x1), (2, vI 0)] [] σ (QI K)) : CI M_Wa_isStart [vR 20, vI x1] σ K := by
  refine Con.of ok_M_Wa_isStart (ls := [(0, vR 20), (1, vI x1)]) rfl (Nat.le_of_ble_eq_true rfl) ?_
  refine r_iconst d_Wa_isStart_0 (by decide) (?_ : WM _ 1 _ _ _ _)
  refine r_istore_n (ls' := [(2, vI 0), (0, vR 20), (1, vI x1)]) d_Wa_isStart_1 rfl (by decide) rfl (?_ : WM _ 2 _ _ _ _)
  refine r_pick (ls' := [(0, vR 20), (1, vI x1), (2, vI 0)]) [1, 2, 0] rfl ?_
  exact h
set_option maxRecDepth 20000 in
theorem l_Wa_isStart_1 {K : Int → St → Prop} {σ : St} (x1 : Int) (x2 : Int) (h : ((σ 20 1) ≤ x2 → K 0 σ) ∧ (¬ (σ 20 1) ≤ x2 → (0 ≤ x2) ∧ (x2 < 5) ∧ (¬ (σ 21 x2) = x1 → (inR (x2 + 1)) ∧ WM M_Wa_isStart 2 [(0, vR 20), (1, vI x1), (2, vI (x2 + 1))] [] σ (QI K)) ∧ ((σ 21 x2) = x1 → K 1 σ))) : WM M_Wa_isStart 2 [(0, vR 20), (1, vI x1), (2, vI x2)] [] σ (QI K) := by
  refine r_iload_n d_Wa_isStart_2 rfl (?_ : WM _ 3 _ _ _ _)
  refine r_aload_n d_Wa_isStart_3 rfl (?_ : WM _ 4 _ _ _ _)
  refine r_getI (k := 20) (j := 1) 1 (by decide) rfl clk_9 (by decide) (qm_1 (i := 188) rfl rfl) rfl rfl d_Wa_isStart_4 (y := (σ 20 1)) rfl (?_ : WM _ 7 _ _ _ _)
  refine r_icmp_ge 28 d_Wa_isStart_7 rfl ⟨fun c1 => (?_ : WM _ 28 _ _ _ _), fun c1 => (?_ : WM _ 10 _ _ _ _)⟩
  · replace h := h.1 c1
    refine r_iconst d_Wa_isStart_28 (by decide) (?_ : WM _ 29 _ _ _ _)
    exact r_zreturn rfl d_Wa_isStart_29 (by decide) h
  · replace h := h.2 c1
    refine r_aload_n d_Wa_isStart_10 rfl (?_ : WM _ 11 _ _ _ _)
    refine r_getR (k := 20) (j := 2) (q := 21) (by decide) rfl clk_9 (by decide) (qm_1 (i := 191) rfl rfl) rfl d_Wa_isStart_11 (?_ : WM _ 14 _ _ _ _)
    refine r_iload_n d_Wa_isStart_14 rfl (?_ : WM _ 15 _ _ _ _)
    obtain ⟨h2, h⟩ := h
    obtain ⟨h3, h⟩ := h
    refine r_iald (k := 21) (n := 5) (by decide) rfl d_Wa_isStart_15 h2 h3 (y := (σ 21 x2)) rfl (?_ : WM _ 16 _ _ _ _)
    refine r_iload_n d_Wa_isStart_16 rfl (?_ : WM _ 17 _ _ _ _)
    refine r_icmp_ne 22 d_Wa_isStart_17 rfl ⟨fun c4 => (?_ : WM _ 22 _ _ _ _), fun c4 => (?_ : WM _ 20 _ _ _ _)⟩
    · replace h := h.1 c4
      obtain ⟨h5, h⟩ := h
      refine r_iinc (ls' := [(2, vI (x2 + 1)), (0, vR 20), (1, vI x1)]) d_Wa_isStart_22 rfl h5 (by decide) rfl (?_ : WM _ 25 _ _ _ _)
      refine r_goto 2 d_Wa_isStart_25 rfl ?_
      refine r_pick (ls' := [(0, vR 20), (1, vI x1), (2, vI (x2 + 1))]) [1, 2, 0] rfl ?_
      exact h
    · replace h := h.2 c4
      refine r_iconst d_Wa_isStart_20 (by decide) (?_ : WM _ 21 _ _ _ _)
      exact r_zreturn rfl d_Wa_isStart_21 (by decide) h
set_option maxRecDepth 20000 in
theorem e_Es_suppose {K : St → Prop} {σ : St} (x1 : Int) (x2 : Int) (x3 : Int) (h : CI M_Wa_hitsOf [vR 20, vI x1] (ups σ 28 3 x1) (fun v2 σ1 => (inR (v2 + x2)) ∧ K (ups (ups (ups σ1 28 4 v2) 28 5 (v2 + x2)) 28 6 x3))) : CV M_Es_suppose [vR 28, vI x1, vI x2, vI x3] σ K := by
  refine Con.of ok_M_Es_suppose (ls := [(0, vR 28), (1, vI x1), (2, vI x2), (3, vI x3)]) rfl (Nat.le_of_ble_eq_true rfl) ?_
  refine r_aload_n d_Es_suppose_0 rfl (?_ : WM _ 1 _ _ _ _)
  refine r_iload_n d_Es_suppose_1 rfl (?_ : WM _ 2 _ _ _ _)
  refine r_put (k := 28) (j := 3) 3 (by decide) rfl clk_0 (by decide) (qm_2 (i := 6) rfl rfl) rfl rfl rfl tyX0_ok rfl nmX0 d_Es_suppose_2 (?_ : WM _ 5 _ _ _ _)
  refine r_aload_n d_Es_suppose_5 rfl (?_ : WM _ 6 _ _ _ _)
  refine r_aload_n d_Es_suppose_6 rfl (?_ : WM _ 7 _ _ _ _)
  refine r_getR (k := 28) (j := 9) (q := 20) (by decide) rfl clk_0 (by decide) (qm_2 (i := 12) rfl rfl) rfl d_Es_suppose_7 (?_ : WM _ 10 _ _ _ _)
  refine r_iload_n d_Es_suppose_10 rfl (?_ : WM _ 11 _ _ _ _)
  refine r_callV (ν := M_Wa_hitsOf) (k := 20) [vI x1] ok_M_Wa_hitsOf okv_M_Wa_hitsOf (by decide) rfl rfl rfl (qm_9 (i := 45) rfl rfl) np_M_Wa_hitsOf rfl (by decide) (Nat.le_of_ble_eq_true rfl) rfl d_Es_suppose_11 (CI.k h (fun v2 σ1 h => (?_ : WM _ 14 _ _ _ _)))
  refine r_put (k := 28) (j := 4) 4 (by decide) rfl clk_0 (by decide) (qm_2 (i := 7) rfl rfl) rfl rfl rfl tyX0_ok rfl nmX0 d_Es_suppose_14 (?_ : WM _ 17 _ _ _ _)
  refine r_aload_n d_Es_suppose_17 rfl (?_ : WM _ 18 _ _ _ _)
  refine r_aload_n d_Es_suppose_18 rfl (?_ : WM _ 19 _ _ _ _)
  refine r_getI (k := 28) (j := 4) 4 (by decide) rfl clk_0 (by decide) (qm_2 (i := 7) rfl rfl) rfl rfl d_Es_suppose_19 (y := v2) (ups_s) (?_ : WM _ 22 _ _ _ _)
  refine r_iload_n d_Es_suppose_22 rfl (?_ : WM _ 23 _ _ _ _)
  obtain ⟨h3, h⟩ := h
  refine r_iadd d_Es_suppose_23 h3 (?_ : WM _ 24 _ _ _ _)
  refine r_put (k := 28) (j := 5) 5 (by decide) rfl clk_0 (by decide) (qm_2 (i := 8) rfl rfl) rfl rfl rfl tyX0_ok rfl nmX0 d_Es_suppose_24 (?_ : WM _ 27 _ _ _ _)
  refine r_aload_n d_Es_suppose_27 rfl (?_ : WM _ 28 _ _ _ _)
  refine r_iload_n d_Es_suppose_28 rfl (?_ : WM _ 29 _ _ _ _)
  refine r_put (k := 28) (j := 6) 6 (by decide) rfl clk_0 (by decide) (qm_2 (i := 9) rfl rfl) rfl rfl rfl tyX0_ok rfl nmX0 d_Es_suppose_29 (?_ : WM _ 32 _ _ _ _)
  exact r_return rfl d_Es_suppose_32 h
set_option maxRecDepth 20000 in
theorem e_Es_projectionOfHit {K : Int → St → Prop} {σ : St} (x1 : Int) (h : (0 < (σ 28 3) → CI M_Le_taintOf [vR 3, vI x1] σ (fun v3 σ2 => (inL (v3 * (σ2 16 0))) ∧ (inR (10000 * (σ2 28 3))) ∧ ((10000 * (σ2 28 3)) ≠ 0) ∧ (inL ((v3 * (σ2 16 0)).tdiv (10000 * (σ2 28 3)))) ∧ (inR ((v3 * (σ2 16 0)).tdiv (10000 * (σ2 28 3)))) ∧ K ((v3 * (σ2 16 0)).tdiv (10000 * (σ2 28 3))) σ2)) ∧ (¬ 0 < (σ 28 3) → K 0 σ)) : CI M_Es_projectionOfHit [vR 28, vI x1] σ K := by
  refine Con.of ok_M_Es_projectionOfHit (ls := [(0, vR 28), (1, vI x1)]) rfl (Nat.le_of_ble_eq_true rfl) ?_
  refine r_aload_n d_Es_projectionOfHit_0 rfl (?_ : WM _ 1 _ _ _ _)
  refine r_getI (k := 28) (j := 3) 3 (by decide) rfl clk_0 (by decide) (qm_2 (i := 6) rfl rfl) rfl rfl d_Es_projectionOfHit_1 (y := (σ 28 3)) rfl (?_ : WM _ 4 _ _ _ _)
  refine r_if_gt 9 d_Es_projectionOfHit_4 rfl ⟨fun c1 => (?_ : WM _ 9 _ _ _ _), fun c1 => (?_ : WM _ 7 _ _ _ _)⟩
  · replace h := h.1 c1
    refine r_aload_n d_Es_projectionOfHit_9 rfl (?_ : WM _ 10 _ _ _ _)
    refine r_getR (k := 28) (j := 7) (q := 3) (by decide) rfl clk_0 (by decide) (qm_2 (i := 10) rfl rfl) rfl d_Es_projectionOfHit_10 (?_ : WM _ 13 _ _ _ _)
    refine r_iload_n d_Es_projectionOfHit_13 rfl (?_ : WM _ 14 _ _ _ _)
    refine r_callV (ν := M_Le_taintOf) (k := 3) [vI x1] ok_M_Le_taintOf okv_M_Le_taintOf (by decide) rfl rfl rfl (qm_9 (i := 54) rfl rfl) np_M_Le_taintOf rfl (by decide) (Nat.le_of_ble_eq_true rfl) rfl d_Es_projectionOfHit_14 (CI.k h (fun v3 σ2 h => (?_ : WM _ 17 _ _ _ _)))
    refine r_i2l d_Es_projectionOfHit_17 (?_ : WM _ 18 _ _ _ _)
    refine r_aload_n d_Es_projectionOfHit_18 rfl (?_ : WM _ 19 _ _ _ _)
    refine r_getR (k := 28) (j := 8) (q := 16) (by decide) rfl clk_0 (by decide) (qm_2 (i := 11) rfl rfl) rfl d_Es_projectionOfHit_19 (?_ : WM _ 22 _ _ _ _)
    refine r_getI (k := 16) (j := 0) 0 (by decide) rfl clk_2 (by decide) (qm_1 (i := 156) rfl rfl) rfl rfl d_Es_projectionOfHit_22 (y := (σ2 16 0)) rfl (?_ : WM _ 25 _ _ _ _)
    refine r_i2l d_Es_projectionOfHit_25 (?_ : WM _ 26 _ _ _ _)
    obtain ⟨h4, h⟩ := h
    refine r_lmul d_Es_projectionOfHit_26 h4 (?_ : WM _ 27 _ _ _ _)
    refine r_sipush d_Es_projectionOfHit_27 (by decide) (by decide) (?_ : WM _ 30 _ _ _ _)
    refine r_aload_n d_Es_projectionOfHit_30 rfl (?_ : WM _ 31 _ _ _ _)
    refine r_getI (k := 28) (j := 3) 3 (by decide) rfl clk_0 (by decide) (qm_2 (i := 6) rfl rfl) rfl rfl d_Es_projectionOfHit_31 (y := (σ2 28 3)) rfl (?_ : WM _ 34 _ _ _ _)
    obtain ⟨h5, h⟩ := h
    refine r_imul d_Es_projectionOfHit_34 h5 (?_ : WM _ 35 _ _ _ _)
    refine r_i2l d_Es_projectionOfHit_35 (?_ : WM _ 36 _ _ _ _)
    obtain ⟨h6, h⟩ := h
    obtain ⟨h7, h⟩ := h
    refine r_ldiv d_Es_projectionOfHit_36 h6 h7 (?_ : WM _ 37 _ _ _ _)
    obtain ⟨h8, h⟩ := h
    refine r_l2i d_Es_projectionOfHit_37 h8 (?_ : WM _ 38 _ _ _ _)
    exact r_ireturn rfl d_Es_projectionOfHit_38 h
  · replace h := h.2 c1
    refine r_iconst d_Es_projectionOfHit_7 (by decide) (?_ : WM _ 8 _ _ _ _)
    exact r_ireturn rfl d_Es_projectionOfHit_8 h
set_option maxRecDepth 20000 in
theorem e_Li_number {K : St → Prop} {σ : St} (x1 : Int) (h : WM M_Li_number 4 [(0, vR 33), (1, vI x1), (2, vI 1), (3, vI 1)] [] σ (QV K)) : CV M_Li_number [vR 33, vI x1] σ K := by
  refine Con.of ok_M_Li_number (ls := [(0, vR 33), (1, vI x1)]) rfl (Nat.le_of_ble_eq_true rfl) ?_
  refine r_iconst d_Li_number_0 (by decide) (?_ : WM _ 1 _ _ _ _)
  refine r_istore_n (ls' := [(2, vI 1), (0, vR 33), (1, vI x1)]) d_Li_number_1 rfl (by decide) rfl (?_ : WM _ 2 _ _ _ _)
  refine r_iconst d_Li_number_2 (by decide) (?_ : WM _ 3 _ _ _ _)
  refine r_istore_n (ls' := [(3, vI 1), (2, vI 1), (0, vR 33), (1, vI x1)]) d_Li_number_3 rfl (by decide) rfl (?_ : WM _ 4 _ _ _ _)
  refine r_pick (ls' := [(0, vR 33), (1, vI x1), (2, vI 1), (3, vI 1)]) [2, 3, 1, 0] rfl ?_
  exact h
set_option maxRecDepth 20000 in
theorem l_Li_number_1 {K : St → Prop} {σ : St} (x1 : Int) (x2 : Int) (x3 : Int) (h : (10 ≤ x3 → WM M_Li_number 29 [(0, vR 33), (1, vI x1), (2, vI x2)] [] σ (QV K)) ∧ (¬ 10 ≤ x3 → (0 ≤ x1) ∧ ((x1 / 10) < x2 → WM M_Li_number 29 [(0, vR 33), (1, vI x1), (2, vI x2)] [] σ (QV K)) ∧ (¬ (x1 / 10) < x2 → (inR (x2 * 10)) ∧ (inR (x3 + 1)) ∧ WM M_Li_number 4 [(0, vR 33), (1, vI x1), (2, vI (x2 * 10)), (3, vI (x3 + 1))] [] σ (QV K)))) : WM M_Li_number 4 [(0, vR 33), (1, vI x1), (2, vI x2), (3, vI x3)] [] σ (QV K) := by
  refine r_iload_n d_Li_number_4 rfl (?_ : WM _ 5 _ _ _ _)
  refine r_bipush d_Li_number_5 (by decide) (by decide) (?_ : WM _ 7 _ _ _ _)
  refine r_icmp_ge 29 d_Li_number_7 rfl ⟨fun c1 => (?_ : WM _ 29 _ _ _ _), fun c1 => (?_ : WM _ 10 _ _ _ _)⟩
  · replace h := h.1 c1
    refine r_pick (ls' := [(0, vR 33), (1, vI x1), (2, vI x2)]) [0, 1, 2] rfl ?_
    exact h
  · replace h := h.2 c1
    refine r_iload_n d_Li_number_10 rfl (?_ : WM _ 11 _ _ _ _)
    refine r_iload_n d_Li_number_11 rfl (?_ : WM _ 12 _ _ _ _)
    refine r_bipush d_Li_number_12 (by decide) (by decide) (?_ : WM _ 14 _ _ _ _)
    obtain ⟨h2, h⟩ := h
    refine r_idivn d_Li_number_14 h2 (by decide) (?_ : WM _ 15 _ _ _ _)
    refine r_icmp_gt 29 d_Li_number_15 rfl ⟨fun c3 => (?_ : WM _ 29 _ _ _ _), fun c3 => (?_ : WM _ 18 _ _ _ _)⟩
    · replace h := h.1 c3
      refine r_pick (ls' := [(0, vR 33), (1, vI x1), (2, vI x2)]) [0, 1, 2] rfl ?_
      exact h
    · replace h := h.2 c3
      refine r_iload_n d_Li_number_18 rfl (?_ : WM _ 19 _ _ _ _)
      refine r_bipush d_Li_number_19 (by decide) (by decide) (?_ : WM _ 21 _ _ _ _)
      obtain ⟨h4, h⟩ := h
      refine r_imul d_Li_number_21 h4 (?_ : WM _ 22 _ _ _ _)
      refine r_istore_n (ls' := [(2, vI (x2 * 10)), (0, vR 33), (1, vI x1), (3, vI x3)]) d_Li_number_22 rfl (by decide) rfl (?_ : WM _ 23 _ _ _ _)
      obtain ⟨h5, h⟩ := h
      refine r_iinc (ls' := [(3, vI (x3 + 1)), (2, vI (x2 * 10)), (0, vR 33), (1, vI x1)]) d_Li_number_23 rfl h5 (by decide) rfl (?_ : WM _ 26 _ _ _ _)
      refine r_goto 4 d_Li_number_26 rfl ?_
      refine r_pick (ls' := [(0, vR 33), (1, vI x1), (2, vI (x2 * 10)), (3, vI (x3 + 1))]) [2, 3, 1, 0] rfl ?_
      exact h
set_option maxRecDepth 20000 in
theorem l_Li_number_2 {K : St → Prop} {σ : St} (x1 : Int) (x2 : Int) (h : (x2 ≤ 0 → K σ) ∧ (¬ x2 ≤ 0 → (0 ≤ x1) ∧ (0 < x2) ∧ (0 ≤ (x1 / x2)) ∧ (inR (48 + ((x1 / x2) % 10))) ∧ CV M_Li_sign [vR 33, vI ((48 + ((x1 / x2) % 10)) % 65536)] σ (fun σ11 => (0 ≤ x2) ∧ WM M_Li_number 29 [(0, vR 33), (1, vI x1), (2, vI (x2 / 10))] [] σ11 (QV K)))) : WM M_Li_number 29 [(0, vR 33), (1, vI x1), (2, vI x2)] [] σ (QV K) := by
  refine r_iload_n d_Li_number_29 rfl (?_ : WM _ 30 _ _ _ _)
  refine r_if_le 55 d_Li_number_30 rfl ⟨fun c6 => (?_ : WM _ 55 _ _ _ _), fun c6 => (?_ : WM _ 33 _ _ _ _)⟩
  · replace h := h.1 c6
    exact r_return rfl d_Li_number_55 h
  · replace h := h.2 c6
    refine r_aload_n d_Li_number_33 rfl (?_ : WM _ 34 _ _ _ _)
    refine r_bipush d_Li_number_34 (by decide) (by decide) (?_ : WM _ 36 _ _ _ _)
    refine r_iload_n d_Li_number_36 rfl (?_ : WM _ 37 _ _ _ _)
    refine r_iload_n d_Li_number_37 rfl (?_ : WM _ 38 _ _ _ _)
    obtain ⟨h7, h⟩ := h
    obtain ⟨h8, h⟩ := h
    refine r_idivn d_Li_number_38 h7 h8 (?_ : WM _ 39 _ _ _ _)
    refine r_bipush d_Li_number_39 (by decide) (by decide) (?_ : WM _ 41 _ _ _ _)
    obtain ⟨h9, h⟩ := h
    refine r_iremn d_Li_number_41 h9 (by decide) (?_ : WM _ 42 _ _ _ _)
    obtain ⟨h10, h⟩ := h
    refine r_iadd d_Li_number_42 h10 (?_ : WM _ 43 _ _ _ _)
    refine r_i2c d_Li_number_43 (?_ : WM _ 44 _ _ _ _)
    refine r_callV (ν := M_Li_sign) (k := 33) [vI ((48 + ((x1 / x2) % 10)) % 65536)] ok_M_Li_sign okv_M_Li_sign (by decide) rfl rfl rfl (qm_10 (i := 3) rfl rfl) np_M_Li_sign rfl (by decide) (Nat.le_of_ble_eq_true rfl) rfl d_Li_number_44 (CV.k h (fun σ11 h => (?_ : WM _ 47 _ _ _ _)))
    refine r_iload_n d_Li_number_47 rfl (?_ : WM _ 48 _ _ _ _)
    refine r_bipush d_Li_number_48 (by decide) (by decide) (?_ : WM _ 50 _ _ _ _)
    obtain ⟨h13, h⟩ := h
    refine r_idivn d_Li_number_50 h13 (by decide) (?_ : WM _ 51 _ _ _ _)
    refine r_istore_n (ls' := [(2, vI (x2 / 10)), (0, vR 33), (1, vI x1)]) d_Li_number_51 rfl (by decide) rfl (?_ : WM _ 52 _ _ _ _)
    refine r_goto 29 d_Li_number_52 rfl ?_
    refine r_pick (ls' := [(0, vR 33), (1, vI x1), (2, vI (x2 / 10))]) [1, 2, 0] rfl ?_
    exact h
set_option maxRecDepth 20000 in
theorem e_Li_sign {K : St → Prop} {σ : St} (x1 : Int) (h : (32 ≤ (σ 33 1) → K σ) ∧ (¬ 32 ≤ (σ 33 1) → (0 ≤ (σ 33 1)) ∧ ((σ 33 1) < 32) ∧ (0 ≤ x1) ∧ (x1 < 65536) ∧ (inR ((σ 33 1) + 1)) ∧ K (ups (ups σ 34 (σ 33 1) x1) 33 1 ((σ 33 1) + 1)))) : CV M_Li_sign [vR 33, vI x1] σ K := by
  refine Con.of ok_M_Li_sign (ls := [(0, vR 33), (1, vI x1)]) rfl (Nat.le_of_ble_eq_true rfl) ?_
  refine r_aload_n d_Li_sign_0 rfl (?_ : WM _ 1 _ _ _ _)
  refine r_getI (k := 33) (j := 1) 1 (by decide) rfl clk_4 (by decide) (qm_2 (i := 69) rfl rfl) rfl rfl d_Li_sign_1 (y := (σ 33 1)) rfl (?_ : WM _ 4 _ _ _ _)
  refine r_aload_n d_Li_sign_4 rfl (?_ : WM _ 5 _ _ _ _)
  refine r_getR (k := 33) (j := 0) (q := 34) (by decide) rfl clk_4 (by decide) (qm_2 (i := 68) rfl rfl) rfl d_Li_sign_5 (?_ : WM _ 8 _ _ _ _)
  refine r_alen (k := 34) (t := 3) (n := 32) 32 (by decide) rfl (fun _ => rfl) rfl (by decide) d_Li_sign_8 (?_ : WM _ 9 _ _ _ _)
  refine r_icmp_ge 32 d_Li_sign_9 rfl ⟨fun c1 => (?_ : WM _ 32 _ _ _ _), fun c1 => (?_ : WM _ 12 _ _ _ _)⟩
  · replace h := h.1 c1
    exact r_return rfl d_Li_sign_32 h
  · replace h := h.2 c1
    refine r_aload_n d_Li_sign_12 rfl (?_ : WM _ 13 _ _ _ _)
    refine r_getR (k := 33) (j := 0) (q := 34) (by decide) rfl clk_4 (by decide) (qm_2 (i := 68) rfl rfl) rfl d_Li_sign_13 (?_ : WM _ 16 _ _ _ _)
    refine r_aload_n d_Li_sign_16 rfl (?_ : WM _ 17 _ _ _ _)
    refine r_getI (k := 33) (j := 1) 1 (by decide) rfl clk_4 (by decide) (qm_2 (i := 69) rfl rfl) rfl rfl d_Li_sign_17 (y := (σ 33 1)) rfl (?_ : WM _ 20 _ _ _ _)
    refine r_iload_n d_Li_sign_20 rfl (?_ : WM _ 21 _ _ _ _)
    obtain ⟨h2, h⟩ := h
    obtain ⟨h3, h⟩ := h
    obtain ⟨h4, h⟩ := h
    obtain ⟨h5, h⟩ := h
    refine r_cast (k := 34) (n := 32) (by decide) rfl d_Li_sign_21 h2 h3 h4 h5 (?_ : WM _ 22 _ _ _ _)
    refine r_aload_n d_Li_sign_22 rfl (?_ : WM _ 23 _ _ _ _)
    refine r_dup d_Li_sign_23 rfl (?_ : WM _ 24 _ _ _ _)
    refine r_getI (k := 33) (j := 1) 1 (by decide) rfl clk_4 (by decide) (qm_2 (i := 69) rfl rfl) rfl rfl d_Li_sign_24 (y := (σ 33 1)) (ups_c (by decide)) (?_ : WM _ 27 _ _ _ _)
    refine r_iconst d_Li_sign_27 (by decide) (?_ : WM _ 28 _ _ _ _)
    obtain ⟨h6, h⟩ := h
    refine r_iadd d_Li_sign_28 h6 (?_ : WM _ 29 _ _ _ _)
    refine r_put (k := 33) (j := 1) 1 (by decide) rfl clk_4 (by decide) (qm_2 (i := 69) rfl rfl) rfl rfl rfl tyX4_ok rfl nmX4 d_Li_sign_29 (?_ : WM _ 32 _ _ _ _)
    exact r_return rfl d_Li_sign_32 h
set_option maxRecDepth 20000 in
theorem e_Fa_upperOf {K : Int → St → Prop} {σ : St} (x1 : Int) (x2 : Int) (x3 : Int) (h : (x2 < 0 → K 1000000 σ) ∧ (¬ x2 < 0 → (x2 ≤ 400 → (¬ x1 = (σ 26 1) → CV M_Ar_fill [vR 27, vI 0] σ (fun σ4 => (0 ≤ x2) ∧ (x2 < 401) ∧ (¬ (σ4 27 x2) = 0 → K (σ4 27 x2) (ups (ups σ4 26 1 x1) 26 2 x3)) ∧ ((σ4 27 x2) = 0 → CI M_Fa_halved [vR 26, vI x1, vI x2, vI x3] (ups (ups σ4 26 1 x1) 26 2 x3) (fun v10 σ9 => K v10 (ups σ9 27 x2 v10))))) ∧ (x1 = (σ 26 1) → (x3 = (σ 26 2) → (0 ≤ x2) ∧ (x2 < 401) ∧ (¬ (σ 27 x2) = 0 → K (σ 27 x2) σ) ∧ ((σ 27 x2) = 0 → CI M_Fa_halved [vR 26, vI x1, vI x2, vI x3] σ (fun v16 σ15 => K v16 (ups σ15 27 x2 v16)))) ∧ (¬ x3 = (σ 26 2) → CV M_Ar_fill [vR 27, vI 0] σ (fun σ17 => (0 ≤ x2) ∧ (x2 < 401) ∧ (¬ (σ17 27 x2) = 0 → K (σ17 27 x2) (ups (ups σ17 26 1 x1) 26 2 x3)) ∧ ((σ17 27 x2) = 0 → CI M_Fa_halved [vR 26, vI x1, vI x2, vI x3] (ups (ups σ17 26 1 x1) 26 2 x3) (fun v23 σ22 => K v23 (ups σ22 27 x2 v23))))))) ∧ (¬ x2 ≤ 400 → K 1000000 σ))) : CI M_Fa_upperOf [vR 26, vI x1, vI x2, vI x3] σ K := by
  refine Con.of ok_M_Fa_upperOf (ls := [(0, vR 26), (1, vI x1), (2, vI x2), (3, vI x3)]) rfl (Nat.le_of_ble_eq_true rfl) ?_
  refine r_iload_n d_Fa_upperOf_0 rfl (?_ : WM _ 1 _ _ _ _)
  refine r_if_lt 11 d_Fa_upperOf_1 rfl ⟨fun c1 => (?_ : WM _ 11 _ _ _ _), fun c1 => (?_ : WM _ 4 _ _ _ _)⟩
  · replace h := h.1 c1
    refine r_ldc 1000000 d_Fa_upperOf_11 (qm_5 (i := 224) rfl rfl) (by decide) (by decide) (?_ : WM _ 13 _ _ _ _)
    exact r_ireturn rfl d_Fa_upperOf_13 h
  · replace h := h.2 c1
    refine r_iload_n d_Fa_upperOf_4 rfl (?_ : WM _ 5 _ _ _ _)
    refine r_sipush d_Fa_upperOf_5 (by decide) (by decide) (?_ : WM _ 8 _ _ _ _)
    refine r_icmp_le 14 d_Fa_upperOf_8 rfl ⟨fun c2 => (?_ : WM _ 14 _ _ _ _), fun c2 => (?_ : WM _ 11 _ _ _ _)⟩
    · replace h := h.1 c2
      refine r_iload_n d_Fa_upperOf_14 rfl (?_ : WM _ 15 _ _ _ _)
      refine r_aload_n d_Fa_upperOf_15 rfl (?_ : WM _ 16 _ _ _ _)
      refine r_getI (k := 26) (j := 1) 1 (by decide) rfl clk_1 (by decide) (qm_1 (i := 226) rfl rfl) rfl rfl d_Fa_upperOf_16 (y := (σ 26 1)) rfl (?_ : WM _ 19 _ _ _ _)
      refine r_icmp_ne 30 d_Fa_upperOf_19 rfl ⟨fun c3 => (?_ : WM _ 30 _ _ _ _), fun c3 => (?_ : WM _ 22 _ _ _ _)⟩
      · replace h := h.1 c3
        refine r_aload_n d_Fa_upperOf_30 rfl (?_ : WM _ 31 _ _ _ _)
        refine r_getR (k := 26) (j := 0) (q := 27) (by decide) rfl clk_1 (by decide) (qm_1 (i := 225) rfl rfl) rfl d_Fa_upperOf_31 (?_ : WM _ 34 _ _ _ _)
        refine r_iconst d_Fa_upperOf_34 (by decide) (?_ : WM _ 35 _ _ _ _)
        refine r_callS (ν := M_Ar_fill) [vR 27, vI 0] ok_M_Ar_fill oks_M_Ar_fill (qm_10 (i := 54) rfl rfl) np_M_Ar_fill rfl (by decide) (Nat.le_of_ble_eq_true rfl) rfl d_Fa_upperOf_35 (CV.k h (fun σ4 h => (?_ : WM _ 38 _ _ _ _)))
        refine r_aload_n d_Fa_upperOf_38 rfl (?_ : WM _ 39 _ _ _ _)
        refine r_iload_n d_Fa_upperOf_39 rfl (?_ : WM _ 40 _ _ _ _)
        refine r_put (k := 26) (j := 1) 1 (by decide) rfl clk_1 (by decide) (qm_1 (i := 226) rfl rfl) rfl rfl rfl tyX1_ok rfl nmX1 d_Fa_upperOf_40 (?_ : WM _ 43 _ _ _ _)
        refine r_aload_n d_Fa_upperOf_43 rfl (?_ : WM _ 44 _ _ _ _)
        refine r_iload_n d_Fa_upperOf_44 rfl (?_ : WM _ 45 _ _ _ _)
        refine r_put (k := 26) (j := 2) 2 (by decide) rfl clk_1 (by decide) (qm_1 (i := 227) rfl rfl) rfl rfl rfl tyX1_ok rfl nmX1 d_Fa_upperOf_45 (?_ : WM _ 48 _ _ _ _)
        refine r_aload_n d_Fa_upperOf_48 rfl (?_ : WM _ 49 _ _ _ _)
        refine r_getR (k := 26) (j := 0) (q := 27) (by decide) rfl clk_1 (by decide) (qm_1 (i := 225) rfl rfl) rfl d_Fa_upperOf_49 (?_ : WM _ 52 _ _ _ _)
        refine r_iload_n d_Fa_upperOf_52 rfl (?_ : WM _ 53 _ _ _ _)
        obtain ⟨h6, h⟩ := h
        obtain ⟨h7, h⟩ := h
        refine r_iald (k := 27) (n := 401) (by decide) rfl d_Fa_upperOf_53 h6 h7 (y := (σ4 27 x2)) ((ups_c (by decide)).trans (ups_c (by decide))) (?_ : WM _ 54 _ _ _ _)
        refine r_if_ne 70 d_Fa_upperOf_54 rfl ⟨fun c8 => (?_ : WM _ 70 _ _ _ _), fun c8 => (?_ : WM _ 57 _ _ _ _)⟩
        · replace h := h.1 c8
          refine r_aload_n d_Fa_upperOf_70 rfl (?_ : WM _ 71 _ _ _ _)
          refine r_getR (k := 26) (j := 0) (q := 27) (by decide) rfl clk_1 (by decide) (qm_1 (i := 225) rfl rfl) rfl d_Fa_upperOf_71 (?_ : WM _ 74 _ _ _ _)
          refine r_iload_n d_Fa_upperOf_74 rfl (?_ : WM _ 75 _ _ _ _)
          refine r_iald (k := 27) (n := 401) (by decide) rfl d_Fa_upperOf_75 h6 h7 (y := (σ4 27 x2)) ((ups_c (by decide)).trans (ups_c (by decide))) (?_ : WM _ 76 _ _ _ _)
          exact r_ireturn rfl d_Fa_upperOf_76 h
        · replace h := h.2 c8
          refine r_aload_n d_Fa_upperOf_57 rfl (?_ : WM _ 58 _ _ _ _)
          refine r_getR (k := 26) (j := 0) (q := 27) (by decide) rfl clk_1 (by decide) (qm_1 (i := 225) rfl rfl) rfl d_Fa_upperOf_58 (?_ : WM _ 61 _ _ _ _)
          refine r_iload_n d_Fa_upperOf_61 rfl (?_ : WM _ 62 _ _ _ _)
          refine r_aload_n d_Fa_upperOf_62 rfl (?_ : WM _ 63 _ _ _ _)
          refine r_iload_n d_Fa_upperOf_63 rfl (?_ : WM _ 64 _ _ _ _)
          refine r_iload_n d_Fa_upperOf_64 rfl (?_ : WM _ 65 _ _ _ _)
          refine r_iload_n d_Fa_upperOf_65 rfl (?_ : WM _ 66 _ _ _ _)
          refine r_callV (ν := M_Fa_halved) (k := 26) [vI x1, vI x2, vI x3] ok_M_Fa_halved okv_M_Fa_halved (by decide) rfl rfl rfl (qm_5 (i := 220) rfl rfl) np_M_Fa_halved rfl (by decide) (Nat.le_of_ble_eq_true rfl) rfl d_Fa_upperOf_66 (CI.k h (fun v10 σ9 h => (?_ : WM _ 69 _ _ _ _)))
          refine r_iast (k := 27) (n := 401) (by decide) rfl d_Fa_upperOf_69 h6 h7 (?_ : WM _ 70 _ _ _ _)
          refine r_aload_n d_Fa_upperOf_70 rfl (?_ : WM _ 71 _ _ _ _)
          refine r_getR (k := 26) (j := 0) (q := 27) (by decide) rfl clk_1 (by decide) (qm_1 (i := 225) rfl rfl) rfl d_Fa_upperOf_71 (?_ : WM _ 74 _ _ _ _)
          refine r_iload_n d_Fa_upperOf_74 rfl (?_ : WM _ 75 _ _ _ _)
          refine r_iald (k := 27) (n := 401) (by decide) rfl d_Fa_upperOf_75 h6 h7 (y := v10) (ups_s) (?_ : WM _ 76 _ _ _ _)
          exact r_ireturn rfl d_Fa_upperOf_76 h
      · replace h := h.2 c3
        refine r_iload_n d_Fa_upperOf_22 rfl (?_ : WM _ 23 _ _ _ _)
        refine r_aload_n d_Fa_upperOf_23 rfl (?_ : WM _ 24 _ _ _ _)
        refine r_getI (k := 26) (j := 2) 2 (by decide) rfl clk_1 (by decide) (qm_1 (i := 227) rfl rfl) rfl rfl d_Fa_upperOf_24 (y := (σ 26 2)) rfl (?_ : WM _ 27 _ _ _ _)
        refine r_icmp_eq 48 d_Fa_upperOf_27 rfl ⟨fun c11 => (?_ : WM _ 48 _ _ _ _), fun c11 => (?_ : WM _ 30 _ _ _ _)⟩
        · replace h := h.1 c11
          refine r_aload_n d_Fa_upperOf_48 rfl (?_ : WM _ 49 _ _ _ _)
          refine r_getR (k := 26) (j := 0) (q := 27) (by decide) rfl clk_1 (by decide) (qm_1 (i := 225) rfl rfl) rfl d_Fa_upperOf_49 (?_ : WM _ 52 _ _ _ _)
          refine r_iload_n d_Fa_upperOf_52 rfl (?_ : WM _ 53 _ _ _ _)
          obtain ⟨h12, h⟩ := h
          obtain ⟨h13, h⟩ := h
          refine r_iald (k := 27) (n := 401) (by decide) rfl d_Fa_upperOf_53 h12 h13 (y := (σ 27 x2)) rfl (?_ : WM _ 54 _ _ _ _)
          refine r_if_ne 70 d_Fa_upperOf_54 rfl ⟨fun c14 => (?_ : WM _ 70 _ _ _ _), fun c14 => (?_ : WM _ 57 _ _ _ _)⟩
          · replace h := h.1 c14
            refine r_aload_n d_Fa_upperOf_70 rfl (?_ : WM _ 71 _ _ _ _)
            refine r_getR (k := 26) (j := 0) (q := 27) (by decide) rfl clk_1 (by decide) (qm_1 (i := 225) rfl rfl) rfl d_Fa_upperOf_71 (?_ : WM _ 74 _ _ _ _)
            refine r_iload_n d_Fa_upperOf_74 rfl (?_ : WM _ 75 _ _ _ _)
            refine r_iald (k := 27) (n := 401) (by decide) rfl d_Fa_upperOf_75 h12 h13 (y := (σ 27 x2)) rfl (?_ : WM _ 76 _ _ _ _)
            exact r_ireturn rfl d_Fa_upperOf_76 h
          · replace h := h.2 c14
            refine r_aload_n d_Fa_upperOf_57 rfl (?_ : WM _ 58 _ _ _ _)
            refine r_getR (k := 26) (j := 0) (q := 27) (by decide) rfl clk_1 (by decide) (qm_1 (i := 225) rfl rfl) rfl d_Fa_upperOf_58 (?_ : WM _ 61 _ _ _ _)
            refine r_iload_n d_Fa_upperOf_61 rfl (?_ : WM _ 62 _ _ _ _)
            refine r_aload_n d_Fa_upperOf_62 rfl (?_ : WM _ 63 _ _ _ _)
            refine r_iload_n d_Fa_upperOf_63 rfl (?_ : WM _ 64 _ _ _ _)
            refine r_iload_n d_Fa_upperOf_64 rfl (?_ : WM _ 65 _ _ _ _)
            refine r_iload_n d_Fa_upperOf_65 rfl (?_ : WM _ 66 _ _ _ _)
            refine r_callV (ν := M_Fa_halved) (k := 26) [vI x1, vI x2, vI x3] ok_M_Fa_halved okv_M_Fa_halved (by decide) rfl rfl rfl (qm_5 (i := 220) rfl rfl) np_M_Fa_halved rfl (by decide) (Nat.le_of_ble_eq_true rfl) rfl d_Fa_upperOf_66 (CI.k h (fun v16 σ15 h => (?_ : WM _ 69 _ _ _ _)))
            refine r_iast (k := 27) (n := 401) (by decide) rfl d_Fa_upperOf_69 h12 h13 (?_ : WM _ 70 _ _ _ _)
            refine r_aload_n d_Fa_upperOf_70 rfl (?_ : WM _ 71 _ _ _ _)
            refine r_getR (k := 26) (j := 0) (q := 27) (by decide) rfl clk_1 (by decide) (qm_1 (i := 225) rfl rfl) rfl d_Fa_upperOf_71 (?_ : WM _ 74 _ _ _ _)
            refine r_iload_n d_Fa_upperOf_74 rfl (?_ : WM _ 75 _ _ _ _)
            refine r_iald (k := 27) (n := 401) (by decide) rfl d_Fa_upperOf_75 h12 h13 (y := v16) (ups_s) (?_ : WM _ 76 _ _ _ _)
            exact r_ireturn rfl d_Fa_upperOf_76 h
        · replace h := h.2 c11
          refine r_aload_n d_Fa_upperOf_30 rfl (?_ : WM _ 31 _ _ _ _)
          refine r_getR (k := 26) (j := 0) (q := 27) (by decide) rfl clk_1 (by decide) (qm_1 (i := 225) rfl rfl) rfl d_Fa_upperOf_31 (?_ : WM _ 34 _ _ _ _)
          refine r_iconst d_Fa_upperOf_34 (by decide) (?_ : WM _ 35 _ _ _ _)
          refine r_callS (ν := M_Ar_fill) [vR 27, vI 0] ok_M_Ar_fill oks_M_Ar_fill (qm_10 (i := 54) rfl rfl) np_M_Ar_fill rfl (by decide) (Nat.le_of_ble_eq_true rfl) rfl d_Fa_upperOf_35 (CV.k h (fun σ17 h => (?_ : WM _ 38 _ _ _ _)))
          refine r_aload_n d_Fa_upperOf_38 rfl (?_ : WM _ 39 _ _ _ _)
          refine r_iload_n d_Fa_upperOf_39 rfl (?_ : WM _ 40 _ _ _ _)
          refine r_put (k := 26) (j := 1) 1 (by decide) rfl clk_1 (by decide) (qm_1 (i := 226) rfl rfl) rfl rfl rfl tyX1_ok rfl nmX1 d_Fa_upperOf_40 (?_ : WM _ 43 _ _ _ _)
          refine r_aload_n d_Fa_upperOf_43 rfl (?_ : WM _ 44 _ _ _ _)
          refine r_iload_n d_Fa_upperOf_44 rfl (?_ : WM _ 45 _ _ _ _)
          refine r_put (k := 26) (j := 2) 2 (by decide) rfl clk_1 (by decide) (qm_1 (i := 227) rfl rfl) rfl rfl rfl tyX1_ok rfl nmX1 d_Fa_upperOf_45 (?_ : WM _ 48 _ _ _ _)
          refine r_aload_n d_Fa_upperOf_48 rfl (?_ : WM _ 49 _ _ _ _)
          refine r_getR (k := 26) (j := 0) (q := 27) (by decide) rfl clk_1 (by decide) (qm_1 (i := 225) rfl rfl) rfl d_Fa_upperOf_49 (?_ : WM _ 52 _ _ _ _)
          refine r_iload_n d_Fa_upperOf_52 rfl (?_ : WM _ 53 _ _ _ _)
          obtain ⟨h19, h⟩ := h
          obtain ⟨h20, h⟩ := h
          refine r_iald (k := 27) (n := 401) (by decide) rfl d_Fa_upperOf_53 h19 h20 (y := (σ17 27 x2)) ((ups_c (by decide)).trans (ups_c (by decide))) (?_ : WM _ 54 _ _ _ _)
          refine r_if_ne 70 d_Fa_upperOf_54 rfl ⟨fun c21 => (?_ : WM _ 70 _ _ _ _), fun c21 => (?_ : WM _ 57 _ _ _ _)⟩
          · replace h := h.1 c21
            refine r_aload_n d_Fa_upperOf_70 rfl (?_ : WM _ 71 _ _ _ _)
            refine r_getR (k := 26) (j := 0) (q := 27) (by decide) rfl clk_1 (by decide) (qm_1 (i := 225) rfl rfl) rfl d_Fa_upperOf_71 (?_ : WM _ 74 _ _ _ _)
            refine r_iload_n d_Fa_upperOf_74 rfl (?_ : WM _ 75 _ _ _ _)
            refine r_iald (k := 27) (n := 401) (by decide) rfl d_Fa_upperOf_75 h19 h20 (y := (σ17 27 x2)) ((ups_c (by decide)).trans (ups_c (by decide))) (?_ : WM _ 76 _ _ _ _)
            exact r_ireturn rfl d_Fa_upperOf_76 h
          · replace h := h.2 c21
            refine r_aload_n d_Fa_upperOf_57 rfl (?_ : WM _ 58 _ _ _ _)
            refine r_getR (k := 26) (j := 0) (q := 27) (by decide) rfl clk_1 (by decide) (qm_1 (i := 225) rfl rfl) rfl d_Fa_upperOf_58 (?_ : WM _ 61 _ _ _ _)
            refine r_iload_n d_Fa_upperOf_61 rfl (?_ : WM _ 62 _ _ _ _)
            refine r_aload_n d_Fa_upperOf_62 rfl (?_ : WM _ 63 _ _ _ _)
            refine r_iload_n d_Fa_upperOf_63 rfl (?_ : WM _ 64 _ _ _ _)
            refine r_iload_n d_Fa_upperOf_64 rfl (?_ : WM _ 65 _ _ _ _)
            refine r_iload_n d_Fa_upperOf_65 rfl (?_ : WM _ 66 _ _ _ _)
            refine r_callV (ν := M_Fa_halved) (k := 26) [vI x1, vI x2, vI x3] ok_M_Fa_halved okv_M_Fa_halved (by decide) rfl rfl rfl (qm_5 (i := 220) rfl rfl) np_M_Fa_halved rfl (by decide) (Nat.le_of_ble_eq_true rfl) rfl d_Fa_upperOf_66 (CI.k h (fun v23 σ22 h => (?_ : WM _ 69 _ _ _ _)))
            refine r_iast (k := 27) (n := 401) (by decide) rfl d_Fa_upperOf_69 h19 h20 (?_ : WM _ 70 _ _ _ _)
            refine r_aload_n d_Fa_upperOf_70 rfl (?_ : WM _ 71 _ _ _ _)
            refine r_getR (k := 26) (j := 0) (q := 27) (by decide) rfl clk_1 (by decide) (qm_1 (i := 225) rfl rfl) rfl d_Fa_upperOf_71 (?_ : WM _ 74 _ _ _ _)
            refine r_iload_n d_Fa_upperOf_74 rfl (?_ : WM _ 75 _ _ _ _)
            refine r_iald (k := 27) (n := 401) (by decide) rfl d_Fa_upperOf_75 h19 h20 (y := v23) (ups_s) (?_ : WM _ 76 _ _ _ _)
            exact r_ireturn rfl d_Fa_upperOf_76 h
    · replace h := h.2 c2
      refine r_ldc 1000000 d_Fa_upperOf_11 (qm_5 (i := 224) rfl rfl) (by decide) (by decide) (?_ : WM _ 13 _ _ _ _)
      exact r_ireturn rfl d_Fa_upperOf_13 h
set_option maxRecDepth 20000 in
theorem e_Es_basic {K : Int → St → Prop} {σ : St}  (h : CI M_Fa_upperOf [vR 26, vI (σ 28 5), vI 0, vI (σ 28 6)] σ (fun v2 σ1 => (inL ((σ 16 1) * v2)) ∧ (0 ≤ ((σ 16 1) * v2)) ∧ (inR (((σ 16 1) * v2) / 1000000)) ∧ K (((σ 16 1) * v2) / 1000000) σ1)) : CI M_Es_basic [vR 28] σ K := by
  refine Con.of ok_M_Es_basic (ls := [(0, vR 28)]) rfl (Nat.le_of_ble_eq_true rfl) ?_
  refine r_aload_n d_Es_basic_0 rfl (?_ : WM _ 1 _ _ _ _)
  refine r_getR (k := 28) (j := 8) (q := 16) (by decide) rfl clk_0 (by decide) (qm_2 (i := 11) rfl rfl) rfl d_Es_basic_1 (?_ : WM _ 4 _ _ _ _)
  refine r_getI (k := 16) (j := 1) 1 (by decide) rfl clk_2 (by decide) (qm_1 (i := 160) rfl rfl) rfl rfl d_Es_basic_4 (y := (σ 16 1)) rfl (?_ : WM _ 7 _ _ _ _)
  refine r_i2l d_Es_basic_7 (?_ : WM _ 8 _ _ _ _)
  refine r_aload_n d_Es_basic_8 rfl (?_ : WM _ 9 _ _ _ _)
  refine r_getR (k := 28) (j := 11) (q := 26) (by decide) rfl clk_0 (by decide) (qm_2 (i := 14) rfl rfl) rfl d_Es_basic_9 (?_ : WM _ 12 _ _ _ _)
  refine r_aload_n d_Es_basic_12 rfl (?_ : WM _ 13 _ _ _ _)
  refine r_getI (k := 28) (j := 5) 5 (by decide) rfl clk_0 (by decide) (qm_2 (i := 8) rfl rfl) rfl rfl d_Es_basic_13 (y := (σ 28 5)) rfl (?_ : WM _ 16 _ _ _ _)
  refine r_iconst d_Es_basic_16 (by decide) (?_ : WM _ 17 _ _ _ _)
  refine r_aload_n d_Es_basic_17 rfl (?_ : WM _ 18 _ _ _ _)
  refine r_getI (k := 28) (j := 6) 6 (by decide) rfl clk_0 (by decide) (qm_2 (i := 9) rfl rfl) rfl rfl d_Es_basic_18 (y := (σ 28 6)) rfl (?_ : WM _ 21 _ _ _ _)
  refine r_callV (ν := M_Fa_upperOf) (k := 26) [vI (σ 28 5), vI 0, vI (σ 28 6)] ok_M_Fa_upperOf okv_M_Fa_upperOf (by decide) rfl rfl rfl (qm_10 (i := 50) rfl rfl) np_M_Fa_upperOf rfl (by decide) (Nat.le_of_ble_eq_true rfl) rfl d_Es_basic_21 (CI.k h (fun v2 σ1 h => (?_ : WM _ 24 _ _ _ _)))
  refine r_i2l d_Es_basic_24 (?_ : WM _ 25 _ _ _ _)
  obtain ⟨h3, h⟩ := h
  refine r_lmul d_Es_basic_25 h3 (?_ : WM _ 26 _ _ _ _)
  refine r_ldc2 1000000 d_Es_basic_26 (qm_10 (i := 57) rfl rfl) (by decide) (by decide) (?_ : WM _ 29 _ _ _ _)
  obtain ⟨h4, h⟩ := h
  refine r_ldivn d_Es_basic_29 h4 (by decide) (?_ : WM _ 30 _ _ _ _)
  obtain ⟨h5, h⟩ := h
  refine r_l2i d_Es_basic_30 h5 (?_ : WM _ 31 _ _ _ _)
  exact r_ireturn rfl d_Es_basic_31 h
set_option maxRecDepth 20000 in
theorem e_Es_rises {K : Int → St → Prop} {σ : St} (x1 : Int) (h : CV M_Es_rank [vR 28, vI x1] σ (fun σ1 => WM M_Es_rises 9 [(0, vR 28), (2, vI 0), (3, vI 0)] [] σ1 (QI K))) : CI M_Es_rises [vR 28, vI x1] σ K := by
  refine Con.of ok_M_Es_rises (ls := [(0, vR 28), (1, vI x1)]) rfl (Nat.le_of_ble_eq_true rfl) ?_
  refine r_aload_n d_Es_rises_0 rfl (?_ : WM _ 1 _ _ _ _)
  refine r_iload_n d_Es_rises_1 rfl (?_ : WM _ 2 _ _ _ _)
  refine r_callV (ν := M_Es_rank) (k := 28) [vI x1] ok_M_Es_rank okv_M_Es_rank (by decide) rfl rfl rfl (qm_10 (i := 62) rfl rfl) np_M_Es_rank rfl (by decide) (Nat.le_of_ble_eq_true rfl) rfl d_Es_rises_2 (CV.k h (fun σ1 h => (?_ : WM _ 5 _ _ _ _)))
  refine r_iconst d_Es_rises_5 (by decide) (?_ : WM _ 6 _ _ _ _)
  refine r_istore_n (ls' := [(2, vI 0), (0, vR 28), (1, vI x1)]) d_Es_rises_6 rfl (by decide) rfl (?_ : WM _ 7 _ _ _ _)
  refine r_iconst d_Es_rises_7 (by decide) (?_ : WM _ 8 _ _ _ _)
  refine r_istore_n (ls' := [(3, vI 0), (2, vI 0), (0, vR 28), (1, vI x1)]) d_Es_rises_8 rfl (by decide) rfl (?_ : WM _ 9 _ _ _ _)
  refine r_pick (ls' := [(0, vR 28), (2, vI 0), (3, vI 0)]) [2, 1, 0] rfl ?_
  exact h
set_option maxRecDepth 20000 in
theorem l_Es_rises_1 {K : Int → St → Prop} {σ : St} (x2 : Int) (x3 : Int) (h : ((σ 28 2) ≤ x3 → K x2 σ) ∧ (¬ (σ 28 2) ≤ x3 → CI M_Es_rise [vR 28, vI x3] σ (fun v5 σ4 => (inR (x2 + v5)) ∧ (inR (x3 + 1)) ∧ WM M_Es_rises 9 [(0, vR 28), (2, vI (x2 + v5)), (3, vI (x3 + 1))] [] σ4 (QI K)))) : WM M_Es_rises 9 [(0, vR 28), (2, vI x2), (3, vI x3)] [] σ (QI K) := by
  refine r_iload_n d_Es_rises_9 rfl (?_ : WM _ 10 _ _ _ _)
  refine r_aload_n d_Es_rises_10 rfl (?_ : WM _ 11 _ _ _ _)
  refine r_getI (k := 28) (j := 2) 2 (by decide) rfl clk_0 (by decide) (qm_2 (i := 5) rfl rfl) rfl rfl d_Es_rises_11 (y := (σ 28 2)) rfl (?_ : WM _ 14 _ _ _ _)
  refine r_icmp_ge 31 d_Es_rises_14 rfl ⟨fun c3 => (?_ : WM _ 31 _ _ _ _), fun c3 => (?_ : WM _ 17 _ _ _ _)⟩
  · replace h := h.1 c3
    refine r_iload_n d_Es_rises_31 rfl (?_ : WM _ 32 _ _ _ _)
    exact r_ireturn rfl d_Es_rises_32 h
  · replace h := h.2 c3
    refine r_iload_n d_Es_rises_17 rfl (?_ : WM _ 18 _ _ _ _)
    refine r_aload_n d_Es_rises_18 rfl (?_ : WM _ 19 _ _ _ _)
    refine r_iload_n d_Es_rises_19 rfl (?_ : WM _ 20 _ _ _ _)
    refine r_callV (ν := M_Es_rise) (k := 28) [vI x3] ok_M_Es_rise okv_M_Es_rise (by decide) rfl rfl rfl (qm_10 (i := 66) rfl rfl) np_M_Es_rise rfl (by decide) (Nat.le_of_ble_eq_true rfl) rfl d_Es_rises_20 (CI.k h (fun v5 σ4 h => (?_ : WM _ 23 _ _ _ _)))
    obtain ⟨h6, h⟩ := h
    refine r_iadd d_Es_rises_23 h6 (?_ : WM _ 24 _ _ _ _)
    refine r_istore_n (ls' := [(2, vI (x2 + v5)), (0, vR 28), (3, vI x3)]) d_Es_rises_24 rfl (by decide) rfl (?_ : WM _ 25 _ _ _ _)
    obtain ⟨h7, h⟩ := h
    refine r_iinc (ls' := [(3, vI (x3 + 1)), (2, vI (x2 + v5)), (0, vR 28)]) d_Es_rises_25 rfl h7 (by decide) rfl (?_ : WM _ 28 _ _ _ _)
    refine r_goto 9 d_Es_rises_28 rfl ?_
    refine r_pick (ls' := [(0, vR 28), (2, vI (x2 + v5)), (3, vI (x3 + 1))]) [2, 1, 0] rfl ?_
    exact h
set_option maxRecDepth 20000 in
theorem e_Re_here {K : Int → St → Prop} {σ : St}  (h : ((σ 8 4) ≤ (σ 8 5) → K (-1) σ) ∧ (¬ (σ 8 4) ≤ (σ 8 5) → CI M_Ta_byteAt [vR 1, vI (σ 8 5)] σ (fun v3 σ2 => K v3 σ2))) : CI M_Re_here [vR 8] σ K := by
  refine Con.of ok_M_Re_here (ls := [(0, vR 8)]) rfl (Nat.le_of_ble_eq_true rfl) ?_
  refine r_aload_n d_Re_here_0 rfl (?_ : WM _ 1 _ _ _ _)
  refine r_getI (k := 8) (j := 5) 5 (by decide) rfl clk_5 (by decide) (qm_1 (i := 124) rfl rfl) rfl rfl d_Re_here_1 (y := (σ 8 5)) rfl (?_ : WM _ 4 _ _ _ _)
  refine r_aload_n d_Re_here_4 rfl (?_ : WM _ 5 _ _ _ _)
  refine r_getI (k := 8) (j := 4) 4 (by decide) rfl clk_5 (by decide) (qm_1 (i := 123) rfl rfl) rfl rfl d_Re_here_5 (y := (σ 8 4)) rfl (?_ : WM _ 8 _ _ _ _)
  refine r_icmp_ge 25 d_Re_here_8 rfl ⟨fun c1 => (?_ : WM _ 25 _ _ _ _), fun c1 => (?_ : WM _ 11 _ _ _ _)⟩
  · replace h := h.1 c1
    refine r_iconst d_Re_here_25 (by decide) (?_ : WM _ 26 _ _ _ _)
    exact r_ireturn rfl d_Re_here_26 h
  · replace h := h.2 c1
    refine r_aload_n d_Re_here_11 rfl (?_ : WM _ 12 _ _ _ _)
    refine r_getR (k := 8) (j := 3) (q := 1) (by decide) rfl clk_5 (by decide) (qm_1 (i := 122) rfl rfl) rfl d_Re_here_12 (?_ : WM _ 15 _ _ _ _)
    refine r_aload_n d_Re_here_15 rfl (?_ : WM _ 16 _ _ _ _)
    refine r_getI (k := 8) (j := 5) 5 (by decide) rfl clk_5 (by decide) (qm_1 (i := 124) rfl rfl) rfl rfl d_Re_here_16 (y := (σ 8 5)) rfl (?_ : WM _ 19 _ _ _ _)
    refine r_callV (ν := M_Ta_byteAt) (k := 1) [vI (σ 8 5)] ok_M_Ta_byteAt okv_M_Ta_byteAt (by decide) rfl rfl rfl (qm_5 (i := 13) rfl rfl) np_M_Ta_byteAt rfl (by decide) (Nat.le_of_ble_eq_true rfl) rfl d_Re_here_19 (CI.k h (fun v3 σ2 h => (?_ : WM _ 22 _ _ _ _)))
    refine r_goto 26 d_Re_here_22 rfl ?_
    exact r_ireturn rfl d_Re_here_26 h
set_option maxRecDepth 20000 in
theorem e_Re_skipWord {K : St → Prop} {σ : St}  (h : WM M_Re_skipWord 0 [(0, vR 8)] [] σ (QV K)) : CV M_Re_skipWord [vR 8] σ K := by
  refine Con.of ok_M_Re_skipWord (ls := [(0, vR 8)]) rfl (Nat.le_of_ble_eq_true rfl) ?_
  exact h
set_option maxRecDepth 20000 in
theorem l_Re_skipWord_1 {K : St → Prop} {σ : St}  (h : ((σ 8 4) ≤ (σ 8 5) → K σ) ∧ (¬ (σ 8 4) ≤ (σ 8 5) → CI M_Re_here [vR 8] σ (fun v3 σ2 => (v3 < 97 → K σ2) ∧ (¬ v3 < 97 → CI M_Re_here [vR 8] σ2 (fun v6 σ5 => (122 < v6 → K σ5) ∧ (¬ 122 < v6 → (inR ((σ5 8 5) + 1)) ∧ WM M_Re_skipWord 0 [(0, vR 8)] [] (ups σ5 8 5 ((σ5 8 5) + 1)) (QV K))))))) : WM M_Re_skipWord 0 [(0, vR 8)] [] σ (QV K) := by
  refine r_aload_n d_Re_skipWord_0 rfl (?_ : WM _ 1 _ _ _ _)
  refine r_getI (k := 8) (j := 5) 5 (by decide) rfl clk_5 (by decide) (qm_1 (i := 124) rfl rfl) rfl rfl d_Re_skipWord_1 (y := (σ 8 5)) rfl (?_ : WM _ 4 _ _ _ _)
  refine r_aload_n d_Re_skipWord_4 rfl (?_ : WM _ 5 _ _ _ _)
  refine r_getI (k := 8) (j := 4) 4 (by decide) rfl clk_5 (by decide) (qm_1 (i := 123) rfl rfl) rfl rfl d_Re_skipWord_5 (y := (σ 8 4)) rfl (?_ : WM _ 8 _ _ _ _)
  refine r_icmp_ge 42 d_Re_skipWord_8 rfl ⟨fun c1 => (?_ : WM _ 42 _ _ _ _), fun c1 => (?_ : WM _ 11 _ _ _ _)⟩
  · replace h := h.1 c1
    exact r_return rfl d_Re_skipWord_42 h
  · replace h := h.2 c1
    refine r_aload_n d_Re_skipWord_11 rfl (?_ : WM _ 12 _ _ _ _)
    refine r_callV (ν := M_Re_here) (k := 8) [] ok_M_Re_here okv_M_Re_here (by decide) rfl rfl rfl (qm_5 (i := 9) rfl rfl) np_M_Re_here rfl (by decide) (Nat.le_of_ble_eq_true rfl) rfl d_Re_skipWord_12 (CI.k h (fun v3 σ2 h => (?_ : WM _ 15 _ _ _ _)))
    refine r_bipush d_Re_skipWord_15 (by decide) (by decide) (?_ : WM _ 17 _ _ _ _)
    refine r_icmp_lt 42 d_Re_skipWord_17 rfl ⟨fun c4 => (?_ : WM _ 42 _ _ _ _), fun c4 => (?_ : WM _ 20 _ _ _ _)⟩
    · replace h := h.1 c4
      exact r_return rfl d_Re_skipWord_42 h
    · replace h := h.2 c4
      refine r_aload_n d_Re_skipWord_20 rfl (?_ : WM _ 21 _ _ _ _)
      refine r_callV (ν := M_Re_here) (k := 8) [] ok_M_Re_here okv_M_Re_here (by decide) rfl rfl rfl (qm_5 (i := 9) rfl rfl) np_M_Re_here rfl (by decide) (Nat.le_of_ble_eq_true rfl) rfl d_Re_skipWord_21 (CI.k h (fun v6 σ5 h => (?_ : WM _ 24 _ _ _ _)))
      refine r_bipush d_Re_skipWord_24 (by decide) (by decide) (?_ : WM _ 26 _ _ _ _)
      refine r_icmp_gt 42 d_Re_skipWord_26 rfl ⟨fun c7 => (?_ : WM _ 42 _ _ _ _), fun c7 => (?_ : WM _ 29 _ _ _ _)⟩
      · replace h := h.1 c7
        exact r_return rfl d_Re_skipWord_42 h
      · replace h := h.2 c7
        refine r_aload_n d_Re_skipWord_29 rfl (?_ : WM _ 30 _ _ _ _)
        refine r_dup d_Re_skipWord_30 rfl (?_ : WM _ 31 _ _ _ _)
        refine r_getI (k := 8) (j := 5) 5 (by decide) rfl clk_5 (by decide) (qm_1 (i := 124) rfl rfl) rfl rfl d_Re_skipWord_31 (y := (σ5 8 5)) rfl (?_ : WM _ 34 _ _ _ _)
        refine r_iconst d_Re_skipWord_34 (by decide) (?_ : WM _ 35 _ _ _ _)
        obtain ⟨h8, h⟩ := h
        refine r_iadd d_Re_skipWord_35 h8 (?_ : WM _ 36 _ _ _ _)
        refine r_put (k := 8) (j := 5) 5 (by decide) rfl clk_5 (by decide) (qm_1 (i := 124) rfl rfl) rfl rfl rfl tyX5_ok rfl nmX5 d_Re_skipWord_36 (?_ : WM _ 39 _ _ _ _)
        refine r_goto 0 d_Re_skipWord_39 rfl ?_
        exact h
set_option maxRecDepth 20000 in
theorem e_Re_isWord_8_62 {K : Int → St → Prop} {σ : St} (x1 : Int) (h : (inR ((σ 8 5) - x1)) ∧ CI M_Sg_length [vR 62] σ (fun v3 σ2 => (((σ 8 5) - x1) = v3 → WM M_Re_isWord 17 [(0, vR 8), (1, vI x1), (2, vR 62), (3, vI 0)] [] σ2 (QI K)) ∧ (¬ ((σ 8 5) - x1) = v3 → K 0 σ2))) : CI M_Re_isWord [vR 8, vI x1, vR 62] σ K := by
  refine Con.of ok_M_Re_isWord (ls := [(0, vR 8), (1, vI x1), (2, vR 62)]) rfl (Nat.le_of_ble_eq_true rfl) ?_
  refine r_aload_n d_Re_isWord_0 rfl (?_ : WM _ 1 _ _ _ _)
  refine r_getI (k := 8) (j := 5) 5 (by decide) rfl clk_5 (by decide) (qm_1 (i := 124) rfl rfl) rfl rfl d_Re_isWord_1 (y := (σ 8 5)) rfl (?_ : WM _ 4 _ _ _ _)
  refine r_iload_n d_Re_isWord_4 rfl (?_ : WM _ 5 _ _ _ _)
  obtain ⟨h1, h⟩ := h
  refine r_isub d_Re_isWord_5 h1 (?_ : WM _ 6 _ _ _ _)
  refine r_aload_n d_Re_isWord_6 rfl (?_ : WM _ 7 _ _ _ _)
  refine r_callT (ν := M_Sg_length) (j := 0) [] ok_M_Sg_length okv_M_Sg_length (by decide) rfl (qm_5 (i := 30) rfl rfl) np_M_Sg_length rfl (by decide) (Nat.le_of_ble_eq_true rfl) rfl d_Re_isWord_7 (CI.k h (fun v3 σ2 h => (?_ : WM _ 10 _ _ _ _)))
  refine r_icmp_eq 15 d_Re_isWord_10 rfl ⟨fun c4 => (?_ : WM _ 15 _ _ _ _), fun c4 => (?_ : WM _ 13 _ _ _ _)⟩
  · replace h := h.1 c4
    refine r_iconst d_Re_isWord_15 (by decide) (?_ : WM _ 16 _ _ _ _)
    refine r_istore_n (ls' := [(3, vI 0), (0, vR 8), (1, vI x1), (2, vR 62)]) d_Re_isWord_16 rfl (by decide) rfl (?_ : WM _ 17 _ _ _ _)
    refine r_pick (ls' := [(0, vR 8), (1, vI x1), (2, vR 62), (3, vI 0)]) [1, 2, 3, 0] rfl ?_
    exact h
  · replace h := h.2 c4
    refine r_iconst d_Re_isWord_13 (by decide) (?_ : WM _ 14 _ _ _ _)
    exact r_zreturn rfl d_Re_isWord_14 (by decide) h
set_option maxRecDepth 20000 in
theorem l_Re_isWord_8_62_1 {K : Int → St → Prop} {σ : St} (x1 : Int) (x3 : Int) (h : CI M_Sg_length [vR 62] σ (fun v6 σ5 => (v6 ≤ x3 → K 1 σ5) ∧ (¬ v6 ≤ x3 → (inR (x1 + x3)) ∧ CI M_Ta_byteAt [vR 1, vI (x1 + x3)] σ5 (fun v10 σ9 => CI M_Sg_charAt [vR 62, vI x3] σ9 (fun v12 σ11 => (v10 = v12 → (inR (x3 + 1)) ∧ WM M_Re_isWord 17 [(0, vR 8), (1, vI x1), (2, vR 62), (3, vI (x3 + 1))] [] σ11 (QI K)) ∧ (¬ v10 = v12 → K 0 σ11)))))) : WM M_Re_isWord 17 [(0, vR 8), (1, vI x1), (2, vR 62), (3, vI x3)] [] σ (QI K) := by
  refine r_iload_n d_Re_isWord_17 rfl (?_ : WM _ 18 _ _ _ _)
  refine r_aload_n d_Re_isWord_18 rfl (?_ : WM _ 19 _ _ _ _)
  refine r_callT (ν := M_Sg_length) (j := 0) [] ok_M_Sg_length okv_M_Sg_length (by decide) rfl (qm_5 (i := 30) rfl rfl) np_M_Sg_length rfl (by decide) (Nat.le_of_ble_eq_true rfl) rfl d_Re_isWord_19 (CI.k h (fun v6 σ5 h => (?_ : WM _ 22 _ _ _ _)))
  refine r_icmp_ge 51 d_Re_isWord_22 rfl ⟨fun c7 => (?_ : WM _ 51 _ _ _ _), fun c7 => (?_ : WM _ 25 _ _ _ _)⟩
  · replace h := h.1 c7
    refine r_iconst d_Re_isWord_51 (by decide) (?_ : WM _ 52 _ _ _ _)
    exact r_zreturn rfl d_Re_isWord_52 (by decide) h
  · replace h := h.2 c7
    refine r_aload_n d_Re_isWord_25 rfl (?_ : WM _ 26 _ _ _ _)
    refine r_getR (k := 8) (j := 3) (q := 1) (by decide) rfl clk_5 (by decide) (qm_1 (i := 122) rfl rfl) rfl d_Re_isWord_26 (?_ : WM _ 29 _ _ _ _)
    refine r_iload_n d_Re_isWord_29 rfl (?_ : WM _ 30 _ _ _ _)
    refine r_iload_n d_Re_isWord_30 rfl (?_ : WM _ 31 _ _ _ _)
    obtain ⟨h8, h⟩ := h
    refine r_iadd d_Re_isWord_31 h8 (?_ : WM _ 32 _ _ _ _)
    refine r_callV (ν := M_Ta_byteAt) (k := 1) [vI (x1 + x3)] ok_M_Ta_byteAt okv_M_Ta_byteAt (by decide) rfl rfl rfl (qm_5 (i := 13) rfl rfl) np_M_Ta_byteAt rfl (by decide) (Nat.le_of_ble_eq_true rfl) rfl d_Re_isWord_32 (CI.k h (fun v10 σ9 h => (?_ : WM _ 35 _ _ _ _)))
    refine r_aload_n d_Re_isWord_35 rfl (?_ : WM _ 36 _ _ _ _)
    refine r_iload_n d_Re_isWord_36 rfl (?_ : WM _ 37 _ _ _ _)
    refine r_callT (ν := M_Sg_charAt) (j := 0) [vI x3] ok_M_Sg_charAt okv_M_Sg_charAt (by decide) rfl (qm_5 (i := 31) rfl rfl) np_M_Sg_charAt rfl (by decide) (Nat.le_of_ble_eq_true rfl) rfl d_Re_isWord_37 (CI.k h (fun v12 σ11 h => (?_ : WM _ 40 _ _ _ _)))
    refine r_icmp_eq 45 d_Re_isWord_40 rfl ⟨fun c13 => (?_ : WM _ 45 _ _ _ _), fun c13 => (?_ : WM _ 43 _ _ _ _)⟩
    · replace h := h.1 c13
      obtain ⟨h14, h⟩ := h
      refine r_iinc (ls' := [(3, vI (x3 + 1)), (0, vR 8), (1, vI x1), (2, vR 62)]) d_Re_isWord_45 rfl h14 (by decide) rfl (?_ : WM _ 48 _ _ _ _)
      refine r_goto 17 d_Re_isWord_48 rfl ?_
      refine r_pick (ls' := [(0, vR 8), (1, vI x1), (2, vR 62), (3, vI (x3 + 1))]) [1, 2, 3, 0] rfl ?_
      exact h
    · replace h := h.2 c13
      refine r_iconst d_Re_isWord_43 (by decide) (?_ : WM _ 44 _ _ _ _)
      exact r_zreturn rfl d_Re_isWord_44 (by decide) h
set_option maxRecDepth 20000 in
theorem e_Re_readNumber {K : Int → St → Prop} {σ : St} (x1 : Int) (h : CV M_Re_skipBlanks [vR 8] σ (fun σ1 => WM M_Re_readNumber 11 [(0, vR 8), (1, vI x1), (2, vI (σ1 8 5)), (3, vI 0)] [] σ1 (QI K))) : CI M_Re_readNumber [vR 8, vI x1] σ K := by
  refine Con.of ok_M_Re_readNumber (ls := [(0, vR 8), (1, vI x1)]) rfl (Nat.le_of_ble_eq_true rfl) ?_
  refine r_aload_n d_Re_readNumber_0 rfl (?_ : WM _ 1 _ _ _ _)
  refine r_callV (ν := M_Re_skipBlanks) (k := 8) [] ok_M_Re_skipBlanks okv_M_Re_skipBlanks (by decide) rfl rfl rfl (qm_5 (i := 5) rfl rfl) np_M_Re_skipBlanks rfl (by decide) (Nat.le_of_ble_eq_true rfl) rfl d_Re_readNumber_1 (CV.k h (fun σ1 h => (?_ : WM _ 4 _ _ _ _)))
  refine r_aload_n d_Re_readNumber_4 rfl (?_ : WM _ 5 _ _ _ _)
  refine r_getI (k := 8) (j := 5) 5 (by decide) rfl clk_5 (by decide) (qm_1 (i := 124) rfl rfl) rfl rfl d_Re_readNumber_5 (y := (σ1 8 5)) rfl (?_ : WM _ 8 _ _ _ _)
  refine r_istore_n (ls' := [(2, vI (σ1 8 5)), (0, vR 8), (1, vI x1)]) d_Re_readNumber_8 rfl (by decide) rfl (?_ : WM _ 9 _ _ _ _)
  refine r_iconst d_Re_readNumber_9 (by decide) (?_ : WM _ 10 _ _ _ _)
  refine r_istore_n (ls' := [(3, vI 0), (2, vI (σ1 8 5)), (0, vR 8), (1, vI x1)]) d_Re_readNumber_10 rfl (by decide) rfl (?_ : WM _ 11 _ _ _ _)
  refine r_pick (ls' := [(0, vR 8), (1, vI x1), (2, vI (σ1 8 5)), (3, vI 0)]) [2, 3, 1, 0] rfl ?_
  exact h
set_option maxRecDepth 20000 in
theorem l_Re_readNumber_1 {K : Int → St → Prop} {σ : St} (x1 : Int) (x2 : Int) (x3 : Int) (h : ((σ 8 4) ≤ (σ 8 5) → (¬ (σ 8 5) = x2 → (inR ((σ 8 5) - x2)) ∧ (5 < ((σ 8 5) - x2) → CV M_Re_fail [vR 8, vI 2, vI x2] σ (fun σ7 => K x3 σ7)) ∧ (¬ 5 < ((σ 8 5) - x2) → (x3 ≤ x1 → K x3 σ) ∧ (¬ x3 ≤ x1 → CV M_Re_fail [vR 8, vI 2, vI x2] σ (fun σ10 => K x3 σ10)))) ∧ ((σ 8 5) = x2 → CV M_Re_fail [vR 8, vI 1, vI x2] σ (fun σ12 => K x3 σ12))) ∧ (¬ (σ 8 4) ≤ (σ 8 5) → CI M_Re_here [vR 8] σ (fun v15 σ14 => (v15 < 48 → (¬ (σ14 8 5) = x2 → (inR ((σ14 8 5) - x2)) ∧ (5 < ((σ14 8 5) - x2) → CV M_Re_fail [vR 8, vI 2, vI x2] σ14 (fun σ20 => K x3 σ20)) ∧ (¬ 5 < ((σ14 8 5) - x2) → (x3 ≤ x1 → K x3 σ14) ∧ (¬ x3 ≤ x1 → CV M_Re_fail [vR 8, vI 2, vI x2] σ14 (fun σ23 => K x3 σ23)))) ∧ ((σ14 8 5) = x2 → CV M_Re_fail [vR 8, vI 1, vI x2] σ14 (fun σ25 => K x3 σ25))) ∧ (¬ v15 < 48 → CI M_Re_here [vR 8] σ14 (fun v28 σ27 => (57 < v28 → (¬ (σ27 8 5) = x2 → (inR ((σ27 8 5) - x2)) ∧ (5 < ((σ27 8 5) - x2) → CV M_Re_fail [vR 8, vI 2, vI x2] σ27 (fun σ33 => K x3 σ33)) ∧ (¬ 5 < ((σ27 8 5) - x2) → (x3 ≤ x1 → K x3 σ27) ∧ (¬ x3 ≤ x1 → CV M_Re_fail [vR 8, vI 2, vI x2] σ27 (fun σ36 => K x3 σ36)))) ∧ ((σ27 8 5) = x2 → CV M_Re_fail [vR 8, vI 1, vI x2] σ27 (fun σ38 => K x3 σ38))) ∧ (¬ 57 < v28 → (inR ((σ27 8 5) - x2)) ∧ (5 ≤ ((σ27 8 5) - x2) → (inR ((σ27 8 5) + 1)) ∧ WM M_Re_readNumber 11 [(0, vR 8), (1, vI x1), (2, vI x2), (3, vI x3)] [] (ups σ27 8 5 ((σ27 8 5) + 1)) (QI K)) ∧ (¬ 5 ≤ ((σ27 8 5) - x2) → (inR (10 * x3)) ∧ CI M_Re_here [vR 8] σ27 (fun v45 σ44 => (inR ((10 * x3) + v45)) ∧ (inR (((10 * x3) + v45) - 48)) ∧ (inR ((σ44 8 5) + 1)) ∧ WM M_Re_readNumber 11 [(0, vR 8), (1, vI x1), (2, vI x2), (3, vI (((10 * x3) + v45) - 48))] [] (ups σ44 8 5 ((σ44 8 5) + 1)) (QI K))))))))) : WM M_Re_readNumber 11 [(0, vR 8), (1, vI x1), (2, vI x2), (3, vI x3)] [] σ (QI K) := by
  refine r_aload_n d_Re_readNumber_11 rfl (?_ : WM _ 12 _ _ _ _)
  refine r_getI (k := 8) (j := 5) 5 (by decide) rfl clk_5 (by decide) (qm_1 (i := 124) rfl rfl) rfl rfl d_Re_readNumber_12 (y := (σ 8 5)) rfl (?_ : WM _ 15 _ _ _ _)
  refine r_aload_n d_Re_readNumber_15 rfl (?_ : WM _ 16 _ _ _ _)
  refine r_getI (k := 8) (j := 4) 4 (by decide) rfl clk_5 (by decide) (qm_1 (i := 123) rfl rfl) rfl rfl d_Re_readNumber_16 (y := (σ 8 4)) rfl (?_ : WM _ 19 _ _ _ _)
  refine r_icmp_ge 76 d_Re_readNumber_19 rfl ⟨fun c3 => (?_ : WM _ 76 _ _ _ _), fun c3 => (?_ : WM _ 22 _ _ _ _)⟩
  · replace h := h.1 c3
    refine r_aload_n d_Re_readNumber_76 rfl (?_ : WM _ 77 _ _ _ _)
    refine r_getI (k := 8) (j := 5) 5 (by decide) rfl clk_5 (by decide) (qm_1 (i := 124) rfl rfl) rfl rfl d_Re_readNumber_77 (y := (σ 8 5)) rfl (?_ : WM _ 80 _ _ _ _)
    refine r_iload_n d_Re_readNumber_80 rfl (?_ : WM _ 81 _ _ _ _)
    refine r_icmp_ne 93 d_Re_readNumber_81 rfl ⟨fun c4 => (?_ : WM _ 93 _ _ _ _), fun c4 => (?_ : WM _ 84 _ _ _ _)⟩
    · replace h := h.1 c4
      refine r_aload_n d_Re_readNumber_93 rfl (?_ : WM _ 94 _ _ _ _)
      refine r_getI (k := 8) (j := 5) 5 (by decide) rfl clk_5 (by decide) (qm_1 (i := 124) rfl rfl) rfl rfl d_Re_readNumber_94 (y := (σ 8 5)) rfl (?_ : WM _ 97 _ _ _ _)
      refine r_iload_n d_Re_readNumber_97 rfl (?_ : WM _ 98 _ _ _ _)
      obtain ⟨h5, h⟩ := h
      refine r_isub d_Re_readNumber_98 h5 (?_ : WM _ 99 _ _ _ _)
      refine r_iconst d_Re_readNumber_99 (by decide) (?_ : WM _ 100 _ _ _ _)
      refine r_icmp_gt 108 d_Re_readNumber_100 rfl ⟨fun c6 => (?_ : WM _ 108 _ _ _ _), fun c6 => (?_ : WM _ 103 _ _ _ _)⟩
      · replace h := h.1 c6
        refine r_aload_n d_Re_readNumber_108 rfl (?_ : WM _ 109 _ _ _ _)
        refine r_iconst d_Re_readNumber_109 (by decide) (?_ : WM _ 110 _ _ _ _)
        refine r_iload_n d_Re_readNumber_110 rfl (?_ : WM _ 111 _ _ _ _)
        refine r_callV (ν := M_Re_fail) (k := 8) [vI 2, vI x2] ok_M_Re_fail okv_M_Re_fail (by decide) rfl rfl rfl (qm_5 (i := 47) rfl rfl) np_M_Re_fail rfl (by decide) (Nat.le_of_ble_eq_true rfl) rfl d_Re_readNumber_111 (CV.k h (fun σ7 h => (?_ : WM _ 114 _ _ _ _)))
        refine r_iload_n d_Re_readNumber_114 rfl (?_ : WM _ 115 _ _ _ _)
        exact r_ireturn rfl d_Re_readNumber_115 h
      · replace h := h.2 c6
        refine r_iload_n d_Re_readNumber_103 rfl (?_ : WM _ 104 _ _ _ _)
        refine r_iload_n d_Re_readNumber_104 rfl (?_ : WM _ 105 _ _ _ _)
        refine r_icmp_le 114 d_Re_readNumber_105 rfl ⟨fun c9 => (?_ : WM _ 114 _ _ _ _), fun c9 => (?_ : WM _ 108 _ _ _ _)⟩
        · replace h := h.1 c9
          refine r_iload_n d_Re_readNumber_114 rfl (?_ : WM _ 115 _ _ _ _)
          exact r_ireturn rfl d_Re_readNumber_115 h
        · replace h := h.2 c9
          refine r_aload_n d_Re_readNumber_108 rfl (?_ : WM _ 109 _ _ _ _)
          refine r_iconst d_Re_readNumber_109 (by decide) (?_ : WM _ 110 _ _ _ _)
          refine r_iload_n d_Re_readNumber_110 rfl (?_ : WM _ 111 _ _ _ _)
          refine r_callV (ν := M_Re_fail) (k := 8) [vI 2, vI x2] ok_M_Re_fail okv_M_Re_fail (by decide) rfl rfl rfl (qm_5 (i := 47) rfl rfl) np_M_Re_fail rfl (by decide) (Nat.le_of_ble_eq_true rfl) rfl d_Re_readNumber_111 (CV.k h (fun σ10 h => (?_ : WM _ 114 _ _ _ _)))
          refine r_iload_n d_Re_readNumber_114 rfl (?_ : WM _ 115 _ _ _ _)
          exact r_ireturn rfl d_Re_readNumber_115 h
    · replace h := h.2 c4
      refine r_aload_n d_Re_readNumber_84 rfl (?_ : WM _ 85 _ _ _ _)
      refine r_iconst d_Re_readNumber_85 (by decide) (?_ : WM _ 86 _ _ _ _)
      refine r_iload_n d_Re_readNumber_86 rfl (?_ : WM _ 87 _ _ _ _)
      refine r_callV (ν := M_Re_fail) (k := 8) [vI 1, vI x2] ok_M_Re_fail okv_M_Re_fail (by decide) rfl rfl rfl (qm_5 (i := 47) rfl rfl) np_M_Re_fail rfl (by decide) (Nat.le_of_ble_eq_true rfl) rfl d_Re_readNumber_87 (CV.k h (fun σ12 h => (?_ : WM _ 90 _ _ _ _)))
      refine r_goto 114 d_Re_readNumber_90 rfl ?_
      refine r_iload_n d_Re_readNumber_114 rfl (?_ : WM _ 115 _ _ _ _)
      exact r_ireturn rfl d_Re_readNumber_115 h
  · replace h := h.2 c3
    refine r_aload_n d_Re_readNumber_22 rfl (?_ : WM _ 23 _ _ _ _)
    refine r_callV (ν := M_Re_here) (k := 8) [] ok_M_Re_here okv_M_Re_here (by decide) rfl rfl rfl (qm_5 (i := 9) rfl rfl) np_M_Re_here rfl (by decide) (Nat.le_of_ble_eq_true rfl) rfl d_Re_readNumber_23 (CI.k h (fun v15 σ14 h => (?_ : WM _ 26 _ _ _ _)))
    refine r_bipush d_Re_readNumber_26 (by decide) (by decide) (?_ : WM _ 28 _ _ _ _)
    refine r_icmp_lt 76 d_Re_readNumber_28 rfl ⟨fun c16 => (?_ : WM _ 76 _ _ _ _), fun c16 => (?_ : WM _ 31 _ _ _ _)⟩
    · replace h := h.1 c16
      refine r_aload_n d_Re_readNumber_76 rfl (?_ : WM _ 77 _ _ _ _)
      refine r_getI (k := 8) (j := 5) 5 (by decide) rfl clk_5 (by decide) (qm_1 (i := 124) rfl rfl) rfl rfl d_Re_readNumber_77 (y := (σ14 8 5)) rfl (?_ : WM _ 80 _ _ _ _)
      refine r_iload_n d_Re_readNumber_80 rfl (?_ : WM _ 81 _ _ _ _)
      refine r_icmp_ne 93 d_Re_readNumber_81 rfl ⟨fun c17 => (?_ : WM _ 93 _ _ _ _), fun c17 => (?_ : WM _ 84 _ _ _ _)⟩
      · replace h := h.1 c17
        refine r_aload_n d_Re_readNumber_93 rfl (?_ : WM _ 94 _ _ _ _)
        refine r_getI (k := 8) (j := 5) 5 (by decide) rfl clk_5 (by decide) (qm_1 (i := 124) rfl rfl) rfl rfl d_Re_readNumber_94 (y := (σ14 8 5)) rfl (?_ : WM _ 97 _ _ _ _)
        refine r_iload_n d_Re_readNumber_97 rfl (?_ : WM _ 98 _ _ _ _)
        obtain ⟨h18, h⟩ := h
        refine r_isub d_Re_readNumber_98 h18 (?_ : WM _ 99 _ _ _ _)
        refine r_iconst d_Re_readNumber_99 (by decide) (?_ : WM _ 100 _ _ _ _)
        refine r_icmp_gt 108 d_Re_readNumber_100 rfl ⟨fun c19 => (?_ : WM _ 108 _ _ _ _), fun c19 => (?_ : WM _ 103 _ _ _ _)⟩
        · replace h := h.1 c19
          refine r_aload_n d_Re_readNumber_108 rfl (?_ : WM _ 109 _ _ _ _)
          refine r_iconst d_Re_readNumber_109 (by decide) (?_ : WM _ 110 _ _ _ _)
          refine r_iload_n d_Re_readNumber_110 rfl (?_ : WM _ 111 _ _ _ _)
          refine r_callV (ν := M_Re_fail) (k := 8) [vI 2, vI x2] ok_M_Re_fail okv_M_Re_fail (by decide) rfl rfl rfl (qm_5 (i := 47) rfl rfl) np_M_Re_fail rfl (by decide) (Nat.le_of_ble_eq_true rfl) rfl d_Re_readNumber_111 (CV.k h (fun σ20 h => (?_ : WM _ 114 _ _ _ _)))
          refine r_iload_n d_Re_readNumber_114 rfl (?_ : WM _ 115 _ _ _ _)
          exact r_ireturn rfl d_Re_readNumber_115 h
        · replace h := h.2 c19
          refine r_iload_n d_Re_readNumber_103 rfl (?_ : WM _ 104 _ _ _ _)
          refine r_iload_n d_Re_readNumber_104 rfl (?_ : WM _ 105 _ _ _ _)
          refine r_icmp_le 114 d_Re_readNumber_105 rfl ⟨fun c22 => (?_ : WM _ 114 _ _ _ _), fun c22 => (?_ : WM _ 108 _ _ _ _)⟩
          · replace h := h.1 c22
            refine r_iload_n d_Re_readNumber_114 rfl (?_ : WM _ 115 _ _ _ _)
            exact r_ireturn rfl d_Re_readNumber_115 h
          · replace h := h.2 c22
            refine r_aload_n d_Re_readNumber_108 rfl (?_ : WM _ 109 _ _ _ _)
            refine r_iconst d_Re_readNumber_109 (by decide) (?_ : WM _ 110 _ _ _ _)
            refine r_iload_n d_Re_readNumber_110 rfl (?_ : WM _ 111 _ _ _ _)
            refine r_callV (ν := M_Re_fail) (k := 8) [vI 2, vI x2] ok_M_Re_fail okv_M_Re_fail (by decide) rfl rfl rfl (qm_5 (i := 47) rfl rfl) np_M_Re_fail rfl (by decide) (Nat.le_of_ble_eq_true rfl) rfl d_Re_readNumber_111 (CV.k h (fun σ23 h => (?_ : WM _ 114 _ _ _ _)))
            refine r_iload_n d_Re_readNumber_114 rfl (?_ : WM _ 115 _ _ _ _)
            exact r_ireturn rfl d_Re_readNumber_115 h
      · replace h := h.2 c17
        refine r_aload_n d_Re_readNumber_84 rfl (?_ : WM _ 85 _ _ _ _)
        refine r_iconst d_Re_readNumber_85 (by decide) (?_ : WM _ 86 _ _ _ _)
        refine r_iload_n d_Re_readNumber_86 rfl (?_ : WM _ 87 _ _ _ _)
        refine r_callV (ν := M_Re_fail) (k := 8) [vI 1, vI x2] ok_M_Re_fail okv_M_Re_fail (by decide) rfl rfl rfl (qm_5 (i := 47) rfl rfl) np_M_Re_fail rfl (by decide) (Nat.le_of_ble_eq_true rfl) rfl d_Re_readNumber_87 (CV.k h (fun σ25 h => (?_ : WM _ 90 _ _ _ _)))
        refine r_goto 114 d_Re_readNumber_90 rfl ?_
        refine r_iload_n d_Re_readNumber_114 rfl (?_ : WM _ 115 _ _ _ _)
        exact r_ireturn rfl d_Re_readNumber_115 h
    · replace h := h.2 c16
      refine r_aload_n d_Re_readNumber_31 rfl (?_ : WM _ 32 _ _ _ _)
      refine r_callV (ν := M_Re_here) (k := 8) [] ok_M_Re_here okv_M_Re_here (by decide) rfl rfl rfl (qm_5 (i := 9) rfl rfl) np_M_Re_here rfl (by decide) (Nat.le_of_ble_eq_true rfl) rfl d_Re_readNumber_32 (CI.k h (fun v28 σ27 h => (?_ : WM _ 35 _ _ _ _)))
      refine r_bipush d_Re_readNumber_35 (by decide) (by decide) (?_ : WM _ 37 _ _ _ _)
      refine r_icmp_gt 76 d_Re_readNumber_37 rfl ⟨fun c29 => (?_ : WM _ 76 _ _ _ _), fun c29 => (?_ : WM _ 40 _ _ _ _)⟩
      · replace h := h.1 c29
        refine r_aload_n d_Re_readNumber_76 rfl (?_ : WM _ 77 _ _ _ _)
        refine r_getI (k := 8) (j := 5) 5 (by decide) rfl clk_5 (by decide) (qm_1 (i := 124) rfl rfl) rfl rfl d_Re_readNumber_77 (y := (σ27 8 5)) rfl (?_ : WM _ 80 _ _ _ _)
        refine r_iload_n d_Re_readNumber_80 rfl (?_ : WM _ 81 _ _ _ _)
        refine r_icmp_ne 93 d_Re_readNumber_81 rfl ⟨fun c30 => (?_ : WM _ 93 _ _ _ _), fun c30 => (?_ : WM _ 84 _ _ _ _)⟩
        · replace h := h.1 c30
          refine r_aload_n d_Re_readNumber_93 rfl (?_ : WM _ 94 _ _ _ _)
          refine r_getI (k := 8) (j := 5) 5 (by decide) rfl clk_5 (by decide) (qm_1 (i := 124) rfl rfl) rfl rfl d_Re_readNumber_94 (y := (σ27 8 5)) rfl (?_ : WM _ 97 _ _ _ _)
          refine r_iload_n d_Re_readNumber_97 rfl (?_ : WM _ 98 _ _ _ _)
          obtain ⟨h31, h⟩ := h
          refine r_isub d_Re_readNumber_98 h31 (?_ : WM _ 99 _ _ _ _)
          refine r_iconst d_Re_readNumber_99 (by decide) (?_ : WM _ 100 _ _ _ _)
          refine r_icmp_gt 108 d_Re_readNumber_100 rfl ⟨fun c32 => (?_ : WM _ 108 _ _ _ _), fun c32 => (?_ : WM _ 103 _ _ _ _)⟩
          · replace h := h.1 c32
            refine r_aload_n d_Re_readNumber_108 rfl (?_ : WM _ 109 _ _ _ _)
            refine r_iconst d_Re_readNumber_109 (by decide) (?_ : WM _ 110 _ _ _ _)
            refine r_iload_n d_Re_readNumber_110 rfl (?_ : WM _ 111 _ _ _ _)
            refine r_callV (ν := M_Re_fail) (k := 8) [vI 2, vI x2] ok_M_Re_fail okv_M_Re_fail (by decide) rfl rfl rfl (qm_5 (i := 47) rfl rfl) np_M_Re_fail rfl (by decide) (Nat.le_of_ble_eq_true rfl) rfl d_Re_readNumber_111 (CV.k h (fun σ33 h => (?_ : WM _ 114 _ _ _ _)))
            refine r_iload_n d_Re_readNumber_114 rfl (?_ : WM _ 115 _ _ _ _)
            exact r_ireturn rfl d_Re_readNumber_115 h
          · replace h := h.2 c32
            refine r_iload_n d_Re_readNumber_103 rfl (?_ : WM _ 104 _ _ _ _)
            refine r_iload_n d_Re_readNumber_104 rfl (?_ : WM _ 105 _ _ _ _)
            refine r_icmp_le 114 d_Re_readNumber_105 rfl ⟨fun c35 => (?_ : WM _ 114 _ _ _ _), fun c35 => (?_ : WM _ 108 _ _ _ _)⟩
            · replace h := h.1 c35
              refine r_iload_n d_Re_readNumber_114 rfl (?_ : WM _ 115 _ _ _ _)
              exact r_ireturn rfl d_Re_readNumber_115 h
            · replace h := h.2 c35
              refine r_aload_n d_Re_readNumber_108 rfl (?_ : WM _ 109 _ _ _ _)
              refine r_iconst d_Re_readNumber_109 (by decide) (?_ : WM _ 110 _ _ _ _)
              refine r_iload_n d_Re_readNumber_110 rfl (?_ : WM _ 111 _ _ _ _)
              refine r_callV (ν := M_Re_fail) (k := 8) [vI 2, vI x2] ok_M_Re_fail okv_M_Re_fail (by decide) rfl rfl rfl (qm_5 (i := 47) rfl rfl) np_M_Re_fail rfl (by decide) (Nat.le_of_ble_eq_true rfl) rfl d_Re_readNumber_111 (CV.k h (fun σ36 h => (?_ : WM _ 114 _ _ _ _)))
              refine r_iload_n d_Re_readNumber_114 rfl (?_ : WM _ 115 _ _ _ _)
              exact r_ireturn rfl d_Re_readNumber_115 h
        · replace h := h.2 c30
          refine r_aload_n d_Re_readNumber_84 rfl (?_ : WM _ 85 _ _ _ _)
          refine r_iconst d_Re_readNumber_85 (by decide) (?_ : WM _ 86 _ _ _ _)
          refine r_iload_n d_Re_readNumber_86 rfl (?_ : WM _ 87 _ _ _ _)
          refine r_callV (ν := M_Re_fail) (k := 8) [vI 1, vI x2] ok_M_Re_fail okv_M_Re_fail (by decide) rfl rfl rfl (qm_5 (i := 47) rfl rfl) np_M_Re_fail rfl (by decide) (Nat.le_of_ble_eq_true rfl) rfl d_Re_readNumber_87 (CV.k h (fun σ38 h => (?_ : WM _ 90 _ _ _ _)))
          refine r_goto 114 d_Re_readNumber_90 rfl ?_
          refine r_iload_n d_Re_readNumber_114 rfl (?_ : WM _ 115 _ _ _ _)
          exact r_ireturn rfl d_Re_readNumber_115 h
      · replace h := h.2 c29
        refine r_aload_n d_Re_readNumber_40 rfl (?_ : WM _ 41 _ _ _ _)
        refine r_getI (k := 8) (j := 5) 5 (by decide) rfl clk_5 (by decide) (qm_1 (i := 124) rfl rfl) rfl rfl d_Re_readNumber_41 (y := (σ27 8 5)) rfl (?_ : WM _ 44 _ _ _ _)
        refine r_iload_n d_Re_readNumber_44 rfl (?_ : WM _ 45 _ _ _ _)
        obtain ⟨h40, h⟩ := h
        refine r_isub d_Re_readNumber_45 h40 (?_ : WM _ 46 _ _ _ _)
        refine r_iconst d_Re_readNumber_46 (by decide) (?_ : WM _ 47 _ _ _ _)
        refine r_icmp_ge 63 d_Re_readNumber_47 rfl ⟨fun c41 => (?_ : WM _ 63 _ _ _ _), fun c41 => (?_ : WM _ 50 _ _ _ _)⟩
        · replace h := h.1 c41
          refine r_aload_n d_Re_readNumber_63 rfl (?_ : WM _ 64 _ _ _ _)
          refine r_dup d_Re_readNumber_64 rfl (?_ : WM _ 65 _ _ _ _)
          refine r_getI (k := 8) (j := 5) 5 (by decide) rfl clk_5 (by decide) (qm_1 (i := 124) rfl rfl) rfl rfl d_Re_readNumber_65 (y := (σ27 8 5)) rfl (?_ : WM _ 68 _ _ _ _)
          refine r_iconst d_Re_readNumber_68 (by decide) (?_ : WM _ 69 _ _ _ _)
          obtain ⟨h42, h⟩ := h
          refine r_iadd d_Re_readNumber_69 h42 (?_ : WM _ 70 _ _ _ _)
          refine r_put (k := 8) (j := 5) 5 (by decide) rfl clk_5 (by decide) (qm_1 (i := 124) rfl rfl) rfl rfl rfl tyX5_ok rfl nmX5 d_Re_readNumber_70 (?_ : WM _ 73 _ _ _ _)
          refine r_goto 11 d_Re_readNumber_73 rfl ?_
          exact h
        · replace h := h.2 c41
          refine r_bipush d_Re_readNumber_50 (by decide) (by decide) (?_ : WM _ 52 _ _ _ _)
          refine r_iload_n d_Re_readNumber_52 rfl (?_ : WM _ 53 _ _ _ _)
          obtain ⟨h43, h⟩ := h
          refine r_imul d_Re_readNumber_53 h43 (?_ : WM _ 54 _ _ _ _)
          refine r_aload_n d_Re_readNumber_54 rfl (?_ : WM _ 55 _ _ _ _)
          refine r_callV (ν := M_Re_here) (k := 8) [] ok_M_Re_here okv_M_Re_here (by decide) rfl rfl rfl (qm_5 (i := 9) rfl rfl) np_M_Re_here rfl (by decide) (Nat.le_of_ble_eq_true rfl) rfl d_Re_readNumber_55 (CI.k h (fun v45 σ44 h => (?_ : WM _ 58 _ _ _ _)))
          obtain ⟨h46, h⟩ := h
          refine r_iadd d_Re_readNumber_58 h46 (?_ : WM _ 59 _ _ _ _)
          refine r_bipush d_Re_readNumber_59 (by decide) (by decide) (?_ : WM _ 61 _ _ _ _)
          obtain ⟨h47, h⟩ := h
          refine r_isub d_Re_readNumber_61 h47 (?_ : WM _ 62 _ _ _ _)
          refine r_istore_n (ls' := [(3, vI (((10 * x3) + v45) - 48)), (0, vR 8), (1, vI x1), (2, vI x2)]) d_Re_readNumber_62 rfl (by decide) rfl (?_ : WM _ 63 _ _ _ _)
          refine r_aload_n d_Re_readNumber_63 rfl (?_ : WM _ 64 _ _ _ _)
          refine r_dup d_Re_readNumber_64 rfl (?_ : WM _ 65 _ _ _ _)
          refine r_getI (k := 8) (j := 5) 5 (by decide) rfl clk_5 (by decide) (qm_1 (i := 124) rfl rfl) rfl rfl d_Re_readNumber_65 (y := (σ44 8 5)) rfl (?_ : WM _ 68 _ _ _ _)
          refine r_iconst d_Re_readNumber_68 (by decide) (?_ : WM _ 69 _ _ _ _)
          obtain ⟨h48, h⟩ := h
          refine r_iadd d_Re_readNumber_69 h48 (?_ : WM _ 70 _ _ _ _)
          refine r_put (k := 8) (j := 5) 5 (by decide) rfl clk_5 (by decide) (qm_1 (i := 124) rfl rfl) rfl rfl rfl tyX5_ok rfl nmX5 d_Re_readNumber_70 (?_ : WM _ 73 _ _ _ _)
          refine r_goto 11 d_Re_readNumber_73 rfl ?_
          refine r_pick (ls' := [(0, vR 8), (1, vI x1), (2, vI x2), (3, vI (((10 * x3) + v45) - 48))]) [1, 2, 3, 0] rfl ?_
          exact h
set_option maxRecDepth 20000 in
theorem e_Re_skipSign {K : Int → St → Prop} {σ : St} (x1 : Int) (h : CV M_Re_skipBlanks [vR 8] σ (fun σ1 => CI M_Re_here [vR 8] σ1 (fun v4 σ3 => (v4 = x1 → (inR ((σ3 8 5) + 1)) ∧ K 1 (ups σ3 8 5 ((σ3 8 5) + 1))) ∧ (¬ v4 = x1 → K 0 σ3)))) : CI M_Re_skipSign [vR 8, vI x1] σ K := by
  refine Con.of ok_M_Re_skipSign (ls := [(0, vR 8), (1, vI x1)]) rfl (Nat.le_of_ble_eq_true rfl) ?_
  refine r_aload_n d_Re_skipSign_0 rfl (?_ : WM _ 1 _ _ _ _)
  refine r_callV (ν := M_Re_skipBlanks) (k := 8) [] ok_M_Re_skipBlanks okv_M_Re_skipBlanks (by decide) rfl rfl rfl (qm_5 (i := 5) rfl rfl) np_M_Re_skipBlanks rfl (by decide) (Nat.le_of_ble_eq_true rfl) rfl d_Re_skipSign_1 (CV.k h (fun σ1 h => (?_ : WM _ 4 _ _ _ _)))
  refine r_aload_n d_Re_skipSign_4 rfl (?_ : WM _ 5 _ _ _ _)
  refine r_callV (ν := M_Re_here) (k := 8) [] ok_M_Re_here okv_M_Re_here (by decide) rfl rfl rfl (qm_5 (i := 9) rfl rfl) np_M_Re_here rfl (by decide) (Nat.le_of_ble_eq_true rfl) rfl d_Re_skipSign_5 (CI.k h (fun v4 σ3 h => (?_ : WM _ 8 _ _ _ _)))
  refine r_iload_n d_Re_skipSign_8 rfl (?_ : WM _ 9 _ _ _ _)
  refine r_icmp_eq 14 d_Re_skipSign_9 rfl ⟨fun c5 => (?_ : WM _ 14 _ _ _ _), fun c5 => (?_ : WM _ 12 _ _ _ _)⟩
  · replace h := h.1 c5
    refine r_aload_n d_Re_skipSign_14 rfl (?_ : WM _ 15 _ _ _ _)
    refine r_dup d_Re_skipSign_15 rfl (?_ : WM _ 16 _ _ _ _)
    refine r_getI (k := 8) (j := 5) 5 (by decide) rfl clk_5 (by decide) (qm_1 (i := 124) rfl rfl) rfl rfl d_Re_skipSign_16 (y := (σ3 8 5)) rfl (?_ : WM _ 19 _ _ _ _)
    refine r_iconst d_Re_skipSign_19 (by decide) (?_ : WM _ 20 _ _ _ _)
    obtain ⟨h6, h⟩ := h
    refine r_iadd d_Re_skipSign_20 h6 (?_ : WM _ 21 _ _ _ _)
    refine r_put (k := 8) (j := 5) 5 (by decide) rfl clk_5 (by decide) (qm_1 (i := 124) rfl rfl) rfl rfl rfl tyX5_ok rfl nmX5 d_Re_skipSign_21 (?_ : WM _ 24 _ _ _ _)
    refine r_iconst d_Re_skipSign_24 (by decide) (?_ : WM _ 25 _ _ _ _)
    exact r_zreturn rfl d_Re_skipSign_25 (by decide) h
  · replace h := h.2 c5
    refine r_iconst d_Re_skipSign_12 (by decide) (?_ : WM _ 13 _ _ _ _)
    exact r_zreturn rfl d_Re_skipSign_13 (by decide) h
set_option maxRecDepth 20000 in
theorem e_Re_takeItem {K : Int → St → Prop} {σ : St} (x1 : Int) (x2 : Int) (x3 : Int) (h : CI M_Le_isFull [vR 9] σ (fun v2 σ1 => (¬ v2 = 0 → K 0 σ1) ∧ (v2 = 0 → CI M_Le_indexOf [vR 9, vI x1, vI x2] σ1 (fun v5 σ4 => (v5 = (-1) → CV M_Le_append [vR 9, vI x1, vI x2, vI x3] σ4 (fun σ7 => K 1 σ7)) ∧ (¬ v5 = (-1) → K 0 σ4))))) : CI M_Re_takeItem [vR 8, vI x1, vI x2, vI x3] σ K := by
  refine Con.of ok_M_Re_takeItem (ls := [(0, vR 8), (1, vI x1), (2, vI x2), (3, vI x3)]) rfl (Nat.le_of_ble_eq_true rfl) ?_
  refine r_aload_n d_Re_takeItem_0 rfl (?_ : WM _ 1 _ _ _ _)
  refine r_getR (k := 8) (j := 0) (q := 9) (by decide) rfl clk_5 (by decide) (qm_1 (i := 116) rfl rfl) rfl d_Re_takeItem_1 (?_ : WM _ 4 _ _ _ _)
  refine r_callV (ν := M_Le_isFull) (k := 9) [] ok_M_Le_isFull okv_M_Le_isFull (by decide) rfl rfl rfl (qm_5 (i := 64) rfl rfl) np_M_Le_isFull rfl (by decide) (Nat.le_of_ble_eq_true rfl) rfl d_Re_takeItem_4 (CI.k h (fun v2 σ1 h => (?_ : WM _ 7 _ _ _ _)))
  refine r_if_ne 23 d_Re_takeItem_7 rfl ⟨fun c3 => (?_ : WM _ 23 _ _ _ _), fun c3 => (?_ : WM _ 10 _ _ _ _)⟩
  · replace h := h.1 c3
    refine r_iconst d_Re_takeItem_23 (by decide) (?_ : WM _ 24 _ _ _ _)
    exact r_zreturn rfl d_Re_takeItem_24 (by decide) h
  · replace h := h.2 c3
    refine r_aload_n d_Re_takeItem_10 rfl (?_ : WM _ 11 _ _ _ _)
    refine r_getR (k := 8) (j := 0) (q := 9) (by decide) rfl clk_5 (by decide) (qm_1 (i := 116) rfl rfl) rfl d_Re_takeItem_11 (?_ : WM _ 14 _ _ _ _)
    refine r_iload_n d_Re_takeItem_14 rfl (?_ : WM _ 15 _ _ _ _)
    refine r_iload_n d_Re_takeItem_15 rfl (?_ : WM _ 16 _ _ _ _)
    refine r_callV (ν := M_Le_indexOf) (k := 9) [vI x1, vI x2] ok_M_Le_indexOf okv_M_Le_indexOf (by decide) rfl rfl rfl (qm_5 (i := 68) rfl rfl) np_M_Le_indexOf rfl (by decide) (Nat.le_of_ble_eq_true rfl) rfl d_Re_takeItem_16 (CI.k h (fun v5 σ4 h => (?_ : WM _ 19 _ _ _ _)))
    refine r_iconst d_Re_takeItem_19 (by decide) (?_ : WM _ 20 _ _ _ _)
    refine r_icmp_eq 25 d_Re_takeItem_20 rfl ⟨fun c6 => (?_ : WM _ 25 _ _ _ _), fun c6 => (?_ : WM _ 23 _ _ _ _)⟩
    · replace h := h.1 c6
      refine r_aload_n d_Re_takeItem_25 rfl (?_ : WM _ 26 _ _ _ _)
      refine r_getR (k := 8) (j := 0) (q := 9) (by decide) rfl clk_5 (by decide) (qm_1 (i := 116) rfl rfl) rfl d_Re_takeItem_26 (?_ : WM _ 29 _ _ _ _)
      refine r_iload_n d_Re_takeItem_29 rfl (?_ : WM _ 30 _ _ _ _)
      refine r_iload_n d_Re_takeItem_30 rfl (?_ : WM _ 31 _ _ _ _)
      refine r_iload_n d_Re_takeItem_31 rfl (?_ : WM _ 32 _ _ _ _)
      refine r_callV (ν := M_Le_append) (k := 9) [vI x1, vI x2, vI x3] ok_M_Le_append okv_M_Le_append (by decide) rfl rfl rfl (qm_5 (i := 72) rfl rfl) np_M_Le_append rfl (by decide) (Nat.le_of_ble_eq_true rfl) rfl d_Re_takeItem_32 (CV.k h (fun σ7 h => (?_ : WM _ 35 _ _ _ _)))
      refine r_iconst d_Re_takeItem_35 (by decide) (?_ : WM _ 36 _ _ _ _)
      exact r_zreturn rfl d_Re_takeItem_36 (by decide) h
    · replace h := h.2 c6
      refine r_iconst d_Re_takeItem_23 (by decide) (?_ : WM _ 24 _ _ _ _)
      exact r_zreturn rfl d_Re_takeItem_24 (by decide) h
set_option maxRecDepth 20000 in
theorem e_Re_fail {K : St → Prop} {σ : St} (x1 : Int) (x2 : Int) (h : (¬ (σ 8 1) = 0 → K σ) ∧ ((σ 8 1) = 0 → K (ups (ups σ 8 1 x1) 8 2 x2))) : CV M_Re_fail [vR 8, vI x1, vI x2] σ K := by
  refine Con.of ok_M_Re_fail (ls := [(0, vR 8), (1, vI x1), (2, vI x2)]) rfl (Nat.le_of_ble_eq_true rfl) ?_
  refine r_aload_n d_Re_fail_0 rfl (?_ : WM _ 1 _ _ _ _)
  refine r_getI (k := 8) (j := 1) 1 (by decide) rfl clk_5 (by decide) (qm_1 (i := 118) rfl rfl) rfl rfl d_Re_fail_1 (y := (σ 8 1)) rfl (?_ : WM _ 4 _ _ _ _)
  refine r_if_ne 17 d_Re_fail_4 rfl ⟨fun c1 => (?_ : WM _ 17 _ _ _ _), fun c1 => (?_ : WM _ 7 _ _ _ _)⟩
  · replace h := h.1 c1
    exact r_return rfl d_Re_fail_17 h
  · replace h := h.2 c1
    refine r_aload_n d_Re_fail_7 rfl (?_ : WM _ 8 _ _ _ _)
    refine r_iload_n d_Re_fail_8 rfl (?_ : WM _ 9 _ _ _ _)
    refine r_put (k := 8) (j := 1) 1 (by decide) rfl clk_5 (by decide) (qm_1 (i := 118) rfl rfl) rfl rfl rfl tyX5_ok rfl nmX5 d_Re_fail_9 (?_ : WM _ 12 _ _ _ _)
    refine r_aload_n d_Re_fail_12 rfl (?_ : WM _ 13 _ _ _ _)
    refine r_iload_n d_Re_fail_13 rfl (?_ : WM _ 14 _ _ _ _)
    refine r_put (k := 8) (j := 2) 2 (by decide) rfl clk_5 (by decide) (qm_1 (i := 120) rfl rfl) rfl rfl rfl tyX5_ok rfl nmX5 d_Re_fail_14 (?_ : WM _ 17 _ _ _ _)
    exact r_return rfl d_Re_fail_17 h
set_option maxRecDepth 20000 in
theorem e_Re_isWord_8_63 {K : Int → St → Prop} {σ : St} (x1 : Int) (h : (inR ((σ 8 5) - x1)) ∧ CI M_Sg_length [vR 63] σ (fun v3 σ2 => (((σ 8 5) - x1) = v3 → WM M_Re_isWord 17 [(0, vR 8), (1, vI x1), (2, vR 63), (3, vI 0)] [] σ2 (QI K)) ∧ (¬ ((σ 8 5) - x1) = v3 → K 0 σ2))) : CI M_Re_isWord [vR 8, vI x1, vR 63] σ K := by
  refine Con.of ok_M_Re_isWord (ls := [(0, vR 8), (1, vI x1), (2, vR 63)]) rfl (Nat.le_of_ble_eq_true rfl) ?_
  refine r_aload_n d_Re_isWord_0 rfl (?_ : WM _ 1 _ _ _ _)
  refine r_getI (k := 8) (j := 5) 5 (by decide) rfl clk_5 (by decide) (qm_1 (i := 124) rfl rfl) rfl rfl d_Re_isWord_1 (y := (σ 8 5)) rfl (?_ : WM _ 4 _ _ _ _)
  refine r_iload_n d_Re_isWord_4 rfl (?_ : WM _ 5 _ _ _ _)
  obtain ⟨h1, h⟩ := h
  refine r_isub d_Re_isWord_5 h1 (?_ : WM _ 6 _ _ _ _)
  refine r_aload_n d_Re_isWord_6 rfl (?_ : WM _ 7 _ _ _ _)
  refine r_callT (ν := M_Sg_length) (j := 1) [] ok_M_Sg_length okv_M_Sg_length (by decide) rfl (qm_5 (i := 30) rfl rfl) np_M_Sg_length rfl (by decide) (Nat.le_of_ble_eq_true rfl) rfl d_Re_isWord_7 (CI.k h (fun v3 σ2 h => (?_ : WM _ 10 _ _ _ _)))
  refine r_icmp_eq 15 d_Re_isWord_10 rfl ⟨fun c4 => (?_ : WM _ 15 _ _ _ _), fun c4 => (?_ : WM _ 13 _ _ _ _)⟩
  · replace h := h.1 c4
    refine r_iconst d_Re_isWord_15 (by decide) (?_ : WM _ 16 _ _ _ _)
    refine r_istore_n (ls' := [(3, vI 0), (0, vR 8), (1, vI x1), (2, vR 63)]) d_Re_isWord_16 rfl (by decide) rfl (?_ : WM _ 17 _ _ _ _)
    refine r_pick (ls' := [(0, vR 8), (1, vI x1), (2, vR 63), (3, vI 0)]) [1, 2, 3, 0] rfl ?_
    exact h
  · replace h := h.2 c4
    refine r_iconst d_Re_isWord_13 (by decide) (?_ : WM _ 14 _ _ _ _)
    exact r_zreturn rfl d_Re_isWord_14 (by decide) h
set_option maxRecDepth 20000 in
theorem l_Re_isWord_8_63_1 {K : Int → St → Prop} {σ : St} (x1 : Int) (x3 : Int) (h : CI M_Sg_length [vR 63] σ (fun v6 σ5 => (v6 ≤ x3 → K 1 σ5) ∧ (¬ v6 ≤ x3 → (inR (x1 + x3)) ∧ CI M_Ta_byteAt [vR 1, vI (x1 + x3)] σ5 (fun v10 σ9 => CI M_Sg_charAt [vR 63, vI x3] σ9 (fun v12 σ11 => (v10 = v12 → (inR (x3 + 1)) ∧ WM M_Re_isWord 17 [(0, vR 8), (1, vI x1), (2, vR 63), (3, vI (x3 + 1))] [] σ11 (QI K)) ∧ (¬ v10 = v12 → K 0 σ11)))))) : WM M_Re_isWord 17 [(0, vR 8), (1, vI x1), (2, vR 63), (3, vI x3)] [] σ (QI K) := by
  refine r_iload_n d_Re_isWord_17 rfl (?_ : WM _ 18 _ _ _ _)
  refine r_aload_n d_Re_isWord_18 rfl (?_ : WM _ 19 _ _ _ _)
  refine r_callT (ν := M_Sg_length) (j := 1) [] ok_M_Sg_length okv_M_Sg_length (by decide) rfl (qm_5 (i := 30) rfl rfl) np_M_Sg_length rfl (by decide) (Nat.le_of_ble_eq_true rfl) rfl d_Re_isWord_19 (CI.k h (fun v6 σ5 h => (?_ : WM _ 22 _ _ _ _)))
  refine r_icmp_ge 51 d_Re_isWord_22 rfl ⟨fun c7 => (?_ : WM _ 51 _ _ _ _), fun c7 => (?_ : WM _ 25 _ _ _ _)⟩
  · replace h := h.1 c7
    refine r_iconst d_Re_isWord_51 (by decide) (?_ : WM _ 52 _ _ _ _)
    exact r_zreturn rfl d_Re_isWord_52 (by decide) h
  · replace h := h.2 c7
    refine r_aload_n d_Re_isWord_25 rfl (?_ : WM _ 26 _ _ _ _)
    refine r_getR (k := 8) (j := 3) (q := 1) (by decide) rfl clk_5 (by decide) (qm_1 (i := 122) rfl rfl) rfl d_Re_isWord_26 (?_ : WM _ 29 _ _ _ _)
    refine r_iload_n d_Re_isWord_29 rfl (?_ : WM _ 30 _ _ _ _)
    refine r_iload_n d_Re_isWord_30 rfl (?_ : WM _ 31 _ _ _ _)
    obtain ⟨h8, h⟩ := h
    refine r_iadd d_Re_isWord_31 h8 (?_ : WM _ 32 _ _ _ _)
    refine r_callV (ν := M_Ta_byteAt) (k := 1) [vI (x1 + x3)] ok_M_Ta_byteAt okv_M_Ta_byteAt (by decide) rfl rfl rfl (qm_5 (i := 13) rfl rfl) np_M_Ta_byteAt rfl (by decide) (Nat.le_of_ble_eq_true rfl) rfl d_Re_isWord_32 (CI.k h (fun v10 σ9 h => (?_ : WM _ 35 _ _ _ _)))
    refine r_aload_n d_Re_isWord_35 rfl (?_ : WM _ 36 _ _ _ _)
    refine r_iload_n d_Re_isWord_36 rfl (?_ : WM _ 37 _ _ _ _)
    refine r_callT (ν := M_Sg_charAt) (j := 1) [vI x3] ok_M_Sg_charAt okv_M_Sg_charAt (by decide) rfl (qm_5 (i := 31) rfl rfl) np_M_Sg_charAt rfl (by decide) (Nat.le_of_ble_eq_true rfl) rfl d_Re_isWord_37 (CI.k h (fun v12 σ11 h => (?_ : WM _ 40 _ _ _ _)))
    refine r_icmp_eq 45 d_Re_isWord_40 rfl ⟨fun c13 => (?_ : WM _ 45 _ _ _ _), fun c13 => (?_ : WM _ 43 _ _ _ _)⟩
    · replace h := h.1 c13
      obtain ⟨h14, h⟩ := h
      refine r_iinc (ls' := [(3, vI (x3 + 1)), (0, vR 8), (1, vI x1), (2, vR 63)]) d_Re_isWord_45 rfl h14 (by decide) rfl (?_ : WM _ 48 _ _ _ _)
      refine r_goto 17 d_Re_isWord_48 rfl ?_
      refine r_pick (ls' := [(0, vR 8), (1, vI x1), (2, vR 63), (3, vI (x3 + 1))]) [1, 2, 3, 0] rfl ?_
      exact h
    · replace h := h.2 c13
      refine r_iconst d_Re_isWord_43 (by decide) (?_ : WM _ 44 _ _ _ _)
      exact r_zreturn rfl d_Re_isWord_44 (by decide) h
set_option maxRecDepth 20000 in
theorem e_Re_takeAudit {K : Int → St → Prop} {σ : St} (x1 : Int) (x2 : Int) (x3 : Int) (h : CI M_Le_indexOf [vR 9, vI x1, vI x2] σ (fun v2 σ1 => CI M_Le_coinsOf [vR 9, vI v2] σ1 (fun v4 σ3 => (v4 = 0 → K 0 σ3) ∧ (¬ v4 = 0 → CI M_Le_mayBeWorth [vR 9, vI v2, vI x3] σ3 (fun v7 σ6 => (¬ v7 = 0 → (0 ≤ v2) ∧ (v2 < 48) ∧ K 1 (ups σ6 13 v2 x3)) ∧ (v7 = 0 → K 0 σ6)))))) : CI M_Re_takeAudit [vR 8, vI x1, vI x2, vI x3] σ K := by
  refine Con.of ok_M_Re_takeAudit (ls := [(0, vR 8), (1, vI x1), (2, vI x2), (3, vI x3)]) rfl (Nat.le_of_ble_eq_true rfl) ?_
  refine r_aload_n d_Re_takeAudit_0 rfl (?_ : WM _ 1 _ _ _ _)
  refine r_getR (k := 8) (j := 0) (q := 9) (by decide) rfl clk_5 (by decide) (qm_1 (i := 116) rfl rfl) rfl d_Re_takeAudit_1 (?_ : WM _ 4 _ _ _ _)
  refine r_iload_n d_Re_takeAudit_4 rfl (?_ : WM _ 5 _ _ _ _)
  refine r_iload_n d_Re_takeAudit_5 rfl (?_ : WM _ 6 _ _ _ _)
  refine r_callV (ν := M_Le_indexOf) (k := 9) [vI x1, vI x2] ok_M_Le_indexOf okv_M_Le_indexOf (by decide) rfl rfl rfl (qm_5 (i := 68) rfl rfl) np_M_Le_indexOf rfl (by decide) (Nat.le_of_ble_eq_true rfl) rfl d_Re_takeAudit_6 (CI.k h (fun v2 σ1 h => (?_ : WM _ 9 _ _ _ _)))
  refine r_istore (ls' := [(4, vI v2), (0, vR 8), (1, vI x1), (2, vI x2), (3, vI x3)]) d_Re_takeAudit_9 (by decide) rfl (?_ : WM _ 11 _ _ _ _)
  refine r_aload_n d_Re_takeAudit_11 rfl (?_ : WM _ 12 _ _ _ _)
  refine r_getR (k := 8) (j := 0) (q := 9) (by decide) rfl clk_5 (by decide) (qm_1 (i := 116) rfl rfl) rfl d_Re_takeAudit_12 (?_ : WM _ 15 _ _ _ _)
  refine r_iload d_Re_takeAudit_15 rfl (?_ : WM _ 17 _ _ _ _)
  refine r_callV (ν := M_Le_coinsOf) (k := 9) [vI v2] ok_M_Le_coinsOf okv_M_Le_coinsOf (by decide) rfl rfl rfl (qm_5 (i := 81) rfl rfl) np_M_Le_coinsOf rfl (by decide) (Nat.le_of_ble_eq_true rfl) rfl d_Re_takeAudit_17 (CI.k h (fun v4 σ3 h => (?_ : WM _ 20 _ _ _ _)))
  refine r_if_eq 36 d_Re_takeAudit_20 rfl ⟨fun c5 => (?_ : WM _ 36 _ _ _ _), fun c5 => (?_ : WM _ 23 _ _ _ _)⟩
  · replace h := h.1 c5
    refine r_iconst d_Re_takeAudit_36 (by decide) (?_ : WM _ 37 _ _ _ _)
    exact r_zreturn rfl d_Re_takeAudit_37 (by decide) h
  · replace h := h.2 c5
    refine r_aload_n d_Re_takeAudit_23 rfl (?_ : WM _ 24 _ _ _ _)
    refine r_getR (k := 8) (j := 0) (q := 9) (by decide) rfl clk_5 (by decide) (qm_1 (i := 116) rfl rfl) rfl d_Re_takeAudit_24 (?_ : WM _ 27 _ _ _ _)
    refine r_iload d_Re_takeAudit_27 rfl (?_ : WM _ 29 _ _ _ _)
    refine r_iload_n d_Re_takeAudit_29 rfl (?_ : WM _ 30 _ _ _ _)
    refine r_callV (ν := M_Le_mayBeWorth) (k := 9) [vI v2, vI x3] ok_M_Le_mayBeWorth okv_M_Le_mayBeWorth (by decide) rfl rfl rfl (qm_5 (i := 90) rfl rfl) np_M_Le_mayBeWorth rfl (by decide) (Nat.le_of_ble_eq_true rfl) rfl d_Re_takeAudit_30 (CI.k h (fun v7 σ6 h => (?_ : WM _ 33 _ _ _ _)))
    refine r_if_ne 38 d_Re_takeAudit_33 rfl ⟨fun c8 => (?_ : WM _ 38 _ _ _ _), fun c8 => (?_ : WM _ 36 _ _ _ _)⟩
    · replace h := h.1 c8
      refine r_aload_n d_Re_takeAudit_38 rfl (?_ : WM _ 39 _ _ _ _)
      refine r_getR (k := 8) (j := 0) (q := 9) (by decide) rfl clk_5 (by decide) (qm_1 (i := 116) rfl rfl) rfl d_Re_takeAudit_39 (?_ : WM _ 42 _ _ _ _)
      refine r_getR (k := 9) (j := 3) (q := 13) (by decide) rfl clk_3 (by decide) (qm_1 (i := 88) rfl rfl) rfl d_Re_takeAudit_42 (?_ : WM _ 45 _ _ _ _)
      refine r_iload d_Re_takeAudit_45 rfl (?_ : WM _ 47 _ _ _ _)
      refine r_iload_n d_Re_takeAudit_47 rfl (?_ : WM _ 48 _ _ _ _)
      obtain ⟨h9, h⟩ := h
      obtain ⟨h10, h⟩ := h
      refine r_iast (k := 13) (n := 48) (by decide) rfl d_Re_takeAudit_48 h9 h10 (?_ : WM _ 49 _ _ _ _)
      refine r_iconst d_Re_takeAudit_49 (by decide) (?_ : WM _ 50 _ _ _ _)
      exact r_zreturn rfl d_Re_takeAudit_50 (by decide) h
    · replace h := h.2 c8
      refine r_iconst d_Re_takeAudit_36 (by decide) (?_ : WM _ 37 _ _ _ _)
      exact r_zreturn rfl d_Re_takeAudit_37 (by decide) h
set_option maxRecDepth 20000 in
theorem e_Fa_isWithin {K : Int → St → Prop} {σ : St} (x1 : UInt64) (x3 : Int) (x4 : Int) (x5 : Int) (h : (vf_n64 (FP.ddiv (FP.i2d (Int32.ofInt x5)) 4696837146684686336)) ∧ (vf_n64 (FP.dsub FP.dconst1 (FP.ddiv (FP.i2d (Int32.ofInt x5)) 4696837146684686336))) ∧ (0 < (dcq .g (FP.dsub FP.dconst1 (FP.ddiv (FP.i2d (Int32.ofInt x5)) 4696837146684686336)) FP.dconst0) → WM M_Fa_isWithin 30 [(1, vD x1), (3, vI x3), (4, vI x4), (6, vD (FP.ddiv (FP.i2d (Int32.ofInt x5)) 4696837146684686336)), (8, vD (FP.dsub FP.dconst1 (FP.ddiv (FP.i2d (Int32.ofInt x5)) 4696837146684686336))), (10, vD FP.dconst1), (12, vI 0)] [] σ (QI K)) ∧ (¬ 0 < (dcq .g (FP.dsub FP.dconst1 (FP.ddiv (FP.i2d (Int32.ofInt x5)) 4696837146684686336)) FP.dconst0) → K 1 σ)) : CI M_Fa_isWithin [vR 26, vD x1, vI x3, vI x4, vI x5] σ K := by
  refine Con.of ok_M_Fa_isWithin (ls := [(0, vR 26), (1, vD x1), (3, vI x3), (4, vI x4), (5, vI x5)]) rfl (Nat.le_of_ble_eq_true rfl) ?_
  refine r_iload d_Fa_isWithin_0 rfl (?_ : WM _ 2 _ _ _ _)
  refine r_i2d d_Fa_isWithin_2 (?_ : WM _ 3 _ _ _ _)
  refine r_ldc2d d_Fa_isWithin_3 (qm_5 (i := 230) rfl rfl) (?_ : WM _ 6 _ _ _ _)
  obtain ⟨h1, h⟩ := h
  refine r_ddiv d_Fa_isWithin_6 h1 (?_ : WM _ 7 _ _ _ _)
  refine r_dstore (ls' := [(6, vD (FP.ddiv (FP.i2d (Int32.ofInt x5)) 4696837146684686336)), (0, vR 26), (1, vD x1), (3, vI x3), (4, vI x4), (5, vI x5)]) d_Fa_isWithin_7 (by decide) rfl (?_ : WM _ 9 _ _ _ _)
  refine r_dconst1 d_Fa_isWithin_9 (?_ : WM _ 10 _ _ _ _)
  refine r_dload d_Fa_isWithin_10 rfl (?_ : WM _ 12 _ _ _ _)
  obtain ⟨h2, h⟩ := h
  refine r_dsub d_Fa_isWithin_12 h2 (?_ : WM _ 13 _ _ _ _)
  refine r_dstore (ls' := [(8, vD (FP.dsub FP.dconst1 (FP.ddiv (FP.i2d (Int32.ofInt x5)) 4696837146684686336))), (6, vD (FP.ddiv (FP.i2d (Int32.ofInt x5)) 4696837146684686336)), (0, vR 26), (1, vD x1), (3, vI x3), (4, vI x4), (5, vI x5)]) d_Fa_isWithin_13 (by decide) rfl (?_ : WM _ 15 _ _ _ _)
  refine r_dload d_Fa_isWithin_15 rfl (?_ : WM _ 17 _ _ _ _)
  refine r_dconst0 d_Fa_isWithin_17 (?_ : WM _ 18 _ _ _ _)
  refine r_dcmp d_Fa_isWithin_18 (?_ : WM _ 19 _ _ _ _)
  refine r_if_gt 24 d_Fa_isWithin_19 rfl ⟨fun c3 => (?_ : WM _ 24 _ _ _ _), fun c3 => (?_ : WM _ 22 _ _ _ _)⟩
  · replace h := h.1 c3
    refine r_dconst1 d_Fa_isWithin_24 (?_ : WM _ 25 _ _ _ _)
    refine r_dstore (ls' := [(10, vD FP.dconst1), (8, vD (FP.dsub FP.dconst1 (FP.ddiv (FP.i2d (Int32.ofInt x5)) 4696837146684686336))), (6, vD (FP.ddiv (FP.i2d (Int32.ofInt x5)) 4696837146684686336)), (0, vR 26), (1, vD x1), (3, vI x3), (4, vI x4), (5, vI x5)]) d_Fa_isWithin_25 (by decide) rfl (?_ : WM _ 27 _ _ _ _)
    refine r_iconst d_Fa_isWithin_27 (by decide) (?_ : WM _ 28 _ _ _ _)
    refine r_istore (ls' := [(12, vI 0), (10, vD FP.dconst1), (8, vD (FP.dsub FP.dconst1 (FP.ddiv (FP.i2d (Int32.ofInt x5)) 4696837146684686336))), (6, vD (FP.ddiv (FP.i2d (Int32.ofInt x5)) 4696837146684686336)), (0, vR 26), (1, vD x1), (3, vI x3), (4, vI x4), (5, vI x5)]) d_Fa_isWithin_28 (by decide) rfl (?_ : WM _ 30 _ _ _ _)
    refine r_pick (ls' := [(1, vD x1), (3, vI x3), (4, vI x4), (6, vD (FP.ddiv (FP.i2d (Int32.ofInt x5)) 4696837146684686336)), (8, vD (FP.dsub FP.dconst1 (FP.ddiv (FP.i2d (Int32.ofInt x5)) 4696837146684686336))), (10, vD FP.dconst1), (12, vI 0)]) [5, 6, 7, 3, 2, 1, 0] rfl ?_
    exact h
  · replace h := h.2 c3
    refine r_iconst d_Fa_isWithin_22 (by decide) (?_ : WM _ 23 _ _ _ _)
    exact r_zreturn rfl d_Fa_isWithin_23 (by decide) h
set_option maxRecDepth 20000 in
theorem l_Fa_isWithin_1 {K : Int → St → Prop} {σ : St} (x1 : UInt64) (x3 : Int) (x4 : Int) (x6 : UInt64) (x8 : UInt64) (x10 : UInt64) (x12 : Int) (h : (x3 ≤ x12 → WM M_Fa_isWithin 56 [(1, vD x1), (3, vI x3), (4, vI x4), (6, vD x6), (8, vD x8), (10, vD x10), (12, vD x10), (14, vI 1)] [] σ (QI K)) ∧ (¬ x3 ≤ x12 → (vf_n64 (FP.dmul x10 x8)) ∧ (inR (x12 + 1)) ∧ WM M_Fa_isWithin 30 [(1, vD x1), (3, vI x3), (4, vI x4), (6, vD x6), (8, vD x8), (10, vD (FP.dmul x10 x8)), (12, vI (x12 + 1))] [] σ (QI K))) : WM M_Fa_isWithin 30 [(1, vD x1), (3, vI x3), (4, vI x4), (6, vD x6), (8, vD x8), (10, vD x10), (12, vI x12)] [] σ (QI K) := by
  refine r_iload d_Fa_isWithin_30 rfl (?_ : WM _ 32 _ _ _ _)
  refine r_iload_n d_Fa_isWithin_32 rfl (?_ : WM _ 33 _ _ _ _)
  refine r_icmp_ge 49 d_Fa_isWithin_33 rfl ⟨fun c4 => (?_ : WM _ 49 _ _ _ _), fun c4 => (?_ : WM _ 36 _ _ _ _)⟩
  · replace h := h.1 c4
    refine r_dload d_Fa_isWithin_49 rfl (?_ : WM _ 51 _ _ _ _)
    refine r_dstore (ls' := [(12, vD x10), (1, vD x1), (3, vI x3), (4, vI x4), (6, vD x6), (8, vD x8), (10, vD x10)]) d_Fa_isWithin_51 (by decide) rfl (?_ : WM _ 53 _ _ _ _)
    refine r_iconst d_Fa_isWithin_53 (by decide) (?_ : WM _ 54 _ _ _ _)
    refine r_istore (ls' := [(14, vI 1), (12, vD x10), (1, vD x1), (3, vI x3), (4, vI x4), (6, vD x6), (8, vD x8), (10, vD x10)]) d_Fa_isWithin_54 (by decide) rfl (?_ : WM _ 56 _ _ _ _)
    refine r_pick (ls' := [(1, vD x1), (3, vI x3), (4, vI x4), (6, vD x6), (8, vD x8), (10, vD x10), (12, vD x10), (14, vI 1)]) [2, 3, 4, 5, 6, 7, 1, 0] rfl ?_
    exact h
  · replace h := h.2 c4
    refine r_dload d_Fa_isWithin_36 rfl (?_ : WM _ 38 _ _ _ _)
    refine r_dload d_Fa_isWithin_38 rfl (?_ : WM _ 40 _ _ _ _)
    obtain ⟨h5, h⟩ := h
    refine r_dmul d_Fa_isWithin_40 h5 (?_ : WM _ 41 _ _ _ _)
    refine r_dstore (ls' := [(10, vD (FP.dmul x10 x8)), (1, vD x1), (3, vI x3), (4, vI x4), (6, vD x6), (8, vD x8), (12, vI x12)]) d_Fa_isWithin_41 (by decide) rfl (?_ : WM _ 43 _ _ _ _)
    obtain ⟨h6, h⟩ := h
    refine r_iinc (ls' := [(12, vI (x12 + 1)), (10, vD (FP.dmul x10 x8)), (1, vD x1), (3, vI x3), (4, vI x4), (6, vD x6), (8, vD x8)]) d_Fa_isWithin_43 rfl h6 (by decide) rfl (?_ : WM _ 46 _ _ _ _)
    refine r_goto 30 d_Fa_isWithin_46 rfl ?_
    refine r_pick (ls' := [(1, vD x1), (3, vI x3), (4, vI x4), (6, vD x6), (8, vD x8), (10, vD (FP.dmul x10 x8)), (12, vI (x12 + 1))]) [2, 3, 4, 5, 6, 1, 0] rfl ?_
    exact h
set_option maxRecDepth 20000 in
theorem l_Fa_isWithin_2 {K : Int → St → Prop} {σ : St} (x1 : UInt64) (x3 : Int) (x4 : Int) (x6 : UInt64) (x8 : UInt64) (x10 : UInt64) (x12 : UInt64) (x14 : Int) (h : (x4 < x14 → (0 < (dcq .g x12 x1) → K 0 σ) ∧ (¬ 0 < (dcq .g x12 x1) → K 1 σ)) ∧ (¬ x4 < x14 → (0 < (dcq .g x12 x1) → K 0 σ) ∧ (¬ 0 < (dcq .g x12 x1) → (inR (x3 - x14)) ∧ (inR ((x3 - x14) + 1)) ∧ (vf_n64 (FP.dmul x10 (FP.i2d (Int32.ofInt ((x3 - x14) + 1))))) ∧ (vf_n64 (FP.ddiv (FP.dmul x10 (FP.i2d (Int32.ofInt ((x3 - x14) + 1)))) (FP.i2d (Int32.ofInt x14)))) ∧ (vf_n64 (FP.dmul (FP.ddiv (FP.dmul x10 (FP.i2d (Int32.ofInt ((x3 - x14) + 1)))) (FP.i2d (Int32.ofInt x14))) x6)) ∧ (vf_n64 (FP.ddiv (FP.dmul (FP.ddiv (FP.dmul x10 (FP.i2d (Int32.ofInt ((x3 - x14) + 1)))) (FP.i2d (Int32.ofInt x14))) x6) x8)) ∧ (vf_n64 (FP.dadd x12 (FP.ddiv (FP.dmul (FP.ddiv (FP.dmul x10 (FP.i2d (Int32.ofInt ((x3 - x14) + 1)))) (FP.i2d (Int32.ofInt x14))) x6) x8))) ∧ (inR (x14 + 1)) ∧ WM M_Fa_isWithin 56 [(1, vD x1), (3, vI x3), (4, vI x4), (6, vD x6), (8, vD x8), (10, vD (FP.ddiv (FP.dmul (FP.ddiv (FP.dmul x10 (FP.i2d (Int32.ofInt ((x3 - x14) + 1)))) (FP.i2d (Int32.ofInt x14))) x6) x8)), (12, vD (FP.dadd x12 (FP.ddiv (FP.dmul (FP.ddiv (FP.dmul x10 (FP.i2d (Int32.ofInt ((x3 - x14) + 1)))) (FP.i2d (Int32.ofInt x14))) x6) x8))), (14, vI (x14 + 1))] [] σ (QI K)))) : WM M_Fa_isWithin 56 [(1, vD x1), (3, vI x3), (4, vI x4), (6, vD x6), (8, vD x8), (10, vD x10), (12, vD x12), (14, vI x14)] [] σ (QI K) := by
  refine r_iload d_Fa_isWithin_56 rfl (?_ : WM _ 58 _ _ _ _)
  refine r_iload d_Fa_isWithin_58 rfl (?_ : WM _ 60 _ _ _ _)
  refine r_icmp_gt 105 d_Fa_isWithin_60 rfl ⟨fun c7 => (?_ : WM _ 105 _ _ _ _), fun c7 => (?_ : WM _ 63 _ _ _ _)⟩
  · replace h := h.1 c7
    refine r_dload d_Fa_isWithin_105 rfl (?_ : WM _ 107 _ _ _ _)
    refine r_dload_n d_Fa_isWithin_107 rfl (?_ : WM _ 108 _ _ _ _)
    refine r_dcmp d_Fa_isWithin_108 (?_ : WM _ 109 _ _ _ _)
    refine r_if_gt 116 d_Fa_isWithin_109 rfl ⟨fun c8 => (?_ : WM _ 116 _ _ _ _), fun c8 => (?_ : WM _ 112 _ _ _ _)⟩
    · replace h := h.1 c8
      refine r_iconst d_Fa_isWithin_116 (by decide) (?_ : WM _ 117 _ _ _ _)
      exact r_zreturn rfl d_Fa_isWithin_117 (by decide) h
    · replace h := h.2 c8
      refine r_iconst d_Fa_isWithin_112 (by decide) (?_ : WM _ 113 _ _ _ _)
      refine r_goto 117 d_Fa_isWithin_113 rfl ?_
      exact r_zreturn rfl d_Fa_isWithin_117 (by decide) h
  · replace h := h.2 c7
    refine r_dload d_Fa_isWithin_63 rfl (?_ : WM _ 65 _ _ _ _)
    refine r_dload_n d_Fa_isWithin_65 rfl (?_ : WM _ 66 _ _ _ _)
    refine r_dcmp d_Fa_isWithin_66 (?_ : WM _ 67 _ _ _ _)
    refine r_if_gt 105 d_Fa_isWithin_67 rfl ⟨fun c9 => (?_ : WM _ 105 _ _ _ _), fun c9 => (?_ : WM _ 70 _ _ _ _)⟩
    · replace h := h.1 c9
      refine r_dload d_Fa_isWithin_105 rfl (?_ : WM _ 107 _ _ _ _)
      refine r_dload_n d_Fa_isWithin_107 rfl (?_ : WM _ 108 _ _ _ _)
      refine r_dcmp d_Fa_isWithin_108 (?_ : WM _ 109 _ _ _ _)
      refine r_if_gt 116 d_Fa_isWithin_109 rfl ⟨fun hc => (?_ : WM _ 116 _ _ _ _), fun hc => absurd c9 hc⟩
      refine r_iconst d_Fa_isWithin_116 (by decide) (?_ : WM _ 117 _ _ _ _)
      exact r_zreturn rfl d_Fa_isWithin_117 (by decide) h
    · replace h := h.2 c9
      refine r_dload d_Fa_isWithin_70 rfl (?_ : WM _ 72 _ _ _ _)
      refine r_iload_n d_Fa_isWithin_72 rfl (?_ : WM _ 73 _ _ _ _)
      refine r_iload d_Fa_isWithin_73 rfl (?_ : WM _ 75 _ _ _ _)
      obtain ⟨h10, h⟩ := h
      refine r_isub d_Fa_isWithin_75 h10 (?_ : WM _ 76 _ _ _ _)
      refine r_iconst d_Fa_isWithin_76 (by decide) (?_ : WM _ 77 _ _ _ _)
      obtain ⟨h11, h⟩ := h
      refine r_iadd d_Fa_isWithin_77 h11 (?_ : WM _ 78 _ _ _ _)
      refine r_i2d d_Fa_isWithin_78 (?_ : WM _ 79 _ _ _ _)
      obtain ⟨h12, h⟩ := h
      refine r_dmul d_Fa_isWithin_79 h12 (?_ : WM _ 80 _ _ _ _)
      refine r_iload d_Fa_isWithin_80 rfl (?_ : WM _ 82 _ _ _ _)
      refine r_i2d d_Fa_isWithin_82 (?_ : WM _ 83 _ _ _ _)
      obtain ⟨h13, h⟩ := h
      refine r_ddiv d_Fa_isWithin_83 h13 (?_ : WM _ 84 _ _ _ _)
      refine r_dload d_Fa_isWithin_84 rfl (?_ : WM _ 86 _ _ _ _)
      obtain ⟨h14, h⟩ := h
      refine r_dmul d_Fa_isWithin_86 h14 (?_ : WM _ 87 _ _ _ _)
      refine r_dload d_Fa_isWithin_87 rfl (?_ : WM _ 89 _ _ _ _)
      obtain ⟨h15, h⟩ := h
      refine r_ddiv d_Fa_isWithin_89 h15 (?_ : WM _ 90 _ _ _ _)
      refine r_dstore (ls' := [(10, vD (FP.ddiv (FP.dmul (FP.ddiv (FP.dmul x10 (FP.i2d (Int32.ofInt ((x3 - x14) + 1)))) (FP.i2d (Int32.ofInt x14))) x6) x8)), (1, vD x1), (3, vI x3), (4, vI x4), (6, vD x6), (8, vD x8), (12, vD x12), (14, vI x14)]) d_Fa_isWithin_90 (by decide) rfl (?_ : WM _ 92 _ _ _ _)
      refine r_dload d_Fa_isWithin_92 rfl (?_ : WM _ 94 _ _ _ _)
      refine r_dload d_Fa_isWithin_94 rfl (?_ : WM _ 96 _ _ _ _)
      obtain ⟨h16, h⟩ := h
      refine r_dadd d_Fa_isWithin_96 h16 (?_ : WM _ 97 _ _ _ _)
      refine r_dstore (ls' := [(12, vD (FP.dadd x12 (FP.ddiv (FP.dmul (FP.ddiv (FP.dmul x10 (FP.i2d (Int32.ofInt ((x3 - x14) + 1)))) (FP.i2d (Int32.ofInt x14))) x6) x8))), (10, vD (FP.ddiv (FP.dmul (FP.ddiv (FP.dmul x10 (FP.i2d (Int32.ofInt ((x3 - x14) + 1)))) (FP.i2d (Int32.ofInt x14))) x6) x8)), (1, vD x1), (3, vI x3), (4, vI x4), (6, vD x6), (8, vD x8), (14, vI x14)]) d_Fa_isWithin_97 (by decide) rfl (?_ : WM _ 99 _ _ _ _)
      obtain ⟨h17, h⟩ := h
      refine r_iinc (ls' := [(14, vI (x14 + 1)), (12, vD (FP.dadd x12 (FP.ddiv (FP.dmul (FP.ddiv (FP.dmul x10 (FP.i2d (Int32.ofInt ((x3 - x14) + 1)))) (FP.i2d (Int32.ofInt x14))) x6) x8))), (10, vD (FP.ddiv (FP.dmul (FP.ddiv (FP.dmul x10 (FP.i2d (Int32.ofInt ((x3 - x14) + 1)))) (FP.i2d (Int32.ofInt x14))) x6) x8)), (1, vD x1), (3, vI x3), (4, vI x4), (6, vD x6), (8, vD x8)]) d_Fa_isWithin_99 rfl h17 (by decide) rfl (?_ : WM _ 102 _ _ _ _)
      refine r_goto 56 d_Fa_isWithin_102 rfl ?_
      refine r_pick (ls' := [(1, vD x1), (3, vI x3), (4, vI x4), (6, vD x6), (8, vD x8), (10, vD (FP.ddiv (FP.dmul (FP.ddiv (FP.dmul x10 (FP.i2d (Int32.ofInt ((x3 - x14) + 1)))) (FP.i2d (Int32.ofInt x14))) x6) x8)), (12, vD (FP.dadd x12 (FP.ddiv (FP.dmul (FP.ddiv (FP.dmul x10 (FP.i2d (Int32.ofInt ((x3 - x14) + 1)))) (FP.i2d (Int32.ofInt x14))) x6) x8))), (14, vI (x14 + 1))]) [3, 4, 5, 6, 7, 2, 1, 0] rfl ?_
      exact h
