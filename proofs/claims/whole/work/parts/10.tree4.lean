-- what each stretch of a method asks (printed by wip/gen/gen_out.py)
set_option maxRecDepth 20000 in
theorem e_Mo_errorOf {K : Int → St → Prop} {σ : St} (x1 : Int) (h : CI M_Mo_audited [vR 35, vI x1] σ (fun v2 σ1 => (¬ v2 = (-1) → CI M_Mo_book [vR 35, vI x1] σ1 (fun v5 σ4 => CI M_Mo_audited [vR 35, vI x1] σ4 (fun v7 σ6 => (inR (v5 - v7)) ∧ K (v5 - v7) σ6))) ∧ (v2 = (-1) → K 0 σ1))) : CI M_Mo_errorOf [vR 35, vI x1] σ K := by
  refine Con.of ok_M_Mo_errorOf (ls := [(0, vR 35), (1, vI x1)]) rfl (Nat.le_of_ble_eq_true rfl) ?_
  refine r_aload_n d_Mo_errorOf_0 rfl (?_ : WM _ 1 _ _ _ _)
  refine r_iload_n d_Mo_errorOf_1 rfl (?_ : WM _ 2 _ _ _ _)
  refine r_callV (ν := M_Mo_audited) (k := 35) [vI x1] ok_M_Mo_audited okv_M_Mo_audited (by decide) rfl rfl rfl (qm_6 (i := 11) rfl rfl) np_M_Mo_audited rfl (by decide) (Nat.le_of_ble_eq_true rfl) rfl d_Mo_errorOf_2 (CI.k h (fun v2 σ1 h => (?_ : WM _ 5 _ _ _ _)))
  refine r_iconst d_Mo_errorOf_5 (by decide) (?_ : WM _ 6 _ _ _ _)
  refine r_icmp_ne 13 d_Mo_errorOf_6 rfl ⟨fun c3 => (?_ : WM _ 13 _ _ _ _), fun c3 => (?_ : WM _ 9 _ _ _ _)⟩
  · replace h := h.1 c3
    refine r_aload_n d_Mo_errorOf_13 rfl (?_ : WM _ 14 _ _ _ _)
    refine r_iload_n d_Mo_errorOf_14 rfl (?_ : WM _ 15 _ _ _ _)
    refine r_callV (ν := M_Mo_book) (k := 35) [vI x1] ok_M_Mo_book okv_M_Mo_book (by decide) rfl rfl rfl (qm_5 (i := 234) rfl rfl) np_M_Mo_book rfl (by decide) (Nat.le_of_ble_eq_true rfl) rfl d_Mo_errorOf_15 (CI.k h (fun v5 σ4 h => (?_ : WM _ 18 _ _ _ _)))
    refine r_aload_n d_Mo_errorOf_18 rfl (?_ : WM _ 19 _ _ _ _)
    refine r_iload_n d_Mo_errorOf_19 rfl (?_ : WM _ 20 _ _ _ _)
    refine r_callV (ν := M_Mo_audited) (k := 35) [vI x1] ok_M_Mo_audited okv_M_Mo_audited (by decide) rfl rfl rfl (qm_6 (i := 11) rfl rfl) np_M_Mo_audited rfl (by decide) (Nat.le_of_ble_eq_true rfl) rfl d_Mo_errorOf_20 (CI.k h (fun v7 σ6 h => (?_ : WM _ 23 _ _ _ _)))
    obtain ⟨h8, h⟩ := h
    refine r_isub d_Mo_errorOf_23 h8 (?_ : WM _ 24 _ _ _ _)
    exact r_ireturn rfl d_Mo_errorOf_24 h
  · replace h := h.2 c3
    refine r_iconst d_Mo_errorOf_9 (by decide) (?_ : WM _ 10 _ _ _ _)
    refine r_goto 24 d_Mo_errorOf_10 rfl ?_
    exact r_ireturn rfl d_Mo_errorOf_24 h
set_option maxRecDepth 20000 in
theorem e_Mo_taintOf {K : Int → St → Prop} {σ : St} (x1 : Int) (h : CI M_Mo_audited [vR 35, vI x1] σ (fun v2 σ1 => (¬ v2 = (-1) → CI M_Mo_errorOf [vR 35, vI x1] σ1 (fun v5 σ4 => (inR (10000 * v5)) ∧ CI M_Mo_book [vR 35, vI x1] σ4 (fun v8 σ7 => (v8 ≠ 0) ∧ (inR ((10000 * v5).tdiv v8)) ∧ K ((10000 * v5).tdiv v8) σ7))) ∧ (v2 = (-1) → K 0 σ1))) : CI M_Mo_taintOf [vR 35, vI x1] σ K := by
  refine Con.of ok_M_Mo_taintOf (ls := [(0, vR 35), (1, vI x1)]) rfl (Nat.le_of_ble_eq_true rfl) ?_
  refine r_aload_n d_Mo_taintOf_0 rfl (?_ : WM _ 1 _ _ _ _)
  refine r_iload_n d_Mo_taintOf_1 rfl (?_ : WM _ 2 _ _ _ _)
  refine r_callV (ν := M_Mo_audited) (k := 35) [vI x1] ok_M_Mo_audited okv_M_Mo_audited (by decide) rfl rfl rfl (qm_6 (i := 11) rfl rfl) np_M_Mo_audited rfl (by decide) (Nat.le_of_ble_eq_true rfl) rfl d_Mo_taintOf_2 (CI.k h (fun v2 σ1 h => (?_ : WM _ 5 _ _ _ _)))
  refine r_iconst d_Mo_taintOf_5 (by decide) (?_ : WM _ 6 _ _ _ _)
  refine r_icmp_ne 13 d_Mo_taintOf_6 rfl ⟨fun c3 => (?_ : WM _ 13 _ _ _ _), fun c3 => (?_ : WM _ 9 _ _ _ _)⟩
  · replace h := h.1 c3
    refine r_sipush d_Mo_taintOf_13 (by decide) (by decide) (?_ : WM _ 16 _ _ _ _)
    refine r_aload_n d_Mo_taintOf_16 rfl (?_ : WM _ 17 _ _ _ _)
    refine r_iload_n d_Mo_taintOf_17 rfl (?_ : WM _ 18 _ _ _ _)
    refine r_callV (ν := M_Mo_errorOf) (k := 35) [vI x1] ok_M_Mo_errorOf okv_M_Mo_errorOf (by decide) rfl rfl rfl (qm_6 (i := 101) rfl rfl) np_M_Mo_errorOf rfl (by decide) (Nat.le_of_ble_eq_true rfl) rfl d_Mo_taintOf_18 (CI.k h (fun v5 σ4 h => (?_ : WM _ 21 _ _ _ _)))
    obtain ⟨h6, h⟩ := h
    refine r_imul d_Mo_taintOf_21 h6 (?_ : WM _ 22 _ _ _ _)
    refine r_aload_n d_Mo_taintOf_22 rfl (?_ : WM _ 23 _ _ _ _)
    refine r_iload_n d_Mo_taintOf_23 rfl (?_ : WM _ 24 _ _ _ _)
    refine r_callV (ν := M_Mo_book) (k := 35) [vI x1] ok_M_Mo_book okv_M_Mo_book (by decide) rfl rfl rfl (qm_5 (i := 234) rfl rfl) np_M_Mo_book rfl (by decide) (Nat.le_of_ble_eq_true rfl) rfl d_Mo_taintOf_24 (CI.k h (fun v8 σ7 h => (?_ : WM _ 27 _ _ _ _)))
    obtain ⟨h9, h⟩ := h
    obtain ⟨h10, h⟩ := h
    refine r_idiv d_Mo_taintOf_27 h9 h10 (?_ : WM _ 28 _ _ _ _)
    exact r_ireturn rfl d_Mo_taintOf_28 h
  · replace h := h.2 c3
    refine r_iconst d_Mo_taintOf_9 (by decide) (?_ : WM _ 10 _ _ _ _)
    refine r_goto 28 d_Mo_taintOf_10 rfl ?_
    exact r_ireturn rfl d_Mo_taintOf_28 h
set_option maxRecDepth 20000 in
theorem e_Mo_isCertain {K : Int → St → Prop} {σ : St} (x1 : Int) (h : CI M_Mo_book [vR 35, vI x1] σ (fun v2 σ1 => CI M_Mo_isCertainBy [vI v2, vI (σ1 35 9)] σ1 (fun v4 σ3 => (v4 = 0 ∨ v4 = 1) ∧ K v4 σ3))) : CI M_Mo_isCertain [vR 35, vI x1] σ K := by
  refine Con.of ok_M_Mo_isCertain (ls := [(0, vR 35), (1, vI x1)]) rfl (Nat.le_of_ble_eq_true rfl) ?_
  refine r_aload_n d_Mo_isCertain_0 rfl (?_ : WM _ 1 _ _ _ _)
  refine r_iload_n d_Mo_isCertain_1 rfl (?_ : WM _ 2 _ _ _ _)
  refine r_callV (ν := M_Mo_book) (k := 35) [vI x1] ok_M_Mo_book okv_M_Mo_book (by decide) rfl rfl rfl (qm_5 (i := 234) rfl rfl) np_M_Mo_book rfl (by decide) (Nat.le_of_ble_eq_true rfl) rfl d_Mo_isCertain_2 (CI.k h (fun v2 σ1 h => (?_ : WM _ 5 _ _ _ _)))
  refine r_aload_n d_Mo_isCertain_5 rfl (?_ : WM _ 6 _ _ _ _)
  refine r_getI (k := 35) (j := 9) 9 (by decide) rfl clk_11 (by decide) (qm_5 (i := 45) rfl rfl) rfl rfl d_Mo_isCertain_6 (y := (σ1 35 9)) rfl (?_ : WM _ 9 _ _ _ _)
  refine r_callS (ν := M_Mo_isCertainBy) [vI v2, vI (σ1 35 9)] ok_M_Mo_isCertainBy oks_M_Mo_isCertainBy (qm_6 (i := 31) rfl rfl) np_M_Mo_isCertainBy rfl (by decide) (Nat.le_of_ble_eq_true rfl) rfl d_Mo_isCertain_9 (CI.k h (fun v4 σ3 h => (?_ : WM _ 12 _ _ _ _)))
  obtain ⟨h5, h⟩ := h
  exact r_zreturn rfl d_Mo_isCertain_12 h5 h
set_option maxRecDepth 20000 in
theorem e_Mo_laysRest {K : St → Prop} {σ : St} (x1 : Int) (h : WM M_Mo_laysRest 7 [(0, vR 35), (1, vI x1), (2, vI 0)] [] (ups σ 35 20 0) (QV K)) : CV M_Mo_laysRest [vR 35, vI x1] σ K := by
  refine Con.of ok_M_Mo_laysRest (ls := [(0, vR 35), (1, vI x1)]) rfl (Nat.le_of_ble_eq_true rfl) ?_
  refine r_aload_n d_Mo_laysRest_0 rfl (?_ : WM _ 1 _ _ _ _)
  refine r_iconst d_Mo_laysRest_1 (by decide) (?_ : WM _ 2 _ _ _ _)
  refine r_put (k := 35) (j := 20) 20 (by decide) rfl clk_11 (by decide) (qm_5 (i := 56) rfl rfl) rfl rfl rfl tyX11_ok rfl nmX11 d_Mo_laysRest_2 (?_ : WM _ 5 _ _ _ _)
  refine r_iconst d_Mo_laysRest_5 (by decide) (?_ : WM _ 6 _ _ _ _)
  refine r_istore_n (ls' := [(2, vI 0), (0, vR 35), (1, vI x1)]) d_Mo_laysRest_6 rfl (by decide) rfl (?_ : WM _ 7 _ _ _ _)
  refine r_pick (ls' := [(0, vR 35), (1, vI x1), (2, vI 0)]) [1, 2, 0] rfl ?_
  exact h
set_option maxRecDepth 20000 in
theorem l_Mo_laysRest_1 {K : St → Prop} {σ : St} (x1 : Int) (x2 : Int) (h : ((σ 35 6) ≤ x2 → K σ) ∧ (¬ (σ 35 6) ≤ x2 → CI M_Mo_coinsOf [vR 35, vI x2] σ (fun v3 σ2 => (v3 ≤ 0 → (0 ≤ x2) ∧ (x2 < 48) ∧ (inR ((σ2 35 20) + 0)) ∧ (inR (x2 + 1)) ∧ WM M_Mo_laysRest 7 [(0, vR 35), (1, vI x1), (2, vI (x2 + 1))] [] (ups (ups σ2 44 x2 0) 35 20 ((σ2 35 20) + 0)) (QV K)) ∧ (¬ v3 ≤ 0 → CI M_Mo_book [vR 35, vI x2] σ2 (fun v10 σ9 => CI M_Mo_isCertainBy [vI v10, vI x1] σ9 (fun v12 σ11 => (¬ v12 = 0 → (0 ≤ x2) ∧ (x2 < 48) ∧ (inR ((σ11 35 20) + 0)) ∧ (inR (x2 + 1)) ∧ WM M_Mo_laysRest 7 [(0, vR 35), (1, vI x1), (2, vI (x2 + 1))] [] (ups (ups σ11 44 x2 0) 35 20 ((σ11 35 20) + 0)) (QV K)) ∧ (v12 = 0 → (inR ((σ11 35 20) + 1)) ∧ (0 ≤ x2) ∧ (x2 < 48) ∧ CI M_Mo_coinsOf [vR 35, vI x2] (ups σ11 44 x2 ((σ11 35 20) + 1)) (fun v22 σ21 => (inR ((σ11 35 20) + v22)) ∧ (inR (x2 + 1)) ∧ WM M_Mo_laysRest 7 [(0, vR 35), (1, vI x1), (2, vI (x2 + 1))] [] (ups σ21 35 20 ((σ11 35 20) + v22)) (QV K))))))))) : WM M_Mo_laysRest 7 [(0, vR 35), (1, vI x1), (2, vI x2)] [] σ (QV K) := by
  refine r_iload_n d_Mo_laysRest_7 rfl (?_ : WM _ 8 _ _ _ _)
  refine r_aload_n d_Mo_laysRest_8 rfl (?_ : WM _ 9 _ _ _ _)
  refine r_getI (k := 35) (j := 6) 6 (by decide) rfl clk_11 (by decide) (qm_5 (i := 42) rfl rfl) rfl rfl d_Mo_laysRest_9 (y := (σ 35 6)) rfl (?_ : WM _ 12 _ _ _ _)
  refine r_icmp_ge 89 d_Mo_laysRest_12 rfl ⟨fun c1 => (?_ : WM _ 89 _ _ _ _), fun c1 => (?_ : WM _ 15 _ _ _ _)⟩
  · replace h := h.1 c1
    exact r_return rfl d_Mo_laysRest_89 h
  · replace h := h.2 c1
    refine r_aload_n d_Mo_laysRest_15 rfl (?_ : WM _ 16 _ _ _ _)
    refine r_iload_n d_Mo_laysRest_16 rfl (?_ : WM _ 17 _ _ _ _)
    refine r_callV (ν := M_Mo_coinsOf) (k := 35) [vI x2] ok_M_Mo_coinsOf okv_M_Mo_coinsOf (by decide) rfl rfl rfl (qm_6 (i := 7) rfl rfl) np_M_Mo_coinsOf rfl (by decide) (Nat.le_of_ble_eq_true rfl) rfl d_Mo_laysRest_17 (CI.k h (fun v3 σ2 h => (?_ : WM _ 20 _ _ _ _)))
    refine r_if_le 39 d_Mo_laysRest_20 rfl ⟨fun c4 => (?_ : WM _ 39 _ _ _ _), fun c4 => (?_ : WM _ 23 _ _ _ _)⟩
    · replace h := h.1 c4
      refine r_iconst d_Mo_laysRest_39 (by decide) (?_ : WM _ 40 _ _ _ _)
      refine r_istore_n (ls' := [(3, vI 0), (0, vR 35), (1, vI x1), (2, vI x2)]) d_Mo_laysRest_40 rfl (by decide) rfl (?_ : WM _ 41 _ _ _ _)
      refine r_aload_n d_Mo_laysRest_41 rfl (?_ : WM _ 42 _ _ _ _)
      refine r_getR (k := 35) (j := 19) (q := 44) (by decide) rfl clk_11 (by decide) (qm_5 (i := 55) rfl rfl) rfl d_Mo_laysRest_42 (?_ : WM _ 45 _ _ _ _)
      refine r_iload_n d_Mo_laysRest_45 rfl (?_ : WM _ 46 _ _ _ _)
      refine r_iload_n d_Mo_laysRest_46 rfl (?_ : WM _ 47 _ _ _ _)
      refine r_if_eq 59 d_Mo_laysRest_47 rfl ⟨fun hc => (?_ : WM _ 59 _ _ _ _), fun hc => absurd hc (by decide)⟩
      refine r_iconst d_Mo_laysRest_59 (by decide) (?_ : WM _ 60 _ _ _ _)
      obtain ⟨h5, h⟩ := h
      obtain ⟨h6, h⟩ := h
      refine r_iast (k := 44) (n := 48) (by decide) rfl d_Mo_laysRest_60 h5 h6 (?_ : WM _ 61 _ _ _ _)
      refine r_aload_n d_Mo_laysRest_61 rfl (?_ : WM _ 62 _ _ _ _)
      refine r_dup d_Mo_laysRest_62 rfl (?_ : WM _ 63 _ _ _ _)
      refine r_getI (k := 35) (j := 20) 20 (by decide) rfl clk_11 (by decide) (qm_5 (i := 56) rfl rfl) rfl rfl d_Mo_laysRest_63 (y := (σ2 35 20)) (ups_c (by decide)) (?_ : WM _ 66 _ _ _ _)
      refine r_iload_n d_Mo_laysRest_66 rfl (?_ : WM _ 67 _ _ _ _)
      refine r_if_eq 78 d_Mo_laysRest_67 rfl ⟨fun hc => (?_ : WM _ 78 _ _ _ _), fun hc => absurd hc (by decide)⟩
      refine r_iconst d_Mo_laysRest_78 (by decide) (?_ : WM _ 79 _ _ _ _)
      obtain ⟨h7, h⟩ := h
      refine r_iadd d_Mo_laysRest_79 h7 (?_ : WM _ 80 _ _ _ _)
      refine r_put (k := 35) (j := 20) 20 (by decide) rfl clk_11 (by decide) (qm_5 (i := 56) rfl rfl) rfl rfl rfl tyX11_ok rfl nmX11 d_Mo_laysRest_80 (?_ : WM _ 83 _ _ _ _)
      obtain ⟨h8, h⟩ := h
      refine r_iinc (ls' := [(2, vI (x2 + 1)), (3, vI 0), (0, vR 35), (1, vI x1)]) d_Mo_laysRest_83 rfl h8 (by decide) rfl (?_ : WM _ 86 _ _ _ _)
      refine r_goto 7 d_Mo_laysRest_86 rfl ?_
      refine r_pick (ls' := [(0, vR 35), (1, vI x1), (2, vI (x2 + 1))]) [2, 3, 0] rfl ?_
      exact h
    · replace h := h.2 c4
      refine r_aload_n d_Mo_laysRest_23 rfl (?_ : WM _ 24 _ _ _ _)
      refine r_iload_n d_Mo_laysRest_24 rfl (?_ : WM _ 25 _ _ _ _)
      refine r_callV (ν := M_Mo_book) (k := 35) [vI x2] ok_M_Mo_book okv_M_Mo_book (by decide) rfl rfl rfl (qm_5 (i := 234) rfl rfl) np_M_Mo_book rfl (by decide) (Nat.le_of_ble_eq_true rfl) rfl d_Mo_laysRest_25 (CI.k h (fun v10 σ9 h => (?_ : WM _ 28 _ _ _ _)))
      refine r_iload_n d_Mo_laysRest_28 rfl (?_ : WM _ 29 _ _ _ _)
      refine r_callS (ν := M_Mo_isCertainBy) [vI v10, vI x1] ok_M_Mo_isCertainBy oks_M_Mo_isCertainBy (qm_6 (i := 31) rfl rfl) np_M_Mo_isCertainBy rfl (by decide) (Nat.le_of_ble_eq_true rfl) rfl d_Mo_laysRest_29 (CI.k h (fun v12 σ11 h => (?_ : WM _ 32 _ _ _ _)))
      refine r_if_ne 39 d_Mo_laysRest_32 rfl ⟨fun c13 => (?_ : WM _ 39 _ _ _ _), fun c13 => (?_ : WM _ 35 _ _ _ _)⟩
      · replace h := h.1 c13
        refine r_iconst d_Mo_laysRest_39 (by decide) (?_ : WM _ 40 _ _ _ _)
        refine r_istore_n (ls' := [(3, vI 0), (0, vR 35), (1, vI x1), (2, vI x2)]) d_Mo_laysRest_40 rfl (by decide) rfl (?_ : WM _ 41 _ _ _ _)
        refine r_aload_n d_Mo_laysRest_41 rfl (?_ : WM _ 42 _ _ _ _)
        refine r_getR (k := 35) (j := 19) (q := 44) (by decide) rfl clk_11 (by decide) (qm_5 (i := 55) rfl rfl) rfl d_Mo_laysRest_42 (?_ : WM _ 45 _ _ _ _)
        refine r_iload_n d_Mo_laysRest_45 rfl (?_ : WM _ 46 _ _ _ _)
        refine r_iload_n d_Mo_laysRest_46 rfl (?_ : WM _ 47 _ _ _ _)
        refine r_if_eq 59 d_Mo_laysRest_47 rfl ⟨fun hc => (?_ : WM _ 59 _ _ _ _), fun hc => absurd hc (by decide)⟩
        refine r_iconst d_Mo_laysRest_59 (by decide) (?_ : WM _ 60 _ _ _ _)
        obtain ⟨h14, h⟩ := h
        obtain ⟨h15, h⟩ := h
        refine r_iast (k := 44) (n := 48) (by decide) rfl d_Mo_laysRest_60 h14 h15 (?_ : WM _ 61 _ _ _ _)
        refine r_aload_n d_Mo_laysRest_61 rfl (?_ : WM _ 62 _ _ _ _)
        refine r_dup d_Mo_laysRest_62 rfl (?_ : WM _ 63 _ _ _ _)
        refine r_getI (k := 35) (j := 20) 20 (by decide) rfl clk_11 (by decide) (qm_5 (i := 56) rfl rfl) rfl rfl d_Mo_laysRest_63 (y := (σ11 35 20)) (ups_c (by decide)) (?_ : WM _ 66 _ _ _ _)
        refine r_iload_n d_Mo_laysRest_66 rfl (?_ : WM _ 67 _ _ _ _)
        refine r_if_eq 78 d_Mo_laysRest_67 rfl ⟨fun hc => (?_ : WM _ 78 _ _ _ _), fun hc => absurd hc (by decide)⟩
        refine r_iconst d_Mo_laysRest_78 (by decide) (?_ : WM _ 79 _ _ _ _)
        obtain ⟨h16, h⟩ := h
        refine r_iadd d_Mo_laysRest_79 h16 (?_ : WM _ 80 _ _ _ _)
        refine r_put (k := 35) (j := 20) 20 (by decide) rfl clk_11 (by decide) (qm_5 (i := 56) rfl rfl) rfl rfl rfl tyX11_ok rfl nmX11 d_Mo_laysRest_80 (?_ : WM _ 83 _ _ _ _)
        obtain ⟨h17, h⟩ := h
        refine r_iinc (ls' := [(2, vI (x2 + 1)), (3, vI 0), (0, vR 35), (1, vI x1)]) d_Mo_laysRest_83 rfl h17 (by decide) rfl (?_ : WM _ 86 _ _ _ _)
        refine r_goto 7 d_Mo_laysRest_86 rfl ?_
        refine r_pick (ls' := [(0, vR 35), (1, vI x1), (2, vI (x2 + 1))]) [2, 3, 0] rfl ?_
        exact h
      · replace h := h.2 c13
        refine r_iconst d_Mo_laysRest_35 (by decide) (?_ : WM _ 36 _ _ _ _)
        refine r_goto 40 d_Mo_laysRest_36 rfl ?_
        refine r_istore_n (ls' := [(3, vI 1), (0, vR 35), (1, vI x1), (2, vI x2)]) d_Mo_laysRest_40 rfl (by decide) rfl (?_ : WM _ 41 _ _ _ _)
        refine r_aload_n d_Mo_laysRest_41 rfl (?_ : WM _ 42 _ _ _ _)
        refine r_getR (k := 35) (j := 19) (q := 44) (by decide) rfl clk_11 (by decide) (qm_5 (i := 55) rfl rfl) rfl d_Mo_laysRest_42 (?_ : WM _ 45 _ _ _ _)
        refine r_iload_n d_Mo_laysRest_45 rfl (?_ : WM _ 46 _ _ _ _)
        refine r_iload_n d_Mo_laysRest_46 rfl (?_ : WM _ 47 _ _ _ _)
        refine r_if_eq 59 d_Mo_laysRest_47 rfl ⟨fun hc => absurd hc (by decide), fun hc => (?_ : WM _ 50 _ _ _ _)⟩
        refine r_aload_n d_Mo_laysRest_50 rfl (?_ : WM _ 51 _ _ _ _)
        refine r_getI (k := 35) (j := 20) 20 (by decide) rfl clk_11 (by decide) (qm_5 (i := 56) rfl rfl) rfl rfl d_Mo_laysRest_51 (y := (σ11 35 20)) rfl (?_ : WM _ 54 _ _ _ _)
        refine r_iconst d_Mo_laysRest_54 (by decide) (?_ : WM _ 55 _ _ _ _)
        obtain ⟨h18, h⟩ := h
        refine r_iadd d_Mo_laysRest_55 h18 (?_ : WM _ 56 _ _ _ _)
        refine r_goto 60 d_Mo_laysRest_56 rfl ?_
        obtain ⟨h19, h⟩ := h
        obtain ⟨h20, h⟩ := h
        refine r_iast (k := 44) (n := 48) (by decide) rfl d_Mo_laysRest_60 h19 h20 (?_ : WM _ 61 _ _ _ _)
        refine r_aload_n d_Mo_laysRest_61 rfl (?_ : WM _ 62 _ _ _ _)
        refine r_dup d_Mo_laysRest_62 rfl (?_ : WM _ 63 _ _ _ _)
        refine r_getI (k := 35) (j := 20) 20 (by decide) rfl clk_11 (by decide) (qm_5 (i := 56) rfl rfl) rfl rfl d_Mo_laysRest_63 (y := (σ11 35 20)) (ups_c (by decide)) (?_ : WM _ 66 _ _ _ _)
        refine r_iload_n d_Mo_laysRest_66 rfl (?_ : WM _ 67 _ _ _ _)
        refine r_if_eq 78 d_Mo_laysRest_67 rfl ⟨fun hc => absurd hc (by decide), fun hc => (?_ : WM _ 70 _ _ _ _)⟩
        refine r_aload_n d_Mo_laysRest_70 rfl (?_ : WM _ 71 _ _ _ _)
        refine r_iload_n d_Mo_laysRest_71 rfl (?_ : WM _ 72 _ _ _ _)
        refine r_callV (ν := M_Mo_coinsOf) (k := 35) [vI x2] ok_M_Mo_coinsOf okv_M_Mo_coinsOf (by decide) rfl rfl rfl (qm_6 (i := 7) rfl rfl) np_M_Mo_coinsOf rfl (by decide) (Nat.le_of_ble_eq_true rfl) rfl d_Mo_laysRest_72 (CI.k h (fun v22 σ21 h => (?_ : WM _ 75 _ _ _ _)))
        refine r_goto 79 d_Mo_laysRest_75 rfl ?_
        obtain ⟨h23, h⟩ := h
        refine r_iadd d_Mo_laysRest_79 h23 (?_ : WM _ 80 _ _ _ _)
        refine r_put (k := 35) (j := 20) 20 (by decide) rfl clk_11 (by decide) (qm_5 (i := 56) rfl rfl) rfl rfl rfl tyX11_ok rfl nmX11 d_Mo_laysRest_80 (?_ : WM _ 83 _ _ _ _)
        obtain ⟨h24, h⟩ := h
        refine r_iinc (ls' := [(2, vI (x2 + 1)), (3, vI 1), (0, vR 35), (1, vI x1)]) d_Mo_laysRest_83 rfl h24 (by decide) rfl (?_ : WM _ 86 _ _ _ _)
        refine r_goto 7 d_Mo_laysRest_86 rfl ?_
        refine r_pick (ls' := [(0, vR 35), (1, vI x1), (2, vI (x2 + 1))]) [2, 3, 0] rfl ?_
        exact h
set_option maxRecDepth 20000 in
theorem e_Mo_ownerOf {K : Int → St → Prop} {σ : St} (x1 : Int) (h : WM M_Mo_ownerOf 2 [(0, vR 35), (1, vI x1), (2, vI 0)] [] σ (QI K)) : CI M_Mo_ownerOf [vR 35, vI x1] σ K := by
  refine Con.of ok_M_Mo_ownerOf (ls := [(0, vR 35), (1, vI x1)]) rfl (Nat.le_of_ble_eq_true rfl) ?_
  refine r_iconst d_Mo_ownerOf_0 (by decide) (?_ : WM _ 1 _ _ _ _)
  refine r_istore_n (ls' := [(2, vI 0), (0, vR 35), (1, vI x1)]) d_Mo_ownerOf_1 rfl (by decide) rfl (?_ : WM _ 2 _ _ _ _)
  refine r_pick (ls' := [(0, vR 35), (1, vI x1), (2, vI 0)]) [1, 2, 0] rfl ?_
  exact h
set_option maxRecDepth 20000 in
theorem l_Mo_ownerOf_1 {K : Int → St → Prop} {σ : St} (x1 : Int) (x2 : Int) (h : (0 ≤ x2) ∧ (x2 < 48) ∧ ((σ 44 x2) = 0 → (inR (x2 + 1)) ∧ WM M_Mo_ownerOf 2 [(0, vR 35), (1, vI x1), (2, vI (x2 + 1))] [] σ (QI K)) ∧ (¬ (σ 44 x2) = 0 → CI M_Mo_coinsOf [vR 35, vI x2] σ (fun v6 σ5 => (inR ((σ 44 x2) + v6)) ∧ (x1 < ((σ 44 x2) + v6) → K x2 σ5) ∧ (¬ x1 < ((σ 44 x2) + v6) → (inR (x2 + 1)) ∧ WM M_Mo_ownerOf 2 [(0, vR 35), (1, vI x1), (2, vI (x2 + 1))] [] σ5 (QI K))))) : WM M_Mo_ownerOf 2 [(0, vR 35), (1, vI x1), (2, vI x2)] [] σ (QI K) := by
  refine r_aload_n d_Mo_ownerOf_2 rfl (?_ : WM _ 3 _ _ _ _)
  refine r_getR (k := 35) (j := 19) (q := 44) (by decide) rfl clk_11 (by decide) (qm_5 (i := 55) rfl rfl) rfl d_Mo_ownerOf_3 (?_ : WM _ 6 _ _ _ _)
  refine r_iload_n d_Mo_ownerOf_6 rfl (?_ : WM _ 7 _ _ _ _)
  obtain ⟨h1, h⟩ := h
  obtain ⟨h2, h⟩ := h
  refine r_iald (k := 44) (n := 48) (by decide) rfl d_Mo_ownerOf_7 h1 h2 (y := (σ 44 x2)) rfl (?_ : WM _ 8 _ _ _ _)
  refine r_if_eq 27 d_Mo_ownerOf_8 rfl ⟨fun c3 => (?_ : WM _ 27 _ _ _ _), fun c3 => (?_ : WM _ 11 _ _ _ _)⟩
  · replace h := h.1 c3
    obtain ⟨h4, h⟩ := h
    refine r_iinc (ls' := [(2, vI (x2 + 1)), (0, vR 35), (1, vI x1)]) d_Mo_ownerOf_27 rfl h4 (by decide) rfl (?_ : WM _ 30 _ _ _ _)
    refine r_goto 2 d_Mo_ownerOf_30 rfl ?_
    refine r_pick (ls' := [(0, vR 35), (1, vI x1), (2, vI (x2 + 1))]) [1, 2, 0] rfl ?_
    exact h
  · replace h := h.2 c3
    refine r_iload_n d_Mo_ownerOf_11 rfl (?_ : WM _ 12 _ _ _ _)
    refine r_aload_n d_Mo_ownerOf_12 rfl (?_ : WM _ 13 _ _ _ _)
    refine r_getR (k := 35) (j := 19) (q := 44) (by decide) rfl clk_11 (by decide) (qm_5 (i := 55) rfl rfl) rfl d_Mo_ownerOf_13 (?_ : WM _ 16 _ _ _ _)
    refine r_iload_n d_Mo_ownerOf_16 rfl (?_ : WM _ 17 _ _ _ _)
    refine r_iald (k := 44) (n := 48) (by decide) rfl d_Mo_ownerOf_17 h1 h2 (y := (σ 44 x2)) rfl (?_ : WM _ 18 _ _ _ _)
    refine r_aload_n d_Mo_ownerOf_18 rfl (?_ : WM _ 19 _ _ _ _)
    refine r_iload_n d_Mo_ownerOf_19 rfl (?_ : WM _ 20 _ _ _ _)
    refine r_callV (ν := M_Mo_coinsOf) (k := 35) [vI x2] ok_M_Mo_coinsOf okv_M_Mo_coinsOf (by decide) rfl rfl rfl (qm_6 (i := 7) rfl rfl) np_M_Mo_coinsOf rfl (by decide) (Nat.le_of_ble_eq_true rfl) rfl d_Mo_ownerOf_20 (CI.k h (fun v6 σ5 h => (?_ : WM _ 23 _ _ _ _)))
    obtain ⟨h7, h⟩ := h
    refine r_iadd d_Mo_ownerOf_23 h7 (?_ : WM _ 24 _ _ _ _)
    refine r_icmp_lt 33 d_Mo_ownerOf_24 rfl ⟨fun c8 => (?_ : WM _ 33 _ _ _ _), fun c8 => (?_ : WM _ 27 _ _ _ _)⟩
    · replace h := h.1 c8
      refine r_iload_n d_Mo_ownerOf_33 rfl (?_ : WM _ 34 _ _ _ _)
      exact r_ireturn rfl d_Mo_ownerOf_34 h
    · replace h := h.2 c8
      obtain ⟨h9, h⟩ := h
      refine r_iinc (ls' := [(2, vI (x2 + 1)), (0, vR 35), (1, vI x1)]) d_Mo_ownerOf_27 rfl h9 (by decide) rfl (?_ : WM _ 30 _ _ _ _)
      refine r_goto 2 d_Mo_ownerOf_30 rfl ?_
      refine r_pick (ls' := [(0, vR 35), (1, vI x1), (2, vI (x2 + 1))]) [1, 2, 0] rfl ?_
      exact h
set_option maxRecDepth 20000 in
theorem e_Mo_among {K : Int → St → Prop} {σ : St} (x1 : Int) (x2 : Int) (h : ((-1) ≤ x1 → CV M_Mo_laysHits [vR 35] σ (fun σ2 => WM M_Mo_among 17 [(0, vR 35), (1, vI x1), (2, vI x2), (3, vI 0), (4, vI 0)] [] σ2 (QI K))) ∧ (¬ (-1) ≤ x1 → K (-3) σ)) : CI M_Mo_among [vR 35, vI x1, vI x2] σ K := by
  refine Con.of ok_M_Mo_among (ls := [(0, vR 35), (1, vI x1), (2, vI x2)]) rfl (Nat.le_of_ble_eq_true rfl) ?_
  refine r_iload_n d_Mo_among_0 rfl (?_ : WM _ 1 _ _ _ _)
  refine r_iconst d_Mo_among_1 (by decide) (?_ : WM _ 2 _ _ _ _)
  refine r_icmp_ge 8 d_Mo_among_2 rfl ⟨fun c1 => (?_ : WM _ 8 _ _ _ _), fun c1 => (?_ : WM _ 5 _ _ _ _)⟩
  · replace h := h.1 c1
    refine r_aload_n d_Mo_among_8 rfl (?_ : WM _ 9 _ _ _ _)
    refine r_callV (ν := M_Mo_laysHits) (k := 35) [] ok_M_Mo_laysHits okv_M_Mo_laysHits (by decide) rfl rfl rfl (qm_6 (i := 89) rfl rfl) np_M_Mo_laysHits rfl (by decide) (Nat.le_of_ble_eq_true rfl) rfl d_Mo_among_9 (CV.k h (fun σ2 h => (?_ : WM _ 12 _ _ _ _)))
    refine r_iconst d_Mo_among_12 (by decide) (?_ : WM _ 13 _ _ _ _)
    refine r_istore_n (ls' := [(3, vI 0), (0, vR 35), (1, vI x1), (2, vI x2)]) d_Mo_among_13 rfl (by decide) rfl (?_ : WM _ 14 _ _ _ _)
    refine r_iconst d_Mo_among_14 (by decide) (?_ : WM _ 15 _ _ _ _)
    refine r_istore (ls' := [(4, vI 0), (3, vI 0), (0, vR 35), (1, vI x1), (2, vI x2)]) d_Mo_among_15 (by decide) rfl (?_ : WM _ 17 _ _ _ _)
    refine r_pick (ls' := [(0, vR 35), (1, vI x1), (2, vI x2), (3, vI 0), (4, vI 0)]) [2, 3, 4, 1, 0] rfl ?_
    exact h
  · replace h := h.2 c1
    refine r_bipush d_Mo_among_5 (by decide) (by decide) (?_ : WM _ 7 _ _ _ _)
    exact r_ireturn rfl d_Mo_among_7 h
set_option maxRecDepth 20000 in
theorem l_Mo_among_1 {K : Int → St → Prop} {σ : St} (x1 : Int) (x2 : Int) (x3 : Int) (x4 : Int) (h : ((σ 35 6) ≤ x4 → (¬ x1 = (-1) → K (-1) σ) ∧ (x1 = (-1) → K x3 σ)) ∧ (¬ (σ 35 6) ≤ x4 → CI M_Mo_isSo [vR 35, vI x4, vI x2] σ (fun v7 σ6 => (¬ v7 = 0 → (¬ x3 = x1 → (inR (x3 + 1)) ∧ (inR (x4 + 1)) ∧ WM M_Mo_among 17 [(0, vR 35), (1, vI x1), (2, vI x2), (3, vI (x3 + 1)), (4, vI (x4 + 1))] [] σ6 (QI K)) ∧ (x3 = x1 → K x4 σ6)) ∧ (v7 = 0 → (inR (x4 + 1)) ∧ WM M_Mo_among 17 [(0, vR 35), (1, vI x1), (2, vI x2), (3, vI x3), (4, vI (x4 + 1))] [] σ6 (QI K))))) : WM M_Mo_among 17 [(0, vR 35), (1, vI x1), (2, vI x2), (3, vI x3), (4, vI x4)] [] σ (QI K) := by
  refine r_iload d_Mo_among_17 rfl (?_ : WM _ 19 _ _ _ _)
  refine r_aload_n d_Mo_among_19 rfl (?_ : WM _ 20 _ _ _ _)
  refine r_getI (k := 35) (j := 6) 6 (by decide) rfl clk_11 (by decide) (qm_5 (i := 42) rfl rfl) rfl rfl d_Mo_among_20 (y := (σ 35 6)) rfl (?_ : WM _ 23 _ _ _ _)
  refine r_icmp_ge 56 d_Mo_among_23 rfl ⟨fun c4 => (?_ : WM _ 56 _ _ _ _), fun c4 => (?_ : WM _ 26 _ _ _ _)⟩
  · replace h := h.1 c4
    refine r_iload_n d_Mo_among_56 rfl (?_ : WM _ 57 _ _ _ _)
    refine r_iconst d_Mo_among_57 (by decide) (?_ : WM _ 58 _ _ _ _)
    refine r_icmp_ne 65 d_Mo_among_58 rfl ⟨fun c5 => (?_ : WM _ 65 _ _ _ _), fun c5 => (?_ : WM _ 61 _ _ _ _)⟩
    · replace h := h.1 c5
      refine r_iconst d_Mo_among_65 (by decide) (?_ : WM _ 66 _ _ _ _)
      exact r_ireturn rfl d_Mo_among_66 h
    · replace h := h.2 c5
      refine r_iload_n d_Mo_among_61 rfl (?_ : WM _ 62 _ _ _ _)
      refine r_goto 66 d_Mo_among_62 rfl ?_
      exact r_ireturn rfl d_Mo_among_66 h
  · replace h := h.2 c4
    refine r_aload_n d_Mo_among_26 rfl (?_ : WM _ 27 _ _ _ _)
    refine r_iload d_Mo_among_27 rfl (?_ : WM _ 29 _ _ _ _)
    refine r_iload_n d_Mo_among_29 rfl (?_ : WM _ 30 _ _ _ _)
    refine r_callV (ν := M_Mo_isSo) (k := 35) [vI x4, vI x2] ok_M_Mo_isSo okv_M_Mo_isSo (by decide) rfl rfl rfl (qm_6 (i := 129) rfl rfl) np_M_Mo_isSo rfl (by decide) (Nat.le_of_ble_eq_true rfl) rfl d_Mo_among_30 (CI.k h (fun v7 σ6 h => (?_ : WM _ 33 _ _ _ _)))
    refine r_if_ne 39 d_Mo_among_33 rfl ⟨fun c8 => (?_ : WM _ 39 _ _ _ _), fun c8 => (?_ : WM _ 36 _ _ _ _)⟩
    · replace h := h.1 c8
      refine r_iload_n d_Mo_among_39 rfl (?_ : WM _ 40 _ _ _ _)
      refine r_iload_n d_Mo_among_40 rfl (?_ : WM _ 41 _ _ _ _)
      refine r_icmp_ne 47 d_Mo_among_41 rfl ⟨fun c9 => (?_ : WM _ 47 _ _ _ _), fun c9 => (?_ : WM _ 44 _ _ _ _)⟩
      · replace h := h.1 c9
        obtain ⟨h10, h⟩ := h
        refine r_iinc (ls' := [(3, vI (x3 + 1)), (0, vR 35), (1, vI x1), (2, vI x2), (4, vI x4)]) d_Mo_among_47 rfl h10 (by decide) rfl (?_ : WM _ 50 _ _ _ _)
        obtain ⟨h11, h⟩ := h
        refine r_iinc (ls' := [(4, vI (x4 + 1)), (3, vI (x3 + 1)), (0, vR 35), (1, vI x1), (2, vI x2)]) d_Mo_among_50 rfl h11 (by decide) rfl (?_ : WM _ 53 _ _ _ _)
        refine r_goto 17 d_Mo_among_53 rfl ?_
        refine r_pick (ls' := [(0, vR 35), (1, vI x1), (2, vI x2), (3, vI (x3 + 1)), (4, vI (x4 + 1))]) [2, 3, 4, 1, 0] rfl ?_
        exact h
      · replace h := h.2 c9
        refine r_iload d_Mo_among_44 rfl (?_ : WM _ 46 _ _ _ _)
        exact r_ireturn rfl d_Mo_among_46 h
    · replace h := h.2 c8
      refine r_goto 50 d_Mo_among_36 rfl ?_
      obtain ⟨h12, h⟩ := h
      refine r_iinc (ls' := [(4, vI (x4 + 1)), (0, vR 35), (1, vI x1), (2, vI x2), (3, vI x3)]) d_Mo_among_50 rfl h12 (by decide) rfl (?_ : WM _ 53 _ _ _ _)
      refine r_goto 17 d_Mo_among_53 rfl ?_
      refine r_pick (ls' := [(0, vR 35), (1, vI x1), (2, vI x2), (3, vI x3), (4, vI (x4 + 1))]) [1, 2, 3, 4, 0] rfl ?_
      exact h
set_option maxRecDepth 20000 in
theorem e_Mo_partOf {K : Int → St → Prop} {σ : St} (x1 : Int) (h : CI M_Mo_taintOf [vR 35, vI x1] σ (fun v2 σ1 => (inL (v2 * (σ1 35 9))) ∧ (inL (10000 * (σ1 35 10))) ∧ ((10000 * (σ1 35 10)) ≠ 0) ∧ (inL ((v2 * (σ1 35 9)).tdiv (10000 * (σ1 35 10)))) ∧ (inR ((v2 * (σ1 35 9)).tdiv (10000 * (σ1 35 10)))) ∧ K ((v2 * (σ1 35 9)).tdiv (10000 * (σ1 35 10))) σ1)) : CI M_Mo_partOf [vR 35, vI x1] σ K := by
  refine Con.of ok_M_Mo_partOf (ls := [(0, vR 35), (1, vI x1)]) rfl (Nat.le_of_ble_eq_true rfl) ?_
  refine r_aload_n d_Mo_partOf_0 rfl (?_ : WM _ 1 _ _ _ _)
  refine r_iload_n d_Mo_partOf_1 rfl (?_ : WM _ 2 _ _ _ _)
  refine r_callV (ν := M_Mo_taintOf) (k := 35) [vI x1] ok_M_Mo_taintOf okv_M_Mo_taintOf (by decide) rfl rfl rfl (qm_6 (i := 105) rfl rfl) np_M_Mo_taintOf rfl (by decide) (Nat.le_of_ble_eq_true rfl) rfl d_Mo_partOf_2 (CI.k h (fun v2 σ1 h => (?_ : WM _ 5 _ _ _ _)))
  refine r_i2l d_Mo_partOf_5 (?_ : WM _ 6 _ _ _ _)
  refine r_aload_n d_Mo_partOf_6 rfl (?_ : WM _ 7 _ _ _ _)
  refine r_getI (k := 35) (j := 9) 9 (by decide) rfl clk_11 (by decide) (qm_5 (i := 45) rfl rfl) rfl rfl d_Mo_partOf_7 (y := (σ1 35 9)) rfl (?_ : WM _ 10 _ _ _ _)
  refine r_i2l d_Mo_partOf_10 (?_ : WM _ 11 _ _ _ _)
  obtain ⟨h3, h⟩ := h
  refine r_lmul d_Mo_partOf_11 h3 (?_ : WM _ 12 _ _ _ _)
  refine r_ldc2 10000 d_Mo_partOf_12 (qm_6 (i := 166) rfl rfl) (by decide) (by decide) (?_ : WM _ 15 _ _ _ _)
  refine r_aload_n d_Mo_partOf_15 rfl (?_ : WM _ 16 _ _ _ _)
  refine r_getI (k := 35) (j := 10) 10 (by decide) rfl clk_11 (by decide) (qm_5 (i := 46) rfl rfl) rfl rfl d_Mo_partOf_16 (y := (σ1 35 10)) rfl (?_ : WM _ 19 _ _ _ _)
  refine r_i2l d_Mo_partOf_19 (?_ : WM _ 20 _ _ _ _)
  obtain ⟨h4, h⟩ := h
  refine r_lmul d_Mo_partOf_20 h4 (?_ : WM _ 21 _ _ _ _)
  obtain ⟨h5, h⟩ := h
  obtain ⟨h6, h⟩ := h
  refine r_ldiv d_Mo_partOf_21 h5 h6 (?_ : WM _ 22 _ _ _ _)
  obtain ⟨h7, h⟩ := h
  refine r_l2i d_Mo_partOf_22 h7 (?_ : WM _ 23 _ _ _ _)
  exact r_ireturn rfl d_Mo_partOf_23 h
set_option maxRecDepth 20000 in
theorem e_Mo_tellsNumber {K : St → Prop} {σ : St} (x1 : Int) (h : WM M_Mo_tellsNumber 2 [(0, vR 35), (1, vI x1), (2, vI 1)] [] σ (QV K)) : CV M_Mo_tellsNumber [vR 35, vI x1] σ K := by
  refine Con.of ok_M_Mo_tellsNumber (ls := [(0, vR 35), (1, vI x1)]) rfl (Nat.le_of_ble_eq_true rfl) ?_
  refine r_iconst d_Mo_tellsNumber_0 (by decide) (?_ : WM _ 1 _ _ _ _)
  refine r_istore_n (ls' := [(2, vI 1), (0, vR 35), (1, vI x1)]) d_Mo_tellsNumber_1 rfl (by decide) rfl (?_ : WM _ 2 _ _ _ _)
  refine r_pick (ls' := [(0, vR 35), (1, vI x1), (2, vI 1)]) [1, 2, 0] rfl ?_
  exact h
set_option maxRecDepth 20000 in
theorem l_Mo_tellsNumber_1 {K : St → Prop} {σ : St} (x1 : Int) (x2 : Int) (h : (0 ≤ x1) ∧ (0 < x2) ∧ ((x1 / x2) ≤ 9 → WM M_Mo_tellsNumber 18 [(0, vR 35), (1, vI x1), (2, vI x2)] [] σ (QV K)) ∧ (¬ (x1 / x2) ≤ 9 → (inR (x2 * 10)) ∧ WM M_Mo_tellsNumber 2 [(0, vR 35), (1, vI x1), (2, vI (x2 * 10))] [] σ (QV K))) : WM M_Mo_tellsNumber 2 [(0, vR 35), (1, vI x1), (2, vI x2)] [] σ (QV K) := by
  refine r_iload_n d_Mo_tellsNumber_2 rfl (?_ : WM _ 3 _ _ _ _)
  refine r_iload_n d_Mo_tellsNumber_3 rfl (?_ : WM _ 4 _ _ _ _)
  obtain ⟨h1, h⟩ := h
  obtain ⟨h2, h⟩ := h
  refine r_idivn d_Mo_tellsNumber_4 h1 h2 (?_ : WM _ 5 _ _ _ _)
  refine r_bipush d_Mo_tellsNumber_5 (by decide) (by decide) (?_ : WM _ 7 _ _ _ _)
  refine r_icmp_le 18 d_Mo_tellsNumber_7 rfl ⟨fun c3 => (?_ : WM _ 18 _ _ _ _), fun c3 => (?_ : WM _ 10 _ _ _ _)⟩
  · replace h := h.1 c3
    exact h
  · replace h := h.2 c3
    refine r_iload_n d_Mo_tellsNumber_10 rfl (?_ : WM _ 11 _ _ _ _)
    refine r_bipush d_Mo_tellsNumber_11 (by decide) (by decide) (?_ : WM _ 13 _ _ _ _)
    obtain ⟨h4, h⟩ := h
    refine r_imul d_Mo_tellsNumber_13 h4 (?_ : WM _ 14 _ _ _ _)
    refine r_istore_n (ls' := [(2, vI (x2 * 10)), (0, vR 35), (1, vI x1)]) d_Mo_tellsNumber_14 rfl (by decide) rfl (?_ : WM _ 15 _ _ _ _)
    refine r_goto 2 d_Mo_tellsNumber_15 rfl ?_
    refine r_pick (ls' := [(0, vR 35), (1, vI x1), (2, vI (x2 * 10))]) [1, 2, 0] rfl ?_
    exact h
set_option maxRecDepth 20000 in
theorem l_Mo_tellsNumber_2 {K : St → Prop} {σ : St} (x1 : Int) (x2 : Int) (h : (x2 ≤ 0 → K σ) ∧ (¬ x2 ≤ 0 → (0 ≤ x1) ∧ (0 < x2) ∧ (0 ≤ (x1 / x2)) ∧ (inR (48 + ((x1 / x2) % 10))) ∧ CV M_Mo_tells [vR 35, vI (48 + ((x1 / x2) % 10))] σ (fun σ10 => (0 ≤ x2) ∧ WM M_Mo_tellsNumber 18 [(0, vR 35), (1, vI x1), (2, vI (x2 / 10))] [] σ10 (QV K)))) : WM M_Mo_tellsNumber 18 [(0, vR 35), (1, vI x1), (2, vI x2)] [] σ (QV K) := by
  refine r_iload_n d_Mo_tellsNumber_18 rfl (?_ : WM _ 19 _ _ _ _)
  refine r_if_le 43 d_Mo_tellsNumber_19 rfl ⟨fun c5 => (?_ : WM _ 43 _ _ _ _), fun c5 => (?_ : WM _ 22 _ _ _ _)⟩
  · replace h := h.1 c5
    exact r_return rfl d_Mo_tellsNumber_43 h
  · replace h := h.2 c5
    refine r_aload_n d_Mo_tellsNumber_22 rfl (?_ : WM _ 23 _ _ _ _)
    refine r_bipush d_Mo_tellsNumber_23 (by decide) (by decide) (?_ : WM _ 25 _ _ _ _)
    refine r_iload_n d_Mo_tellsNumber_25 rfl (?_ : WM _ 26 _ _ _ _)
    refine r_iload_n d_Mo_tellsNumber_26 rfl (?_ : WM _ 27 _ _ _ _)
    obtain ⟨h6, h⟩ := h
    obtain ⟨h7, h⟩ := h
    refine r_idivn d_Mo_tellsNumber_27 h6 h7 (?_ : WM _ 28 _ _ _ _)
    refine r_bipush d_Mo_tellsNumber_28 (by decide) (by decide) (?_ : WM _ 30 _ _ _ _)
    obtain ⟨h8, h⟩ := h
    refine r_iremn d_Mo_tellsNumber_30 h8 (by decide) (?_ : WM _ 31 _ _ _ _)
    obtain ⟨h9, h⟩ := h
    refine r_iadd d_Mo_tellsNumber_31 h9 (?_ : WM _ 32 _ _ _ _)
    refine r_callV (ν := M_Mo_tells) (k := 35) [vI (48 + ((x1 / x2) % 10))] ok_M_Mo_tells okv_M_Mo_tells (by decide) rfl rfl rfl (qm_6 (i := 153) rfl rfl) np_M_Mo_tells rfl (by decide) (Nat.le_of_ble_eq_true rfl) rfl d_Mo_tellsNumber_32 (CV.k h (fun σ10 h => (?_ : WM _ 35 _ _ _ _)))
    refine r_iload_n d_Mo_tellsNumber_35 rfl (?_ : WM _ 36 _ _ _ _)
    refine r_bipush d_Mo_tellsNumber_36 (by decide) (by decide) (?_ : WM _ 38 _ _ _ _)
    obtain ⟨h12, h⟩ := h
    refine r_idivn d_Mo_tellsNumber_38 h12 (by decide) (?_ : WM _ 39 _ _ _ _)
    refine r_istore_n (ls' := [(2, vI (x2 / 10)), (0, vR 35), (1, vI x1)]) d_Mo_tellsNumber_39 rfl (by decide) rfl (?_ : WM _ 40 _ _ _ _)
    refine r_goto 18 d_Mo_tellsNumber_40 rfl ?_
    refine r_pick (ls' := [(0, vR 35), (1, vI x1), (2, vI (x2 / 10))]) [1, 2, 0] rfl ?_
    exact h
set_option maxRecDepth 20000 in
theorem e_Mo_tells {K : St → Prop} {σ : St} (x1 : Int) (h : (0 ≤ (σ 35 30)) ∧ ((σ 35 30) < 60) ∧ (inR ((σ 35 30) + 1)) ∧ K (ups (ups σ 50 (σ 35 30) x1) 35 30 ((σ 35 30) + 1))) : CV M_Mo_tells [vR 35, vI x1] σ K := by
  refine Con.of ok_M_Mo_tells (ls := [(0, vR 35), (1, vI x1)]) rfl (Nat.le_of_ble_eq_true rfl) ?_
  refine r_aload_n d_Mo_tells_0 rfl (?_ : WM _ 1 _ _ _ _)
  refine r_getR (k := 35) (j := 29) (q := 50) (by decide) rfl clk_11 (by decide) (qm_5 (i := 65) rfl rfl) rfl d_Mo_tells_1 (?_ : WM _ 4 _ _ _ _)
  refine r_aload_n d_Mo_tells_4 rfl (?_ : WM _ 5 _ _ _ _)
  refine r_getI (k := 35) (j := 30) 30 (by decide) rfl clk_11 (by decide) (qm_5 (i := 66) rfl rfl) rfl rfl d_Mo_tells_5 (y := (σ 35 30)) rfl (?_ : WM _ 8 _ _ _ _)
  refine r_iload_n d_Mo_tells_8 rfl (?_ : WM _ 9 _ _ _ _)
  obtain ⟨h1, h⟩ := h
  obtain ⟨h2, h⟩ := h
  refine r_iast (k := 50) (n := 60) (by decide) rfl d_Mo_tells_9 h1 h2 (?_ : WM _ 10 _ _ _ _)
  refine r_aload_n d_Mo_tells_10 rfl (?_ : WM _ 11 _ _ _ _)
  refine r_dup d_Mo_tells_11 rfl (?_ : WM _ 12 _ _ _ _)
  refine r_getI (k := 35) (j := 30) 30 (by decide) rfl clk_11 (by decide) (qm_5 (i := 66) rfl rfl) rfl rfl d_Mo_tells_12 (y := (σ 35 30)) (ups_c (by decide)) (?_ : WM _ 15 _ _ _ _)
  refine r_iconst d_Mo_tells_15 (by decide) (?_ : WM _ 16 _ _ _ _)
  obtain ⟨h3, h⟩ := h
  refine r_iadd d_Mo_tells_16 h3 (?_ : WM _ 17 _ _ _ _)
  refine r_put (k := 35) (j := 30) 30 (by decide) rfl clk_11 (by decide) (qm_5 (i := 66) rfl rfl) rfl rfl rfl tyX11_ok rfl nmX11 d_Mo_tells_17 (?_ : WM _ 20 _ _ _ _)
  exact r_return rfl d_Mo_tells_20 h
set_option maxRecDepth 20000 in
theorem e_Mo_upperOf {K : Int → St → Prop} {σ : St} (x1 : Int) (x2 : Int) (h : (x2 < x1 → (¬ x1 = (σ 35 27) → WM M_Mo_upperOf 31 [(0, vR 35), (1, vI x1), (2, vI x2), (3, vI 0)] [] σ (QI K)) ∧ (x1 = (σ 35 27) → ((σ 36 1) = (σ 35 28) → (0 ≤ x2) ∧ (x2 < 401) ∧ (¬ (σ 49 x2) = 0 → K (σ 49 x2) σ) ∧ ((σ 49 x2) = 0 → CI M_Mo_halved [vR 35, vI x1, vI x2] σ (fun v8 σ7 => K v8 (ups σ7 49 x2 v8)))) ∧ (¬ (σ 36 1) = (σ 35 28) → WM M_Mo_upperOf 31 [(0, vR 35), (1, vI x1), (2, vI x2), (3, vI 0)] [] σ (QI K)))) ∧ (¬ x2 < x1 → K 1000000 σ)) : CI M_Mo_upperOf [vR 35, vI x1, vI x2] σ K := by
  refine Con.of ok_M_Mo_upperOf (ls := [(0, vR 35), (1, vI x1), (2, vI x2)]) rfl (Nat.le_of_ble_eq_true rfl) ?_
  refine r_iload_n d_Mo_upperOf_0 rfl (?_ : WM _ 1 _ _ _ _)
  refine r_iload_n d_Mo_upperOf_1 rfl (?_ : WM _ 2 _ _ _ _)
  refine r_icmp_lt 8 d_Mo_upperOf_2 rfl ⟨fun c1 => (?_ : WM _ 8 _ _ _ _), fun c1 => (?_ : WM _ 5 _ _ _ _)⟩
  · replace h := h.1 c1
    refine r_iload_n d_Mo_upperOf_8 rfl (?_ : WM _ 9 _ _ _ _)
    refine r_aload_n d_Mo_upperOf_9 rfl (?_ : WM _ 10 _ _ _ _)
    refine r_getI (k := 35) (j := 27) 27 (by decide) rfl clk_11 (by decide) (qm_5 (i := 63) rfl rfl) rfl rfl d_Mo_upperOf_10 (y := (σ 35 27)) rfl (?_ : WM _ 13 _ _ _ _)
    refine r_icmp_ne 29 d_Mo_upperOf_13 rfl ⟨fun c2 => (?_ : WM _ 29 _ _ _ _), fun c2 => (?_ : WM _ 16 _ _ _ _)⟩
    · replace h := h.1 c2
      refine r_iconst d_Mo_upperOf_29 (by decide) (?_ : WM _ 30 _ _ _ _)
      refine r_istore_n (ls' := [(3, vI 0), (0, vR 35), (1, vI x1), (2, vI x2)]) d_Mo_upperOf_30 rfl (by decide) rfl (?_ : WM _ 31 _ _ _ _)
      refine r_pick (ls' := [(0, vR 35), (1, vI x1), (2, vI x2), (3, vI 0)]) [1, 2, 3, 0] rfl ?_
      exact h
    · replace h := h.2 c2
      refine r_aload_n d_Mo_upperOf_16 rfl (?_ : WM _ 17 _ _ _ _)
      refine r_getR (k := 35) (j := 1) (q := 36) (by decide) rfl clk_11 (by decide) (qm_5 (i := 37) rfl rfl) rfl d_Mo_upperOf_17 (?_ : WM _ 20 _ _ _ _)
      refine r_iconst d_Mo_upperOf_20 (by decide) (?_ : WM _ 21 _ _ _ _)
      refine r_iald (k := 36) (n := 5) (by decide) rfl d_Mo_upperOf_21 (by decide) (by decide) (y := (σ 36 1)) rfl (?_ : WM _ 22 _ _ _ _)
      refine r_aload_n d_Mo_upperOf_22 rfl (?_ : WM _ 23 _ _ _ _)
      refine r_getI (k := 35) (j := 28) 28 (by decide) rfl clk_11 (by decide) (qm_5 (i := 64) rfl rfl) rfl rfl d_Mo_upperOf_23 (y := (σ 35 28)) rfl (?_ : WM _ 26 _ _ _ _)
      refine r_icmp_eq 66 d_Mo_upperOf_26 rfl ⟨fun c3 => (?_ : WM _ 66 _ _ _ _), fun c3 => (?_ : WM _ 29 _ _ _ _)⟩
      · replace h := h.1 c3
        refine r_aload_n d_Mo_upperOf_66 rfl (?_ : WM _ 67 _ _ _ _)
        refine r_getR (k := 35) (j := 26) (q := 49) (by decide) rfl clk_11 (by decide) (qm_5 (i := 62) rfl rfl) rfl d_Mo_upperOf_67 (?_ : WM _ 70 _ _ _ _)
        refine r_iload_n d_Mo_upperOf_70 rfl (?_ : WM _ 71 _ _ _ _)
        obtain ⟨h4, h⟩ := h
        obtain ⟨h5, h⟩ := h
        refine r_iald (k := 49) (n := 401) (by decide) rfl d_Mo_upperOf_71 h4 h5 (y := (σ 49 x2)) rfl (?_ : WM _ 72 _ _ _ _)
        refine r_if_ne 87 d_Mo_upperOf_72 rfl ⟨fun c6 => (?_ : WM _ 87 _ _ _ _), fun c6 => (?_ : WM _ 75 _ _ _ _)⟩
        · replace h := h.1 c6
          refine r_aload_n d_Mo_upperOf_87 rfl (?_ : WM _ 88 _ _ _ _)
          refine r_getR (k := 35) (j := 26) (q := 49) (by decide) rfl clk_11 (by decide) (qm_5 (i := 62) rfl rfl) rfl d_Mo_upperOf_88 (?_ : WM _ 91 _ _ _ _)
          refine r_iload_n d_Mo_upperOf_91 rfl (?_ : WM _ 92 _ _ _ _)
          refine r_iald (k := 49) (n := 401) (by decide) rfl d_Mo_upperOf_92 h4 h5 (y := (σ 49 x2)) rfl (?_ : WM _ 93 _ _ _ _)
          exact r_ireturn rfl d_Mo_upperOf_93 h
        · replace h := h.2 c6
          refine r_aload_n d_Mo_upperOf_75 rfl (?_ : WM _ 76 _ _ _ _)
          refine r_getR (k := 35) (j := 26) (q := 49) (by decide) rfl clk_11 (by decide) (qm_5 (i := 62) rfl rfl) rfl d_Mo_upperOf_76 (?_ : WM _ 79 _ _ _ _)
          refine r_iload_n d_Mo_upperOf_79 rfl (?_ : WM _ 80 _ _ _ _)
          refine r_aload_n d_Mo_upperOf_80 rfl (?_ : WM _ 81 _ _ _ _)
          refine r_iload_n d_Mo_upperOf_81 rfl (?_ : WM _ 82 _ _ _ _)
          refine r_iload_n d_Mo_upperOf_82 rfl (?_ : WM _ 83 _ _ _ _)
          refine r_callV (ν := M_Mo_halved) (k := 35) [vI x1, vI x2] ok_M_Mo_halved okv_M_Mo_halved (by decide) rfl rfl rfl (qm_6 (i := 51) rfl rfl) np_M_Mo_halved rfl (by decide) (Nat.le_of_ble_eq_true rfl) rfl d_Mo_upperOf_83 (CI.k h (fun v8 σ7 h => (?_ : WM _ 86 _ _ _ _)))
          refine r_iast (k := 49) (n := 401) (by decide) rfl d_Mo_upperOf_86 h4 h5 (?_ : WM _ 87 _ _ _ _)
          refine r_aload_n d_Mo_upperOf_87 rfl (?_ : WM _ 88 _ _ _ _)
          refine r_getR (k := 35) (j := 26) (q := 49) (by decide) rfl clk_11 (by decide) (qm_5 (i := 62) rfl rfl) rfl d_Mo_upperOf_88 (?_ : WM _ 91 _ _ _ _)
          refine r_iload_n d_Mo_upperOf_91 rfl (?_ : WM _ 92 _ _ _ _)
          refine r_iald (k := 49) (n := 401) (by decide) rfl d_Mo_upperOf_92 h4 h5 (y := v8) (ups_s) (?_ : WM _ 93 _ _ _ _)
          exact r_ireturn rfl d_Mo_upperOf_93 h
      · replace h := h.2 c3
        refine r_iconst d_Mo_upperOf_29 (by decide) (?_ : WM _ 30 _ _ _ _)
        refine r_istore_n (ls' := [(3, vI 0), (0, vR 35), (1, vI x1), (2, vI x2)]) d_Mo_upperOf_30 rfl (by decide) rfl (?_ : WM _ 31 _ _ _ _)
        refine r_pick (ls' := [(0, vR 35), (1, vI x1), (2, vI x2), (3, vI 0)]) [1, 2, 3, 0] rfl ?_
        exact h
  · replace h := h.2 c1
    refine r_ldc 1000000 d_Mo_upperOf_5 (qm_6 (i := 50) rfl rfl) (by decide) (by decide) (?_ : WM _ 7 _ _ _ _)
    exact r_ireturn rfl d_Mo_upperOf_7 h
set_option maxRecDepth 20000 in
theorem l_Mo_upperOf_1 {K : Int → St → Prop} {σ : St} (x1 : Int) (x2 : Int) (x3 : Int) (h : (400 < x3 → (0 ≤ x2) ∧ (x2 < 401) ∧ (¬ (σ 49 x2) = 0 → K (σ 49 x2) (ups (ups σ 35 27 x1) 35 28 (σ 36 1))) ∧ ((σ 49 x2) = 0 → CI M_Mo_halved [vR 35, vI x1, vI x2] (ups (ups σ 35 27 x1) 35 28 (σ 36 1)) (fun v14 σ13 => K v14 (ups σ13 49 x2 v14)))) ∧ (¬ 400 < x3 → (0 ≤ x3) ∧ (x3 < 401) ∧ (inR (x3 + 1)) ∧ WM M_Mo_upperOf 31 [(0, vR 35), (1, vI x1), (2, vI x2), (3, vI (x3 + 1))] [] (ups σ 49 x3 0) (QI K))) : WM M_Mo_upperOf 31 [(0, vR 35), (1, vI x1), (2, vI x2), (3, vI x3)] [] σ (QI K) := by
  refine r_iload_n d_Mo_upperOf_31 rfl (?_ : WM _ 32 _ _ _ _)
  refine r_sipush d_Mo_upperOf_32 (by decide) (by decide) (?_ : WM _ 35 _ _ _ _)
  refine r_icmp_gt 51 d_Mo_upperOf_35 rfl ⟨fun c9 => (?_ : WM _ 51 _ _ _ _), fun c9 => (?_ : WM _ 38 _ _ _ _)⟩
  · replace h := h.1 c9
    refine r_aload_n d_Mo_upperOf_51 rfl (?_ : WM _ 52 _ _ _ _)
    refine r_iload_n d_Mo_upperOf_52 rfl (?_ : WM _ 53 _ _ _ _)
    refine r_put (k := 35) (j := 27) 27 (by decide) rfl clk_11 (by decide) (qm_5 (i := 63) rfl rfl) rfl rfl rfl tyX11_ok rfl nmX11 d_Mo_upperOf_53 (?_ : WM _ 56 _ _ _ _)
    refine r_aload_n d_Mo_upperOf_56 rfl (?_ : WM _ 57 _ _ _ _)
    refine r_aload_n d_Mo_upperOf_57 rfl (?_ : WM _ 58 _ _ _ _)
    refine r_getR (k := 35) (j := 1) (q := 36) (by decide) rfl clk_11 (by decide) (qm_5 (i := 37) rfl rfl) rfl d_Mo_upperOf_58 (?_ : WM _ 61 _ _ _ _)
    refine r_iconst d_Mo_upperOf_61 (by decide) (?_ : WM _ 62 _ _ _ _)
    refine r_iald (k := 36) (n := 5) (by decide) rfl d_Mo_upperOf_62 (by decide) (by decide) (y := (σ 36 1)) (ups_c (by decide)) (?_ : WM _ 63 _ _ _ _)
    refine r_put (k := 35) (j := 28) 28 (by decide) rfl clk_11 (by decide) (qm_5 (i := 64) rfl rfl) rfl rfl rfl tyX11_ok rfl nmX11 d_Mo_upperOf_63 (?_ : WM _ 66 _ _ _ _)
    refine r_aload_n d_Mo_upperOf_66 rfl (?_ : WM _ 67 _ _ _ _)
    refine r_getR (k := 35) (j := 26) (q := 49) (by decide) rfl clk_11 (by decide) (qm_5 (i := 62) rfl rfl) rfl d_Mo_upperOf_67 (?_ : WM _ 70 _ _ _ _)
    refine r_iload_n d_Mo_upperOf_70 rfl (?_ : WM _ 71 _ _ _ _)
    obtain ⟨h10, h⟩ := h
    obtain ⟨h11, h⟩ := h
    refine r_iald (k := 49) (n := 401) (by decide) rfl d_Mo_upperOf_71 h10 h11 (y := (σ 49 x2)) ((ups_c (by decide)).trans (ups_c (by decide))) (?_ : WM _ 72 _ _ _ _)
    refine r_if_ne 87 d_Mo_upperOf_72 rfl ⟨fun c12 => (?_ : WM _ 87 _ _ _ _), fun c12 => (?_ : WM _ 75 _ _ _ _)⟩
    · replace h := h.1 c12
      refine r_aload_n d_Mo_upperOf_87 rfl (?_ : WM _ 88 _ _ _ _)
      refine r_getR (k := 35) (j := 26) (q := 49) (by decide) rfl clk_11 (by decide) (qm_5 (i := 62) rfl rfl) rfl d_Mo_upperOf_88 (?_ : WM _ 91 _ _ _ _)
      refine r_iload_n d_Mo_upperOf_91 rfl (?_ : WM _ 92 _ _ _ _)
      refine r_iald (k := 49) (n := 401) (by decide) rfl d_Mo_upperOf_92 h10 h11 (y := (σ 49 x2)) ((ups_c (by decide)).trans (ups_c (by decide))) (?_ : WM _ 93 _ _ _ _)
      exact r_ireturn rfl d_Mo_upperOf_93 h
    · replace h := h.2 c12
      refine r_aload_n d_Mo_upperOf_75 rfl (?_ : WM _ 76 _ _ _ _)
      refine r_getR (k := 35) (j := 26) (q := 49) (by decide) rfl clk_11 (by decide) (qm_5 (i := 62) rfl rfl) rfl d_Mo_upperOf_76 (?_ : WM _ 79 _ _ _ _)
      refine r_iload_n d_Mo_upperOf_79 rfl (?_ : WM _ 80 _ _ _ _)
      refine r_aload_n d_Mo_upperOf_80 rfl (?_ : WM _ 81 _ _ _ _)
      refine r_iload_n d_Mo_upperOf_81 rfl (?_ : WM _ 82 _ _ _ _)
      refine r_iload_n d_Mo_upperOf_82 rfl (?_ : WM _ 83 _ _ _ _)
      refine r_callV (ν := M_Mo_halved) (k := 35) [vI x1, vI x2] ok_M_Mo_halved okv_M_Mo_halved (by decide) rfl rfl rfl (qm_6 (i := 51) rfl rfl) np_M_Mo_halved rfl (by decide) (Nat.le_of_ble_eq_true rfl) rfl d_Mo_upperOf_83 (CI.k h (fun v14 σ13 h => (?_ : WM _ 86 _ _ _ _)))
      refine r_iast (k := 49) (n := 401) (by decide) rfl d_Mo_upperOf_86 h10 h11 (?_ : WM _ 87 _ _ _ _)
      refine r_aload_n d_Mo_upperOf_87 rfl (?_ : WM _ 88 _ _ _ _)
      refine r_getR (k := 35) (j := 26) (q := 49) (by decide) rfl clk_11 (by decide) (qm_5 (i := 62) rfl rfl) rfl d_Mo_upperOf_88 (?_ : WM _ 91 _ _ _ _)
      refine r_iload_n d_Mo_upperOf_91 rfl (?_ : WM _ 92 _ _ _ _)
      refine r_iald (k := 49) (n := 401) (by decide) rfl d_Mo_upperOf_92 h10 h11 (y := v14) (ups_s) (?_ : WM _ 93 _ _ _ _)
      exact r_ireturn rfl d_Mo_upperOf_93 h
  · replace h := h.2 c9
    refine r_aload_n d_Mo_upperOf_38 rfl (?_ : WM _ 39 _ _ _ _)
    refine r_getR (k := 35) (j := 26) (q := 49) (by decide) rfl clk_11 (by decide) (qm_5 (i := 62) rfl rfl) rfl d_Mo_upperOf_39 (?_ : WM _ 42 _ _ _ _)
    refine r_iload_n d_Mo_upperOf_42 rfl (?_ : WM _ 43 _ _ _ _)
    refine r_iconst d_Mo_upperOf_43 (by decide) (?_ : WM _ 44 _ _ _ _)
    obtain ⟨h15, h⟩ := h
    obtain ⟨h16, h⟩ := h
    refine r_iast (k := 49) (n := 401) (by decide) rfl d_Mo_upperOf_44 h15 h16 (?_ : WM _ 45 _ _ _ _)
    obtain ⟨h17, h⟩ := h
    refine r_iinc (ls' := [(3, vI (x3 + 1)), (0, vR 35), (1, vI x1), (2, vI x2)]) d_Mo_upperOf_45 rfl h17 (by decide) rfl (?_ : WM _ 48 _ _ _ _)
    refine r_goto 31 d_Mo_upperOf_48 rfl ?_
    refine r_pick (ls' := [(0, vR 35), (1, vI x1), (2, vI x2), (3, vI (x3 + 1))]) [1, 2, 3, 0] rfl ?_
    exact h
set_option maxRecDepth 20000 in
theorem e_Mo_projectedBy {K : Int → St → Prop} {σ : St} (x1 : Int) (h : WM M_Mo_projectedBy 4 [(0, vR 35), (1, vI x1), (2, vI 0), (3, vI 0)] [] σ (QI K)) : CI M_Mo_projectedBy [vR 35, vI x1] σ K := by
  refine Con.of ok_M_Mo_projectedBy (ls := [(0, vR 35), (1, vI x1)]) rfl (Nat.le_of_ble_eq_true rfl) ?_
  refine r_iconst d_Mo_projectedBy_0 (by decide) (?_ : WM _ 1 _ _ _ _)
  refine r_istore_n (ls' := [(2, vI 0), (0, vR 35), (1, vI x1)]) d_Mo_projectedBy_1 rfl (by decide) rfl (?_ : WM _ 2 _ _ _ _)
  refine r_iconst d_Mo_projectedBy_2 (by decide) (?_ : WM _ 3 _ _ _ _)
  refine r_istore_n (ls' := [(3, vI 0), (2, vI 0), (0, vR 35), (1, vI x1)]) d_Mo_projectedBy_3 rfl (by decide) rfl (?_ : WM _ 4 _ _ _ _)
  refine r_pick (ls' := [(0, vR 35), (1, vI x1), (2, vI 0), (3, vI 0)]) [2, 3, 1, 0] rfl ?_
  exact h
set_option maxRecDepth 20000 in
theorem l_Mo_projectedBy_1 {K : Int → St → Prop} {σ : St} (x1 : Int) (x2 : Int) (x3 : Int) (h : ((σ 35 25) ≤ x3 → K x2 σ) ∧ (¬ (σ 35 25) ≤ x3 → (0 ≤ x3) ∧ (x3 < 240) ∧ CI M_Mo_partOf [vR 35, vI (σ 45 x3)] σ (fun v5 σ4 => (inR (x1 * v5)) ∧ ((x1 * v5) ≤ 0 → (inR (x2 + 0)) ∧ (inR (x3 + 1)) ∧ WM M_Mo_projectedBy 4 [(0, vR 35), (1, vI x1), (2, vI (x2 + 0)), (3, vI (x3 + 1))] [] σ4 (QI K)) ∧ (¬ (x1 * v5) ≤ 0 → (inR (x2 + (x1 * v5))) ∧ (inR (x3 + 1)) ∧ WM M_Mo_projectedBy 4 [(0, vR 35), (1, vI x1), (2, vI (x2 + (x1 * v5))), (3, vI (x3 + 1))] [] σ4 (QI K))))) : WM M_Mo_projectedBy 4 [(0, vR 35), (1, vI x1), (2, vI x2), (3, vI x3)] [] σ (QI K) := by
  refine r_iload_n d_Mo_projectedBy_4 rfl (?_ : WM _ 5 _ _ _ _)
  refine r_aload_n d_Mo_projectedBy_5 rfl (?_ : WM _ 6 _ _ _ _)
  refine r_getI (k := 35) (j := 25) 25 (by decide) rfl clk_11 (by decide) (qm_5 (i := 61) rfl rfl) rfl rfl d_Mo_projectedBy_6 (y := (σ 35 25)) rfl (?_ : WM _ 9 _ _ _ _)
  refine r_icmp_ge 46 d_Mo_projectedBy_9 rfl ⟨fun c1 => (?_ : WM _ 46 _ _ _ _), fun c1 => (?_ : WM _ 12 _ _ _ _)⟩
  · replace h := h.1 c1
    refine r_iload_n d_Mo_projectedBy_46 rfl (?_ : WM _ 47 _ _ _ _)
    exact r_ireturn rfl d_Mo_projectedBy_47 h
  · replace h := h.2 c1
    refine r_iload_n d_Mo_projectedBy_12 rfl (?_ : WM _ 13 _ _ _ _)
    refine r_aload_n d_Mo_projectedBy_13 rfl (?_ : WM _ 14 _ _ _ _)
    refine r_aload_n d_Mo_projectedBy_14 rfl (?_ : WM _ 15 _ _ _ _)
    refine r_getR (k := 35) (j := 21) (q := 45) (by decide) rfl clk_11 (by decide) (qm_5 (i := 57) rfl rfl) rfl d_Mo_projectedBy_15 (?_ : WM _ 18 _ _ _ _)
    refine r_iload_n d_Mo_projectedBy_18 rfl (?_ : WM _ 19 _ _ _ _)
    obtain ⟨h2, h⟩ := h
    obtain ⟨h3, h⟩ := h
    refine r_iald (k := 45) (n := 240) (by decide) rfl d_Mo_projectedBy_19 h2 h3 (y := (σ 45 x3)) rfl (?_ : WM _ 20 _ _ _ _)
    refine r_callV (ν := M_Mo_partOf) (k := 35) [vI (σ 45 x3)] ok_M_Mo_partOf okv_M_Mo_partOf (by decide) rfl rfl rfl (qm_6 (i := 162) rfl rfl) np_M_Mo_partOf rfl (by decide) (Nat.le_of_ble_eq_true rfl) rfl d_Mo_projectedBy_20 (CI.k h (fun v5 σ4 h => (?_ : WM _ 23 _ _ _ _)))
    obtain ⟨h6, h⟩ := h
    refine r_imul d_Mo_projectedBy_23 h6 (?_ : WM _ 24 _ _ _ _)
    refine r_istore (ls' := [(4, vI (x1 * v5)), (0, vR 35), (1, vI x1), (2, vI x2), (3, vI x3)]) d_Mo_projectedBy_24 (by decide) rfl (?_ : WM _ 26 _ _ _ _)
    refine r_iload_n d_Mo_projectedBy_26 rfl (?_ : WM _ 27 _ _ _ _)
    refine r_iload d_Mo_projectedBy_27 rfl (?_ : WM _ 29 _ _ _ _)
    refine r_if_le 37 d_Mo_projectedBy_29 rfl ⟨fun c7 => (?_ : WM _ 37 _ _ _ _), fun c7 => (?_ : WM _ 32 _ _ _ _)⟩
    · replace h := h.1 c7
      refine r_iconst d_Mo_projectedBy_37 (by decide) (?_ : WM _ 38 _ _ _ _)
      obtain ⟨h8, h⟩ := h
      refine r_iadd d_Mo_projectedBy_38 h8 (?_ : WM _ 39 _ _ _ _)
      refine r_istore_n (ls' := [(2, vI (x2 + 0)), (4, vI (x1 * v5)), (0, vR 35), (1, vI x1), (3, vI x3)]) d_Mo_projectedBy_39 rfl (by decide) rfl (?_ : WM _ 40 _ _ _ _)
      obtain ⟨h9, h⟩ := h
      refine r_iinc (ls' := [(3, vI (x3 + 1)), (2, vI (x2 + 0)), (4, vI (x1 * v5)), (0, vR 35), (1, vI x1)]) d_Mo_projectedBy_40 rfl h9 (by decide) rfl (?_ : WM _ 43 _ _ _ _)
      refine r_goto 4 d_Mo_projectedBy_43 rfl ?_
      refine r_pick (ls' := [(0, vR 35), (1, vI x1), (2, vI (x2 + 0)), (3, vI (x3 + 1))]) [3, 4, 1, 0] rfl ?_
      exact h
    · replace h := h.2 c7
      refine r_iload d_Mo_projectedBy_32 rfl (?_ : WM _ 34 _ _ _ _)
      refine r_goto 38 d_Mo_projectedBy_34 rfl ?_
      obtain ⟨h10, h⟩ := h
      refine r_iadd d_Mo_projectedBy_38 h10 (?_ : WM _ 39 _ _ _ _)
      refine r_istore_n (ls' := [(2, vI (x2 + (x1 * v5))), (4, vI (x1 * v5)), (0, vR 35), (1, vI x1), (3, vI x3)]) d_Mo_projectedBy_39 rfl (by decide) rfl (?_ : WM _ 40 _ _ _ _)
      obtain ⟨h11, h⟩ := h
      refine r_iinc (ls' := [(3, vI (x3 + 1)), (2, vI (x2 + (x1 * v5))), (4, vI (x1 * v5)), (0, vR 35), (1, vI x1)]) d_Mo_projectedBy_40 rfl h11 (by decide) rfl (?_ : WM _ 43 _ _ _ _)
      refine r_goto 4 d_Mo_projectedBy_43 rfl ?_
      refine r_pick (ls' := [(0, vR 35), (1, vI x1), (2, vI (x2 + (x1 * v5))), (3, vI (x3 + 1))]) [3, 4, 1, 0] rfl ?_
      exact h
set_option maxRecDepth 20000 in
theorem e_Mo_knownBy {K : Int → St → Prop} {σ : St} (x1 : Int) (h : WM M_Mo_knownBy 4 [(0, vR 35), (1, vI x1), (2, vI 0), (3, vI 0)] [] σ (QI K)) : CI M_Mo_knownBy [vR 35, vI x1] σ K := by
  refine Con.of ok_M_Mo_knownBy (ls := [(0, vR 35), (1, vI x1)]) rfl (Nat.le_of_ble_eq_true rfl) ?_
  refine r_iconst d_Mo_knownBy_0 (by decide) (?_ : WM _ 1 _ _ _ _)
  refine r_istore_n (ls' := [(2, vI 0), (0, vR 35), (1, vI x1)]) d_Mo_knownBy_1 rfl (by decide) rfl (?_ : WM _ 2 _ _ _ _)
  refine r_iconst d_Mo_knownBy_2 (by decide) (?_ : WM _ 3 _ _ _ _)
  refine r_istore_n (ls' := [(3, vI 0), (2, vI 0), (0, vR 35), (1, vI x1)]) d_Mo_knownBy_3 rfl (by decide) rfl (?_ : WM _ 4 _ _ _ _)
  refine r_pick (ls' := [(0, vR 35), (1, vI x1), (2, vI 0), (3, vI 0)]) [2, 3, 1, 0] rfl ?_
  exact h
set_option maxRecDepth 20000 in
theorem l_Mo_knownBy_1 {K : Int → St → Prop} {σ : St} (x1 : Int) (x2 : Int) (x3 : Int) (h : ((σ 35 6) ≤ x3 → K x2 σ) ∧ (¬ (σ 35 6) ≤ x3 → CI M_Mo_isCertain [vR 35, vI x3] σ (fun v3 σ2 => (v3 = 0 → (inR (x3 + 1)) ∧ WM M_Mo_knownBy 4 [(0, vR 35), (1, vI x1), (2, vI x2), (3, vI (x3 + 1))] [] σ2 (QI K)) ∧ (¬ v3 = 0 → CI M_Mo_errorOf [vR 35, vI x3] σ2 (fun v7 σ6 => (inR (x1 * v7)) ∧ ((x1 * v7) ≤ 0 → (inR (x3 + 1)) ∧ WM M_Mo_knownBy 4 [(0, vR 35), (1, vI x1), (2, vI x2), (3, vI (x3 + 1))] [] σ6 (QI K)) ∧ (¬ (x1 * v7) ≤ 0 → CI M_Mo_errorOf [vR 35, vI x3] σ6 (fun v12 σ11 => (inR (x1 * v12)) ∧ (inR (x2 + (x1 * v12))) ∧ (inR (x3 + 1)) ∧ WM M_Mo_knownBy 4 [(0, vR 35), (1, vI x1), (2, vI (x2 + (x1 * v12))), (3, vI (x3 + 1))] [] σ11 (QI K)))))))) : WM M_Mo_knownBy 4 [(0, vR 35), (1, vI x1), (2, vI x2), (3, vI x3)] [] σ (QI K) := by
  refine r_iload_n d_Mo_knownBy_4 rfl (?_ : WM _ 5 _ _ _ _)
  refine r_aload_n d_Mo_knownBy_5 rfl (?_ : WM _ 6 _ _ _ _)
  refine r_getI (k := 35) (j := 6) 6 (by decide) rfl clk_11 (by decide) (qm_5 (i := 42) rfl rfl) rfl rfl d_Mo_knownBy_6 (y := (σ 35 6)) rfl (?_ : WM _ 9 _ _ _ _)
  refine r_icmp_ge 46 d_Mo_knownBy_9 rfl ⟨fun c1 => (?_ : WM _ 46 _ _ _ _), fun c1 => (?_ : WM _ 12 _ _ _ _)⟩
  · replace h := h.1 c1
    refine r_iload_n d_Mo_knownBy_46 rfl (?_ : WM _ 47 _ _ _ _)
    exact r_ireturn rfl d_Mo_knownBy_47 h
  · replace h := h.2 c1
    refine r_aload_n d_Mo_knownBy_12 rfl (?_ : WM _ 13 _ _ _ _)
    refine r_iload_n d_Mo_knownBy_13 rfl (?_ : WM _ 14 _ _ _ _)
    refine r_callV (ν := M_Mo_isCertain) (k := 35) [vI x3] ok_M_Mo_isCertain okv_M_Mo_isCertain (by decide) rfl rfl rfl (qm_6 (i := 27) rfl rfl) np_M_Mo_isCertain rfl (by decide) (Nat.le_of_ble_eq_true rfl) rfl d_Mo_knownBy_14 (CI.k h (fun v3 σ2 h => (?_ : WM _ 17 _ _ _ _)))
    refine r_if_eq 40 d_Mo_knownBy_17 rfl ⟨fun c4 => (?_ : WM _ 40 _ _ _ _), fun c4 => (?_ : WM _ 20 _ _ _ _)⟩
    · replace h := h.1 c4
      obtain ⟨h5, h⟩ := h
      refine r_iinc (ls' := [(3, vI (x3 + 1)), (0, vR 35), (1, vI x1), (2, vI x2)]) d_Mo_knownBy_40 rfl h5 (by decide) rfl (?_ : WM _ 43 _ _ _ _)
      refine r_goto 4 d_Mo_knownBy_43 rfl ?_
      refine r_pick (ls' := [(0, vR 35), (1, vI x1), (2, vI x2), (3, vI (x3 + 1))]) [1, 2, 3, 0] rfl ?_
      exact h
    · replace h := h.2 c4
      refine r_iload_n d_Mo_knownBy_20 rfl (?_ : WM _ 21 _ _ _ _)
      refine r_aload_n d_Mo_knownBy_21 rfl (?_ : WM _ 22 _ _ _ _)
      refine r_iload_n d_Mo_knownBy_22 rfl (?_ : WM _ 23 _ _ _ _)
      refine r_callV (ν := M_Mo_errorOf) (k := 35) [vI x3] ok_M_Mo_errorOf okv_M_Mo_errorOf (by decide) rfl rfl rfl (qm_6 (i := 101) rfl rfl) np_M_Mo_errorOf rfl (by decide) (Nat.le_of_ble_eq_true rfl) rfl d_Mo_knownBy_23 (CI.k h (fun v7 σ6 h => (?_ : WM _ 26 _ _ _ _)))
      obtain ⟨h8, h⟩ := h
      refine r_imul d_Mo_knownBy_26 h8 (?_ : WM _ 27 _ _ _ _)
      refine r_if_le 40 d_Mo_knownBy_27 rfl ⟨fun c9 => (?_ : WM _ 40 _ _ _ _), fun c9 => (?_ : WM _ 30 _ _ _ _)⟩
      · replace h := h.1 c9
        obtain ⟨h10, h⟩ := h
        refine r_iinc (ls' := [(3, vI (x3 + 1)), (0, vR 35), (1, vI x1), (2, vI x2)]) d_Mo_knownBy_40 rfl h10 (by decide) rfl (?_ : WM _ 43 _ _ _ _)
        refine r_goto 4 d_Mo_knownBy_43 rfl ?_
        refine r_pick (ls' := [(0, vR 35), (1, vI x1), (2, vI x2), (3, vI (x3 + 1))]) [1, 2, 3, 0] rfl ?_
        exact h
      · replace h := h.2 c9
        refine r_iload_n d_Mo_knownBy_30 rfl (?_ : WM _ 31 _ _ _ _)
        refine r_iload_n d_Mo_knownBy_31 rfl (?_ : WM _ 32 _ _ _ _)
        refine r_aload_n d_Mo_knownBy_32 rfl (?_ : WM _ 33 _ _ _ _)
        refine r_iload_n d_Mo_knownBy_33 rfl (?_ : WM _ 34 _ _ _ _)
        refine r_callV (ν := M_Mo_errorOf) (k := 35) [vI x3] ok_M_Mo_errorOf okv_M_Mo_errorOf (by decide) rfl rfl rfl (qm_6 (i := 101) rfl rfl) np_M_Mo_errorOf rfl (by decide) (Nat.le_of_ble_eq_true rfl) rfl d_Mo_knownBy_34 (CI.k h (fun v12 σ11 h => (?_ : WM _ 37 _ _ _ _)))
        obtain ⟨h13, h⟩ := h
        refine r_imul d_Mo_knownBy_37 h13 (?_ : WM _ 38 _ _ _ _)
        obtain ⟨h14, h⟩ := h
        refine r_iadd d_Mo_knownBy_38 h14 (?_ : WM _ 39 _ _ _ _)
        refine r_istore_n (ls' := [(2, vI (x2 + (x1 * v12))), (0, vR 35), (1, vI x1), (3, vI x3)]) d_Mo_knownBy_39 rfl (by decide) rfl (?_ : WM _ 40 _ _ _ _)
        obtain ⟨h15, h⟩ := h
        refine r_iinc (ls' := [(3, vI (x3 + 1)), (2, vI (x2 + (x1 * v12))), (0, vR 35), (1, vI x1)]) d_Mo_knownBy_40 rfl h15 (by decide) rfl (?_ : WM _ 43 _ _ _ _)
        refine r_goto 4 d_Mo_knownBy_43 rfl ?_
        refine r_pick (ls' := [(0, vR 35), (1, vI x1), (2, vI (x2 + (x1 * v12))), (3, vI (x3 + 1))]) [2, 3, 1, 0] rfl ?_
        exact h
set_option maxRecDepth 20000 in
theorem e_Mo_laysRanks {K : St → Prop} {σ : St} (x1 : Int) (h : WM M_Mo_laysRanks 7 [(0, vR 35), (1, vI x1), (2, vI 0)] [] (ups σ 35 32 0) (QV K)) : CV M_Mo_laysRanks [vR 35, vI x1] σ K := by
  refine Con.of ok_M_Mo_laysRanks (ls := [(0, vR 35), (1, vI x1)]) rfl (Nat.le_of_ble_eq_true rfl) ?_
  refine r_aload_n d_Mo_laysRanks_0 rfl (?_ : WM _ 1 _ _ _ _)
  refine r_iconst d_Mo_laysRanks_1 (by decide) (?_ : WM _ 2 _ _ _ _)
  refine r_put (k := 35) (j := 32) 32 (by decide) rfl clk_11 (by decide) (qm_5 (i := 68) rfl rfl) rfl rfl rfl tyX11_ok rfl nmX11 d_Mo_laysRanks_2 (?_ : WM _ 5 _ _ _ _)
  refine r_iconst d_Mo_laysRanks_5 (by decide) (?_ : WM _ 6 _ _ _ _)
  refine r_istore_n (ls' := [(2, vI 0), (0, vR 35), (1, vI x1)]) d_Mo_laysRanks_6 rfl (by decide) rfl (?_ : WM _ 7 _ _ _ _)
  refine r_pick (ls' := [(0, vR 35), (1, vI x1), (2, vI 0)]) [1, 2, 0] rfl ?_
  exact h
set_option maxRecDepth 20000 in
theorem l_Mo_laysRanks_1 {K : St → Prop} {σ : St} (x1 : Int) (x2 : Int) (h : ((σ 35 25) ≤ x2 → K σ) ∧ (¬ (σ 35 25) ≤ x2 → (0 ≤ x2) ∧ (x2 < 240) ∧ CI M_Mo_taintOf [vR 35, vI (σ 45 x2)] σ (fun v5 σ4 => (inR (x1 * v5)) ∧ (0 < (x1 * v5) → WM M_Mo_laysRanks 41 [(0, vR 35), (1, vI x1), (2, vI x2), (3, vI (x1 * v5)), (4, vI (σ4 35 32))] [] σ4 (QV K)) ∧ (¬ 0 < (x1 * v5) → (inR (x2 + 1)) ∧ WM M_Mo_laysRanks 7 [(0, vR 35), (1, vI x1), (2, vI (x2 + 1))] [] σ4 (QV K))))) : WM M_Mo_laysRanks 7 [(0, vR 35), (1, vI x1), (2, vI x2)] [] σ (QV K) := by
  refine r_iload_n d_Mo_laysRanks_7 rfl (?_ : WM _ 8 _ _ _ _)
  refine r_aload_n d_Mo_laysRanks_8 rfl (?_ : WM _ 9 _ _ _ _)
  refine r_getI (k := 35) (j := 25) 25 (by decide) rfl clk_11 (by decide) (qm_5 (i := 61) rfl rfl) rfl rfl d_Mo_laysRanks_9 (y := (σ 35 25)) rfl (?_ : WM _ 12 _ _ _ _)
  refine r_icmp_ge 116 d_Mo_laysRanks_12 rfl ⟨fun c1 => (?_ : WM _ 116 _ _ _ _), fun c1 => (?_ : WM _ 15 _ _ _ _)⟩
  · replace h := h.1 c1
    exact r_return rfl d_Mo_laysRanks_116 h
  · replace h := h.2 c1
    refine r_iload_n d_Mo_laysRanks_15 rfl (?_ : WM _ 16 _ _ _ _)
    refine r_aload_n d_Mo_laysRanks_16 rfl (?_ : WM _ 17 _ _ _ _)
    refine r_aload_n d_Mo_laysRanks_17 rfl (?_ : WM _ 18 _ _ _ _)
    refine r_getR (k := 35) (j := 21) (q := 45) (by decide) rfl clk_11 (by decide) (qm_5 (i := 57) rfl rfl) rfl d_Mo_laysRanks_18 (?_ : WM _ 21 _ _ _ _)
    refine r_iload_n d_Mo_laysRanks_21 rfl (?_ : WM _ 22 _ _ _ _)
    obtain ⟨h2, h⟩ := h
    obtain ⟨h3, h⟩ := h
    refine r_iald (k := 45) (n := 240) (by decide) rfl d_Mo_laysRanks_22 h2 h3 (y := (σ 45 x2)) rfl (?_ : WM _ 23 _ _ _ _)
    refine r_callV (ν := M_Mo_taintOf) (k := 35) [vI (σ 45 x2)] ok_M_Mo_taintOf okv_M_Mo_taintOf (by decide) rfl rfl rfl (qm_6 (i := 105) rfl rfl) np_M_Mo_taintOf rfl (by decide) (Nat.le_of_ble_eq_true rfl) rfl d_Mo_laysRanks_23 (CI.k h (fun v5 σ4 h => (?_ : WM _ 26 _ _ _ _)))
    obtain ⟨h6, h⟩ := h
    refine r_imul d_Mo_laysRanks_26 h6 (?_ : WM _ 27 _ _ _ _)
    refine r_istore_n (ls' := [(3, vI (x1 * v5)), (0, vR 35), (1, vI x1), (2, vI x2)]) d_Mo_laysRanks_27 rfl (by decide) rfl (?_ : WM _ 28 _ _ _ _)
    refine r_iload_n d_Mo_laysRanks_28 rfl (?_ : WM _ 29 _ _ _ _)
    refine r_if_gt 35 d_Mo_laysRanks_29 rfl ⟨fun c7 => (?_ : WM _ 35 _ _ _ _), fun c7 => (?_ : WM _ 32 _ _ _ _)⟩
    · replace h := h.1 c7
      refine r_aload_n d_Mo_laysRanks_35 rfl (?_ : WM _ 36 _ _ _ _)
      refine r_getI (k := 35) (j := 32) 32 (by decide) rfl clk_11 (by decide) (qm_5 (i := 68) rfl rfl) rfl rfl d_Mo_laysRanks_36 (y := (σ4 35 32)) rfl (?_ : WM _ 39 _ _ _ _)
      refine r_istore (ls' := [(4, vI (σ4 35 32)), (3, vI (x1 * v5)), (0, vR 35), (1, vI x1), (2, vI x2)]) d_Mo_laysRanks_39 (by decide) rfl (?_ : WM _ 41 _ _ _ _)
      refine r_pick (ls' := [(0, vR 35), (1, vI x1), (2, vI x2), (3, vI (x1 * v5)), (4, vI (σ4 35 32))]) [2, 3, 4, 1, 0] rfl ?_
      exact h
    · replace h := h.2 c7
      refine r_goto 110 d_Mo_laysRanks_32 rfl ?_
      obtain ⟨h8, h⟩ := h
      refine r_iinc (ls' := [(2, vI (x2 + 1)), (3, vI (x1 * v5)), (0, vR 35), (1, vI x1)]) d_Mo_laysRanks_110 rfl h8 (by decide) rfl (?_ : WM _ 113 _ _ _ _)
      refine r_goto 7 d_Mo_laysRanks_113 rfl ?_
      refine r_pick (ls' := [(0, vR 35), (1, vI x1), (2, vI (x2 + 1))]) [2, 3, 0] rfl ?_
      exact h
set_option maxRecDepth 20000 in
theorem l_Mo_laysRanks_2 {K : St → Prop} {σ : St} (x1 : Int) (x2 : Int) (x3 : Int) (x4 : Int) (h : (x4 ≤ 0 → (0 ≤ x4) ∧ (x4 < 240) ∧ (inR ((σ 35 32) + 1)) ∧ (inR (x2 + 1)) ∧ WM M_Mo_laysRanks 7 [(0, vR 35), (1, vI x1), (2, vI (x2 + 1))] [] (ups (ups σ 51 x4 x2) 35 32 ((σ 35 32) + 1)) (QV K)) ∧ (¬ x4 ≤ 0 → (inR (x4 - 1)) ∧ (0 ≤ (x4 - 1)) ∧ ((x4 - 1) < 240) ∧ (0 ≤ (σ 51 (x4 - 1))) ∧ ((σ 51 (x4 - 1)) < 240) ∧ CI M_Mo_taintOf [vR 35, vI (σ 45 (σ 51 (x4 - 1)))] σ (fun v20 σ19 => (inR (x1 * v20)) ∧ (x3 ≤ (x1 * v20) → (0 ≤ x4) ∧ (x4 < 240) ∧ (inR ((σ19 35 32) + 1)) ∧ (inR (x2 + 1)) ∧ WM M_Mo_laysRanks 7 [(0, vR 35), (1, vI x1), (2, vI (x2 + 1))] [] (ups (ups σ19 51 x4 x2) 35 32 ((σ19 35 32) + 1)) (QV K)) ∧ (¬ x3 ≤ (x1 * v20) → (0 ≤ x4) ∧ (x4 < 240) ∧ (inR (x4 + (-1))) ∧ WM M_Mo_laysRanks 41 [(0, vR 35), (1, vI x1), (2, vI x2), (3, vI x3), (4, vI (x4 + (-1)))] [] (ups σ19 51 x4 (σ19 51 (x4 - 1))) (QV K))))) : WM M_Mo_laysRanks 41 [(0, vR 35), (1, vI x1), (2, vI x2), (3, vI x3), (4, vI x4)] [] σ (QV K) := by
  refine r_iload d_Mo_laysRanks_41 rfl (?_ : WM _ 43 _ _ _ _)
  refine r_if_le 92 d_Mo_laysRanks_43 rfl ⟨fun c9 => (?_ : WM _ 92 _ _ _ _), fun c9 => (?_ : WM _ 46 _ _ _ _)⟩
  · replace h := h.1 c9
    refine r_aload_n d_Mo_laysRanks_92 rfl (?_ : WM _ 93 _ _ _ _)
    refine r_getR (k := 35) (j := 31) (q := 51) (by decide) rfl clk_11 (by decide) (qm_5 (i := 67) rfl rfl) rfl d_Mo_laysRanks_93 (?_ : WM _ 96 _ _ _ _)
    refine r_iload d_Mo_laysRanks_96 rfl (?_ : WM _ 98 _ _ _ _)
    refine r_iload_n d_Mo_laysRanks_98 rfl (?_ : WM _ 99 _ _ _ _)
    obtain ⟨h10, h⟩ := h
    obtain ⟨h11, h⟩ := h
    refine r_iast (k := 51) (n := 240) (by decide) rfl d_Mo_laysRanks_99 h10 h11 (?_ : WM _ 100 _ _ _ _)
    refine r_aload_n d_Mo_laysRanks_100 rfl (?_ : WM _ 101 _ _ _ _)
    refine r_dup d_Mo_laysRanks_101 rfl (?_ : WM _ 102 _ _ _ _)
    refine r_getI (k := 35) (j := 32) 32 (by decide) rfl clk_11 (by decide) (qm_5 (i := 68) rfl rfl) rfl rfl d_Mo_laysRanks_102 (y := (σ 35 32)) (ups_c (by decide)) (?_ : WM _ 105 _ _ _ _)
    refine r_iconst d_Mo_laysRanks_105 (by decide) (?_ : WM _ 106 _ _ _ _)
    obtain ⟨h12, h⟩ := h
    refine r_iadd d_Mo_laysRanks_106 h12 (?_ : WM _ 107 _ _ _ _)
    refine r_put (k := 35) (j := 32) 32 (by decide) rfl clk_11 (by decide) (qm_5 (i := 68) rfl rfl) rfl rfl rfl tyX11_ok rfl nmX11 d_Mo_laysRanks_107 (?_ : WM _ 110 _ _ _ _)
    obtain ⟨h13, h⟩ := h
    refine r_iinc (ls' := [(2, vI (x2 + 1)), (0, vR 35), (1, vI x1), (3, vI x3), (4, vI x4)]) d_Mo_laysRanks_110 rfl h13 (by decide) rfl (?_ : WM _ 113 _ _ _ _)
    refine r_goto 7 d_Mo_laysRanks_113 rfl ?_
    refine r_pick (ls' := [(0, vR 35), (1, vI x1), (2, vI (x2 + 1))]) [1, 2, 0] rfl ?_
    exact h
  · replace h := h.2 c9
    refine r_iload_n d_Mo_laysRanks_46 rfl (?_ : WM _ 47 _ _ _ _)
    refine r_aload_n d_Mo_laysRanks_47 rfl (?_ : WM _ 48 _ _ _ _)
    refine r_aload_n d_Mo_laysRanks_48 rfl (?_ : WM _ 49 _ _ _ _)
    refine r_getR (k := 35) (j := 21) (q := 45) (by decide) rfl clk_11 (by decide) (qm_5 (i := 57) rfl rfl) rfl d_Mo_laysRanks_49 (?_ : WM _ 52 _ _ _ _)
    refine r_aload_n d_Mo_laysRanks_52 rfl (?_ : WM _ 53 _ _ _ _)
    refine r_getR (k := 35) (j := 31) (q := 51) (by decide) rfl clk_11 (by decide) (qm_5 (i := 67) rfl rfl) rfl d_Mo_laysRanks_53 (?_ : WM _ 56 _ _ _ _)
    refine r_iload d_Mo_laysRanks_56 rfl (?_ : WM _ 58 _ _ _ _)
    refine r_iconst d_Mo_laysRanks_58 (by decide) (?_ : WM _ 59 _ _ _ _)
    obtain ⟨h14, h⟩ := h
    refine r_isub d_Mo_laysRanks_59 h14 (?_ : WM _ 60 _ _ _ _)
    obtain ⟨h15, h⟩ := h
    obtain ⟨h16, h⟩ := h
    refine r_iald (k := 51) (n := 240) (by decide) rfl d_Mo_laysRanks_60 h15 h16 (y := (σ 51 (x4 - 1))) rfl (?_ : WM _ 61 _ _ _ _)
    obtain ⟨h17, h⟩ := h
    obtain ⟨h18, h⟩ := h
    refine r_iald (k := 45) (n := 240) (by decide) rfl d_Mo_laysRanks_61 h17 h18 (y := (σ 45 (σ 51 (x4 - 1)))) rfl (?_ : WM _ 62 _ _ _ _)
    refine r_callV (ν := M_Mo_taintOf) (k := 35) [vI (σ 45 (σ 51 (x4 - 1)))] ok_M_Mo_taintOf okv_M_Mo_taintOf (by decide) rfl rfl rfl (qm_6 (i := 105) rfl rfl) np_M_Mo_taintOf rfl (by decide) (Nat.le_of_ble_eq_true rfl) rfl d_Mo_laysRanks_62 (CI.k h (fun v20 σ19 h => (?_ : WM _ 65 _ _ _ _)))
    obtain ⟨h21, h⟩ := h
    refine r_imul d_Mo_laysRanks_65 h21 (?_ : WM _ 66 _ _ _ _)
    refine r_iload_n d_Mo_laysRanks_66 rfl (?_ : WM _ 67 _ _ _ _)
    refine r_icmp_ge 92 d_Mo_laysRanks_67 rfl ⟨fun c22 => (?_ : WM _ 92 _ _ _ _), fun c22 => (?_ : WM _ 70 _ _ _ _)⟩
    · replace h := h.1 c22
      refine r_aload_n d_Mo_laysRanks_92 rfl (?_ : WM _ 93 _ _ _ _)
      refine r_getR (k := 35) (j := 31) (q := 51) (by decide) rfl clk_11 (by decide) (qm_5 (i := 67) rfl rfl) rfl d_Mo_laysRanks_93 (?_ : WM _ 96 _ _ _ _)
      refine r_iload d_Mo_laysRanks_96 rfl (?_ : WM _ 98 _ _ _ _)
      refine r_iload_n d_Mo_laysRanks_98 rfl (?_ : WM _ 99 _ _ _ _)
      obtain ⟨h23, h⟩ := h
      obtain ⟨h24, h⟩ := h
      refine r_iast (k := 51) (n := 240) (by decide) rfl d_Mo_laysRanks_99 h23 h24 (?_ : WM _ 100 _ _ _ _)
      refine r_aload_n d_Mo_laysRanks_100 rfl (?_ : WM _ 101 _ _ _ _)
      refine r_dup d_Mo_laysRanks_101 rfl (?_ : WM _ 102 _ _ _ _)
      refine r_getI (k := 35) (j := 32) 32 (by decide) rfl clk_11 (by decide) (qm_5 (i := 68) rfl rfl) rfl rfl d_Mo_laysRanks_102 (y := (σ19 35 32)) (ups_c (by decide)) (?_ : WM _ 105 _ _ _ _)
      refine r_iconst d_Mo_laysRanks_105 (by decide) (?_ : WM _ 106 _ _ _ _)
      obtain ⟨h25, h⟩ := h
      refine r_iadd d_Mo_laysRanks_106 h25 (?_ : WM _ 107 _ _ _ _)
      refine r_put (k := 35) (j := 32) 32 (by decide) rfl clk_11 (by decide) (qm_5 (i := 68) rfl rfl) rfl rfl rfl tyX11_ok rfl nmX11 d_Mo_laysRanks_107 (?_ : WM _ 110 _ _ _ _)
      obtain ⟨h26, h⟩ := h
      refine r_iinc (ls' := [(2, vI (x2 + 1)), (0, vR 35), (1, vI x1), (3, vI x3), (4, vI x4)]) d_Mo_laysRanks_110 rfl h26 (by decide) rfl (?_ : WM _ 113 _ _ _ _)
      refine r_goto 7 d_Mo_laysRanks_113 rfl ?_
      refine r_pick (ls' := [(0, vR 35), (1, vI x1), (2, vI (x2 + 1))]) [1, 2, 0] rfl ?_
      exact h
    · replace h := h.2 c22
      refine r_aload_n d_Mo_laysRanks_70 rfl (?_ : WM _ 71 _ _ _ _)
      refine r_getR (k := 35) (j := 31) (q := 51) (by decide) rfl clk_11 (by decide) (qm_5 (i := 67) rfl rfl) rfl d_Mo_laysRanks_71 (?_ : WM _ 74 _ _ _ _)
      refine r_iload d_Mo_laysRanks_74 rfl (?_ : WM _ 76 _ _ _ _)
      refine r_aload_n d_Mo_laysRanks_76 rfl (?_ : WM _ 77 _ _ _ _)
      refine r_getR (k := 35) (j := 31) (q := 51) (by decide) rfl clk_11 (by decide) (qm_5 (i := 67) rfl rfl) rfl d_Mo_laysRanks_77 (?_ : WM _ 80 _ _ _ _)
      refine r_iload d_Mo_laysRanks_80 rfl (?_ : WM _ 82 _ _ _ _)
      refine r_iconst d_Mo_laysRanks_82 (by decide) (?_ : WM _ 83 _ _ _ _)
      refine r_isub d_Mo_laysRanks_83 h14 (?_ : WM _ 84 _ _ _ _)
      refine r_iald (k := 51) (n := 240) (by decide) rfl d_Mo_laysRanks_84 h15 h16 (y := (σ19 51 (x4 - 1))) rfl (?_ : WM _ 85 _ _ _ _)
      obtain ⟨h27, h⟩ := h
      obtain ⟨h28, h⟩ := h
      refine r_iast (k := 51) (n := 240) (by decide) rfl d_Mo_laysRanks_85 h27 h28 (?_ : WM _ 86 _ _ _ _)
      obtain ⟨h29, h⟩ := h
      refine r_iinc (ls' := [(4, vI (x4 + (-1))), (0, vR 35), (1, vI x1), (2, vI x2), (3, vI x3)]) d_Mo_laysRanks_86 rfl h29 (by decide) rfl (?_ : WM _ 89 _ _ _ _)
      refine r_goto 41 d_Mo_laysRanks_89 rfl ?_
      refine r_pick (ls' := [(0, vR 35), (1, vI x1), (2, vI x2), (3, vI x3), (4, vI (x4 + (-1)))]) [1, 2, 3, 4, 0] rfl ?_
      exact h
set_option maxRecDepth 20000 in
theorem e_Mo_riseOf {K : Int → St → Prop} {σ : St} (x1 : Int) (x2 : Int) (h : (inR (x1 - 1)) ∧ (0 ≤ (x1 - 1)) ∧ ((x1 - 1) < 240) ∧ (0 ≤ (σ 51 (x1 - 1))) ∧ ((σ 51 (x1 - 1)) < 240) ∧ CI M_Mo_taintOf [vR 35, vI (σ 45 (σ 51 (x1 - 1)))] σ (fun v7 σ6 => CI M_Mo_upperOf [vR 35, vI x2, vI x1] σ6 (fun v9 σ8 => CI M_Mo_upperOf [vR 35, vI x2, vI (x1 - 1)] σ8 (fun v11 σ10 => (inR (v9 - v11)) ∧ (inL ((σ10 35 20) * (v9 - v11))) ∧ (0 ≤ v7 → (inL (((σ10 35 20) * (v9 - v11)) * v7)) ∧ (0 ≤ (((σ10 35 20) * (v9 - v11)) * v7)) ∧ (inR ((((σ10 35 20) * (v9 - v11)) * v7) / 10000000000)) ∧ K ((((σ10 35 20) * (v9 - v11)) * v7) / 10000000000) σ10) ∧ (¬ 0 ≤ v7 → (inR (-v7)) ∧ (inL (((σ10 35 20) * (v9 - v11)) * (-v7))) ∧ (0 ≤ (((σ10 35 20) * (v9 - v11)) * (-v7))) ∧ (inR ((((σ10 35 20) * (v9 - v11)) * (-v7)) / 10000000000)) ∧ K ((((σ10 35 20) * (v9 - v11)) * (-v7)) / 10000000000) σ10))))) : CI M_Mo_riseOf [vR 35, vI x1, vI x2] σ K := by
  refine Con.of ok_M_Mo_riseOf (ls := [(0, vR 35), (1, vI x1), (2, vI x2)]) rfl (Nat.le_of_ble_eq_true rfl) ?_
  refine r_aload_n d_Mo_riseOf_0 rfl (?_ : WM _ 1 _ _ _ _)
  refine r_aload_n d_Mo_riseOf_1 rfl (?_ : WM _ 2 _ _ _ _)
  refine r_getR (k := 35) (j := 21) (q := 45) (by decide) rfl clk_11 (by decide) (qm_5 (i := 57) rfl rfl) rfl d_Mo_riseOf_2 (?_ : WM _ 5 _ _ _ _)
  refine r_aload_n d_Mo_riseOf_5 rfl (?_ : WM _ 6 _ _ _ _)
  refine r_getR (k := 35) (j := 31) (q := 51) (by decide) rfl clk_11 (by decide) (qm_5 (i := 67) rfl rfl) rfl d_Mo_riseOf_6 (?_ : WM _ 9 _ _ _ _)
  refine r_iload_n d_Mo_riseOf_9 rfl (?_ : WM _ 10 _ _ _ _)
  refine r_iconst d_Mo_riseOf_10 (by decide) (?_ : WM _ 11 _ _ _ _)
  obtain ⟨h1, h⟩ := h
  refine r_isub d_Mo_riseOf_11 h1 (?_ : WM _ 12 _ _ _ _)
  obtain ⟨h2, h⟩ := h
  obtain ⟨h3, h⟩ := h
  refine r_iald (k := 51) (n := 240) (by decide) rfl d_Mo_riseOf_12 h2 h3 (y := (σ 51 (x1 - 1))) rfl (?_ : WM _ 13 _ _ _ _)
  obtain ⟨h4, h⟩ := h
  obtain ⟨h5, h⟩ := h
  refine r_iald (k := 45) (n := 240) (by decide) rfl d_Mo_riseOf_13 h4 h5 (y := (σ 45 (σ 51 (x1 - 1)))) rfl (?_ : WM _ 14 _ _ _ _)
  refine r_callV (ν := M_Mo_taintOf) (k := 35) [vI (σ 45 (σ 51 (x1 - 1)))] ok_M_Mo_taintOf okv_M_Mo_taintOf (by decide) rfl rfl rfl (qm_6 (i := 105) rfl rfl) np_M_Mo_taintOf rfl (by decide) (Nat.le_of_ble_eq_true rfl) rfl d_Mo_riseOf_14 (CI.k h (fun v7 σ6 h => (?_ : WM _ 17 _ _ _ _)))
  refine r_istore_n (ls' := [(3, vI v7), (0, vR 35), (1, vI x1), (2, vI x2)]) d_Mo_riseOf_17 rfl (by decide) rfl (?_ : WM _ 18 _ _ _ _)
  refine r_aload_n d_Mo_riseOf_18 rfl (?_ : WM _ 19 _ _ _ _)
  refine r_iload_n d_Mo_riseOf_19 rfl (?_ : WM _ 20 _ _ _ _)
  refine r_iload_n d_Mo_riseOf_20 rfl (?_ : WM _ 21 _ _ _ _)
  refine r_callV (ν := M_Mo_upperOf) (k := 35) [vI x2, vI x1] ok_M_Mo_upperOf okv_M_Mo_upperOf (by decide) rfl rfl rfl (qm_6 (i := 46) rfl rfl) np_M_Mo_upperOf rfl (by decide) (Nat.le_of_ble_eq_true rfl) rfl d_Mo_riseOf_21 (CI.k h (fun v9 σ8 h => (?_ : WM _ 24 _ _ _ _)))
  refine r_aload_n d_Mo_riseOf_24 rfl (?_ : WM _ 25 _ _ _ _)
  refine r_iload_n d_Mo_riseOf_25 rfl (?_ : WM _ 26 _ _ _ _)
  refine r_iload_n d_Mo_riseOf_26 rfl (?_ : WM _ 27 _ _ _ _)
  refine r_iconst d_Mo_riseOf_27 (by decide) (?_ : WM _ 28 _ _ _ _)
  refine r_isub d_Mo_riseOf_28 h1 (?_ : WM _ 29 _ _ _ _)
  refine r_callV (ν := M_Mo_upperOf) (k := 35) [vI x2, vI (x1 - 1)] ok_M_Mo_upperOf okv_M_Mo_upperOf (by decide) rfl rfl rfl (qm_6 (i := 46) rfl rfl) np_M_Mo_upperOf rfl (by decide) (Nat.le_of_ble_eq_true rfl) rfl d_Mo_riseOf_29 (CI.k h (fun v11 σ10 h => (?_ : WM _ 32 _ _ _ _)))
  obtain ⟨h12, h⟩ := h
  refine r_isub d_Mo_riseOf_32 h12 (?_ : WM _ 33 _ _ _ _)
  refine r_i2l d_Mo_riseOf_33 (?_ : WM _ 34 _ _ _ _)
  refine r_lstore (ls' := [(4, vL (v9 - v11)), (3, vI v7), (0, vR 35), (1, vI x1), (2, vI x2)]) d_Mo_riseOf_34 (by decide) rfl (?_ : WM _ 36 _ _ _ _)
  refine r_aload_n d_Mo_riseOf_36 rfl (?_ : WM _ 37 _ _ _ _)
  refine r_getI (k := 35) (j := 20) 20 (by decide) rfl clk_11 (by decide) (qm_5 (i := 56) rfl rfl) rfl rfl d_Mo_riseOf_37 (y := (σ10 35 20)) rfl (?_ : WM _ 40 _ _ _ _)
  refine r_i2l d_Mo_riseOf_40 (?_ : WM _ 41 _ _ _ _)
  refine r_lload d_Mo_riseOf_41 rfl (?_ : WM _ 43 _ _ _ _)
  obtain ⟨h13, h⟩ := h
  refine r_lmul d_Mo_riseOf_43 h13 (?_ : WM _ 44 _ _ _ _)
  refine r_iload_n d_Mo_riseOf_44 rfl (?_ : WM _ 45 _ _ _ _)
  refine r_if_ge 53 d_Mo_riseOf_45 rfl ⟨fun c14 => (?_ : WM _ 53 _ _ _ _), fun c14 => (?_ : WM _ 48 _ _ _ _)⟩
  · replace h := h.1 c14
    refine r_iload_n d_Mo_riseOf_53 rfl (?_ : WM _ 54 _ _ _ _)
    refine r_i2l d_Mo_riseOf_54 (?_ : WM _ 55 _ _ _ _)
    obtain ⟨h15, h⟩ := h
    refine r_lmul d_Mo_riseOf_55 h15 (?_ : WM _ 56 _ _ _ _)
    refine r_ldc2 10000000000 d_Mo_riseOf_56 (qm_6 (i := 205) rfl rfl) (by decide) (by decide) (?_ : WM _ 59 _ _ _ _)
    obtain ⟨h16, h⟩ := h
    refine r_ldivn d_Mo_riseOf_59 h16 (by decide) (?_ : WM _ 60 _ _ _ _)
    obtain ⟨h17, h⟩ := h
    refine r_l2i d_Mo_riseOf_60 h17 (?_ : WM _ 61 _ _ _ _)
    exact r_ireturn rfl d_Mo_riseOf_61 h
  · replace h := h.2 c14
    refine r_iload_n d_Mo_riseOf_48 rfl (?_ : WM _ 49 _ _ _ _)
    obtain ⟨h18, h⟩ := h
    refine r_ineg d_Mo_riseOf_49 h18 (?_ : WM _ 50 _ _ _ _)
    refine r_goto 54 d_Mo_riseOf_50 rfl ?_
    refine r_i2l d_Mo_riseOf_54 (?_ : WM _ 55 _ _ _ _)
    obtain ⟨h19, h⟩ := h
    refine r_lmul d_Mo_riseOf_55 h19 (?_ : WM _ 56 _ _ _ _)
    refine r_ldc2 10000000000 d_Mo_riseOf_56 (qm_6 (i := 205) rfl rfl) (by decide) (by decide) (?_ : WM _ 59 _ _ _ _)
    obtain ⟨h20, h⟩ := h
    refine r_ldivn d_Mo_riseOf_59 h20 (by decide) (?_ : WM _ 60 _ _ _ _)
    obtain ⟨h21, h⟩ := h
    refine r_l2i d_Mo_riseOf_60 h21 (?_ : WM _ 61 _ _ _ _)
    exact r_ireturn rfl d_Mo_riseOf_61 h
set_option maxRecDepth 20000 in
theorem e_Mo_basicBy {K : Int → St → Prop} {σ : St} (x1 : Int) (h : CI M_Mo_upperOf [vR 35, vI x1, vI 0] σ (fun v2 σ1 => (inL ((σ 35 20) * v2)) ∧ (0 ≤ ((σ 35 20) * v2)) ∧ (inR (((σ 35 20) * v2) / 1000000)) ∧ K (((σ 35 20) * v2) / 1000000) σ1)) : CI M_Mo_basicBy [vR 35, vI x1] σ K := by
  refine Con.of ok_M_Mo_basicBy (ls := [(0, vR 35), (1, vI x1)]) rfl (Nat.le_of_ble_eq_true rfl) ?_
  refine r_aload_n d_Mo_basicBy_0 rfl (?_ : WM _ 1 _ _ _ _)
  refine r_getI (k := 35) (j := 20) 20 (by decide) rfl clk_11 (by decide) (qm_5 (i := 56) rfl rfl) rfl rfl d_Mo_basicBy_1 (y := (σ 35 20)) rfl (?_ : WM _ 4 _ _ _ _)
  refine r_i2l d_Mo_basicBy_4 (?_ : WM _ 5 _ _ _ _)
  refine r_aload_n d_Mo_basicBy_5 rfl (?_ : WM _ 6 _ _ _ _)
  refine r_iload_n d_Mo_basicBy_6 rfl (?_ : WM _ 7 _ _ _ _)
  refine r_iconst d_Mo_basicBy_7 (by decide) (?_ : WM _ 8 _ _ _ _)
  refine r_callV (ν := M_Mo_upperOf) (k := 35) [vI x1, vI 0] ok_M_Mo_upperOf okv_M_Mo_upperOf (by decide) rfl rfl rfl (qm_6 (i := 46) rfl rfl) np_M_Mo_upperOf rfl (by decide) (Nat.le_of_ble_eq_true rfl) rfl d_Mo_basicBy_8 (CI.k h (fun v2 σ1 h => (?_ : WM _ 11 _ _ _ _)))
  refine r_i2l d_Mo_basicBy_11 (?_ : WM _ 12 _ _ _ _)
  obtain ⟨h3, h⟩ := h
  refine r_lmul d_Mo_basicBy_12 h3 (?_ : WM _ 13 _ _ _ _)
  refine r_ldc2 1000000 d_Mo_basicBy_13 (qm_6 (i := 60) rfl rfl) (by decide) (by decide) (?_ : WM _ 16 _ _ _ _)
  obtain ⟨h4, h⟩ := h
  refine r_ldivn d_Mo_basicBy_16 h4 (by decide) (?_ : WM _ 17 _ _ _ _)
  obtain ⟨h5, h⟩ := h
  refine r_l2i d_Mo_basicBy_17 h5 (?_ : WM _ 18 _ _ _ _)
  exact r_ireturn rfl d_Mo_basicBy_18 h
set_option maxRecDepth 20000 in
theorem e_Mo_risesBy {K : Int → St → Prop} {σ : St} (x1 : Int) (x2 : Int) (h : CV M_Mo_laysRanks [vR 35, vI x1] σ (fun σ1 => WM M_Mo_risesBy 10 [(0, vR 35), (2, vI x2), (3, vI 0), (4, vI 1)] [] σ1 (QI K))) : CI M_Mo_risesBy [vR 35, vI x1, vI x2] σ K := by
  refine Con.of ok_M_Mo_risesBy (ls := [(0, vR 35), (1, vI x1), (2, vI x2)]) rfl (Nat.le_of_ble_eq_true rfl) ?_
  refine r_aload_n d_Mo_risesBy_0 rfl (?_ : WM _ 1 _ _ _ _)
  refine r_iload_n d_Mo_risesBy_1 rfl (?_ : WM _ 2 _ _ _ _)
  refine r_callV (ν := M_Mo_laysRanks) (k := 35) [vI x1] ok_M_Mo_laysRanks okv_M_Mo_laysRanks (by decide) rfl rfl rfl (qm_6 (i := 197) rfl rfl) np_M_Mo_laysRanks rfl (by decide) (Nat.le_of_ble_eq_true rfl) rfl d_Mo_risesBy_2 (CV.k h (fun σ1 h => (?_ : WM _ 5 _ _ _ _)))
  refine r_iconst d_Mo_risesBy_5 (by decide) (?_ : WM _ 6 _ _ _ _)
  refine r_istore_n (ls' := [(3, vI 0), (0, vR 35), (1, vI x1), (2, vI x2)]) d_Mo_risesBy_6 rfl (by decide) rfl (?_ : WM _ 7 _ _ _ _)
  refine r_iconst d_Mo_risesBy_7 (by decide) (?_ : WM _ 8 _ _ _ _)
  refine r_istore (ls' := [(4, vI 1), (3, vI 0), (0, vR 35), (1, vI x1), (2, vI x2)]) d_Mo_risesBy_8 (by decide) rfl (?_ : WM _ 10 _ _ _ _)
  refine r_pick (ls' := [(0, vR 35), (2, vI x2), (3, vI 0), (4, vI 1)]) [2, 4, 1, 0] rfl ?_
  exact h
set_option maxRecDepth 20000 in
theorem l_Mo_risesBy_1 {K : Int → St → Prop} {σ : St} (x2 : Int) (x3 : Int) (x4 : Int) (h : ((σ 35 32) < x4 → K x3 σ) ∧ (¬ (σ 35 32) < x4 → CI M_Mo_riseOf [vR 35, vI x4, vI x2] σ (fun v5 σ4 => (inR (x3 + v5)) ∧ (inR (x4 + 1)) ∧ WM M_Mo_risesBy 10 [(0, vR 35), (2, vI x2), (3, vI (x3 + v5)), (4, vI (x4 + 1))] [] σ4 (QI K)))) : WM M_Mo_risesBy 10 [(0, vR 35), (2, vI x2), (3, vI x3), (4, vI x4)] [] σ (QI K) := by
  refine r_iload d_Mo_risesBy_10 rfl (?_ : WM _ 12 _ _ _ _)
  refine r_aload_n d_Mo_risesBy_12 rfl (?_ : WM _ 13 _ _ _ _)
  refine r_getI (k := 35) (j := 32) 32 (by decide) rfl clk_11 (by decide) (qm_5 (i := 68) rfl rfl) rfl rfl d_Mo_risesBy_13 (y := (σ 35 32)) rfl (?_ : WM _ 16 _ _ _ _)
  refine r_icmp_gt 35 d_Mo_risesBy_16 rfl ⟨fun c3 => (?_ : WM _ 35 _ _ _ _), fun c3 => (?_ : WM _ 19 _ _ _ _)⟩
  · replace h := h.1 c3
    refine r_iload_n d_Mo_risesBy_35 rfl (?_ : WM _ 36 _ _ _ _)
    exact r_ireturn rfl d_Mo_risesBy_36 h
  · replace h := h.2 c3
    refine r_iload_n d_Mo_risesBy_19 rfl (?_ : WM _ 20 _ _ _ _)
    refine r_aload_n d_Mo_risesBy_20 rfl (?_ : WM _ 21 _ _ _ _)
    refine r_iload d_Mo_risesBy_21 rfl (?_ : WM _ 23 _ _ _ _)
    refine r_iload_n d_Mo_risesBy_23 rfl (?_ : WM _ 24 _ _ _ _)
    refine r_callV (ν := M_Mo_riseOf) (k := 35) [vI x4, vI x2] ok_M_Mo_riseOf okv_M_Mo_riseOf (by decide) rfl rfl rfl (qm_6 (i := 201) rfl rfl) np_M_Mo_riseOf rfl (by decide) (Nat.le_of_ble_eq_true rfl) rfl d_Mo_risesBy_24 (CI.k h (fun v5 σ4 h => (?_ : WM _ 27 _ _ _ _)))
    obtain ⟨h6, h⟩ := h
    refine r_iadd d_Mo_risesBy_27 h6 (?_ : WM _ 28 _ _ _ _)
    refine r_istore_n (ls' := [(3, vI (x3 + v5)), (0, vR 35), (2, vI x2), (4, vI x4)]) d_Mo_risesBy_28 rfl (by decide) rfl (?_ : WM _ 29 _ _ _ _)
    obtain ⟨h7, h⟩ := h
    refine r_iinc (ls' := [(4, vI (x4 + 1)), (3, vI (x3 + v5)), (0, vR 35), (2, vI x2)]) d_Mo_risesBy_29 rfl h7 (by decide) rfl (?_ : WM _ 32 _ _ _ _)
    refine r_goto 10 d_Mo_risesBy_32 rfl ?_
    refine r_pick (ls' := [(0, vR 35), (2, vI x2), (3, vI (x3 + v5)), (4, vI (x4 + 1))]) [2, 3, 1, 0] rfl ?_
    exact h
set_option maxRecDepth 20000 in
theorem e_Mo_boundBy {K : Int → St → Prop} {σ : St} (x1 : Int) (x2 : Int) (h : CI M_Mo_basicBy [vR 35, vI x2] σ (fun v2 σ1 => CI M_Mo_risesBy [vR 35, vI x1, vI x2] σ1 (fun v4 σ3 => (inR (v2 + v4)) ∧ CI M_Mo_knownBy [vR 35, vI x1] σ3 (fun v7 σ6 => (inR ((v2 + v4) + v7)) ∧ (¬ (σ6 36 3) = 1 → K ((v2 + v4) + v7) σ6) ∧ ((σ6 36 3) = 1 → (inR (-x1)) ∧ CI M_Mo_knownBy [vR 35, vI (-x1)] σ6 (fun v12 σ11 => (inR (((v2 + v4) + v7) - v12)) ∧ CI M_Mo_projectedBy [vR 35, vI (-x1)] σ11 (fun v15 σ14 => (inR ((((v2 + v4) + v7) - v12) - v15)) ∧ K ((((v2 + v4) + v7) - v12) - v15) σ14))))))) : CI M_Mo_boundBy [vR 35, vI x1, vI x2] σ K := by
  refine Con.of ok_M_Mo_boundBy (ls := [(0, vR 35), (1, vI x1), (2, vI x2)]) rfl (Nat.le_of_ble_eq_true rfl) ?_
  refine r_aload_n d_Mo_boundBy_0 rfl (?_ : WM _ 1 _ _ _ _)
  refine r_iload_n d_Mo_boundBy_1 rfl (?_ : WM _ 2 _ _ _ _)
  refine r_callV (ν := M_Mo_basicBy) (k := 35) [vI x2] ok_M_Mo_basicBy okv_M_Mo_basicBy (by decide) rfl rfl rfl (qm_6 (i := 210) rfl rfl) np_M_Mo_basicBy rfl (by decide) (Nat.le_of_ble_eq_true rfl) rfl d_Mo_boundBy_2 (CI.k h (fun v2 σ1 h => (?_ : WM _ 5 _ _ _ _)))
  refine r_aload_n d_Mo_boundBy_5 rfl (?_ : WM _ 6 _ _ _ _)
  refine r_iload_n d_Mo_boundBy_6 rfl (?_ : WM _ 7 _ _ _ _)
  refine r_iload_n d_Mo_boundBy_7 rfl (?_ : WM _ 8 _ _ _ _)
  refine r_callV (ν := M_Mo_risesBy) (k := 35) [vI x1, vI x2] ok_M_Mo_risesBy okv_M_Mo_risesBy (by decide) rfl rfl rfl (qm_6 (i := 214) rfl rfl) np_M_Mo_risesBy rfl (by decide) (Nat.le_of_ble_eq_true rfl) rfl d_Mo_boundBy_8 (CI.k h (fun v4 σ3 h => (?_ : WM _ 11 _ _ _ _)))
  obtain ⟨h5, h⟩ := h
  refine r_iadd d_Mo_boundBy_11 h5 (?_ : WM _ 12 _ _ _ _)
  refine r_aload_n d_Mo_boundBy_12 rfl (?_ : WM _ 13 _ _ _ _)
  refine r_iload_n d_Mo_boundBy_13 rfl (?_ : WM _ 14 _ _ _ _)
  refine r_callV (ν := M_Mo_knownBy) (k := 35) [vI x1] ok_M_Mo_knownBy okv_M_Mo_knownBy (by decide) rfl rfl rfl (qm_6 (i := 189) rfl rfl) np_M_Mo_knownBy rfl (by decide) (Nat.le_of_ble_eq_true rfl) rfl d_Mo_boundBy_14 (CI.k h (fun v7 σ6 h => (?_ : WM _ 17 _ _ _ _)))
  obtain ⟨h8, h⟩ := h
  refine r_iadd d_Mo_boundBy_17 h8 (?_ : WM _ 18 _ _ _ _)
  refine r_istore_n (ls' := [(3, vI ((v2 + v4) + v7)), (0, vR 35), (1, vI x1), (2, vI x2)]) d_Mo_boundBy_18 rfl (by decide) rfl (?_ : WM _ 19 _ _ _ _)
  refine r_aload_n d_Mo_boundBy_19 rfl (?_ : WM _ 20 _ _ _ _)
  refine r_getR (k := 35) (j := 1) (q := 36) (by decide) rfl clk_11 (by decide) (qm_5 (i := 37) rfl rfl) rfl d_Mo_boundBy_20 (?_ : WM _ 23 _ _ _ _)
  refine r_iconst d_Mo_boundBy_23 (by decide) (?_ : WM _ 24 _ _ _ _)
  refine r_iald (k := 36) (n := 5) (by decide) rfl d_Mo_boundBy_24 (by decide) (by decide) (y := (σ6 36 3)) rfl (?_ : WM _ 25 _ _ _ _)
  refine r_iconst d_Mo_boundBy_25 (by decide) (?_ : WM _ 26 _ _ _ _)
  refine r_icmp_ne 47 d_Mo_boundBy_26 rfl ⟨fun c9 => (?_ : WM _ 47 _ _ _ _), fun c9 => (?_ : WM _ 29 _ _ _ _)⟩
  · replace h := h.1 c9
    refine r_iload_n d_Mo_boundBy_47 rfl (?_ : WM _ 48 _ _ _ _)
    exact r_ireturn rfl d_Mo_boundBy_48 h
  · replace h := h.2 c9
    refine r_iload_n d_Mo_boundBy_29 rfl (?_ : WM _ 30 _ _ _ _)
    refine r_aload_n d_Mo_boundBy_30 rfl (?_ : WM _ 31 _ _ _ _)
    refine r_iload_n d_Mo_boundBy_31 rfl (?_ : WM _ 32 _ _ _ _)
    obtain ⟨h10, h⟩ := h
    refine r_ineg d_Mo_boundBy_32 h10 (?_ : WM _ 33 _ _ _ _)
    refine r_callV (ν := M_Mo_knownBy) (k := 35) [vI (-x1)] ok_M_Mo_knownBy okv_M_Mo_knownBy (by decide) rfl rfl rfl (qm_6 (i := 189) rfl rfl) np_M_Mo_knownBy rfl (by decide) (Nat.le_of_ble_eq_true rfl) rfl d_Mo_boundBy_33 (CI.k h (fun v12 σ11 h => (?_ : WM _ 36 _ _ _ _)))
    obtain ⟨h13, h⟩ := h
    refine r_isub d_Mo_boundBy_36 h13 (?_ : WM _ 37 _ _ _ _)
    refine r_aload_n d_Mo_boundBy_37 rfl (?_ : WM _ 38 _ _ _ _)
    refine r_iload_n d_Mo_boundBy_38 rfl (?_ : WM _ 39 _ _ _ _)
    refine r_ineg d_Mo_boundBy_39 h10 (?_ : WM _ 40 _ _ _ _)
    refine r_callV (ν := M_Mo_projectedBy) (k := 35) [vI (-x1)] ok_M_Mo_projectedBy okv_M_Mo_projectedBy (by decide) rfl rfl rfl (qm_6 (i := 185) rfl rfl) np_M_Mo_projectedBy rfl (by decide) (Nat.le_of_ble_eq_true rfl) rfl d_Mo_boundBy_40 (CI.k h (fun v15 σ14 h => (?_ : WM _ 43 _ _ _ _)))
    obtain ⟨h16, h⟩ := h
    refine r_isub d_Mo_boundBy_43 h16 (?_ : WM _ 44 _ _ _ _)
    refine r_goto 48 d_Mo_boundBy_44 rfl ?_
    exact r_ireturn rfl d_Mo_boundBy_48 h
set_option maxRecDepth 20000 in
theorem e_Mo_boundIf {K : Int → St → Prop} {σ : St} (x1 : Int) (x2 : Int) (h : CI M_Mo_audited [vR 35, vI x1] σ (fun v2 σ1 => (inR (4 * x1)) ∧ (inR ((4 * x1) + 3)) ∧ (0 ≤ ((4 * x1) + 3)) ∧ (((4 * x1) + 3) < 192) ∧ CI M_Mo_boundBy [vR 35, vI 1, vI (σ1 35 25)] (ups σ1 39 ((4 * x1) + 3) x2) (fun v8 σ7 => K v8 (ups σ7 39 ((4 * x1) + 3) v2)))) : CI M_Mo_boundIf [vR 35, vI x1, vI x2] σ K := by
  refine Con.of ok_M_Mo_boundIf (ls := [(0, vR 35), (1, vI x1), (2, vI x2)]) rfl (Nat.le_of_ble_eq_true rfl) ?_
  refine r_aload_n d_Mo_boundIf_0 rfl (?_ : WM _ 1 _ _ _ _)
  refine r_iload_n d_Mo_boundIf_1 rfl (?_ : WM _ 2 _ _ _ _)
  refine r_callV (ν := M_Mo_audited) (k := 35) [vI x1] ok_M_Mo_audited okv_M_Mo_audited (by decide) rfl rfl rfl (qm_6 (i := 11) rfl rfl) np_M_Mo_audited rfl (by decide) (Nat.le_of_ble_eq_true rfl) rfl d_Mo_boundIf_2 (CI.k h (fun v2 σ1 h => (?_ : WM _ 5 _ _ _ _)))
  refine r_istore_n (ls' := [(3, vI v2), (0, vR 35), (1, vI x1), (2, vI x2)]) d_Mo_boundIf_5 rfl (by decide) rfl (?_ : WM _ 6 _ _ _ _)
  refine r_aload_n d_Mo_boundIf_6 rfl (?_ : WM _ 7 _ _ _ _)
  refine r_getR (k := 35) (j := 4) (q := 39) (by decide) rfl clk_11 (by decide) (qm_5 (i := 40) rfl rfl) rfl d_Mo_boundIf_7 (?_ : WM _ 10 _ _ _ _)
  refine r_iconst d_Mo_boundIf_10 (by decide) (?_ : WM _ 11 _ _ _ _)
  refine r_iload_n d_Mo_boundIf_11 rfl (?_ : WM _ 12 _ _ _ _)
  obtain ⟨h3, h⟩ := h
  refine r_imul d_Mo_boundIf_12 h3 (?_ : WM _ 13 _ _ _ _)
  refine r_iconst d_Mo_boundIf_13 (by decide) (?_ : WM _ 14 _ _ _ _)
  obtain ⟨h4, h⟩ := h
  refine r_iadd d_Mo_boundIf_14 h4 (?_ : WM _ 15 _ _ _ _)
  refine r_iload_n d_Mo_boundIf_15 rfl (?_ : WM _ 16 _ _ _ _)
  obtain ⟨h5, h⟩ := h
  obtain ⟨h6, h⟩ := h
  refine r_iast (k := 39) (n := 192) (by decide) rfl d_Mo_boundIf_16 h5 h6 (?_ : WM _ 17 _ _ _ _)
  refine r_aload_n d_Mo_boundIf_17 rfl (?_ : WM _ 18 _ _ _ _)
  refine r_iconst d_Mo_boundIf_18 (by decide) (?_ : WM _ 19 _ _ _ _)
  refine r_aload_n d_Mo_boundIf_19 rfl (?_ : WM _ 20 _ _ _ _)
  refine r_getI (k := 35) (j := 25) 25 (by decide) rfl clk_11 (by decide) (qm_5 (i := 61) rfl rfl) rfl rfl d_Mo_boundIf_20 (y := (σ1 35 25)) (ups_c (by decide)) (?_ : WM _ 23 _ _ _ _)
  refine r_callV (ν := M_Mo_boundBy) (k := 35) [vI 1, vI (σ1 35 25)] ok_M_Mo_boundBy okv_M_Mo_boundBy (by decide) rfl rfl rfl (qm_6 (i := 218) rfl rfl) np_M_Mo_boundBy rfl (by decide) (Nat.le_of_ble_eq_true rfl) rfl d_Mo_boundIf_23 (CI.k h (fun v8 σ7 h => (?_ : WM _ 26 _ _ _ _)))
  refine r_istore (ls' := [(4, vI v8), (3, vI v2), (0, vR 35), (1, vI x1), (2, vI x2)]) d_Mo_boundIf_26 (by decide) rfl (?_ : WM _ 28 _ _ _ _)
  refine r_aload_n d_Mo_boundIf_28 rfl (?_ : WM _ 29 _ _ _ _)
  refine r_getR (k := 35) (j := 4) (q := 39) (by decide) rfl clk_11 (by decide) (qm_5 (i := 40) rfl rfl) rfl d_Mo_boundIf_29 (?_ : WM _ 32 _ _ _ _)
  refine r_iconst d_Mo_boundIf_32 (by decide) (?_ : WM _ 33 _ _ _ _)
  refine r_iload_n d_Mo_boundIf_33 rfl (?_ : WM _ 34 _ _ _ _)
  refine r_imul d_Mo_boundIf_34 h3 (?_ : WM _ 35 _ _ _ _)
  refine r_iconst d_Mo_boundIf_35 (by decide) (?_ : WM _ 36 _ _ _ _)
  refine r_iadd d_Mo_boundIf_36 h4 (?_ : WM _ 37 _ _ _ _)
  refine r_iload_n d_Mo_boundIf_37 rfl (?_ : WM _ 38 _ _ _ _)
  refine r_iast (k := 39) (n := 192) (by decide) rfl d_Mo_boundIf_38 h5 h6 (?_ : WM _ 39 _ _ _ _)
  refine r_iload d_Mo_boundIf_39 rfl (?_ : WM _ 41 _ _ _ _)
  exact r_ireturn rfl d_Mo_boundIf_41 h
set_option maxRecDepth 20000 in
theorem e_Mo_isDrawn {K : Int → St → Prop} {σ : St} (x1 : Int) (h : (0 ≤ x1) ∧ (x1 < 48) ∧ (0 < (σ 48 x1) → K 1 σ) ∧ (¬ 0 < (σ 48 x1) → CI M_Mo_isCertain [vR 35, vI x1] σ (fun v5 σ4 => (v5 = 0 → K 0 σ4) ∧ (¬ v5 = 0 → K 1 σ4)))) : CI M_Mo_isDrawn [vR 35, vI x1] σ K := by
  refine Con.of ok_M_Mo_isDrawn (ls := [(0, vR 35), (1, vI x1)]) rfl (Nat.le_of_ble_eq_true rfl) ?_
  refine r_aload_n d_Mo_isDrawn_0 rfl (?_ : WM _ 1 _ _ _ _)
  refine r_getR (k := 35) (j := 24) (q := 48) (by decide) rfl clk_11 (by decide) (qm_5 (i := 60) rfl rfl) rfl d_Mo_isDrawn_1 (?_ : WM _ 4 _ _ _ _)
  refine r_iload_n d_Mo_isDrawn_4 rfl (?_ : WM _ 5 _ _ _ _)
  obtain ⟨h1, h⟩ := h
  obtain ⟨h2, h⟩ := h
  refine r_iald (k := 48) (n := 48) (by decide) rfl d_Mo_isDrawn_5 h1 h2 (y := (σ 48 x1)) rfl (?_ : WM _ 6 _ _ _ _)
  refine r_if_gt 17 d_Mo_isDrawn_6 rfl ⟨fun c3 => (?_ : WM _ 17 _ _ _ _), fun c3 => (?_ : WM _ 9 _ _ _ _)⟩
  · replace h := h.1 c3
    refine r_iconst d_Mo_isDrawn_17 (by decide) (?_ : WM _ 18 _ _ _ _)
    refine r_goto 22 d_Mo_isDrawn_18 rfl ?_
    exact r_zreturn rfl d_Mo_isDrawn_22 (by decide) h
  · replace h := h.2 c3
    refine r_aload_n d_Mo_isDrawn_9 rfl (?_ : WM _ 10 _ _ _ _)
    refine r_iload_n d_Mo_isDrawn_10 rfl (?_ : WM _ 11 _ _ _ _)
    refine r_callV (ν := M_Mo_isCertain) (k := 35) [vI x1] ok_M_Mo_isCertain okv_M_Mo_isCertain (by decide) rfl rfl rfl (qm_6 (i := 27) rfl rfl) np_M_Mo_isCertain rfl (by decide) (Nat.le_of_ble_eq_true rfl) rfl d_Mo_isDrawn_11 (CI.k h (fun v5 σ4 h => (?_ : WM _ 14 _ _ _ _)))
    refine r_if_eq 21 d_Mo_isDrawn_14 rfl ⟨fun c6 => (?_ : WM _ 21 _ _ _ _), fun c6 => (?_ : WM _ 17 _ _ _ _)⟩
    · replace h := h.1 c6
      refine r_iconst d_Mo_isDrawn_21 (by decide) (?_ : WM _ 22 _ _ _ _)
      exact r_zreturn rfl d_Mo_isDrawn_22 (by decide) h
    · replace h := h.2 c6
      refine r_iconst d_Mo_isDrawn_17 (by decide) (?_ : WM _ 18 _ _ _ _)
      refine r_goto 22 d_Mo_isDrawn_18 rfl ?_
      exact r_zreturn rfl d_Mo_isDrawn_22 (by decide) h
set_option maxRecDepth 20000 in
theorem e_Mo_lackingNow {K : Int → St → Prop} {σ : St}  (h : WM M_Mo_lackingNow 4 [(0, vR 35), (1, vI 0), (2, vI 0)] [] σ (QI K)) : CI M_Mo_lackingNow [vR 35] σ K := by
  refine Con.of ok_M_Mo_lackingNow (ls := [(0, vR 35)]) rfl (Nat.le_of_ble_eq_true rfl) ?_
  refine r_iconst d_Mo_lackingNow_0 (by decide) (?_ : WM _ 1 _ _ _ _)
  refine r_istore_n (ls' := [(1, vI 0), (0, vR 35)]) d_Mo_lackingNow_1 rfl (by decide) rfl (?_ : WM _ 2 _ _ _ _)
  refine r_iconst d_Mo_lackingNow_2 (by decide) (?_ : WM _ 3 _ _ _ _)
  refine r_istore_n (ls' := [(2, vI 0), (1, vI 0), (0, vR 35)]) d_Mo_lackingNow_3 rfl (by decide) rfl (?_ : WM _ 4 _ _ _ _)
  refine r_pick (ls' := [(0, vR 35), (1, vI 0), (2, vI 0)]) [2, 1, 0] rfl ?_
  exact h
set_option maxRecDepth 20000 in
theorem l_Mo_lackingNow_1 {K : Int → St → Prop} {σ : St} (x1 : Int) (x2 : Int) (h : ((σ 35 6) ≤ x2 → K x1 σ) ∧ (¬ (σ 35 6) ≤ x2 → CI M_Mo_isSo [vR 35, vI x2, vI 1] σ (fun v3 σ2 => (v3 = 0 → (inR (x1 + 0)) ∧ (inR (x2 + 1)) ∧ WM M_Mo_lackingNow 4 [(0, vR 35), (1, vI (x1 + 0)), (2, vI (x2 + 1))] [] σ2 (QI K)) ∧ (¬ v3 = 0 → (inR (x1 + 1)) ∧ (inR (x2 + 1)) ∧ WM M_Mo_lackingNow 4 [(0, vR 35), (1, vI (x1 + 1)), (2, vI (x2 + 1))] [] σ2 (QI K))))) : WM M_Mo_lackingNow 4 [(0, vR 35), (1, vI x1), (2, vI x2)] [] σ (QI K) := by
  refine r_iload_n d_Mo_lackingNow_4 rfl (?_ : WM _ 5 _ _ _ _)
  refine r_aload_n d_Mo_lackingNow_5 rfl (?_ : WM _ 6 _ _ _ _)
  refine r_getI (k := 35) (j := 6) 6 (by decide) rfl clk_11 (by decide) (qm_5 (i := 42) rfl rfl) rfl rfl d_Mo_lackingNow_6 (y := (σ 35 6)) rfl (?_ : WM _ 9 _ _ _ _)
  refine r_icmp_ge 35 d_Mo_lackingNow_9 rfl ⟨fun c1 => (?_ : WM _ 35 _ _ _ _), fun c1 => (?_ : WM _ 12 _ _ _ _)⟩
  · replace h := h.1 c1
    refine r_iload_n d_Mo_lackingNow_35 rfl (?_ : WM _ 36 _ _ _ _)
    exact r_ireturn rfl d_Mo_lackingNow_36 h
  · replace h := h.2 c1
    refine r_iload_n d_Mo_lackingNow_12 rfl (?_ : WM _ 13 _ _ _ _)
    refine r_aload_n d_Mo_lackingNow_13 rfl (?_ : WM _ 14 _ _ _ _)
    refine r_iload_n d_Mo_lackingNow_14 rfl (?_ : WM _ 15 _ _ _ _)
    refine r_iconst d_Mo_lackingNow_15 (by decide) (?_ : WM _ 16 _ _ _ _)
    refine r_callV (ν := M_Mo_isSo) (k := 35) [vI x2, vI 1] ok_M_Mo_isSo okv_M_Mo_isSo (by decide) rfl rfl rfl (qm_6 (i := 129) rfl rfl) np_M_Mo_isSo rfl (by decide) (Nat.le_of_ble_eq_true rfl) rfl d_Mo_lackingNow_16 (CI.k h (fun v3 σ2 h => (?_ : WM _ 19 _ _ _ _)))
    refine r_if_eq 26 d_Mo_lackingNow_19 rfl ⟨fun c4 => (?_ : WM _ 26 _ _ _ _), fun c4 => (?_ : WM _ 22 _ _ _ _)⟩
    · replace h := h.1 c4
      refine r_iconst d_Mo_lackingNow_26 (by decide) (?_ : WM _ 27 _ _ _ _)
      obtain ⟨h5, h⟩ := h
      refine r_iadd d_Mo_lackingNow_27 h5 (?_ : WM _ 28 _ _ _ _)
      refine r_istore_n (ls' := [(1, vI (x1 + 0)), (0, vR 35), (2, vI x2)]) d_Mo_lackingNow_28 rfl (by decide) rfl (?_ : WM _ 29 _ _ _ _)
      obtain ⟨h6, h⟩ := h
      refine r_iinc (ls' := [(2, vI (x2 + 1)), (1, vI (x1 + 0)), (0, vR 35)]) d_Mo_lackingNow_29 rfl h6 (by decide) rfl (?_ : WM _ 32 _ _ _ _)
      refine r_goto 4 d_Mo_lackingNow_32 rfl ?_
      refine r_pick (ls' := [(0, vR 35), (1, vI (x1 + 0)), (2, vI (x2 + 1))]) [2, 1, 0] rfl ?_
      exact h
    · replace h := h.2 c4
      refine r_iconst d_Mo_lackingNow_22 (by decide) (?_ : WM _ 23 _ _ _ _)
      refine r_goto 27 d_Mo_lackingNow_23 rfl ?_
      obtain ⟨h7, h⟩ := h
      refine r_iadd d_Mo_lackingNow_27 h7 (?_ : WM _ 28 _ _ _ _)
      refine r_istore_n (ls' := [(1, vI (x1 + 1)), (0, vR 35), (2, vI x2)]) d_Mo_lackingNow_28 rfl (by decide) rfl (?_ : WM _ 29 _ _ _ _)
      obtain ⟨h8, h⟩ := h
      refine r_iinc (ls' := [(2, vI (x2 + 1)), (1, vI (x1 + 1)), (0, vR 35)]) d_Mo_lackingNow_29 rfl h8 (by decide) rfl (?_ : WM _ 32 _ _ _ _)
      refine r_goto 4 d_Mo_lackingNow_32 rfl ?_
      refine r_pick (ls' := [(0, vR 35), (1, vI (x1 + 1)), (2, vI (x2 + 1))]) [2, 1, 0] rfl ?_
      exact h
set_option maxRecDepth 20000 in
theorem e_Mo_catches {K : Int → St → Prop} {σ : St} (x1 : Int) (x2 : Int) (h : (0 ≤ x2) ∧ (x2 < 48) ∧ (¬ (σ 44 x2) = 0 → (inR (x1 - 1)) ∧ (inR ((σ 44 x2) - 1)) ∧ (0 ≤ ((σ 44 x2) - 1)) ∧ (0 < (σ 35 9)) ∧ (inR ((x1 - 1) - (((σ 44 x2) - 1) % (σ 35 9)))) ∧ (0 ≤ ((x1 - 1) - (((σ 44 x2) - 1) % (σ 35 9))) → CI M_Mo_coinsOf [vR 35, vI x2] σ (fun v11 σ10 => (v11 ≤ ((x1 - 1) - (((σ 44 x2) - 1) % (σ 35 9))) → K 0 σ10) ∧ (¬ v11 ≤ ((x1 - 1) - (((σ 44 x2) - 1) % (σ 35 9))) → K 1 σ10))) ∧ (¬ 0 ≤ ((x1 - 1) - (((σ 44 x2) - 1) % (σ 35 9))) → (inR (((x1 - 1) - (((σ 44 x2) - 1) % (σ 35 9))) + (σ 35 9))) ∧ CI M_Mo_coinsOf [vR 35, vI x2] σ (fun v15 σ14 => (v15 ≤ (((x1 - 1) - (((σ 44 x2) - 1) % (σ 35 9))) + (σ 35 9)) → K 0 σ14) ∧ (¬ v15 ≤ (((x1 - 1) - (((σ 44 x2) - 1) % (σ 35 9))) + (σ 35 9)) → K 1 σ14)))) ∧ ((σ 44 x2) = 0 → K 0 σ)) : CI M_Mo_catches [vR 35, vI x1, vI x2] σ K := by
  refine Con.of ok_M_Mo_catches (ls := [(0, vR 35), (1, vI x1), (2, vI x2)]) rfl (Nat.le_of_ble_eq_true rfl) ?_
  refine r_aload_n d_Mo_catches_0 rfl (?_ : WM _ 1 _ _ _ _)
  refine r_getR (k := 35) (j := 19) (q := 44) (by decide) rfl clk_11 (by decide) (qm_5 (i := 55) rfl rfl) rfl d_Mo_catches_1 (?_ : WM _ 4 _ _ _ _)
  refine r_iload_n d_Mo_catches_4 rfl (?_ : WM _ 5 _ _ _ _)
  obtain ⟨h1, h⟩ := h
  obtain ⟨h2, h⟩ := h
  refine r_iald (k := 44) (n := 48) (by decide) rfl d_Mo_catches_5 h1 h2 (y := (σ 44 x2)) rfl (?_ : WM _ 6 _ _ _ _)
  refine r_if_ne 11 d_Mo_catches_6 rfl ⟨fun c3 => (?_ : WM _ 11 _ _ _ _), fun c3 => (?_ : WM _ 9 _ _ _ _)⟩
  · replace h := h.1 c3
    refine r_iload_n d_Mo_catches_11 rfl (?_ : WM _ 12 _ _ _ _)
    refine r_iconst d_Mo_catches_12 (by decide) (?_ : WM _ 13 _ _ _ _)
    obtain ⟨h4, h⟩ := h
    refine r_isub d_Mo_catches_13 h4 (?_ : WM _ 14 _ _ _ _)
    refine r_aload_n d_Mo_catches_14 rfl (?_ : WM _ 15 _ _ _ _)
    refine r_getR (k := 35) (j := 19) (q := 44) (by decide) rfl clk_11 (by decide) (qm_5 (i := 55) rfl rfl) rfl d_Mo_catches_15 (?_ : WM _ 18 _ _ _ _)
    refine r_iload_n d_Mo_catches_18 rfl (?_ : WM _ 19 _ _ _ _)
    refine r_iald (k := 44) (n := 48) (by decide) rfl d_Mo_catches_19 h1 h2 (y := (σ 44 x2)) rfl (?_ : WM _ 20 _ _ _ _)
    refine r_iconst d_Mo_catches_20 (by decide) (?_ : WM _ 21 _ _ _ _)
    obtain ⟨h5, h⟩ := h
    refine r_isub d_Mo_catches_21 h5 (?_ : WM _ 22 _ _ _ _)
    refine r_aload_n d_Mo_catches_22 rfl (?_ : WM _ 23 _ _ _ _)
    refine r_getI (k := 35) (j := 9) 9 (by decide) rfl clk_11 (by decide) (qm_5 (i := 45) rfl rfl) rfl rfl d_Mo_catches_23 (y := (σ 35 9)) rfl (?_ : WM _ 26 _ _ _ _)
    obtain ⟨h6, h⟩ := h
    obtain ⟨h7, h⟩ := h
    refine r_iremn d_Mo_catches_26 h6 h7 (?_ : WM _ 27 _ _ _ _)
    obtain ⟨h8, h⟩ := h
    refine r_isub d_Mo_catches_27 h8 (?_ : WM _ 28 _ _ _ _)
    refine r_istore_n (ls' := [(3, vI ((x1 - 1) - (((σ 44 x2) - 1) % (σ 35 9)))), (0, vR 35), (1, vI x1), (2, vI x2)]) d_Mo_catches_28 rfl (by decide) rfl (?_ : WM _ 29 _ _ _ _)
    refine r_iload_n d_Mo_catches_29 rfl (?_ : WM _ 30 _ _ _ _)
    refine r_if_ge 42 d_Mo_catches_30 rfl ⟨fun c9 => (?_ : WM _ 42 _ _ _ _), fun c9 => (?_ : WM _ 33 _ _ _ _)⟩
    · replace h := h.1 c9
      refine r_iload_n d_Mo_catches_42 rfl (?_ : WM _ 43 _ _ _ _)
      refine r_aload_n d_Mo_catches_43 rfl (?_ : WM _ 44 _ _ _ _)
      refine r_iload_n d_Mo_catches_44 rfl (?_ : WM _ 45 _ _ _ _)
      refine r_callV (ν := M_Mo_coinsOf) (k := 35) [vI x2] ok_M_Mo_coinsOf okv_M_Mo_coinsOf (by decide) rfl rfl rfl (qm_6 (i := 7) rfl rfl) np_M_Mo_coinsOf rfl (by decide) (Nat.le_of_ble_eq_true rfl) rfl d_Mo_catches_45 (CI.k h (fun v11 σ10 h => (?_ : WM _ 48 _ _ _ _)))
      refine r_icmp_ge 55 d_Mo_catches_48 rfl ⟨fun c12 => (?_ : WM _ 55 _ _ _ _), fun c12 => (?_ : WM _ 51 _ _ _ _)⟩
      · replace h := h.1 c12
        refine r_iconst d_Mo_catches_55 (by decide) (?_ : WM _ 56 _ _ _ _)
        exact r_zreturn rfl d_Mo_catches_56 (by decide) h
      · replace h := h.2 c12
        refine r_iconst d_Mo_catches_51 (by decide) (?_ : WM _ 52 _ _ _ _)
        refine r_goto 56 d_Mo_catches_52 rfl ?_
        exact r_zreturn rfl d_Mo_catches_56 (by decide) h
    · replace h := h.2 c9
      refine r_iload_n d_Mo_catches_33 rfl (?_ : WM _ 34 _ _ _ _)
      refine r_aload_n d_Mo_catches_34 rfl (?_ : WM _ 35 _ _ _ _)
      refine r_getI (k := 35) (j := 9) 9 (by decide) rfl clk_11 (by decide) (qm_5 (i := 45) rfl rfl) rfl rfl d_Mo_catches_35 (y := (σ 35 9)) rfl (?_ : WM _ 38 _ _ _ _)
      obtain ⟨h13, h⟩ := h
      refine r_iadd d_Mo_catches_38 h13 (?_ : WM _ 39 _ _ _ _)
      refine r_goto 43 d_Mo_catches_39 rfl ?_
      refine r_aload_n d_Mo_catches_43 rfl (?_ : WM _ 44 _ _ _ _)
      refine r_iload_n d_Mo_catches_44 rfl (?_ : WM _ 45 _ _ _ _)
      refine r_callV (ν := M_Mo_coinsOf) (k := 35) [vI x2] ok_M_Mo_coinsOf okv_M_Mo_coinsOf (by decide) rfl rfl rfl (qm_6 (i := 7) rfl rfl) np_M_Mo_coinsOf rfl (by decide) (Nat.le_of_ble_eq_true rfl) rfl d_Mo_catches_45 (CI.k h (fun v15 σ14 h => (?_ : WM _ 48 _ _ _ _)))
      refine r_icmp_ge 55 d_Mo_catches_48 rfl ⟨fun c16 => (?_ : WM _ 55 _ _ _ _), fun c16 => (?_ : WM _ 51 _ _ _ _)⟩
      · replace h := h.1 c16
        refine r_iconst d_Mo_catches_55 (by decide) (?_ : WM _ 56 _ _ _ _)
        exact r_zreturn rfl d_Mo_catches_56 (by decide) h
      · replace h := h.2 c16
        refine r_iconst d_Mo_catches_51 (by decide) (?_ : WM _ 52 _ _ _ _)
        refine r_goto 56 d_Mo_catches_52 rfl ?_
        exact r_zreturn rfl d_Mo_catches_56 (by decide) h
  · replace h := h.2 c3
    refine r_iconst d_Mo_catches_9 (by decide) (?_ : WM _ 10 _ _ _ _)
    exact r_zreturn rfl d_Mo_catches_10 (by decide) h
set_option maxRecDepth 20000 in
theorem e_Mo_laysTurns {K : St → Prop} {σ : St}  (h : CV M_Mo_laysRest [vR 35, vI (σ 35 9)] σ (fun σ1 => CV M_Mo_laysTurn [vR 35, vI 1] (ups σ1 35 34 0) (fun σ3 => WM M_Mo_laysTurns 20 [(0, vR 35), (1, vI 0)] [] σ3 (QV K)))) : CV M_Mo_laysTurns [vR 35] σ K := by
  refine Con.of ok_M_Mo_laysTurns (ls := [(0, vR 35)]) rfl (Nat.le_of_ble_eq_true rfl) ?_
  refine r_aload_n d_Mo_laysTurns_0 rfl (?_ : WM _ 1 _ _ _ _)
  refine r_aload_n d_Mo_laysTurns_1 rfl (?_ : WM _ 2 _ _ _ _)
  refine r_getI (k := 35) (j := 9) 9 (by decide) rfl clk_11 (by decide) (qm_5 (i := 45) rfl rfl) rfl rfl d_Mo_laysTurns_2 (y := (σ 35 9)) rfl (?_ : WM _ 5 _ _ _ _)
  refine r_callV (ν := M_Mo_laysRest) (k := 35) [vI (σ 35 9)] ok_M_Mo_laysRest okv_M_Mo_laysRest (by decide) rfl rfl rfl (qm_6 (i := 93) rfl rfl) np_M_Mo_laysRest rfl (by decide) (Nat.le_of_ble_eq_true rfl) rfl d_Mo_laysTurns_5 (CV.k h (fun σ1 h => (?_ : WM _ 8 _ _ _ _)))
  refine r_aload_n d_Mo_laysTurns_8 rfl (?_ : WM _ 9 _ _ _ _)
  refine r_iconst d_Mo_laysTurns_9 (by decide) (?_ : WM _ 10 _ _ _ _)
  refine r_put (k := 35) (j := 34) 34 (by decide) rfl clk_11 (by decide) (qm_5 (i := 70) rfl rfl) rfl rfl rfl tyX11_ok rfl nmX11 d_Mo_laysTurns_10 (?_ : WM _ 13 _ _ _ _)
  refine r_aload_n d_Mo_laysTurns_13 rfl (?_ : WM _ 14 _ _ _ _)
  refine r_iconst d_Mo_laysTurns_14 (by decide) (?_ : WM _ 15 _ _ _ _)
  refine r_callV (ν := M_Mo_laysTurn) (k := 35) [vI 1] ok_M_Mo_laysTurn okv_M_Mo_laysTurn (by decide) rfl rfl rfl (qm_7 (i := 45) rfl rfl) np_M_Mo_laysTurn rfl (by decide) (Nat.le_of_ble_eq_true rfl) rfl d_Mo_laysTurns_15 (CV.k h (fun σ3 h => (?_ : WM _ 18 _ _ _ _)))
  refine r_iconst d_Mo_laysTurns_18 (by decide) (?_ : WM _ 19 _ _ _ _)
  refine r_istore_n (ls' := [(1, vI 0), (0, vR 35)]) d_Mo_laysTurns_19 rfl (by decide) rfl (?_ : WM _ 20 _ _ _ _)
  refine r_pick (ls' := [(0, vR 35), (1, vI 0)]) [1, 0] rfl ?_
  exact h
set_option maxRecDepth 20000 in
theorem l_Mo_laysTurns_1 {K : St → Prop} {σ : St} (x1 : Int) (h : ((σ 35 6) ≤ x1 → K σ) ∧ (¬ (σ 35 6) ≤ x1 → (0 ≤ x1) ∧ (x1 < 48) ∧ (¬ (σ 44 x1) = 0 → (inR ((σ 44 x1) - 1)) ∧ (0 ≤ ((σ 44 x1) - 1)) ∧ (0 < (σ 35 9)) ∧ (inR ((((σ 44 x1) - 1) % (σ 35 9)) + 1)) ∧ CV M_Mo_laysTurn [vR 35, vI ((((σ 44 x1) - 1) % (σ 35 9)) + 1)] σ (fun σ13 => (inR ((σ13 44 x1) - 1)) ∧ CI M_Mo_coinsOf [vR 35, vI x1] σ13 (fun v17 σ16 => (inR (((σ13 44 x1) - 1) + v17)) ∧ (0 ≤ (((σ13 44 x1) - 1) + v17)) ∧ (0 < (σ16 35 9)) ∧ (inR (((((σ13 44 x1) - 1) + v17) % (σ16 35 9)) + 1)) ∧ CV M_Mo_laysTurn [vR 35, vI (((((σ13 44 x1) - 1) + v17) % (σ16 35 9)) + 1)] σ16 (fun σ22 => (inR (x1 + 1)) ∧ WM M_Mo_laysTurns 20 [(0, vR 35), (1, vI (x1 + 1))] [] σ22 (QV K))))) ∧ ((σ 44 x1) = 0 → (inR (x1 + 1)) ∧ WM M_Mo_laysTurns 20 [(0, vR 35), (1, vI (x1 + 1))] [] σ (QV K)))) : WM M_Mo_laysTurns 20 [(0, vR 35), (1, vI x1)] [] σ (QV K) := by
  refine r_iload_n d_Mo_laysTurns_20 rfl (?_ : WM _ 21 _ _ _ _)
  refine r_aload_n d_Mo_laysTurns_21 rfl (?_ : WM _ 22 _ _ _ _)
  refine r_getI (k := 35) (j := 6) 6 (by decide) rfl clk_11 (by decide) (qm_5 (i := 42) rfl rfl) rfl rfl d_Mo_laysTurns_22 (y := (σ 35 6)) rfl (?_ : WM _ 25 _ _ _ _)
  refine r_icmp_ge 90 d_Mo_laysTurns_25 rfl ⟨fun c5 => (?_ : WM _ 90 _ _ _ _), fun c5 => (?_ : WM _ 28 _ _ _ _)⟩
  · replace h := h.1 c5
    exact r_return rfl d_Mo_laysTurns_90 h
  · replace h := h.2 c5
    refine r_aload_n d_Mo_laysTurns_28 rfl (?_ : WM _ 29 _ _ _ _)
    refine r_getR (k := 35) (j := 19) (q := 44) (by decide) rfl clk_11 (by decide) (qm_5 (i := 55) rfl rfl) rfl d_Mo_laysTurns_29 (?_ : WM _ 32 _ _ _ _)
    refine r_iload_n d_Mo_laysTurns_32 rfl (?_ : WM _ 33 _ _ _ _)
    obtain ⟨h6, h⟩ := h
    obtain ⟨h7, h⟩ := h
    refine r_iald (k := 44) (n := 48) (by decide) rfl d_Mo_laysTurns_33 h6 h7 (y := (σ 44 x1)) rfl (?_ : WM _ 34 _ _ _ _)
    refine r_if_ne 40 d_Mo_laysTurns_34 rfl ⟨fun c8 => (?_ : WM _ 40 _ _ _ _), fun c8 => (?_ : WM _ 37 _ _ _ _)⟩
    · replace h := h.1 c8
      refine r_aload_n d_Mo_laysTurns_40 rfl (?_ : WM _ 41 _ _ _ _)
      refine r_aload_n d_Mo_laysTurns_41 rfl (?_ : WM _ 42 _ _ _ _)
      refine r_getR (k := 35) (j := 19) (q := 44) (by decide) rfl clk_11 (by decide) (qm_5 (i := 55) rfl rfl) rfl d_Mo_laysTurns_42 (?_ : WM _ 45 _ _ _ _)
      refine r_iload_n d_Mo_laysTurns_45 rfl (?_ : WM _ 46 _ _ _ _)
      refine r_iald (k := 44) (n := 48) (by decide) rfl d_Mo_laysTurns_46 h6 h7 (y := (σ 44 x1)) rfl (?_ : WM _ 47 _ _ _ _)
      refine r_iconst d_Mo_laysTurns_47 (by decide) (?_ : WM _ 48 _ _ _ _)
      obtain ⟨h9, h⟩ := h
      refine r_isub d_Mo_laysTurns_48 h9 (?_ : WM _ 49 _ _ _ _)
      refine r_aload_n d_Mo_laysTurns_49 rfl (?_ : WM _ 50 _ _ _ _)
      refine r_getI (k := 35) (j := 9) 9 (by decide) rfl clk_11 (by decide) (qm_5 (i := 45) rfl rfl) rfl rfl d_Mo_laysTurns_50 (y := (σ 35 9)) rfl (?_ : WM _ 53 _ _ _ _)
      obtain ⟨h10, h⟩ := h
      obtain ⟨h11, h⟩ := h
      refine r_iremn d_Mo_laysTurns_53 h10 h11 (?_ : WM _ 54 _ _ _ _)
      refine r_iconst d_Mo_laysTurns_54 (by decide) (?_ : WM _ 55 _ _ _ _)
      obtain ⟨h12, h⟩ := h
      refine r_iadd d_Mo_laysTurns_55 h12 (?_ : WM _ 56 _ _ _ _)
      refine r_callV (ν := M_Mo_laysTurn) (k := 35) [vI ((((σ 44 x1) - 1) % (σ 35 9)) + 1)] ok_M_Mo_laysTurn okv_M_Mo_laysTurn (by decide) rfl rfl rfl (qm_7 (i := 45) rfl rfl) np_M_Mo_laysTurn rfl (by decide) (Nat.le_of_ble_eq_true rfl) rfl d_Mo_laysTurns_56 (CV.k h (fun σ13 h => (?_ : WM _ 59 _ _ _ _)))
      refine r_aload_n d_Mo_laysTurns_59 rfl (?_ : WM _ 60 _ _ _ _)
      refine r_aload_n d_Mo_laysTurns_60 rfl (?_ : WM _ 61 _ _ _ _)
      refine r_getR (k := 35) (j := 19) (q := 44) (by decide) rfl clk_11 (by decide) (qm_5 (i := 55) rfl rfl) rfl d_Mo_laysTurns_61 (?_ : WM _ 64 _ _ _ _)
      refine r_iload_n d_Mo_laysTurns_64 rfl (?_ : WM _ 65 _ _ _ _)
      refine r_iald (k := 44) (n := 48) (by decide) rfl d_Mo_laysTurns_65 h6 h7 (y := (σ13 44 x1)) rfl (?_ : WM _ 66 _ _ _ _)
      refine r_iconst d_Mo_laysTurns_66 (by decide) (?_ : WM _ 67 _ _ _ _)
      obtain ⟨h15, h⟩ := h
      refine r_isub d_Mo_laysTurns_67 h15 (?_ : WM _ 68 _ _ _ _)
      refine r_aload_n d_Mo_laysTurns_68 rfl (?_ : WM _ 69 _ _ _ _)
      refine r_iload_n d_Mo_laysTurns_69 rfl (?_ : WM _ 70 _ _ _ _)
      refine r_callV (ν := M_Mo_coinsOf) (k := 35) [vI x1] ok_M_Mo_coinsOf okv_M_Mo_coinsOf (by decide) rfl rfl rfl (qm_6 (i := 7) rfl rfl) np_M_Mo_coinsOf rfl (by decide) (Nat.le_of_ble_eq_true rfl) rfl d_Mo_laysTurns_70 (CI.k h (fun v17 σ16 h => (?_ : WM _ 73 _ _ _ _)))
      obtain ⟨h18, h⟩ := h
      refine r_iadd d_Mo_laysTurns_73 h18 (?_ : WM _ 74 _ _ _ _)
      refine r_aload_n d_Mo_laysTurns_74 rfl (?_ : WM _ 75 _ _ _ _)
      refine r_getI (k := 35) (j := 9) 9 (by decide) rfl clk_11 (by decide) (qm_5 (i := 45) rfl rfl) rfl rfl d_Mo_laysTurns_75 (y := (σ16 35 9)) rfl (?_ : WM _ 78 _ _ _ _)
      obtain ⟨h19, h⟩ := h
      obtain ⟨h20, h⟩ := h
      refine r_iremn d_Mo_laysTurns_78 h19 h20 (?_ : WM _ 79 _ _ _ _)
      refine r_iconst d_Mo_laysTurns_79 (by decide) (?_ : WM _ 80 _ _ _ _)
      obtain ⟨h21, h⟩ := h
      refine r_iadd d_Mo_laysTurns_80 h21 (?_ : WM _ 81 _ _ _ _)
      refine r_callV (ν := M_Mo_laysTurn) (k := 35) [vI (((((σ13 44 x1) - 1) + v17) % (σ16 35 9)) + 1)] ok_M_Mo_laysTurn okv_M_Mo_laysTurn (by decide) rfl rfl rfl (qm_7 (i := 45) rfl rfl) np_M_Mo_laysTurn rfl (by decide) (Nat.le_of_ble_eq_true rfl) rfl d_Mo_laysTurns_81 (CV.k h (fun σ22 h => (?_ : WM _ 84 _ _ _ _)))
      obtain ⟨h24, h⟩ := h
      refine r_iinc (ls' := [(1, vI (x1 + 1)), (0, vR 35)]) d_Mo_laysTurns_84 rfl h24 (by decide) rfl (?_ : WM _ 87 _ _ _ _)
      refine r_goto 20 d_Mo_laysTurns_87 rfl ?_
      refine r_pick (ls' := [(0, vR 35), (1, vI (x1 + 1))]) [1, 0] rfl ?_
      exact h
    · replace h := h.2 c8
      refine r_goto 84 d_Mo_laysTurns_37 rfl ?_
      obtain ⟨h25, h⟩ := h
      refine r_iinc (ls' := [(1, vI (x1 + 1)), (0, vR 35)]) d_Mo_laysTurns_84 rfl h25 (by decide) rfl (?_ : WM _ 87 _ _ _ _)
      refine r_goto 20 d_Mo_laysTurns_87 rfl ?_
      refine r_pick (ls' := [(0, vR 35), (1, vI (x1 + 1))]) [1, 0] rfl ?_
      exact h
set_option maxRecDepth 20000 in
theorem e_Mo_caughtBy {K : Int → St → Prop} {σ : St} (x1 : Int) (h : WM M_Mo_caughtBy 4 [(0, vR 35), (1, vI x1), (2, vI 0), (3, vI 0)] [] σ (QI K)) : CI M_Mo_caughtBy [vR 35, vI x1] σ K := by
  refine Con.of ok_M_Mo_caughtBy (ls := [(0, vR 35), (1, vI x1)]) rfl (Nat.le_of_ble_eq_true rfl) ?_
  refine r_iconst d_Mo_caughtBy_0 (by decide) (?_ : WM _ 1 _ _ _ _)
  refine r_istore_n (ls' := [(2, vI 0), (0, vR 35), (1, vI x1)]) d_Mo_caughtBy_1 rfl (by decide) rfl (?_ : WM _ 2 _ _ _ _)
  refine r_iconst d_Mo_caughtBy_2 (by decide) (?_ : WM _ 3 _ _ _ _)
  refine r_istore_n (ls' := [(3, vI 0), (2, vI 0), (0, vR 35), (1, vI x1)]) d_Mo_caughtBy_3 rfl (by decide) rfl (?_ : WM _ 4 _ _ _ _)
  refine r_pick (ls' := [(0, vR 35), (1, vI x1), (2, vI 0), (3, vI 0)]) [2, 3, 1, 0] rfl ?_
  exact h
set_option maxRecDepth 20000 in
theorem l_Mo_caughtBy_1 {K : Int → St → Prop} {σ : St} (x1 : Int) (x2 : Int) (x3 : Int) (h : ((σ 35 6) ≤ x3 → K x2 σ) ∧ (¬ (σ 35 6) ≤ x3 → CI M_Mo_errorOf [vR 35, vI x3] σ (fun v3 σ2 => (v3 = 0 → (inR (x2 + 0)) ∧ (inR (x3 + 1)) ∧ WM M_Mo_caughtBy 4 [(0, vR 35), (1, vI x1), (2, vI (x2 + 0)), (3, vI (x3 + 1))] [] σ2 (QI K)) ∧ (¬ v3 = 0 → CI M_Mo_catches [vR 35, vI x1, vI x3] σ2 (fun v8 σ7 => (v8 = 0 → (inR (x2 + 0)) ∧ (inR (x3 + 1)) ∧ WM M_Mo_caughtBy 4 [(0, vR 35), (1, vI x1), (2, vI (x2 + 0)), (3, vI (x3 + 1))] [] σ7 (QI K)) ∧ (¬ v8 = 0 → (inR (x2 + 1)) ∧ (inR (x3 + 1)) ∧ WM M_Mo_caughtBy 4 [(0, vR 35), (1, vI x1), (2, vI (x2 + 1)), (3, vI (x3 + 1))] [] σ7 (QI K))))))) : WM M_Mo_caughtBy 4 [(0, vR 35), (1, vI x1), (2, vI x2), (3, vI x3)] [] σ (QI K) := by
  refine r_iload_n d_Mo_caughtBy_4 rfl (?_ : WM _ 5 _ _ _ _)
  refine r_aload_n d_Mo_caughtBy_5 rfl (?_ : WM _ 6 _ _ _ _)
  refine r_getI (k := 35) (j := 6) 6 (by decide) rfl clk_11 (by decide) (qm_5 (i := 42) rfl rfl) rfl rfl d_Mo_caughtBy_6 (y := (σ 35 6)) rfl (?_ : WM _ 9 _ _ _ _)
  refine r_icmp_ge 43 d_Mo_caughtBy_9 rfl ⟨fun c1 => (?_ : WM _ 43 _ _ _ _), fun c1 => (?_ : WM _ 12 _ _ _ _)⟩
  · replace h := h.1 c1
    refine r_iload_n d_Mo_caughtBy_43 rfl (?_ : WM _ 44 _ _ _ _)
    exact r_ireturn rfl d_Mo_caughtBy_44 h
  · replace h := h.2 c1
    refine r_iload_n d_Mo_caughtBy_12 rfl (?_ : WM _ 13 _ _ _ _)
    refine r_aload_n d_Mo_caughtBy_13 rfl (?_ : WM _ 14 _ _ _ _)
    refine r_iload_n d_Mo_caughtBy_14 rfl (?_ : WM _ 15 _ _ _ _)
    refine r_callV (ν := M_Mo_errorOf) (k := 35) [vI x3] ok_M_Mo_errorOf okv_M_Mo_errorOf (by decide) rfl rfl rfl (qm_6 (i := 101) rfl rfl) np_M_Mo_errorOf rfl (by decide) (Nat.le_of_ble_eq_true rfl) rfl d_Mo_caughtBy_15 (CI.k h (fun v3 σ2 h => (?_ : WM _ 18 _ _ _ _)))
    refine r_if_eq 34 d_Mo_caughtBy_18 rfl ⟨fun c4 => (?_ : WM _ 34 _ _ _ _), fun c4 => (?_ : WM _ 21 _ _ _ _)⟩
    · replace h := h.1 c4
      refine r_iconst d_Mo_caughtBy_34 (by decide) (?_ : WM _ 35 _ _ _ _)
      obtain ⟨h5, h⟩ := h
      refine r_iadd d_Mo_caughtBy_35 h5 (?_ : WM _ 36 _ _ _ _)
      refine r_istore_n (ls' := [(2, vI (x2 + 0)), (0, vR 35), (1, vI x1), (3, vI x3)]) d_Mo_caughtBy_36 rfl (by decide) rfl (?_ : WM _ 37 _ _ _ _)
      obtain ⟨h6, h⟩ := h
      refine r_iinc (ls' := [(3, vI (x3 + 1)), (2, vI (x2 + 0)), (0, vR 35), (1, vI x1)]) d_Mo_caughtBy_37 rfl h6 (by decide) rfl (?_ : WM _ 40 _ _ _ _)
      refine r_goto 4 d_Mo_caughtBy_40 rfl ?_
      refine r_pick (ls' := [(0, vR 35), (1, vI x1), (2, vI (x2 + 0)), (3, vI (x3 + 1))]) [2, 3, 1, 0] rfl ?_
      exact h
    · replace h := h.2 c4
      refine r_aload_n d_Mo_caughtBy_21 rfl (?_ : WM _ 22 _ _ _ _)
      refine r_iload_n d_Mo_caughtBy_22 rfl (?_ : WM _ 23 _ _ _ _)
      refine r_iload_n d_Mo_caughtBy_23 rfl (?_ : WM _ 24 _ _ _ _)
      refine r_callV (ν := M_Mo_catches) (k := 35) [vI x1, vI x3] ok_M_Mo_catches okv_M_Mo_catches (by decide) rfl rfl rfl (qm_7 (i := 28) rfl rfl) np_M_Mo_catches rfl (by decide) (Nat.le_of_ble_eq_true rfl) rfl d_Mo_caughtBy_24 (CI.k h (fun v8 σ7 h => (?_ : WM _ 27 _ _ _ _)))
      refine r_if_eq 34 d_Mo_caughtBy_27 rfl ⟨fun c9 => (?_ : WM _ 34 _ _ _ _), fun c9 => (?_ : WM _ 30 _ _ _ _)⟩
      · replace h := h.1 c9
        refine r_iconst d_Mo_caughtBy_34 (by decide) (?_ : WM _ 35 _ _ _ _)
        obtain ⟨h10, h⟩ := h
        refine r_iadd d_Mo_caughtBy_35 h10 (?_ : WM _ 36 _ _ _ _)
        refine r_istore_n (ls' := [(2, vI (x2 + 0)), (0, vR 35), (1, vI x1), (3, vI x3)]) d_Mo_caughtBy_36 rfl (by decide) rfl (?_ : WM _ 37 _ _ _ _)
        obtain ⟨h11, h⟩ := h
        refine r_iinc (ls' := [(3, vI (x3 + 1)), (2, vI (x2 + 0)), (0, vR 35), (1, vI x1)]) d_Mo_caughtBy_37 rfl h11 (by decide) rfl (?_ : WM _ 40 _ _ _ _)
        refine r_goto 4 d_Mo_caughtBy_40 rfl ?_
        refine r_pick (ls' := [(0, vR 35), (1, vI x1), (2, vI (x2 + 0)), (3, vI (x3 + 1))]) [2, 3, 1, 0] rfl ?_
        exact h
      · replace h := h.2 c9
        refine r_iconst d_Mo_caughtBy_30 (by decide) (?_ : WM _ 31 _ _ _ _)
        refine r_goto 35 d_Mo_caughtBy_31 rfl ?_
        obtain ⟨h12, h⟩ := h
        refine r_iadd d_Mo_caughtBy_35 h12 (?_ : WM _ 36 _ _ _ _)
        refine r_istore_n (ls' := [(2, vI (x2 + 1)), (0, vR 35), (1, vI x1), (3, vI x3)]) d_Mo_caughtBy_36 rfl (by decide) rfl (?_ : WM _ 37 _ _ _ _)
        obtain ⟨h13, h⟩ := h
        refine r_iinc (ls' := [(3, vI (x3 + 1)), (2, vI (x2 + 1)), (0, vR 35), (1, vI x1)]) d_Mo_caughtBy_37 rfl h13 (by decide) rfl (?_ : WM _ 40 _ _ _ _)
        refine r_goto 4 d_Mo_caughtBy_40 rfl ?_
        refine r_pick (ls' := [(0, vR 35), (1, vI x1), (2, vI (x2 + 1)), (3, vI (x3 + 1))]) [2, 3, 1, 0] rfl ?_
        exact h
set_option maxRecDepth 20000 in
theorem e_Mo_turnLong {K : Int → St → Prop} {σ : St} (x1 : Int) (h : (inR (x1 + 1)) ∧ ((σ 35 34) ≤ (x1 + 1) → (inR ((σ 35 9) + 1)) ∧ (0 ≤ x1) ∧ (x1 < 98) ∧ (inR (((σ 35 9) + 1) - (σ 52 x1))) ∧ K (((σ 35 9) + 1) - (σ 52 x1)) σ) ∧ (¬ (σ 35 34) ≤ (x1 + 1) → (0 ≤ (x1 + 1)) ∧ ((x1 + 1) < 98) ∧ (0 ≤ x1) ∧ (x1 < 98) ∧ (inR ((σ 52 (x1 + 1)) - (σ 52 x1))) ∧ K ((σ 52 (x1 + 1)) - (σ 52 x1)) σ)) : CI M_Mo_turnLong [vR 35, vI x1] σ K := by
  refine Con.of ok_M_Mo_turnLong (ls := [(0, vR 35), (1, vI x1)]) rfl (Nat.le_of_ble_eq_true rfl) ?_
  refine r_iload_n d_Mo_turnLong_0 rfl (?_ : WM _ 1 _ _ _ _)
  refine r_iconst d_Mo_turnLong_1 (by decide) (?_ : WM _ 2 _ _ _ _)
  obtain ⟨h1, h⟩ := h
  refine r_iadd d_Mo_turnLong_2 h1 (?_ : WM _ 3 _ _ _ _)
  refine r_aload_n d_Mo_turnLong_3 rfl (?_ : WM _ 4 _ _ _ _)
  refine r_getI (k := 35) (j := 34) 34 (by decide) rfl clk_11 (by decide) (qm_5 (i := 70) rfl rfl) rfl rfl d_Mo_turnLong_4 (y := (σ 35 34)) rfl (?_ : WM _ 7 _ _ _ _)
  refine r_icmp_ge 21 d_Mo_turnLong_7 rfl ⟨fun c2 => (?_ : WM _ 21 _ _ _ _), fun c2 => (?_ : WM _ 10 _ _ _ _)⟩
  · replace h := h.1 c2
    refine r_aload_n d_Mo_turnLong_21 rfl (?_ : WM _ 22 _ _ _ _)
    refine r_getI (k := 35) (j := 9) 9 (by decide) rfl clk_11 (by decide) (qm_5 (i := 45) rfl rfl) rfl rfl d_Mo_turnLong_22 (y := (σ 35 9)) rfl (?_ : WM _ 25 _ _ _ _)
    refine r_iconst d_Mo_turnLong_25 (by decide) (?_ : WM _ 26 _ _ _ _)
    obtain ⟨h3, h⟩ := h
    refine r_iadd d_Mo_turnLong_26 h3 (?_ : WM _ 27 _ _ _ _)
    refine r_aload_n d_Mo_turnLong_27 rfl (?_ : WM _ 28 _ _ _ _)
    refine r_getR (k := 35) (j := 33) (q := 52) (by decide) rfl clk_11 (by decide) (qm_5 (i := 69) rfl rfl) rfl d_Mo_turnLong_28 (?_ : WM _ 31 _ _ _ _)
    refine r_iload_n d_Mo_turnLong_31 rfl (?_ : WM _ 32 _ _ _ _)
    obtain ⟨h4, h⟩ := h
    obtain ⟨h5, h⟩ := h
    refine r_iald (k := 52) (n := 98) (by decide) rfl d_Mo_turnLong_32 h4 h5 (y := (σ 52 x1)) rfl (?_ : WM _ 33 _ _ _ _)
    obtain ⟨h6, h⟩ := h
    refine r_isub d_Mo_turnLong_33 h6 (?_ : WM _ 34 _ _ _ _)
    exact r_ireturn rfl d_Mo_turnLong_34 h
  · replace h := h.2 c2
    refine r_aload_n d_Mo_turnLong_10 rfl (?_ : WM _ 11 _ _ _ _)
    refine r_getR (k := 35) (j := 33) (q := 52) (by decide) rfl clk_11 (by decide) (qm_5 (i := 69) rfl rfl) rfl d_Mo_turnLong_11 (?_ : WM _ 14 _ _ _ _)
    refine r_iload_n d_Mo_turnLong_14 rfl (?_ : WM _ 15 _ _ _ _)
    refine r_iconst d_Mo_turnLong_15 (by decide) (?_ : WM _ 16 _ _ _ _)
    refine r_iadd d_Mo_turnLong_16 h1 (?_ : WM _ 17 _ _ _ _)
    obtain ⟨h7, h⟩ := h
    obtain ⟨h8, h⟩ := h
    refine r_iald (k := 52) (n := 98) (by decide) rfl d_Mo_turnLong_17 h7 h8 (y := (σ 52 (x1 + 1))) rfl (?_ : WM _ 18 _ _ _ _)
    refine r_goto 27 d_Mo_turnLong_18 rfl ?_
    refine r_aload_n d_Mo_turnLong_27 rfl (?_ : WM _ 28 _ _ _ _)
    refine r_getR (k := 35) (j := 33) (q := 52) (by decide) rfl clk_11 (by decide) (qm_5 (i := 69) rfl rfl) rfl d_Mo_turnLong_28 (?_ : WM _ 31 _ _ _ _)
    refine r_iload_n d_Mo_turnLong_31 rfl (?_ : WM _ 32 _ _ _ _)
    obtain ⟨h9, h⟩ := h
    obtain ⟨h10, h⟩ := h
    refine r_iald (k := 52) (n := 98) (by decide) rfl d_Mo_turnLong_32 h9 h10 (y := (σ 52 x1)) rfl (?_ : WM _ 33 _ _ _ _)
    obtain ⟨h11, h⟩ := h
    refine r_isub d_Mo_turnLong_33 h11 (?_ : WM _ 34 _ _ _ _)
    exact r_ireturn rfl d_Mo_turnLong_34 h
set_option maxRecDepth 20000 in
theorem e_Mo_common {K : Int → St → Prop} {σ : St} (x0 : Int) (x1 : Int) (h : WM M_Mo_common 4 [(2, vI x0), (3, vI x1)] [] σ (QI K)) : CI M_Mo_common [vI x0, vI x1] σ K := by
  refine Con.of ok_M_Mo_common (ls := [(0, vI x0), (1, vI x1)]) rfl (Nat.le_of_ble_eq_true rfl) ?_
  refine r_iload_n d_Mo_common_0 rfl (?_ : WM _ 1 _ _ _ _)
  refine r_istore_n (ls' := [(2, vI x0), (0, vI x0), (1, vI x1)]) d_Mo_common_1 rfl (by decide) rfl (?_ : WM _ 2 _ _ _ _)
  refine r_iload_n d_Mo_common_2 rfl (?_ : WM _ 3 _ _ _ _)
  refine r_istore_n (ls' := [(3, vI x1), (2, vI x0), (0, vI x0), (1, vI x1)]) d_Mo_common_3 rfl (by decide) rfl (?_ : WM _ 4 _ _ _ _)
  refine r_pick (ls' := [(2, vI x0), (3, vI x1)]) [1, 0] rfl ?_
  exact h
set_option maxRecDepth 20000 in
theorem l_Mo_common_1 {K : Int → St → Prop} {σ : St} (x2 : Int) (x3 : Int) (h : (x3 = 0 → K x2 σ) ∧ (¬ x3 = 0 → (0 ≤ x2) ∧ (0 < x3) ∧ WM M_Mo_common 4 [(2, vI x3), (3, vI (x2 % x3))] [] σ (QI K))) : WM M_Mo_common 4 [(2, vI x2), (3, vI x3)] [] σ (QI K) := by
  refine r_iload_n d_Mo_common_4 rfl (?_ : WM _ 5 _ _ _ _)
  refine r_if_eq 21 d_Mo_common_5 rfl ⟨fun c1 => (?_ : WM _ 21 _ _ _ _), fun c1 => (?_ : WM _ 8 _ _ _ _)⟩
  · replace h := h.1 c1
    refine r_iload_n d_Mo_common_21 rfl (?_ : WM _ 22 _ _ _ _)
    exact r_ireturn rfl d_Mo_common_22 h
  · replace h := h.2 c1
    refine r_iload_n d_Mo_common_8 rfl (?_ : WM _ 9 _ _ _ _)
    refine r_iload_n d_Mo_common_9 rfl (?_ : WM _ 10 _ _ _ _)
    obtain ⟨h2, h⟩ := h
    obtain ⟨h3, h⟩ := h
    refine r_iremn d_Mo_common_10 h2 h3 (?_ : WM _ 11 _ _ _ _)
    refine r_istore (ls' := [(4, vI (x2 % x3)), (2, vI x2), (3, vI x3)]) d_Mo_common_11 (by decide) rfl (?_ : WM _ 13 _ _ _ _)
    refine r_iload_n d_Mo_common_13 rfl (?_ : WM _ 14 _ _ _ _)
    refine r_istore_n (ls' := [(2, vI x3), (4, vI (x2 % x3)), (3, vI x3)]) d_Mo_common_14 rfl (by decide) rfl (?_ : WM _ 15 _ _ _ _)
    refine r_iload d_Mo_common_15 rfl (?_ : WM _ 17 _ _ _ _)
    refine r_istore_n (ls' := [(3, vI (x2 % x3)), (2, vI x3), (4, vI (x2 % x3))]) d_Mo_common_17 rfl (by decide) rfl (?_ : WM _ 18 _ _ _ _)
    refine r_goto 4 d_Mo_common_18 rfl ?_
    refine r_pick (ls' := [(2, vI x3), (3, vI (x2 % x3))]) [1, 0] rfl ?_
    exact h
set_option maxRecDepth 20000 in
theorem e_Mo_manyOf {K : Int → St → Prop} {σ : St} (x1 : Int) (h : WM M_Mo_manyOf 4 [(0, vR 35), (1, vI x1), (2, vI 0), (3, vI 0)] [] σ (QI K)) : CI M_Mo_manyOf [vR 35, vI x1] σ K := by
  refine Con.of ok_M_Mo_manyOf (ls := [(0, vR 35), (1, vI x1)]) rfl (Nat.le_of_ble_eq_true rfl) ?_
  refine r_iconst d_Mo_manyOf_0 (by decide) (?_ : WM _ 1 _ _ _ _)
  refine r_istore_n (ls' := [(2, vI 0), (0, vR 35), (1, vI x1)]) d_Mo_manyOf_1 rfl (by decide) rfl (?_ : WM _ 2 _ _ _ _)
  refine r_iconst d_Mo_manyOf_2 (by decide) (?_ : WM _ 3 _ _ _ _)
  refine r_istore_n (ls' := [(3, vI 0), (2, vI 0), (0, vR 35), (1, vI x1)]) d_Mo_manyOf_3 rfl (by decide) rfl (?_ : WM _ 4 _ _ _ _)
  refine r_pick (ls' := [(0, vR 35), (1, vI x1), (2, vI 0), (3, vI 0)]) [2, 3, 1, 0] rfl ?_
  exact h
set_option maxRecDepth 20000 in
theorem l_Mo_manyOf_1 {K : Int → St → Prop} {σ : St} (x1 : Int) (x2 : Int) (x3 : Int) (h : ((σ 35 6) ≤ x3 → K x2 σ) ∧ (¬ (σ 35 6) ≤ x3 → (¬ x1 = 6 → (¬ x1 = 8 → (inR (x2 + 0)) ∧ (inR (x3 + 1)) ∧ WM M_Mo_manyOf 4 [(0, vR 35), (1, vI x1), (2, vI (x2 + 0)), (3, vI (x3 + 1))] [] σ (QI K)) ∧ (x1 = 8 → CI M_Mo_audited [vR 35, vI x3] σ (fun v7 σ6 => (v7 = (-1) → (inR (x2 + 0)) ∧ (inR (x3 + 1)) ∧ WM M_Mo_manyOf 4 [(0, vR 35), (1, vI x1), (2, vI (x2 + 0)), (3, vI (x3 + 1))] [] σ6 (QI K)) ∧ (¬ v7 = (-1) → (inR (x2 + 1)) ∧ (inR (x3 + 1)) ∧ WM M_Mo_manyOf 4 [(0, vR 35), (1, vI x1), (2, vI (x2 + 1)), (3, vI (x3 + 1))] [] σ6 (QI K))))) ∧ (x1 = 6 → (0 ≤ x3) ∧ (x3 < 48) ∧ (0 < (σ 48 x3) → (inR (x2 + 1)) ∧ (inR (x3 + 1)) ∧ WM M_Mo_manyOf 4 [(0, vR 35), (1, vI x1), (2, vI (x2 + 1)), (3, vI (x3 + 1))] [] σ (QI K)) ∧ (¬ 0 < (σ 48 x3) → (¬ x1 = 8 → (inR (x2 + 0)) ∧ (inR (x3 + 1)) ∧ WM M_Mo_manyOf 4 [(0, vR 35), (1, vI x1), (2, vI (x2 + 0)), (3, vI (x3 + 1))] [] σ (QI K)) ∧ (x1 = 8 → CI M_Mo_audited [vR 35, vI x3] σ (fun v22 σ21 => (v22 = (-1) → (inR (x2 + 0)) ∧ (inR (x3 + 1)) ∧ WM M_Mo_manyOf 4 [(0, vR 35), (1, vI x1), (2, vI (x2 + 0)), (3, vI (x3 + 1))] [] σ21 (QI K)) ∧ (¬ v22 = (-1) → (inR (x2 + 1)) ∧ (inR (x3 + 1)) ∧ WM M_Mo_manyOf 4 [(0, vR 35), (1, vI x1), (2, vI (x2 + 1)), (3, vI (x3 + 1))] [] σ21 (QI K)))))))) : WM M_Mo_manyOf 4 [(0, vR 35), (1, vI x1), (2, vI x2), (3, vI x3)] [] σ (QI K) := by
  refine r_iload_n d_Mo_manyOf_4 rfl (?_ : WM _ 5 _ _ _ _)
  refine r_aload_n d_Mo_manyOf_5 rfl (?_ : WM _ 6 _ _ _ _)
  refine r_getI (k := 35) (j := 6) 6 (by decide) rfl clk_11 (by decide) (qm_5 (i := 42) rfl rfl) rfl rfl d_Mo_manyOf_6 (y := (σ 35 6)) rfl (?_ : WM _ 9 _ _ _ _)
  refine r_icmp_ge 56 d_Mo_manyOf_9 rfl ⟨fun c1 => (?_ : WM _ 56 _ _ _ _), fun c1 => (?_ : WM _ 12 _ _ _ _)⟩
  · replace h := h.1 c1
    refine r_iload_n d_Mo_manyOf_56 rfl (?_ : WM _ 57 _ _ _ _)
    exact r_ireturn rfl d_Mo_manyOf_57 h
  · replace h := h.2 c1
    refine r_iload_n d_Mo_manyOf_12 rfl (?_ : WM _ 13 _ _ _ _)
    refine r_iload_n d_Mo_manyOf_13 rfl (?_ : WM _ 14 _ _ _ _)
    refine r_bipush d_Mo_manyOf_14 (by decide) (by decide) (?_ : WM _ 16 _ _ _ _)
    refine r_icmp_ne 28 d_Mo_manyOf_16 rfl ⟨fun c2 => (?_ : WM _ 28 _ _ _ _), fun c2 => (?_ : WM _ 19 _ _ _ _)⟩
    · replace h := h.1 c2
      refine r_iload_n d_Mo_manyOf_28 rfl (?_ : WM _ 29 _ _ _ _)
      refine r_bipush d_Mo_manyOf_29 (by decide) (by decide) (?_ : WM _ 31 _ _ _ _)
      refine r_icmp_ne 47 d_Mo_manyOf_31 rfl ⟨fun c3 => (?_ : WM _ 47 _ _ _ _), fun c3 => (?_ : WM _ 34 _ _ _ _)⟩
      · replace h := h.1 c3
        refine r_iconst d_Mo_manyOf_47 (by decide) (?_ : WM _ 48 _ _ _ _)
        obtain ⟨h4, h⟩ := h
        refine r_iadd d_Mo_manyOf_48 h4 (?_ : WM _ 49 _ _ _ _)
        refine r_istore_n (ls' := [(2, vI (x2 + 0)), (0, vR 35), (1, vI x1), (3, vI x3)]) d_Mo_manyOf_49 rfl (by decide) rfl (?_ : WM _ 50 _ _ _ _)
        obtain ⟨h5, h⟩ := h
        refine r_iinc (ls' := [(3, vI (x3 + 1)), (2, vI (x2 + 0)), (0, vR 35), (1, vI x1)]) d_Mo_manyOf_50 rfl h5 (by decide) rfl (?_ : WM _ 53 _ _ _ _)
        refine r_goto 4 d_Mo_manyOf_53 rfl ?_
        refine r_pick (ls' := [(0, vR 35), (1, vI x1), (2, vI (x2 + 0)), (3, vI (x3 + 1))]) [2, 3, 1, 0] rfl ?_
        exact h
      · replace h := h.2 c3
        refine r_aload_n d_Mo_manyOf_34 rfl (?_ : WM _ 35 _ _ _ _)
        refine r_iload_n d_Mo_manyOf_35 rfl (?_ : WM _ 36 _ _ _ _)
        refine r_callV (ν := M_Mo_audited) (k := 35) [vI x3] ok_M_Mo_audited okv_M_Mo_audited (by decide) rfl rfl rfl (qm_6 (i := 11) rfl rfl) np_M_Mo_audited rfl (by decide) (Nat.le_of_ble_eq_true rfl) rfl d_Mo_manyOf_36 (CI.k h (fun v7 σ6 h => (?_ : WM _ 39 _ _ _ _)))
        refine r_iconst d_Mo_manyOf_39 (by decide) (?_ : WM _ 40 _ _ _ _)
        refine r_icmp_eq 47 d_Mo_manyOf_40 rfl ⟨fun c8 => (?_ : WM _ 47 _ _ _ _), fun c8 => (?_ : WM _ 43 _ _ _ _)⟩
        · replace h := h.1 c8
          refine r_iconst d_Mo_manyOf_47 (by decide) (?_ : WM _ 48 _ _ _ _)
          obtain ⟨h9, h⟩ := h
          refine r_iadd d_Mo_manyOf_48 h9 (?_ : WM _ 49 _ _ _ _)
          refine r_istore_n (ls' := [(2, vI (x2 + 0)), (0, vR 35), (1, vI x1), (3, vI x3)]) d_Mo_manyOf_49 rfl (by decide) rfl (?_ : WM _ 50 _ _ _ _)
          obtain ⟨h10, h⟩ := h
          refine r_iinc (ls' := [(3, vI (x3 + 1)), (2, vI (x2 + 0)), (0, vR 35), (1, vI x1)]) d_Mo_manyOf_50 rfl h10 (by decide) rfl (?_ : WM _ 53 _ _ _ _)
          refine r_goto 4 d_Mo_manyOf_53 rfl ?_
          refine r_pick (ls' := [(0, vR 35), (1, vI x1), (2, vI (x2 + 0)), (3, vI (x3 + 1))]) [2, 3, 1, 0] rfl ?_
          exact h
        · replace h := h.2 c8
          refine r_iconst d_Mo_manyOf_43 (by decide) (?_ : WM _ 44 _ _ _ _)
          refine r_goto 48 d_Mo_manyOf_44 rfl ?_
          obtain ⟨h11, h⟩ := h
          refine r_iadd d_Mo_manyOf_48 h11 (?_ : WM _ 49 _ _ _ _)
          refine r_istore_n (ls' := [(2, vI (x2 + 1)), (0, vR 35), (1, vI x1), (3, vI x3)]) d_Mo_manyOf_49 rfl (by decide) rfl (?_ : WM _ 50 _ _ _ _)
          obtain ⟨h12, h⟩ := h
          refine r_iinc (ls' := [(3, vI (x3 + 1)), (2, vI (x2 + 1)), (0, vR 35), (1, vI x1)]) d_Mo_manyOf_50 rfl h12 (by decide) rfl (?_ : WM _ 53 _ _ _ _)
          refine r_goto 4 d_Mo_manyOf_53 rfl ?_
          refine r_pick (ls' := [(0, vR 35), (1, vI x1), (2, vI (x2 + 1)), (3, vI (x3 + 1))]) [2, 3, 1, 0] rfl ?_
          exact h
    · replace h := h.2 c2
      refine r_aload_n d_Mo_manyOf_19 rfl (?_ : WM _ 20 _ _ _ _)
      refine r_getR (k := 35) (j := 24) (q := 48) (by decide) rfl clk_11 (by decide) (qm_5 (i := 60) rfl rfl) rfl d_Mo_manyOf_20 (?_ : WM _ 23 _ _ _ _)
      refine r_iload_n d_Mo_manyOf_23 rfl (?_ : WM _ 24 _ _ _ _)
      obtain ⟨h13, h⟩ := h
      obtain ⟨h14, h⟩ := h
      refine r_iald (k := 48) (n := 48) (by decide) rfl d_Mo_manyOf_24 h13 h14 (y := (σ 48 x3)) rfl (?_ : WM _ 25 _ _ _ _)
      refine r_if_gt 43 d_Mo_manyOf_25 rfl ⟨fun c15 => (?_ : WM _ 43 _ _ _ _), fun c15 => (?_ : WM _ 28 _ _ _ _)⟩
      · replace h := h.1 c15
        refine r_iconst d_Mo_manyOf_43 (by decide) (?_ : WM _ 44 _ _ _ _)
        refine r_goto 48 d_Mo_manyOf_44 rfl ?_
        obtain ⟨h16, h⟩ := h
        refine r_iadd d_Mo_manyOf_48 h16 (?_ : WM _ 49 _ _ _ _)
        refine r_istore_n (ls' := [(2, vI (x2 + 1)), (0, vR 35), (1, vI x1), (3, vI x3)]) d_Mo_manyOf_49 rfl (by decide) rfl (?_ : WM _ 50 _ _ _ _)
        obtain ⟨h17, h⟩ := h
        refine r_iinc (ls' := [(3, vI (x3 + 1)), (2, vI (x2 + 1)), (0, vR 35), (1, vI x1)]) d_Mo_manyOf_50 rfl h17 (by decide) rfl (?_ : WM _ 53 _ _ _ _)
        refine r_goto 4 d_Mo_manyOf_53 rfl ?_
        refine r_pick (ls' := [(0, vR 35), (1, vI x1), (2, vI (x2 + 1)), (3, vI (x3 + 1))]) [2, 3, 1, 0] rfl ?_
        exact h
      · replace h := h.2 c15
        refine r_iload_n d_Mo_manyOf_28 rfl (?_ : WM _ 29 _ _ _ _)
        refine r_bipush d_Mo_manyOf_29 (by decide) (by decide) (?_ : WM _ 31 _ _ _ _)
        refine r_icmp_ne 47 d_Mo_manyOf_31 rfl ⟨fun c18 => (?_ : WM _ 47 _ _ _ _), fun c18 => (?_ : WM _ 34 _ _ _ _)⟩
        · replace h := h.1 c18
          refine r_iconst d_Mo_manyOf_47 (by decide) (?_ : WM _ 48 _ _ _ _)
          obtain ⟨h19, h⟩ := h
          refine r_iadd d_Mo_manyOf_48 h19 (?_ : WM _ 49 _ _ _ _)
          refine r_istore_n (ls' := [(2, vI (x2 + 0)), (0, vR 35), (1, vI x1), (3, vI x3)]) d_Mo_manyOf_49 rfl (by decide) rfl (?_ : WM _ 50 _ _ _ _)
          obtain ⟨h20, h⟩ := h
          refine r_iinc (ls' := [(3, vI (x3 + 1)), (2, vI (x2 + 0)), (0, vR 35), (1, vI x1)]) d_Mo_manyOf_50 rfl h20 (by decide) rfl (?_ : WM _ 53 _ _ _ _)
          refine r_goto 4 d_Mo_manyOf_53 rfl ?_
          refine r_pick (ls' := [(0, vR 35), (1, vI x1), (2, vI (x2 + 0)), (3, vI (x3 + 1))]) [2, 3, 1, 0] rfl ?_
          exact h
        · replace h := h.2 c18
          refine r_aload_n d_Mo_manyOf_34 rfl (?_ : WM _ 35 _ _ _ _)
          refine r_iload_n d_Mo_manyOf_35 rfl (?_ : WM _ 36 _ _ _ _)
          refine r_callV (ν := M_Mo_audited) (k := 35) [vI x3] ok_M_Mo_audited okv_M_Mo_audited (by decide) rfl rfl rfl (qm_6 (i := 11) rfl rfl) np_M_Mo_audited rfl (by decide) (Nat.le_of_ble_eq_true rfl) rfl d_Mo_manyOf_36 (CI.k h (fun v22 σ21 h => (?_ : WM _ 39 _ _ _ _)))
          refine r_iconst d_Mo_manyOf_39 (by decide) (?_ : WM _ 40 _ _ _ _)
          refine r_icmp_eq 47 d_Mo_manyOf_40 rfl ⟨fun c23 => (?_ : WM _ 47 _ _ _ _), fun c23 => (?_ : WM _ 43 _ _ _ _)⟩
          · replace h := h.1 c23
            refine r_iconst d_Mo_manyOf_47 (by decide) (?_ : WM _ 48 _ _ _ _)
            obtain ⟨h24, h⟩ := h
            refine r_iadd d_Mo_manyOf_48 h24 (?_ : WM _ 49 _ _ _ _)
            refine r_istore_n (ls' := [(2, vI (x2 + 0)), (0, vR 35), (1, vI x1), (3, vI x3)]) d_Mo_manyOf_49 rfl (by decide) rfl (?_ : WM _ 50 _ _ _ _)
            obtain ⟨h25, h⟩ := h
            refine r_iinc (ls' := [(3, vI (x3 + 1)), (2, vI (x2 + 0)), (0, vR 35), (1, vI x1)]) d_Mo_manyOf_50 rfl h25 (by decide) rfl (?_ : WM _ 53 _ _ _ _)
            refine r_goto 4 d_Mo_manyOf_53 rfl ?_
            refine r_pick (ls' := [(0, vR 35), (1, vI x1), (2, vI (x2 + 0)), (3, vI (x3 + 1))]) [2, 3, 1, 0] rfl ?_
            exact h
          · replace h := h.2 c23
            refine r_iconst d_Mo_manyOf_43 (by decide) (?_ : WM _ 44 _ _ _ _)
            refine r_goto 48 d_Mo_manyOf_44 rfl ?_
            obtain ⟨h26, h⟩ := h
            refine r_iadd d_Mo_manyOf_48 h26 (?_ : WM _ 49 _ _ _ _)
            refine r_istore_n (ls' := [(2, vI (x2 + 1)), (0, vR 35), (1, vI x1), (3, vI x3)]) d_Mo_manyOf_49 rfl (by decide) rfl (?_ : WM _ 50 _ _ _ _)
            obtain ⟨h27, h⟩ := h
            refine r_iinc (ls' := [(3, vI (x3 + 1)), (2, vI (x2 + 1)), (0, vR 35), (1, vI x1)]) d_Mo_manyOf_50 rfl h27 (by decide) rfl (?_ : WM _ 53 _ _ _ _)
            refine r_goto 4 d_Mo_manyOf_53 rfl ?_
            refine r_pick (ls' := [(0, vR 35), (1, vI x1), (2, vI (x2 + 1)), (3, vI (x3 + 1))]) [2, 3, 1, 0] rfl ?_
            exact h
set_option maxRecDepth 20000 in
theorem e_Mo_isLetter {K : Int → St → Prop} {σ : St}  (h : CI M_Mo_peek [vR 35] σ (fun v2 σ1 => CI M_Mo_isIn [vL v2, vL 97, vL 122] σ1 (fun v4 σ3 => (v4 = 0 ∨ v4 = 1) ∧ K v4 σ3))) : CI M_Mo_isLetter [vR 35] σ K := by
  refine Con.of ok_M_Mo_isLetter (ls := [(0, vR 35)]) rfl (Nat.le_of_ble_eq_true rfl) ?_
  refine r_aload_n d_Mo_isLetter_0 rfl (?_ : WM _ 1 _ _ _ _)
  refine r_callV (ν := M_Mo_peek) (k := 35) [] ok_M_Mo_peek okv_M_Mo_peek (by decide) rfl rfl rfl (qm_5 (i := 160) rfl rfl) np_M_Mo_peek rfl (by decide) (Nat.le_of_ble_eq_true rfl) rfl d_Mo_isLetter_1 (CI.k h (fun v2 σ1 h => (?_ : WM _ 4 _ _ _ _)))
  refine r_i2l d_Mo_isLetter_4 (?_ : WM _ 5 _ _ _ _)
  refine r_ldc2 97 d_Mo_isLetter_5 (qm_5 (i := 172) rfl rfl) (by decide) (by decide) (?_ : WM _ 8 _ _ _ _)
  refine r_ldc2 122 d_Mo_isLetter_8 (qm_5 (i := 173) rfl rfl) (by decide) (by decide) (?_ : WM _ 11 _ _ _ _)
  refine r_callS (ν := M_Mo_isIn) [vL v2, vL 97, vL 122] ok_M_Mo_isIn oks_M_Mo_isIn (qm_5 (i := 153) rfl rfl) np_M_Mo_isIn rfl (by decide) (Nat.le_of_ble_eq_true rfl) rfl d_Mo_isLetter_11 (CI.k h (fun v4 σ3 h => (?_ : WM _ 14 _ _ _ _)))
  obtain ⟨h5, h⟩ := h
  exact r_zreturn rfl d_Mo_isLetter_14 h5 h
set_option maxRecDepth 20000 in
theorem e_Mo_isWord {K : Int → St → Prop} {σ : St} (x1 : Int) (x2 : Int) (x3 : Int) (h : (inR ((σ 35 15) - x1)) ∧ (inR (x3 - x2)) ∧ (((σ 35 15) - x1) = (x3 - x2) → WM M_Mo_isWord 17 [(0, vR 35), (1, vI x1), (2, vI x2), (3, vI x3), (4, vI x2)] [] σ (QI K)) ∧ (¬ ((σ 35 15) - x1) = (x3 - x2) → K 0 σ)) : CI M_Mo_isWord [vR 35, vI x1, vI x2, vI x3] σ K := by
  refine Con.of ok_M_Mo_isWord (ls := [(0, vR 35), (1, vI x1), (2, vI x2), (3, vI x3)]) rfl (Nat.le_of_ble_eq_true rfl) ?_
  refine r_aload_n d_Mo_isWord_0 rfl (?_ : WM _ 1 _ _ _ _)
  refine r_getI (k := 35) (j := 15) 15 (by decide) rfl clk_11 (by decide) (qm_5 (i := 51) rfl rfl) rfl rfl d_Mo_isWord_1 (y := (σ 35 15)) rfl (?_ : WM _ 4 _ _ _ _)
  refine r_iload_n d_Mo_isWord_4 rfl (?_ : WM _ 5 _ _ _ _)
  obtain ⟨h1, h⟩ := h
  refine r_isub d_Mo_isWord_5 h1 (?_ : WM _ 6 _ _ _ _)
  refine r_iload_n d_Mo_isWord_6 rfl (?_ : WM _ 7 _ _ _ _)
  refine r_iload_n d_Mo_isWord_7 rfl (?_ : WM _ 8 _ _ _ _)
  obtain ⟨h2, h⟩ := h
  refine r_isub d_Mo_isWord_8 h2 (?_ : WM _ 9 _ _ _ _)
  refine r_icmp_eq 14 d_Mo_isWord_9 rfl ⟨fun c3 => (?_ : WM _ 14 _ _ _ _), fun c3 => (?_ : WM _ 12 _ _ _ _)⟩
  · replace h := h.1 c3
    refine r_iload_n d_Mo_isWord_14 rfl (?_ : WM _ 15 _ _ _ _)
    refine r_istore (ls' := [(4, vI x2), (0, vR 35), (1, vI x1), (2, vI x2), (3, vI x3)]) d_Mo_isWord_15 (by decide) rfl (?_ : WM _ 17 _ _ _ _)
    refine r_pick (ls' := [(0, vR 35), (1, vI x1), (2, vI x2), (3, vI x3), (4, vI x2)]) [1, 2, 3, 4, 0] rfl ?_
    exact h
  · replace h := h.2 c3
    refine r_iconst d_Mo_isWord_12 (by decide) (?_ : WM _ 13 _ _ _ _)
    exact r_zreturn rfl d_Mo_isWord_13 (by decide) h
set_option maxRecDepth 20000 in
theorem l_Mo_isWord_1 {K : Int → St → Prop} {σ : St} (x1 : Int) (x2 : Int) (x3 : Int) (x4 : Int) (h : (x3 ≤ x4 → K 1 σ) ∧ (¬ x3 ≤ x4 → (inR (x1 + x4)) ∧ (inR ((x1 + x4) - x2)) ∧ (0 ≤ ((x1 + x4) - x2)) ∧ (((x1 + x4) - x2) < 900) ∧ (0 ≤ x4) ∧ (x4 < 9) ∧ ((σ 42 ((x1 + x4) - x2)) = (σ 43 x4) → (inR (x4 + 1)) ∧ WM M_Mo_isWord 17 [(0, vR 35), (1, vI x1), (2, vI x2), (3, vI x3), (4, vI (x4 + 1))] [] σ (QI K)) ∧ (¬ (σ 42 ((x1 + x4) - x2)) = (σ 43 x4) → K 0 σ))) : WM M_Mo_isWord 17 [(0, vR 35), (1, vI x1), (2, vI x2), (3, vI x3), (4, vI x4)] [] σ (QI K) := by
  refine r_iload d_Mo_isWord_17 rfl (?_ : WM _ 19 _ _ _ _)
  refine r_iload_n d_Mo_isWord_19 rfl (?_ : WM _ 20 _ _ _ _)
  refine r_icmp_ge 52 d_Mo_isWord_20 rfl ⟨fun c4 => (?_ : WM _ 52 _ _ _ _), fun c4 => (?_ : WM _ 23 _ _ _ _)⟩
  · replace h := h.1 c4
    refine r_iconst d_Mo_isWord_52 (by decide) (?_ : WM _ 53 _ _ _ _)
    exact r_zreturn rfl d_Mo_isWord_53 (by decide) h
  · replace h := h.2 c4
    refine r_aload_n d_Mo_isWord_23 rfl (?_ : WM _ 24 _ _ _ _)
    refine r_getR (k := 35) (j := 12) (q := 42) (by decide) rfl clk_11 (by decide) (qm_5 (i := 48) rfl rfl) rfl d_Mo_isWord_24 (?_ : WM _ 27 _ _ _ _)
    refine r_iload_n d_Mo_isWord_27 rfl (?_ : WM _ 28 _ _ _ _)
    refine r_iload d_Mo_isWord_28 rfl (?_ : WM _ 30 _ _ _ _)
    obtain ⟨h5, h⟩ := h
    refine r_iadd d_Mo_isWord_30 h5 (?_ : WM _ 31 _ _ _ _)
    refine r_iload_n d_Mo_isWord_31 rfl (?_ : WM _ 32 _ _ _ _)
    obtain ⟨h6, h⟩ := h
    refine r_isub d_Mo_isWord_32 h6 (?_ : WM _ 33 _ _ _ _)
    obtain ⟨h7, h⟩ := h
    obtain ⟨h8, h⟩ := h
    refine r_bald (k := 42) (n := 900) (by decide) rfl d_Mo_isWord_33 h7 h8 (y := (σ 42 ((x1 + x4) - x2))) rfl (?_ : WM _ 34 _ _ _ _)
    refine r_aload_n d_Mo_isWord_34 rfl (?_ : WM _ 35 _ _ _ _)
    refine r_getR (k := 35) (j := 18) (q := 43) (by decide) rfl clk_11 (by decide) (qm_5 (i := 54) rfl rfl) rfl d_Mo_isWord_35 (?_ : WM _ 38 _ _ _ _)
    refine r_iload d_Mo_isWord_38 rfl (?_ : WM _ 40 _ _ _ _)
    obtain ⟨h9, h⟩ := h
    obtain ⟨h10, h⟩ := h
    refine r_bald (k := 43) (n := 9) (by decide) rfl d_Mo_isWord_40 h9 h10 (y := (σ 43 x4)) rfl (?_ : WM _ 41 _ _ _ _)
    refine r_icmp_eq 46 d_Mo_isWord_41 rfl ⟨fun c11 => (?_ : WM _ 46 _ _ _ _), fun c11 => (?_ : WM _ 44 _ _ _ _)⟩
    · replace h := h.1 c11
      obtain ⟨h12, h⟩ := h
      refine r_iinc (ls' := [(4, vI (x4 + 1)), (0, vR 35), (1, vI x1), (2, vI x2), (3, vI x3)]) d_Mo_isWord_46 rfl h12 (by decide) rfl (?_ : WM _ 49 _ _ _ _)
      refine r_goto 17 d_Mo_isWord_49 rfl ?_
      refine r_pick (ls' := [(0, vR 35), (1, vI x1), (2, vI x2), (3, vI x3), (4, vI (x4 + 1))]) [1, 2, 3, 4, 0] rfl ?_
      exact h
    · replace h := h.2 c11
      refine r_iconst d_Mo_isWord_44 (by decide) (?_ : WM _ 45 _ _ _ _)
      exact r_zreturn rfl d_Mo_isWord_45 (by decide) h
set_option maxRecDepth 20000 in
theorem e_Mo_fails {K : St → Prop} {σ : St} (x1 : Int) (x2 : Int) (h : ((σ 35 16) = 0 → K (ups (ups σ 35 16 x1) 35 17 x2)) ∧ (¬ (σ 35 16) = 0 → K σ)) : CV M_Mo_fails [vR 35, vI x1, vI x2] σ K := by
  refine Con.of ok_M_Mo_fails (ls := [(0, vR 35), (1, vI x1), (2, vI x2)]) rfl (Nat.le_of_ble_eq_true rfl) ?_
  refine r_aload_n d_Mo_fails_0 rfl (?_ : WM _ 1 _ _ _ _)
  refine r_getI (k := 35) (j := 16) 16 (by decide) rfl clk_11 (by decide) (qm_5 (i := 52) rfl rfl) rfl rfl d_Mo_fails_1 (y := (σ 35 16)) rfl (?_ : WM _ 4 _ _ _ _)
  refine r_if_eq 8 d_Mo_fails_4 rfl ⟨fun c1 => (?_ : WM _ 8 _ _ _ _), fun c1 => (?_ : WM _ 7 _ _ _ _)⟩
  · replace h := h.1 c1
    refine r_aload_n d_Mo_fails_8 rfl (?_ : WM _ 9 _ _ _ _)
    refine r_iload_n d_Mo_fails_9 rfl (?_ : WM _ 10 _ _ _ _)
    refine r_put (k := 35) (j := 16) 16 (by decide) rfl clk_11 (by decide) (qm_5 (i := 52) rfl rfl) rfl rfl rfl tyX11_ok rfl nmX11 d_Mo_fails_10 (?_ : WM _ 13 _ _ _ _)
    refine r_aload_n d_Mo_fails_13 rfl (?_ : WM _ 14 _ _ _ _)
    refine r_iload_n d_Mo_fails_14 rfl (?_ : WM _ 15 _ _ _ _)
    refine r_put (k := 35) (j := 17) 17 (by decide) rfl clk_11 (by decide) (qm_5 (i := 53) rfl rfl) rfl rfl rfl tyX11_ok rfl nmX11 d_Mo_fails_15 (?_ : WM _ 18 _ _ _ _)
    exact r_return rfl d_Mo_fails_18 h
  · replace h := h.2 c1
    exact r_return rfl d_Mo_fails_7 h
set_option maxRecDepth 20000 in
theorem e_Mo_passesSign {K : Int → St → Prop} {σ : St} (x1 : Int) (h : CV M_Mo_blanks [vR 35] σ (fun σ1 => (¬ (σ1 35 16) = 0 → K 0 σ1) ∧ ((σ1 35 16) = 0 → CI M_Mo_peek [vR 35] σ1 (fun v5 σ4 => (v5 = x1 → (inR ((σ4 35 15) + 1)) ∧ K 1 (ups σ4 35 15 ((σ4 35 15) + 1))) ∧ (¬ v5 = x1 → K 0 σ4))))) : CI M_Mo_passesSign [vR 35, vI x1] σ K := by
  refine Con.of ok_M_Mo_passesSign (ls := [(0, vR 35), (1, vI x1)]) rfl (Nat.le_of_ble_eq_true rfl) ?_
  refine r_aload_n d_Mo_passesSign_0 rfl (?_ : WM _ 1 _ _ _ _)
  refine r_callV (ν := M_Mo_blanks) (k := 35) [] ok_M_Mo_blanks okv_M_Mo_blanks (by decide) rfl rfl rfl (qm_5 (i := 156) rfl rfl) np_M_Mo_blanks rfl (by decide) (Nat.le_of_ble_eq_true rfl) rfl d_Mo_passesSign_1 (CV.k h (fun σ1 h => (?_ : WM _ 4 _ _ _ _)))
  refine r_aload_n d_Mo_passesSign_4 rfl (?_ : WM _ 5 _ _ _ _)
  refine r_getI (k := 35) (j := 16) 16 (by decide) rfl clk_11 (by decide) (qm_5 (i := 52) rfl rfl) rfl rfl d_Mo_passesSign_5 (y := (σ1 35 16)) rfl (?_ : WM _ 8 _ _ _ _)
  refine r_if_ne 19 d_Mo_passesSign_8 rfl ⟨fun c3 => (?_ : WM _ 19 _ _ _ _), fun c3 => (?_ : WM _ 11 _ _ _ _)⟩
  · replace h := h.1 c3
    refine r_iconst d_Mo_passesSign_19 (by decide) (?_ : WM _ 20 _ _ _ _)
    exact r_zreturn rfl d_Mo_passesSign_20 (by decide) h
  · replace h := h.2 c3
    refine r_aload_n d_Mo_passesSign_11 rfl (?_ : WM _ 12 _ _ _ _)
    refine r_callV (ν := M_Mo_peek) (k := 35) [] ok_M_Mo_peek okv_M_Mo_peek (by decide) rfl rfl rfl (qm_5 (i := 160) rfl rfl) np_M_Mo_peek rfl (by decide) (Nat.le_of_ble_eq_true rfl) rfl d_Mo_passesSign_12 (CI.k h (fun v5 σ4 h => (?_ : WM _ 15 _ _ _ _)))
    refine r_iload_n d_Mo_passesSign_15 rfl (?_ : WM _ 16 _ _ _ _)
    refine r_icmp_eq 21 d_Mo_passesSign_16 rfl ⟨fun c6 => (?_ : WM _ 21 _ _ _ _), fun c6 => (?_ : WM _ 19 _ _ _ _)⟩
    · replace h := h.1 c6
      refine r_aload_n d_Mo_passesSign_21 rfl (?_ : WM _ 22 _ _ _ _)
      refine r_dup d_Mo_passesSign_22 rfl (?_ : WM _ 23 _ _ _ _)
      refine r_getI (k := 35) (j := 15) 15 (by decide) rfl clk_11 (by decide) (qm_5 (i := 51) rfl rfl) rfl rfl d_Mo_passesSign_23 (y := (σ4 35 15)) rfl (?_ : WM _ 26 _ _ _ _)
      refine r_iconst d_Mo_passesSign_26 (by decide) (?_ : WM _ 27 _ _ _ _)
      obtain ⟨h7, h⟩ := h
      refine r_iadd d_Mo_passesSign_27 h7 (?_ : WM _ 28 _ _ _ _)
      refine r_put (k := 35) (j := 15) 15 (by decide) rfl clk_11 (by decide) (qm_5 (i := 51) rfl rfl) rfl rfl rfl tyX11_ok rfl nmX11 d_Mo_passesSign_28 (?_ : WM _ 31 _ _ _ _)
      refine r_iconst d_Mo_passesSign_31 (by decide) (?_ : WM _ 32 _ _ _ _)
      exact r_zreturn rfl d_Mo_passesSign_32 (by decide) h
    · replace h := h.2 c6
      refine r_iconst d_Mo_passesSign_19 (by decide) (?_ : WM _ 20 _ _ _ _)
      exact r_zreturn rfl d_Mo_passesSign_20 (by decide) h
set_option maxRecDepth 20000 in
theorem e_Mo_auditLine {K : St → Prop} {σ : St} (x1 : Int) (h : CI M_Mo_number [vR 35, vI 99] σ (fun v2 σ1 => (¬ (σ1 35 16) = 0 → K σ1) ∧ ((σ1 35 16) = 0 → CI M_Mo_number [vR 35, vI 9999] σ1 (fun v5 σ4 => (¬ (σ4 35 16) = 0 → K σ4) ∧ ((σ4 35 16) = 0 → CI M_Mo_number [vR 35, vI 99999] σ4 (fun v8 σ7 => ((σ7 35 16) = 0 → CI M_Mo_placeIn [vR 40, vI (σ7 35 7), vI v2, vI v5] σ7 (fun v11 σ10 => (v11 = (-1) → CV M_Mo_fails [vR 35, vI 3, vI x1] σ10 (fun σ13 => K σ13)) ∧ (¬ v11 = (-1) → (inR (4 * v11)) ∧ (inR ((4 * v11) + 2)) ∧ (0 ≤ ((4 * v11) + 2)) ∧ (((4 * v11) + 2) < 192) ∧ ((σ10 40 ((4 * v11) + 2)) < 1 → CV M_Mo_fails [vR 35, vI 3, vI x1] σ10 (fun σ20 => K σ20)) ∧ (¬ (σ10 40 ((4 * v11) + 2)) < 1 → (inR (2 * (σ10 40 ((4 * v11) + 2)))) ∧ (v8 ≤ (2 * (σ10 40 ((4 * v11) + 2))) → (inR ((4 * v11) + 3)) ∧ (0 ≤ ((4 * v11) + 3)) ∧ (((4 * v11) + 3) < 192) ∧ K (ups σ10 40 ((4 * v11) + 3) v8)) ∧ (¬ v8 ≤ (2 * (σ10 40 ((4 * v11) + 2))) → CV M_Mo_fails [vR 35, vI 3, vI x1] σ10 (fun σ27 => K σ27)))))) ∧ (¬ (σ7 35 16) = 0 → K σ7))))))) : CV M_Mo_auditLine [vR 35, vI x1] σ K := by
  refine Con.of ok_M_Mo_auditLine (ls := [(0, vR 35), (1, vI x1)]) rfl (Nat.le_of_ble_eq_true rfl) ?_
  refine r_aload_n d_Mo_auditLine_0 rfl (?_ : WM _ 1 _ _ _ _)
  refine r_bipush d_Mo_auditLine_1 (by decide) (by decide) (?_ : WM _ 3 _ _ _ _)
  refine r_callV (ν := M_Mo_number) (k := 35) [vI 99] ok_M_Mo_number okv_M_Mo_number (by decide) rfl rfl rfl (qm_5 (i := 182) rfl rfl) np_M_Mo_number rfl (by decide) (Nat.le_of_ble_eq_true rfl) rfl d_Mo_auditLine_3 (CI.k h (fun v2 σ1 h => (?_ : WM _ 6 _ _ _ _)))
  refine r_istore_n (ls' := [(2, vI v2), (0, vR 35), (1, vI x1)]) d_Mo_auditLine_6 rfl (by decide) rfl (?_ : WM _ 7 _ _ _ _)
  refine r_aload_n d_Mo_auditLine_7 rfl (?_ : WM _ 8 _ _ _ _)
  refine r_getI (k := 35) (j := 16) 16 (by decide) rfl clk_11 (by decide) (qm_5 (i := 52) rfl rfl) rfl rfl d_Mo_auditLine_8 (y := (σ1 35 16)) rfl (?_ : WM _ 11 _ _ _ _)
  refine r_if_ne 24 d_Mo_auditLine_11 rfl ⟨fun c3 => (?_ : WM _ 24 _ _ _ _), fun c3 => (?_ : WM _ 14 _ _ _ _)⟩
  · replace h := h.1 c3
    refine r_iconst d_Mo_auditLine_24 (by decide) (?_ : WM _ 25 _ _ _ _)
    refine r_istore_n (ls' := [(3, vI 0), (2, vI v2), (0, vR 35), (1, vI x1)]) d_Mo_auditLine_25 rfl (by decide) rfl (?_ : WM _ 26 _ _ _ _)
    refine r_aload_n d_Mo_auditLine_26 rfl (?_ : WM _ 27 _ _ _ _)
    refine r_getI (k := 35) (j := 16) 16 (by decide) rfl clk_11 (by decide) (qm_5 (i := 52) rfl rfl) rfl rfl d_Mo_auditLine_27 (y := (σ1 35 16)) rfl (?_ : WM _ 30 _ _ _ _)
    refine r_if_ne 42 d_Mo_auditLine_30 rfl ⟨fun hc => (?_ : WM _ 42 _ _ _ _), fun hc => absurd hc c3⟩
    refine r_iconst d_Mo_auditLine_42 (by decide) (?_ : WM _ 43 _ _ _ _)
    refine r_istore (ls' := [(4, vI 0), (3, vI 0), (2, vI v2), (0, vR 35), (1, vI x1)]) d_Mo_auditLine_43 (by decide) rfl (?_ : WM _ 45 _ _ _ _)
    refine r_aload_n d_Mo_auditLine_45 rfl (?_ : WM _ 46 _ _ _ _)
    refine r_getI (k := 35) (j := 16) 16 (by decide) rfl clk_11 (by decide) (qm_5 (i := 52) rfl rfl) rfl rfl d_Mo_auditLine_46 (y := (σ1 35 16)) rfl (?_ : WM _ 49 _ _ _ _)
    refine r_if_eq 53 d_Mo_auditLine_49 rfl ⟨fun hc => absurd hc c3, fun hc => (?_ : WM _ 52 _ _ _ _)⟩
    exact r_return rfl d_Mo_auditLine_52 h
  · replace h := h.2 c3
    refine r_aload_n d_Mo_auditLine_14 rfl (?_ : WM _ 15 _ _ _ _)
    refine r_sipush d_Mo_auditLine_15 (by decide) (by decide) (?_ : WM _ 18 _ _ _ _)
    refine r_callV (ν := M_Mo_number) (k := 35) [vI 9999] ok_M_Mo_number okv_M_Mo_number (by decide) rfl rfl rfl (qm_5 (i := 182) rfl rfl) np_M_Mo_number rfl (by decide) (Nat.le_of_ble_eq_true rfl) rfl d_Mo_auditLine_18 (CI.k h (fun v5 σ4 h => (?_ : WM _ 21 _ _ _ _)))
    refine r_goto 25 d_Mo_auditLine_21 rfl ?_
    refine r_istore_n (ls' := [(3, vI v5), (2, vI v2), (0, vR 35), (1, vI x1)]) d_Mo_auditLine_25 rfl (by decide) rfl (?_ : WM _ 26 _ _ _ _)
    refine r_aload_n d_Mo_auditLine_26 rfl (?_ : WM _ 27 _ _ _ _)
    refine r_getI (k := 35) (j := 16) 16 (by decide) rfl clk_11 (by decide) (qm_5 (i := 52) rfl rfl) rfl rfl d_Mo_auditLine_27 (y := (σ4 35 16)) rfl (?_ : WM _ 30 _ _ _ _)
    refine r_if_ne 42 d_Mo_auditLine_30 rfl ⟨fun c6 => (?_ : WM _ 42 _ _ _ _), fun c6 => (?_ : WM _ 33 _ _ _ _)⟩
    · replace h := h.1 c6
      refine r_iconst d_Mo_auditLine_42 (by decide) (?_ : WM _ 43 _ _ _ _)
      refine r_istore (ls' := [(4, vI 0), (3, vI v5), (2, vI v2), (0, vR 35), (1, vI x1)]) d_Mo_auditLine_43 (by decide) rfl (?_ : WM _ 45 _ _ _ _)
      refine r_aload_n d_Mo_auditLine_45 rfl (?_ : WM _ 46 _ _ _ _)
      refine r_getI (k := 35) (j := 16) 16 (by decide) rfl clk_11 (by decide) (qm_5 (i := 52) rfl rfl) rfl rfl d_Mo_auditLine_46 (y := (σ4 35 16)) rfl (?_ : WM _ 49 _ _ _ _)
      refine r_if_eq 53 d_Mo_auditLine_49 rfl ⟨fun hc => absurd hc c6, fun hc => (?_ : WM _ 52 _ _ _ _)⟩
      exact r_return rfl d_Mo_auditLine_52 h
    · replace h := h.2 c6
      refine r_aload_n d_Mo_auditLine_33 rfl (?_ : WM _ 34 _ _ _ _)
      refine r_ldc 99999 d_Mo_auditLine_34 (qm_5 (i := 200) rfl rfl) (by decide) (by decide) (?_ : WM _ 36 _ _ _ _)
      refine r_callV (ν := M_Mo_number) (k := 35) [vI 99999] ok_M_Mo_number okv_M_Mo_number (by decide) rfl rfl rfl (qm_5 (i := 182) rfl rfl) np_M_Mo_number rfl (by decide) (Nat.le_of_ble_eq_true rfl) rfl d_Mo_auditLine_36 (CI.k h (fun v8 σ7 h => (?_ : WM _ 39 _ _ _ _)))
      refine r_goto 43 d_Mo_auditLine_39 rfl ?_
      refine r_istore (ls' := [(4, vI v8), (3, vI v5), (2, vI v2), (0, vR 35), (1, vI x1)]) d_Mo_auditLine_43 (by decide) rfl (?_ : WM _ 45 _ _ _ _)
      refine r_aload_n d_Mo_auditLine_45 rfl (?_ : WM _ 46 _ _ _ _)
      refine r_getI (k := 35) (j := 16) 16 (by decide) rfl clk_11 (by decide) (qm_5 (i := 52) rfl rfl) rfl rfl d_Mo_auditLine_46 (y := (σ7 35 16)) rfl (?_ : WM _ 49 _ _ _ _)
      refine r_if_eq 53 d_Mo_auditLine_49 rfl ⟨fun c9 => (?_ : WM _ 53 _ _ _ _), fun c9 => (?_ : WM _ 52 _ _ _ _)⟩
      · replace h := h.1 c9
        refine r_aload_n d_Mo_auditLine_53 rfl (?_ : WM _ 54 _ _ _ _)
        refine r_getR (k := 35) (j := 5) (q := 40) (by decide) rfl clk_11 (by decide) (qm_5 (i := 41) rfl rfl) rfl d_Mo_auditLine_54 (?_ : WM _ 57 _ _ _ _)
        refine r_aload_n d_Mo_auditLine_57 rfl (?_ : WM _ 58 _ _ _ _)
        refine r_getI (k := 35) (j := 7) 7 (by decide) rfl clk_11 (by decide) (qm_5 (i := 43) rfl rfl) rfl rfl d_Mo_auditLine_58 (y := (σ7 35 7)) rfl (?_ : WM _ 61 _ _ _ _)
        refine r_iload_n d_Mo_auditLine_61 rfl (?_ : WM _ 62 _ _ _ _)
        refine r_iload_n d_Mo_auditLine_62 rfl (?_ : WM _ 63 _ _ _ _)
        refine r_callS (ν := M_Mo_placeIn) [vR 40, vI (σ7 35 7), vI v2, vI v5] ok_M_Mo_placeIn oks_M_Mo_placeIn (qm_5 (i := 201) rfl rfl) np_M_Mo_placeIn rfl (by decide) (Nat.le_of_ble_eq_true rfl) rfl d_Mo_auditLine_63 (CI.k h (fun v11 σ10 h => (?_ : WM _ 66 _ _ _ _)))
        refine r_istore (ls' := [(5, vI v11), (4, vI v8), (3, vI v5), (2, vI v2), (0, vR 35), (1, vI x1)]) d_Mo_auditLine_66 (by decide) rfl (?_ : WM _ 68 _ _ _ _)
        refine r_iload d_Mo_auditLine_68 rfl (?_ : WM _ 70 _ _ _ _)
        refine r_iconst d_Mo_auditLine_70 (by decide) (?_ : WM _ 71 _ _ _ _)
        refine r_icmp_eq 107 d_Mo_auditLine_71 rfl ⟨fun c12 => (?_ : WM _ 107 _ _ _ _), fun c12 => (?_ : WM _ 74 _ _ _ _)⟩
        · replace h := h.1 c12
          refine r_aload_n d_Mo_auditLine_107 rfl (?_ : WM _ 108 _ _ _ _)
          refine r_iconst d_Mo_auditLine_108 (by decide) (?_ : WM _ 109 _ _ _ _)
          refine r_iload_n d_Mo_auditLine_109 rfl (?_ : WM _ 110 _ _ _ _)
          refine r_callV (ν := M_Mo_fails) (k := 35) [vI 3, vI x1] ok_M_Mo_fails okv_M_Mo_fails (by decide) rfl rfl rfl (qm_5 (i := 192) rfl rfl) np_M_Mo_fails rfl (by decide) (Nat.le_of_ble_eq_true rfl) rfl d_Mo_auditLine_110 (CV.k h (fun σ13 h => (?_ : WM _ 113 _ _ _ _)))
          refine r_goto 129 d_Mo_auditLine_113 rfl ?_
          exact r_return rfl d_Mo_auditLine_129 h
        · replace h := h.2 c12
          refine r_aload_n d_Mo_auditLine_74 rfl (?_ : WM _ 75 _ _ _ _)
          refine r_getR (k := 35) (j := 5) (q := 40) (by decide) rfl clk_11 (by decide) (qm_5 (i := 41) rfl rfl) rfl d_Mo_auditLine_75 (?_ : WM _ 78 _ _ _ _)
          refine r_iconst d_Mo_auditLine_78 (by decide) (?_ : WM _ 79 _ _ _ _)
          refine r_iload d_Mo_auditLine_79 rfl (?_ : WM _ 81 _ _ _ _)
          obtain ⟨h15, h⟩ := h
          refine r_imul d_Mo_auditLine_81 h15 (?_ : WM _ 82 _ _ _ _)
          refine r_iconst d_Mo_auditLine_82 (by decide) (?_ : WM _ 83 _ _ _ _)
          obtain ⟨h16, h⟩ := h
          refine r_iadd d_Mo_auditLine_83 h16 (?_ : WM _ 84 _ _ _ _)
          obtain ⟨h17, h⟩ := h
          obtain ⟨h18, h⟩ := h
          refine r_iald (k := 40) (n := 192) (by decide) rfl d_Mo_auditLine_84 h17 h18 (y := (σ10 40 ((4 * v11) + 2))) rfl (?_ : WM _ 85 _ _ _ _)
          refine r_iconst d_Mo_auditLine_85 (by decide) (?_ : WM _ 86 _ _ _ _)
          refine r_icmp_lt 107 d_Mo_auditLine_86 rfl ⟨fun c19 => (?_ : WM _ 107 _ _ _ _), fun c19 => (?_ : WM _ 89 _ _ _ _)⟩
          · replace h := h.1 c19
            refine r_aload_n d_Mo_auditLine_107 rfl (?_ : WM _ 108 _ _ _ _)
            refine r_iconst d_Mo_auditLine_108 (by decide) (?_ : WM _ 109 _ _ _ _)
            refine r_iload_n d_Mo_auditLine_109 rfl (?_ : WM _ 110 _ _ _ _)
            refine r_callV (ν := M_Mo_fails) (k := 35) [vI 3, vI x1] ok_M_Mo_fails okv_M_Mo_fails (by decide) rfl rfl rfl (qm_5 (i := 192) rfl rfl) np_M_Mo_fails rfl (by decide) (Nat.le_of_ble_eq_true rfl) rfl d_Mo_auditLine_110 (CV.k h (fun σ20 h => (?_ : WM _ 113 _ _ _ _)))
            refine r_goto 129 d_Mo_auditLine_113 rfl ?_
            exact r_return rfl d_Mo_auditLine_129 h
          · replace h := h.2 c19
            refine r_iload d_Mo_auditLine_89 rfl (?_ : WM _ 91 _ _ _ _)
            refine r_iconst d_Mo_auditLine_91 (by decide) (?_ : WM _ 92 _ _ _ _)
            refine r_aload_n d_Mo_auditLine_92 rfl (?_ : WM _ 93 _ _ _ _)
            refine r_getR (k := 35) (j := 5) (q := 40) (by decide) rfl clk_11 (by decide) (qm_5 (i := 41) rfl rfl) rfl d_Mo_auditLine_93 (?_ : WM _ 96 _ _ _ _)
            refine r_iconst d_Mo_auditLine_96 (by decide) (?_ : WM _ 97 _ _ _ _)
            refine r_iload d_Mo_auditLine_97 rfl (?_ : WM _ 99 _ _ _ _)
            refine r_imul d_Mo_auditLine_99 h15 (?_ : WM _ 100 _ _ _ _)
            refine r_iconst d_Mo_auditLine_100 (by decide) (?_ : WM _ 101 _ _ _ _)
            refine r_iadd d_Mo_auditLine_101 h16 (?_ : WM _ 102 _ _ _ _)
            refine r_iald (k := 40) (n := 192) (by decide) rfl d_Mo_auditLine_102 h17 h18 (y := (σ10 40 ((4 * v11) + 2))) rfl (?_ : WM _ 103 _ _ _ _)
            obtain ⟨h22, h⟩ := h
            refine r_imul d_Mo_auditLine_103 h22 (?_ : WM _ 104 _ _ _ _)
            refine r_icmp_le 116 d_Mo_auditLine_104 rfl ⟨fun c23 => (?_ : WM _ 116 _ _ _ _), fun c23 => (?_ : WM _ 107 _ _ _ _)⟩
            · replace h := h.1 c23
              refine r_aload_n d_Mo_auditLine_116 rfl (?_ : WM _ 117 _ _ _ _)
              refine r_getR (k := 35) (j := 5) (q := 40) (by decide) rfl clk_11 (by decide) (qm_5 (i := 41) rfl rfl) rfl d_Mo_auditLine_117 (?_ : WM _ 120 _ _ _ _)
              refine r_iconst d_Mo_auditLine_120 (by decide) (?_ : WM _ 121 _ _ _ _)
              refine r_iload d_Mo_auditLine_121 rfl (?_ : WM _ 123 _ _ _ _)
              refine r_imul d_Mo_auditLine_123 h15 (?_ : WM _ 124 _ _ _ _)
              refine r_iconst d_Mo_auditLine_124 (by decide) (?_ : WM _ 125 _ _ _ _)
              obtain ⟨h24, h⟩ := h
              refine r_iadd d_Mo_auditLine_125 h24 (?_ : WM _ 126 _ _ _ _)
              refine r_iload d_Mo_auditLine_126 rfl (?_ : WM _ 128 _ _ _ _)
              obtain ⟨h25, h⟩ := h
              obtain ⟨h26, h⟩ := h
              refine r_iast (k := 40) (n := 192) (by decide) rfl d_Mo_auditLine_128 h25 h26 (?_ : WM _ 129 _ _ _ _)
              exact r_return rfl d_Mo_auditLine_129 h
            · replace h := h.2 c23
              refine r_aload_n d_Mo_auditLine_107 rfl (?_ : WM _ 108 _ _ _ _)
              refine r_iconst d_Mo_auditLine_108 (by decide) (?_ : WM _ 109 _ _ _ _)
              refine r_iload_n d_Mo_auditLine_109 rfl (?_ : WM _ 110 _ _ _ _)
              refine r_callV (ν := M_Mo_fails) (k := 35) [vI 3, vI x1] ok_M_Mo_fails okv_M_Mo_fails (by decide) rfl rfl rfl (qm_5 (i := 192) rfl rfl) np_M_Mo_fails rfl (by decide) (Nat.le_of_ble_eq_true rfl) rfl d_Mo_auditLine_110 (CV.k h (fun σ27 h => (?_ : WM _ 113 _ _ _ _)))
              refine r_goto 129 d_Mo_auditLine_113 rfl ?_
              exact r_return rfl d_Mo_auditLine_129 h
      · replace h := h.2 c9
        exact r_return rfl d_Mo_auditLine_52 h
set_option maxRecDepth 20000 in
theorem e_Mo_itemLine {K : St → Prop} {σ : St} (x1 : Int) (h : CI M_Mo_number [vR 35, vI 99] σ (fun v2 σ1 => (¬ (σ1 35 16) = 0 → CI M_Mo_passesSign [vR 35, vI 45] σ1 (fun v5 σ4 => (¬ (σ4 35 16) = 0 → K σ4) ∧ ((σ4 35 16) = 0 → CI M_Mo_number [vR 35, vI 99999] σ4 (fun v8 σ7 => ((σ7 35 16) = 0 → ((σ7 35 7) = 48 → CV M_Mo_fails [vR 35, vI 3, vI x1] σ7 (fun σ11 => K σ11)) ∧ (¬ (σ7 35 7) = 48 → CI M_Mo_placeIn [vR 40, vI (σ7 35 7), vI v2, vI 0] σ7 (fun v14 σ13 => (v14 = (-1) → (inR (4 * (σ13 35 7))) ∧ (inR ((4 * (σ13 35 7)) + 0)) ∧ (0 ≤ ((4 * (σ13 35 7)) + 0)) ∧ (((4 * (σ13 35 7)) + 0) < 192) ∧ (inR ((4 * (σ13 35 7)) + 1)) ∧ (0 ≤ ((4 * (σ13 35 7)) + 1)) ∧ (((4 * (σ13 35 7)) + 1) < 192) ∧ (inR ((4 * (σ13 35 7)) + 2)) ∧ (v5 = 0 → (0 ≤ ((4 * (σ13 35 7)) + 2)) ∧ (((4 * (σ13 35 7)) + 2) < 192) ∧ (inR ((4 * (σ13 35 7)) + 3)) ∧ (0 ≤ ((4 * (σ13 35 7)) + 3)) ∧ (((4 * (σ13 35 7)) + 3) < 192) ∧ (inR ((σ13 35 7) + 1)) ∧ K (ups (ups (ups (ups (ups σ13 40 ((4 * (σ13 35 7)) + 0) v2) 40 ((4 * (σ13 35 7)) + 1) 0) 40 ((4 * (σ13 35 7)) + 2) v8) 40 ((4 * (σ13 35 7)) + 3) (-1)) 35 7 ((σ13 35 7) + 1))) ∧ (¬ v5 = 0 → (inR (-v8)) ∧ (0 ≤ ((4 * (σ13 35 7)) + 2)) ∧ (((4 * (σ13 35 7)) + 2) < 192) ∧ (inR ((4 * (σ13 35 7)) + 3)) ∧ (0 ≤ ((4 * (σ13 35 7)) + 3)) ∧ (((4 * (σ13 35 7)) + 3) < 192) ∧ (inR ((σ13 35 7) + 1)) ∧ K (ups (ups (ups (ups (ups σ13 40 ((4 * (σ13 35 7)) + 0) v2) 40 ((4 * (σ13 35 7)) + 1) 0) 40 ((4 * (σ13 35 7)) + 2) (-v8)) 40 ((4 * (σ13 35 7)) + 3) (-1)) 35 7 ((σ13 35 7) + 1)))) ∧ (¬ v14 = (-1) → CV M_Mo_fails [vR 35, vI 3, vI x1] σ13 (fun σ38 => K σ38))))) ∧ (¬ (σ7 35 16) = 0 → K σ7))))) ∧ ((σ1 35 16) = 0 → CI M_Mo_number [vR 35, vI 9999] σ1 (fun v41 σ40 => CI M_Mo_passesSign [vR 35, vI 45] σ40 (fun v43 σ42 => (¬ (σ42 35 16) = 0 → K σ42) ∧ ((σ42 35 16) = 0 → CI M_Mo_number [vR 35, vI 99999] σ42 (fun v46 σ45 => ((σ45 35 16) = 0 → ((σ45 35 7) = 48 → CV M_Mo_fails [vR 35, vI 3, vI x1] σ45 (fun σ49 => K σ49)) ∧ (¬ (σ45 35 7) = 48 → CI M_Mo_placeIn [vR 40, vI (σ45 35 7), vI v2, vI v41] σ45 (fun v52 σ51 => (v52 = (-1) → (inR (4 * (σ51 35 7))) ∧ (inR ((4 * (σ51 35 7)) + 0)) ∧ (0 ≤ ((4 * (σ51 35 7)) + 0)) ∧ (((4 * (σ51 35 7)) + 0) < 192) ∧ (inR ((4 * (σ51 35 7)) + 1)) ∧ (0 ≤ ((4 * (σ51 35 7)) + 1)) ∧ (((4 * (σ51 35 7)) + 1) < 192) ∧ (inR ((4 * (σ51 35 7)) + 2)) ∧ (v43 = 0 → (0 ≤ ((4 * (σ51 35 7)) + 2)) ∧ (((4 * (σ51 35 7)) + 2) < 192) ∧ (inR ((4 * (σ51 35 7)) + 3)) ∧ (0 ≤ ((4 * (σ51 35 7)) + 3)) ∧ (((4 * (σ51 35 7)) + 3) < 192) ∧ (inR ((σ51 35 7) + 1)) ∧ K (ups (ups (ups (ups (ups σ51 40 ((4 * (σ51 35 7)) + 0) v2) 40 ((4 * (σ51 35 7)) + 1) v41) 40 ((4 * (σ51 35 7)) + 2) v46) 40 ((4 * (σ51 35 7)) + 3) (-1)) 35 7 ((σ51 35 7) + 1))) ∧ (¬ v43 = 0 → (inR (-v46)) ∧ (0 ≤ ((4 * (σ51 35 7)) + 2)) ∧ (((4 * (σ51 35 7)) + 2) < 192) ∧ (inR ((4 * (σ51 35 7)) + 3)) ∧ (0 ≤ ((4 * (σ51 35 7)) + 3)) ∧ (((4 * (σ51 35 7)) + 3) < 192) ∧ (inR ((σ51 35 7) + 1)) ∧ K (ups (ups (ups (ups (ups σ51 40 ((4 * (σ51 35 7)) + 0) v2) 40 ((4 * (σ51 35 7)) + 1) v41) 40 ((4 * (σ51 35 7)) + 2) (-v46)) 40 ((4 * (σ51 35 7)) + 3) (-1)) 35 7 ((σ51 35 7) + 1)))) ∧ (¬ v52 = (-1) → CV M_Mo_fails [vR 35, vI 3, vI x1] σ51 (fun σ76 => K σ76))))) ∧ (¬ (σ45 35 16) = 0 → K σ45)))))))) : CV M_Mo_itemLine [vR 35, vI x1] σ K := by
  refine Con.of ok_M_Mo_itemLine (ls := [(0, vR 35), (1, vI x1)]) rfl (Nat.le_of_ble_eq_true rfl) ?_
  refine r_aload_n d_Mo_itemLine_0 rfl (?_ : WM _ 1 _ _ _ _)
  refine r_bipush d_Mo_itemLine_1 (by decide) (by decide) (?_ : WM _ 3 _ _ _ _)
  refine r_callV (ν := M_Mo_number) (k := 35) [vI 99] ok_M_Mo_number okv_M_Mo_number (by decide) rfl rfl rfl (qm_5 (i := 182) rfl rfl) np_M_Mo_number rfl (by decide) (Nat.le_of_ble_eq_true rfl) rfl d_Mo_itemLine_3 (CI.k h (fun v2 σ1 h => (?_ : WM _ 6 _ _ _ _)))
  refine r_istore_n (ls' := [(2, vI v2), (0, vR 35), (1, vI x1)]) d_Mo_itemLine_6 rfl (by decide) rfl (?_ : WM _ 7 _ _ _ _)
  refine r_aload_n d_Mo_itemLine_7 rfl (?_ : WM _ 8 _ _ _ _)
  refine r_getI (k := 35) (j := 16) 16 (by decide) rfl clk_11 (by decide) (qm_5 (i := 52) rfl rfl) rfl rfl d_Mo_itemLine_8 (y := (σ1 35 16)) rfl (?_ : WM _ 11 _ _ _ _)
  refine r_if_ne 24 d_Mo_itemLine_11 rfl ⟨fun c3 => (?_ : WM _ 24 _ _ _ _), fun c3 => (?_ : WM _ 14 _ _ _ _)⟩
  · replace h := h.1 c3
    refine r_iconst d_Mo_itemLine_24 (by decide) (?_ : WM _ 25 _ _ _ _)
    refine r_istore_n (ls' := [(3, vI 0), (2, vI v2), (0, vR 35), (1, vI x1)]) d_Mo_itemLine_25 rfl (by decide) rfl (?_ : WM _ 26 _ _ _ _)
    refine r_aload_n d_Mo_itemLine_26 rfl (?_ : WM _ 27 _ _ _ _)
    refine r_bipush d_Mo_itemLine_27 (by decide) (by decide) (?_ : WM _ 29 _ _ _ _)
    refine r_callV (ν := M_Mo_passesSign) (k := 35) [vI 45] ok_M_Mo_passesSign okv_M_Mo_passesSign (by decide) rfl rfl rfl (qm_5 (i := 196) rfl rfl) np_M_Mo_passesSign rfl (by decide) (Nat.le_of_ble_eq_true rfl) rfl d_Mo_itemLine_29 (CI.k h (fun v5 σ4 h => (?_ : WM _ 32 _ _ _ _)))
    refine r_istore (ls' := [(4, vI v5), (3, vI 0), (2, vI v2), (0, vR 35), (1, vI x1)]) d_Mo_itemLine_32 (by decide) rfl (?_ : WM _ 34 _ _ _ _)
    refine r_aload_n d_Mo_itemLine_34 rfl (?_ : WM _ 35 _ _ _ _)
    refine r_getI (k := 35) (j := 16) 16 (by decide) rfl clk_11 (by decide) (qm_5 (i := 52) rfl rfl) rfl rfl d_Mo_itemLine_35 (y := (σ4 35 16)) rfl (?_ : WM _ 38 _ _ _ _)
    refine r_if_ne 50 d_Mo_itemLine_38 rfl ⟨fun c6 => (?_ : WM _ 50 _ _ _ _), fun c6 => (?_ : WM _ 41 _ _ _ _)⟩
    · replace h := h.1 c6
      refine r_iconst d_Mo_itemLine_50 (by decide) (?_ : WM _ 51 _ _ _ _)
      refine r_istore (ls' := [(5, vI 0), (4, vI v5), (3, vI 0), (2, vI v2), (0, vR 35), (1, vI x1)]) d_Mo_itemLine_51 (by decide) rfl (?_ : WM _ 53 _ _ _ _)
      refine r_aload_n d_Mo_itemLine_53 rfl (?_ : WM _ 54 _ _ _ _)
      refine r_getI (k := 35) (j := 16) 16 (by decide) rfl clk_11 (by decide) (qm_5 (i := 52) rfl rfl) rfl rfl d_Mo_itemLine_54 (y := (σ4 35 16)) rfl (?_ : WM _ 57 _ _ _ _)
      refine r_if_eq 61 d_Mo_itemLine_57 rfl ⟨fun hc => absurd hc c6, fun hc => (?_ : WM _ 60 _ _ _ _)⟩
      exact r_return rfl d_Mo_itemLine_60 h
    · replace h := h.2 c6
      refine r_aload_n d_Mo_itemLine_41 rfl (?_ : WM _ 42 _ _ _ _)
      refine r_ldc 99999 d_Mo_itemLine_42 (qm_5 (i := 200) rfl rfl) (by decide) (by decide) (?_ : WM _ 44 _ _ _ _)
      refine r_callV (ν := M_Mo_number) (k := 35) [vI 99999] ok_M_Mo_number okv_M_Mo_number (by decide) rfl rfl rfl (qm_5 (i := 182) rfl rfl) np_M_Mo_number rfl (by decide) (Nat.le_of_ble_eq_true rfl) rfl d_Mo_itemLine_44 (CI.k h (fun v8 σ7 h => (?_ : WM _ 47 _ _ _ _)))
      refine r_goto 51 d_Mo_itemLine_47 rfl ?_
      refine r_istore (ls' := [(5, vI v8), (4, vI v5), (3, vI 0), (2, vI v2), (0, vR 35), (1, vI x1)]) d_Mo_itemLine_51 (by decide) rfl (?_ : WM _ 53 _ _ _ _)
      refine r_aload_n d_Mo_itemLine_53 rfl (?_ : WM _ 54 _ _ _ _)
      refine r_getI (k := 35) (j := 16) 16 (by decide) rfl clk_11 (by decide) (qm_5 (i := 52) rfl rfl) rfl rfl d_Mo_itemLine_54 (y := (σ7 35 16)) rfl (?_ : WM _ 57 _ _ _ _)
      refine r_if_eq 61 d_Mo_itemLine_57 rfl ⟨fun c9 => (?_ : WM _ 61 _ _ _ _), fun c9 => (?_ : WM _ 60 _ _ _ _)⟩
      · replace h := h.1 c9
        refine r_aload_n d_Mo_itemLine_61 rfl (?_ : WM _ 62 _ _ _ _)
        refine r_getI (k := 35) (j := 7) 7 (by decide) rfl clk_11 (by decide) (qm_5 (i := 43) rfl rfl) rfl rfl d_Mo_itemLine_62 (y := (σ7 35 7)) rfl (?_ : WM _ 65 _ _ _ _)
        refine r_bipush d_Mo_itemLine_65 (by decide) (by decide) (?_ : WM _ 67 _ _ _ _)
        refine r_icmp_eq 87 d_Mo_itemLine_67 rfl ⟨fun c10 => (?_ : WM _ 87 _ _ _ _), fun c10 => (?_ : WM _ 70 _ _ _ _)⟩
        · replace h := h.1 c10
          refine r_aload_n d_Mo_itemLine_87 rfl (?_ : WM _ 88 _ _ _ _)
          refine r_iconst d_Mo_itemLine_88 (by decide) (?_ : WM _ 89 _ _ _ _)
          refine r_iload_n d_Mo_itemLine_89 rfl (?_ : WM _ 90 _ _ _ _)
          refine r_callV (ν := M_Mo_fails) (k := 35) [vI 3, vI x1] ok_M_Mo_fails okv_M_Mo_fails (by decide) rfl rfl rfl (qm_5 (i := 192) rfl rfl) np_M_Mo_fails rfl (by decide) (Nat.le_of_ble_eq_true rfl) rfl d_Mo_itemLine_90 (CV.k h (fun σ11 h => (?_ : WM _ 93 _ _ _ _)))
          exact r_return rfl d_Mo_itemLine_93 h
        · replace h := h.2 c10
          refine r_aload_n d_Mo_itemLine_70 rfl (?_ : WM _ 71 _ _ _ _)
          refine r_getR (k := 35) (j := 5) (q := 40) (by decide) rfl clk_11 (by decide) (qm_5 (i := 41) rfl rfl) rfl d_Mo_itemLine_71 (?_ : WM _ 74 _ _ _ _)
          refine r_aload_n d_Mo_itemLine_74 rfl (?_ : WM _ 75 _ _ _ _)
          refine r_getI (k := 35) (j := 7) 7 (by decide) rfl clk_11 (by decide) (qm_5 (i := 43) rfl rfl) rfl rfl d_Mo_itemLine_75 (y := (σ7 35 7)) rfl (?_ : WM _ 78 _ _ _ _)
          refine r_iload_n d_Mo_itemLine_78 rfl (?_ : WM _ 79 _ _ _ _)
          refine r_iload_n d_Mo_itemLine_79 rfl (?_ : WM _ 80 _ _ _ _)
          refine r_callS (ν := M_Mo_placeIn) [vR 40, vI (σ7 35 7), vI v2, vI 0] ok_M_Mo_placeIn oks_M_Mo_placeIn (qm_5 (i := 201) rfl rfl) np_M_Mo_placeIn rfl (by decide) (Nat.le_of_ble_eq_true rfl) rfl d_Mo_itemLine_80 (CI.k h (fun v14 σ13 h => (?_ : WM _ 83 _ _ _ _)))
          refine r_iconst d_Mo_itemLine_83 (by decide) (?_ : WM _ 84 _ _ _ _)
          refine r_icmp_eq 94 d_Mo_itemLine_84 rfl ⟨fun c15 => (?_ : WM _ 94 _ _ _ _), fun c15 => (?_ : WM _ 87 _ _ _ _)⟩
          · replace h := h.1 c15
            refine r_iconst d_Mo_itemLine_94 (by decide) (?_ : WM _ 95 _ _ _ _)
            refine r_aload_n d_Mo_itemLine_95 rfl (?_ : WM _ 96 _ _ _ _)
            refine r_getI (k := 35) (j := 7) 7 (by decide) rfl clk_11 (by decide) (qm_5 (i := 43) rfl rfl) rfl rfl d_Mo_itemLine_96 (y := (σ13 35 7)) rfl (?_ : WM _ 99 _ _ _ _)
            obtain ⟨h16, h⟩ := h
            refine r_imul d_Mo_itemLine_99 h16 (?_ : WM _ 100 _ _ _ _)
            refine r_istore (ls' := [(6, vI (4 * (σ13 35 7))), (5, vI v8), (4, vI v5), (3, vI 0), (2, vI v2), (0, vR 35), (1, vI x1)]) d_Mo_itemLine_100 (by decide) rfl (?_ : WM _ 102 _ _ _ _)
            refine r_aload_n d_Mo_itemLine_102 rfl (?_ : WM _ 103 _ _ _ _)
            refine r_getR (k := 35) (j := 5) (q := 40) (by decide) rfl clk_11 (by decide) (qm_5 (i := 41) rfl rfl) rfl d_Mo_itemLine_103 (?_ : WM _ 106 _ _ _ _)
            refine r_iload d_Mo_itemLine_106 rfl (?_ : WM _ 108 _ _ _ _)
            refine r_iconst d_Mo_itemLine_108 (by decide) (?_ : WM _ 109 _ _ _ _)
            obtain ⟨h17, h⟩ := h
            refine r_iadd d_Mo_itemLine_109 h17 (?_ : WM _ 110 _ _ _ _)
            refine r_iload_n d_Mo_itemLine_110 rfl (?_ : WM _ 111 _ _ _ _)
            obtain ⟨h18, h⟩ := h
            obtain ⟨h19, h⟩ := h
            refine r_iast (k := 40) (n := 192) (by decide) rfl d_Mo_itemLine_111 h18 h19 (?_ : WM _ 112 _ _ _ _)
            refine r_aload_n d_Mo_itemLine_112 rfl (?_ : WM _ 113 _ _ _ _)
            refine r_getR (k := 35) (j := 5) (q := 40) (by decide) rfl clk_11 (by decide) (qm_5 (i := 41) rfl rfl) rfl d_Mo_itemLine_113 (?_ : WM _ 116 _ _ _ _)
            refine r_iload d_Mo_itemLine_116 rfl (?_ : WM _ 118 _ _ _ _)
            refine r_iconst d_Mo_itemLine_118 (by decide) (?_ : WM _ 119 _ _ _ _)
            obtain ⟨h20, h⟩ := h
            refine r_iadd d_Mo_itemLine_119 h20 (?_ : WM _ 120 _ _ _ _)
            refine r_iload_n d_Mo_itemLine_120 rfl (?_ : WM _ 121 _ _ _ _)
            obtain ⟨h21, h⟩ := h
            obtain ⟨h22, h⟩ := h
            refine r_iast (k := 40) (n := 192) (by decide) rfl d_Mo_itemLine_121 h21 h22 (?_ : WM _ 122 _ _ _ _)
            refine r_aload_n d_Mo_itemLine_122 rfl (?_ : WM _ 123 _ _ _ _)
            refine r_getR (k := 35) (j := 5) (q := 40) (by decide) rfl clk_11 (by decide) (qm_5 (i := 41) rfl rfl) rfl d_Mo_itemLine_123 (?_ : WM _ 126 _ _ _ _)
            refine r_iload d_Mo_itemLine_126 rfl (?_ : WM _ 128 _ _ _ _)
            refine r_iconst d_Mo_itemLine_128 (by decide) (?_ : WM _ 129 _ _ _ _)
            obtain ⟨h23, h⟩ := h
            refine r_iadd d_Mo_itemLine_129 h23 (?_ : WM _ 130 _ _ _ _)
            refine r_iload d_Mo_itemLine_130 rfl (?_ : WM _ 132 _ _ _ _)
            refine r_if_eq 141 d_Mo_itemLine_132 rfl ⟨fun c24 => (?_ : WM _ 141 _ _ _ _), fun c24 => (?_ : WM _ 135 _ _ _ _)⟩
            · replace h := h.1 c24
              refine r_iload d_Mo_itemLine_141 rfl (?_ : WM _ 143 _ _ _ _)
              obtain ⟨h25, h⟩ := h
              obtain ⟨h26, h⟩ := h
              refine r_iast (k := 40) (n := 192) (by decide) rfl d_Mo_itemLine_143 h25 h26 (?_ : WM _ 144 _ _ _ _)
              refine r_aload_n d_Mo_itemLine_144 rfl (?_ : WM _ 145 _ _ _ _)
              refine r_getR (k := 35) (j := 5) (q := 40) (by decide) rfl clk_11 (by decide) (qm_5 (i := 41) rfl rfl) rfl d_Mo_itemLine_145 (?_ : WM _ 148 _ _ _ _)
              refine r_iload d_Mo_itemLine_148 rfl (?_ : WM _ 150 _ _ _ _)
              refine r_iconst d_Mo_itemLine_150 (by decide) (?_ : WM _ 151 _ _ _ _)
              obtain ⟨h27, h⟩ := h
              refine r_iadd d_Mo_itemLine_151 h27 (?_ : WM _ 152 _ _ _ _)
              refine r_iconst d_Mo_itemLine_152 (by decide) (?_ : WM _ 153 _ _ _ _)
              obtain ⟨h28, h⟩ := h
              obtain ⟨h29, h⟩ := h
              refine r_iast (k := 40) (n := 192) (by decide) rfl d_Mo_itemLine_153 h28 h29 (?_ : WM _ 154 _ _ _ _)
              refine r_aload_n d_Mo_itemLine_154 rfl (?_ : WM _ 155 _ _ _ _)
              refine r_dup d_Mo_itemLine_155 rfl (?_ : WM _ 156 _ _ _ _)
              refine r_getI (k := 35) (j := 7) 7 (by decide) rfl clk_11 (by decide) (qm_5 (i := 43) rfl rfl) rfl rfl d_Mo_itemLine_156 (y := (σ13 35 7)) ((ups_c (by decide)).trans ((ups_c (by decide)).trans ((ups_c (by decide)).trans (ups_c (by decide))))) (?_ : WM _ 159 _ _ _ _)
              refine r_iconst d_Mo_itemLine_159 (by decide) (?_ : WM _ 160 _ _ _ _)
              obtain ⟨h30, h⟩ := h
              refine r_iadd d_Mo_itemLine_160 h30 (?_ : WM _ 161 _ _ _ _)
              refine r_put (k := 35) (j := 7) 7 (by decide) rfl clk_11 (by decide) (qm_5 (i := 43) rfl rfl) rfl rfl rfl tyX11_ok rfl nmX11 d_Mo_itemLine_161 (?_ : WM _ 164 _ _ _ _)
              exact r_return rfl d_Mo_itemLine_164 h
            · replace h := h.2 c24
              refine r_iload d_Mo_itemLine_135 rfl (?_ : WM _ 137 _ _ _ _)
              obtain ⟨h31, h⟩ := h
              refine r_ineg d_Mo_itemLine_137 h31 (?_ : WM _ 138 _ _ _ _)
              refine r_goto 143 d_Mo_itemLine_138 rfl ?_
              obtain ⟨h32, h⟩ := h
              obtain ⟨h33, h⟩ := h
              refine r_iast (k := 40) (n := 192) (by decide) rfl d_Mo_itemLine_143 h32 h33 (?_ : WM _ 144 _ _ _ _)
              refine r_aload_n d_Mo_itemLine_144 rfl (?_ : WM _ 145 _ _ _ _)
              refine r_getR (k := 35) (j := 5) (q := 40) (by decide) rfl clk_11 (by decide) (qm_5 (i := 41) rfl rfl) rfl d_Mo_itemLine_145 (?_ : WM _ 148 _ _ _ _)
              refine r_iload d_Mo_itemLine_148 rfl (?_ : WM _ 150 _ _ _ _)
              refine r_iconst d_Mo_itemLine_150 (by decide) (?_ : WM _ 151 _ _ _ _)
              obtain ⟨h34, h⟩ := h
              refine r_iadd d_Mo_itemLine_151 h34 (?_ : WM _ 152 _ _ _ _)
              refine r_iconst d_Mo_itemLine_152 (by decide) (?_ : WM _ 153 _ _ _ _)
              obtain ⟨h35, h⟩ := h
              obtain ⟨h36, h⟩ := h
              refine r_iast (k := 40) (n := 192) (by decide) rfl d_Mo_itemLine_153 h35 h36 (?_ : WM _ 154 _ _ _ _)
              refine r_aload_n d_Mo_itemLine_154 rfl (?_ : WM _ 155 _ _ _ _)
              refine r_dup d_Mo_itemLine_155 rfl (?_ : WM _ 156 _ _ _ _)
              refine r_getI (k := 35) (j := 7) 7 (by decide) rfl clk_11 (by decide) (qm_5 (i := 43) rfl rfl) rfl rfl d_Mo_itemLine_156 (y := (σ13 35 7)) ((ups_c (by decide)).trans ((ups_c (by decide)).trans ((ups_c (by decide)).trans (ups_c (by decide))))) (?_ : WM _ 159 _ _ _ _)
              refine r_iconst d_Mo_itemLine_159 (by decide) (?_ : WM _ 160 _ _ _ _)
              obtain ⟨h37, h⟩ := h
              refine r_iadd d_Mo_itemLine_160 h37 (?_ : WM _ 161 _ _ _ _)
              refine r_put (k := 35) (j := 7) 7 (by decide) rfl clk_11 (by decide) (qm_5 (i := 43) rfl rfl) rfl rfl rfl tyX11_ok rfl nmX11 d_Mo_itemLine_161 (?_ : WM _ 164 _ _ _ _)
              exact r_return rfl d_Mo_itemLine_164 h
          · replace h := h.2 c15
            refine r_aload_n d_Mo_itemLine_87 rfl (?_ : WM _ 88 _ _ _ _)
            refine r_iconst d_Mo_itemLine_88 (by decide) (?_ : WM _ 89 _ _ _ _)
            refine r_iload_n d_Mo_itemLine_89 rfl (?_ : WM _ 90 _ _ _ _)
            refine r_callV (ν := M_Mo_fails) (k := 35) [vI 3, vI x1] ok_M_Mo_fails okv_M_Mo_fails (by decide) rfl rfl rfl (qm_5 (i := 192) rfl rfl) np_M_Mo_fails rfl (by decide) (Nat.le_of_ble_eq_true rfl) rfl d_Mo_itemLine_90 (CV.k h (fun σ38 h => (?_ : WM _ 93 _ _ _ _)))
            exact r_return rfl d_Mo_itemLine_93 h
      · replace h := h.2 c9
        exact r_return rfl d_Mo_itemLine_60 h
  · replace h := h.2 c3
    refine r_aload_n d_Mo_itemLine_14 rfl (?_ : WM _ 15 _ _ _ _)
    refine r_sipush d_Mo_itemLine_15 (by decide) (by decide) (?_ : WM _ 18 _ _ _ _)
    refine r_callV (ν := M_Mo_number) (k := 35) [vI 9999] ok_M_Mo_number okv_M_Mo_number (by decide) rfl rfl rfl (qm_5 (i := 182) rfl rfl) np_M_Mo_number rfl (by decide) (Nat.le_of_ble_eq_true rfl) rfl d_Mo_itemLine_18 (CI.k h (fun v41 σ40 h => (?_ : WM _ 21 _ _ _ _)))
    refine r_goto 25 d_Mo_itemLine_21 rfl ?_
    refine r_istore_n (ls' := [(3, vI v41), (2, vI v2), (0, vR 35), (1, vI x1)]) d_Mo_itemLine_25 rfl (by decide) rfl (?_ : WM _ 26 _ _ _ _)
    refine r_aload_n d_Mo_itemLine_26 rfl (?_ : WM _ 27 _ _ _ _)
    refine r_bipush d_Mo_itemLine_27 (by decide) (by decide) (?_ : WM _ 29 _ _ _ _)
    refine r_callV (ν := M_Mo_passesSign) (k := 35) [vI 45] ok_M_Mo_passesSign okv_M_Mo_passesSign (by decide) rfl rfl rfl (qm_5 (i := 196) rfl rfl) np_M_Mo_passesSign rfl (by decide) (Nat.le_of_ble_eq_true rfl) rfl d_Mo_itemLine_29 (CI.k h (fun v43 σ42 h => (?_ : WM _ 32 _ _ _ _)))
    refine r_istore (ls' := [(4, vI v43), (3, vI v41), (2, vI v2), (0, vR 35), (1, vI x1)]) d_Mo_itemLine_32 (by decide) rfl (?_ : WM _ 34 _ _ _ _)
    refine r_aload_n d_Mo_itemLine_34 rfl (?_ : WM _ 35 _ _ _ _)
    refine r_getI (k := 35) (j := 16) 16 (by decide) rfl clk_11 (by decide) (qm_5 (i := 52) rfl rfl) rfl rfl d_Mo_itemLine_35 (y := (σ42 35 16)) rfl (?_ : WM _ 38 _ _ _ _)
    refine r_if_ne 50 d_Mo_itemLine_38 rfl ⟨fun c44 => (?_ : WM _ 50 _ _ _ _), fun c44 => (?_ : WM _ 41 _ _ _ _)⟩
    · replace h := h.1 c44
      refine r_iconst d_Mo_itemLine_50 (by decide) (?_ : WM _ 51 _ _ _ _)
      refine r_istore (ls' := [(5, vI 0), (4, vI v43), (3, vI v41), (2, vI v2), (0, vR 35), (1, vI x1)]) d_Mo_itemLine_51 (by decide) rfl (?_ : WM _ 53 _ _ _ _)
      refine r_aload_n d_Mo_itemLine_53 rfl (?_ : WM _ 54 _ _ _ _)
      refine r_getI (k := 35) (j := 16) 16 (by decide) rfl clk_11 (by decide) (qm_5 (i := 52) rfl rfl) rfl rfl d_Mo_itemLine_54 (y := (σ42 35 16)) rfl (?_ : WM _ 57 _ _ _ _)
      refine r_if_eq 61 d_Mo_itemLine_57 rfl ⟨fun hc => absurd hc c44, fun hc => (?_ : WM _ 60 _ _ _ _)⟩
      exact r_return rfl d_Mo_itemLine_60 h
    · replace h := h.2 c44
      refine r_aload_n d_Mo_itemLine_41 rfl (?_ : WM _ 42 _ _ _ _)
      refine r_ldc 99999 d_Mo_itemLine_42 (qm_5 (i := 200) rfl rfl) (by decide) (by decide) (?_ : WM _ 44 _ _ _ _)
      refine r_callV (ν := M_Mo_number) (k := 35) [vI 99999] ok_M_Mo_number okv_M_Mo_number (by decide) rfl rfl rfl (qm_5 (i := 182) rfl rfl) np_M_Mo_number rfl (by decide) (Nat.le_of_ble_eq_true rfl) rfl d_Mo_itemLine_44 (CI.k h (fun v46 σ45 h => (?_ : WM _ 47 _ _ _ _)))
      refine r_goto 51 d_Mo_itemLine_47 rfl ?_
      refine r_istore (ls' := [(5, vI v46), (4, vI v43), (3, vI v41), (2, vI v2), (0, vR 35), (1, vI x1)]) d_Mo_itemLine_51 (by decide) rfl (?_ : WM _ 53 _ _ _ _)
      refine r_aload_n d_Mo_itemLine_53 rfl (?_ : WM _ 54 _ _ _ _)
      refine r_getI (k := 35) (j := 16) 16 (by decide) rfl clk_11 (by decide) (qm_5 (i := 52) rfl rfl) rfl rfl d_Mo_itemLine_54 (y := (σ45 35 16)) rfl (?_ : WM _ 57 _ _ _ _)
      refine r_if_eq 61 d_Mo_itemLine_57 rfl ⟨fun c47 => (?_ : WM _ 61 _ _ _ _), fun c47 => (?_ : WM _ 60 _ _ _ _)⟩
      · replace h := h.1 c47
        refine r_aload_n d_Mo_itemLine_61 rfl (?_ : WM _ 62 _ _ _ _)
        refine r_getI (k := 35) (j := 7) 7 (by decide) rfl clk_11 (by decide) (qm_5 (i := 43) rfl rfl) rfl rfl d_Mo_itemLine_62 (y := (σ45 35 7)) rfl (?_ : WM _ 65 _ _ _ _)
        refine r_bipush d_Mo_itemLine_65 (by decide) (by decide) (?_ : WM _ 67 _ _ _ _)
        refine r_icmp_eq 87 d_Mo_itemLine_67 rfl ⟨fun c48 => (?_ : WM _ 87 _ _ _ _), fun c48 => (?_ : WM _ 70 _ _ _ _)⟩
        · replace h := h.1 c48
          refine r_aload_n d_Mo_itemLine_87 rfl (?_ : WM _ 88 _ _ _ _)
          refine r_iconst d_Mo_itemLine_88 (by decide) (?_ : WM _ 89 _ _ _ _)
          refine r_iload_n d_Mo_itemLine_89 rfl (?_ : WM _ 90 _ _ _ _)
          refine r_callV (ν := M_Mo_fails) (k := 35) [vI 3, vI x1] ok_M_Mo_fails okv_M_Mo_fails (by decide) rfl rfl rfl (qm_5 (i := 192) rfl rfl) np_M_Mo_fails rfl (by decide) (Nat.le_of_ble_eq_true rfl) rfl d_Mo_itemLine_90 (CV.k h (fun σ49 h => (?_ : WM _ 93 _ _ _ _)))
          exact r_return rfl d_Mo_itemLine_93 h
        · replace h := h.2 c48
          refine r_aload_n d_Mo_itemLine_70 rfl (?_ : WM _ 71 _ _ _ _)
          refine r_getR (k := 35) (j := 5) (q := 40) (by decide) rfl clk_11 (by decide) (qm_5 (i := 41) rfl rfl) rfl d_Mo_itemLine_71 (?_ : WM _ 74 _ _ _ _)
          refine r_aload_n d_Mo_itemLine_74 rfl (?_ : WM _ 75 _ _ _ _)
          refine r_getI (k := 35) (j := 7) 7 (by decide) rfl clk_11 (by decide) (qm_5 (i := 43) rfl rfl) rfl rfl d_Mo_itemLine_75 (y := (σ45 35 7)) rfl (?_ : WM _ 78 _ _ _ _)
          refine r_iload_n d_Mo_itemLine_78 rfl (?_ : WM _ 79 _ _ _ _)
          refine r_iload_n d_Mo_itemLine_79 rfl (?_ : WM _ 80 _ _ _ _)
          refine r_callS (ν := M_Mo_placeIn) [vR 40, vI (σ45 35 7), vI v2, vI v41] ok_M_Mo_placeIn oks_M_Mo_placeIn (qm_5 (i := 201) rfl rfl) np_M_Mo_placeIn rfl (by decide) (Nat.le_of_ble_eq_true rfl) rfl d_Mo_itemLine_80 (CI.k h (fun v52 σ51 h => (?_ : WM _ 83 _ _ _ _)))
          refine r_iconst d_Mo_itemLine_83 (by decide) (?_ : WM _ 84 _ _ _ _)
          refine r_icmp_eq 94 d_Mo_itemLine_84 rfl ⟨fun c53 => (?_ : WM _ 94 _ _ _ _), fun c53 => (?_ : WM _ 87 _ _ _ _)⟩
          · replace h := h.1 c53
            refine r_iconst d_Mo_itemLine_94 (by decide) (?_ : WM _ 95 _ _ _ _)
            refine r_aload_n d_Mo_itemLine_95 rfl (?_ : WM _ 96 _ _ _ _)
            refine r_getI (k := 35) (j := 7) 7 (by decide) rfl clk_11 (by decide) (qm_5 (i := 43) rfl rfl) rfl rfl d_Mo_itemLine_96 (y := (σ51 35 7)) rfl (?_ : WM _ 99 _ _ _ _)
            obtain ⟨h54, h⟩ := h
            refine r_imul d_Mo_itemLine_99 h54 (?_ : WM _ 100 _ _ _ _)
            refine r_istore (ls' := [(6, vI (4 * (σ51 35 7))), (5, vI v46), (4, vI v43), (3, vI v41), (2, vI v2), (0, vR 35), (1, vI x1)]) d_Mo_itemLine_100 (by decide) rfl (?_ : WM _ 102 _ _ _ _)
            refine r_aload_n d_Mo_itemLine_102 rfl (?_ : WM _ 103 _ _ _ _)
            refine r_getR (k := 35) (j := 5) (q := 40) (by decide) rfl clk_11 (by decide) (qm_5 (i := 41) rfl rfl) rfl d_Mo_itemLine_103 (?_ : WM _ 106 _ _ _ _)
            refine r_iload d_Mo_itemLine_106 rfl (?_ : WM _ 108 _ _ _ _)
            refine r_iconst d_Mo_itemLine_108 (by decide) (?_ : WM _ 109 _ _ _ _)
            obtain ⟨h55, h⟩ := h
            refine r_iadd d_Mo_itemLine_109 h55 (?_ : WM _ 110 _ _ _ _)
            refine r_iload_n d_Mo_itemLine_110 rfl (?_ : WM _ 111 _ _ _ _)
            obtain ⟨h56, h⟩ := h
            obtain ⟨h57, h⟩ := h
            refine r_iast (k := 40) (n := 192) (by decide) rfl d_Mo_itemLine_111 h56 h57 (?_ : WM _ 112 _ _ _ _)
            refine r_aload_n d_Mo_itemLine_112 rfl (?_ : WM _ 113 _ _ _ _)
            refine r_getR (k := 35) (j := 5) (q := 40) (by decide) rfl clk_11 (by decide) (qm_5 (i := 41) rfl rfl) rfl d_Mo_itemLine_113 (?_ : WM _ 116 _ _ _ _)
            refine r_iload d_Mo_itemLine_116 rfl (?_ : WM _ 118 _ _ _ _)
            refine r_iconst d_Mo_itemLine_118 (by decide) (?_ : WM _ 119 _ _ _ _)
            obtain ⟨h58, h⟩ := h
            refine r_iadd d_Mo_itemLine_119 h58 (?_ : WM _ 120 _ _ _ _)
            refine r_iload_n d_Mo_itemLine_120 rfl (?_ : WM _ 121 _ _ _ _)
            obtain ⟨h59, h⟩ := h
            obtain ⟨h60, h⟩ := h
            refine r_iast (k := 40) (n := 192) (by decide) rfl d_Mo_itemLine_121 h59 h60 (?_ : WM _ 122 _ _ _ _)
            refine r_aload_n d_Mo_itemLine_122 rfl (?_ : WM _ 123 _ _ _ _)
            refine r_getR (k := 35) (j := 5) (q := 40) (by decide) rfl clk_11 (by decide) (qm_5 (i := 41) rfl rfl) rfl d_Mo_itemLine_123 (?_ : WM _ 126 _ _ _ _)
            refine r_iload d_Mo_itemLine_126 rfl (?_ : WM _ 128 _ _ _ _)
            refine r_iconst d_Mo_itemLine_128 (by decide) (?_ : WM _ 129 _ _ _ _)
            obtain ⟨h61, h⟩ := h
            refine r_iadd d_Mo_itemLine_129 h61 (?_ : WM _ 130 _ _ _ _)
            refine r_iload d_Mo_itemLine_130 rfl (?_ : WM _ 132 _ _ _ _)
            refine r_if_eq 141 d_Mo_itemLine_132 rfl ⟨fun c62 => (?_ : WM _ 141 _ _ _ _), fun c62 => (?_ : WM _ 135 _ _ _ _)⟩
            · replace h := h.1 c62
              refine r_iload d_Mo_itemLine_141 rfl (?_ : WM _ 143 _ _ _ _)
              obtain ⟨h63, h⟩ := h
              obtain ⟨h64, h⟩ := h
              refine r_iast (k := 40) (n := 192) (by decide) rfl d_Mo_itemLine_143 h63 h64 (?_ : WM _ 144 _ _ _ _)
              refine r_aload_n d_Mo_itemLine_144 rfl (?_ : WM _ 145 _ _ _ _)
              refine r_getR (k := 35) (j := 5) (q := 40) (by decide) rfl clk_11 (by decide) (qm_5 (i := 41) rfl rfl) rfl d_Mo_itemLine_145 (?_ : WM _ 148 _ _ _ _)
              refine r_iload d_Mo_itemLine_148 rfl (?_ : WM _ 150 _ _ _ _)
              refine r_iconst d_Mo_itemLine_150 (by decide) (?_ : WM _ 151 _ _ _ _)
              obtain ⟨h65, h⟩ := h
              refine r_iadd d_Mo_itemLine_151 h65 (?_ : WM _ 152 _ _ _ _)
              refine r_iconst d_Mo_itemLine_152 (by decide) (?_ : WM _ 153 _ _ _ _)
              obtain ⟨h66, h⟩ := h
              obtain ⟨h67, h⟩ := h
              refine r_iast (k := 40) (n := 192) (by decide) rfl d_Mo_itemLine_153 h66 h67 (?_ : WM _ 154 _ _ _ _)
              refine r_aload_n d_Mo_itemLine_154 rfl (?_ : WM _ 155 _ _ _ _)
              refine r_dup d_Mo_itemLine_155 rfl (?_ : WM _ 156 _ _ _ _)
              refine r_getI (k := 35) (j := 7) 7 (by decide) rfl clk_11 (by decide) (qm_5 (i := 43) rfl rfl) rfl rfl d_Mo_itemLine_156 (y := (σ51 35 7)) ((ups_c (by decide)).trans ((ups_c (by decide)).trans ((ups_c (by decide)).trans (ups_c (by decide))))) (?_ : WM _ 159 _ _ _ _)
              refine r_iconst d_Mo_itemLine_159 (by decide) (?_ : WM _ 160 _ _ _ _)
              obtain ⟨h68, h⟩ := h
              refine r_iadd d_Mo_itemLine_160 h68 (?_ : WM _ 161 _ _ _ _)
              refine r_put (k := 35) (j := 7) 7 (by decide) rfl clk_11 (by decide) (qm_5 (i := 43) rfl rfl) rfl rfl rfl tyX11_ok rfl nmX11 d_Mo_itemLine_161 (?_ : WM _ 164 _ _ _ _)
              exact r_return rfl d_Mo_itemLine_164 h
            · replace h := h.2 c62
              refine r_iload d_Mo_itemLine_135 rfl (?_ : WM _ 137 _ _ _ _)
              obtain ⟨h69, h⟩ := h
              refine r_ineg d_Mo_itemLine_137 h69 (?_ : WM _ 138 _ _ _ _)
              refine r_goto 143 d_Mo_itemLine_138 rfl ?_
              obtain ⟨h70, h⟩ := h
              obtain ⟨h71, h⟩ := h
              refine r_iast (k := 40) (n := 192) (by decide) rfl d_Mo_itemLine_143 h70 h71 (?_ : WM _ 144 _ _ _ _)
              refine r_aload_n d_Mo_itemLine_144 rfl (?_ : WM _ 145 _ _ _ _)
              refine r_getR (k := 35) (j := 5) (q := 40) (by decide) rfl clk_11 (by decide) (qm_5 (i := 41) rfl rfl) rfl d_Mo_itemLine_145 (?_ : WM _ 148 _ _ _ _)
              refine r_iload d_Mo_itemLine_148 rfl (?_ : WM _ 150 _ _ _ _)
              refine r_iconst d_Mo_itemLine_150 (by decide) (?_ : WM _ 151 _ _ _ _)
              obtain ⟨h72, h⟩ := h
              refine r_iadd d_Mo_itemLine_151 h72 (?_ : WM _ 152 _ _ _ _)
              refine r_iconst d_Mo_itemLine_152 (by decide) (?_ : WM _ 153 _ _ _ _)
              obtain ⟨h73, h⟩ := h
              obtain ⟨h74, h⟩ := h
              refine r_iast (k := 40) (n := 192) (by decide) rfl d_Mo_itemLine_153 h73 h74 (?_ : WM _ 154 _ _ _ _)
              refine r_aload_n d_Mo_itemLine_154 rfl (?_ : WM _ 155 _ _ _ _)
              refine r_dup d_Mo_itemLine_155 rfl (?_ : WM _ 156 _ _ _ _)
              refine r_getI (k := 35) (j := 7) 7 (by decide) rfl clk_11 (by decide) (qm_5 (i := 43) rfl rfl) rfl rfl d_Mo_itemLine_156 (y := (σ51 35 7)) ((ups_c (by decide)).trans ((ups_c (by decide)).trans ((ups_c (by decide)).trans (ups_c (by decide))))) (?_ : WM _ 159 _ _ _ _)
              refine r_iconst d_Mo_itemLine_159 (by decide) (?_ : WM _ 160 _ _ _ _)
              obtain ⟨h75, h⟩ := h
              refine r_iadd d_Mo_itemLine_160 h75 (?_ : WM _ 161 _ _ _ _)
              refine r_put (k := 35) (j := 7) 7 (by decide) rfl clk_11 (by decide) (qm_5 (i := 43) rfl rfl) rfl rfl rfl tyX11_ok rfl nmX11 d_Mo_itemLine_161 (?_ : WM _ 164 _ _ _ _)
              exact r_return rfl d_Mo_itemLine_164 h
          · replace h := h.2 c53
            refine r_aload_n d_Mo_itemLine_87 rfl (?_ : WM _ 88 _ _ _ _)
            refine r_iconst d_Mo_itemLine_88 (by decide) (?_ : WM _ 89 _ _ _ _)
            refine r_iload_n d_Mo_itemLine_89 rfl (?_ : WM _ 90 _ _ _ _)
            refine r_callV (ν := M_Mo_fails) (k := 35) [vI 3, vI x1] ok_M_Mo_fails okv_M_Mo_fails (by decide) rfl rfl rfl (qm_5 (i := 192) rfl rfl) np_M_Mo_fails rfl (by decide) (Nat.le_of_ble_eq_true rfl) rfl d_Mo_itemLine_90 (CV.k h (fun σ76 h => (?_ : WM _ 93 _ _ _ _)))
            exact r_return rfl d_Mo_itemLine_93 h
      · replace h := h.2 c47
        exact r_return rfl d_Mo_itemLine_60 h
set_option maxRecDepth 20000 in
theorem e_Mo_isStart {K : Int → St → Prop} {σ : St} (x1 : Int) (h : WM M_Mo_isStart 2 [(0, vR 35), (1, vI x1), (2, vI 0)] [] σ (QI K)) : CI M_Mo_isStart [vR 35, vI x1] σ K := by
  refine Con.of ok_M_Mo_isStart (ls := [(0, vR 35), (1, vI x1)]) rfl (Nat.le_of_ble_eq_true rfl) ?_
  refine r_iconst d_Mo_isStart_0 (by decide) (?_ : WM _ 1 _ _ _ _)
  refine r_istore_n (ls' := [(2, vI 0), (0, vR 35), (1, vI x1)]) d_Mo_isStart_1 rfl (by decide) rfl (?_ : WM _ 2 _ _ _ _)
  refine r_pick (ls' := [(0, vR 35), (1, vI x1), (2, vI 0)]) [1, 2, 0] rfl ?_
  exact h
set_option maxRecDepth 20000 in
theorem l_Mo_isStart_1 {K : Int → St → Prop} {σ : St} (x1 : Int) (x2 : Int) (h : ((σ 35 10) ≤ x2 → K 0 σ) ∧ (¬ (σ 35 10) ≤ x2 → (0 ≤ x2) ∧ (x2 < 5) ∧ (¬ (σ 41 x2) = x1 → (inR (x2 + 1)) ∧ WM M_Mo_isStart 2 [(0, vR 35), (1, vI x1), (2, vI (x2 + 1))] [] σ (QI K)) ∧ ((σ 41 x2) = x1 → K 1 σ))) : WM M_Mo_isStart 2 [(0, vR 35), (1, vI x1), (2, vI x2)] [] σ (QI K) := by
  refine r_iload_n d_Mo_isStart_2 rfl (?_ : WM _ 3 _ _ _ _)
  refine r_aload_n d_Mo_isStart_3 rfl (?_ : WM _ 4 _ _ _ _)
  refine r_getI (k := 35) (j := 10) 10 (by decide) rfl clk_11 (by decide) (qm_5 (i := 46) rfl rfl) rfl rfl d_Mo_isStart_4 (y := (σ 35 10)) rfl (?_ : WM _ 7 _ _ _ _)
  refine r_icmp_ge 28 d_Mo_isStart_7 rfl ⟨fun c1 => (?_ : WM _ 28 _ _ _ _), fun c1 => (?_ : WM _ 10 _ _ _ _)⟩
  · replace h := h.1 c1
    refine r_iconst d_Mo_isStart_28 (by decide) (?_ : WM _ 29 _ _ _ _)
    exact r_zreturn rfl d_Mo_isStart_29 (by decide) h
  · replace h := h.2 c1
    refine r_aload_n d_Mo_isStart_10 rfl (?_ : WM _ 11 _ _ _ _)
    refine r_getR (k := 35) (j := 8) (q := 41) (by decide) rfl clk_11 (by decide) (qm_5 (i := 44) rfl rfl) rfl d_Mo_isStart_11 (?_ : WM _ 14 _ _ _ _)
    refine r_iload_n d_Mo_isStart_14 rfl (?_ : WM _ 15 _ _ _ _)
    obtain ⟨h2, h⟩ := h
    obtain ⟨h3, h⟩ := h
    refine r_iald (k := 41) (n := 5) (by decide) rfl d_Mo_isStart_15 h2 h3 (y := (σ 41 x2)) rfl (?_ : WM _ 16 _ _ _ _)
    refine r_iload_n d_Mo_isStart_16 rfl (?_ : WM _ 17 _ _ _ _)
    refine r_icmp_ne 22 d_Mo_isStart_17 rfl ⟨fun c4 => (?_ : WM _ 22 _ _ _ _), fun c4 => (?_ : WM _ 20 _ _ _ _)⟩
    · replace h := h.1 c4
      obtain ⟨h5, h⟩ := h
      refine r_iinc (ls' := [(2, vI (x2 + 1)), (0, vR 35), (1, vI x1)]) d_Mo_isStart_22 rfl h5 (by decide) rfl (?_ : WM _ 25 _ _ _ _)
      refine r_goto 2 d_Mo_isStart_25 rfl ?_
      refine r_pick (ls' := [(0, vR 35), (1, vI x1), (2, vI (x2 + 1))]) [1, 2, 0] rfl ?_
      exact h
    · replace h := h.2 c4
      refine r_iconst d_Mo_isStart_20 (by decide) (?_ : WM _ 21 _ _ _ _)
      exact r_zreturn rfl d_Mo_isStart_21 (by decide) h
set_option maxRecDepth 20000 in
theorem e_Mo_isCertainBy {K : Int → St → Prop} {σ : St} (x0 : Int) (x1 : Int) (h : (x1 ≤ 0 → K 0 σ) ∧ (¬ x1 ≤ 0 → (x0 < x1 → K 0 σ) ∧ (¬ x0 < x1 → K 1 σ))) : CI M_Mo_isCertainBy [vI x0, vI x1] σ K := by
  refine Con.of ok_M_Mo_isCertainBy (ls := [(0, vI x0), (1, vI x1)]) rfl (Nat.le_of_ble_eq_true rfl) ?_
  refine r_iload_n d_Mo_isCertainBy_0 rfl (?_ : WM _ 1 _ _ _ _)
  refine r_if_le 13 d_Mo_isCertainBy_1 rfl ⟨fun c1 => (?_ : WM _ 13 _ _ _ _), fun c1 => (?_ : WM _ 4 _ _ _ _)⟩
  · replace h := h.1 c1
    refine r_iconst d_Mo_isCertainBy_13 (by decide) (?_ : WM _ 14 _ _ _ _)
    exact r_zreturn rfl d_Mo_isCertainBy_14 (by decide) h
  · replace h := h.2 c1
    refine r_iload_n d_Mo_isCertainBy_4 rfl (?_ : WM _ 5 _ _ _ _)
    refine r_iload_n d_Mo_isCertainBy_5 rfl (?_ : WM _ 6 _ _ _ _)
    refine r_icmp_lt 13 d_Mo_isCertainBy_6 rfl ⟨fun c2 => (?_ : WM _ 13 _ _ _ _), fun c2 => (?_ : WM _ 9 _ _ _ _)⟩
    · replace h := h.1 c2
      refine r_iconst d_Mo_isCertainBy_13 (by decide) (?_ : WM _ 14 _ _ _ _)
      exact r_zreturn rfl d_Mo_isCertainBy_14 (by decide) h
    · replace h := h.2 c2
      refine r_iconst d_Mo_isCertainBy_9 (by decide) (?_ : WM _ 10 _ _ _ _)
      refine r_goto 14 d_Mo_isCertainBy_10 rfl ?_
      exact r_zreturn rfl d_Mo_isCertainBy_14 (by decide) h
set_option maxRecDepth 20000 in
theorem e_Mo_isSo {K : Int → St → Prop} {σ : St} (x1 : Int) (x2 : Int) (h : (¬ x2 = 0 → CI M_Mo_isDrawn [vR 35, vI x1] σ (fun v3 σ2 => (v3 = 0 → K 0 σ2) ∧ (¬ v3 = 0 → (x2 = 2 → K 1 σ2) ∧ (¬ x2 = 2 → CI M_Mo_audited [vR 35, vI x1] σ2 (fun v7 σ6 => (¬ v7 = (-1) → K 0 σ6) ∧ (v7 = (-1) → K 1 σ6)))))) ∧ (x2 = 0 → CI M_Mo_isCertain [vR 35, vI x1] σ (fun v10 σ9 => (v10 = 0 ∨ v10 = 1) ∧ K v10 σ9))) : CI M_Mo_isSo [vR 35, vI x1, vI x2] σ K := by
  refine Con.of ok_M_Mo_isSo (ls := [(0, vR 35), (1, vI x1), (2, vI x2)]) rfl (Nat.le_of_ble_eq_true rfl) ?_
  refine r_iload_n d_Mo_isSo_0 rfl (?_ : WM _ 1 _ _ _ _)
  refine r_if_ne 12 d_Mo_isSo_1 rfl ⟨fun c1 => (?_ : WM _ 12 _ _ _ _), fun c1 => (?_ : WM _ 4 _ _ _ _)⟩
  · replace h := h.1 c1
    refine r_aload_n d_Mo_isSo_12 rfl (?_ : WM _ 13 _ _ _ _)
    refine r_iload_n d_Mo_isSo_13 rfl (?_ : WM _ 14 _ _ _ _)
    refine r_callV (ν := M_Mo_isDrawn) (k := 35) [vI x1] ok_M_Mo_isDrawn okv_M_Mo_isDrawn (by decide) rfl rfl rfl (qm_6 (i := 133) rfl rfl) np_M_Mo_isDrawn rfl (by decide) (Nat.le_of_ble_eq_true rfl) rfl d_Mo_isSo_14 (CI.k h (fun v3 σ2 h => (?_ : WM _ 17 _ _ _ _)))
    refine r_if_eq 38 d_Mo_isSo_17 rfl ⟨fun c4 => (?_ : WM _ 38 _ _ _ _), fun c4 => (?_ : WM _ 20 _ _ _ _)⟩
    · replace h := h.1 c4
      refine r_iconst d_Mo_isSo_38 (by decide) (?_ : WM _ 39 _ _ _ _)
      exact r_zreturn rfl d_Mo_isSo_39 (by decide) h
    · replace h := h.2 c4
      refine r_iload_n d_Mo_isSo_20 rfl (?_ : WM _ 21 _ _ _ _)
      refine r_iconst d_Mo_isSo_21 (by decide) (?_ : WM _ 22 _ _ _ _)
      refine r_icmp_eq 34 d_Mo_isSo_22 rfl ⟨fun c5 => (?_ : WM _ 34 _ _ _ _), fun c5 => (?_ : WM _ 25 _ _ _ _)⟩
      · replace h := h.1 c5
        refine r_iconst d_Mo_isSo_34 (by decide) (?_ : WM _ 35 _ _ _ _)
        refine r_goto 39 d_Mo_isSo_35 rfl ?_
        exact r_zreturn rfl d_Mo_isSo_39 (by decide) h
      · replace h := h.2 c5
        refine r_aload_n d_Mo_isSo_25 rfl (?_ : WM _ 26 _ _ _ _)
        refine r_iload_n d_Mo_isSo_26 rfl (?_ : WM _ 27 _ _ _ _)
        refine r_callV (ν := M_Mo_audited) (k := 35) [vI x1] ok_M_Mo_audited okv_M_Mo_audited (by decide) rfl rfl rfl (qm_6 (i := 11) rfl rfl) np_M_Mo_audited rfl (by decide) (Nat.le_of_ble_eq_true rfl) rfl d_Mo_isSo_27 (CI.k h (fun v7 σ6 h => (?_ : WM _ 30 _ _ _ _)))
        refine r_iconst d_Mo_isSo_30 (by decide) (?_ : WM _ 31 _ _ _ _)
        refine r_icmp_ne 38 d_Mo_isSo_31 rfl ⟨fun c8 => (?_ : WM _ 38 _ _ _ _), fun c8 => (?_ : WM _ 34 _ _ _ _)⟩
        · replace h := h.1 c8
          refine r_iconst d_Mo_isSo_38 (by decide) (?_ : WM _ 39 _ _ _ _)
          exact r_zreturn rfl d_Mo_isSo_39 (by decide) h
        · replace h := h.2 c8
          refine r_iconst d_Mo_isSo_34 (by decide) (?_ : WM _ 35 _ _ _ _)
          refine r_goto 39 d_Mo_isSo_35 rfl ?_
          exact r_zreturn rfl d_Mo_isSo_39 (by decide) h
  · replace h := h.2 c1
    refine r_aload_n d_Mo_isSo_4 rfl (?_ : WM _ 5 _ _ _ _)
    refine r_iload_n d_Mo_isSo_5 rfl (?_ : WM _ 6 _ _ _ _)
    refine r_callV (ν := M_Mo_isCertain) (k := 35) [vI x1] ok_M_Mo_isCertain okv_M_Mo_isCertain (by decide) rfl rfl rfl (qm_6 (i := 27) rfl rfl) np_M_Mo_isCertain rfl (by decide) (Nat.le_of_ble_eq_true rfl) rfl d_Mo_isSo_6 (CI.k h (fun v10 σ9 h => (?_ : WM _ 9 _ _ _ _)))
    refine r_goto 39 d_Mo_isSo_9 rfl ?_
    obtain ⟨h11, h⟩ := h
    exact r_zreturn rfl d_Mo_isSo_39 h11 h
set_option maxRecDepth 20000 in
theorem e_Mo_halved {K : Int → St → Prop} {σ : St} (x1 : Int) (x2 : Int) (h : (vf_n64 (FP.ddiv (FP.i2d (Int32.ofInt (σ 36 1))) 4652007308841189376)) ∧ WM M_Mo_halved 19 [(1, vI x1), (2, vI x2), (3, vD (FP.ddiv (FP.i2d (Int32.ofInt (σ 36 1))) 4652007308841189376)), (5, vI 0), (6, vI 1000000)] [] σ (QI K)) : CI M_Mo_halved [vR 35, vI x1, vI x2] σ K := by
  refine Con.of ok_M_Mo_halved (ls := [(0, vR 35), (1, vI x1), (2, vI x2)]) rfl (Nat.le_of_ble_eq_true rfl) ?_
  refine r_aload_n d_Mo_halved_0 rfl (?_ : WM _ 1 _ _ _ _)
  refine r_getR (k := 35) (j := 1) (q := 36) (by decide) rfl clk_11 (by decide) (qm_5 (i := 37) rfl rfl) rfl d_Mo_halved_1 (?_ : WM _ 4 _ _ _ _)
  refine r_iconst d_Mo_halved_4 (by decide) (?_ : WM _ 5 _ _ _ _)
  refine r_iald (k := 36) (n := 5) (by decide) rfl d_Mo_halved_5 (by decide) (by decide) (y := (σ 36 1)) rfl (?_ : WM _ 6 _ _ _ _)
  refine r_i2d d_Mo_halved_6 (?_ : WM _ 7 _ _ _ _)
  refine r_ldc2d d_Mo_halved_7 (qm_6 (i := 55) rfl rfl) (?_ : WM _ 10 _ _ _ _)
  obtain ⟨h1, h⟩ := h
  refine r_ddiv d_Mo_halved_10 h1 (?_ : WM _ 11 _ _ _ _)
  refine r_dstore_n (ls' := [(3, vD (FP.ddiv (FP.i2d (Int32.ofInt (σ 36 1))) 4652007308841189376)), (0, vR 35), (1, vI x1), (2, vI x2)]) d_Mo_halved_11 rfl (by decide) rfl (?_ : WM _ 12 _ _ _ _)
  refine r_iconst d_Mo_halved_12 (by decide) (?_ : WM _ 13 _ _ _ _)
  refine r_istore (ls' := [(5, vI 0), (3, vD (FP.ddiv (FP.i2d (Int32.ofInt (σ 36 1))) 4652007308841189376)), (0, vR 35), (1, vI x1), (2, vI x2)]) d_Mo_halved_13 (by decide) rfl (?_ : WM _ 15 _ _ _ _)
  refine r_ldc 1000000 d_Mo_halved_15 (qm_6 (i := 50) rfl rfl) (by decide) (by decide) (?_ : WM _ 17 _ _ _ _)
  refine r_istore (ls' := [(6, vI 1000000), (5, vI 0), (3, vD (FP.ddiv (FP.i2d (Int32.ofInt (σ 36 1))) 4652007308841189376)), (0, vR 35), (1, vI x1), (2, vI x2)]) d_Mo_halved_17 (by decide) rfl (?_ : WM _ 19 _ _ _ _)
  refine r_pick (ls' := [(1, vI x1), (2, vI x2), (3, vD (FP.ddiv (FP.i2d (Int32.ofInt (σ 36 1))) 4652007308841189376)), (5, vI 0), (6, vI 1000000)]) [4, 5, 2, 1, 0] rfl ?_
  exact h
set_option maxRecDepth 20000 in
theorem l_Mo_halved_1 {K : Int → St → Prop} {σ : St} (x1 : Int) (x2 : Int) (x3 : UInt64) (x5 : Int) (x6 : Int) (h : (inR (x6 - x5)) ∧ ((x6 - x5) ≤ 1 → K x6 σ) ∧ (¬ (x6 - x5) ≤ 1 → (inR (x5 + x6)) ∧ (0 ≤ (x5 + x6)) ∧ CD M_Mo_likely [vI x1, vI x2, vI ((x5 + x6) / 2)] σ (fun v7 σ6 => (0 < (dcq .g v7 x3) → WM M_Mo_halved 19 [(1, vI x1), (2, vI x2), (3, vD x3), (5, vI ((x5 + x6) / 2)), (6, vI x6)] [] σ6 (QI K)) ∧ (¬ 0 < (dcq .g v7 x3) → WM M_Mo_halved 19 [(1, vI x1), (2, vI x2), (3, vD x3), (5, vI x5), (6, vI ((x5 + x6) / 2))] [] σ6 (QI K))))) : WM M_Mo_halved 19 [(1, vI x1), (2, vI x2), (3, vD x3), (5, vI x5), (6, vI x6)] [] σ (QI K) := by
  refine r_iload d_Mo_halved_19 rfl (?_ : WM _ 21 _ _ _ _)
  refine r_iload d_Mo_halved_21 rfl (?_ : WM _ 23 _ _ _ _)
  obtain ⟨h2, h⟩ := h
  refine r_isub d_Mo_halved_23 h2 (?_ : WM _ 24 _ _ _ _)
  refine r_iconst d_Mo_halved_24 (by decide) (?_ : WM _ 25 _ _ _ _)
  refine r_icmp_le 63 d_Mo_halved_25 rfl ⟨fun c3 => (?_ : WM _ 63 _ _ _ _), fun c3 => (?_ : WM _ 28 _ _ _ _)⟩
  · replace h := h.1 c3
    refine r_iload d_Mo_halved_63 rfl (?_ : WM _ 65 _ _ _ _)
    exact r_ireturn rfl d_Mo_halved_65 h
  · replace h := h.2 c3
    refine r_iload d_Mo_halved_28 rfl (?_ : WM _ 30 _ _ _ _)
    refine r_iload d_Mo_halved_30 rfl (?_ : WM _ 32 _ _ _ _)
    obtain ⟨h4, h⟩ := h
    refine r_iadd d_Mo_halved_32 h4 (?_ : WM _ 33 _ _ _ _)
    refine r_iconst d_Mo_halved_33 (by decide) (?_ : WM _ 34 _ _ _ _)
    obtain ⟨h5, h⟩ := h
    refine r_idivn d_Mo_halved_34 h5 (by decide) (?_ : WM _ 35 _ _ _ _)
    refine r_istore (ls' := [(7, vI ((x5 + x6) / 2)), (1, vI x1), (2, vI x2), (3, vD x3), (5, vI x5), (6, vI x6)]) d_Mo_halved_35 (by decide) rfl (?_ : WM _ 37 _ _ _ _)
    refine r_iload_n d_Mo_halved_37 rfl (?_ : WM _ 38 _ _ _ _)
    refine r_iload_n d_Mo_halved_38 rfl (?_ : WM _ 39 _ _ _ _)
    refine r_iload d_Mo_halved_39 rfl (?_ : WM _ 41 _ _ _ _)
    refine r_callS (ν := M_Mo_likely) [vI x1, vI x2, vI ((x5 + x6) / 2)] ok_M_Mo_likely oks_M_Mo_likely (qm_6 (i := 56) rfl rfl) np_M_Mo_likely rfl (by decide) (Nat.le_of_ble_eq_true rfl) rfl d_Mo_halved_41 (CD.k h (fun v7 σ6 h => (?_ : WM _ 44 _ _ _ _)))
    refine r_dload_n d_Mo_halved_44 rfl (?_ : WM _ 45 _ _ _ _)
    refine r_dcmp d_Mo_halved_45 (?_ : WM _ 46 _ _ _ _)
    refine r_if_gt 56 d_Mo_halved_46 rfl ⟨fun c8 => (?_ : WM _ 56 _ _ _ _), fun c8 => (?_ : WM _ 49 _ _ _ _)⟩
    · replace h := h.1 c8
      refine r_iload d_Mo_halved_56 rfl (?_ : WM _ 58 _ _ _ _)
      refine r_istore (ls' := [(5, vI ((x5 + x6) / 2)), (7, vI ((x5 + x6) / 2)), (1, vI x1), (2, vI x2), (3, vD x3), (6, vI x6)]) d_Mo_halved_58 (by decide) rfl (?_ : WM _ 60 _ _ _ _)
      refine r_goto 19 d_Mo_halved_60 rfl ?_
      refine r_pick (ls' := [(1, vI x1), (2, vI x2), (3, vD x3), (5, vI ((x5 + x6) / 2)), (6, vI x6)]) [2, 3, 4, 0, 5] rfl ?_
      exact h
    · replace h := h.2 c8
      refine r_iload d_Mo_halved_49 rfl (?_ : WM _ 51 _ _ _ _)
      refine r_istore (ls' := [(6, vI ((x5 + x6) / 2)), (7, vI ((x5 + x6) / 2)), (1, vI x1), (2, vI x2), (3, vD x3), (5, vI x5)]) d_Mo_halved_51 (by decide) rfl (?_ : WM _ 53 _ _ _ _)
      refine r_goto 60 d_Mo_halved_53 rfl ?_
      refine r_goto 19 d_Mo_halved_60 rfl ?_
      refine r_pick (ls' := [(1, vI x1), (2, vI x2), (3, vD x3), (5, vI x5), (6, vI ((x5 + x6) / 2))]) [2, 3, 4, 5, 0] rfl ?_
      exact h
set_option maxRecDepth 20000 in
theorem e_Mo_laysTurn {K : St → Prop} {σ : St} (x1 : Int) (h : WM M_Mo_laysTurn 2 [(0, vR 35), (1, vI x1), (2, vI 0)] [] σ (QV K)) : CV M_Mo_laysTurn [vR 35, vI x1] σ K := by
  refine Con.of ok_M_Mo_laysTurn (ls := [(0, vR 35), (1, vI x1)]) rfl (Nat.le_of_ble_eq_true rfl) ?_
  refine r_iconst d_Mo_laysTurn_0 (by decide) (?_ : WM _ 1 _ _ _ _)
  refine r_istore_n (ls' := [(2, vI 0), (0, vR 35), (1, vI x1)]) d_Mo_laysTurn_1 rfl (by decide) rfl (?_ : WM _ 2 _ _ _ _)
  refine r_pick (ls' := [(0, vR 35), (1, vI x1), (2, vI 0)]) [1, 2, 0] rfl ?_
  exact h
set_option maxRecDepth 20000 in
theorem l_Mo_laysTurn_1 {K : St → Prop} {σ : St} (x1 : Int) (x2 : Int) (h : ((σ 35 34) ≤ x2 → WM M_Mo_laysTurn 32 [(0, vR 35), (1, vI x1), (2, vI (σ 35 34))] [] σ (QV K)) ∧ (¬ (σ 35 34) ≤ x2 → (0 ≤ x2) ∧ (x2 < 98) ∧ (¬ (σ 52 x2) = x1 → (inR (x2 + 1)) ∧ WM M_Mo_laysTurn 2 [(0, vR 35), (1, vI x1), (2, vI (x2 + 1))] [] σ (QV K)) ∧ ((σ 52 x2) = x1 → K σ))) : WM M_Mo_laysTurn 2 [(0, vR 35), (1, vI x1), (2, vI x2)] [] σ (QV K) := by
  refine r_iload_n d_Mo_laysTurn_2 rfl (?_ : WM _ 3 _ _ _ _)
  refine r_aload_n d_Mo_laysTurn_3 rfl (?_ : WM _ 4 _ _ _ _)
  refine r_getI (k := 35) (j := 34) 34 (by decide) rfl clk_11 (by decide) (qm_5 (i := 70) rfl rfl) rfl rfl d_Mo_laysTurn_4 (y := (σ 35 34)) rfl (?_ : WM _ 7 _ _ _ _)
  refine r_icmp_ge 27 d_Mo_laysTurn_7 rfl ⟨fun c1 => (?_ : WM _ 27 _ _ _ _), fun c1 => (?_ : WM _ 10 _ _ _ _)⟩
  · replace h := h.1 c1
    refine r_aload_n d_Mo_laysTurn_27 rfl (?_ : WM _ 28 _ _ _ _)
    refine r_getI (k := 35) (j := 34) 34 (by decide) rfl clk_11 (by decide) (qm_5 (i := 70) rfl rfl) rfl rfl d_Mo_laysTurn_28 (y := (σ 35 34)) rfl (?_ : WM _ 31 _ _ _ _)
    refine r_istore_n (ls' := [(2, vI (σ 35 34)), (0, vR 35), (1, vI x1)]) d_Mo_laysTurn_31 rfl (by decide) rfl (?_ : WM _ 32 _ _ _ _)
    refine r_pick (ls' := [(0, vR 35), (1, vI x1), (2, vI (σ 35 34))]) [1, 2, 0] rfl ?_
    exact h
  · replace h := h.2 c1
    refine r_aload_n d_Mo_laysTurn_10 rfl (?_ : WM _ 11 _ _ _ _)
    refine r_getR (k := 35) (j := 33) (q := 52) (by decide) rfl clk_11 (by decide) (qm_5 (i := 69) rfl rfl) rfl d_Mo_laysTurn_11 (?_ : WM _ 14 _ _ _ _)
    refine r_iload_n d_Mo_laysTurn_14 rfl (?_ : WM _ 15 _ _ _ _)
    obtain ⟨h2, h⟩ := h
    obtain ⟨h3, h⟩ := h
    refine r_iald (k := 52) (n := 98) (by decide) rfl d_Mo_laysTurn_15 h2 h3 (y := (σ 52 x2)) rfl (?_ : WM _ 16 _ _ _ _)
    refine r_iload_n d_Mo_laysTurn_16 rfl (?_ : WM _ 17 _ _ _ _)
    refine r_icmp_ne 21 d_Mo_laysTurn_17 rfl ⟨fun c4 => (?_ : WM _ 21 _ _ _ _), fun c4 => (?_ : WM _ 20 _ _ _ _)⟩
    · replace h := h.1 c4
      obtain ⟨h5, h⟩ := h
      refine r_iinc (ls' := [(2, vI (x2 + 1)), (0, vR 35), (1, vI x1)]) d_Mo_laysTurn_21 rfl h5 (by decide) rfl (?_ : WM _ 24 _ _ _ _)
      refine r_goto 2 d_Mo_laysTurn_24 rfl ?_
      refine r_pick (ls' := [(0, vR 35), (1, vI x1), (2, vI (x2 + 1))]) [1, 2, 0] rfl ?_
      exact h
    · replace h := h.2 c4
      exact r_return rfl d_Mo_laysTurn_20 h
set_option maxRecDepth 20000 in
theorem l_Mo_laysTurn_2 {K : St → Prop} {σ : St} (x1 : Int) (x2 : Int) (h : (x2 ≤ 0 → (0 ≤ x2) ∧ (x2 < 98) ∧ (inR ((σ 35 34) + 1)) ∧ K (ups (ups σ 52 x2 x1) 35 34 ((σ 35 34) + 1))) ∧ (¬ x2 ≤ 0 → (inR (x2 - 1)) ∧ (0 ≤ (x2 - 1)) ∧ ((x2 - 1) < 98) ∧ ((σ 52 (x2 - 1)) ≤ x1 → (0 ≤ x2) ∧ (x2 < 98) ∧ (inR ((σ 35 34) + 1)) ∧ K (ups (ups σ 52 x2 x1) 35 34 ((σ 35 34) + 1))) ∧ (¬ (σ 52 (x2 - 1)) ≤ x1 → (0 ≤ x2) ∧ (x2 < 98) ∧ (inR (x2 + (-1))) ∧ WM M_Mo_laysTurn 32 [(0, vR 35), (1, vI x1), (2, vI (x2 + (-1)))] [] (ups σ 52 x2 (σ 52 (x2 - 1))) (QV K)))) : WM M_Mo_laysTurn 32 [(0, vR 35), (1, vI x1), (2, vI x2)] [] σ (QV K) := by
  refine r_iload_n d_Mo_laysTurn_32 rfl (?_ : WM _ 33 _ _ _ _)
  refine r_if_le 68 d_Mo_laysTurn_33 rfl ⟨fun c6 => (?_ : WM _ 68 _ _ _ _), fun c6 => (?_ : WM _ 36 _ _ _ _)⟩
  · replace h := h.1 c6
    refine r_aload_n d_Mo_laysTurn_68 rfl (?_ : WM _ 69 _ _ _ _)
    refine r_getR (k := 35) (j := 33) (q := 52) (by decide) rfl clk_11 (by decide) (qm_5 (i := 69) rfl rfl) rfl d_Mo_laysTurn_69 (?_ : WM _ 72 _ _ _ _)
    refine r_iload_n d_Mo_laysTurn_72 rfl (?_ : WM _ 73 _ _ _ _)
    refine r_iload_n d_Mo_laysTurn_73 rfl (?_ : WM _ 74 _ _ _ _)
    obtain ⟨h7, h⟩ := h
    obtain ⟨h8, h⟩ := h
    refine r_iast (k := 52) (n := 98) (by decide) rfl d_Mo_laysTurn_74 h7 h8 (?_ : WM _ 75 _ _ _ _)
    refine r_aload_n d_Mo_laysTurn_75 rfl (?_ : WM _ 76 _ _ _ _)
    refine r_dup d_Mo_laysTurn_76 rfl (?_ : WM _ 77 _ _ _ _)
    refine r_getI (k := 35) (j := 34) 34 (by decide) rfl clk_11 (by decide) (qm_5 (i := 70) rfl rfl) rfl rfl d_Mo_laysTurn_77 (y := (σ 35 34)) (ups_c (by decide)) (?_ : WM _ 80 _ _ _ _)
    refine r_iconst d_Mo_laysTurn_80 (by decide) (?_ : WM _ 81 _ _ _ _)
    obtain ⟨h9, h⟩ := h
    refine r_iadd d_Mo_laysTurn_81 h9 (?_ : WM _ 82 _ _ _ _)
    refine r_put (k := 35) (j := 34) 34 (by decide) rfl clk_11 (by decide) (qm_5 (i := 70) rfl rfl) rfl rfl rfl tyX11_ok rfl nmX11 d_Mo_laysTurn_82 (?_ : WM _ 85 _ _ _ _)
    exact r_return rfl d_Mo_laysTurn_85 h
  · replace h := h.2 c6
    refine r_aload_n d_Mo_laysTurn_36 rfl (?_ : WM _ 37 _ _ _ _)
    refine r_getR (k := 35) (j := 33) (q := 52) (by decide) rfl clk_11 (by decide) (qm_5 (i := 69) rfl rfl) rfl d_Mo_laysTurn_37 (?_ : WM _ 40 _ _ _ _)
    refine r_iload_n d_Mo_laysTurn_40 rfl (?_ : WM _ 41 _ _ _ _)
    refine r_iconst d_Mo_laysTurn_41 (by decide) (?_ : WM _ 42 _ _ _ _)
    obtain ⟨h10, h⟩ := h
    refine r_isub d_Mo_laysTurn_42 h10 (?_ : WM _ 43 _ _ _ _)
    obtain ⟨h11, h⟩ := h
    obtain ⟨h12, h⟩ := h
    refine r_iald (k := 52) (n := 98) (by decide) rfl d_Mo_laysTurn_43 h11 h12 (y := (σ 52 (x2 - 1))) rfl (?_ : WM _ 44 _ _ _ _)
    refine r_iload_n d_Mo_laysTurn_44 rfl (?_ : WM _ 45 _ _ _ _)
    refine r_icmp_le 68 d_Mo_laysTurn_45 rfl ⟨fun c13 => (?_ : WM _ 68 _ _ _ _), fun c13 => (?_ : WM _ 48 _ _ _ _)⟩
    · replace h := h.1 c13
      refine r_aload_n d_Mo_laysTurn_68 rfl (?_ : WM _ 69 _ _ _ _)
      refine r_getR (k := 35) (j := 33) (q := 52) (by decide) rfl clk_11 (by decide) (qm_5 (i := 69) rfl rfl) rfl d_Mo_laysTurn_69 (?_ : WM _ 72 _ _ _ _)
      refine r_iload_n d_Mo_laysTurn_72 rfl (?_ : WM _ 73 _ _ _ _)
      refine r_iload_n d_Mo_laysTurn_73 rfl (?_ : WM _ 74 _ _ _ _)
      obtain ⟨h14, h⟩ := h
      obtain ⟨h15, h⟩ := h
      refine r_iast (k := 52) (n := 98) (by decide) rfl d_Mo_laysTurn_74 h14 h15 (?_ : WM _ 75 _ _ _ _)
      refine r_aload_n d_Mo_laysTurn_75 rfl (?_ : WM _ 76 _ _ _ _)
      refine r_dup d_Mo_laysTurn_76 rfl (?_ : WM _ 77 _ _ _ _)
      refine r_getI (k := 35) (j := 34) 34 (by decide) rfl clk_11 (by decide) (qm_5 (i := 70) rfl rfl) rfl rfl d_Mo_laysTurn_77 (y := (σ 35 34)) (ups_c (by decide)) (?_ : WM _ 80 _ _ _ _)
      refine r_iconst d_Mo_laysTurn_80 (by decide) (?_ : WM _ 81 _ _ _ _)
      obtain ⟨h16, h⟩ := h
      refine r_iadd d_Mo_laysTurn_81 h16 (?_ : WM _ 82 _ _ _ _)
      refine r_put (k := 35) (j := 34) 34 (by decide) rfl clk_11 (by decide) (qm_5 (i := 70) rfl rfl) rfl rfl rfl tyX11_ok rfl nmX11 d_Mo_laysTurn_82 (?_ : WM _ 85 _ _ _ _)
      exact r_return rfl d_Mo_laysTurn_85 h
    · replace h := h.2 c13
      refine r_aload_n d_Mo_laysTurn_48 rfl (?_ : WM _ 49 _ _ _ _)
      refine r_getR (k := 35) (j := 33) (q := 52) (by decide) rfl clk_11 (by decide) (qm_5 (i := 69) rfl rfl) rfl d_Mo_laysTurn_49 (?_ : WM _ 52 _ _ _ _)
      refine r_iload_n d_Mo_laysTurn_52 rfl (?_ : WM _ 53 _ _ _ _)
      refine r_aload_n d_Mo_laysTurn_53 rfl (?_ : WM _ 54 _ _ _ _)
      refine r_getR (k := 35) (j := 33) (q := 52) (by decide) rfl clk_11 (by decide) (qm_5 (i := 69) rfl rfl) rfl d_Mo_laysTurn_54 (?_ : WM _ 57 _ _ _ _)
      refine r_iload_n d_Mo_laysTurn_57 rfl (?_ : WM _ 58 _ _ _ _)
      refine r_iconst d_Mo_laysTurn_58 (by decide) (?_ : WM _ 59 _ _ _ _)
      refine r_isub d_Mo_laysTurn_59 h10 (?_ : WM _ 60 _ _ _ _)
      refine r_iald (k := 52) (n := 98) (by decide) rfl d_Mo_laysTurn_60 h11 h12 (y := (σ 52 (x2 - 1))) rfl (?_ : WM _ 61 _ _ _ _)
      obtain ⟨h17, h⟩ := h
      obtain ⟨h18, h⟩ := h
      refine r_iast (k := 52) (n := 98) (by decide) rfl d_Mo_laysTurn_61 h17 h18 (?_ : WM _ 62 _ _ _ _)
      obtain ⟨h19, h⟩ := h
      refine r_iinc (ls' := [(2, vI (x2 + (-1))), (0, vR 35), (1, vI x1)]) d_Mo_laysTurn_62 rfl h19 (by decide) rfl (?_ : WM _ 65 _ _ _ _)
      refine r_goto 32 d_Mo_laysTurn_65 rfl ?_
      refine r_pick (ls' := [(0, vR 35), (1, vI x1), (2, vI (x2 + (-1)))]) [1, 2, 0] rfl ?_
      exact h
set_option maxRecDepth 20000 in
theorem e_Mo_number {K : Int → St → Prop} {σ : St} (x1 : Int) (h : CV M_Mo_blanks [vR 35] σ (fun σ1 => WM M_Mo_number 11 [(0, vR 35), (1, vI x1), (2, vI (σ1 35 15)), (3, vI 0)] [] σ1 (QI K))) : CI M_Mo_number [vR 35, vI x1] σ K := by
  refine Con.of ok_M_Mo_number (ls := [(0, vR 35), (1, vI x1)]) rfl (Nat.le_of_ble_eq_true rfl) ?_
  refine r_aload_n d_Mo_number_0 rfl (?_ : WM _ 1 _ _ _ _)
  refine r_callV (ν := M_Mo_blanks) (k := 35) [] ok_M_Mo_blanks okv_M_Mo_blanks (by decide) rfl rfl rfl (qm_5 (i := 156) rfl rfl) np_M_Mo_blanks rfl (by decide) (Nat.le_of_ble_eq_true rfl) rfl d_Mo_number_1 (CV.k h (fun σ1 h => (?_ : WM _ 4 _ _ _ _)))
  refine r_aload_n d_Mo_number_4 rfl (?_ : WM _ 5 _ _ _ _)
  refine r_getI (k := 35) (j := 15) 15 (by decide) rfl clk_11 (by decide) (qm_5 (i := 51) rfl rfl) rfl rfl d_Mo_number_5 (y := (σ1 35 15)) rfl (?_ : WM _ 8 _ _ _ _)
  refine r_istore_n (ls' := [(2, vI (σ1 35 15)), (0, vR 35), (1, vI x1)]) d_Mo_number_8 rfl (by decide) rfl (?_ : WM _ 9 _ _ _ _)
  refine r_iconst d_Mo_number_9 (by decide) (?_ : WM _ 10 _ _ _ _)
  refine r_istore_n (ls' := [(3, vI 0), (2, vI (σ1 35 15)), (0, vR 35), (1, vI x1)]) d_Mo_number_10 rfl (by decide) rfl (?_ : WM _ 11 _ _ _ _)
  refine r_pick (ls' := [(0, vR 35), (1, vI x1), (2, vI (σ1 35 15)), (3, vI 0)]) [2, 3, 1, 0] rfl ?_
  exact h
set_option maxRecDepth 20000 in
theorem l_Mo_number_1 {K : Int → St → Prop} {σ : St} (x1 : Int) (x2 : Int) (x3 : Int) (h : CI M_Mo_isDigit [vR 35] σ (fun v4 σ3 => (v4 = 0 → (¬ (σ3 35 15) = x2 → (inR ((σ3 35 15) - x2)) ∧ (5 < ((σ3 35 15) - x2) → CV M_Mo_fails [vR 35, vI 2, vI x2] σ3 (fun σ9 => K x3 σ9)) ∧ (¬ 5 < ((σ3 35 15) - x2) → (x3 ≤ x1 → K x3 σ3) ∧ (¬ x3 ≤ x1 → CV M_Mo_fails [vR 35, vI 2, vI x2] σ3 (fun σ12 => K x3 σ12)))) ∧ ((σ3 35 15) = x2 → CV M_Mo_fails [vR 35, vI 1, vI x2] σ3 (fun σ14 => K x3 σ14))) ∧ (¬ v4 = 0 → (inR ((σ3 35 15) - x2)) ∧ (5 ≤ ((σ3 35 15) - x2) → (inR ((σ3 35 15) + 1)) ∧ WM M_Mo_number 11 [(0, vR 35), (1, vI x1), (2, vI x2), (3, vI x3)] [] (ups σ3 35 15 ((σ3 35 15) + 1)) (QI K)) ∧ (¬ 5 ≤ ((σ3 35 15) - x2) → (inR (10 * x3)) ∧ CI M_Mo_peek [vR 35] σ3 (fun v21 σ20 => (inR ((10 * x3) + v21)) ∧ (inR (((10 * x3) + v21) - 48)) ∧ (inR ((σ20 35 15) + 1)) ∧ WM M_Mo_number 11 [(0, vR 35), (1, vI x1), (2, vI x2), (3, vI (((10 * x3) + v21) - 48))] [] (ups σ20 35 15 ((σ20 35 15) + 1)) (QI K)))))) : WM M_Mo_number 11 [(0, vR 35), (1, vI x1), (2, vI x2), (3, vI x3)] [] σ (QI K) := by
  refine r_aload_n d_Mo_number_11 rfl (?_ : WM _ 12 _ _ _ _)
  refine r_callV (ν := M_Mo_isDigit) (k := 35) [] ok_M_Mo_isDigit okv_M_Mo_isDigit (by decide) rfl rfl rfl (qm_5 (i := 186) rfl rfl) np_M_Mo_isDigit rfl (by decide) (Nat.le_of_ble_eq_true rfl) rfl d_Mo_number_12 (CI.k h (fun v4 σ3 h => (?_ : WM _ 15 _ _ _ _)))
  refine r_if_eq 54 d_Mo_number_15 rfl ⟨fun c5 => (?_ : WM _ 54 _ _ _ _), fun c5 => (?_ : WM _ 18 _ _ _ _)⟩
  · replace h := h.1 c5
    refine r_aload_n d_Mo_number_54 rfl (?_ : WM _ 55 _ _ _ _)
    refine r_getI (k := 35) (j := 15) 15 (by decide) rfl clk_11 (by decide) (qm_5 (i := 51) rfl rfl) rfl rfl d_Mo_number_55 (y := (σ3 35 15)) rfl (?_ : WM _ 58 _ _ _ _)
    refine r_iload_n d_Mo_number_58 rfl (?_ : WM _ 59 _ _ _ _)
    refine r_icmp_ne 71 d_Mo_number_59 rfl ⟨fun c6 => (?_ : WM _ 71 _ _ _ _), fun c6 => (?_ : WM _ 62 _ _ _ _)⟩
    · replace h := h.1 c6
      refine r_aload_n d_Mo_number_71 rfl (?_ : WM _ 72 _ _ _ _)
      refine r_getI (k := 35) (j := 15) 15 (by decide) rfl clk_11 (by decide) (qm_5 (i := 51) rfl rfl) rfl rfl d_Mo_number_72 (y := (σ3 35 15)) rfl (?_ : WM _ 75 _ _ _ _)
      refine r_iload_n d_Mo_number_75 rfl (?_ : WM _ 76 _ _ _ _)
      obtain ⟨h7, h⟩ := h
      refine r_isub d_Mo_number_76 h7 (?_ : WM _ 77 _ _ _ _)
      refine r_iconst d_Mo_number_77 (by decide) (?_ : WM _ 78 _ _ _ _)
      refine r_icmp_gt 86 d_Mo_number_78 rfl ⟨fun c8 => (?_ : WM _ 86 _ _ _ _), fun c8 => (?_ : WM _ 81 _ _ _ _)⟩
      · replace h := h.1 c8
        refine r_aload_n d_Mo_number_86 rfl (?_ : WM _ 87 _ _ _ _)
        refine r_iconst d_Mo_number_87 (by decide) (?_ : WM _ 88 _ _ _ _)
        refine r_iload_n d_Mo_number_88 rfl (?_ : WM _ 89 _ _ _ _)
        refine r_callV (ν := M_Mo_fails) (k := 35) [vI 2, vI x2] ok_M_Mo_fails okv_M_Mo_fails (by decide) rfl rfl rfl (qm_5 (i := 192) rfl rfl) np_M_Mo_fails rfl (by decide) (Nat.le_of_ble_eq_true rfl) rfl d_Mo_number_89 (CV.k h (fun σ9 h => (?_ : WM _ 92 _ _ _ _)))
        refine r_iload_n d_Mo_number_92 rfl (?_ : WM _ 93 _ _ _ _)
        exact r_ireturn rfl d_Mo_number_93 h
      · replace h := h.2 c8
        refine r_iload_n d_Mo_number_81 rfl (?_ : WM _ 82 _ _ _ _)
        refine r_iload_n d_Mo_number_82 rfl (?_ : WM _ 83 _ _ _ _)
        refine r_icmp_le 92 d_Mo_number_83 rfl ⟨fun c11 => (?_ : WM _ 92 _ _ _ _), fun c11 => (?_ : WM _ 86 _ _ _ _)⟩
        · replace h := h.1 c11
          refine r_iload_n d_Mo_number_92 rfl (?_ : WM _ 93 _ _ _ _)
          exact r_ireturn rfl d_Mo_number_93 h
        · replace h := h.2 c11
          refine r_aload_n d_Mo_number_86 rfl (?_ : WM _ 87 _ _ _ _)
          refine r_iconst d_Mo_number_87 (by decide) (?_ : WM _ 88 _ _ _ _)
          refine r_iload_n d_Mo_number_88 rfl (?_ : WM _ 89 _ _ _ _)
          refine r_callV (ν := M_Mo_fails) (k := 35) [vI 2, vI x2] ok_M_Mo_fails okv_M_Mo_fails (by decide) rfl rfl rfl (qm_5 (i := 192) rfl rfl) np_M_Mo_fails rfl (by decide) (Nat.le_of_ble_eq_true rfl) rfl d_Mo_number_89 (CV.k h (fun σ12 h => (?_ : WM _ 92 _ _ _ _)))
          refine r_iload_n d_Mo_number_92 rfl (?_ : WM _ 93 _ _ _ _)
          exact r_ireturn rfl d_Mo_number_93 h
    · replace h := h.2 c6
      refine r_aload_n d_Mo_number_62 rfl (?_ : WM _ 63 _ _ _ _)
      refine r_iconst d_Mo_number_63 (by decide) (?_ : WM _ 64 _ _ _ _)
      refine r_iload_n d_Mo_number_64 rfl (?_ : WM _ 65 _ _ _ _)
      refine r_callV (ν := M_Mo_fails) (k := 35) [vI 1, vI x2] ok_M_Mo_fails okv_M_Mo_fails (by decide) rfl rfl rfl (qm_5 (i := 192) rfl rfl) np_M_Mo_fails rfl (by decide) (Nat.le_of_ble_eq_true rfl) rfl d_Mo_number_65 (CV.k h (fun σ14 h => (?_ : WM _ 68 _ _ _ _)))
      refine r_goto 92 d_Mo_number_68 rfl ?_
      refine r_iload_n d_Mo_number_92 rfl (?_ : WM _ 93 _ _ _ _)
      exact r_ireturn rfl d_Mo_number_93 h
  · replace h := h.2 c5
    refine r_aload_n d_Mo_number_18 rfl (?_ : WM _ 19 _ _ _ _)
    refine r_getI (k := 35) (j := 15) 15 (by decide) rfl clk_11 (by decide) (qm_5 (i := 51) rfl rfl) rfl rfl d_Mo_number_19 (y := (σ3 35 15)) rfl (?_ : WM _ 22 _ _ _ _)
    refine r_iload_n d_Mo_number_22 rfl (?_ : WM _ 23 _ _ _ _)
    obtain ⟨h16, h⟩ := h
    refine r_isub d_Mo_number_23 h16 (?_ : WM _ 24 _ _ _ _)
    refine r_iconst d_Mo_number_24 (by decide) (?_ : WM _ 25 _ _ _ _)
    refine r_icmp_ge 41 d_Mo_number_25 rfl ⟨fun c17 => (?_ : WM _ 41 _ _ _ _), fun c17 => (?_ : WM _ 28 _ _ _ _)⟩
    · replace h := h.1 c17
      refine r_aload_n d_Mo_number_41 rfl (?_ : WM _ 42 _ _ _ _)
      refine r_dup d_Mo_number_42 rfl (?_ : WM _ 43 _ _ _ _)
      refine r_getI (k := 35) (j := 15) 15 (by decide) rfl clk_11 (by decide) (qm_5 (i := 51) rfl rfl) rfl rfl d_Mo_number_43 (y := (σ3 35 15)) rfl (?_ : WM _ 46 _ _ _ _)
      refine r_iconst d_Mo_number_46 (by decide) (?_ : WM _ 47 _ _ _ _)
      obtain ⟨h18, h⟩ := h
      refine r_iadd d_Mo_number_47 h18 (?_ : WM _ 48 _ _ _ _)
      refine r_put (k := 35) (j := 15) 15 (by decide) rfl clk_11 (by decide) (qm_5 (i := 51) rfl rfl) rfl rfl rfl tyX11_ok rfl nmX11 d_Mo_number_48 (?_ : WM _ 51 _ _ _ _)
      refine r_goto 11 d_Mo_number_51 rfl ?_
      exact h
    · replace h := h.2 c17
      refine r_bipush d_Mo_number_28 (by decide) (by decide) (?_ : WM _ 30 _ _ _ _)
      refine r_iload_n d_Mo_number_30 rfl (?_ : WM _ 31 _ _ _ _)
      obtain ⟨h19, h⟩ := h
      refine r_imul d_Mo_number_31 h19 (?_ : WM _ 32 _ _ _ _)
      refine r_aload_n d_Mo_number_32 rfl (?_ : WM _ 33 _ _ _ _)
      refine r_callV (ν := M_Mo_peek) (k := 35) [] ok_M_Mo_peek okv_M_Mo_peek (by decide) rfl rfl rfl (qm_5 (i := 160) rfl rfl) np_M_Mo_peek rfl (by decide) (Nat.le_of_ble_eq_true rfl) rfl d_Mo_number_33 (CI.k h (fun v21 σ20 h => (?_ : WM _ 36 _ _ _ _)))
      obtain ⟨h22, h⟩ := h
      refine r_iadd d_Mo_number_36 h22 (?_ : WM _ 37 _ _ _ _)
      refine r_bipush d_Mo_number_37 (by decide) (by decide) (?_ : WM _ 39 _ _ _ _)
      obtain ⟨h23, h⟩ := h
      refine r_isub d_Mo_number_39 h23 (?_ : WM _ 40 _ _ _ _)
      refine r_istore_n (ls' := [(3, vI (((10 * x3) + v21) - 48)), (0, vR 35), (1, vI x1), (2, vI x2)]) d_Mo_number_40 rfl (by decide) rfl (?_ : WM _ 41 _ _ _ _)
      refine r_aload_n d_Mo_number_41 rfl (?_ : WM _ 42 _ _ _ _)
      refine r_dup d_Mo_number_42 rfl (?_ : WM _ 43 _ _ _ _)
      refine r_getI (k := 35) (j := 15) 15 (by decide) rfl clk_11 (by decide) (qm_5 (i := 51) rfl rfl) rfl rfl d_Mo_number_43 (y := (σ20 35 15)) rfl (?_ : WM _ 46 _ _ _ _)
      refine r_iconst d_Mo_number_46 (by decide) (?_ : WM _ 47 _ _ _ _)
      obtain ⟨h24, h⟩ := h
      refine r_iadd d_Mo_number_47 h24 (?_ : WM _ 48 _ _ _ _)
      refine r_put (k := 35) (j := 15) 15 (by decide) rfl clk_11 (by decide) (qm_5 (i := 51) rfl rfl) rfl rfl rfl tyX11_ok rfl nmX11 d_Mo_number_48 (?_ : WM _ 51 _ _ _ _)
      refine r_goto 11 d_Mo_number_51 rfl ?_
      refine r_pick (ls' := [(0, vR 35), (1, vI x1), (2, vI x2), (3, vI (((10 * x3) + v21) - 48))]) [1, 2, 3, 0] rfl ?_
      exact h
set_option maxRecDepth 20000 in
theorem e_Mo_placeIn_40 {K : Int → St → Prop} {σ : St} (x1 : Int) (x2 : Int) (x3 : Int) (h : WM M_Mo_placeIn 3 [(0, vR 40), (1, vI x1), (2, vI x2), (3, vI x3), (4, vI 0)] [] σ (QI K)) : CI M_Mo_placeIn [vR 40, vI x1, vI x2, vI x3] σ K := by
  refine Con.of ok_M_Mo_placeIn (ls := [(0, vR 40), (1, vI x1), (2, vI x2), (3, vI x3)]) rfl (Nat.le_of_ble_eq_true rfl) ?_
  refine r_iconst d_Mo_placeIn_0 (by decide) (?_ : WM _ 1 _ _ _ _)
  refine r_istore (ls' := [(4, vI 0), (0, vR 40), (1, vI x1), (2, vI x2), (3, vI x3)]) d_Mo_placeIn_1 (by decide) rfl (?_ : WM _ 3 _ _ _ _)
  refine r_pick (ls' := [(0, vR 40), (1, vI x1), (2, vI x2), (3, vI x3), (4, vI 0)]) [1, 2, 3, 4, 0] rfl ?_
  exact h
set_option maxRecDepth 20000 in
theorem l_Mo_placeIn_40_1 {K : Int → St → Prop} {σ : St} (x1 : Int) (x2 : Int) (x3 : Int) (x4 : Int) (h : (x1 ≤ x4 → K (-1) σ) ∧ (¬ x1 ≤ x4 → (inR (4 * x4)) ∧ (inR ((4 * x4) + 0)) ∧ (0 ≤ ((4 * x4) + 0)) ∧ (((4 * x4) + 0) < 192) ∧ (¬ (σ 40 ((4 * x4) + 0)) = x2 → (inR (x4 + 1)) ∧ WM M_Mo_placeIn 3 [(0, vR 40), (1, vI x1), (2, vI x2), (3, vI x3), (4, vI (x4 + 1))] [] σ (QI K)) ∧ ((σ 40 ((4 * x4) + 0)) = x2 → (inR ((4 * x4) + 1)) ∧ (0 ≤ ((4 * x4) + 1)) ∧ (((4 * x4) + 1) < 192) ∧ (¬ (σ 40 ((4 * x4) + 1)) = x3 → (inR (x4 + 1)) ∧ WM M_Mo_placeIn 3 [(0, vR 40), (1, vI x1), (2, vI x2), (3, vI x3), (4, vI (x4 + 1))] [] σ (QI K)) ∧ ((σ 40 ((4 * x4) + 1)) = x3 → K x4 σ)))) : WM M_Mo_placeIn 3 [(0, vR 40), (1, vI x1), (2, vI x2), (3, vI x3), (4, vI x4)] [] σ (QI K) := by
  refine r_iload d_Mo_placeIn_3 rfl (?_ : WM _ 5 _ _ _ _)
  refine r_iload_n d_Mo_placeIn_5 rfl (?_ : WM _ 6 _ _ _ _)
  refine r_icmp_ge 42 d_Mo_placeIn_6 rfl ⟨fun c1 => (?_ : WM _ 42 _ _ _ _), fun c1 => (?_ : WM _ 9 _ _ _ _)⟩
  · replace h := h.1 c1
    refine r_iconst d_Mo_placeIn_42 (by decide) (?_ : WM _ 43 _ _ _ _)
    exact r_ireturn rfl d_Mo_placeIn_43 h
  · replace h := h.2 c1
    refine r_aload_n d_Mo_placeIn_9 rfl (?_ : WM _ 10 _ _ _ _)
    refine r_iconst d_Mo_placeIn_10 (by decide) (?_ : WM _ 11 _ _ _ _)
    refine r_iload d_Mo_placeIn_11 rfl (?_ : WM _ 13 _ _ _ _)
    obtain ⟨h2, h⟩ := h
    refine r_imul d_Mo_placeIn_13 h2 (?_ : WM _ 14 _ _ _ _)
    refine r_iconst d_Mo_placeIn_14 (by decide) (?_ : WM _ 15 _ _ _ _)
    obtain ⟨h3, h⟩ := h
    refine r_iadd d_Mo_placeIn_15 h3 (?_ : WM _ 16 _ _ _ _)
    obtain ⟨h4, h⟩ := h
    obtain ⟨h5, h⟩ := h
    refine r_iald (k := 40) (n := 192) (by decide) rfl d_Mo_placeIn_16 h4 h5 (y := (σ 40 ((4 * x4) + 0))) rfl (?_ : WM _ 17 _ _ _ _)
    refine r_iload_n d_Mo_placeIn_17 rfl (?_ : WM _ 18 _ _ _ _)
    refine r_icmp_ne 36 d_Mo_placeIn_18 rfl ⟨fun c6 => (?_ : WM _ 36 _ _ _ _), fun c6 => (?_ : WM _ 21 _ _ _ _)⟩
    · replace h := h.1 c6
      obtain ⟨h7, h⟩ := h
      refine r_iinc (ls' := [(4, vI (x4 + 1)), (0, vR 40), (1, vI x1), (2, vI x2), (3, vI x3)]) d_Mo_placeIn_36 rfl h7 (by decide) rfl (?_ : WM _ 39 _ _ _ _)
      refine r_goto 3 d_Mo_placeIn_39 rfl ?_
      refine r_pick (ls' := [(0, vR 40), (1, vI x1), (2, vI x2), (3, vI x3), (4, vI (x4 + 1))]) [1, 2, 3, 4, 0] rfl ?_
      exact h
    · replace h := h.2 c6
      refine r_aload_n d_Mo_placeIn_21 rfl (?_ : WM _ 22 _ _ _ _)
      refine r_iconst d_Mo_placeIn_22 (by decide) (?_ : WM _ 23 _ _ _ _)
      refine r_iload d_Mo_placeIn_23 rfl (?_ : WM _ 25 _ _ _ _)
      refine r_imul d_Mo_placeIn_25 h2 (?_ : WM _ 26 _ _ _ _)
      refine r_iconst d_Mo_placeIn_26 (by decide) (?_ : WM _ 27 _ _ _ _)
      obtain ⟨h8, h⟩ := h
      refine r_iadd d_Mo_placeIn_27 h8 (?_ : WM _ 28 _ _ _ _)
      obtain ⟨h9, h⟩ := h
      obtain ⟨h10, h⟩ := h
      refine r_iald (k := 40) (n := 192) (by decide) rfl d_Mo_placeIn_28 h9 h10 (y := (σ 40 ((4 * x4) + 1))) rfl (?_ : WM _ 29 _ _ _ _)
      refine r_iload_n d_Mo_placeIn_29 rfl (?_ : WM _ 30 _ _ _ _)
      refine r_icmp_ne 36 d_Mo_placeIn_30 rfl ⟨fun c11 => (?_ : WM _ 36 _ _ _ _), fun c11 => (?_ : WM _ 33 _ _ _ _)⟩
      · replace h := h.1 c11
        obtain ⟨h12, h⟩ := h
        refine r_iinc (ls' := [(4, vI (x4 + 1)), (0, vR 40), (1, vI x1), (2, vI x2), (3, vI x3)]) d_Mo_placeIn_36 rfl h12 (by decide) rfl (?_ : WM _ 39 _ _ _ _)
        refine r_goto 3 d_Mo_placeIn_39 rfl ?_
        refine r_pick (ls' := [(0, vR 40), (1, vI x1), (2, vI x2), (3, vI x3), (4, vI (x4 + 1))]) [1, 2, 3, 4, 0] rfl ?_
        exact h
      · replace h := h.2 c11
        refine r_iload d_Mo_placeIn_33 rfl (?_ : WM _ 35 _ _ _ _)
        exact r_ireturn rfl d_Mo_placeIn_35 h
set_option maxRecDepth 20000 in
theorem e_Mo_likely {K : UInt64 → St → Prop} {σ : St} (x0 : Int) (x1 : Int) (x2 : Int) (h : (vf_n64 (FP.ddiv (FP.i2d (Int32.ofInt x2)) 4696837146684686336)) ∧ (vf_n64 (FP.dsub FP.dconst1 (FP.ddiv (FP.i2d (Int32.ofInt x2)) 4696837146684686336))) ∧ (¬ (dcq .l (FP.dsub FP.dconst1 (FP.ddiv (FP.i2d (Int32.ofInt x2)) 4696837146684686336)) FP.dconst0) = 0 → WM M_Mo_likely 27 [(0, vI x0), (1, vI x1), (3, vD (FP.ddiv (FP.i2d (Int32.ofInt x2)) 4696837146684686336)), (5, vD (FP.dsub FP.dconst1 (FP.ddiv (FP.i2d (Int32.ofInt x2)) 4696837146684686336))), (7, vD FP.dconst1), (9, vI 0)] [] σ (QD K)) ∧ ((dcq .l (FP.dsub FP.dconst1 (FP.ddiv (FP.i2d (Int32.ofInt x2)) 4696837146684686336)) FP.dconst0) = 0 → K FP.dconst0 σ)) : CD M_Mo_likely [vI x0, vI x1, vI x2] σ K := by
  refine Con.of ok_M_Mo_likely (ls := [(0, vI x0), (1, vI x1), (2, vI x2)]) rfl (Nat.le_of_ble_eq_true rfl) ?_
  refine r_iload_n d_Mo_likely_0 rfl (?_ : WM _ 1 _ _ _ _)
  refine r_i2d d_Mo_likely_1 (?_ : WM _ 2 _ _ _ _)
  refine r_ldc2d d_Mo_likely_2 (qm_6 (i := 59) rfl rfl) (?_ : WM _ 5 _ _ _ _)
  obtain ⟨h1, h⟩ := h
  refine r_ddiv d_Mo_likely_5 h1 (?_ : WM _ 6 _ _ _ _)
  refine r_dstore_n (ls' := [(3, vD (FP.ddiv (FP.i2d (Int32.ofInt x2)) 4696837146684686336)), (0, vI x0), (1, vI x1), (2, vI x2)]) d_Mo_likely_6 rfl (by decide) rfl (?_ : WM _ 7 _ _ _ _)
  refine r_dconst1 d_Mo_likely_7 (?_ : WM _ 8 _ _ _ _)
  refine r_dload_n d_Mo_likely_8 rfl (?_ : WM _ 9 _ _ _ _)
  obtain ⟨h2, h⟩ := h
  refine r_dsub d_Mo_likely_9 h2 (?_ : WM _ 10 _ _ _ _)
  refine r_dstore (ls' := [(5, vD (FP.dsub FP.dconst1 (FP.ddiv (FP.i2d (Int32.ofInt x2)) 4696837146684686336))), (3, vD (FP.ddiv (FP.i2d (Int32.ofInt x2)) 4696837146684686336)), (0, vI x0), (1, vI x1), (2, vI x2)]) d_Mo_likely_10 (by decide) rfl (?_ : WM _ 12 _ _ _ _)
  refine r_dload d_Mo_likely_12 rfl (?_ : WM _ 14 _ _ _ _)
  refine r_dconst0 d_Mo_likely_14 (?_ : WM _ 15 _ _ _ _)
  refine r_dcmp d_Mo_likely_15 (?_ : WM _ 16 _ _ _ _)
  refine r_if_ne 21 d_Mo_likely_16 rfl ⟨fun c3 => (?_ : WM _ 21 _ _ _ _), fun c3 => (?_ : WM _ 19 _ _ _ _)⟩
  · replace h := h.1 c3
    refine r_dconst1 d_Mo_likely_21 (?_ : WM _ 22 _ _ _ _)
    refine r_dstore (ls' := [(7, vD FP.dconst1), (5, vD (FP.dsub FP.dconst1 (FP.ddiv (FP.i2d (Int32.ofInt x2)) 4696837146684686336))), (3, vD (FP.ddiv (FP.i2d (Int32.ofInt x2)) 4696837146684686336)), (0, vI x0), (1, vI x1), (2, vI x2)]) d_Mo_likely_22 (by decide) rfl (?_ : WM _ 24 _ _ _ _)
    refine r_iconst d_Mo_likely_24 (by decide) (?_ : WM _ 25 _ _ _ _)
    refine r_istore (ls' := [(9, vI 0), (7, vD FP.dconst1), (5, vD (FP.dsub FP.dconst1 (FP.ddiv (FP.i2d (Int32.ofInt x2)) 4696837146684686336))), (3, vD (FP.ddiv (FP.i2d (Int32.ofInt x2)) 4696837146684686336)), (0, vI x0), (1, vI x1), (2, vI x2)]) d_Mo_likely_25 (by decide) rfl (?_ : WM _ 27 _ _ _ _)
    refine r_pick (ls' := [(0, vI x0), (1, vI x1), (3, vD (FP.ddiv (FP.i2d (Int32.ofInt x2)) 4696837146684686336)), (5, vD (FP.dsub FP.dconst1 (FP.ddiv (FP.i2d (Int32.ofInt x2)) 4696837146684686336))), (7, vD FP.dconst1), (9, vI 0)]) [4, 5, 3, 2, 1, 0] rfl ?_
    exact h
  · replace h := h.2 c3
    refine r_dconst0 d_Mo_likely_19 (?_ : WM _ 20 _ _ _ _)
    exact r_dreturn rfl d_Mo_likely_20 h
set_option maxRecDepth 20000 in
theorem l_Mo_likely_1 {K : UInt64 → St → Prop} {σ : St} (x0 : Int) (x1 : Int) (x3 : UInt64) (x5 : UInt64) (x7 : UInt64) (x9 : Int) (h : (x0 ≤ x9 → WM M_Mo_likely 53 [(0, vI x0), (1, vI x1), (3, vD x3), (5, vD x5), (7, vD x7), (9, vD x7), (11, vI 1)] [] σ (QD K)) ∧ (¬ x0 ≤ x9 → (vf_n64 (FP.dmul x7 x5)) ∧ (inR (x9 + 1)) ∧ WM M_Mo_likely 27 [(0, vI x0), (1, vI x1), (3, vD x3), (5, vD x5), (7, vD (FP.dmul x7 x5)), (9, vI (x9 + 1))] [] σ (QD K))) : WM M_Mo_likely 27 [(0, vI x0), (1, vI x1), (3, vD x3), (5, vD x5), (7, vD x7), (9, vI x9)] [] σ (QD K) := by
  refine r_iload d_Mo_likely_27 rfl (?_ : WM _ 29 _ _ _ _)
  refine r_iload_n d_Mo_likely_29 rfl (?_ : WM _ 30 _ _ _ _)
  refine r_icmp_ge 46 d_Mo_likely_30 rfl ⟨fun c4 => (?_ : WM _ 46 _ _ _ _), fun c4 => (?_ : WM _ 33 _ _ _ _)⟩
  · replace h := h.1 c4
    refine r_dload d_Mo_likely_46 rfl (?_ : WM _ 48 _ _ _ _)
    refine r_dstore (ls' := [(9, vD x7), (0, vI x0), (1, vI x1), (3, vD x3), (5, vD x5), (7, vD x7)]) d_Mo_likely_48 (by decide) rfl (?_ : WM _ 50 _ _ _ _)
    refine r_iconst d_Mo_likely_50 (by decide) (?_ : WM _ 51 _ _ _ _)
    refine r_istore (ls' := [(11, vI 1), (9, vD x7), (0, vI x0), (1, vI x1), (3, vD x3), (5, vD x5), (7, vD x7)]) d_Mo_likely_51 (by decide) rfl (?_ : WM _ 53 _ _ _ _)
    refine r_pick (ls' := [(0, vI x0), (1, vI x1), (3, vD x3), (5, vD x5), (7, vD x7), (9, vD x7), (11, vI 1)]) [2, 3, 4, 5, 6, 1, 0] rfl ?_
    exact h
  · replace h := h.2 c4
    refine r_dload d_Mo_likely_33 rfl (?_ : WM _ 35 _ _ _ _)
    refine r_dload d_Mo_likely_35 rfl (?_ : WM _ 37 _ _ _ _)
    obtain ⟨h5, h⟩ := h
    refine r_dmul d_Mo_likely_37 h5 (?_ : WM _ 38 _ _ _ _)
    refine r_dstore (ls' := [(7, vD (FP.dmul x7 x5)), (0, vI x0), (1, vI x1), (3, vD x3), (5, vD x5), (9, vI x9)]) d_Mo_likely_38 (by decide) rfl (?_ : WM _ 40 _ _ _ _)
    obtain ⟨h6, h⟩ := h
    refine r_iinc (ls' := [(9, vI (x9 + 1)), (7, vD (FP.dmul x7 x5)), (0, vI x0), (1, vI x1), (3, vD x3), (5, vD x5)]) d_Mo_likely_40 rfl h6 (by decide) rfl (?_ : WM _ 43 _ _ _ _)
    refine r_goto 27 d_Mo_likely_43 rfl ?_
    refine r_pick (ls' := [(0, vI x0), (1, vI x1), (3, vD x3), (5, vD x5), (7, vD (FP.dmul x7 x5)), (9, vI (x9 + 1))]) [2, 3, 4, 5, 1, 0] rfl ?_
    exact h
set_option maxRecDepth 20000 in
theorem l_Mo_likely_2 {K : UInt64 → St → Prop} {σ : St} (x0 : Int) (x1 : Int) (x3 : UInt64) (x5 : UInt64) (x7 : UInt64) (x9 : UInt64) (x11 : Int) (h : (x1 < x11 → K x9 σ) ∧ (¬ x1 < x11 → (inR (x0 - x11)) ∧ (inR ((x0 - x11) + 1)) ∧ (vf_n64 (FP.dmul x7 (FP.i2d (Int32.ofInt ((x0 - x11) + 1))))) ∧ (vf_n64 (FP.ddiv (FP.dmul x7 (FP.i2d (Int32.ofInt ((x0 - x11) + 1)))) (FP.i2d (Int32.ofInt x11)))) ∧ (vf_n64 (FP.dmul (FP.ddiv (FP.dmul x7 (FP.i2d (Int32.ofInt ((x0 - x11) + 1)))) (FP.i2d (Int32.ofInt x11))) x3)) ∧ (vf_n64 (FP.ddiv (FP.dmul (FP.ddiv (FP.dmul x7 (FP.i2d (Int32.ofInt ((x0 - x11) + 1)))) (FP.i2d (Int32.ofInt x11))) x3) x5)) ∧ (vf_n64 (FP.dadd x9 (FP.ddiv (FP.dmul (FP.ddiv (FP.dmul x7 (FP.i2d (Int32.ofInt ((x0 - x11) + 1)))) (FP.i2d (Int32.ofInt x11))) x3) x5))) ∧ (inR (x11 + 1)) ∧ WM M_Mo_likely 53 [(0, vI x0), (1, vI x1), (3, vD x3), (5, vD x5), (7, vD (FP.ddiv (FP.dmul (FP.ddiv (FP.dmul x7 (FP.i2d (Int32.ofInt ((x0 - x11) + 1)))) (FP.i2d (Int32.ofInt x11))) x3) x5)), (9, vD (FP.dadd x9 (FP.ddiv (FP.dmul (FP.ddiv (FP.dmul x7 (FP.i2d (Int32.ofInt ((x0 - x11) + 1)))) (FP.i2d (Int32.ofInt x11))) x3) x5))), (11, vI (x11 + 1))] [] σ (QD K))) : WM M_Mo_likely 53 [(0, vI x0), (1, vI x1), (3, vD x3), (5, vD x5), (7, vD x7), (9, vD x9), (11, vI x11)] [] σ (QD K) := by
  refine r_iload d_Mo_likely_53 rfl (?_ : WM _ 55 _ _ _ _)
  refine r_iload_n d_Mo_likely_55 rfl (?_ : WM _ 56 _ _ _ _)
  refine r_icmp_gt 105 d_Mo_likely_56 rfl ⟨fun c7 => (?_ : WM _ 105 _ _ _ _), fun c7 => (?_ : WM _ 59 _ _ _ _)⟩
  · replace h := h.1 c7
    refine r_dload d_Mo_likely_105 rfl (?_ : WM _ 107 _ _ _ _)
    exact r_dreturn rfl d_Mo_likely_107 h
  · replace h := h.2 c7
    refine r_dload d_Mo_likely_59 rfl (?_ : WM _ 61 _ _ _ _)
    refine r_iload_n d_Mo_likely_61 rfl (?_ : WM _ 62 _ _ _ _)
    refine r_iload d_Mo_likely_62 rfl (?_ : WM _ 64 _ _ _ _)
    obtain ⟨h8, h⟩ := h
    refine r_isub d_Mo_likely_64 h8 (?_ : WM _ 65 _ _ _ _)
    refine r_iconst d_Mo_likely_65 (by decide) (?_ : WM _ 66 _ _ _ _)
    obtain ⟨h9, h⟩ := h
    refine r_iadd d_Mo_likely_66 h9 (?_ : WM _ 67 _ _ _ _)
    refine r_i2d d_Mo_likely_67 (?_ : WM _ 68 _ _ _ _)
    obtain ⟨h10, h⟩ := h
    refine r_dmul d_Mo_likely_68 h10 (?_ : WM _ 69 _ _ _ _)
    refine r_dstore (ls' := [(7, vD (FP.dmul x7 (FP.i2d (Int32.ofInt ((x0 - x11) + 1))))), (0, vI x0), (1, vI x1), (3, vD x3), (5, vD x5), (9, vD x9), (11, vI x11)]) d_Mo_likely_69 (by decide) rfl (?_ : WM _ 71 _ _ _ _)
    refine r_dload d_Mo_likely_71 rfl (?_ : WM _ 73 _ _ _ _)
    refine r_iload d_Mo_likely_73 rfl (?_ : WM _ 75 _ _ _ _)
    refine r_i2d d_Mo_likely_75 (?_ : WM _ 76 _ _ _ _)
    obtain ⟨h11, h⟩ := h
    refine r_ddiv d_Mo_likely_76 h11 (?_ : WM _ 77 _ _ _ _)
    refine r_dstore (ls' := [(7, vD (FP.ddiv (FP.dmul x7 (FP.i2d (Int32.ofInt ((x0 - x11) + 1)))) (FP.i2d (Int32.ofInt x11)))), (0, vI x0), (1, vI x1), (3, vD x3), (5, vD x5), (9, vD x9), (11, vI x11)]) d_Mo_likely_77 (by decide) rfl (?_ : WM _ 79 _ _ _ _)
    refine r_dload d_Mo_likely_79 rfl (?_ : WM _ 81 _ _ _ _)
    refine r_dload_n d_Mo_likely_81 rfl (?_ : WM _ 82 _ _ _ _)
    obtain ⟨h12, h⟩ := h
    refine r_dmul d_Mo_likely_82 h12 (?_ : WM _ 83 _ _ _ _)
    refine r_dstore (ls' := [(7, vD (FP.dmul (FP.ddiv (FP.dmul x7 (FP.i2d (Int32.ofInt ((x0 - x11) + 1)))) (FP.i2d (Int32.ofInt x11))) x3)), (0, vI x0), (1, vI x1), (3, vD x3), (5, vD x5), (9, vD x9), (11, vI x11)]) d_Mo_likely_83 (by decide) rfl (?_ : WM _ 85 _ _ _ _)
    refine r_dload d_Mo_likely_85 rfl (?_ : WM _ 87 _ _ _ _)
    refine r_dload d_Mo_likely_87 rfl (?_ : WM _ 89 _ _ _ _)
    obtain ⟨h13, h⟩ := h
    refine r_ddiv d_Mo_likely_89 h13 (?_ : WM _ 90 _ _ _ _)
    refine r_dstore (ls' := [(7, vD (FP.ddiv (FP.dmul (FP.ddiv (FP.dmul x7 (FP.i2d (Int32.ofInt ((x0 - x11) + 1)))) (FP.i2d (Int32.ofInt x11))) x3) x5)), (0, vI x0), (1, vI x1), (3, vD x3), (5, vD x5), (9, vD x9), (11, vI x11)]) d_Mo_likely_90 (by decide) rfl (?_ : WM _ 92 _ _ _ _)
    refine r_dload d_Mo_likely_92 rfl (?_ : WM _ 94 _ _ _ _)
    refine r_dload d_Mo_likely_94 rfl (?_ : WM _ 96 _ _ _ _)
    obtain ⟨h14, h⟩ := h
    refine r_dadd d_Mo_likely_96 h14 (?_ : WM _ 97 _ _ _ _)
    refine r_dstore (ls' := [(9, vD (FP.dadd x9 (FP.ddiv (FP.dmul (FP.ddiv (FP.dmul x7 (FP.i2d (Int32.ofInt ((x0 - x11) + 1)))) (FP.i2d (Int32.ofInt x11))) x3) x5))), (7, vD (FP.ddiv (FP.dmul (FP.ddiv (FP.dmul x7 (FP.i2d (Int32.ofInt ((x0 - x11) + 1)))) (FP.i2d (Int32.ofInt x11))) x3) x5)), (0, vI x0), (1, vI x1), (3, vD x3), (5, vD x5), (11, vI x11)]) d_Mo_likely_97 (by decide) rfl (?_ : WM _ 99 _ _ _ _)
    obtain ⟨h15, h⟩ := h
    refine r_iinc (ls' := [(11, vI (x11 + 1)), (9, vD (FP.dadd x9 (FP.ddiv (FP.dmul (FP.ddiv (FP.dmul x7 (FP.i2d (Int32.ofInt ((x0 - x11) + 1)))) (FP.i2d (Int32.ofInt x11))) x3) x5))), (7, vD (FP.ddiv (FP.dmul (FP.ddiv (FP.dmul x7 (FP.i2d (Int32.ofInt ((x0 - x11) + 1)))) (FP.i2d (Int32.ofInt x11))) x3) x5)), (0, vI x0), (1, vI x1), (3, vD x3), (5, vD x5)]) d_Mo_likely_99 rfl h15 (by decide) rfl (?_ : WM _ 102 _ _ _ _)
    refine r_goto 53 d_Mo_likely_102 rfl ?_
    refine r_pick (ls' := [(0, vI x0), (1, vI x1), (3, vD x3), (5, vD x5), (7, vD (FP.ddiv (FP.dmul (FP.ddiv (FP.dmul x7 (FP.i2d (Int32.ofInt ((x0 - x11) + 1)))) (FP.i2d (Int32.ofInt x11))) x3) x5)), (9, vD (FP.dadd x9 (FP.ddiv (FP.dmul (FP.ddiv (FP.dmul x7 (FP.i2d (Int32.ofInt ((x0 - x11) + 1)))) (FP.i2d (Int32.ofInt x11))) x3) x5))), (11, vI (x11 + 1))]) [3, 4, 5, 6, 2, 1, 0] rfl ?_
    exact h
set_option maxRecDepth 20000 in
theorem e_Mo_isDigit {K : Int → St → Prop} {σ : St}  (h : CI M_Mo_peek [vR 35] σ (fun v2 σ1 => CI M_Mo_isIn [vL v2, vL 48, vL 57] σ1 (fun v4 σ3 => (v4 = 0 ∨ v4 = 1) ∧ K v4 σ3))) : CI M_Mo_isDigit [vR 35] σ K := by
  refine Con.of ok_M_Mo_isDigit (ls := [(0, vR 35)]) rfl (Nat.le_of_ble_eq_true rfl) ?_
  refine r_aload_n d_Mo_isDigit_0 rfl (?_ : WM _ 1 _ _ _ _)
  refine r_callV (ν := M_Mo_peek) (k := 35) [] ok_M_Mo_peek okv_M_Mo_peek (by decide) rfl rfl rfl (qm_5 (i := 160) rfl rfl) np_M_Mo_peek rfl (by decide) (Nat.le_of_ble_eq_true rfl) rfl d_Mo_isDigit_1 (CI.k h (fun v2 σ1 h => (?_ : WM _ 4 _ _ _ _)))
  refine r_i2l d_Mo_isDigit_4 (?_ : WM _ 5 _ _ _ _)
  refine r_ldc2 48 d_Mo_isDigit_5 (qm_5 (i := 190) rfl rfl) (by decide) (by decide) (?_ : WM _ 8 _ _ _ _)
  refine r_ldc2 57 d_Mo_isDigit_8 (qm_5 (i := 191) rfl rfl) (by decide) (by decide) (?_ : WM _ 11 _ _ _ _)
  refine r_callS (ν := M_Mo_isIn) [vL v2, vL 48, vL 57] ok_M_Mo_isIn oks_M_Mo_isIn (qm_5 (i := 153) rfl rfl) np_M_Mo_isIn rfl (by decide) (Nat.le_of_ble_eq_true rfl) rfl d_Mo_isDigit_11 (CI.k h (fun v4 σ3 h => (?_ : WM _ 14 _ _ _ _)))
  obtain ⟨h5, h⟩ := h
  exact r_zreturn rfl d_Mo_isDigit_14 h5 h
