-- what each stretch of a method asks (printed by wip/gen/gen_out.py)
set_option maxRecDepth 20000 in
theorem e_Cs_feed {K : Int → St → Prop} {σ : St} (x1 : Int) (x2 : Int) (x3 : Int) (x4 : Int) (x5 : Int) (h : (inR ((σ 1 1) + 20)) ∧ (((σ 1 1) + 20) ≤ 900 → CV M_Ta_write [vR 1, vI x1] σ (fun σ3 => CV M_Ta_write [vR 1, vI x2] σ3 (fun σ5 => CV M_Ta_write [vR 1, vI x3] σ5 (fun σ7 => CV M_Ta_write [vR 1, vI x4] σ7 (fun σ9 => CV M_Ta_write [vR 1, vI x5] σ9 (fun σ11 => K (σ11 1 1) σ11)))))) ∧ (¬ ((σ 1 1) + 20) ≤ 900 → K (-4) σ)) : CI M_Cs_feed [vR 0, vI x1, vI x2, vI x3, vI x4, vI x5] σ K := by
  refine Con.of ok_M_Cs_feed (ls := [(0, vR 0), (1, vI x1), (2, vI x2), (3, vI x3), (4, vI x4), (5, vI x5)]) rfl (Nat.le_of_ble_eq_true rfl) ?_
  refine r_aload_n d_Cs_feed_0 rfl (?_ : WM _ 1 _ _ _ _)
  refine r_getR (k := 0) (j := 0) (q := 1) (by decide) rfl clk_10 (by decide) (qm_2 (i := 85) rfl rfl) rfl d_Cs_feed_1 (?_ : WM _ 4 _ _ _ _)
  refine r_getI (k := 1) (j := 1) 1 (by decide) rfl clk_7 (by decide) (qm_1 (i := 67) rfl rfl) rfl rfl d_Cs_feed_4 (y := (σ 1 1)) rfl (?_ : WM _ 7 _ _ _ _)
  refine r_bipush d_Cs_feed_7 (by decide) (by decide) (?_ : WM _ 9 _ _ _ _)
  obtain ⟨h1, h⟩ := h
  refine r_iadd d_Cs_feed_9 h1 (?_ : WM _ 10 _ _ _ _)
  refine r_sipush d_Cs_feed_10 (by decide) (by decide) (?_ : WM _ 13 _ _ _ _)
  refine r_icmp_le 19 d_Cs_feed_13 rfl ⟨fun c2 => (?_ : WM _ 19 _ _ _ _), fun c2 => (?_ : WM _ 16 _ _ _ _)⟩
  · replace h := h.1 c2
    refine r_aload_n d_Cs_feed_19 rfl (?_ : WM _ 20 _ _ _ _)
    refine r_getR (k := 0) (j := 0) (q := 1) (by decide) rfl clk_10 (by decide) (qm_2 (i := 85) rfl rfl) rfl d_Cs_feed_20 (?_ : WM _ 23 _ _ _ _)
    refine r_iload_n d_Cs_feed_23 rfl (?_ : WM _ 24 _ _ _ _)
    refine r_callV (ν := M_Ta_write) (k := 1) [vI x1] ok_M_Ta_write okv_M_Ta_write (by decide) rfl rfl rfl (qm_5 (i := 121) rfl rfl) np_M_Ta_write rfl (by decide) (Nat.le_of_ble_eq_true rfl) rfl d_Cs_feed_24 (CV.k h (fun σ3 h => (?_ : WM _ 27 _ _ _ _)))
    refine r_aload_n d_Cs_feed_27 rfl (?_ : WM _ 28 _ _ _ _)
    refine r_getR (k := 0) (j := 0) (q := 1) (by decide) rfl clk_10 (by decide) (qm_2 (i := 85) rfl rfl) rfl d_Cs_feed_28 (?_ : WM _ 31 _ _ _ _)
    refine r_iload_n d_Cs_feed_31 rfl (?_ : WM _ 32 _ _ _ _)
    refine r_callV (ν := M_Ta_write) (k := 1) [vI x2] ok_M_Ta_write okv_M_Ta_write (by decide) rfl rfl rfl (qm_5 (i := 121) rfl rfl) np_M_Ta_write rfl (by decide) (Nat.le_of_ble_eq_true rfl) rfl d_Cs_feed_32 (CV.k h (fun σ5 h => (?_ : WM _ 35 _ _ _ _)))
    refine r_aload_n d_Cs_feed_35 rfl (?_ : WM _ 36 _ _ _ _)
    refine r_getR (k := 0) (j := 0) (q := 1) (by decide) rfl clk_10 (by decide) (qm_2 (i := 85) rfl rfl) rfl d_Cs_feed_36 (?_ : WM _ 39 _ _ _ _)
    refine r_iload_n d_Cs_feed_39 rfl (?_ : WM _ 40 _ _ _ _)
    refine r_callV (ν := M_Ta_write) (k := 1) [vI x3] ok_M_Ta_write okv_M_Ta_write (by decide) rfl rfl rfl (qm_5 (i := 121) rfl rfl) np_M_Ta_write rfl (by decide) (Nat.le_of_ble_eq_true rfl) rfl d_Cs_feed_40 (CV.k h (fun σ7 h => (?_ : WM _ 43 _ _ _ _)))
    refine r_aload_n d_Cs_feed_43 rfl (?_ : WM _ 44 _ _ _ _)
    refine r_getR (k := 0) (j := 0) (q := 1) (by decide) rfl clk_10 (by decide) (qm_2 (i := 85) rfl rfl) rfl d_Cs_feed_44 (?_ : WM _ 47 _ _ _ _)
    refine r_iload d_Cs_feed_47 rfl (?_ : WM _ 49 _ _ _ _)
    refine r_callV (ν := M_Ta_write) (k := 1) [vI x4] ok_M_Ta_write okv_M_Ta_write (by decide) rfl rfl rfl (qm_5 (i := 121) rfl rfl) np_M_Ta_write rfl (by decide) (Nat.le_of_ble_eq_true rfl) rfl d_Cs_feed_49 (CV.k h (fun σ9 h => (?_ : WM _ 52 _ _ _ _)))
    refine r_aload_n d_Cs_feed_52 rfl (?_ : WM _ 53 _ _ _ _)
    refine r_getR (k := 0) (j := 0) (q := 1) (by decide) rfl clk_10 (by decide) (qm_2 (i := 85) rfl rfl) rfl d_Cs_feed_53 (?_ : WM _ 56 _ _ _ _)
    refine r_iload d_Cs_feed_56 rfl (?_ : WM _ 58 _ _ _ _)
    refine r_callV (ν := M_Ta_write) (k := 1) [vI x5] ok_M_Ta_write okv_M_Ta_write (by decide) rfl rfl rfl (qm_5 (i := 121) rfl rfl) np_M_Ta_write rfl (by decide) (Nat.le_of_ble_eq_true rfl) rfl d_Cs_feed_58 (CV.k h (fun σ11 h => (?_ : WM _ 61 _ _ _ _)))
    refine r_aload_n d_Cs_feed_61 rfl (?_ : WM _ 62 _ _ _ _)
    refine r_getR (k := 0) (j := 0) (q := 1) (by decide) rfl clk_10 (by decide) (qm_2 (i := 85) rfl rfl) rfl d_Cs_feed_62 (?_ : WM _ 65 _ _ _ _)
    refine r_getI (k := 1) (j := 1) 1 (by decide) rfl clk_7 (by decide) (qm_1 (i := 67) rfl rfl) rfl rfl d_Cs_feed_65 (y := (σ11 1 1)) rfl (?_ : WM _ 68 _ _ _ _)
    exact r_ireturn rfl d_Cs_feed_68 h
  · replace h := h.2 c2
    refine r_bipush d_Cs_feed_16 (by decide) (by decide) (?_ : WM _ 18 _ _ _ _)
    exact r_ireturn rfl d_Cs_feed_18 h
set_option maxRecDepth 20000 in
theorem e_Cs_text {K : Int → St → Prop} {σ : St} (x1 : Int) (h : (x1 < 0 → K (-3) σ) ∧ (¬ x1 < 0 → (x1 ≤ (σ 1 1) → CV M_Re_read [vR 8, vI x1] σ (fun σ3 => ((σ3 8 1) = 0 → CV M_Le_become [vR 3, vR 9] (ups σ3 1 1 0) (fun σ6 => CV M_Wa_forgetRuns [vR 20] σ6 (fun σ8 => CI M_Te_of [vR 14, vI 4] σ8 (fun v11 σ10 => CV M_La_lay [vR 16, vI 0] (ups σ10 20 0 v11) (fun σ12 => K (σ12 3 4) σ12))))) ∧ (¬ (σ3 8 1) = 0 → (inR ((-30) - (σ3 8 1))) ∧ K ((-30) - (σ3 8 1)) (ups σ3 1 1 0)))) ∧ (¬ x1 ≤ (σ 1 1) → K (-3) σ))) : CI M_Cs_text [vR 0, vI x1] σ K := by
  refine Con.of ok_M_Cs_text (ls := [(0, vR 0), (1, vI x1)]) rfl (Nat.le_of_ble_eq_true rfl) ?_
  refine r_iload_n d_Cs_text_0 rfl (?_ : WM _ 1 _ _ _ _)
  refine r_if_lt 15 d_Cs_text_1 rfl ⟨fun c1 => (?_ : WM _ 15 _ _ _ _), fun c1 => (?_ : WM _ 4 _ _ _ _)⟩
  · replace h := h.1 c1
    refine r_bipush d_Cs_text_15 (by decide) (by decide) (?_ : WM _ 17 _ _ _ _)
    exact r_ireturn rfl d_Cs_text_17 h
  · replace h := h.2 c1
    refine r_iload_n d_Cs_text_4 rfl (?_ : WM _ 5 _ _ _ _)
    refine r_aload_n d_Cs_text_5 rfl (?_ : WM _ 6 _ _ _ _)
    refine r_getR (k := 0) (j := 0) (q := 1) (by decide) rfl clk_10 (by decide) (qm_2 (i := 85) rfl rfl) rfl d_Cs_text_6 (?_ : WM _ 9 _ _ _ _)
    refine r_getI (k := 1) (j := 1) 1 (by decide) rfl clk_7 (by decide) (qm_1 (i := 67) rfl rfl) rfl rfl d_Cs_text_9 (y := (σ 1 1)) rfl (?_ : WM _ 12 _ _ _ _)
    refine r_icmp_le 18 d_Cs_text_12 rfl ⟨fun c2 => (?_ : WM _ 18 _ _ _ _), fun c2 => (?_ : WM _ 15 _ _ _ _)⟩
    · replace h := h.1 c2
      refine r_aload_n d_Cs_text_18 rfl (?_ : WM _ 19 _ _ _ _)
      refine r_getR (k := 0) (j := 2) (q := 8) (by decide) rfl clk_10 (by decide) (qm_2 (i := 87) rfl rfl) rfl d_Cs_text_19 (?_ : WM _ 22 _ _ _ _)
      refine r_iload_n d_Cs_text_22 rfl (?_ : WM _ 23 _ _ _ _)
      refine r_callV (ν := M_Re_read) (k := 8) [vI x1] ok_M_Re_read okv_M_Re_read (by decide) rfl rfl rfl (qm_5 (i := 1) rfl rfl) np_M_Re_read rfl (by decide) (Nat.le_of_ble_eq_true rfl) rfl d_Cs_text_23 (CV.k h (fun σ3 h => (?_ : WM _ 26 _ _ _ _)))
      refine r_aload_n d_Cs_text_26 rfl (?_ : WM _ 27 _ _ _ _)
      refine r_getR (k := 0) (j := 0) (q := 1) (by decide) rfl clk_10 (by decide) (qm_2 (i := 85) rfl rfl) rfl d_Cs_text_27 (?_ : WM _ 30 _ _ _ _)
      refine r_iconst d_Cs_text_30 (by decide) (?_ : WM _ 31 _ _ _ _)
      refine r_put (k := 1) (j := 1) 1 (by decide) rfl clk_7 (by decide) (qm_1 (i := 67) rfl rfl) rfl rfl rfl tyX7_ok rfl nmX7 d_Cs_text_31 (?_ : WM _ 34 _ _ _ _)
      refine r_aload_n d_Cs_text_34 rfl (?_ : WM _ 35 _ _ _ _)
      refine r_getR (k := 0) (j := 2) (q := 8) (by decide) rfl clk_10 (by decide) (qm_2 (i := 87) rfl rfl) rfl d_Cs_text_35 (?_ : WM _ 38 _ _ _ _)
      refine r_getI (k := 8) (j := 1) 1 (by decide) rfl clk_5 (by decide) (qm_1 (i := 119) rfl rfl) rfl rfl d_Cs_text_38 (y := (σ3 8 1)) (ups_c (by decide)) (?_ : WM _ 41 _ _ _ _)
      refine r_if_eq 55 d_Cs_text_41 rfl ⟨fun c5 => (?_ : WM _ 55 _ _ _ _), fun c5 => (?_ : WM _ 44 _ _ _ _)⟩
      · replace h := h.1 c5
        refine r_aload_n d_Cs_text_55 rfl (?_ : WM _ 56 _ _ _ _)
        refine r_getR (k := 0) (j := 1) (q := 3) (by decide) rfl clk_10 (by decide) (qm_2 (i := 86) rfl rfl) rfl d_Cs_text_56 (?_ : WM _ 59 _ _ _ _)
        refine r_aload_n d_Cs_text_59 rfl (?_ : WM _ 60 _ _ _ _)
        refine r_getR (k := 0) (j := 2) (q := 8) (by decide) rfl clk_10 (by decide) (qm_2 (i := 87) rfl rfl) rfl d_Cs_text_60 (?_ : WM _ 63 _ _ _ _)
        refine r_getR (k := 8) (j := 0) (q := 9) (by decide) rfl clk_5 (by decide) (qm_1 (i := 117) rfl rfl) rfl d_Cs_text_63 (?_ : WM _ 66 _ _ _ _)
        refine r_callV (ν := M_Le_become) (k := 3) [vR 9] ok_M_Le_become okv_M_Le_become (by decide) rfl rfl rfl (qm_5 (i := 94) rfl rfl) np_M_Le_become rfl (by decide) (Nat.le_of_ble_eq_true rfl) rfl d_Cs_text_66 (CV.k h (fun σ6 h => (?_ : WM _ 69 _ _ _ _)))
        refine r_aload_n d_Cs_text_69 rfl (?_ : WM _ 70 _ _ _ _)
        refine r_getR (k := 0) (j := 6) (q := 20) (by decide) rfl clk_10 (by decide) (qm_2 (i := 91) rfl rfl) rfl d_Cs_text_70 (?_ : WM _ 73 _ _ _ _)
        refine r_callV (ν := M_Wa_forgetRuns) (k := 20) [] ok_M_Wa_forgetRuns okv_M_Wa_forgetRuns (by decide) rfl rfl rfl (qm_5 (i := 99) rfl rfl) np_M_Wa_forgetRuns rfl (by decide) (Nat.le_of_ble_eq_true rfl) rfl d_Cs_text_73 (CV.k h (fun σ8 h => (?_ : WM _ 76 _ _ _ _)))
        refine r_aload_n d_Cs_text_76 rfl (?_ : WM _ 77 _ _ _ _)
        refine r_getR (k := 0) (j := 6) (q := 20) (by decide) rfl clk_10 (by decide) (qm_2 (i := 91) rfl rfl) rfl d_Cs_text_77 (?_ : WM _ 80 _ _ _ _)
        refine r_aload_n d_Cs_text_80 rfl (?_ : WM _ 81 _ _ _ _)
        refine r_getR (k := 0) (j := 3) (q := 14) (by decide) rfl clk_10 (by decide) (qm_2 (i := 88) rfl rfl) rfl d_Cs_text_81 (?_ : WM _ 84 _ _ _ _)
        refine r_iconst d_Cs_text_84 (by decide) (?_ : WM _ 85 _ _ _ _)
        refine r_callV (ν := M_Te_of) (k := 14) [vI 4] ok_M_Te_of okv_M_Te_of (by decide) rfl rfl rfl (qm_2 (i := 77) rfl rfl) np_M_Te_of rfl (by decide) (Nat.le_of_ble_eq_true rfl) rfl d_Cs_text_85 (CI.k h (fun v11 σ10 h => (?_ : WM _ 88 _ _ _ _)))
        refine r_put (k := 20) (j := 0) 0 (by decide) rfl clk_9 (by decide) (qm_1 (i := 186) rfl rfl) rfl rfl rfl tyX9_ok rfl nmX9 d_Cs_text_88 (?_ : WM _ 91 _ _ _ _)
        refine r_aload_n d_Cs_text_91 rfl (?_ : WM _ 92 _ _ _ _)
        refine r_getR (k := 0) (j := 4) (q := 16) (by decide) rfl clk_10 (by decide) (qm_2 (i := 89) rfl rfl) rfl d_Cs_text_92 (?_ : WM _ 95 _ _ _ _)
        refine r_iconst d_Cs_text_95 (by decide) (?_ : WM _ 96 _ _ _ _)
        refine r_callV (ν := M_La_lay) (k := 16) [vI 0] ok_M_La_lay okv_M_La_lay (by decide) rfl rfl rfl (qm_5 (i := 103) rfl rfl) np_M_La_lay rfl (by decide) (Nat.le_of_ble_eq_true rfl) rfl d_Cs_text_96 (CV.k h (fun σ12 h => (?_ : WM _ 99 _ _ _ _)))
        refine r_aload_n d_Cs_text_99 rfl (?_ : WM _ 100 _ _ _ _)
        refine r_getR (k := 0) (j := 1) (q := 3) (by decide) rfl clk_10 (by decide) (qm_2 (i := 86) rfl rfl) rfl d_Cs_text_100 (?_ : WM _ 103 _ _ _ _)
        refine r_getI (k := 3) (j := 4) 4 (by decide) rfl clk_3 (by decide) (qm_1 (i := 93) rfl rfl) rfl rfl d_Cs_text_103 (y := (σ12 3 4)) rfl (?_ : WM _ 106 _ _ _ _)
        exact r_ireturn rfl d_Cs_text_106 h
      · replace h := h.2 c5
        refine r_bipush d_Cs_text_44 (by decide) (by decide) (?_ : WM _ 46 _ _ _ _)
        refine r_aload_n d_Cs_text_46 rfl (?_ : WM _ 47 _ _ _ _)
        refine r_getR (k := 0) (j := 2) (q := 8) (by decide) rfl clk_10 (by decide) (qm_2 (i := 87) rfl rfl) rfl d_Cs_text_47 (?_ : WM _ 50 _ _ _ _)
        refine r_getI (k := 8) (j := 1) 1 (by decide) rfl clk_5 (by decide) (qm_1 (i := 119) rfl rfl) rfl rfl d_Cs_text_50 (y := (σ3 8 1)) (ups_c (by decide)) (?_ : WM _ 53 _ _ _ _)
        obtain ⟨h14, h⟩ := h
        refine r_isub d_Cs_text_53 h14 (?_ : WM _ 54 _ _ _ _)
        exact r_ireturn rfl d_Cs_text_54 h
    · replace h := h.2 c2
      refine r_bipush d_Cs_text_15 (by decide) (by decide) (?_ : WM _ 17 _ _ _ _)
      exact r_ireturn rfl d_Cs_text_17 h
set_option maxRecDepth 20000 in
theorem e_Cs_fault {K : Int → St → Prop} {σ : St} (x1 : Int) (h : (¬ x1 = 0 → (¬ x1 = 1 → K (-1) σ) ∧ (x1 = 1 → K (σ 8 2) σ)) ∧ (x1 = 0 → K (σ 8 1) σ)) : CI M_Cs_fault [vR 0, vI x1] σ K := by
  refine Con.of ok_M_Cs_fault (ls := [(0, vR 0), (1, vI x1)]) rfl (Nat.le_of_ble_eq_true rfl) ?_
  refine r_iload_n d_Cs_fault_0 rfl (?_ : WM _ 1 _ _ _ _)
  refine r_if_ne 14 d_Cs_fault_1 rfl ⟨fun c1 => (?_ : WM _ 14 _ _ _ _), fun c1 => (?_ : WM _ 4 _ _ _ _)⟩
  · replace h := h.1 c1
    refine r_iload_n d_Cs_fault_14 rfl (?_ : WM _ 15 _ _ _ _)
    refine r_iconst d_Cs_fault_15 (by decide) (?_ : WM _ 16 _ _ _ _)
    refine r_icmp_ne 29 d_Cs_fault_16 rfl ⟨fun c2 => (?_ : WM _ 29 _ _ _ _), fun c2 => (?_ : WM _ 19 _ _ _ _)⟩
    · replace h := h.1 c2
      refine r_iconst d_Cs_fault_29 (by decide) (?_ : WM _ 30 _ _ _ _)
      exact r_ireturn rfl d_Cs_fault_30 h
    · replace h := h.2 c2
      refine r_aload_n d_Cs_fault_19 rfl (?_ : WM _ 20 _ _ _ _)
      refine r_getR (k := 0) (j := 2) (q := 8) (by decide) rfl clk_10 (by decide) (qm_2 (i := 87) rfl rfl) rfl d_Cs_fault_20 (?_ : WM _ 23 _ _ _ _)
      refine r_getI (k := 8) (j := 2) 2 (by decide) rfl clk_5 (by decide) (qm_1 (i := 121) rfl rfl) rfl rfl d_Cs_fault_23 (y := (σ 8 2)) rfl (?_ : WM _ 26 _ _ _ _)
      refine r_goto 30 d_Cs_fault_26 rfl ?_
      exact r_ireturn rfl d_Cs_fault_30 h
  · replace h := h.2 c1
    refine r_aload_n d_Cs_fault_4 rfl (?_ : WM _ 5 _ _ _ _)
    refine r_getR (k := 0) (j := 2) (q := 8) (by decide) rfl clk_10 (by decide) (qm_2 (i := 87) rfl rfl) rfl d_Cs_fault_5 (?_ : WM _ 8 _ _ _ _)
    refine r_getI (k := 8) (j := 1) 1 (by decide) rfl clk_5 (by decide) (qm_1 (i := 119) rfl rfl) rfl rfl d_Cs_fault_8 (y := (σ 8 1)) rfl (?_ : WM _ 11 _ _ _ _)
    refine r_goto 30 d_Cs_fault_11 rfl ?_
    exact r_ireturn rfl d_Cs_fault_30 h
set_option maxRecDepth 20000 in
theorem e_Cs_terms {K : Int → St → Prop} {σ : St} (x1 : Int) (x2 : Int) (h : CI M_Te_has [vR 14, vI x1] σ (fun v2 σ1 => (¬ v2 = 0 → CI M_Te_allows [vR 14, vI x1, vI x2] σ1 (fun v5 σ4 => (¬ v5 = 0 → CI M_Te_of [vR 14, vI x1] σ4 (fun v8 σ7 => CV M_Te_tell [vR 14, vI x1, vI x2] σ7 (fun σ9 => (¬ x1 = 4 → K v8 σ9) ∧ (x1 = 4 → K v8 (ups σ9 20 0 x2))))) ∧ (v5 = 0 → K (-3) σ4))) ∧ (v2 = 0 → K (-2) σ1))) : CI M_Cs_terms [vR 0, vI x1, vI x2] σ K := by
  refine Con.of ok_M_Cs_terms (ls := [(0, vR 0), (1, vI x1), (2, vI x2)]) rfl (Nat.le_of_ble_eq_true rfl) ?_
  refine r_aload_n d_Cs_terms_0 rfl (?_ : WM _ 1 _ _ _ _)
  refine r_getR (k := 0) (j := 3) (q := 14) (by decide) rfl clk_10 (by decide) (qm_2 (i := 88) rfl rfl) rfl d_Cs_terms_1 (?_ : WM _ 4 _ _ _ _)
  refine r_iload_n d_Cs_terms_4 rfl (?_ : WM _ 5 _ _ _ _)
  refine r_callV (ν := M_Te_has) (k := 14) [vI x1] ok_M_Te_has okv_M_Te_has (by decide) rfl rfl rfl (qm_5 (i := 135) rfl rfl) np_M_Te_has rfl (by decide) (Nat.le_of_ble_eq_true rfl) rfl d_Cs_terms_5 (CI.k h (fun v2 σ1 h => (?_ : WM _ 8 _ _ _ _)))
  refine r_if_ne 14 d_Cs_terms_8 rfl ⟨fun c3 => (?_ : WM _ 14 _ _ _ _), fun c3 => (?_ : WM _ 11 _ _ _ _)⟩
  · replace h := h.1 c3
    refine r_aload_n d_Cs_terms_14 rfl (?_ : WM _ 15 _ _ _ _)
    refine r_getR (k := 0) (j := 3) (q := 14) (by decide) rfl clk_10 (by decide) (qm_2 (i := 88) rfl rfl) rfl d_Cs_terms_15 (?_ : WM _ 18 _ _ _ _)
    refine r_iload_n d_Cs_terms_18 rfl (?_ : WM _ 19 _ _ _ _)
    refine r_iload_n d_Cs_terms_19 rfl (?_ : WM _ 20 _ _ _ _)
    refine r_callV (ν := M_Te_allows) (k := 14) [vI x1, vI x2] ok_M_Te_allows okv_M_Te_allows (by decide) rfl rfl rfl (qm_5 (i := 136) rfl rfl) np_M_Te_allows rfl (by decide) (Nat.le_of_ble_eq_true rfl) rfl d_Cs_terms_20 (CI.k h (fun v5 σ4 h => (?_ : WM _ 23 _ _ _ _)))
    refine r_if_ne 29 d_Cs_terms_23 rfl ⟨fun c6 => (?_ : WM _ 29 _ _ _ _), fun c6 => (?_ : WM _ 26 _ _ _ _)⟩
    · replace h := h.1 c6
      refine r_aload_n d_Cs_terms_29 rfl (?_ : WM _ 30 _ _ _ _)
      refine r_getR (k := 0) (j := 3) (q := 14) (by decide) rfl clk_10 (by decide) (qm_2 (i := 88) rfl rfl) rfl d_Cs_terms_30 (?_ : WM _ 33 _ _ _ _)
      refine r_iload_n d_Cs_terms_33 rfl (?_ : WM _ 34 _ _ _ _)
      refine r_callV (ν := M_Te_of) (k := 14) [vI x1] ok_M_Te_of okv_M_Te_of (by decide) rfl rfl rfl (qm_2 (i := 77) rfl rfl) np_M_Te_of rfl (by decide) (Nat.le_of_ble_eq_true rfl) rfl d_Cs_terms_34 (CI.k h (fun v8 σ7 h => (?_ : WM _ 37 _ _ _ _)))
      refine r_istore_n (ls' := [(3, vI v8), (0, vR 0), (1, vI x1), (2, vI x2)]) d_Cs_terms_37 rfl (by decide) rfl (?_ : WM _ 38 _ _ _ _)
      refine r_aload_n d_Cs_terms_38 rfl (?_ : WM _ 39 _ _ _ _)
      refine r_getR (k := 0) (j := 3) (q := 14) (by decide) rfl clk_10 (by decide) (qm_2 (i := 88) rfl rfl) rfl d_Cs_terms_39 (?_ : WM _ 42 _ _ _ _)
      refine r_iload_n d_Cs_terms_42 rfl (?_ : WM _ 43 _ _ _ _)
      refine r_iload_n d_Cs_terms_43 rfl (?_ : WM _ 44 _ _ _ _)
      refine r_callV (ν := M_Te_tell) (k := 14) [vI x1, vI x2] ok_M_Te_tell okv_M_Te_tell (by decide) rfl rfl rfl (qm_5 (i := 144) rfl rfl) np_M_Te_tell rfl (by decide) (Nat.le_of_ble_eq_true rfl) rfl d_Cs_terms_44 (CV.k h (fun σ9 h => (?_ : WM _ 47 _ _ _ _)))
      refine r_iload_n d_Cs_terms_47 rfl (?_ : WM _ 48 _ _ _ _)
      refine r_iconst d_Cs_terms_48 (by decide) (?_ : WM _ 49 _ _ _ _)
      refine r_icmp_ne 60 d_Cs_terms_49 rfl ⟨fun c11 => (?_ : WM _ 60 _ _ _ _), fun c11 => (?_ : WM _ 52 _ _ _ _)⟩
      · replace h := h.1 c11
        refine r_iload_n d_Cs_terms_60 rfl (?_ : WM _ 61 _ _ _ _)
        exact r_ireturn rfl d_Cs_terms_61 h
      · replace h := h.2 c11
        refine r_aload_n d_Cs_terms_52 rfl (?_ : WM _ 53 _ _ _ _)
        refine r_getR (k := 0) (j := 6) (q := 20) (by decide) rfl clk_10 (by decide) (qm_2 (i := 91) rfl rfl) rfl d_Cs_terms_53 (?_ : WM _ 56 _ _ _ _)
        refine r_iload_n d_Cs_terms_56 rfl (?_ : WM _ 57 _ _ _ _)
        refine r_put (k := 20) (j := 0) 0 (by decide) rfl clk_9 (by decide) (qm_1 (i := 186) rfl rfl) rfl rfl rfl tyX9_ok rfl nmX9 d_Cs_terms_57 (?_ : WM _ 60 _ _ _ _)
        refine r_iload_n d_Cs_terms_60 rfl (?_ : WM _ 61 _ _ _ _)
        exact r_ireturn rfl d_Cs_terms_61 h
    · replace h := h.2 c6
      refine r_bipush d_Cs_terms_26 (by decide) (by decide) (?_ : WM _ 28 _ _ _ _)
      exact r_ireturn rfl d_Cs_terms_28 h
  · replace h := h.2 c3
    refine r_bipush d_Cs_terms_11 (by decide) (by decide) (?_ : WM _ 13 _ _ _ _)
    exact r_ireturn rfl d_Cs_terms_13 h
set_option maxRecDepth 20000 in
theorem e_Cs_add {K : Int → St → Prop} {σ : St} (x1 : Int) (x2 : Int) (x3 : Int) (h : (x1 < 0 → K (-3) σ) ∧ (¬ x1 < 0 → (99 < x1 → K (-3) σ) ∧ (¬ 99 < x1 → (x2 < 0 → K (-3) σ) ∧ (¬ x2 < 0 → (9999 < x2 → K (-3) σ) ∧ (¬ 9999 < x2 → CI M_Cs_isBook [vI x3] σ (fun v6 σ5 => (¬ v6 = 0 → CI M_Le_isFull [vR 3] σ5 (fun v9 σ8 => (v9 = 0 → CI M_Le_indexOf [vR 3, vI x1, vI x2] σ8 (fun v12 σ11 => (¬ v12 = (-1) → K (-5) σ11) ∧ (v12 = (-1) → ((σ11 20 1) ≤ 0 → CV M_Le_append [vR 3, vI x1, vI x2, vI x3] σ11 (fun σ15 => CV M_La_lay [vR 16, vI (σ15 16 0)] σ15 (fun σ17 => (inR ((σ17 3 4) - 1)) ∧ K ((σ17 3 4) - 1) σ17))) ∧ (¬ (σ11 20 1) ≤ 0 → K (-5) σ11)))) ∧ (¬ v9 = 0 → K (-4) σ8))) ∧ (v6 = 0 → K (-3) σ5))))))) : CI M_Cs_add [vR 0, vI x1, vI x2, vI x3] σ K := by
  refine Con.of ok_M_Cs_add (ls := [(0, vR 0), (1, vI x1), (2, vI x2), (3, vI x3)]) rfl (Nat.le_of_ble_eq_true rfl) ?_
  refine r_iload_n d_Cs_add_0 rfl (?_ : WM _ 1 _ _ _ _)
  refine r_if_lt 28 d_Cs_add_1 rfl ⟨fun c1 => (?_ : WM _ 28 _ _ _ _), fun c1 => (?_ : WM _ 4 _ _ _ _)⟩
  · replace h := h.1 c1
    refine r_bipush d_Cs_add_28 (by decide) (by decide) (?_ : WM _ 30 _ _ _ _)
    exact r_ireturn rfl d_Cs_add_30 h
  · replace h := h.2 c1
    refine r_iload_n d_Cs_add_4 rfl (?_ : WM _ 5 _ _ _ _)
    refine r_bipush d_Cs_add_5 (by decide) (by decide) (?_ : WM _ 7 _ _ _ _)
    refine r_icmp_gt 28 d_Cs_add_7 rfl ⟨fun c2 => (?_ : WM _ 28 _ _ _ _), fun c2 => (?_ : WM _ 10 _ _ _ _)⟩
    · replace h := h.1 c2
      refine r_bipush d_Cs_add_28 (by decide) (by decide) (?_ : WM _ 30 _ _ _ _)
      exact r_ireturn rfl d_Cs_add_30 h
    · replace h := h.2 c2
      refine r_iload_n d_Cs_add_10 rfl (?_ : WM _ 11 _ _ _ _)
      refine r_if_lt 28 d_Cs_add_11 rfl ⟨fun c3 => (?_ : WM _ 28 _ _ _ _), fun c3 => (?_ : WM _ 14 _ _ _ _)⟩
      · replace h := h.1 c3
        refine r_bipush d_Cs_add_28 (by decide) (by decide) (?_ : WM _ 30 _ _ _ _)
        exact r_ireturn rfl d_Cs_add_30 h
      · replace h := h.2 c3
        refine r_iload_n d_Cs_add_14 rfl (?_ : WM _ 15 _ _ _ _)
        refine r_sipush d_Cs_add_15 (by decide) (by decide) (?_ : WM _ 18 _ _ _ _)
        refine r_icmp_gt 28 d_Cs_add_18 rfl ⟨fun c4 => (?_ : WM _ 28 _ _ _ _), fun c4 => (?_ : WM _ 21 _ _ _ _)⟩
        · replace h := h.1 c4
          refine r_bipush d_Cs_add_28 (by decide) (by decide) (?_ : WM _ 30 _ _ _ _)
          exact r_ireturn rfl d_Cs_add_30 h
        · replace h := h.2 c4
          refine r_iload_n d_Cs_add_21 rfl (?_ : WM _ 22 _ _ _ _)
          refine r_callS (ν := M_Cs_isBook) [vI x3] ok_M_Cs_isBook oks_M_Cs_isBook (qm_5 (i := 154) rfl rfl) np_M_Cs_isBook rfl (by decide) (Nat.le_of_ble_eq_true rfl) rfl d_Cs_add_22 (CI.k h (fun v6 σ5 h => (?_ : WM _ 25 _ _ _ _)))
          refine r_if_ne 31 d_Cs_add_25 rfl ⟨fun c7 => (?_ : WM _ 31 _ _ _ _), fun c7 => (?_ : WM _ 28 _ _ _ _)⟩
          · replace h := h.1 c7
            refine r_aload_n d_Cs_add_31 rfl (?_ : WM _ 32 _ _ _ _)
            refine r_getR (k := 0) (j := 1) (q := 3) (by decide) rfl clk_10 (by decide) (qm_2 (i := 86) rfl rfl) rfl d_Cs_add_32 (?_ : WM _ 35 _ _ _ _)
            refine r_callV (ν := M_Le_isFull) (k := 3) [] ok_M_Le_isFull okv_M_Le_isFull (by decide) rfl rfl rfl (qm_5 (i := 159) rfl rfl) np_M_Le_isFull rfl (by decide) (Nat.le_of_ble_eq_true rfl) rfl d_Cs_add_35 (CI.k h (fun v9 σ8 h => (?_ : WM _ 38 _ _ _ _)))
            refine r_if_eq 44 d_Cs_add_38 rfl ⟨fun c10 => (?_ : WM _ 44 _ _ _ _), fun c10 => (?_ : WM _ 41 _ _ _ _)⟩
            · replace h := h.1 c10
              refine r_aload_n d_Cs_add_44 rfl (?_ : WM _ 45 _ _ _ _)
              refine r_getR (k := 0) (j := 1) (q := 3) (by decide) rfl clk_10 (by decide) (qm_2 (i := 86) rfl rfl) rfl d_Cs_add_45 (?_ : WM _ 48 _ _ _ _)
              refine r_iload_n d_Cs_add_48 rfl (?_ : WM _ 49 _ _ _ _)
              refine r_iload_n d_Cs_add_49 rfl (?_ : WM _ 50 _ _ _ _)
              refine r_callV (ν := M_Le_indexOf) (k := 3) [vI x1, vI x2] ok_M_Le_indexOf okv_M_Le_indexOf (by decide) rfl rfl rfl (qm_5 (i := 160) rfl rfl) np_M_Le_indexOf rfl (by decide) (Nat.le_of_ble_eq_true rfl) rfl d_Cs_add_50 (CI.k h (fun v12 σ11 h => (?_ : WM _ 53 _ _ _ _)))
              refine r_iconst d_Cs_add_53 (by decide) (?_ : WM _ 54 _ _ _ _)
              refine r_icmp_ne 67 d_Cs_add_54 rfl ⟨fun c13 => (?_ : WM _ 67 _ _ _ _), fun c13 => (?_ : WM _ 57 _ _ _ _)⟩
              · replace h := h.1 c13
                refine r_bipush d_Cs_add_67 (by decide) (by decide) (?_ : WM _ 69 _ _ _ _)
                exact r_ireturn rfl d_Cs_add_69 h
              · replace h := h.2 c13
                refine r_aload_n d_Cs_add_57 rfl (?_ : WM _ 58 _ _ _ _)
                refine r_getR (k := 0) (j := 6) (q := 20) (by decide) rfl clk_10 (by decide) (qm_2 (i := 91) rfl rfl) rfl d_Cs_add_58 (?_ : WM _ 61 _ _ _ _)
                refine r_getI (k := 20) (j := 1) 1 (by decide) rfl clk_9 (by decide) (qm_1 (i := 190) rfl rfl) rfl rfl d_Cs_add_61 (y := (σ11 20 1)) rfl (?_ : WM _ 64 _ _ _ _)
                refine r_if_le 70 d_Cs_add_64 rfl ⟨fun c14 => (?_ : WM _ 70 _ _ _ _), fun c14 => (?_ : WM _ 67 _ _ _ _)⟩
                · replace h := h.1 c14
                  refine r_aload_n d_Cs_add_70 rfl (?_ : WM _ 71 _ _ _ _)
                  refine r_getR (k := 0) (j := 1) (q := 3) (by decide) rfl clk_10 (by decide) (qm_2 (i := 86) rfl rfl) rfl d_Cs_add_71 (?_ : WM _ 74 _ _ _ _)
                  refine r_iload_n d_Cs_add_74 rfl (?_ : WM _ 75 _ _ _ _)
                  refine r_iload_n d_Cs_add_75 rfl (?_ : WM _ 76 _ _ _ _)
                  refine r_iload_n d_Cs_add_76 rfl (?_ : WM _ 77 _ _ _ _)
                  refine r_callV (ν := M_Le_append) (k := 3) [vI x1, vI x2, vI x3] ok_M_Le_append okv_M_Le_append (by decide) rfl rfl rfl (qm_5 (i := 161) rfl rfl) np_M_Le_append rfl (by decide) (Nat.le_of_ble_eq_true rfl) rfl d_Cs_add_77 (CV.k h (fun σ15 h => (?_ : WM _ 80 _ _ _ _)))
                  refine r_aload_n d_Cs_add_80 rfl (?_ : WM _ 81 _ _ _ _)
                  refine r_getR (k := 0) (j := 4) (q := 16) (by decide) rfl clk_10 (by decide) (qm_2 (i := 89) rfl rfl) rfl d_Cs_add_81 (?_ : WM _ 84 _ _ _ _)
                  refine r_aload_n d_Cs_add_84 rfl (?_ : WM _ 85 _ _ _ _)
                  refine r_getR (k := 0) (j := 4) (q := 16) (by decide) rfl clk_10 (by decide) (qm_2 (i := 89) rfl rfl) rfl d_Cs_add_85 (?_ : WM _ 88 _ _ _ _)
                  refine r_getI (k := 16) (j := 0) 0 (by decide) rfl clk_2 (by decide) (qm_1 (i := 158) rfl rfl) rfl rfl d_Cs_add_88 (y := (σ15 16 0)) rfl (?_ : WM _ 91 _ _ _ _)
                  refine r_callV (ν := M_La_lay) (k := 16) [vI (σ15 16 0)] ok_M_La_lay okv_M_La_lay (by decide) rfl rfl rfl (qm_5 (i := 103) rfl rfl) np_M_La_lay rfl (by decide) (Nat.le_of_ble_eq_true rfl) rfl d_Cs_add_91 (CV.k h (fun σ17 h => (?_ : WM _ 94 _ _ _ _)))
                  refine r_aload_n d_Cs_add_94 rfl (?_ : WM _ 95 _ _ _ _)
                  refine r_getR (k := 0) (j := 1) (q := 3) (by decide) rfl clk_10 (by decide) (qm_2 (i := 86) rfl rfl) rfl d_Cs_add_95 (?_ : WM _ 98 _ _ _ _)
                  refine r_getI (k := 3) (j := 4) 4 (by decide) rfl clk_3 (by decide) (qm_1 (i := 93) rfl rfl) rfl rfl d_Cs_add_98 (y := (σ17 3 4)) rfl (?_ : WM _ 101 _ _ _ _)
                  refine r_iconst d_Cs_add_101 (by decide) (?_ : WM _ 102 _ _ _ _)
                  obtain ⟨h19, h⟩ := h
                  refine r_isub d_Cs_add_102 h19 (?_ : WM _ 103 _ _ _ _)
                  exact r_ireturn rfl d_Cs_add_103 h
                · replace h := h.2 c14
                  refine r_bipush d_Cs_add_67 (by decide) (by decide) (?_ : WM _ 69 _ _ _ _)
                  exact r_ireturn rfl d_Cs_add_69 h
            · replace h := h.2 c10
              refine r_bipush d_Cs_add_41 (by decide) (by decide) (?_ : WM _ 43 _ _ _ _)
              exact r_ireturn rfl d_Cs_add_43 h
          · replace h := h.2 c7
            refine r_bipush d_Cs_add_28 (by decide) (by decide) (?_ : WM _ 30 _ _ _ _)
            exact r_ireturn rfl d_Cs_add_30 h
set_option maxRecDepth 20000 in
theorem e_Cs_post {K : Int → St → Prop} {σ : St} (x1 : Int) (x2 : Int) (h : CI M_Le_holds [vR 3, vI x1] σ (fun v2 σ1 => (v2 = 0 → K (-10000000) σ1) ∧ (¬ v2 = 0 → CI M_Cs_isBook [vI x2] σ1 (fun v5 σ4 => (v5 = 0 → K (-10000000) σ4) ∧ (¬ v5 = 0 → ((σ4 20 1) ≤ 0 → (0 ≤ x1) ∧ (x1 < 48) ∧ CV M_La_lay [vR 16, vI (σ4 16 0)] (ups (ups σ4 6 x1 x2) 7 x1 (-1)) (fun σ10 => K (σ4 6 x1) σ10)) ∧ (¬ (σ4 20 1) ≤ 0 → K (-10000000) σ4)))))) : CI M_Cs_post [vR 0, vI x1, vI x2] σ K := by
  refine Con.of ok_M_Cs_post (ls := [(0, vR 0), (1, vI x1), (2, vI x2)]) rfl (Nat.le_of_ble_eq_true rfl) ?_
  refine r_aload_n d_Cs_post_0 rfl (?_ : WM _ 1 _ _ _ _)
  refine r_getR (k := 0) (j := 1) (q := 3) (by decide) rfl clk_10 (by decide) (qm_2 (i := 86) rfl rfl) rfl d_Cs_post_1 (?_ : WM _ 4 _ _ _ _)
  refine r_iload_n d_Cs_post_4 rfl (?_ : WM _ 5 _ _ _ _)
  refine r_callV (ν := M_Le_holds) (k := 3) [vI x1] ok_M_Le_holds okv_M_Le_holds (by decide) rfl rfl rfl (qm_5 (i := 168) rfl rfl) np_M_Le_holds rfl (by decide) (Nat.le_of_ble_eq_true rfl) rfl d_Cs_post_5 (CI.k h (fun v2 σ1 h => (?_ : WM _ 8 _ _ _ _)))
  refine r_if_eq 28 d_Cs_post_8 rfl ⟨fun c3 => (?_ : WM _ 28 _ _ _ _), fun c3 => (?_ : WM _ 11 _ _ _ _)⟩
  · replace h := h.1 c3
    refine r_ldc (-10000000) d_Cs_post_28 (qm_5 (i := 169) rfl rfl) (by decide) (by decide) (?_ : WM _ 30 _ _ _ _)
    exact r_ireturn rfl d_Cs_post_30 h
  · replace h := h.2 c3
    refine r_iload_n d_Cs_post_11 rfl (?_ : WM _ 12 _ _ _ _)
    refine r_callS (ν := M_Cs_isBook) [vI x2] ok_M_Cs_isBook oks_M_Cs_isBook (qm_5 (i := 154) rfl rfl) np_M_Cs_isBook rfl (by decide) (Nat.le_of_ble_eq_true rfl) rfl d_Cs_post_12 (CI.k h (fun v5 σ4 h => (?_ : WM _ 15 _ _ _ _)))
    refine r_if_eq 28 d_Cs_post_15 rfl ⟨fun c6 => (?_ : WM _ 28 _ _ _ _), fun c6 => (?_ : WM _ 18 _ _ _ _)⟩
    · replace h := h.1 c6
      refine r_ldc (-10000000) d_Cs_post_28 (qm_5 (i := 169) rfl rfl) (by decide) (by decide) (?_ : WM _ 30 _ _ _ _)
      exact r_ireturn rfl d_Cs_post_30 h
    · replace h := h.2 c6
      refine r_aload_n d_Cs_post_18 rfl (?_ : WM _ 19 _ _ _ _)
      refine r_getR (k := 0) (j := 6) (q := 20) (by decide) rfl clk_10 (by decide) (qm_2 (i := 91) rfl rfl) rfl d_Cs_post_19 (?_ : WM _ 22 _ _ _ _)
      refine r_getI (k := 20) (j := 1) 1 (by decide) rfl clk_9 (by decide) (qm_1 (i := 190) rfl rfl) rfl rfl d_Cs_post_22 (y := (σ4 20 1)) rfl (?_ : WM _ 25 _ _ _ _)
      refine r_if_le 31 d_Cs_post_25 rfl ⟨fun c7 => (?_ : WM _ 31 _ _ _ _), fun c7 => (?_ : WM _ 28 _ _ _ _)⟩
      · replace h := h.1 c7
        refine r_aload_n d_Cs_post_31 rfl (?_ : WM _ 32 _ _ _ _)
        refine r_getR (k := 0) (j := 1) (q := 3) (by decide) rfl clk_10 (by decide) (qm_2 (i := 86) rfl rfl) rfl d_Cs_post_32 (?_ : WM _ 35 _ _ _ _)
        refine r_getR (k := 3) (j := 2) (q := 6) (by decide) rfl clk_3 (by decide) (qm_1 (i := 86) rfl rfl) rfl d_Cs_post_35 (?_ : WM _ 38 _ _ _ _)
        refine r_iload_n d_Cs_post_38 rfl (?_ : WM _ 39 _ _ _ _)
        obtain ⟨h8, h⟩ := h
        obtain ⟨h9, h⟩ := h
        refine r_iald (k := 6) (n := 48) (by decide) rfl d_Cs_post_39 h8 h9 (y := (σ4 6 x1)) rfl (?_ : WM _ 40 _ _ _ _)
        refine r_istore_n (ls' := [(3, vI (σ4 6 x1)), (0, vR 0), (1, vI x1), (2, vI x2)]) d_Cs_post_40 rfl (by decide) rfl (?_ : WM _ 41 _ _ _ _)
        refine r_aload_n d_Cs_post_41 rfl (?_ : WM _ 42 _ _ _ _)
        refine r_getR (k := 0) (j := 1) (q := 3) (by decide) rfl clk_10 (by decide) (qm_2 (i := 86) rfl rfl) rfl d_Cs_post_42 (?_ : WM _ 45 _ _ _ _)
        refine r_getR (k := 3) (j := 2) (q := 6) (by decide) rfl clk_3 (by decide) (qm_1 (i := 86) rfl rfl) rfl d_Cs_post_45 (?_ : WM _ 48 _ _ _ _)
        refine r_iload_n d_Cs_post_48 rfl (?_ : WM _ 49 _ _ _ _)
        refine r_iload_n d_Cs_post_49 rfl (?_ : WM _ 50 _ _ _ _)
        refine r_iast (k := 6) (n := 48) (by decide) rfl d_Cs_post_50 h8 h9 (?_ : WM _ 51 _ _ _ _)
        refine r_aload_n d_Cs_post_51 rfl (?_ : WM _ 52 _ _ _ _)
        refine r_getR (k := 0) (j := 1) (q := 3) (by decide) rfl clk_10 (by decide) (qm_2 (i := 86) rfl rfl) rfl d_Cs_post_52 (?_ : WM _ 55 _ _ _ _)
        refine r_getR (k := 3) (j := 3) (q := 7) (by decide) rfl clk_3 (by decide) (qm_1 (i := 89) rfl rfl) rfl d_Cs_post_55 (?_ : WM _ 58 _ _ _ _)
        refine r_iload_n d_Cs_post_58 rfl (?_ : WM _ 59 _ _ _ _)
        refine r_iconst d_Cs_post_59 (by decide) (?_ : WM _ 60 _ _ _ _)
        refine r_iast (k := 7) (n := 48) (by decide) rfl d_Cs_post_60 h8 h9 (?_ : WM _ 61 _ _ _ _)
        refine r_aload_n d_Cs_post_61 rfl (?_ : WM _ 62 _ _ _ _)
        refine r_getR (k := 0) (j := 4) (q := 16) (by decide) rfl clk_10 (by decide) (qm_2 (i := 89) rfl rfl) rfl d_Cs_post_62 (?_ : WM _ 65 _ _ _ _)
        refine r_aload_n d_Cs_post_65 rfl (?_ : WM _ 66 _ _ _ _)
        refine r_getR (k := 0) (j := 4) (q := 16) (by decide) rfl clk_10 (by decide) (qm_2 (i := 89) rfl rfl) rfl d_Cs_post_66 (?_ : WM _ 69 _ _ _ _)
        refine r_getI (k := 16) (j := 0) 0 (by decide) rfl clk_2 (by decide) (qm_1 (i := 158) rfl rfl) rfl rfl d_Cs_post_69 (y := (σ4 16 0)) ((ups_c (by decide)).trans (ups_c (by decide))) (?_ : WM _ 72 _ _ _ _)
        refine r_callV (ν := M_La_lay) (k := 16) [vI (σ4 16 0)] ok_M_La_lay okv_M_La_lay (by decide) rfl rfl rfl (qm_5 (i := 103) rfl rfl) np_M_La_lay rfl (by decide) (Nat.le_of_ble_eq_true rfl) rfl d_Cs_post_72 (CV.k h (fun σ10 h => (?_ : WM _ 75 _ _ _ _)))
        refine r_iload_n d_Cs_post_75 rfl (?_ : WM _ 76 _ _ _ _)
        exact r_ireturn rfl d_Cs_post_76 h
      · replace h := h.2 c7
        refine r_ldc (-10000000) d_Cs_post_28 (qm_5 (i := 169) rfl rfl) (by decide) (by decide) (?_ : WM _ 30 _ _ _ _)
        exact r_ireturn rfl d_Cs_post_30 h
set_option maxRecDepth 20000 in
theorem e_Cs_audit {K : Int → St → Prop} {σ : St} (x1 : Int) (x2 : Int) (h : CI M_Le_holds [vR 3, vI x1] σ (fun v2 σ1 => (¬ v2 = 0 → CI M_Le_mayBeWorth [vR 3, vI x1, vI x2] σ1 (fun v5 σ4 => (¬ v5 = 0 → CI M_Le_coinsOf [vR 3, vI x1] σ4 (fun v8 σ7 => (¬ v8 = 0 → (0 ≤ x1) ∧ (x1 < 48) ∧ K (σ7 7 x1) (ups σ7 7 x1 x2)) ∧ (v8 = 0 → K (-5) σ7))) ∧ (v5 = 0 → K (-3) σ4))) ∧ (v2 = 0 → K (-2) σ1))) : CI M_Cs_audit [vR 0, vI x1, vI x2] σ K := by
  refine Con.of ok_M_Cs_audit (ls := [(0, vR 0), (1, vI x1), (2, vI x2)]) rfl (Nat.le_of_ble_eq_true rfl) ?_
  refine r_aload_n d_Cs_audit_0 rfl (?_ : WM _ 1 _ _ _ _)
  refine r_getR (k := 0) (j := 1) (q := 3) (by decide) rfl clk_10 (by decide) (qm_2 (i := 86) rfl rfl) rfl d_Cs_audit_1 (?_ : WM _ 4 _ _ _ _)
  refine r_iload_n d_Cs_audit_4 rfl (?_ : WM _ 5 _ _ _ _)
  refine r_callV (ν := M_Le_holds) (k := 3) [vI x1] ok_M_Le_holds okv_M_Le_holds (by decide) rfl rfl rfl (qm_5 (i := 168) rfl rfl) np_M_Le_holds rfl (by decide) (Nat.le_of_ble_eq_true rfl) rfl d_Cs_audit_5 (CI.k h (fun v2 σ1 h => (?_ : WM _ 8 _ _ _ _)))
  refine r_if_ne 14 d_Cs_audit_8 rfl ⟨fun c3 => (?_ : WM _ 14 _ _ _ _), fun c3 => (?_ : WM _ 11 _ _ _ _)⟩
  · replace h := h.1 c3
    refine r_aload_n d_Cs_audit_14 rfl (?_ : WM _ 15 _ _ _ _)
    refine r_getR (k := 0) (j := 1) (q := 3) (by decide) rfl clk_10 (by decide) (qm_2 (i := 86) rfl rfl) rfl d_Cs_audit_15 (?_ : WM _ 18 _ _ _ _)
    refine r_iload_n d_Cs_audit_18 rfl (?_ : WM _ 19 _ _ _ _)
    refine r_iload_n d_Cs_audit_19 rfl (?_ : WM _ 20 _ _ _ _)
    refine r_callV (ν := M_Le_mayBeWorth) (k := 3) [vI x1, vI x2] ok_M_Le_mayBeWorth okv_M_Le_mayBeWorth (by decide) rfl rfl rfl (qm_5 (i := 174) rfl rfl) np_M_Le_mayBeWorth rfl (by decide) (Nat.le_of_ble_eq_true rfl) rfl d_Cs_audit_20 (CI.k h (fun v5 σ4 h => (?_ : WM _ 23 _ _ _ _)))
    refine r_if_ne 29 d_Cs_audit_23 rfl ⟨fun c6 => (?_ : WM _ 29 _ _ _ _), fun c6 => (?_ : WM _ 26 _ _ _ _)⟩
    · replace h := h.1 c6
      refine r_aload_n d_Cs_audit_29 rfl (?_ : WM _ 30 _ _ _ _)
      refine r_getR (k := 0) (j := 1) (q := 3) (by decide) rfl clk_10 (by decide) (qm_2 (i := 86) rfl rfl) rfl d_Cs_audit_30 (?_ : WM _ 33 _ _ _ _)
      refine r_iload_n d_Cs_audit_33 rfl (?_ : WM _ 34 _ _ _ _)
      refine r_callV (ν := M_Le_coinsOf) (k := 3) [vI x1] ok_M_Le_coinsOf okv_M_Le_coinsOf (by decide) rfl rfl rfl (qm_5 (i := 175) rfl rfl) np_M_Le_coinsOf rfl (by decide) (Nat.le_of_ble_eq_true rfl) rfl d_Cs_audit_34 (CI.k h (fun v8 σ7 h => (?_ : WM _ 37 _ _ _ _)))
      refine r_if_ne 43 d_Cs_audit_37 rfl ⟨fun c9 => (?_ : WM _ 43 _ _ _ _), fun c9 => (?_ : WM _ 40 _ _ _ _)⟩
      · replace h := h.1 c9
        refine r_aload_n d_Cs_audit_43 rfl (?_ : WM _ 44 _ _ _ _)
        refine r_getR (k := 0) (j := 1) (q := 3) (by decide) rfl clk_10 (by decide) (qm_2 (i := 86) rfl rfl) rfl d_Cs_audit_44 (?_ : WM _ 47 _ _ _ _)
        refine r_getR (k := 3) (j := 3) (q := 7) (by decide) rfl clk_3 (by decide) (qm_1 (i := 89) rfl rfl) rfl d_Cs_audit_47 (?_ : WM _ 50 _ _ _ _)
        refine r_iload_n d_Cs_audit_50 rfl (?_ : WM _ 51 _ _ _ _)
        obtain ⟨h10, h⟩ := h
        obtain ⟨h11, h⟩ := h
        refine r_iald (k := 7) (n := 48) (by decide) rfl d_Cs_audit_51 h10 h11 (y := (σ7 7 x1)) rfl (?_ : WM _ 52 _ _ _ _)
        refine r_istore_n (ls' := [(3, vI (σ7 7 x1)), (0, vR 0), (1, vI x1), (2, vI x2)]) d_Cs_audit_52 rfl (by decide) rfl (?_ : WM _ 53 _ _ _ _)
        refine r_aload_n d_Cs_audit_53 rfl (?_ : WM _ 54 _ _ _ _)
        refine r_getR (k := 0) (j := 1) (q := 3) (by decide) rfl clk_10 (by decide) (qm_2 (i := 86) rfl rfl) rfl d_Cs_audit_54 (?_ : WM _ 57 _ _ _ _)
        refine r_getR (k := 3) (j := 3) (q := 7) (by decide) rfl clk_3 (by decide) (qm_1 (i := 89) rfl rfl) rfl d_Cs_audit_57 (?_ : WM _ 60 _ _ _ _)
        refine r_iload_n d_Cs_audit_60 rfl (?_ : WM _ 61 _ _ _ _)
        refine r_iload_n d_Cs_audit_61 rfl (?_ : WM _ 62 _ _ _ _)
        refine r_iast (k := 7) (n := 48) (by decide) rfl d_Cs_audit_62 h10 h11 (?_ : WM _ 63 _ _ _ _)
        refine r_iload_n d_Cs_audit_63 rfl (?_ : WM _ 64 _ _ _ _)
        exact r_ireturn rfl d_Cs_audit_64 h
      · replace h := h.2 c9
        refine r_bipush d_Cs_audit_40 (by decide) (by decide) (?_ : WM _ 42 _ _ _ _)
        exact r_ireturn rfl d_Cs_audit_42 h
    · replace h := h.2 c6
      refine r_bipush d_Cs_audit_26 (by decide) (by decide) (?_ : WM _ 28 _ _ _ _)
      exact r_ireturn rfl d_Cs_audit_28 h
  · replace h := h.2 c3
    refine r_bipush d_Cs_audit_11 (by decide) (by decide) (?_ : WM _ 13 _ _ _ _)
    exact r_ireturn rfl d_Cs_audit_13 h
set_option maxRecDepth 20000 in
theorem e_Cs_forget {K : Int → St → Prop} {σ : St} (x1 : Int) (h : CI M_Le_holds [vR 3, vI x1] σ (fun v2 σ1 => (¬ v2 = 0 → (0 ≤ x1) ∧ (x1 < 48) ∧ K (σ1 7 x1) (ups σ1 7 x1 (-1))) ∧ (v2 = 0 → K (-2) σ1))) : CI M_Cs_forget [vR 0, vI x1] σ K := by
  refine Con.of ok_M_Cs_forget (ls := [(0, vR 0), (1, vI x1)]) rfl (Nat.le_of_ble_eq_true rfl) ?_
  refine r_aload_n d_Cs_forget_0 rfl (?_ : WM _ 1 _ _ _ _)
  refine r_getR (k := 0) (j := 1) (q := 3) (by decide) rfl clk_10 (by decide) (qm_2 (i := 86) rfl rfl) rfl d_Cs_forget_1 (?_ : WM _ 4 _ _ _ _)
  refine r_iload_n d_Cs_forget_4 rfl (?_ : WM _ 5 _ _ _ _)
  refine r_callV (ν := M_Le_holds) (k := 3) [vI x1] ok_M_Le_holds okv_M_Le_holds (by decide) rfl rfl rfl (qm_5 (i := 168) rfl rfl) np_M_Le_holds rfl (by decide) (Nat.le_of_ble_eq_true rfl) rfl d_Cs_forget_5 (CI.k h (fun v2 σ1 h => (?_ : WM _ 8 _ _ _ _)))
  refine r_if_ne 14 d_Cs_forget_8 rfl ⟨fun c3 => (?_ : WM _ 14 _ _ _ _), fun c3 => (?_ : WM _ 11 _ _ _ _)⟩
  · replace h := h.1 c3
    refine r_aload_n d_Cs_forget_14 rfl (?_ : WM _ 15 _ _ _ _)
    refine r_getR (k := 0) (j := 1) (q := 3) (by decide) rfl clk_10 (by decide) (qm_2 (i := 86) rfl rfl) rfl d_Cs_forget_15 (?_ : WM _ 18 _ _ _ _)
    refine r_getR (k := 3) (j := 3) (q := 7) (by decide) rfl clk_3 (by decide) (qm_1 (i := 89) rfl rfl) rfl d_Cs_forget_18 (?_ : WM _ 21 _ _ _ _)
    refine r_iload_n d_Cs_forget_21 rfl (?_ : WM _ 22 _ _ _ _)
    obtain ⟨h4, h⟩ := h
    obtain ⟨h5, h⟩ := h
    refine r_iald (k := 7) (n := 48) (by decide) rfl d_Cs_forget_22 h4 h5 (y := (σ1 7 x1)) rfl (?_ : WM _ 23 _ _ _ _)
    refine r_istore_n (ls' := [(2, vI (σ1 7 x1)), (0, vR 0), (1, vI x1)]) d_Cs_forget_23 rfl (by decide) rfl (?_ : WM _ 24 _ _ _ _)
    refine r_aload_n d_Cs_forget_24 rfl (?_ : WM _ 25 _ _ _ _)
    refine r_getR (k := 0) (j := 1) (q := 3) (by decide) rfl clk_10 (by decide) (qm_2 (i := 86) rfl rfl) rfl d_Cs_forget_25 (?_ : WM _ 28 _ _ _ _)
    refine r_getR (k := 3) (j := 3) (q := 7) (by decide) rfl clk_3 (by decide) (qm_1 (i := 89) rfl rfl) rfl d_Cs_forget_28 (?_ : WM _ 31 _ _ _ _)
    refine r_iload_n d_Cs_forget_31 rfl (?_ : WM _ 32 _ _ _ _)
    refine r_iconst d_Cs_forget_32 (by decide) (?_ : WM _ 33 _ _ _ _)
    refine r_iast (k := 7) (n := 48) (by decide) rfl d_Cs_forget_33 h4 h5 (?_ : WM _ 34 _ _ _ _)
    refine r_iload_n d_Cs_forget_34 rfl (?_ : WM _ 35 _ _ _ _)
    exact r_ireturn rfl d_Cs_forget_35 h
  · replace h := h.2 c3
    refine r_bipush d_Cs_forget_11 (by decide) (by decide) (?_ : WM _ 13 _ _ _ _)
    exact r_ireturn rfl d_Cs_forget_13 h
set_option maxRecDepth 20000 in
theorem e_Cs_interval {K : Int → St → Prop} {σ : St} (x1 : Int) (h : (x1 < 1 → K (-3) σ) ∧ (¬ x1 < 1 → (x1 ≤ 99999 → ((σ 20 1) ≤ 0 → CV M_La_lay [vR 16, vI x1] σ (fun σ4 => K (σ4 16 2) σ4)) ∧ (¬ (σ 20 1) ≤ 0 → K (-5) σ)) ∧ (¬ x1 ≤ 99999 → K (-3) σ))) : CI M_Cs_interval [vR 0, vI x1] σ K := by
  refine Con.of ok_M_Cs_interval (ls := [(0, vR 0), (1, vI x1)]) rfl (Nat.le_of_ble_eq_true rfl) ?_
  refine r_iload_n d_Cs_interval_0 rfl (?_ : WM _ 1 _ _ _ _)
  refine r_iconst d_Cs_interval_1 (by decide) (?_ : WM _ 2 _ _ _ _)
  refine r_icmp_lt 11 d_Cs_interval_2 rfl ⟨fun c1 => (?_ : WM _ 11 _ _ _ _), fun c1 => (?_ : WM _ 5 _ _ _ _)⟩
  · replace h := h.1 c1
    refine r_bipush d_Cs_interval_11 (by decide) (by decide) (?_ : WM _ 13 _ _ _ _)
    exact r_ireturn rfl d_Cs_interval_13 h
  · replace h := h.2 c1
    refine r_iload_n d_Cs_interval_5 rfl (?_ : WM _ 6 _ _ _ _)
    refine r_ldc 99999 d_Cs_interval_6 (qm_5 (i := 158) rfl rfl) (by decide) (by decide) (?_ : WM _ 8 _ _ _ _)
    refine r_icmp_le 14 d_Cs_interval_8 rfl ⟨fun c2 => (?_ : WM _ 14 _ _ _ _), fun c2 => (?_ : WM _ 11 _ _ _ _)⟩
    · replace h := h.1 c2
      refine r_aload_n d_Cs_interval_14 rfl (?_ : WM _ 15 _ _ _ _)
      refine r_getR (k := 0) (j := 6) (q := 20) (by decide) rfl clk_10 (by decide) (qm_2 (i := 91) rfl rfl) rfl d_Cs_interval_15 (?_ : WM _ 18 _ _ _ _)
      refine r_getI (k := 20) (j := 1) 1 (by decide) rfl clk_9 (by decide) (qm_1 (i := 190) rfl rfl) rfl rfl d_Cs_interval_18 (y := (σ 20 1)) rfl (?_ : WM _ 21 _ _ _ _)
      refine r_if_le 27 d_Cs_interval_21 rfl ⟨fun c3 => (?_ : WM _ 27 _ _ _ _), fun c3 => (?_ : WM _ 24 _ _ _ _)⟩
      · replace h := h.1 c3
        refine r_aload_n d_Cs_interval_27 rfl (?_ : WM _ 28 _ _ _ _)
        refine r_getR (k := 0) (j := 4) (q := 16) (by decide) rfl clk_10 (by decide) (qm_2 (i := 89) rfl rfl) rfl d_Cs_interval_28 (?_ : WM _ 31 _ _ _ _)
        refine r_iload_n d_Cs_interval_31 rfl (?_ : WM _ 32 _ _ _ _)
        refine r_callV (ν := M_La_lay) (k := 16) [vI x1] ok_M_La_lay okv_M_La_lay (by decide) rfl rfl rfl (qm_5 (i := 103) rfl rfl) np_M_La_lay rfl (by decide) (Nat.le_of_ble_eq_true rfl) rfl d_Cs_interval_32 (CV.k h (fun σ4 h => (?_ : WM _ 35 _ _ _ _)))
        refine r_aload_n d_Cs_interval_35 rfl (?_ : WM _ 36 _ _ _ _)
        refine r_getR (k := 0) (j := 4) (q := 16) (by decide) rfl clk_10 (by decide) (qm_2 (i := 89) rfl rfl) rfl d_Cs_interval_36 (?_ : WM _ 39 _ _ _ _)
        refine r_getI (k := 16) (j := 2) 2 (by decide) rfl clk_2 (by decide) (qm_1 (i := 163) rfl rfl) rfl rfl d_Cs_interval_39 (y := (σ4 16 2)) rfl (?_ : WM _ 42 _ _ _ _)
        exact r_ireturn rfl d_Cs_interval_42 h
      · replace h := h.2 c3
        refine r_bipush d_Cs_interval_24 (by decide) (by decide) (?_ : WM _ 26 _ _ _ _)
        exact r_ireturn rfl d_Cs_interval_26 h
    · replace h := h.2 c2
      refine r_bipush d_Cs_interval_11 (by decide) (by decide) (?_ : WM _ 13 _ _ _ _)
      exact r_ireturn rfl d_Cs_interval_13 h
set_option maxRecDepth 20000 in
theorem e_Cs_plan {K : Int → St → Prop} {σ : St}  (h : CI M_Le_allCoins [vR 3] σ (fun v2 σ1 => CI M_Te_of [vR 14, vI 0] σ1 (fun v4 σ3 => CI M_Te_of [vR 14, vI 2] σ3 (fun v6 σ5 => CI M_Te_of [vR 14, vI 1] σ5 (fun v8 σ7 => CI M_Fa_leastN [vR 26, vI v2, vI v4, vI v6, vI v8] σ7 (fun v10 σ9 => (¬ v10 = (-1) → (v10 < 1 → K (-5) σ9) ∧ (¬ v10 < 1 → (v2 = 0 → K (-5) σ9) ∧ (¬ v2 = 0 → ((σ9 20 1) ≤ 0 → (0 ≤ v2) ∧ (0 < v10) ∧ CI M_Ma_max [vI 1, vI (v2 / v10)] σ9 (fun v18 σ17 => CV M_La_lay [vR 16, vI v18] σ17 (fun σ19 => K v10 σ19))) ∧ (¬ (σ9 20 1) ≤ 0 → K (-5) σ9)))) ∧ (v10 = (-1) → K (-4) σ9))))))) : CI M_Cs_plan [vR 0] σ K := by
  refine Con.of ok_M_Cs_plan (ls := [(0, vR 0)]) rfl (Nat.le_of_ble_eq_true rfl) ?_
  refine r_aload_n d_Cs_plan_0 rfl (?_ : WM _ 1 _ _ _ _)
  refine r_getR (k := 0) (j := 1) (q := 3) (by decide) rfl clk_10 (by decide) (qm_2 (i := 86) rfl rfl) rfl d_Cs_plan_1 (?_ : WM _ 4 _ _ _ _)
  refine r_callV (ν := M_Le_allCoins) (k := 3) [] ok_M_Le_allCoins okv_M_Le_allCoins (by decide) rfl rfl rfl (qm_5 (i := 211) rfl rfl) np_M_Le_allCoins rfl (by decide) (Nat.le_of_ble_eq_true rfl) rfl d_Cs_plan_4 (CI.k h (fun v2 σ1 h => (?_ : WM _ 7 _ _ _ _)))
  refine r_istore_n (ls' := [(1, vI v2), (0, vR 0)]) d_Cs_plan_7 rfl (by decide) rfl (?_ : WM _ 8 _ _ _ _)
  refine r_aload_n d_Cs_plan_8 rfl (?_ : WM _ 9 _ _ _ _)
  refine r_getR (k := 0) (j := 7) (q := 26) (by decide) rfl clk_10 (by decide) (qm_2 (i := 92) rfl rfl) rfl d_Cs_plan_9 (?_ : WM _ 12 _ _ _ _)
  refine r_iload_n d_Cs_plan_12 rfl (?_ : WM _ 13 _ _ _ _)
  refine r_aload_n d_Cs_plan_13 rfl (?_ : WM _ 14 _ _ _ _)
  refine r_getR (k := 0) (j := 3) (q := 14) (by decide) rfl clk_10 (by decide) (qm_2 (i := 88) rfl rfl) rfl d_Cs_plan_14 (?_ : WM _ 17 _ _ _ _)
  refine r_iconst d_Cs_plan_17 (by decide) (?_ : WM _ 18 _ _ _ _)
  refine r_callV (ν := M_Te_of) (k := 14) [vI 0] ok_M_Te_of okv_M_Te_of (by decide) rfl rfl rfl (qm_2 (i := 77) rfl rfl) np_M_Te_of rfl (by decide) (Nat.le_of_ble_eq_true rfl) rfl d_Cs_plan_18 (CI.k h (fun v4 σ3 h => (?_ : WM _ 21 _ _ _ _)))
  refine r_aload_n d_Cs_plan_21 rfl (?_ : WM _ 22 _ _ _ _)
  refine r_getR (k := 0) (j := 3) (q := 14) (by decide) rfl clk_10 (by decide) (qm_2 (i := 88) rfl rfl) rfl d_Cs_plan_22 (?_ : WM _ 25 _ _ _ _)
  refine r_iconst d_Cs_plan_25 (by decide) (?_ : WM _ 26 _ _ _ _)
  refine r_callV (ν := M_Te_of) (k := 14) [vI 2] ok_M_Te_of okv_M_Te_of (by decide) rfl rfl rfl (qm_2 (i := 77) rfl rfl) np_M_Te_of rfl (by decide) (Nat.le_of_ble_eq_true rfl) rfl d_Cs_plan_26 (CI.k h (fun v6 σ5 h => (?_ : WM _ 29 _ _ _ _)))
  refine r_aload_n d_Cs_plan_29 rfl (?_ : WM _ 30 _ _ _ _)
  refine r_getR (k := 0) (j := 3) (q := 14) (by decide) rfl clk_10 (by decide) (qm_2 (i := 88) rfl rfl) rfl d_Cs_plan_30 (?_ : WM _ 33 _ _ _ _)
  refine r_iconst d_Cs_plan_33 (by decide) (?_ : WM _ 34 _ _ _ _)
  refine r_callV (ν := M_Te_of) (k := 14) [vI 1] ok_M_Te_of okv_M_Te_of (by decide) rfl rfl rfl (qm_2 (i := 77) rfl rfl) np_M_Te_of rfl (by decide) (Nat.le_of_ble_eq_true rfl) rfl d_Cs_plan_34 (CI.k h (fun v8 σ7 h => (?_ : WM _ 37 _ _ _ _)))
  refine r_callV (ν := M_Fa_leastN) (k := 26) [vI v2, vI v4, vI v6, vI v8] ok_M_Fa_leastN okv_M_Fa_leastN (by decide) rfl rfl rfl (qm_5 (i := 216) rfl rfl) np_M_Fa_leastN rfl (by decide) (Nat.le_of_ble_eq_true rfl) rfl d_Cs_plan_37 (CI.k h (fun v10 σ9 h => (?_ : WM _ 40 _ _ _ _)))
  refine r_istore_n (ls' := [(2, vI v10), (1, vI v2), (0, vR 0)]) d_Cs_plan_40 rfl (by decide) rfl (?_ : WM _ 41 _ _ _ _)
  refine r_iload_n d_Cs_plan_41 rfl (?_ : WM _ 42 _ _ _ _)
  refine r_iconst d_Cs_plan_42 (by decide) (?_ : WM _ 43 _ _ _ _)
  refine r_icmp_ne 49 d_Cs_plan_43 rfl ⟨fun c11 => (?_ : WM _ 49 _ _ _ _), fun c11 => (?_ : WM _ 46 _ _ _ _)⟩
  · replace h := h.1 c11
    refine r_iload_n d_Cs_plan_49 rfl (?_ : WM _ 50 _ _ _ _)
    refine r_iconst d_Cs_plan_50 (by decide) (?_ : WM _ 51 _ _ _ _)
    refine r_icmp_lt 68 d_Cs_plan_51 rfl ⟨fun c12 => (?_ : WM _ 68 _ _ _ _), fun c12 => (?_ : WM _ 54 _ _ _ _)⟩
    · replace h := h.1 c12
      refine r_bipush d_Cs_plan_68 (by decide) (by decide) (?_ : WM _ 70 _ _ _ _)
      exact r_ireturn rfl d_Cs_plan_70 h
    · replace h := h.2 c12
      refine r_iload_n d_Cs_plan_54 rfl (?_ : WM _ 55 _ _ _ _)
      refine r_if_eq 68 d_Cs_plan_55 rfl ⟨fun c13 => (?_ : WM _ 68 _ _ _ _), fun c13 => (?_ : WM _ 58 _ _ _ _)⟩
      · replace h := h.1 c13
        refine r_bipush d_Cs_plan_68 (by decide) (by decide) (?_ : WM _ 70 _ _ _ _)
        exact r_ireturn rfl d_Cs_plan_70 h
      · replace h := h.2 c13
        refine r_aload_n d_Cs_plan_58 rfl (?_ : WM _ 59 _ _ _ _)
        refine r_getR (k := 0) (j := 6) (q := 20) (by decide) rfl clk_10 (by decide) (qm_2 (i := 91) rfl rfl) rfl d_Cs_plan_59 (?_ : WM _ 62 _ _ _ _)
        refine r_getI (k := 20) (j := 1) 1 (by decide) rfl clk_9 (by decide) (qm_1 (i := 190) rfl rfl) rfl rfl d_Cs_plan_62 (y := (σ9 20 1)) rfl (?_ : WM _ 65 _ _ _ _)
        refine r_if_le 71 d_Cs_plan_65 rfl ⟨fun c14 => (?_ : WM _ 71 _ _ _ _), fun c14 => (?_ : WM _ 68 _ _ _ _)⟩
        · replace h := h.1 c14
          refine r_aload_n d_Cs_plan_71 rfl (?_ : WM _ 72 _ _ _ _)
          refine r_getR (k := 0) (j := 4) (q := 16) (by decide) rfl clk_10 (by decide) (qm_2 (i := 89) rfl rfl) rfl d_Cs_plan_72 (?_ : WM _ 75 _ _ _ _)
          refine r_iconst d_Cs_plan_75 (by decide) (?_ : WM _ 76 _ _ _ _)
          refine r_iload_n d_Cs_plan_76 rfl (?_ : WM _ 77 _ _ _ _)
          refine r_iload_n d_Cs_plan_77 rfl (?_ : WM _ 78 _ _ _ _)
          obtain ⟨h15, h⟩ := h
          obtain ⟨h16, h⟩ := h
          refine r_idivn d_Cs_plan_78 h15 h16 (?_ : WM _ 79 _ _ _ _)
          refine r_callS (ν := M_Ma_max) [vI 1, vI (v2 / v10)] ok_M_Ma_max oks_M_Ma_max (qm_5 (i := 232) rfl rfl) np_M_Ma_max rfl (by decide) (Nat.le_of_ble_eq_true rfl) rfl d_Cs_plan_79 (CI.k h (fun v18 σ17 h => (?_ : WM _ 82 _ _ _ _)))
          refine r_callV (ν := M_La_lay) (k := 16) [vI v18] ok_M_La_lay okv_M_La_lay (by decide) rfl rfl rfl (qm_5 (i := 103) rfl rfl) np_M_La_lay rfl (by decide) (Nat.le_of_ble_eq_true rfl) rfl d_Cs_plan_82 (CV.k h (fun σ19 h => (?_ : WM _ 85 _ _ _ _)))
          refine r_iload_n d_Cs_plan_85 rfl (?_ : WM _ 86 _ _ _ _)
          exact r_ireturn rfl d_Cs_plan_86 h
        · replace h := h.2 c14
          refine r_bipush d_Cs_plan_68 (by decide) (by decide) (?_ : WM _ 70 _ _ _ _)
          exact r_ireturn rfl d_Cs_plan_70 h
  · replace h := h.2 c11
    refine r_bipush d_Cs_plan_46 (by decide) (by decide) (?_ : WM _ 48 _ _ _ _)
    exact r_ireturn rfl d_Cs_plan_48 h
set_option maxRecDepth 20000 in
theorem e_Cs_draw {K : Int → St → Prop} {σ : St}  (h : (¬ (σ 16 0) = 0 → (5 ≤ (σ 20 1) → K (-4) σ) ∧ (¬ 5 ≤ (σ 20 1) → ((σ 20 1) < (σ 16 0) → CI M_Wa_drawStart [vR 20] σ (fun v5 σ4 => CV M_Wa_follow [vR 20, vI v5] σ4 (fun σ6 => K v5 σ6))) ∧ (¬ (σ 20 1) < (σ 16 0) → K (-4) σ))) ∧ ((σ 16 0) = 0 → K (-5) σ)) : CI M_Cs_draw [vR 0] σ K := by
  refine Con.of ok_M_Cs_draw (ls := [(0, vR 0)]) rfl (Nat.le_of_ble_eq_true rfl) ?_
  refine r_aload_n d_Cs_draw_0 rfl (?_ : WM _ 1 _ _ _ _)
  refine r_getR (k := 0) (j := 4) (q := 16) (by decide) rfl clk_10 (by decide) (qm_2 (i := 89) rfl rfl) rfl d_Cs_draw_1 (?_ : WM _ 4 _ _ _ _)
  refine r_getI (k := 16) (j := 0) 0 (by decide) rfl clk_2 (by decide) (qm_1 (i := 158) rfl rfl) rfl rfl d_Cs_draw_4 (y := (σ 16 0)) rfl (?_ : WM _ 7 _ _ _ _)
  refine r_if_ne 13 d_Cs_draw_7 rfl ⟨fun c1 => (?_ : WM _ 13 _ _ _ _), fun c1 => (?_ : WM _ 10 _ _ _ _)⟩
  · replace h := h.1 c1
    refine r_aload_n d_Cs_draw_13 rfl (?_ : WM _ 14 _ _ _ _)
    refine r_getR (k := 0) (j := 6) (q := 20) (by decide) rfl clk_10 (by decide) (qm_2 (i := 91) rfl rfl) rfl d_Cs_draw_14 (?_ : WM _ 17 _ _ _ _)
    refine r_getI (k := 20) (j := 1) 1 (by decide) rfl clk_9 (by decide) (qm_1 (i := 190) rfl rfl) rfl rfl d_Cs_draw_17 (y := (σ 20 1)) rfl (?_ : WM _ 20 _ _ _ _)
    refine r_iconst d_Cs_draw_20 (by decide) (?_ : WM _ 21 _ _ _ _)
    refine r_icmp_ge 41 d_Cs_draw_21 rfl ⟨fun c2 => (?_ : WM _ 41 _ _ _ _), fun c2 => (?_ : WM _ 24 _ _ _ _)⟩
    · replace h := h.1 c2
      refine r_bipush d_Cs_draw_41 (by decide) (by decide) (?_ : WM _ 43 _ _ _ _)
      exact r_ireturn rfl d_Cs_draw_43 h
    · replace h := h.2 c2
      refine r_aload_n d_Cs_draw_24 rfl (?_ : WM _ 25 _ _ _ _)
      refine r_getR (k := 0) (j := 6) (q := 20) (by decide) rfl clk_10 (by decide) (qm_2 (i := 91) rfl rfl) rfl d_Cs_draw_25 (?_ : WM _ 28 _ _ _ _)
      refine r_getI (k := 20) (j := 1) 1 (by decide) rfl clk_9 (by decide) (qm_1 (i := 190) rfl rfl) rfl rfl d_Cs_draw_28 (y := (σ 20 1)) rfl (?_ : WM _ 31 _ _ _ _)
      refine r_aload_n d_Cs_draw_31 rfl (?_ : WM _ 32 _ _ _ _)
      refine r_getR (k := 0) (j := 4) (q := 16) (by decide) rfl clk_10 (by decide) (qm_2 (i := 89) rfl rfl) rfl d_Cs_draw_32 (?_ : WM _ 35 _ _ _ _)
      refine r_getI (k := 16) (j := 0) 0 (by decide) rfl clk_2 (by decide) (qm_1 (i := 158) rfl rfl) rfl rfl d_Cs_draw_35 (y := (σ 16 0)) rfl (?_ : WM _ 38 _ _ _ _)
      refine r_icmp_lt 44 d_Cs_draw_38 rfl ⟨fun c3 => (?_ : WM _ 44 _ _ _ _), fun c3 => (?_ : WM _ 41 _ _ _ _)⟩
      · replace h := h.1 c3
        refine r_aload_n d_Cs_draw_44 rfl (?_ : WM _ 45 _ _ _ _)
        refine r_getR (k := 0) (j := 6) (q := 20) (by decide) rfl clk_10 (by decide) (qm_2 (i := 91) rfl rfl) rfl d_Cs_draw_45 (?_ : WM _ 48 _ _ _ _)
        refine r_callV (ν := M_Wa_drawStart) (k := 20) [] ok_M_Wa_drawStart okv_M_Wa_drawStart (by decide) rfl rfl rfl (qm_6 (i := 73) rfl rfl) np_M_Wa_drawStart rfl (by decide) (Nat.le_of_ble_eq_true rfl) rfl d_Cs_draw_48 (CI.k h (fun v5 σ4 h => (?_ : WM _ 51 _ _ _ _)))
        refine r_istore_n (ls' := [(1, vI v5), (0, vR 0)]) d_Cs_draw_51 rfl (by decide) rfl (?_ : WM _ 52 _ _ _ _)
        refine r_aload_n d_Cs_draw_52 rfl (?_ : WM _ 53 _ _ _ _)
        refine r_getR (k := 0) (j := 6) (q := 20) (by decide) rfl clk_10 (by decide) (qm_2 (i := 91) rfl rfl) rfl d_Cs_draw_53 (?_ : WM _ 56 _ _ _ _)
        refine r_iload_n d_Cs_draw_56 rfl (?_ : WM _ 57 _ _ _ _)
        refine r_callV (ν := M_Wa_follow) (k := 20) [vI v5] ok_M_Wa_follow okv_M_Wa_follow (by decide) rfl rfl rfl (qm_6 (i := 88) rfl rfl) np_M_Wa_follow rfl (by decide) (Nat.le_of_ble_eq_true rfl) rfl d_Cs_draw_57 (CV.k h (fun σ6 h => (?_ : WM _ 60 _ _ _ _)))
        refine r_iload_n d_Cs_draw_60 rfl (?_ : WM _ 61 _ _ _ _)
        exact r_ireturn rfl d_Cs_draw_61 h
      · replace h := h.2 c3
        refine r_bipush d_Cs_draw_41 (by decide) (by decide) (?_ : WM _ 43 _ _ _ _)
        exact r_ireturn rfl d_Cs_draw_43 h
  · replace h := h.2 c1
    refine r_bipush d_Cs_draw_10 (by decide) (by decide) (?_ : WM _ 12 _ _ _ _)
    exact r_ireturn rfl d_Cs_draw_12 h
set_option maxRecDepth 20000 in
theorem e_Cs_clear {K : Int → St → Prop} {σ : St}  (h : CV M_Wa_forgetRuns [vR 20] σ (fun σ1 => K (σ 20 1) σ1)) : CI M_Cs_clear [vR 0] σ K := by
  refine Con.of ok_M_Cs_clear (ls := [(0, vR 0)]) rfl (Nat.le_of_ble_eq_true rfl) ?_
  refine r_aload_n d_Cs_clear_0 rfl (?_ : WM _ 1 _ _ _ _)
  refine r_getR (k := 0) (j := 6) (q := 20) (by decide) rfl clk_10 (by decide) (qm_2 (i := 91) rfl rfl) rfl d_Cs_clear_1 (?_ : WM _ 4 _ _ _ _)
  refine r_getI (k := 20) (j := 1) 1 (by decide) rfl clk_9 (by decide) (qm_1 (i := 190) rfl rfl) rfl rfl d_Cs_clear_4 (y := (σ 20 1)) rfl (?_ : WM _ 7 _ _ _ _)
  refine r_istore_n (ls' := [(1, vI (σ 20 1)), (0, vR 0)]) d_Cs_clear_7 rfl (by decide) rfl (?_ : WM _ 8 _ _ _ _)
  refine r_aload_n d_Cs_clear_8 rfl (?_ : WM _ 9 _ _ _ _)
  refine r_getR (k := 0) (j := 6) (q := 20) (by decide) rfl clk_10 (by decide) (qm_2 (i := 91) rfl rfl) rfl d_Cs_clear_9 (?_ : WM _ 12 _ _ _ _)
  refine r_callV (ν := M_Wa_forgetRuns) (k := 20) [] ok_M_Wa_forgetRuns okv_M_Wa_forgetRuns (by decide) rfl rfl rfl (qm_5 (i := 99) rfl rfl) np_M_Wa_forgetRuns rfl (by decide) (Nat.le_of_ble_eq_true rfl) rfl d_Cs_clear_12 (CV.k h (fun σ1 h => (?_ : WM _ 15 _ _ _ _)))
  refine r_iload_n d_Cs_clear_15 rfl (?_ : WM _ 16 _ _ _ _)
  exact r_ireturn rfl d_Cs_clear_16 h
set_option maxRecDepth 20000 in
theorem e_Cs_find {K : Int → St → Prop} {σ : St} (x1 : Int) (x2 : Int) (h : CI M_Le_indexOf [vR 3, vI x1, vI x2] σ (fun v2 σ1 => K v2 σ1)) : CI M_Cs_find [vR 0, vI x1, vI x2] σ K := by
  refine Con.of ok_M_Cs_find (ls := [(0, vR 0), (1, vI x1), (2, vI x2)]) rfl (Nat.le_of_ble_eq_true rfl) ?_
  refine r_aload_n d_Cs_find_0 rfl (?_ : WM _ 1 _ _ _ _)
  refine r_getR (k := 0) (j := 1) (q := 3) (by decide) rfl clk_10 (by decide) (qm_2 (i := 86) rfl rfl) rfl d_Cs_find_1 (?_ : WM _ 4 _ _ _ _)
  refine r_iload_n d_Cs_find_4 rfl (?_ : WM _ 5 _ _ _ _)
  refine r_iload_n d_Cs_find_5 rfl (?_ : WM _ 6 _ _ _ _)
  refine r_callV (ν := M_Le_indexOf) (k := 3) [vI x1, vI x2] ok_M_Le_indexOf okv_M_Le_indexOf (by decide) rfl rfl rfl (qm_5 (i := 160) rfl rfl) np_M_Le_indexOf rfl (by decide) (Nat.le_of_ble_eq_true rfl) rfl d_Cs_find_6 (CI.k h (fun v2 σ1 h => (?_ : WM _ 9 _ _ _ _)))
  exact r_ireturn rfl d_Cs_find_9 h
set_option maxRecDepth 20000 in
theorem e_Cs_item {K : Int → St → Prop} {σ : St} (x1 : Int) (x2 : Int) (h : CI M_Le_holds [vR 3, vI x1] σ (fun v2 σ1 => (¬ v2 = 0 → (x2 = 0 → (0 ≤ x1) ∧ (x1 < 48) ∧ K (σ1 4 x1) σ1) ∧ (x2 = 1 → (0 ≤ x1) ∧ (x1 < 48) ∧ K (σ1 5 x1) σ1) ∧ (x2 = 2 → (0 ≤ x1) ∧ (x1 < 48) ∧ K (σ1 6 x1) σ1) ∧ (x2 = 3 → (0 ≤ x1) ∧ (x1 < 48) ∧ K (σ1 7 x1) σ1) ∧ (x2 = 4 → CI M_Le_errorOf [vR 3, vI x1] σ1 (fun v13 σ12 => K v13 σ12)) ∧ (x2 = 5 → CI M_Le_taintOf [vR 3, vI x1] σ1 (fun v15 σ14 => K v15 σ14)) ∧ (x2 = 6 → CI M_La_isCertain [vR 16, vI x1] σ1 (fun v17 σ16 => (v17 = 0 → K 0 σ16) ∧ (¬ v17 = 0 → K 1 σ16))) ∧ (x2 = 7 → CI M_Wa_timesHit [vR 20, vI x1, vI (σ1 20 1)] σ1 (fun v20 σ19 => K v20 σ19)) ∧ (x2 = 8 → CI M_La_firstCoin [vR 16, vI x1] σ1 (fun v22 σ21 => K v22 σ21)) ∧ (x2 < 0 ∨ 8 < x2 → K (-10000000) σ1)) ∧ (v2 = 0 → K (-10000000) σ1))) : CI M_Cs_item [vR 0, vI x1, vI x2] σ K := by
  refine Con.of ok_M_Cs_item (ls := [(0, vR 0), (1, vI x1), (2, vI x2)]) rfl (Nat.le_of_ble_eq_true rfl) ?_
  refine r_aload_n d_Cs_item_0 rfl (?_ : WM _ 1 _ _ _ _)
  refine r_getR (k := 0) (j := 1) (q := 3) (by decide) rfl clk_10 (by decide) (qm_2 (i := 86) rfl rfl) rfl d_Cs_item_1 (?_ : WM _ 4 _ _ _ _)
  refine r_iload_n d_Cs_item_4 rfl (?_ : WM _ 5 _ _ _ _)
  refine r_callV (ν := M_Le_holds) (k := 3) [vI x1] ok_M_Le_holds okv_M_Le_holds (by decide) rfl rfl rfl (qm_5 (i := 168) rfl rfl) np_M_Le_holds rfl (by decide) (Nat.le_of_ble_eq_true rfl) rfl d_Cs_item_5 (CI.k h (fun v2 σ1 h => (?_ : WM _ 8 _ _ _ _)))
  refine r_if_ne 14 d_Cs_item_8 rfl ⟨fun c3 => (?_ : WM _ 14 _ _ _ _), fun c3 => (?_ : WM _ 11 _ _ _ _)⟩
  · replace h := h.1 c3
    refine r_iload_n d_Cs_item_14 rfl (?_ : WM _ 15 _ _ _ _)
    have hsw : (x2 = 0) ∨ (x2 = 1) ∨ (x2 = 2) ∨ (x2 = 3) ∨ (x2 = 4) ∨ (x2 = 5) ∨ (x2 = 6) ∨ (x2 = 7) ∨ (x2 = 8) ∨ (x2 < 0 ∨ 8 < x2) := by omega
    rcases hsw with hc | hc | hc | hc | hc | hc | hc | hc | hc | hc
    · replace h := h.1 hc
      refine r_tswIn 64 d_Cs_item_15 (by omega) (by omega) (by rw [hc]; rfl) rfl ?_
      refine r_aload_n d_Cs_item_64 rfl (?_ : WM _ 65 _ _ _ _)
      refine r_getR (k := 0) (j := 1) (q := 3) (by decide) rfl clk_10 (by decide) (qm_2 (i := 86) rfl rfl) rfl d_Cs_item_65 (?_ : WM _ 68 _ _ _ _)
      refine r_getR (k := 3) (j := 0) (q := 4) (by decide) rfl clk_3 (by decide) (qm_1 (i := 82) rfl rfl) rfl d_Cs_item_68 (?_ : WM _ 71 _ _ _ _)
      refine r_iload_n d_Cs_item_71 rfl (?_ : WM _ 72 _ _ _ _)
      obtain ⟨h4, h⟩ := h
      obtain ⟨h5, h⟩ := h
      refine r_iald (k := 4) (n := 48) (by decide) rfl d_Cs_item_72 h4 h5 (y := (σ1 4 x1)) rfl (?_ : WM _ 73 _ _ _ _)
      exact r_ireturn rfl d_Cs_item_73 h
    · replace h := h.2.1 hc
      refine r_tswIn 74 d_Cs_item_15 (by omega) (by omega) (by rw [hc]; rfl) rfl ?_
      refine r_aload_n d_Cs_item_74 rfl (?_ : WM _ 75 _ _ _ _)
      refine r_getR (k := 0) (j := 1) (q := 3) (by decide) rfl clk_10 (by decide) (qm_2 (i := 86) rfl rfl) rfl d_Cs_item_75 (?_ : WM _ 78 _ _ _ _)
      refine r_getR (k := 3) (j := 1) (q := 5) (by decide) rfl clk_3 (by decide) (qm_1 (i := 84) rfl rfl) rfl d_Cs_item_78 (?_ : WM _ 81 _ _ _ _)
      refine r_iload_n d_Cs_item_81 rfl (?_ : WM _ 82 _ _ _ _)
      obtain ⟨h6, h⟩ := h
      obtain ⟨h7, h⟩ := h
      refine r_iald (k := 5) (n := 48) (by decide) rfl d_Cs_item_82 h6 h7 (y := (σ1 5 x1)) rfl (?_ : WM _ 83 _ _ _ _)
      exact r_ireturn rfl d_Cs_item_83 h
    · replace h := h.2.2.1 hc
      refine r_tswIn 84 d_Cs_item_15 (by omega) (by omega) (by rw [hc]; rfl) rfl ?_
      refine r_aload_n d_Cs_item_84 rfl (?_ : WM _ 85 _ _ _ _)
      refine r_getR (k := 0) (j := 1) (q := 3) (by decide) rfl clk_10 (by decide) (qm_2 (i := 86) rfl rfl) rfl d_Cs_item_85 (?_ : WM _ 88 _ _ _ _)
      refine r_getR (k := 3) (j := 2) (q := 6) (by decide) rfl clk_3 (by decide) (qm_1 (i := 86) rfl rfl) rfl d_Cs_item_88 (?_ : WM _ 91 _ _ _ _)
      refine r_iload_n d_Cs_item_91 rfl (?_ : WM _ 92 _ _ _ _)
      obtain ⟨h8, h⟩ := h
      obtain ⟨h9, h⟩ := h
      refine r_iald (k := 6) (n := 48) (by decide) rfl d_Cs_item_92 h8 h9 (y := (σ1 6 x1)) rfl (?_ : WM _ 93 _ _ _ _)
      exact r_ireturn rfl d_Cs_item_93 h
    · replace h := h.2.2.2.1 hc
      refine r_tswIn 94 d_Cs_item_15 (by omega) (by omega) (by rw [hc]; rfl) rfl ?_
      refine r_aload_n d_Cs_item_94 rfl (?_ : WM _ 95 _ _ _ _)
      refine r_getR (k := 0) (j := 1) (q := 3) (by decide) rfl clk_10 (by decide) (qm_2 (i := 86) rfl rfl) rfl d_Cs_item_95 (?_ : WM _ 98 _ _ _ _)
      refine r_getR (k := 3) (j := 3) (q := 7) (by decide) rfl clk_3 (by decide) (qm_1 (i := 89) rfl rfl) rfl d_Cs_item_98 (?_ : WM _ 101 _ _ _ _)
      refine r_iload_n d_Cs_item_101 rfl (?_ : WM _ 102 _ _ _ _)
      obtain ⟨h10, h⟩ := h
      obtain ⟨h11, h⟩ := h
      refine r_iald (k := 7) (n := 48) (by decide) rfl d_Cs_item_102 h10 h11 (y := (σ1 7 x1)) rfl (?_ : WM _ 103 _ _ _ _)
      exact r_ireturn rfl d_Cs_item_103 h
    · replace h := h.2.2.2.2.1 hc
      refine r_tswIn 104 d_Cs_item_15 (by omega) (by omega) (by rw [hc]; rfl) rfl ?_
      refine r_aload_n d_Cs_item_104 rfl (?_ : WM _ 105 _ _ _ _)
      refine r_getR (k := 0) (j := 1) (q := 3) (by decide) rfl clk_10 (by decide) (qm_2 (i := 86) rfl rfl) rfl d_Cs_item_105 (?_ : WM _ 108 _ _ _ _)
      refine r_iload_n d_Cs_item_108 rfl (?_ : WM _ 109 _ _ _ _)
      refine r_callV (ν := M_Le_errorOf) (k := 3) [vI x1] ok_M_Le_errorOf okv_M_Le_errorOf (by decide) rfl rfl rfl (qm_6 (i := 217) rfl rfl) np_M_Le_errorOf rfl (by decide) (Nat.le_of_ble_eq_true rfl) rfl d_Cs_item_109 (CI.k h (fun v13 σ12 h => (?_ : WM _ 112 _ _ _ _)))
      exact r_ireturn rfl d_Cs_item_112 h
    · replace h := h.2.2.2.2.2.1 hc
      refine r_tswIn 113 d_Cs_item_15 (by omega) (by omega) (by rw [hc]; rfl) rfl ?_
      refine r_aload_n d_Cs_item_113 rfl (?_ : WM _ 114 _ _ _ _)
      refine r_getR (k := 0) (j := 1) (q := 3) (by decide) rfl clk_10 (by decide) (qm_2 (i := 86) rfl rfl) rfl d_Cs_item_114 (?_ : WM _ 117 _ _ _ _)
      refine r_iload_n d_Cs_item_117 rfl (?_ : WM _ 118 _ _ _ _)
      refine r_callV (ν := M_Le_taintOf) (k := 3) [vI x1] ok_M_Le_taintOf okv_M_Le_taintOf (by decide) rfl rfl rfl (qm_6 (i := 225) rfl rfl) np_M_Le_taintOf rfl (by decide) (Nat.le_of_ble_eq_true rfl) rfl d_Cs_item_118 (CI.k h (fun v15 σ14 h => (?_ : WM _ 121 _ _ _ _)))
      exact r_ireturn rfl d_Cs_item_121 h
    · replace h := h.2.2.2.2.2.2.1 hc
      refine r_tswIn 122 d_Cs_item_15 (by omega) (by omega) (by rw [hc]; rfl) rfl ?_
      refine r_aload_n d_Cs_item_122 rfl (?_ : WM _ 123 _ _ _ _)
      refine r_getR (k := 0) (j := 4) (q := 16) (by decide) rfl clk_10 (by decide) (qm_2 (i := 89) rfl rfl) rfl d_Cs_item_123 (?_ : WM _ 126 _ _ _ _)
      refine r_iload_n d_Cs_item_126 rfl (?_ : WM _ 127 _ _ _ _)
      refine r_callV (ν := M_La_isCertain) (k := 16) [vI x1] ok_M_La_isCertain okv_M_La_isCertain (by decide) rfl rfl rfl (qm_6 (i := 231) rfl rfl) np_M_La_isCertain rfl (by decide) (Nat.le_of_ble_eq_true rfl) rfl d_Cs_item_127 (CI.k h (fun v17 σ16 h => (?_ : WM _ 130 _ _ _ _)))
      refine r_if_eq 137 d_Cs_item_130 rfl ⟨fun c18 => (?_ : WM _ 137 _ _ _ _), fun c18 => (?_ : WM _ 133 _ _ _ _)⟩
      · replace h := h.1 c18
        refine r_iconst d_Cs_item_137 (by decide) (?_ : WM _ 138 _ _ _ _)
        exact r_ireturn rfl d_Cs_item_138 h
      · replace h := h.2 c18
        refine r_iconst d_Cs_item_133 (by decide) (?_ : WM _ 134 _ _ _ _)
        refine r_goto 138 d_Cs_item_134 rfl ?_
        exact r_ireturn rfl d_Cs_item_138 h
    · replace h := h.2.2.2.2.2.2.2.1 hc
      refine r_tswIn 139 d_Cs_item_15 (by omega) (by omega) (by rw [hc]; rfl) rfl ?_
      refine r_aload_n d_Cs_item_139 rfl (?_ : WM _ 140 _ _ _ _)
      refine r_getR (k := 0) (j := 6) (q := 20) (by decide) rfl clk_10 (by decide) (qm_2 (i := 91) rfl rfl) rfl d_Cs_item_140 (?_ : WM _ 143 _ _ _ _)
      refine r_iload_n d_Cs_item_143 rfl (?_ : WM _ 144 _ _ _ _)
      refine r_aload_n d_Cs_item_144 rfl (?_ : WM _ 145 _ _ _ _)
      refine r_getR (k := 0) (j := 6) (q := 20) (by decide) rfl clk_10 (by decide) (qm_2 (i := 91) rfl rfl) rfl d_Cs_item_145 (?_ : WM _ 148 _ _ _ _)
      refine r_getI (k := 20) (j := 1) 1 (by decide) rfl clk_9 (by decide) (qm_1 (i := 190) rfl rfl) rfl rfl d_Cs_item_148 (y := (σ1 20 1)) rfl (?_ : WM _ 151 _ _ _ _)
      refine r_callV (ν := M_Wa_timesHit) (k := 20) [vI x1, vI (σ1 20 1)] ok_M_Wa_timesHit okv_M_Wa_timesHit (by decide) rfl rfl rfl (qm_6 (i := 232) rfl rfl) np_M_Wa_timesHit rfl (by decide) (Nat.le_of_ble_eq_true rfl) rfl d_Cs_item_151 (CI.k h (fun v20 σ19 h => (?_ : WM _ 154 _ _ _ _)))
      exact r_ireturn rfl d_Cs_item_154 h
    · replace h := h.2.2.2.2.2.2.2.2.1 hc
      refine r_tswIn 155 d_Cs_item_15 (by omega) (by omega) (by rw [hc]; rfl) rfl ?_
      refine r_aload_n d_Cs_item_155 rfl (?_ : WM _ 156 _ _ _ _)
      refine r_getR (k := 0) (j := 4) (q := 16) (by decide) rfl clk_10 (by decide) (qm_2 (i := 89) rfl rfl) rfl d_Cs_item_156 (?_ : WM _ 159 _ _ _ _)
      refine r_iload_n d_Cs_item_159 rfl (?_ : WM _ 160 _ _ _ _)
      refine r_callV (ν := M_La_firstCoin) (k := 16) [vI x1] ok_M_La_firstCoin okv_M_La_firstCoin (by decide) rfl rfl rfl (qm_7 (i := 12) rfl rfl) np_M_La_firstCoin rfl (by decide) (Nat.le_of_ble_eq_true rfl) rfl d_Cs_item_160 (CI.k h (fun v22 σ21 h => (?_ : WM _ 163 _ _ _ _)))
      exact r_ireturn rfl d_Cs_item_163 h
    · replace h := h.2.2.2.2.2.2.2.2.2 hc
      refine r_tswOut 164 d_Cs_item_15 hc rfl ?_
      refine r_ldc (-10000000) d_Cs_item_164 (qm_5 (i := 169) rfl rfl) (by decide) (by decide) (?_ : WM _ 166 _ _ _ _)
      exact r_ireturn rfl d_Cs_item_166 h
  · replace h := h.2 c3
    refine r_ldc (-10000000) d_Cs_item_11 (qm_5 (i := 169) rfl rfl) (by decide) (by decide) (?_ : WM _ 13 _ _ _ _)
    exact r_ireturn rfl d_Cs_item_13 h
set_option maxRecDepth 20000 in
theorem e_Cs_coin {K : Int → St → Prop} {σ : St} (x1 : Int) (x2 : Int) (h : CI M_La_ownerOf [vR 16, vI x1] σ (fun v2 σ1 => (v2 = (-1) → K (-2) σ1) ∧ (¬ v2 = (-1) → (x2 < 0 → K (-2) σ1) ∧ (¬ x2 < 0 → (x2 ≤ 2 → (¬ (σ1 16 0) = 0 → (x2 = 0 → K v2 σ1) ∧ (x2 = 1 → (inR (x1 - 1)) ∧ (0 ≤ (x1 - 1)) ∧ (0 < (σ1 16 0)) ∧ K ((x1 - 1) / (σ1 16 0)) σ1) ∧ (¬ x2 = 0 ∧ ¬ x2 = 1 → CI M_Wa_timesCoinHit [vR 20, vI x1] σ1 (fun v11 σ10 => K v11 σ10))) ∧ ((σ1 16 0) = 0 → K (-5) σ1)) ∧ (¬ x2 ≤ 2 → K (-2) σ1))))) : CI M_Cs_coin [vR 0, vI x1, vI x2] σ K := by
  refine Con.of ok_M_Cs_coin (ls := [(0, vR 0), (1, vI x1), (2, vI x2)]) rfl (Nat.le_of_ble_eq_true rfl) ?_
  refine r_aload_n d_Cs_coin_0 rfl (?_ : WM _ 1 _ _ _ _)
  refine r_getR (k := 0) (j := 4) (q := 16) (by decide) rfl clk_10 (by decide) (qm_2 (i := 89) rfl rfl) rfl d_Cs_coin_1 (?_ : WM _ 4 _ _ _ _)
  refine r_iload_n d_Cs_coin_4 rfl (?_ : WM _ 5 _ _ _ _)
  refine r_callV (ν := M_La_ownerOf) (k := 16) [vI x1] ok_M_La_ownerOf okv_M_La_ownerOf (by decide) rfl rfl rfl (qm_9 (i := 174) rfl rfl) np_M_La_ownerOf rfl (by decide) (Nat.le_of_ble_eq_true rfl) rfl d_Cs_coin_5 (CI.k h (fun v2 σ1 h => (?_ : WM _ 8 _ _ _ _)))
  refine r_istore_n (ls' := [(3, vI v2), (0, vR 0), (1, vI x1), (2, vI x2)]) d_Cs_coin_8 rfl (by decide) rfl (?_ : WM _ 9 _ _ _ _)
  refine r_iload_n d_Cs_coin_9 rfl (?_ : WM _ 10 _ _ _ _)
  refine r_iconst d_Cs_coin_10 (by decide) (?_ : WM _ 11 _ _ _ _)
  refine r_icmp_eq 23 d_Cs_coin_11 rfl ⟨fun c3 => (?_ : WM _ 23 _ _ _ _), fun c3 => (?_ : WM _ 14 _ _ _ _)⟩
  · replace h := h.1 c3
    refine r_bipush d_Cs_coin_23 (by decide) (by decide) (?_ : WM _ 25 _ _ _ _)
    exact r_ireturn rfl d_Cs_coin_25 h
  · replace h := h.2 c3
    refine r_iload_n d_Cs_coin_14 rfl (?_ : WM _ 15 _ _ _ _)
    refine r_if_lt 23 d_Cs_coin_15 rfl ⟨fun c4 => (?_ : WM _ 23 _ _ _ _), fun c4 => (?_ : WM _ 18 _ _ _ _)⟩
    · replace h := h.1 c4
      refine r_bipush d_Cs_coin_23 (by decide) (by decide) (?_ : WM _ 25 _ _ _ _)
      exact r_ireturn rfl d_Cs_coin_25 h
    · replace h := h.2 c4
      refine r_iload_n d_Cs_coin_18 rfl (?_ : WM _ 19 _ _ _ _)
      refine r_iconst d_Cs_coin_19 (by decide) (?_ : WM _ 20 _ _ _ _)
      refine r_icmp_le 26 d_Cs_coin_20 rfl ⟨fun c5 => (?_ : WM _ 26 _ _ _ _), fun c5 => (?_ : WM _ 23 _ _ _ _)⟩
      · replace h := h.1 c5
        refine r_aload_n d_Cs_coin_26 rfl (?_ : WM _ 27 _ _ _ _)
        refine r_getR (k := 0) (j := 4) (q := 16) (by decide) rfl clk_10 (by decide) (qm_2 (i := 89) rfl rfl) rfl d_Cs_coin_27 (?_ : WM _ 30 _ _ _ _)
        refine r_getI (k := 16) (j := 0) 0 (by decide) rfl clk_2 (by decide) (qm_1 (i := 158) rfl rfl) rfl rfl d_Cs_coin_30 (y := (σ1 16 0)) rfl (?_ : WM _ 33 _ _ _ _)
        refine r_if_ne 39 d_Cs_coin_33 rfl ⟨fun c6 => (?_ : WM _ 39 _ _ _ _), fun c6 => (?_ : WM _ 36 _ _ _ _)⟩
        · replace h := h.1 c6
          refine r_iload_n d_Cs_coin_39 rfl (?_ : WM _ 40 _ _ _ _)
          have hsw : (x2 = 0) ∨ (x2 = 1) ∨ (¬ x2 = 0 ∧ ¬ x2 = 1) := by omega
          rcases hsw with hc | hc | hc
          · replace h := h.1 hc
            refine r_lsw (off := 28) 68 d_Cs_coin_40 rfl (by rw [hc]; try rfl) rfl ?_
            refine r_iload_n d_Cs_coin_68 rfl (?_ : WM _ 69 _ _ _ _)
            exact r_ireturn rfl d_Cs_coin_69 h
          · replace h := h.2.1 hc
            refine r_lsw (off := 30) 70 d_Cs_coin_40 rfl (by rw [hc]; try rfl) rfl ?_
            refine r_iload_n d_Cs_coin_70 rfl (?_ : WM _ 71 _ _ _ _)
            refine r_iconst d_Cs_coin_71 (by decide) (?_ : WM _ 72 _ _ _ _)
            obtain ⟨h7, h⟩ := h
            refine r_isub d_Cs_coin_72 h7 (?_ : WM _ 73 _ _ _ _)
            refine r_aload_n d_Cs_coin_73 rfl (?_ : WM _ 74 _ _ _ _)
            refine r_getR (k := 0) (j := 4) (q := 16) (by decide) rfl clk_10 (by decide) (qm_2 (i := 89) rfl rfl) rfl d_Cs_coin_74 (?_ : WM _ 77 _ _ _ _)
            refine r_getI (k := 16) (j := 0) 0 (by decide) rfl clk_2 (by decide) (qm_1 (i := 158) rfl rfl) rfl rfl d_Cs_coin_77 (y := (σ1 16 0)) rfl (?_ : WM _ 80 _ _ _ _)
            obtain ⟨h8, h⟩ := h
            obtain ⟨h9, h⟩ := h
            refine r_idivn d_Cs_coin_80 h8 h9 (?_ : WM _ 81 _ _ _ _)
            exact r_ireturn rfl d_Cs_coin_81 h
          · replace h := h.2.2 hc
            refine r_lsw (off := 42) 82 d_Cs_coin_40 rfl (by simp [Op.lookupswitch.offset, (show ¬ (0 : Int) = x2 from fun z => hc.1 z.symm), (show ¬ (1 : Int) = x2 from fun z => hc.2 z.symm)]) rfl ?_
            refine r_aload_n d_Cs_coin_82 rfl (?_ : WM _ 83 _ _ _ _)
            refine r_getR (k := 0) (j := 6) (q := 20) (by decide) rfl clk_10 (by decide) (qm_2 (i := 91) rfl rfl) rfl d_Cs_coin_83 (?_ : WM _ 86 _ _ _ _)
            refine r_iload_n d_Cs_coin_86 rfl (?_ : WM _ 87 _ _ _ _)
            refine r_callV (ν := M_Wa_timesCoinHit) (k := 20) [vI x1] ok_M_Wa_timesCoinHit okv_M_Wa_timesCoinHit (by decide) rfl rfl rfl (qm_9 (i := 175) rfl rfl) np_M_Wa_timesCoinHit rfl (by decide) (Nat.le_of_ble_eq_true rfl) rfl d_Cs_coin_87 (CI.k h (fun v11 σ10 h => (?_ : WM _ 90 _ _ _ _)))
            exact r_ireturn rfl d_Cs_coin_90 h
        · replace h := h.2 c6
          refine r_bipush d_Cs_coin_36 (by decide) (by decide) (?_ : WM _ 38 _ _ _ _)
          exact r_ireturn rfl d_Cs_coin_38 h
      · replace h := h.2 c5
        refine r_bipush d_Cs_coin_23 (by decide) (by decide) (?_ : WM _ 25 _ _ _ _)
        exact r_ireturn rfl d_Cs_coin_25 h
set_option maxRecDepth 20000 in
theorem e_Cs_hit {K : Int → St → Prop} {σ : St} (x1 : Int) (x2 : Int) (h : CI M_Wa_hasHit [vR 20, vI x1] σ (fun v2 σ1 => (¬ v2 = 0 → (x2 = 0 → (0 ≤ x1) ∧ (x1 < 240) ∧ K (σ1 22 x1) σ1) ∧ (x2 = 1 → (0 ≤ x1) ∧ (x1 < 240) ∧ K (σ1 23 x1) σ1) ∧ (x2 = 2 → (0 ≤ x1) ∧ (x1 < 240) ∧ K (σ1 24 x1) σ1) ∧ (x2 = 3 → (0 ≤ x1) ∧ (x1 < 240) ∧ CI M_Le_taintOf [vR 3, vI (σ1 22 x1)] σ1 (fun v13 σ12 => (inR (v13 + 10000)) ∧ K (v13 + 10000) σ12)) ∧ (x2 < 0 ∨ 3 < x2 → K (-2) σ1)) ∧ (v2 = 0 → K (-2) σ1))) : CI M_Cs_hit [vR 0, vI x1, vI x2] σ K := by
  refine Con.of ok_M_Cs_hit (ls := [(0, vR 0), (1, vI x1), (2, vI x2)]) rfl (Nat.le_of_ble_eq_true rfl) ?_
  refine r_aload_n d_Cs_hit_0 rfl (?_ : WM _ 1 _ _ _ _)
  refine r_getR (k := 0) (j := 6) (q := 20) (by decide) rfl clk_10 (by decide) (qm_2 (i := 91) rfl rfl) rfl d_Cs_hit_1 (?_ : WM _ 4 _ _ _ _)
  refine r_iload_n d_Cs_hit_4 rfl (?_ : WM _ 5 _ _ _ _)
  refine r_callV (ν := M_Wa_hasHit) (k := 20) [vI x1] ok_M_Wa_hasHit okv_M_Wa_hasHit (by decide) rfl rfl rfl (qm_9 (i := 183) rfl rfl) np_M_Wa_hasHit rfl (by decide) (Nat.le_of_ble_eq_true rfl) rfl d_Cs_hit_5 (CI.k h (fun v2 σ1 h => (?_ : WM _ 8 _ _ _ _)))
  refine r_if_ne 14 d_Cs_hit_8 rfl ⟨fun c3 => (?_ : WM _ 14 _ _ _ _), fun c3 => (?_ : WM _ 11 _ _ _ _)⟩
  · replace h := h.1 c3
    refine r_iload_n d_Cs_hit_14 rfl (?_ : WM _ 15 _ _ _ _)
    have hsw : (x2 = 0) ∨ (x2 = 1) ∨ (x2 = 2) ∨ (x2 = 3) ∨ (x2 < 0 ∨ 3 < x2) := by omega
    rcases hsw with hc | hc | hc | hc | hc
    · replace h := h.1 hc
      refine r_tswIn 44 d_Cs_hit_15 (by omega) (by omega) (by rw [hc]; rfl) rfl ?_
      refine r_aload_n d_Cs_hit_44 rfl (?_ : WM _ 45 _ _ _ _)
      refine r_getR (k := 0) (j := 6) (q := 20) (by decide) rfl clk_10 (by decide) (qm_2 (i := 91) rfl rfl) rfl d_Cs_hit_45 (?_ : WM _ 48 _ _ _ _)
      refine r_getR (k := 20) (j := 3) (q := 22) (by decide) rfl clk_9 (by decide) (qm_1 (i := 195) rfl rfl) rfl d_Cs_hit_48 (?_ : WM _ 51 _ _ _ _)
      refine r_iload_n d_Cs_hit_51 rfl (?_ : WM _ 52 _ _ _ _)
      obtain ⟨h4, h⟩ := h
      obtain ⟨h5, h⟩ := h
      refine r_iald (k := 22) (n := 240) (by decide) rfl d_Cs_hit_52 h4 h5 (y := (σ1 22 x1)) rfl (?_ : WM _ 53 _ _ _ _)
      exact r_ireturn rfl d_Cs_hit_53 h
    · replace h := h.2.1 hc
      refine r_tswIn 54 d_Cs_hit_15 (by omega) (by omega) (by rw [hc]; rfl) rfl ?_
      refine r_aload_n d_Cs_hit_54 rfl (?_ : WM _ 55 _ _ _ _)
      refine r_getR (k := 0) (j := 6) (q := 20) (by decide) rfl clk_10 (by decide) (qm_2 (i := 91) rfl rfl) rfl d_Cs_hit_55 (?_ : WM _ 58 _ _ _ _)
      refine r_getR (k := 20) (j := 4) (q := 23) (by decide) rfl clk_9 (by decide) (qm_1 (i := 197) rfl rfl) rfl d_Cs_hit_58 (?_ : WM _ 61 _ _ _ _)
      refine r_iload_n d_Cs_hit_61 rfl (?_ : WM _ 62 _ _ _ _)
      obtain ⟨h6, h⟩ := h
      obtain ⟨h7, h⟩ := h
      refine r_iald (k := 23) (n := 240) (by decide) rfl d_Cs_hit_62 h6 h7 (y := (σ1 23 x1)) rfl (?_ : WM _ 63 _ _ _ _)
      exact r_ireturn rfl d_Cs_hit_63 h
    · replace h := h.2.2.1 hc
      refine r_tswIn 64 d_Cs_hit_15 (by omega) (by omega) (by rw [hc]; rfl) rfl ?_
      refine r_aload_n d_Cs_hit_64 rfl (?_ : WM _ 65 _ _ _ _)
      refine r_getR (k := 0) (j := 6) (q := 20) (by decide) rfl clk_10 (by decide) (qm_2 (i := 91) rfl rfl) rfl d_Cs_hit_65 (?_ : WM _ 68 _ _ _ _)
      refine r_getR (k := 20) (j := 5) (q := 24) (by decide) rfl clk_9 (by decide) (qm_1 (i := 199) rfl rfl) rfl d_Cs_hit_68 (?_ : WM _ 71 _ _ _ _)
      refine r_iload_n d_Cs_hit_71 rfl (?_ : WM _ 72 _ _ _ _)
      obtain ⟨h8, h⟩ := h
      obtain ⟨h9, h⟩ := h
      refine r_iald (k := 24) (n := 240) (by decide) rfl d_Cs_hit_72 h8 h9 (y := (σ1 24 x1)) rfl (?_ : WM _ 73 _ _ _ _)
      exact r_ireturn rfl d_Cs_hit_73 h
    · replace h := h.2.2.2.1 hc
      refine r_tswIn 74 d_Cs_hit_15 (by omega) (by omega) (by rw [hc]; rfl) rfl ?_
      refine r_aload_n d_Cs_hit_74 rfl (?_ : WM _ 75 _ _ _ _)
      refine r_getR (k := 0) (j := 1) (q := 3) (by decide) rfl clk_10 (by decide) (qm_2 (i := 86) rfl rfl) rfl d_Cs_hit_75 (?_ : WM _ 78 _ _ _ _)
      refine r_aload_n d_Cs_hit_78 rfl (?_ : WM _ 79 _ _ _ _)
      refine r_getR (k := 0) (j := 6) (q := 20) (by decide) rfl clk_10 (by decide) (qm_2 (i := 91) rfl rfl) rfl d_Cs_hit_79 (?_ : WM _ 82 _ _ _ _)
      refine r_getR (k := 20) (j := 3) (q := 22) (by decide) rfl clk_9 (by decide) (qm_1 (i := 195) rfl rfl) rfl d_Cs_hit_82 (?_ : WM _ 85 _ _ _ _)
      refine r_iload_n d_Cs_hit_85 rfl (?_ : WM _ 86 _ _ _ _)
      obtain ⟨h10, h⟩ := h
      obtain ⟨h11, h⟩ := h
      refine r_iald (k := 22) (n := 240) (by decide) rfl d_Cs_hit_86 h10 h11 (y := (σ1 22 x1)) rfl (?_ : WM _ 87 _ _ _ _)
      refine r_callV (ν := M_Le_taintOf) (k := 3) [vI (σ1 22 x1)] ok_M_Le_taintOf okv_M_Le_taintOf (by decide) rfl rfl rfl (qm_6 (i := 225) rfl rfl) np_M_Le_taintOf rfl (by decide) (Nat.le_of_ble_eq_true rfl) rfl d_Cs_hit_87 (CI.k h (fun v13 σ12 h => (?_ : WM _ 90 _ _ _ _)))
      refine r_sipush d_Cs_hit_90 (by decide) (by decide) (?_ : WM _ 93 _ _ _ _)
      obtain ⟨h14, h⟩ := h
      refine r_iadd d_Cs_hit_93 h14 (?_ : WM _ 94 _ _ _ _)
      exact r_ireturn rfl d_Cs_hit_94 h
    · replace h := h.2.2.2.2 hc
      refine r_tswOut 95 d_Cs_hit_15 hc rfl ?_
      refine r_bipush d_Cs_hit_95 (by decide) (by decide) (?_ : WM _ 97 _ _ _ _)
      exact r_ireturn rfl d_Cs_hit_97 h
  · replace h := h.2 c3
    refine r_bipush d_Cs_hit_11 (by decide) (by decide) (?_ : WM _ 13 _ _ _ _)
    exact r_ireturn rfl d_Cs_hit_13 h
set_option maxRecDepth 20000 in
theorem e_Cs_start {K : Int → St → Prop} {σ : St} (x1 : Int) (h : CI M_Wa_hasRun [vR 20, vI x1] σ (fun v2 σ1 => (v2 = 0 → K (-2) σ1) ∧ (¬ v2 = 0 → (0 ≤ x1) ∧ (x1 < 5) ∧ K (σ1 21 x1) σ1))) : CI M_Cs_start [vR 0, vI x1] σ K := by
  refine Con.of ok_M_Cs_start (ls := [(0, vR 0), (1, vI x1)]) rfl (Nat.le_of_ble_eq_true rfl) ?_
  refine r_aload_n d_Cs_start_0 rfl (?_ : WM _ 1 _ _ _ _)
  refine r_getR (k := 0) (j := 6) (q := 20) (by decide) rfl clk_10 (by decide) (qm_2 (i := 91) rfl rfl) rfl d_Cs_start_1 (?_ : WM _ 4 _ _ _ _)
  refine r_iload_n d_Cs_start_4 rfl (?_ : WM _ 5 _ _ _ _)
  refine r_callV (ν := M_Wa_hasRun) (k := 20) [vI x1] ok_M_Wa_hasRun okv_M_Wa_hasRun (by decide) rfl rfl rfl (qm_9 (i := 191) rfl rfl) np_M_Wa_hasRun rfl (by decide) (Nat.le_of_ble_eq_true rfl) rfl d_Cs_start_5 (CI.k h (fun v2 σ1 h => (?_ : WM _ 8 _ _ _ _)))
  refine r_if_eq 23 d_Cs_start_8 rfl ⟨fun c3 => (?_ : WM _ 23 _ _ _ _), fun c3 => (?_ : WM _ 11 _ _ _ _)⟩
  · replace h := h.1 c3
    refine r_bipush d_Cs_start_23 (by decide) (by decide) (?_ : WM _ 25 _ _ _ _)
    exact r_ireturn rfl d_Cs_start_25 h
  · replace h := h.2 c3
    refine r_aload_n d_Cs_start_11 rfl (?_ : WM _ 12 _ _ _ _)
    refine r_getR (k := 0) (j := 6) (q := 20) (by decide) rfl clk_10 (by decide) (qm_2 (i := 91) rfl rfl) rfl d_Cs_start_12 (?_ : WM _ 15 _ _ _ _)
    refine r_getR (k := 20) (j := 2) (q := 21) (by decide) rfl clk_9 (by decide) (qm_1 (i := 192) rfl rfl) rfl d_Cs_start_15 (?_ : WM _ 18 _ _ _ _)
    refine r_iload_n d_Cs_start_18 rfl (?_ : WM _ 19 _ _ _ _)
    obtain ⟨h4, h⟩ := h
    obtain ⟨h5, h⟩ := h
    refine r_iald (k := 21) (n := 5) (by decide) rfl d_Cs_start_19 h4 h5 (y := (σ1 21 x1)) rfl (?_ : WM _ 20 _ _ _ _)
    refine r_goto 25 d_Cs_start_20 rfl ?_
    exact r_ireturn rfl d_Cs_start_25 h
set_option maxRecDepth 20000 in
theorem e_Cs_certain {K : Int → St → Prop} {σ : St} (x1 : Int) (h : CI M_Cs_listed [vR 0, vI 0, vI x1] σ (fun v2 σ1 => K v2 σ1)) : CI M_Cs_certain [vR 0, vI x1] σ K := by
  refine Con.of ok_M_Cs_certain (ls := [(0, vR 0), (1, vI x1)]) rfl (Nat.le_of_ble_eq_true rfl) ?_
  refine r_aload_n d_Cs_certain_0 rfl (?_ : WM _ 1 _ _ _ _)
  refine r_iconst d_Cs_certain_1 (by decide) (?_ : WM _ 2 _ _ _ _)
  refine r_iload_n d_Cs_certain_2 rfl (?_ : WM _ 3 _ _ _ _)
  refine r_callV (ν := M_Cs_listed) (k := 0) [vI 0, vI x1] ok_M_Cs_listed okv_M_Cs_listed (by decide) rfl rfl rfl (qm_9 (i := 203) rfl rfl) np_M_Cs_listed rfl (by decide) (Nat.le_of_ble_eq_true rfl) rfl d_Cs_certain_3 (CI.k h (fun v2 σ1 h => (?_ : WM _ 6 _ _ _ _)))
  exact r_ireturn rfl d_Cs_certain_6 h
set_option maxRecDepth 20000 in
theorem e_Cs_lacking {K : Int → St → Prop} {σ : St} (x1 : Int) (h : CI M_Cs_listed [vR 0, vI 1, vI x1] σ (fun v2 σ1 => K v2 σ1)) : CI M_Cs_lacking [vR 0, vI x1] σ K := by
  refine Con.of ok_M_Cs_lacking (ls := [(0, vR 0), (1, vI x1)]) rfl (Nat.le_of_ble_eq_true rfl) ?_
  refine r_aload_n d_Cs_lacking_0 rfl (?_ : WM _ 1 _ _ _ _)
  refine r_iconst d_Cs_lacking_1 (by decide) (?_ : WM _ 2 _ _ _ _)
  refine r_iload_n d_Cs_lacking_2 rfl (?_ : WM _ 3 _ _ _ _)
  refine r_callV (ν := M_Cs_listed) (k := 0) [vI 1, vI x1] ok_M_Cs_listed okv_M_Cs_listed (by decide) rfl rfl rfl (qm_9 (i := 203) rfl rfl) np_M_Cs_listed rfl (by decide) (Nat.le_of_ble_eq_true rfl) rfl d_Cs_lacking_3 (CI.k h (fun v2 σ1 h => (?_ : WM _ 6 _ _ _ _)))
  exact r_ireturn rfl d_Cs_lacking_6 h
set_option maxRecDepth 20000 in
theorem e_Cs_account {K : Int → St → Prop} {σ : St} (x1 : Int) (x2 : Int) (h : (x1 < 0 → K (-10000000) σ) ∧ (¬ x1 < 0 → (99 < x1 → K (-10000000) σ) ∧ (¬ 99 < x1 → (x2 < 0 → K (-10000000) σ) ∧ (¬ x2 < 0 → (x2 ≤ 5 → (¬ x2 = 5 → WM M_Cs_account 39 [(0, vR 0), (1, vI x1), (2, vI x2), (3, vI 0), (4, vI 0)] [] σ (QI K)) ∧ (x2 = 5 → CV M_Es_supposeNothing [vR 28] σ (fun σ6 => WM M_Cs_account 39 [(0, vR 0), (1, vI x1), (2, vI x2), (3, vI 0), (4, vI 0)] [] σ6 (QI K)))) ∧ (¬ x2 ≤ 5 → K (-10000000) σ))))) : CI M_Cs_account [vR 0, vI x1, vI x2] σ K := by
  refine Con.of ok_M_Cs_account (ls := [(0, vR 0), (1, vI x1), (2, vI x2)]) rfl (Nat.le_of_ble_eq_true rfl) ?_
  refine r_iload_n d_Cs_account_0 rfl (?_ : WM _ 1 _ _ _ _)
  refine r_if_lt 19 d_Cs_account_1 rfl ⟨fun c1 => (?_ : WM _ 19 _ _ _ _), fun c1 => (?_ : WM _ 4 _ _ _ _)⟩
  · replace h := h.1 c1
    refine r_ldc (-10000000) d_Cs_account_19 (qm_5 (i := 169) rfl rfl) (by decide) (by decide) (?_ : WM _ 21 _ _ _ _)
    exact r_ireturn rfl d_Cs_account_21 h
  · replace h := h.2 c1
    refine r_iload_n d_Cs_account_4 rfl (?_ : WM _ 5 _ _ _ _)
    refine r_bipush d_Cs_account_5 (by decide) (by decide) (?_ : WM _ 7 _ _ _ _)
    refine r_icmp_gt 19 d_Cs_account_7 rfl ⟨fun c2 => (?_ : WM _ 19 _ _ _ _), fun c2 => (?_ : WM _ 10 _ _ _ _)⟩
    · replace h := h.1 c2
      refine r_ldc (-10000000) d_Cs_account_19 (qm_5 (i := 169) rfl rfl) (by decide) (by decide) (?_ : WM _ 21 _ _ _ _)
      exact r_ireturn rfl d_Cs_account_21 h
    · replace h := h.2 c2
      refine r_iload_n d_Cs_account_10 rfl (?_ : WM _ 11 _ _ _ _)
      refine r_if_lt 19 d_Cs_account_11 rfl ⟨fun c3 => (?_ : WM _ 19 _ _ _ _), fun c3 => (?_ : WM _ 14 _ _ _ _)⟩
      · replace h := h.1 c3
        refine r_ldc (-10000000) d_Cs_account_19 (qm_5 (i := 169) rfl rfl) (by decide) (by decide) (?_ : WM _ 21 _ _ _ _)
        exact r_ireturn rfl d_Cs_account_21 h
      · replace h := h.2 c3
        refine r_iload_n d_Cs_account_14 rfl (?_ : WM _ 15 _ _ _ _)
        refine r_iconst d_Cs_account_15 (by decide) (?_ : WM _ 16 _ _ _ _)
        refine r_icmp_le 22 d_Cs_account_16 rfl ⟨fun c4 => (?_ : WM _ 22 _ _ _ _), fun c4 => (?_ : WM _ 19 _ _ _ _)⟩
        · replace h := h.1 c4
          refine r_iload_n d_Cs_account_22 rfl (?_ : WM _ 23 _ _ _ _)
          refine r_iconst d_Cs_account_23 (by decide) (?_ : WM _ 24 _ _ _ _)
          refine r_icmp_ne 34 d_Cs_account_24 rfl ⟨fun c5 => (?_ : WM _ 34 _ _ _ _), fun c5 => (?_ : WM _ 27 _ _ _ _)⟩
          · replace h := h.1 c5
            refine r_iconst d_Cs_account_34 (by decide) (?_ : WM _ 35 _ _ _ _)
            refine r_istore_n (ls' := [(3, vI 0), (0, vR 0), (1, vI x1), (2, vI x2)]) d_Cs_account_35 rfl (by decide) rfl (?_ : WM _ 36 _ _ _ _)
            refine r_iconst d_Cs_account_36 (by decide) (?_ : WM _ 37 _ _ _ _)
            refine r_istore (ls' := [(4, vI 0), (3, vI 0), (0, vR 0), (1, vI x1), (2, vI x2)]) d_Cs_account_37 (by decide) rfl (?_ : WM _ 39 _ _ _ _)
            refine r_pick (ls' := [(0, vR 0), (1, vI x1), (2, vI x2), (3, vI 0), (4, vI 0)]) [2, 3, 4, 1, 0] rfl ?_
            exact h
          · replace h := h.2 c5
            refine r_aload_n d_Cs_account_27 rfl (?_ : WM _ 28 _ _ _ _)
            refine r_getR (k := 0) (j := 8) (q := 28) (by decide) rfl clk_10 (by decide) (qm_2 (i := 93) rfl rfl) rfl d_Cs_account_28 (?_ : WM _ 31 _ _ _ _)
            refine r_callV (ν := M_Es_supposeNothing) (k := 28) [] ok_M_Es_supposeNothing okv_M_Es_supposeNothing (by decide) rfl rfl rfl (qm_9 (i := 36) rfl rfl) np_M_Es_supposeNothing rfl (by decide) (Nat.le_of_ble_eq_true rfl) rfl d_Cs_account_31 (CV.k h (fun σ6 h => (?_ : WM _ 34 _ _ _ _)))
            refine r_iconst d_Cs_account_34 (by decide) (?_ : WM _ 35 _ _ _ _)
            refine r_istore_n (ls' := [(3, vI 0), (0, vR 0), (1, vI x1), (2, vI x2)]) d_Cs_account_35 rfl (by decide) rfl (?_ : WM _ 36 _ _ _ _)
            refine r_iconst d_Cs_account_36 (by decide) (?_ : WM _ 37 _ _ _ _)
            refine r_istore (ls' := [(4, vI 0), (3, vI 0), (0, vR 0), (1, vI x1), (2, vI x2)]) d_Cs_account_37 (by decide) rfl (?_ : WM _ 39 _ _ _ _)
            refine r_pick (ls' := [(0, vR 0), (1, vI x1), (2, vI x2), (3, vI 0), (4, vI 0)]) [2, 3, 4, 1, 0] rfl ?_
            exact h
        · replace h := h.2 c4
          refine r_ldc (-10000000) d_Cs_account_19 (qm_5 (i := 169) rfl rfl) (by decide) (by decide) (?_ : WM _ 21 _ _ _ _)
          exact r_ireturn rfl d_Cs_account_21 h
set_option maxRecDepth 20000 in
theorem l_Cs_account_1 {K : Int → St → Prop} {σ : St} (x1 : Int) (x2 : Int) (x3 : Int) (x4 : Int) (h : ((σ 3 4) ≤ x4 → K x3 σ) ∧ (¬ (σ 3 4) ≤ x4 → (0 ≤ x4) ∧ (x4 < 48) ∧ (¬ (σ 4 x4) = x1 → (inR (x4 + 1)) ∧ WM M_Cs_account 39 [(0, vR 0), (1, vI x1), (2, vI x2), (3, vI x3), (4, vI (x4 + 1))] [] σ (QI K)) ∧ ((σ 4 x4) = x1 → CI M_Cs_shareOf [vR 0, vI x4, vI x2] σ (fun v14 σ13 => (inR (x3 + v14)) ∧ (inR (x4 + 1)) ∧ WM M_Cs_account 39 [(0, vR 0), (1, vI x1), (2, vI x2), (3, vI (x3 + v14)), (4, vI (x4 + 1))] [] σ13 (QI K))))) : WM M_Cs_account 39 [(0, vR 0), (1, vI x1), (2, vI x2), (3, vI x3), (4, vI x4)] [] σ (QI K) := by
  refine r_iload d_Cs_account_39 rfl (?_ : WM _ 41 _ _ _ _)
  refine r_aload_n d_Cs_account_41 rfl (?_ : WM _ 42 _ _ _ _)
  refine r_getR (k := 0) (j := 1) (q := 3) (by decide) rfl clk_10 (by decide) (qm_2 (i := 86) rfl rfl) rfl d_Cs_account_42 (?_ : WM _ 45 _ _ _ _)
  refine r_getI (k := 3) (j := 4) 4 (by decide) rfl clk_3 (by decide) (qm_1 (i := 93) rfl rfl) rfl rfl d_Cs_account_45 (y := (σ 3 4)) rfl (?_ : WM _ 48 _ _ _ _)
  refine r_icmp_ge 81 d_Cs_account_48 rfl ⟨fun c8 => (?_ : WM _ 81 _ _ _ _), fun c8 => (?_ : WM _ 51 _ _ _ _)⟩
  · replace h := h.1 c8
    refine r_iload_n d_Cs_account_81 rfl (?_ : WM _ 82 _ _ _ _)
    exact r_ireturn rfl d_Cs_account_82 h
  · replace h := h.2 c8
    refine r_aload_n d_Cs_account_51 rfl (?_ : WM _ 52 _ _ _ _)
    refine r_getR (k := 0) (j := 1) (q := 3) (by decide) rfl clk_10 (by decide) (qm_2 (i := 86) rfl rfl) rfl d_Cs_account_52 (?_ : WM _ 55 _ _ _ _)
    refine r_getR (k := 3) (j := 0) (q := 4) (by decide) rfl clk_3 (by decide) (qm_1 (i := 82) rfl rfl) rfl d_Cs_account_55 (?_ : WM _ 58 _ _ _ _)
    refine r_iload d_Cs_account_58 rfl (?_ : WM _ 60 _ _ _ _)
    obtain ⟨h9, h⟩ := h
    obtain ⟨h10, h⟩ := h
    refine r_iald (k := 4) (n := 48) (by decide) rfl d_Cs_account_60 h9 h10 (y := (σ 4 x4)) rfl (?_ : WM _ 61 _ _ _ _)
    refine r_iload_n d_Cs_account_61 rfl (?_ : WM _ 62 _ _ _ _)
    refine r_icmp_ne 75 d_Cs_account_62 rfl ⟨fun c11 => (?_ : WM _ 75 _ _ _ _), fun c11 => (?_ : WM _ 65 _ _ _ _)⟩
    · replace h := h.1 c11
      obtain ⟨h12, h⟩ := h
      refine r_iinc (ls' := [(4, vI (x4 + 1)), (0, vR 0), (1, vI x1), (2, vI x2), (3, vI x3)]) d_Cs_account_75 rfl h12 (by decide) rfl (?_ : WM _ 78 _ _ _ _)
      refine r_goto 39 d_Cs_account_78 rfl ?_
      refine r_pick (ls' := [(0, vR 0), (1, vI x1), (2, vI x2), (3, vI x3), (4, vI (x4 + 1))]) [1, 2, 3, 4, 0] rfl ?_
      exact h
    · replace h := h.2 c11
      refine r_iload_n d_Cs_account_65 rfl (?_ : WM _ 66 _ _ _ _)
      refine r_aload_n d_Cs_account_66 rfl (?_ : WM _ 67 _ _ _ _)
      refine r_iload d_Cs_account_67 rfl (?_ : WM _ 69 _ _ _ _)
      refine r_iload_n d_Cs_account_69 rfl (?_ : WM _ 70 _ _ _ _)
      refine r_callV (ν := M_Cs_shareOf) (k := 0) [vI x4, vI x2] ok_M_Cs_shareOf okv_M_Cs_shareOf (by decide) rfl rfl rfl (qm_9 (i := 46) rfl rfl) np_M_Cs_shareOf rfl (by decide) (Nat.le_of_ble_eq_true rfl) rfl d_Cs_account_70 (CI.k h (fun v14 σ13 h => (?_ : WM _ 73 _ _ _ _)))
      obtain ⟨h15, h⟩ := h
      refine r_iadd d_Cs_account_73 h15 (?_ : WM _ 74 _ _ _ _)
      refine r_istore_n (ls' := [(3, vI (x3 + v14)), (0, vR 0), (1, vI x1), (2, vI x2), (4, vI x4)]) d_Cs_account_74 rfl (by decide) rfl (?_ : WM _ 75 _ _ _ _)
      obtain ⟨h16, h⟩ := h
      refine r_iinc (ls' := [(4, vI (x4 + 1)), (3, vI (x3 + v14)), (0, vR 0), (1, vI x1), (2, vI x2)]) d_Cs_account_75 rfl h16 (by decide) rfl (?_ : WM _ 78 _ _ _ _)
      refine r_goto 39 d_Cs_account_78 rfl ?_
      refine r_pick (ls' := [(0, vR 0), (1, vI x1), (2, vI x2), (3, vI (x3 + v14)), (4, vI (x4 + 1))]) [2, 3, 4, 1, 0] rfl ?_
      exact h
set_option maxRecDepth 20000 in
theorem e_Cs_accounts {K : Int → St → Prop} {σ : St} (x1 : Int) (h : ((-1) ≤ x1 → WM M_Cs_accounts 12 [(0, vR 0), (1, vI x1), (2, vI 0), (3, vI 0)] [] σ (QI K)) ∧ (¬ (-1) ≤ x1 → K (-3) σ)) : CI M_Cs_accounts [vR 0, vI x1] σ K := by
  refine Con.of ok_M_Cs_accounts (ls := [(0, vR 0), (1, vI x1)]) rfl (Nat.le_of_ble_eq_true rfl) ?_
  refine r_iload_n d_Cs_accounts_0 rfl (?_ : WM _ 1 _ _ _ _)
  refine r_iconst d_Cs_accounts_1 (by decide) (?_ : WM _ 2 _ _ _ _)
  refine r_icmp_ge 8 d_Cs_accounts_2 rfl ⟨fun c1 => (?_ : WM _ 8 _ _ _ _), fun c1 => (?_ : WM _ 5 _ _ _ _)⟩
  · replace h := h.1 c1
    refine r_iconst d_Cs_accounts_8 (by decide) (?_ : WM _ 9 _ _ _ _)
    refine r_istore_n (ls' := [(2, vI 0), (0, vR 0), (1, vI x1)]) d_Cs_accounts_9 rfl (by decide) rfl (?_ : WM _ 10 _ _ _ _)
    refine r_iconst d_Cs_accounts_10 (by decide) (?_ : WM _ 11 _ _ _ _)
    refine r_istore_n (ls' := [(3, vI 0), (2, vI 0), (0, vR 0), (1, vI x1)]) d_Cs_accounts_11 rfl (by decide) rfl (?_ : WM _ 12 _ _ _ _)
    refine r_pick (ls' := [(0, vR 0), (1, vI x1), (2, vI 0), (3, vI 0)]) [2, 3, 1, 0] rfl ?_
    exact h
  · replace h := h.2 c1
    refine r_bipush d_Cs_accounts_5 (by decide) (by decide) (?_ : WM _ 7 _ _ _ _)
    exact r_ireturn rfl d_Cs_accounts_7 h
set_option maxRecDepth 20000 in
theorem l_Cs_accounts_1 {K : Int → St → Prop} {σ : St} (x1 : Int) (x2 : Int) (x3 : Int) (h : ((σ 3 4) ≤ x3 → (¬ x1 = (-1) → K (-1) σ) ∧ (x1 = (-1) → K x2 σ)) ∧ (¬ (σ 3 4) ≤ x3 → CI M_Le_isFirstOfAccount [vR 3, vI x3] σ (fun v5 σ4 => (v5 = 0 → (inR (x3 + 1)) ∧ WM M_Cs_accounts 12 [(0, vR 0), (1, vI x1), (2, vI x2), (3, vI (x3 + 1))] [] σ4 (QI K)) ∧ (¬ v5 = 0 → (¬ x2 = x1 → (inR (x2 + 1)) ∧ (inR (x3 + 1)) ∧ WM M_Cs_accounts 12 [(0, vR 0), (1, vI x1), (2, vI (x2 + 1)), (3, vI (x3 + 1))] [] σ4 (QI K)) ∧ (x2 = x1 → (0 ≤ x3) ∧ (x3 < 48) ∧ K (σ4 4 x3) σ4))))) : WM M_Cs_accounts 12 [(0, vR 0), (1, vI x1), (2, vI x2), (3, vI x3)] [] σ (QI K) := by
  refine r_iload_n d_Cs_accounts_12 rfl (?_ : WM _ 13 _ _ _ _)
  refine r_aload_n d_Cs_accounts_13 rfl (?_ : WM _ 14 _ _ _ _)
  refine r_getR (k := 0) (j := 1) (q := 3) (by decide) rfl clk_10 (by decide) (qm_2 (i := 86) rfl rfl) rfl d_Cs_accounts_14 (?_ : WM _ 17 _ _ _ _)
  refine r_getI (k := 3) (j := 4) 4 (by decide) rfl clk_3 (by decide) (qm_1 (i := 93) rfl rfl) rfl rfl d_Cs_accounts_17 (y := (σ 3 4)) rfl (?_ : WM _ 20 _ _ _ _)
  refine r_icmp_ge 58 d_Cs_accounts_20 rfl ⟨fun c2 => (?_ : WM _ 58 _ _ _ _), fun c2 => (?_ : WM _ 23 _ _ _ _)⟩
  · replace h := h.1 c2
    refine r_iload_n d_Cs_accounts_58 rfl (?_ : WM _ 59 _ _ _ _)
    refine r_iconst d_Cs_accounts_59 (by decide) (?_ : WM _ 60 _ _ _ _)
    refine r_icmp_ne 67 d_Cs_accounts_60 rfl ⟨fun c3 => (?_ : WM _ 67 _ _ _ _), fun c3 => (?_ : WM _ 63 _ _ _ _)⟩
    · replace h := h.1 c3
      refine r_iconst d_Cs_accounts_67 (by decide) (?_ : WM _ 68 _ _ _ _)
      exact r_ireturn rfl d_Cs_accounts_68 h
    · replace h := h.2 c3
      refine r_iload_n d_Cs_accounts_63 rfl (?_ : WM _ 64 _ _ _ _)
      refine r_goto 68 d_Cs_accounts_64 rfl ?_
      exact r_ireturn rfl d_Cs_accounts_68 h
  · replace h := h.2 c2
    refine r_aload_n d_Cs_accounts_23 rfl (?_ : WM _ 24 _ _ _ _)
    refine r_getR (k := 0) (j := 1) (q := 3) (by decide) rfl clk_10 (by decide) (qm_2 (i := 86) rfl rfl) rfl d_Cs_accounts_24 (?_ : WM _ 27 _ _ _ _)
    refine r_iload_n d_Cs_accounts_27 rfl (?_ : WM _ 28 _ _ _ _)
    refine r_callV (ν := M_Le_isFirstOfAccount) (k := 3) [vI x3] ok_M_Le_isFirstOfAccount okv_M_Le_isFirstOfAccount (by decide) rfl rfl rfl (qm_9 (i := 162) rfl rfl) np_M_Le_isFirstOfAccount rfl (by decide) (Nat.le_of_ble_eq_true rfl) rfl d_Cs_accounts_28 (CI.k h (fun v5 σ4 h => (?_ : WM _ 31 _ _ _ _)))
    refine r_if_eq 52 d_Cs_accounts_31 rfl ⟨fun c6 => (?_ : WM _ 52 _ _ _ _), fun c6 => (?_ : WM _ 34 _ _ _ _)⟩
    · replace h := h.1 c6
      obtain ⟨h7, h⟩ := h
      refine r_iinc (ls' := [(3, vI (x3 + 1)), (0, vR 0), (1, vI x1), (2, vI x2)]) d_Cs_accounts_52 rfl h7 (by decide) rfl (?_ : WM _ 55 _ _ _ _)
      refine r_goto 12 d_Cs_accounts_55 rfl ?_
      refine r_pick (ls' := [(0, vR 0), (1, vI x1), (2, vI x2), (3, vI (x3 + 1))]) [1, 2, 3, 0] rfl ?_
      exact h
    · replace h := h.2 c6
      refine r_iload_n d_Cs_accounts_34 rfl (?_ : WM _ 35 _ _ _ _)
      refine r_iload_n d_Cs_accounts_35 rfl (?_ : WM _ 36 _ _ _ _)
      refine r_icmp_ne 49 d_Cs_accounts_36 rfl ⟨fun c8 => (?_ : WM _ 49 _ _ _ _), fun c8 => (?_ : WM _ 39 _ _ _ _)⟩
      · replace h := h.1 c8
        obtain ⟨h9, h⟩ := h
        refine r_iinc (ls' := [(2, vI (x2 + 1)), (0, vR 0), (1, vI x1), (3, vI x3)]) d_Cs_accounts_49 rfl h9 (by decide) rfl (?_ : WM _ 52 _ _ _ _)
        obtain ⟨h10, h⟩ := h
        refine r_iinc (ls' := [(3, vI (x3 + 1)), (2, vI (x2 + 1)), (0, vR 0), (1, vI x1)]) d_Cs_accounts_52 rfl h10 (by decide) rfl (?_ : WM _ 55 _ _ _ _)
        refine r_goto 12 d_Cs_accounts_55 rfl ?_
        refine r_pick (ls' := [(0, vR 0), (1, vI x1), (2, vI (x2 + 1)), (3, vI (x3 + 1))]) [2, 3, 1, 0] rfl ?_
        exact h
      · replace h := h.2 c8
        refine r_aload_n d_Cs_accounts_39 rfl (?_ : WM _ 40 _ _ _ _)
        refine r_getR (k := 0) (j := 1) (q := 3) (by decide) rfl clk_10 (by decide) (qm_2 (i := 86) rfl rfl) rfl d_Cs_accounts_40 (?_ : WM _ 43 _ _ _ _)
        refine r_getR (k := 3) (j := 0) (q := 4) (by decide) rfl clk_3 (by decide) (qm_1 (i := 82) rfl rfl) rfl d_Cs_accounts_43 (?_ : WM _ 46 _ _ _ _)
        refine r_iload_n d_Cs_accounts_46 rfl (?_ : WM _ 47 _ _ _ _)
        obtain ⟨h11, h⟩ := h
        obtain ⟨h12, h⟩ := h
        refine r_iald (k := 4) (n := 48) (by decide) rfl d_Cs_accounts_47 h11 h12 (y := (σ4 4 x3)) rfl (?_ : WM _ 48 _ _ _ _)
        exact r_ireturn rfl d_Cs_accounts_48 h
set_option maxRecDepth 20000 in
theorem e_Cs_drawn {K : Int → St → Prop} {σ : St} (x1 : Int) (h : CI M_Cs_listed [vR 0, vI 2, vI x1] σ (fun v2 σ1 => K v2 σ1)) : CI M_Cs_drawn [vR 0, vI x1] σ K := by
  refine Con.of ok_M_Cs_drawn (ls := [(0, vR 0), (1, vI x1)]) rfl (Nat.le_of_ble_eq_true rfl) ?_
  refine r_aload_n d_Cs_drawn_0 rfl (?_ : WM _ 1 _ _ _ _)
  refine r_iconst d_Cs_drawn_1 (by decide) (?_ : WM _ 2 _ _ _ _)
  refine r_iload_n d_Cs_drawn_2 rfl (?_ : WM _ 3 _ _ _ _)
  refine r_callV (ν := M_Cs_listed) (k := 0) [vI 2, vI x1] ok_M_Cs_listed okv_M_Cs_listed (by decide) rfl rfl rfl (qm_9 (i := 203) rfl rfl) np_M_Cs_listed rfl (by decide) (Nat.le_of_ble_eq_true rfl) rfl d_Cs_drawn_3 (CI.k h (fun v2 σ1 h => (?_ : WM _ 6 _ _ _ _)))
  exact r_ireturn rfl d_Cs_drawn_6 h
set_option maxRecDepth 20000 in
theorem e_Cs_line {K : Int → St → Prop} {σ : St} (x1 : Int) (x2 : Int) (h : (0 ≤ x1 → CI M_Cs_listed [vR 0, vI 2, vI x1] σ (fun v3 σ2 => (¬ v3 = (-1) → (0 ≤ x2 → CV M_Cs_writeLine [vR 0, vI v3] σ2 (fun σ6 => CI M_Li_signAt [vR 33, vI x2] σ6 (fun v9 σ8 => K v9 σ8))) ∧ (¬ 0 ≤ x2 → K (-3) σ2)) ∧ (v3 = (-1) → K (-2) σ2))) ∧ (¬ 0 ≤ x1 → K (-2) σ)) : CI M_Cs_line [vR 0, vI x1, vI x2] σ K := by
  refine Con.of ok_M_Cs_line (ls := [(0, vR 0), (1, vI x1), (2, vI x2)]) rfl (Nat.le_of_ble_eq_true rfl) ?_
  refine r_iload_n d_Cs_line_0 rfl (?_ : WM _ 1 _ _ _ _)
  refine r_if_ge 8 d_Cs_line_1 rfl ⟨fun c1 => (?_ : WM _ 8 _ _ _ _), fun c1 => (?_ : WM _ 4 _ _ _ _)⟩
  · replace h := h.1 c1
    refine r_aload_n d_Cs_line_8 rfl (?_ : WM _ 9 _ _ _ _)
    refine r_iconst d_Cs_line_9 (by decide) (?_ : WM _ 10 _ _ _ _)
    refine r_iload_n d_Cs_line_10 rfl (?_ : WM _ 11 _ _ _ _)
    refine r_callV (ν := M_Cs_listed) (k := 0) [vI 2, vI x1] ok_M_Cs_listed okv_M_Cs_listed (by decide) rfl rfl rfl (qm_9 (i := 203) rfl rfl) np_M_Cs_listed rfl (by decide) (Nat.le_of_ble_eq_true rfl) rfl d_Cs_line_11 (CI.k h (fun v3 σ2 h => (?_ : WM _ 14 _ _ _ _)))
    refine r_istore_n (ls' := [(3, vI v3), (0, vR 0), (1, vI x1), (2, vI x2)]) d_Cs_line_14 rfl (by decide) rfl (?_ : WM _ 15 _ _ _ _)
    refine r_iload_n d_Cs_line_15 rfl (?_ : WM _ 16 _ _ _ _)
    refine r_iconst d_Cs_line_16 (by decide) (?_ : WM _ 17 _ _ _ _)
    refine r_icmp_ne 23 d_Cs_line_17 rfl ⟨fun c4 => (?_ : WM _ 23 _ _ _ _), fun c4 => (?_ : WM _ 20 _ _ _ _)⟩
    · replace h := h.1 c4
      refine r_iload_n d_Cs_line_23 rfl (?_ : WM _ 24 _ _ _ _)
      refine r_if_ge 30 d_Cs_line_24 rfl ⟨fun c5 => (?_ : WM _ 30 _ _ _ _), fun c5 => (?_ : WM _ 27 _ _ _ _)⟩
      · replace h := h.1 c5
        refine r_aload_n d_Cs_line_30 rfl (?_ : WM _ 31 _ _ _ _)
        refine r_iload_n d_Cs_line_31 rfl (?_ : WM _ 32 _ _ _ _)
        refine r_callV (ν := M_Cs_writeLine) (k := 0) [vI v3] ok_M_Cs_writeLine okv_M_Cs_writeLine (by decide) rfl rfl rfl (qm_9 (i := 235) rfl rfl) np_M_Cs_writeLine rfl (by decide) (Nat.le_of_ble_eq_true rfl) rfl d_Cs_line_32 (CV.k h (fun σ6 h => (?_ : WM _ 35 _ _ _ _)))
        refine r_aload_n d_Cs_line_35 rfl (?_ : WM _ 36 _ _ _ _)
        refine r_getR (k := 0) (j := 10) (q := 33) (by decide) rfl clk_10 (by decide) (qm_2 (i := 95) rfl rfl) rfl d_Cs_line_36 (?_ : WM _ 39 _ _ _ _)
        refine r_iload_n d_Cs_line_39 rfl (?_ : WM _ 40 _ _ _ _)
        refine r_callV (ν := M_Li_signAt) (k := 33) [vI x2] ok_M_Li_signAt okv_M_Li_signAt (by decide) rfl rfl rfl (qm_10 (i := 8) rfl rfl) np_M_Li_signAt rfl (by decide) (Nat.le_of_ble_eq_true rfl) rfl d_Cs_line_40 (CI.k h (fun v9 σ8 h => (?_ : WM _ 43 _ _ _ _)))
        exact r_ireturn rfl d_Cs_line_43 h
      · replace h := h.2 c5
        refine r_bipush d_Cs_line_27 (by decide) (by decide) (?_ : WM _ 29 _ _ _ _)
        exact r_ireturn rfl d_Cs_line_29 h
    · replace h := h.2 c4
      refine r_bipush d_Cs_line_20 (by decide) (by decide) (?_ : WM _ 22 _ _ _ _)
      exact r_ireturn rfl d_Cs_line_22 h
  · replace h := h.2 c1
    refine r_iconst d_Cs_line_4 (by decide) (?_ : WM _ 5 _ _ _ _)
    refine r_goto 14 d_Cs_line_5 rfl ?_
    refine r_istore_n (ls' := [(3, vI (-1)), (0, vR 0), (1, vI x1), (2, vI x2)]) d_Cs_line_14 rfl (by decide) rfl (?_ : WM _ 15 _ _ _ _)
    refine r_iload_n d_Cs_line_15 rfl (?_ : WM _ 16 _ _ _ _)
    refine r_iconst d_Cs_line_16 (by decide) (?_ : WM _ 17 _ _ _ _)
    refine r_icmp_ne 23 d_Cs_line_17 rfl ⟨fun hc => absurd hc (by decide), fun hc => (?_ : WM _ 20 _ _ _ _)⟩
    refine r_bipush d_Cs_line_20 (by decide) (by decide) (?_ : WM _ 22 _ _ _ _)
    exact r_ireturn rfl d_Cs_line_22 h
set_option maxRecDepth 20000 in
theorem e_Cs_projected {K : Int → St → Prop} {σ : St} (x1 : Int) (h : (¬ (σ 20 1) = 0 → CV M_Es_supposeNothing [vR 28] σ (fun σ2 => (x1 = 0 → CI M_Es_projection [vR 28, vI 1] σ2 (fun v5 σ4 => K v5 σ4)) ∧ (x1 = 1 → CI M_Es_projection [vR 28, vI (-1)] σ2 (fun v7 σ6 => K v7 σ6)) ∧ (x1 = 2 → CI M_Es_known [vR 28, vI 1] σ2 (fun v9 σ8 => K v9 σ8)) ∧ (x1 = 3 → CI M_Es_known [vR 28, vI (-1)] σ2 (fun v11 σ10 => K v11 σ10)) ∧ (x1 = 4 → CI M_Es_projection [vR 28, vI 1] σ2 (fun v13 σ12 => CI M_Es_known [vR 28, vI 1] σ12 (fun v15 σ14 => (inR (v13 + v15)) ∧ CI M_Es_projection [vR 28, vI (-1)] σ14 (fun v18 σ17 => (inR ((v13 + v15) - v18)) ∧ CI M_Es_known [vR 28, vI (-1)] σ17 (fun v21 σ20 => (inR (((v13 + v15) - v18) - v21)) ∧ K (((v13 + v15) - v18) - v21) σ20))))) ∧ (x1 < 0 ∨ 4 < x1 → K (-10000000) σ2))) ∧ ((σ 20 1) = 0 → K (-10000000) σ)) : CI M_Cs_projected [vR 0, vI x1] σ K := by
  refine Con.of ok_M_Cs_projected (ls := [(0, vR 0), (1, vI x1)]) rfl (Nat.le_of_ble_eq_true rfl) ?_
  refine r_aload_n d_Cs_projected_0 rfl (?_ : WM _ 1 _ _ _ _)
  refine r_getR (k := 0) (j := 6) (q := 20) (by decide) rfl clk_10 (by decide) (qm_2 (i := 91) rfl rfl) rfl d_Cs_projected_1 (?_ : WM _ 4 _ _ _ _)
  refine r_getI (k := 20) (j := 1) 1 (by decide) rfl clk_9 (by decide) (qm_1 (i := 190) rfl rfl) rfl rfl d_Cs_projected_4 (y := (σ 20 1)) rfl (?_ : WM _ 7 _ _ _ _)
  refine r_if_ne 13 d_Cs_projected_7 rfl ⟨fun c1 => (?_ : WM _ 13 _ _ _ _), fun c1 => (?_ : WM _ 10 _ _ _ _)⟩
  · replace h := h.1 c1
    refine r_aload_n d_Cs_projected_13 rfl (?_ : WM _ 14 _ _ _ _)
    refine r_getR (k := 0) (j := 8) (q := 28) (by decide) rfl clk_10 (by decide) (qm_2 (i := 93) rfl rfl) rfl d_Cs_projected_14 (?_ : WM _ 17 _ _ _ _)
    refine r_callV (ν := M_Es_supposeNothing) (k := 28) [] ok_M_Es_supposeNothing okv_M_Es_supposeNothing (by decide) rfl rfl rfl (qm_9 (i := 36) rfl rfl) np_M_Es_supposeNothing rfl (by decide) (Nat.le_of_ble_eq_true rfl) rfl d_Cs_projected_17 (CV.k h (fun σ2 h => (?_ : WM _ 20 _ _ _ _)))
    refine r_iload_n d_Cs_projected_20 rfl (?_ : WM _ 21 _ _ _ _)
    have hsw : (x1 = 0) ∨ (x1 = 1) ∨ (x1 = 2) ∨ (x1 = 3) ∨ (x1 = 4) ∨ (x1 < 0 ∨ 4 < x1) := by omega
    rcases hsw with hc | hc | hc | hc | hc | hc
    · replace h := h.1 hc
      refine r_tswIn 56 d_Cs_projected_21 (by omega) (by omega) (by rw [hc]; rfl) rfl ?_
      refine r_aload_n d_Cs_projected_56 rfl (?_ : WM _ 57 _ _ _ _)
      refine r_getR (k := 0) (j := 8) (q := 28) (by decide) rfl clk_10 (by decide) (qm_2 (i := 93) rfl rfl) rfl d_Cs_projected_57 (?_ : WM _ 60 _ _ _ _)
      refine r_iconst d_Cs_projected_60 (by decide) (?_ : WM _ 61 _ _ _ _)
      refine r_callV (ν := M_Es_projection) (k := 28) [vI 1] ok_M_Es_projection okv_M_Es_projection (by decide) rfl rfl rfl (qm_10 (i := 25) rfl rfl) np_M_Es_projection rfl (by decide) (Nat.le_of_ble_eq_true rfl) rfl d_Cs_projected_61 (CI.k h (fun v5 σ4 h => (?_ : WM _ 64 _ _ _ _)))
      exact r_ireturn rfl d_Cs_projected_64 h
    · replace h := h.2.1 hc
      refine r_tswIn 65 d_Cs_projected_21 (by omega) (by omega) (by rw [hc]; rfl) rfl ?_
      refine r_aload_n d_Cs_projected_65 rfl (?_ : WM _ 66 _ _ _ _)
      refine r_getR (k := 0) (j := 8) (q := 28) (by decide) rfl clk_10 (by decide) (qm_2 (i := 93) rfl rfl) rfl d_Cs_projected_66 (?_ : WM _ 69 _ _ _ _)
      refine r_iconst d_Cs_projected_69 (by decide) (?_ : WM _ 70 _ _ _ _)
      refine r_callV (ν := M_Es_projection) (k := 28) [vI (-1)] ok_M_Es_projection okv_M_Es_projection (by decide) rfl rfl rfl (qm_10 (i := 25) rfl rfl) np_M_Es_projection rfl (by decide) (Nat.le_of_ble_eq_true rfl) rfl d_Cs_projected_70 (CI.k h (fun v7 σ6 h => (?_ : WM _ 73 _ _ _ _)))
      exact r_ireturn rfl d_Cs_projected_73 h
    · replace h := h.2.2.1 hc
      refine r_tswIn 74 d_Cs_projected_21 (by omega) (by omega) (by rw [hc]; rfl) rfl ?_
      refine r_aload_n d_Cs_projected_74 rfl (?_ : WM _ 75 _ _ _ _)
      refine r_getR (k := 0) (j := 8) (q := 28) (by decide) rfl clk_10 (by decide) (qm_2 (i := 93) rfl rfl) rfl d_Cs_projected_75 (?_ : WM _ 78 _ _ _ _)
      refine r_iconst d_Cs_projected_78 (by decide) (?_ : WM _ 79 _ _ _ _)
      refine r_callV (ν := M_Es_known) (k := 28) [vI 1] ok_M_Es_known okv_M_Es_known (by decide) rfl rfl rfl (qm_10 (i := 32) rfl rfl) np_M_Es_known rfl (by decide) (Nat.le_of_ble_eq_true rfl) rfl d_Cs_projected_79 (CI.k h (fun v9 σ8 h => (?_ : WM _ 82 _ _ _ _)))
      exact r_ireturn rfl d_Cs_projected_82 h
    · replace h := h.2.2.2.1 hc
      refine r_tswIn 83 d_Cs_projected_21 (by omega) (by omega) (by rw [hc]; rfl) rfl ?_
      refine r_aload_n d_Cs_projected_83 rfl (?_ : WM _ 84 _ _ _ _)
      refine r_getR (k := 0) (j := 8) (q := 28) (by decide) rfl clk_10 (by decide) (qm_2 (i := 93) rfl rfl) rfl d_Cs_projected_84 (?_ : WM _ 87 _ _ _ _)
      refine r_iconst d_Cs_projected_87 (by decide) (?_ : WM _ 88 _ _ _ _)
      refine r_callV (ν := M_Es_known) (k := 28) [vI (-1)] ok_M_Es_known okv_M_Es_known (by decide) rfl rfl rfl (qm_10 (i := 32) rfl rfl) np_M_Es_known rfl (by decide) (Nat.le_of_ble_eq_true rfl) rfl d_Cs_projected_88 (CI.k h (fun v11 σ10 h => (?_ : WM _ 91 _ _ _ _)))
      exact r_ireturn rfl d_Cs_projected_91 h
    · replace h := h.2.2.2.2.1 hc
      refine r_tswIn 92 d_Cs_projected_21 (by omega) (by omega) (by rw [hc]; rfl) rfl ?_
      refine r_aload_n d_Cs_projected_92 rfl (?_ : WM _ 93 _ _ _ _)
      refine r_getR (k := 0) (j := 8) (q := 28) (by decide) rfl clk_10 (by decide) (qm_2 (i := 93) rfl rfl) rfl d_Cs_projected_93 (?_ : WM _ 96 _ _ _ _)
      refine r_iconst d_Cs_projected_96 (by decide) (?_ : WM _ 97 _ _ _ _)
      refine r_callV (ν := M_Es_projection) (k := 28) [vI 1] ok_M_Es_projection okv_M_Es_projection (by decide) rfl rfl rfl (qm_10 (i := 25) rfl rfl) np_M_Es_projection rfl (by decide) (Nat.le_of_ble_eq_true rfl) rfl d_Cs_projected_97 (CI.k h (fun v13 σ12 h => (?_ : WM _ 100 _ _ _ _)))
      refine r_aload_n d_Cs_projected_100 rfl (?_ : WM _ 101 _ _ _ _)
      refine r_getR (k := 0) (j := 8) (q := 28) (by decide) rfl clk_10 (by decide) (qm_2 (i := 93) rfl rfl) rfl d_Cs_projected_101 (?_ : WM _ 104 _ _ _ _)
      refine r_iconst d_Cs_projected_104 (by decide) (?_ : WM _ 105 _ _ _ _)
      refine r_callV (ν := M_Es_known) (k := 28) [vI 1] ok_M_Es_known okv_M_Es_known (by decide) rfl rfl rfl (qm_10 (i := 32) rfl rfl) np_M_Es_known rfl (by decide) (Nat.le_of_ble_eq_true rfl) rfl d_Cs_projected_105 (CI.k h (fun v15 σ14 h => (?_ : WM _ 108 _ _ _ _)))
      obtain ⟨h16, h⟩ := h
      refine r_iadd d_Cs_projected_108 h16 (?_ : WM _ 109 _ _ _ _)
      refine r_aload_n d_Cs_projected_109 rfl (?_ : WM _ 110 _ _ _ _)
      refine r_getR (k := 0) (j := 8) (q := 28) (by decide) rfl clk_10 (by decide) (qm_2 (i := 93) rfl rfl) rfl d_Cs_projected_110 (?_ : WM _ 113 _ _ _ _)
      refine r_iconst d_Cs_projected_113 (by decide) (?_ : WM _ 114 _ _ _ _)
      refine r_callV (ν := M_Es_projection) (k := 28) [vI (-1)] ok_M_Es_projection okv_M_Es_projection (by decide) rfl rfl rfl (qm_10 (i := 25) rfl rfl) np_M_Es_projection rfl (by decide) (Nat.le_of_ble_eq_true rfl) rfl d_Cs_projected_114 (CI.k h (fun v18 σ17 h => (?_ : WM _ 117 _ _ _ _)))
      obtain ⟨h19, h⟩ := h
      refine r_isub d_Cs_projected_117 h19 (?_ : WM _ 118 _ _ _ _)
      refine r_aload_n d_Cs_projected_118 rfl (?_ : WM _ 119 _ _ _ _)
      refine r_getR (k := 0) (j := 8) (q := 28) (by decide) rfl clk_10 (by decide) (qm_2 (i := 93) rfl rfl) rfl d_Cs_projected_119 (?_ : WM _ 122 _ _ _ _)
      refine r_iconst d_Cs_projected_122 (by decide) (?_ : WM _ 123 _ _ _ _)
      refine r_callV (ν := M_Es_known) (k := 28) [vI (-1)] ok_M_Es_known okv_M_Es_known (by decide) rfl rfl rfl (qm_10 (i := 32) rfl rfl) np_M_Es_known rfl (by decide) (Nat.le_of_ble_eq_true rfl) rfl d_Cs_projected_123 (CI.k h (fun v21 σ20 h => (?_ : WM _ 126 _ _ _ _)))
      obtain ⟨h22, h⟩ := h
      refine r_isub d_Cs_projected_126 h22 (?_ : WM _ 127 _ _ _ _)
      exact r_ireturn rfl d_Cs_projected_127 h
    · replace h := h.2.2.2.2.2 hc
      refine r_tswOut 128 d_Cs_projected_21 hc rfl ?_
      refine r_ldc (-10000000) d_Cs_projected_128 (qm_5 (i := 169) rfl rfl) (by decide) (by decide) (?_ : WM _ 130 _ _ _ _)
      exact r_ireturn rfl d_Cs_projected_130 h
  · replace h := h.2 c1
    refine r_ldc (-10000000) d_Cs_projected_10 (qm_5 (i := 169) rfl rfl) (by decide) (by decide) (?_ : WM _ 12 _ _ _ _)
    exact r_ireturn rfl d_Cs_projected_12 h
set_option maxRecDepth 20000 in
theorem e_Cs_taint {K : Int → St → Prop} {σ : St} (x1 : Int) (x2 : Int) (h : CV M_Es_supposeNothing [vR 28] σ (fun σ1 => CV M_Es_rank [vR 28, vI 1] σ1 (fun σ3 => CI M_Es_hasRank [vR 28, vI x1] σ3 (fun v6 σ5 => (¬ v6 = 0 → (x2 = 0 → (0 ≤ x1) ∧ (x1 < 240) ∧ K (σ5 29 x1) σ5) ∧ (x2 = 1 → (0 ≤ x1) ∧ (x1 < 240) ∧ K (σ5 37 x1) σ5) ∧ (x2 = 2 → CI M_Es_rise [vR 28, vI x1] σ5 (fun v13 σ12 => K v13 σ12)) ∧ (x2 < 0 ∨ 2 < x2 → K (-2) σ5)) ∧ (v6 = 0 → K (-2) σ5))))) : CI M_Cs_taint [vR 0, vI x1, vI x2] σ K := by
  refine Con.of ok_M_Cs_taint (ls := [(0, vR 0), (1, vI x1), (2, vI x2)]) rfl (Nat.le_of_ble_eq_true rfl) ?_
  refine r_aload_n d_Cs_taint_0 rfl (?_ : WM _ 1 _ _ _ _)
  refine r_getR (k := 0) (j := 8) (q := 28) (by decide) rfl clk_10 (by decide) (qm_2 (i := 93) rfl rfl) rfl d_Cs_taint_1 (?_ : WM _ 4 _ _ _ _)
  refine r_callV (ν := M_Es_supposeNothing) (k := 28) [] ok_M_Es_supposeNothing okv_M_Es_supposeNothing (by decide) rfl rfl rfl (qm_9 (i := 36) rfl rfl) np_M_Es_supposeNothing rfl (by decide) (Nat.le_of_ble_eq_true rfl) rfl d_Cs_taint_4 (CV.k h (fun σ1 h => (?_ : WM _ 7 _ _ _ _)))
  refine r_aload_n d_Cs_taint_7 rfl (?_ : WM _ 8 _ _ _ _)
  refine r_getR (k := 0) (j := 8) (q := 28) (by decide) rfl clk_10 (by decide) (qm_2 (i := 93) rfl rfl) rfl d_Cs_taint_8 (?_ : WM _ 11 _ _ _ _)
  refine r_iconst d_Cs_taint_11 (by decide) (?_ : WM _ 12 _ _ _ _)
  refine r_callV (ν := M_Es_rank) (k := 28) [vI 1] ok_M_Es_rank okv_M_Es_rank (by decide) rfl rfl rfl (qm_10 (i := 90) rfl rfl) np_M_Es_rank rfl (by decide) (Nat.le_of_ble_eq_true rfl) rfl d_Cs_taint_12 (CV.k h (fun σ3 h => (?_ : WM _ 15 _ _ _ _)))
  refine r_aload_n d_Cs_taint_15 rfl (?_ : WM _ 16 _ _ _ _)
  refine r_getR (k := 0) (j := 8) (q := 28) (by decide) rfl clk_10 (by decide) (qm_2 (i := 93) rfl rfl) rfl d_Cs_taint_16 (?_ : WM _ 19 _ _ _ _)
  refine r_iload_n d_Cs_taint_19 rfl (?_ : WM _ 20 _ _ _ _)
  refine r_callV (ν := M_Es_hasRank) (k := 28) [vI x1] ok_M_Es_hasRank okv_M_Es_hasRank (by decide) rfl rfl rfl (qm_10 (i := 91) rfl rfl) np_M_Es_hasRank rfl (by decide) (Nat.le_of_ble_eq_true rfl) rfl d_Cs_taint_20 (CI.k h (fun v6 σ5 h => (?_ : WM _ 23 _ _ _ _)))
  refine r_if_ne 29 d_Cs_taint_23 rfl ⟨fun c7 => (?_ : WM _ 29 _ _ _ _), fun c7 => (?_ : WM _ 26 _ _ _ _)⟩
  · replace h := h.1 c7
    refine r_iload_n d_Cs_taint_29 rfl (?_ : WM _ 30 _ _ _ _)
    have hsw : (x2 = 0) ∨ (x2 = 1) ∨ (x2 = 2) ∨ (x2 < 0 ∨ 2 < x2) := by omega
    rcases hsw with hc | hc | hc | hc
    · replace h := h.1 hc
      refine r_tswIn 56 d_Cs_taint_30 (by omega) (by omega) (by rw [hc]; rfl) rfl ?_
      refine r_aload_n d_Cs_taint_56 rfl (?_ : WM _ 57 _ _ _ _)
      refine r_getR (k := 0) (j := 8) (q := 28) (by decide) rfl clk_10 (by decide) (qm_2 (i := 93) rfl rfl) rfl d_Cs_taint_57 (?_ : WM _ 60 _ _ _ _)
      refine r_getR (k := 28) (j := 0) (q := 29) (by decide) rfl clk_0 (by decide) (qm_2 (i := 2) rfl rfl) rfl d_Cs_taint_60 (?_ : WM _ 63 _ _ _ _)
      refine r_iload_n d_Cs_taint_63 rfl (?_ : WM _ 64 _ _ _ _)
      obtain ⟨h8, h⟩ := h
      obtain ⟨h9, h⟩ := h
      refine r_iald (k := 29) (n := 240) (by decide) rfl d_Cs_taint_64 h8 h9 (y := (σ5 29 x1)) rfl (?_ : WM _ 65 _ _ _ _)
      exact r_ireturn rfl d_Cs_taint_65 h
    · replace h := h.2.1 hc
      refine r_tswIn 66 d_Cs_taint_30 (by omega) (by omega) (by rw [hc]; rfl) rfl ?_
      refine r_aload_n d_Cs_taint_66 rfl (?_ : WM _ 67 _ _ _ _)
      refine r_getR (k := 0) (j := 8) (q := 28) (by decide) rfl clk_10 (by decide) (qm_2 (i := 93) rfl rfl) rfl d_Cs_taint_67 (?_ : WM _ 70 _ _ _ _)
      refine r_getR (k := 28) (j := 1) (q := 37) (by decide) rfl clk_0 (by decide) (qm_2 (i := 4) rfl rfl) rfl d_Cs_taint_70 (?_ : WM _ 73 _ _ _ _)
      refine r_iload_n d_Cs_taint_73 rfl (?_ : WM _ 74 _ _ _ _)
      obtain ⟨h10, h⟩ := h
      obtain ⟨h11, h⟩ := h
      refine r_iald (k := 37) (n := 240) (by decide) rfl d_Cs_taint_74 h10 h11 (y := (σ5 37 x1)) rfl (?_ : WM _ 75 _ _ _ _)
      exact r_ireturn rfl d_Cs_taint_75 h
    · replace h := h.2.2.1 hc
      refine r_tswIn 76 d_Cs_taint_30 (by omega) (by omega) (by rw [hc]; rfl) rfl ?_
      refine r_aload_n d_Cs_taint_76 rfl (?_ : WM _ 77 _ _ _ _)
      refine r_getR (k := 0) (j := 8) (q := 28) (by decide) rfl clk_10 (by decide) (qm_2 (i := 93) rfl rfl) rfl d_Cs_taint_77 (?_ : WM _ 80 _ _ _ _)
      refine r_iload_n d_Cs_taint_80 rfl (?_ : WM _ 81 _ _ _ _)
      refine r_callV (ν := M_Es_rise) (k := 28) [vI x1] ok_M_Es_rise okv_M_Es_rise (by decide) rfl rfl rfl (qm_10 (i := 92) rfl rfl) np_M_Es_rise rfl (by decide) (Nat.le_of_ble_eq_true rfl) rfl d_Cs_taint_81 (CI.k h (fun v13 σ12 h => (?_ : WM _ 84 _ _ _ _)))
      exact r_ireturn rfl d_Cs_taint_84 h
    · replace h := h.2.2.2 hc
      refine r_tswOut 85 d_Cs_taint_30 hc rfl ?_
      refine r_bipush d_Cs_taint_85 (by decide) (by decide) (?_ : WM _ 87 _ _ _ _)
      exact r_ireturn rfl d_Cs_taint_87 h
  · replace h := h.2 c7
    refine r_bipush d_Cs_taint_26 (by decide) (by decide) (?_ : WM _ 28 _ _ _ _)
    exact r_ireturn rfl d_Cs_taint_28 h
set_option maxRecDepth 20000 in
theorem e_Cs_bound {K : Int → St → Prop} {σ : St} (x1 : Int) (h : (x1 < 0 → K (-10000000) σ) ∧ (¬ x1 < 0 → (4 < x1 → K (-10000000) σ) ∧ (¬ 4 < x1 → (¬ (σ 20 1) = 0 → CV M_Es_supposeNothing [vR 28] σ (fun σ4 => (¬ x1 = 4 → CI M_Es_partOf [vR 28, vI x1, vI 1] σ4 (fun v8 σ7 => K v8 σ7)) ∧ (x1 = 4 → CI M_Te_of [vR 14, vI 0] σ4 (fun v10 σ9 => CI M_Es_limit [vR 28, vI 1] σ9 (fun v12 σ11 => (inR (v10 - v12)) ∧ K (v10 - v12) σ11))))) ∧ ((σ 20 1) = 0 → K (-10000000) σ)))) : CI M_Cs_bound [vR 0, vI x1] σ K := by
  refine Con.of ok_M_Cs_bound (ls := [(0, vR 0), (1, vI x1)]) rfl (Nat.le_of_ble_eq_true rfl) ?_
  refine r_iload_n d_Cs_bound_0 rfl (?_ : WM _ 1 _ _ _ _)
  refine r_if_lt 19 d_Cs_bound_1 rfl ⟨fun c1 => (?_ : WM _ 19 _ _ _ _), fun c1 => (?_ : WM _ 4 _ _ _ _)⟩
  · replace h := h.1 c1
    refine r_ldc (-10000000) d_Cs_bound_19 (qm_5 (i := 169) rfl rfl) (by decide) (by decide) (?_ : WM _ 21 _ _ _ _)
    exact r_ireturn rfl d_Cs_bound_21 h
  · replace h := h.2 c1
    refine r_iload_n d_Cs_bound_4 rfl (?_ : WM _ 5 _ _ _ _)
    refine r_iconst d_Cs_bound_5 (by decide) (?_ : WM _ 6 _ _ _ _)
    refine r_icmp_gt 19 d_Cs_bound_6 rfl ⟨fun c2 => (?_ : WM _ 19 _ _ _ _), fun c2 => (?_ : WM _ 9 _ _ _ _)⟩
    · replace h := h.1 c2
      refine r_ldc (-10000000) d_Cs_bound_19 (qm_5 (i := 169) rfl rfl) (by decide) (by decide) (?_ : WM _ 21 _ _ _ _)
      exact r_ireturn rfl d_Cs_bound_21 h
    · replace h := h.2 c2
      refine r_aload_n d_Cs_bound_9 rfl (?_ : WM _ 10 _ _ _ _)
      refine r_getR (k := 0) (j := 6) (q := 20) (by decide) rfl clk_10 (by decide) (qm_2 (i := 91) rfl rfl) rfl d_Cs_bound_10 (?_ : WM _ 13 _ _ _ _)
      refine r_getI (k := 20) (j := 1) 1 (by decide) rfl clk_9 (by decide) (qm_1 (i := 190) rfl rfl) rfl rfl d_Cs_bound_13 (y := (σ 20 1)) rfl (?_ : WM _ 16 _ _ _ _)
      refine r_if_ne 22 d_Cs_bound_16 rfl ⟨fun c3 => (?_ : WM _ 22 _ _ _ _), fun c3 => (?_ : WM _ 19 _ _ _ _)⟩
      · replace h := h.1 c3
        refine r_aload_n d_Cs_bound_22 rfl (?_ : WM _ 23 _ _ _ _)
        refine r_getR (k := 0) (j := 8) (q := 28) (by decide) rfl clk_10 (by decide) (qm_2 (i := 93) rfl rfl) rfl d_Cs_bound_23 (?_ : WM _ 26 _ _ _ _)
        refine r_callV (ν := M_Es_supposeNothing) (k := 28) [] ok_M_Es_supposeNothing okv_M_Es_supposeNothing (by decide) rfl rfl rfl (qm_9 (i := 36) rfl rfl) np_M_Es_supposeNothing rfl (by decide) (Nat.le_of_ble_eq_true rfl) rfl d_Cs_bound_26 (CV.k h (fun σ4 h => (?_ : WM _ 29 _ _ _ _)))
        refine r_iload_n d_Cs_bound_29 rfl (?_ : WM _ 30 _ _ _ _)
        refine r_iconst d_Cs_bound_30 (by decide) (?_ : WM _ 31 _ _ _ _)
        refine r_icmp_ne 54 d_Cs_bound_31 rfl ⟨fun c6 => (?_ : WM _ 54 _ _ _ _), fun c6 => (?_ : WM _ 34 _ _ _ _)⟩
        · replace h := h.1 c6
          refine r_aload_n d_Cs_bound_54 rfl (?_ : WM _ 55 _ _ _ _)
          refine r_getR (k := 0) (j := 8) (q := 28) (by decide) rfl clk_10 (by decide) (qm_2 (i := 93) rfl rfl) rfl d_Cs_bound_55 (?_ : WM _ 58 _ _ _ _)
          refine r_iload_n d_Cs_bound_58 rfl (?_ : WM _ 59 _ _ _ _)
          refine r_iconst d_Cs_bound_59 (by decide) (?_ : WM _ 60 _ _ _ _)
          refine r_callV (ν := M_Es_partOf) (k := 28) [vI x1, vI 1] ok_M_Es_partOf okv_M_Es_partOf (by decide) rfl rfl rfl (qm_10 (i := 77) rfl rfl) np_M_Es_partOf rfl (by decide) (Nat.le_of_ble_eq_true rfl) rfl d_Cs_bound_60 (CI.k h (fun v8 σ7 h => (?_ : WM _ 63 _ _ _ _)))
          exact r_ireturn rfl d_Cs_bound_63 h
        · replace h := h.2 c6
          refine r_aload_n d_Cs_bound_34 rfl (?_ : WM _ 35 _ _ _ _)
          refine r_getR (k := 0) (j := 3) (q := 14) (by decide) rfl clk_10 (by decide) (qm_2 (i := 88) rfl rfl) rfl d_Cs_bound_35 (?_ : WM _ 38 _ _ _ _)
          refine r_iconst d_Cs_bound_38 (by decide) (?_ : WM _ 39 _ _ _ _)
          refine r_callV (ν := M_Te_of) (k := 14) [vI 0] ok_M_Te_of okv_M_Te_of (by decide) rfl rfl rfl (qm_2 (i := 77) rfl rfl) np_M_Te_of rfl (by decide) (Nat.le_of_ble_eq_true rfl) rfl d_Cs_bound_39 (CI.k h (fun v10 σ9 h => (?_ : WM _ 42 _ _ _ _)))
          refine r_aload_n d_Cs_bound_42 rfl (?_ : WM _ 43 _ _ _ _)
          refine r_getR (k := 0) (j := 8) (q := 28) (by decide) rfl clk_10 (by decide) (qm_2 (i := 93) rfl rfl) rfl d_Cs_bound_43 (?_ : WM _ 46 _ _ _ _)
          refine r_iconst d_Cs_bound_46 (by decide) (?_ : WM _ 47 _ _ _ _)
          refine r_callV (ν := M_Es_limit) (k := 28) [vI 1] ok_M_Es_limit okv_M_Es_limit (by decide) rfl rfl rfl (qm_10 (i := 42) rfl rfl) np_M_Es_limit rfl (by decide) (Nat.le_of_ble_eq_true rfl) rfl d_Cs_bound_47 (CI.k h (fun v12 σ11 h => (?_ : WM _ 50 _ _ _ _)))
          obtain ⟨h13, h⟩ := h
          refine r_isub d_Cs_bound_50 h13 (?_ : WM _ 51 _ _ _ _)
          refine r_goto 63 d_Cs_bound_51 rfl ?_
          exact r_ireturn rfl d_Cs_bound_63 h
      · replace h := h.2 c3
        refine r_ldc (-10000000) d_Cs_bound_19 (qm_5 (i := 169) rfl rfl) (by decide) (by decide) (?_ : WM _ 21 _ _ _ _)
        exact r_ireturn rfl d_Cs_bound_21 h
set_option maxRecDepth 20000 in
theorem e_Cs_below {K : Int → St → Prop} {σ : St} (x1 : Int) (h : (x1 < 0 → K (-10000000) σ) ∧ (¬ x1 < 0 → (3 < x1 → K (-10000000) σ) ∧ (¬ 3 < x1 → (¬ (σ 20 1) = 0 → CV M_Es_supposeNothing [vR 28] σ (fun σ4 => CI M_Es_partOf [vR 28, vI x1, vI (-1)] σ4 (fun v7 σ6 => K v7 σ6))) ∧ ((σ 20 1) = 0 → K (-10000000) σ)))) : CI M_Cs_below [vR 0, vI x1] σ K := by
  refine Con.of ok_M_Cs_below (ls := [(0, vR 0), (1, vI x1)]) rfl (Nat.le_of_ble_eq_true rfl) ?_
  refine r_iload_n d_Cs_below_0 rfl (?_ : WM _ 1 _ _ _ _)
  refine r_if_lt 19 d_Cs_below_1 rfl ⟨fun c1 => (?_ : WM _ 19 _ _ _ _), fun c1 => (?_ : WM _ 4 _ _ _ _)⟩
  · replace h := h.1 c1
    refine r_ldc (-10000000) d_Cs_below_19 (qm_5 (i := 169) rfl rfl) (by decide) (by decide) (?_ : WM _ 21 _ _ _ _)
    exact r_ireturn rfl d_Cs_below_21 h
  · replace h := h.2 c1
    refine r_iload_n d_Cs_below_4 rfl (?_ : WM _ 5 _ _ _ _)
    refine r_iconst d_Cs_below_5 (by decide) (?_ : WM _ 6 _ _ _ _)
    refine r_icmp_gt 19 d_Cs_below_6 rfl ⟨fun c2 => (?_ : WM _ 19 _ _ _ _), fun c2 => (?_ : WM _ 9 _ _ _ _)⟩
    · replace h := h.1 c2
      refine r_ldc (-10000000) d_Cs_below_19 (qm_5 (i := 169) rfl rfl) (by decide) (by decide) (?_ : WM _ 21 _ _ _ _)
      exact r_ireturn rfl d_Cs_below_21 h
    · replace h := h.2 c2
      refine r_aload_n d_Cs_below_9 rfl (?_ : WM _ 10 _ _ _ _)
      refine r_getR (k := 0) (j := 6) (q := 20) (by decide) rfl clk_10 (by decide) (qm_2 (i := 91) rfl rfl) rfl d_Cs_below_10 (?_ : WM _ 13 _ _ _ _)
      refine r_getI (k := 20) (j := 1) 1 (by decide) rfl clk_9 (by decide) (qm_1 (i := 190) rfl rfl) rfl rfl d_Cs_below_13 (y := (σ 20 1)) rfl (?_ : WM _ 16 _ _ _ _)
      refine r_if_ne 22 d_Cs_below_16 rfl ⟨fun c3 => (?_ : WM _ 22 _ _ _ _), fun c3 => (?_ : WM _ 19 _ _ _ _)⟩
      · replace h := h.1 c3
        refine r_aload_n d_Cs_below_22 rfl (?_ : WM _ 23 _ _ _ _)
        refine r_getR (k := 0) (j := 8) (q := 28) (by decide) rfl clk_10 (by decide) (qm_2 (i := 93) rfl rfl) rfl d_Cs_below_23 (?_ : WM _ 26 _ _ _ _)
        refine r_callV (ν := M_Es_supposeNothing) (k := 28) [] ok_M_Es_supposeNothing okv_M_Es_supposeNothing (by decide) rfl rfl rfl (qm_9 (i := 36) rfl rfl) np_M_Es_supposeNothing rfl (by decide) (Nat.le_of_ble_eq_true rfl) rfl d_Cs_below_26 (CV.k h (fun σ4 h => (?_ : WM _ 29 _ _ _ _)))
        refine r_aload_n d_Cs_below_29 rfl (?_ : WM _ 30 _ _ _ _)
        refine r_getR (k := 0) (j := 8) (q := 28) (by decide) rfl clk_10 (by decide) (qm_2 (i := 93) rfl rfl) rfl d_Cs_below_30 (?_ : WM _ 33 _ _ _ _)
        refine r_iload_n d_Cs_below_33 rfl (?_ : WM _ 34 _ _ _ _)
        refine r_iconst d_Cs_below_34 (by decide) (?_ : WM _ 35 _ _ _ _)
        refine r_callV (ν := M_Es_partOf) (k := 28) [vI x1, vI (-1)] ok_M_Es_partOf okv_M_Es_partOf (by decide) rfl rfl rfl (qm_10 (i := 77) rfl rfl) np_M_Es_partOf rfl (by decide) (Nat.le_of_ble_eq_true rfl) rfl d_Cs_below_35 (CI.k h (fun v7 σ6 h => (?_ : WM _ 38 _ _ _ _)))
        exact r_ireturn rfl d_Cs_below_38 h
      · replace h := h.2 c3
        refine r_ldc (-10000000) d_Cs_below_19 (qm_5 (i := 169) rfl rfl) (by decide) (by decide) (?_ : WM _ 21 _ _ _ _)
        exact r_ireturn rfl d_Cs_below_21 h
set_option maxRecDepth 20000 in
theorem e_Cs_judged {K : Int → St → Prop} {σ : St}  (h : (¬ (σ 20 1) = 0 → CI M_Wa_lackingBy [vR 20, vR 3, vI (σ 20 1)] σ (fun v3 σ2 => (v3 ≤ 0 → CV M_Es_supposeNothing [vR 28] σ2 (fun σ5 => CI M_Es_isAccepted [vR 28] σ5 (fun v8 σ7 => (v8 = 0 → K 3 σ7) ∧ (¬ v8 = 0 → K 2 σ7)))) ∧ (¬ v3 ≤ 0 → K 1 σ2))) ∧ ((σ 20 1) = 0 → K 0 σ)) : CI M_Cs_judged [vR 0] σ K := by
  refine Con.of ok_M_Cs_judged (ls := [(0, vR 0)]) rfl (Nat.le_of_ble_eq_true rfl) ?_
  refine r_aload_n d_Cs_judged_0 rfl (?_ : WM _ 1 _ _ _ _)
  refine r_getR (k := 0) (j := 6) (q := 20) (by decide) rfl clk_10 (by decide) (qm_2 (i := 91) rfl rfl) rfl d_Cs_judged_1 (?_ : WM _ 4 _ _ _ _)
  refine r_getI (k := 20) (j := 1) 1 (by decide) rfl clk_9 (by decide) (qm_1 (i := 190) rfl rfl) rfl rfl d_Cs_judged_4 (y := (σ 20 1)) rfl (?_ : WM _ 7 _ _ _ _)
  refine r_if_ne 12 d_Cs_judged_7 rfl ⟨fun c1 => (?_ : WM _ 12 _ _ _ _), fun c1 => (?_ : WM _ 10 _ _ _ _)⟩
  · replace h := h.1 c1
    refine r_aload_n d_Cs_judged_12 rfl (?_ : WM _ 13 _ _ _ _)
    refine r_getR (k := 0) (j := 6) (q := 20) (by decide) rfl clk_10 (by decide) (qm_2 (i := 91) rfl rfl) rfl d_Cs_judged_13 (?_ : WM _ 16 _ _ _ _)
    refine r_aload_n d_Cs_judged_16 rfl (?_ : WM _ 17 _ _ _ _)
    refine r_getR (k := 0) (j := 1) (q := 3) (by decide) rfl clk_10 (by decide) (qm_2 (i := 86) rfl rfl) rfl d_Cs_judged_17 (?_ : WM _ 20 _ _ _ _)
    refine r_aload_n d_Cs_judged_20 rfl (?_ : WM _ 21 _ _ _ _)
    refine r_getR (k := 0) (j := 6) (q := 20) (by decide) rfl clk_10 (by decide) (qm_2 (i := 91) rfl rfl) rfl d_Cs_judged_21 (?_ : WM _ 24 _ _ _ _)
    refine r_getI (k := 20) (j := 1) 1 (by decide) rfl clk_9 (by decide) (qm_1 (i := 190) rfl rfl) rfl rfl d_Cs_judged_24 (y := (σ 20 1)) rfl (?_ : WM _ 27 _ _ _ _)
    refine r_callV (ν := M_Wa_lackingBy) (k := 20) [vR 3, vI (σ 20 1)] ok_M_Wa_lackingBy okv_M_Wa_lackingBy (by decide) rfl rfl rfl (qm_10 (i := 97) rfl rfl) np_M_Wa_lackingBy rfl (by decide) (Nat.le_of_ble_eq_true rfl) rfl d_Cs_judged_27 (CI.k h (fun v3 σ2 h => (?_ : WM _ 30 _ _ _ _)))
    refine r_if_le 35 d_Cs_judged_30 rfl ⟨fun c4 => (?_ : WM _ 35 _ _ _ _), fun c4 => (?_ : WM _ 33 _ _ _ _)⟩
    · replace h := h.1 c4
      refine r_aload_n d_Cs_judged_35 rfl (?_ : WM _ 36 _ _ _ _)
      refine r_getR (k := 0) (j := 8) (q := 28) (by decide) rfl clk_10 (by decide) (qm_2 (i := 93) rfl rfl) rfl d_Cs_judged_36 (?_ : WM _ 39 _ _ _ _)
      refine r_callV (ν := M_Es_supposeNothing) (k := 28) [] ok_M_Es_supposeNothing okv_M_Es_supposeNothing (by decide) rfl rfl rfl (qm_9 (i := 36) rfl rfl) np_M_Es_supposeNothing rfl (by decide) (Nat.le_of_ble_eq_true rfl) rfl d_Cs_judged_39 (CV.k h (fun σ5 h => (?_ : WM _ 42 _ _ _ _)))
      refine r_aload_n d_Cs_judged_42 rfl (?_ : WM _ 43 _ _ _ _)
      refine r_getR (k := 0) (j := 8) (q := 28) (by decide) rfl clk_10 (by decide) (qm_2 (i := 93) rfl rfl) rfl d_Cs_judged_43 (?_ : WM _ 46 _ _ _ _)
      refine r_callV (ν := M_Es_isAccepted) (k := 28) [] ok_M_Es_isAccepted okv_M_Es_isAccepted (by decide) rfl rfl rfl (qm_10 (i := 103) rfl rfl) np_M_Es_isAccepted rfl (by decide) (Nat.le_of_ble_eq_true rfl) rfl d_Cs_judged_46 (CI.k h (fun v8 σ7 h => (?_ : WM _ 49 _ _ _ _)))
      refine r_if_eq 56 d_Cs_judged_49 rfl ⟨fun c9 => (?_ : WM _ 56 _ _ _ _), fun c9 => (?_ : WM _ 52 _ _ _ _)⟩
      · replace h := h.1 c9
        refine r_iconst d_Cs_judged_56 (by decide) (?_ : WM _ 57 _ _ _ _)
        exact r_ireturn rfl d_Cs_judged_57 h
      · replace h := h.2 c9
        refine r_iconst d_Cs_judged_52 (by decide) (?_ : WM _ 53 _ _ _ _)
        refine r_goto 57 d_Cs_judged_53 rfl ?_
        exact r_ireturn rfl d_Cs_judged_57 h
    · replace h := h.2 c4
      refine r_iconst d_Cs_judged_33 (by decide) (?_ : WM _ 34 _ _ _ _)
      exact r_ireturn rfl d_Cs_judged_34 h
  · replace h := h.2 c1
    refine r_iconst d_Cs_judged_10 (by decide) (?_ : WM _ 11 _ _ _ _)
    exact r_ireturn rfl d_Cs_judged_11 h
set_option maxRecDepth 20000 in
theorem e_Cs_covered {K : Int → St → Prop} {σ : St}  (h : CI M_Le_allCoins [vR 3] σ (fun v2 σ1 => (¬ v2 = 0 → WM M_Cs_covered 19 [(0, vR 0), (1, vI v2), (2, vL 0), (4, vI 0)] [] σ1 (QI K)) ∧ (v2 = 0 → K 0 σ1))) : CI M_Cs_covered [vR 0] σ K := by
  refine Con.of ok_M_Cs_covered (ls := [(0, vR 0)]) rfl (Nat.le_of_ble_eq_true rfl) ?_
  refine r_aload_n d_Cs_covered_0 rfl (?_ : WM _ 1 _ _ _ _)
  refine r_getR (k := 0) (j := 1) (q := 3) (by decide) rfl clk_10 (by decide) (qm_2 (i := 86) rfl rfl) rfl d_Cs_covered_1 (?_ : WM _ 4 _ _ _ _)
  refine r_callV (ν := M_Le_allCoins) (k := 3) [] ok_M_Le_allCoins okv_M_Le_allCoins (by decide) rfl rfl rfl (qm_5 (i := 211) rfl rfl) np_M_Le_allCoins rfl (by decide) (Nat.le_of_ble_eq_true rfl) rfl d_Cs_covered_4 (CI.k h (fun v2 σ1 h => (?_ : WM _ 7 _ _ _ _)))
  refine r_istore_n (ls' := [(1, vI v2), (0, vR 0)]) d_Cs_covered_7 rfl (by decide) rfl (?_ : WM _ 8 _ _ _ _)
  refine r_iload_n d_Cs_covered_8 rfl (?_ : WM _ 9 _ _ _ _)
  refine r_if_ne 14 d_Cs_covered_9 rfl ⟨fun c3 => (?_ : WM _ 14 _ _ _ _), fun c3 => (?_ : WM _ 12 _ _ _ _)⟩
  · replace h := h.1 c3
    refine r_lconst 0 d_Cs_covered_14 rfl (by decide) (?_ : WM _ 15 _ _ _ _)
    refine r_lstore_n (ls' := [(2, vL 0), (1, vI v2), (0, vR 0)]) d_Cs_covered_15 rfl (by decide) rfl (?_ : WM _ 16 _ _ _ _)
    refine r_iconst d_Cs_covered_16 (by decide) (?_ : WM _ 17 _ _ _ _)
    refine r_istore (ls' := [(4, vI 0), (2, vL 0), (1, vI v2), (0, vR 0)]) d_Cs_covered_17 (by decide) rfl (?_ : WM _ 19 _ _ _ _)
    refine r_pick (ls' := [(0, vR 0), (1, vI v2), (2, vL 0), (4, vI 0)]) [3, 2, 1, 0] rfl ?_
    exact h
  · replace h := h.2 c3
    refine r_iconst d_Cs_covered_12 (by decide) (?_ : WM _ 13 _ _ _ _)
    exact r_ireturn rfl d_Cs_covered_13 h
set_option maxRecDepth 20000 in
theorem l_Cs_covered_1 {K : Int → St → Prop} {σ : St} (x1 : Int) (x2 : Int) (x4 : Int) (h : ((σ 3 4) ≤ x4 → (inL (x2 * 1000)) ∧ (0 ≤ (x2 * 1000)) ∧ (0 < x1) ∧ (inR ((x2 * 1000) / x1)) ∧ K ((x2 * 1000) / x1) σ) ∧ (¬ (σ 3 4) ≤ x4 → CI M_Wa_isLookedAt [vR 20, vI x4, vI (σ 20 1)] σ (fun v10 σ9 => (v10 = 0 → (inR (x4 + 1)) ∧ WM M_Cs_covered 19 [(0, vR 0), (1, vI x1), (2, vL x2), (4, vI (x4 + 1))] [] σ9 (QI K)) ∧ (¬ v10 = 0 → CI M_Le_coinsOf [vR 3, vI x4] σ9 (fun v14 σ13 => (inL (x2 + v14)) ∧ (inR (x4 + 1)) ∧ WM M_Cs_covered 19 [(0, vR 0), (1, vI x1), (2, vL (x2 + v14)), (4, vI (x4 + 1))] [] σ13 (QI K)))))) : WM M_Cs_covered 19 [(0, vR 0), (1, vI x1), (2, vL x2), (4, vI x4)] [] σ (QI K) := by
  refine r_iload d_Cs_covered_19 rfl (?_ : WM _ 21 _ _ _ _)
  refine r_aload_n d_Cs_covered_21 rfl (?_ : WM _ 22 _ _ _ _)
  refine r_getR (k := 0) (j := 1) (q := 3) (by decide) rfl clk_10 (by decide) (qm_2 (i := 86) rfl rfl) rfl d_Cs_covered_22 (?_ : WM _ 25 _ _ _ _)
  refine r_getI (k := 3) (j := 4) 4 (by decide) rfl clk_3 (by decide) (qm_1 (i := 93) rfl rfl) rfl rfl d_Cs_covered_25 (y := (σ 3 4)) rfl (?_ : WM _ 28 _ _ _ _)
  refine r_icmp_ge 69 d_Cs_covered_28 rfl ⟨fun c4 => (?_ : WM _ 69 _ _ _ _), fun c4 => (?_ : WM _ 31 _ _ _ _)⟩
  · replace h := h.1 c4
    refine r_lload_n d_Cs_covered_69 rfl (?_ : WM _ 70 _ _ _ _)
    refine r_ldc2 1000 d_Cs_covered_70 (qm_10 (i := 17) rfl rfl) (by decide) (by decide) (?_ : WM _ 73 _ _ _ _)
    obtain ⟨h5, h⟩ := h
    refine r_lmul d_Cs_covered_73 h5 (?_ : WM _ 74 _ _ _ _)
    refine r_iload_n d_Cs_covered_74 rfl (?_ : WM _ 75 _ _ _ _)
    refine r_i2l d_Cs_covered_75 (?_ : WM _ 76 _ _ _ _)
    obtain ⟨h6, h⟩ := h
    obtain ⟨h7, h⟩ := h
    refine r_ldivn d_Cs_covered_76 h6 h7 (?_ : WM _ 77 _ _ _ _)
    obtain ⟨h8, h⟩ := h
    refine r_l2i d_Cs_covered_77 h8 (?_ : WM _ 78 _ _ _ _)
    exact r_ireturn rfl d_Cs_covered_78 h
  · replace h := h.2 c4
    refine r_aload_n d_Cs_covered_31 rfl (?_ : WM _ 32 _ _ _ _)
    refine r_getR (k := 0) (j := 6) (q := 20) (by decide) rfl clk_10 (by decide) (qm_2 (i := 91) rfl rfl) rfl d_Cs_covered_32 (?_ : WM _ 35 _ _ _ _)
    refine r_iload d_Cs_covered_35 rfl (?_ : WM _ 37 _ _ _ _)
    refine r_aload_n d_Cs_covered_37 rfl (?_ : WM _ 38 _ _ _ _)
    refine r_getR (k := 0) (j := 6) (q := 20) (by decide) rfl clk_10 (by decide) (qm_2 (i := 91) rfl rfl) rfl d_Cs_covered_38 (?_ : WM _ 41 _ _ _ _)
    refine r_getI (k := 20) (j := 1) 1 (by decide) rfl clk_9 (by decide) (qm_1 (i := 190) rfl rfl) rfl rfl d_Cs_covered_41 (y := (σ 20 1)) rfl (?_ : WM _ 44 _ _ _ _)
    refine r_callV (ν := M_Wa_isLookedAt) (k := 20) [vI x4, vI (σ 20 1)] ok_M_Wa_isLookedAt okv_M_Wa_isLookedAt (by decide) rfl rfl rfl (qm_9 (i := 212) rfl rfl) np_M_Wa_isLookedAt rfl (by decide) (Nat.le_of_ble_eq_true rfl) rfl d_Cs_covered_44 (CI.k h (fun v10 σ9 h => (?_ : WM _ 47 _ _ _ _)))
    refine r_if_eq 63 d_Cs_covered_47 rfl ⟨fun c11 => (?_ : WM _ 63 _ _ _ _), fun c11 => (?_ : WM _ 50 _ _ _ _)⟩
    · replace h := h.1 c11
      obtain ⟨h12, h⟩ := h
      refine r_iinc (ls' := [(4, vI (x4 + 1)), (0, vR 0), (1, vI x1), (2, vL x2)]) d_Cs_covered_63 rfl h12 (by decide) rfl (?_ : WM _ 66 _ _ _ _)
      refine r_goto 19 d_Cs_covered_66 rfl ?_
      refine r_pick (ls' := [(0, vR 0), (1, vI x1), (2, vL x2), (4, vI (x4 + 1))]) [1, 2, 3, 0] rfl ?_
      exact h
    · replace h := h.2 c11
      refine r_lload_n d_Cs_covered_50 rfl (?_ : WM _ 51 _ _ _ _)
      refine r_aload_n d_Cs_covered_51 rfl (?_ : WM _ 52 _ _ _ _)
      refine r_getR (k := 0) (j := 1) (q := 3) (by decide) rfl clk_10 (by decide) (qm_2 (i := 86) rfl rfl) rfl d_Cs_covered_52 (?_ : WM _ 55 _ _ _ _)
      refine r_iload d_Cs_covered_55 rfl (?_ : WM _ 57 _ _ _ _)
      refine r_callV (ν := M_Le_coinsOf) (k := 3) [vI x4] ok_M_Le_coinsOf okv_M_Le_coinsOf (by decide) rfl rfl rfl (qm_5 (i := 175) rfl rfl) np_M_Le_coinsOf rfl (by decide) (Nat.le_of_ble_eq_true rfl) rfl d_Cs_covered_57 (CI.k h (fun v14 σ13 h => (?_ : WM _ 60 _ _ _ _)))
      refine r_i2l d_Cs_covered_60 (?_ : WM _ 61 _ _ _ _)
      obtain ⟨h15, h⟩ := h
      refine r_ladd d_Cs_covered_61 h15 (?_ : WM _ 62 _ _ _ _)
      refine r_lstore_n (ls' := [(2, vL (x2 + v14)), (0, vR 0), (1, vI x1), (4, vI x4)]) d_Cs_covered_62 rfl (by decide) rfl (?_ : WM _ 63 _ _ _ _)
      obtain ⟨h16, h⟩ := h
      refine r_iinc (ls' := [(4, vI (x4 + 1)), (2, vL (x2 + v14)), (0, vR 0), (1, vI x1)]) d_Cs_covered_63 rfl h16 (by decide) rfl (?_ : WM _ 66 _ _ _ _)
      refine r_goto 19 d_Cs_covered_66 rfl ?_
      refine r_pick (ls' := [(0, vR 0), (1, vI x1), (2, vL (x2 + v14)), (4, vI (x4 + 1))]) [2, 3, 1, 0] rfl ?_
      exact h
set_option maxRecDepth 20000 in
theorem e_Cs_count {K : Int → St → Prop} {σ : St} (x1 : Int) (h : (x1 < 10 → (x1 = 0 → K (σ 3 4) σ) ∧ (x1 = 1 → CI M_Le_allCoins [vR 3] σ (fun v3 σ2 => K v3 σ2)) ∧ (x1 = 2 → K (σ 16 1) σ) ∧ (x1 = 3 → K (σ 16 0) σ) ∧ (x1 = 4 → K (σ 20 1) σ) ∧ (x1 = 5 → CI M_Wa_hitsOf [vR 20, vI (σ 20 1)] σ (fun v5 σ4 => K v5 σ4)) ∧ (x1 = 6 → CI M_Cs_itemsHit [vR 0] σ (fun v7 σ6 => K v7 σ6)) ∧ (x1 = 7 → K (σ 1 1) σ) ∧ (x1 = 8 → CI M_Le_auditedItems [vR 3] σ (fun v9 σ8 => K v9 σ8)) ∧ (x1 = 9 → K (σ 20 0) σ) ∧ (x1 < 0 ∨ 9 < x1 → K (-1) σ)) ∧ (¬ x1 < 10 → (inR (x1 - 10)) ∧ CI M_Te_has [vR 14, vI (x1 - 10)] σ (fun v12 σ11 => (v12 = 0 → (x1 = 0 → K (σ11 3 4) σ11) ∧ (x1 = 1 → CI M_Le_allCoins [vR 3] σ11 (fun v15 σ14 => K v15 σ14)) ∧ (x1 = 2 → K (σ11 16 1) σ11) ∧ (x1 = 3 → K (σ11 16 0) σ11) ∧ (x1 = 4 → K (σ11 20 1) σ11) ∧ (x1 = 5 → CI M_Wa_hitsOf [vR 20, vI (σ11 20 1)] σ11 (fun v17 σ16 => K v17 σ16)) ∧ (x1 = 6 → CI M_Cs_itemsHit [vR 0] σ11 (fun v19 σ18 => K v19 σ18)) ∧ (x1 = 7 → K (σ11 1 1) σ11) ∧ (x1 = 8 → CI M_Le_auditedItems [vR 3] σ11 (fun v21 σ20 => K v21 σ20)) ∧ (x1 = 9 → K (σ11 20 0) σ11) ∧ (x1 < 0 ∨ 9 < x1 → K (-1) σ11)) ∧ (¬ v12 = 0 → CI M_Te_of [vR 14, vI (x1 - 10)] σ11 (fun v23 σ22 => K v23 σ22))))) : CI M_Cs_count [vR 0, vI x1] σ K := by
  refine Con.of ok_M_Cs_count (ls := [(0, vR 0), (1, vI x1)]) rfl (Nat.le_of_ble_eq_true rfl) ?_
  refine r_iload_n d_Cs_count_0 rfl (?_ : WM _ 1 _ _ _ _)
  refine r_bipush d_Cs_count_1 (by decide) (by decide) (?_ : WM _ 3 _ _ _ _)
  refine r_icmp_lt 32 d_Cs_count_3 rfl ⟨fun c1 => (?_ : WM _ 32 _ _ _ _), fun c1 => (?_ : WM _ 6 _ _ _ _)⟩
  · replace h := h.1 c1
    refine r_iload_n d_Cs_count_32 rfl (?_ : WM _ 33 _ _ _ _)
    have hsw : (x1 = 0) ∨ (x1 = 1) ∨ (x1 = 2) ∨ (x1 = 3) ∨ (x1 = 4) ∨ (x1 = 5) ∨ (x1 = 6) ∨ (x1 = 7) ∨ (x1 = 8) ∨ (x1 = 9) ∨ (x1 < 0 ∨ 9 < x1) := by omega
    rcases hsw with hc | hc | hc | hc | hc | hc | hc | hc | hc | hc | hc
    · replace h := h.1 hc
      refine r_tswIn 88 d_Cs_count_33 (by omega) (by omega) (by rw [hc]; rfl) rfl ?_
      refine r_aload_n d_Cs_count_88 rfl (?_ : WM _ 89 _ _ _ _)
      refine r_getR (k := 0) (j := 1) (q := 3) (by decide) rfl clk_10 (by decide) (qm_2 (i := 86) rfl rfl) rfl d_Cs_count_89 (?_ : WM _ 92 _ _ _ _)
      refine r_getI (k := 3) (j := 4) 4 (by decide) rfl clk_3 (by decide) (qm_1 (i := 93) rfl rfl) rfl rfl d_Cs_count_92 (y := (σ 3 4)) rfl (?_ : WM _ 95 _ _ _ _)
      exact r_ireturn rfl d_Cs_count_95 h
    · replace h := h.2.1 hc
      refine r_tswIn 96 d_Cs_count_33 (by omega) (by omega) (by rw [hc]; rfl) rfl ?_
      refine r_aload_n d_Cs_count_96 rfl (?_ : WM _ 97 _ _ _ _)
      refine r_getR (k := 0) (j := 1) (q := 3) (by decide) rfl clk_10 (by decide) (qm_2 (i := 86) rfl rfl) rfl d_Cs_count_97 (?_ : WM _ 100 _ _ _ _)
      refine r_callV (ν := M_Le_allCoins) (k := 3) [] ok_M_Le_allCoins okv_M_Le_allCoins (by decide) rfl rfl rfl (qm_5 (i := 211) rfl rfl) np_M_Le_allCoins rfl (by decide) (Nat.le_of_ble_eq_true rfl) rfl d_Cs_count_100 (CI.k h (fun v3 σ2 h => (?_ : WM _ 103 _ _ _ _)))
      exact r_ireturn rfl d_Cs_count_103 h
    · replace h := h.2.2.1 hc
      refine r_tswIn 104 d_Cs_count_33 (by omega) (by omega) (by rw [hc]; rfl) rfl ?_
      refine r_aload_n d_Cs_count_104 rfl (?_ : WM _ 105 _ _ _ _)
      refine r_getR (k := 0) (j := 4) (q := 16) (by decide) rfl clk_10 (by decide) (qm_2 (i := 89) rfl rfl) rfl d_Cs_count_105 (?_ : WM _ 108 _ _ _ _)
      refine r_getI (k := 16) (j := 1) 1 (by decide) rfl clk_2 (by decide) (qm_1 (i := 161) rfl rfl) rfl rfl d_Cs_count_108 (y := (σ 16 1)) rfl (?_ : WM _ 111 _ _ _ _)
      exact r_ireturn rfl d_Cs_count_111 h
    · replace h := h.2.2.2.1 hc
      refine r_tswIn 112 d_Cs_count_33 (by omega) (by omega) (by rw [hc]; rfl) rfl ?_
      refine r_aload_n d_Cs_count_112 rfl (?_ : WM _ 113 _ _ _ _)
      refine r_getR (k := 0) (j := 4) (q := 16) (by decide) rfl clk_10 (by decide) (qm_2 (i := 89) rfl rfl) rfl d_Cs_count_113 (?_ : WM _ 116 _ _ _ _)
      refine r_getI (k := 16) (j := 0) 0 (by decide) rfl clk_2 (by decide) (qm_1 (i := 158) rfl rfl) rfl rfl d_Cs_count_116 (y := (σ 16 0)) rfl (?_ : WM _ 119 _ _ _ _)
      exact r_ireturn rfl d_Cs_count_119 h
    · replace h := h.2.2.2.2.1 hc
      refine r_tswIn 120 d_Cs_count_33 (by omega) (by omega) (by rw [hc]; rfl) rfl ?_
      refine r_aload_n d_Cs_count_120 rfl (?_ : WM _ 121 _ _ _ _)
      refine r_getR (k := 0) (j := 6) (q := 20) (by decide) rfl clk_10 (by decide) (qm_2 (i := 91) rfl rfl) rfl d_Cs_count_121 (?_ : WM _ 124 _ _ _ _)
      refine r_getI (k := 20) (j := 1) 1 (by decide) rfl clk_9 (by decide) (qm_1 (i := 190) rfl rfl) rfl rfl d_Cs_count_124 (y := (σ 20 1)) rfl (?_ : WM _ 127 _ _ _ _)
      exact r_ireturn rfl d_Cs_count_127 h
    · replace h := h.2.2.2.2.2.1 hc
      refine r_tswIn 128 d_Cs_count_33 (by omega) (by omega) (by rw [hc]; rfl) rfl ?_
      refine r_aload_n d_Cs_count_128 rfl (?_ : WM _ 129 _ _ _ _)
      refine r_getR (k := 0) (j := 6) (q := 20) (by decide) rfl clk_10 (by decide) (qm_2 (i := 91) rfl rfl) rfl d_Cs_count_129 (?_ : WM _ 132 _ _ _ _)
      refine r_aload_n d_Cs_count_132 rfl (?_ : WM _ 133 _ _ _ _)
      refine r_getR (k := 0) (j := 6) (q := 20) (by decide) rfl clk_10 (by decide) (qm_2 (i := 91) rfl rfl) rfl d_Cs_count_133 (?_ : WM _ 136 _ _ _ _)
      refine r_getI (k := 20) (j := 1) 1 (by decide) rfl clk_9 (by decide) (qm_1 (i := 190) rfl rfl) rfl rfl d_Cs_count_136 (y := (σ 20 1)) rfl (?_ : WM _ 139 _ _ _ _)
      refine r_callV (ν := M_Wa_hitsOf) (k := 20) [vI (σ 20 1)] ok_M_Wa_hitsOf okv_M_Wa_hitsOf (by decide) rfl rfl rfl (qm_10 (i := 162) rfl rfl) np_M_Wa_hitsOf rfl (by decide) (Nat.le_of_ble_eq_true rfl) rfl d_Cs_count_139 (CI.k h (fun v5 σ4 h => (?_ : WM _ 142 _ _ _ _)))
      exact r_ireturn rfl d_Cs_count_142 h
    · replace h := h.2.2.2.2.2.2.1 hc
      refine r_tswIn 143 d_Cs_count_33 (by omega) (by omega) (by rw [hc]; rfl) rfl ?_
      refine r_aload_n d_Cs_count_143 rfl (?_ : WM _ 144 _ _ _ _)
      refine r_callV (ν := M_Cs_itemsHit) (k := 0) [] ok_M_Cs_itemsHit okv_M_Cs_itemsHit (by decide) rfl rfl rfl (qm_10 (i := 163) rfl rfl) np_M_Cs_itemsHit rfl (by decide) (Nat.le_of_ble_eq_true rfl) rfl d_Cs_count_144 (CI.k h (fun v7 σ6 h => (?_ : WM _ 147 _ _ _ _)))
      exact r_ireturn rfl d_Cs_count_147 h
    · replace h := h.2.2.2.2.2.2.2.1 hc
      refine r_tswIn 148 d_Cs_count_33 (by omega) (by omega) (by rw [hc]; rfl) rfl ?_
      refine r_aload_n d_Cs_count_148 rfl (?_ : WM _ 149 _ _ _ _)
      refine r_getR (k := 0) (j := 0) (q := 1) (by decide) rfl clk_10 (by decide) (qm_2 (i := 85) rfl rfl) rfl d_Cs_count_149 (?_ : WM _ 152 _ _ _ _)
      refine r_getI (k := 1) (j := 1) 1 (by decide) rfl clk_7 (by decide) (qm_1 (i := 67) rfl rfl) rfl rfl d_Cs_count_152 (y := (σ 1 1)) rfl (?_ : WM _ 155 _ _ _ _)
      exact r_ireturn rfl d_Cs_count_155 h
    · replace h := h.2.2.2.2.2.2.2.2.1 hc
      refine r_tswIn 156 d_Cs_count_33 (by omega) (by omega) (by rw [hc]; rfl) rfl ?_
      refine r_aload_n d_Cs_count_156 rfl (?_ : WM _ 157 _ _ _ _)
      refine r_getR (k := 0) (j := 1) (q := 3) (by decide) rfl clk_10 (by decide) (qm_2 (i := 86) rfl rfl) rfl d_Cs_count_157 (?_ : WM _ 160 _ _ _ _)
      refine r_callV (ν := M_Le_auditedItems) (k := 3) [] ok_M_Le_auditedItems okv_M_Le_auditedItems (by decide) rfl rfl rfl (qm_10 (i := 167) rfl rfl) np_M_Le_auditedItems rfl (by decide) (Nat.le_of_ble_eq_true rfl) rfl d_Cs_count_160 (CI.k h (fun v9 σ8 h => (?_ : WM _ 163 _ _ _ _)))
      exact r_ireturn rfl d_Cs_count_163 h
    · replace h := h.2.2.2.2.2.2.2.2.2.1 hc
      refine r_tswIn 164 d_Cs_count_33 (by omega) (by omega) (by rw [hc]; rfl) rfl ?_
      refine r_aload_n d_Cs_count_164 rfl (?_ : WM _ 165 _ _ _ _)
      refine r_getR (k := 0) (j := 6) (q := 20) (by decide) rfl clk_10 (by decide) (qm_2 (i := 91) rfl rfl) rfl d_Cs_count_165 (?_ : WM _ 168 _ _ _ _)
      refine r_getI (k := 20) (j := 0) 0 (by decide) rfl clk_9 (by decide) (qm_1 (i := 186) rfl rfl) rfl rfl d_Cs_count_168 (y := (σ 20 0)) rfl (?_ : WM _ 171 _ _ _ _)
      exact r_ireturn rfl d_Cs_count_171 h
    · replace h := h.2.2.2.2.2.2.2.2.2.2 hc
      refine r_tswOut 172 d_Cs_count_33 hc rfl ?_
      refine r_iconst d_Cs_count_172 (by decide) (?_ : WM _ 173 _ _ _ _)
      exact r_ireturn rfl d_Cs_count_173 h
  · replace h := h.2 c1
    refine r_aload_n d_Cs_count_6 rfl (?_ : WM _ 7 _ _ _ _)
    refine r_getR (k := 0) (j := 3) (q := 14) (by decide) rfl clk_10 (by decide) (qm_2 (i := 88) rfl rfl) rfl d_Cs_count_7 (?_ : WM _ 10 _ _ _ _)
    refine r_iload_n d_Cs_count_10 rfl (?_ : WM _ 11 _ _ _ _)
    refine r_bipush d_Cs_count_11 (by decide) (by decide) (?_ : WM _ 13 _ _ _ _)
    obtain ⟨h10, h⟩ := h
    refine r_isub d_Cs_count_13 h10 (?_ : WM _ 14 _ _ _ _)
    refine r_callV (ν := M_Te_has) (k := 14) [vI (x1 - 10)] ok_M_Te_has okv_M_Te_has (by decide) rfl rfl rfl (qm_5 (i := 135) rfl rfl) np_M_Te_has rfl (by decide) (Nat.le_of_ble_eq_true rfl) rfl d_Cs_count_14 (CI.k h (fun v12 σ11 h => (?_ : WM _ 17 _ _ _ _)))
    refine r_if_eq 32 d_Cs_count_17 rfl ⟨fun c13 => (?_ : WM _ 32 _ _ _ _), fun c13 => (?_ : WM _ 20 _ _ _ _)⟩
    · replace h := h.1 c13
      refine r_iload_n d_Cs_count_32 rfl (?_ : WM _ 33 _ _ _ _)
      have hsw : (x1 = 0) ∨ (x1 = 1) ∨ (x1 = 2) ∨ (x1 = 3) ∨ (x1 = 4) ∨ (x1 = 5) ∨ (x1 = 6) ∨ (x1 = 7) ∨ (x1 = 8) ∨ (x1 = 9) ∨ (x1 < 0 ∨ 9 < x1) := by omega
      rcases hsw with hc | hc | hc | hc | hc | hc | hc | hc | hc | hc | hc
      · replace h := h.1 hc
        refine r_tswIn 88 d_Cs_count_33 (by omega) (by omega) (by rw [hc]; rfl) rfl ?_
        refine r_aload_n d_Cs_count_88 rfl (?_ : WM _ 89 _ _ _ _)
        refine r_getR (k := 0) (j := 1) (q := 3) (by decide) rfl clk_10 (by decide) (qm_2 (i := 86) rfl rfl) rfl d_Cs_count_89 (?_ : WM _ 92 _ _ _ _)
        refine r_getI (k := 3) (j := 4) 4 (by decide) rfl clk_3 (by decide) (qm_1 (i := 93) rfl rfl) rfl rfl d_Cs_count_92 (y := (σ11 3 4)) rfl (?_ : WM _ 95 _ _ _ _)
        exact r_ireturn rfl d_Cs_count_95 h
      · replace h := h.2.1 hc
        refine r_tswIn 96 d_Cs_count_33 (by omega) (by omega) (by rw [hc]; rfl) rfl ?_
        refine r_aload_n d_Cs_count_96 rfl (?_ : WM _ 97 _ _ _ _)
        refine r_getR (k := 0) (j := 1) (q := 3) (by decide) rfl clk_10 (by decide) (qm_2 (i := 86) rfl rfl) rfl d_Cs_count_97 (?_ : WM _ 100 _ _ _ _)
        refine r_callV (ν := M_Le_allCoins) (k := 3) [] ok_M_Le_allCoins okv_M_Le_allCoins (by decide) rfl rfl rfl (qm_5 (i := 211) rfl rfl) np_M_Le_allCoins rfl (by decide) (Nat.le_of_ble_eq_true rfl) rfl d_Cs_count_100 (CI.k h (fun v15 σ14 h => (?_ : WM _ 103 _ _ _ _)))
        exact r_ireturn rfl d_Cs_count_103 h
      · replace h := h.2.2.1 hc
        refine r_tswIn 104 d_Cs_count_33 (by omega) (by omega) (by rw [hc]; rfl) rfl ?_
        refine r_aload_n d_Cs_count_104 rfl (?_ : WM _ 105 _ _ _ _)
        refine r_getR (k := 0) (j := 4) (q := 16) (by decide) rfl clk_10 (by decide) (qm_2 (i := 89) rfl rfl) rfl d_Cs_count_105 (?_ : WM _ 108 _ _ _ _)
        refine r_getI (k := 16) (j := 1) 1 (by decide) rfl clk_2 (by decide) (qm_1 (i := 161) rfl rfl) rfl rfl d_Cs_count_108 (y := (σ11 16 1)) rfl (?_ : WM _ 111 _ _ _ _)
        exact r_ireturn rfl d_Cs_count_111 h
      · replace h := h.2.2.2.1 hc
        refine r_tswIn 112 d_Cs_count_33 (by omega) (by omega) (by rw [hc]; rfl) rfl ?_
        refine r_aload_n d_Cs_count_112 rfl (?_ : WM _ 113 _ _ _ _)
        refine r_getR (k := 0) (j := 4) (q := 16) (by decide) rfl clk_10 (by decide) (qm_2 (i := 89) rfl rfl) rfl d_Cs_count_113 (?_ : WM _ 116 _ _ _ _)
        refine r_getI (k := 16) (j := 0) 0 (by decide) rfl clk_2 (by decide) (qm_1 (i := 158) rfl rfl) rfl rfl d_Cs_count_116 (y := (σ11 16 0)) rfl (?_ : WM _ 119 _ _ _ _)
        exact r_ireturn rfl d_Cs_count_119 h
      · replace h := h.2.2.2.2.1 hc
        refine r_tswIn 120 d_Cs_count_33 (by omega) (by omega) (by rw [hc]; rfl) rfl ?_
        refine r_aload_n d_Cs_count_120 rfl (?_ : WM _ 121 _ _ _ _)
        refine r_getR (k := 0) (j := 6) (q := 20) (by decide) rfl clk_10 (by decide) (qm_2 (i := 91) rfl rfl) rfl d_Cs_count_121 (?_ : WM _ 124 _ _ _ _)
        refine r_getI (k := 20) (j := 1) 1 (by decide) rfl clk_9 (by decide) (qm_1 (i := 190) rfl rfl) rfl rfl d_Cs_count_124 (y := (σ11 20 1)) rfl (?_ : WM _ 127 _ _ _ _)
        exact r_ireturn rfl d_Cs_count_127 h
      · replace h := h.2.2.2.2.2.1 hc
        refine r_tswIn 128 d_Cs_count_33 (by omega) (by omega) (by rw [hc]; rfl) rfl ?_
        refine r_aload_n d_Cs_count_128 rfl (?_ : WM _ 129 _ _ _ _)
        refine r_getR (k := 0) (j := 6) (q := 20) (by decide) rfl clk_10 (by decide) (qm_2 (i := 91) rfl rfl) rfl d_Cs_count_129 (?_ : WM _ 132 _ _ _ _)
        refine r_aload_n d_Cs_count_132 rfl (?_ : WM _ 133 _ _ _ _)
        refine r_getR (k := 0) (j := 6) (q := 20) (by decide) rfl clk_10 (by decide) (qm_2 (i := 91) rfl rfl) rfl d_Cs_count_133 (?_ : WM _ 136 _ _ _ _)
        refine r_getI (k := 20) (j := 1) 1 (by decide) rfl clk_9 (by decide) (qm_1 (i := 190) rfl rfl) rfl rfl d_Cs_count_136 (y := (σ11 20 1)) rfl (?_ : WM _ 139 _ _ _ _)
        refine r_callV (ν := M_Wa_hitsOf) (k := 20) [vI (σ11 20 1)] ok_M_Wa_hitsOf okv_M_Wa_hitsOf (by decide) rfl rfl rfl (qm_10 (i := 162) rfl rfl) np_M_Wa_hitsOf rfl (by decide) (Nat.le_of_ble_eq_true rfl) rfl d_Cs_count_139 (CI.k h (fun v17 σ16 h => (?_ : WM _ 142 _ _ _ _)))
        exact r_ireturn rfl d_Cs_count_142 h
      · replace h := h.2.2.2.2.2.2.1 hc
        refine r_tswIn 143 d_Cs_count_33 (by omega) (by omega) (by rw [hc]; rfl) rfl ?_
        refine r_aload_n d_Cs_count_143 rfl (?_ : WM _ 144 _ _ _ _)
        refine r_callV (ν := M_Cs_itemsHit) (k := 0) [] ok_M_Cs_itemsHit okv_M_Cs_itemsHit (by decide) rfl rfl rfl (qm_10 (i := 163) rfl rfl) np_M_Cs_itemsHit rfl (by decide) (Nat.le_of_ble_eq_true rfl) rfl d_Cs_count_144 (CI.k h (fun v19 σ18 h => (?_ : WM _ 147 _ _ _ _)))
        exact r_ireturn rfl d_Cs_count_147 h
      · replace h := h.2.2.2.2.2.2.2.1 hc
        refine r_tswIn 148 d_Cs_count_33 (by omega) (by omega) (by rw [hc]; rfl) rfl ?_
        refine r_aload_n d_Cs_count_148 rfl (?_ : WM _ 149 _ _ _ _)
        refine r_getR (k := 0) (j := 0) (q := 1) (by decide) rfl clk_10 (by decide) (qm_2 (i := 85) rfl rfl) rfl d_Cs_count_149 (?_ : WM _ 152 _ _ _ _)
        refine r_getI (k := 1) (j := 1) 1 (by decide) rfl clk_7 (by decide) (qm_1 (i := 67) rfl rfl) rfl rfl d_Cs_count_152 (y := (σ11 1 1)) rfl (?_ : WM _ 155 _ _ _ _)
        exact r_ireturn rfl d_Cs_count_155 h
      · replace h := h.2.2.2.2.2.2.2.2.1 hc
        refine r_tswIn 156 d_Cs_count_33 (by omega) (by omega) (by rw [hc]; rfl) rfl ?_
        refine r_aload_n d_Cs_count_156 rfl (?_ : WM _ 157 _ _ _ _)
        refine r_getR (k := 0) (j := 1) (q := 3) (by decide) rfl clk_10 (by decide) (qm_2 (i := 86) rfl rfl) rfl d_Cs_count_157 (?_ : WM _ 160 _ _ _ _)
        refine r_callV (ν := M_Le_auditedItems) (k := 3) [] ok_M_Le_auditedItems okv_M_Le_auditedItems (by decide) rfl rfl rfl (qm_10 (i := 167) rfl rfl) np_M_Le_auditedItems rfl (by decide) (Nat.le_of_ble_eq_true rfl) rfl d_Cs_count_160 (CI.k h (fun v21 σ20 h => (?_ : WM _ 163 _ _ _ _)))
        exact r_ireturn rfl d_Cs_count_163 h
      · replace h := h.2.2.2.2.2.2.2.2.2.1 hc
        refine r_tswIn 164 d_Cs_count_33 (by omega) (by omega) (by rw [hc]; rfl) rfl ?_
        refine r_aload_n d_Cs_count_164 rfl (?_ : WM _ 165 _ _ _ _)
        refine r_getR (k := 0) (j := 6) (q := 20) (by decide) rfl clk_10 (by decide) (qm_2 (i := 91) rfl rfl) rfl d_Cs_count_165 (?_ : WM _ 168 _ _ _ _)
        refine r_getI (k := 20) (j := 0) 0 (by decide) rfl clk_9 (by decide) (qm_1 (i := 186) rfl rfl) rfl rfl d_Cs_count_168 (y := (σ11 20 0)) rfl (?_ : WM _ 171 _ _ _ _)
        exact r_ireturn rfl d_Cs_count_171 h
      · replace h := h.2.2.2.2.2.2.2.2.2.2 hc
        refine r_tswOut 172 d_Cs_count_33 hc rfl ?_
        refine r_iconst d_Cs_count_172 (by decide) (?_ : WM _ 173 _ _ _ _)
        exact r_ireturn rfl d_Cs_count_173 h
    · replace h := h.2 c13
      refine r_aload_n d_Cs_count_20 rfl (?_ : WM _ 21 _ _ _ _)
      refine r_getR (k := 0) (j := 3) (q := 14) (by decide) rfl clk_10 (by decide) (qm_2 (i := 88) rfl rfl) rfl d_Cs_count_21 (?_ : WM _ 24 _ _ _ _)
      refine r_iload_n d_Cs_count_24 rfl (?_ : WM _ 25 _ _ _ _)
      refine r_bipush d_Cs_count_25 (by decide) (by decide) (?_ : WM _ 27 _ _ _ _)
      refine r_isub d_Cs_count_27 h10 (?_ : WM _ 28 _ _ _ _)
      refine r_callV (ν := M_Te_of) (k := 14) [vI (x1 - 10)] ok_M_Te_of okv_M_Te_of (by decide) rfl rfl rfl (qm_2 (i := 77) rfl rfl) np_M_Te_of rfl (by decide) (Nat.le_of_ble_eq_true rfl) rfl d_Cs_count_28 (CI.k h (fun v23 σ22 h => (?_ : WM _ 31 _ _ _ _)))
      exact r_ireturn rfl d_Cs_count_31 h
set_option maxRecDepth 20000 in
theorem e_Cs_isBook {K : Int → St → Prop} {σ : St} (x0 : Int) (h : (x0 < (-99999) → K 0 σ) ∧ (¬ x0 < (-99999) → (99999 < x0 → K 0 σ) ∧ (¬ 99999 < x0 → K 1 σ))) : CI M_Cs_isBook [vI x0] σ K := by
  refine Con.of ok_M_Cs_isBook (ls := [(0, vI x0)]) rfl (Nat.le_of_ble_eq_true rfl) ?_
  refine r_iload_n d_Cs_isBook_0 rfl (?_ : WM _ 1 _ _ _ _)
  refine r_ldcw (-99999) d_Cs_isBook_1 (qm_5 (i := 157) rfl rfl) (by decide) (by decide) (?_ : WM _ 4 _ _ _ _)
  refine r_icmp_lt 17 d_Cs_isBook_4 rfl ⟨fun c1 => (?_ : WM _ 17 _ _ _ _), fun c1 => (?_ : WM _ 7 _ _ _ _)⟩
  · replace h := h.1 c1
    refine r_iconst d_Cs_isBook_17 (by decide) (?_ : WM _ 18 _ _ _ _)
    exact r_zreturn rfl d_Cs_isBook_18 (by decide) h
  · replace h := h.2 c1
    refine r_iload_n d_Cs_isBook_7 rfl (?_ : WM _ 8 _ _ _ _)
    refine r_ldc 99999 d_Cs_isBook_8 (qm_5 (i := 158) rfl rfl) (by decide) (by decide) (?_ : WM _ 10 _ _ _ _)
    refine r_icmp_gt 17 d_Cs_isBook_10 rfl ⟨fun c2 => (?_ : WM _ 17 _ _ _ _), fun c2 => (?_ : WM _ 13 _ _ _ _)⟩
    · replace h := h.1 c2
      refine r_iconst d_Cs_isBook_17 (by decide) (?_ : WM _ 18 _ _ _ _)
      exact r_zreturn rfl d_Cs_isBook_18 (by decide) h
    · replace h := h.2 c2
      refine r_iconst d_Cs_isBook_13 (by decide) (?_ : WM _ 14 _ _ _ _)
      refine r_goto 18 d_Cs_isBook_14 rfl ?_
      exact r_zreturn rfl d_Cs_isBook_18 (by decide) h
set_option maxRecDepth 20000 in
theorem e_Cs_listed {K : Int → St → Prop} {σ : St} (x1 : Int) (x2 : Int) (h : ((-1) ≤ x2 → WM M_Cs_listed 13 [(0, vR 0), (1, vI x1), (2, vI x2), (3, vI 0), (4, vI 0)] [] σ (QI K)) ∧ (¬ (-1) ≤ x2 → K (-3) σ)) : CI M_Cs_listed [vR 0, vI x1, vI x2] σ K := by
  refine Con.of ok_M_Cs_listed (ls := [(0, vR 0), (1, vI x1), (2, vI x2)]) rfl (Nat.le_of_ble_eq_true rfl) ?_
  refine r_iload_n d_Cs_listed_0 rfl (?_ : WM _ 1 _ _ _ _)
  refine r_iconst d_Cs_listed_1 (by decide) (?_ : WM _ 2 _ _ _ _)
  refine r_icmp_ge 8 d_Cs_listed_2 rfl ⟨fun c1 => (?_ : WM _ 8 _ _ _ _), fun c1 => (?_ : WM _ 5 _ _ _ _)⟩
  · replace h := h.1 c1
    refine r_iconst d_Cs_listed_8 (by decide) (?_ : WM _ 9 _ _ _ _)
    refine r_istore_n (ls' := [(3, vI 0), (0, vR 0), (1, vI x1), (2, vI x2)]) d_Cs_listed_9 rfl (by decide) rfl (?_ : WM _ 10 _ _ _ _)
    refine r_iconst d_Cs_listed_10 (by decide) (?_ : WM _ 11 _ _ _ _)
    refine r_istore (ls' := [(4, vI 0), (3, vI 0), (0, vR 0), (1, vI x1), (2, vI x2)]) d_Cs_listed_11 (by decide) rfl (?_ : WM _ 13 _ _ _ _)
    refine r_pick (ls' := [(0, vR 0), (1, vI x1), (2, vI x2), (3, vI 0), (4, vI 0)]) [2, 3, 4, 1, 0] rfl ?_
    exact h
  · replace h := h.2 c1
    refine r_bipush d_Cs_listed_5 (by decide) (by decide) (?_ : WM _ 7 _ _ _ _)
    exact r_ireturn rfl d_Cs_listed_7 h
set_option maxRecDepth 20000 in
theorem l_Cs_listed_1 {K : Int → St → Prop} {σ : St} (x1 : Int) (x2 : Int) (x3 : Int) (x4 : Int) (h : ((σ 3 4) ≤ x4 → (¬ x2 = (-1) → K (-1) σ) ∧ (x2 = (-1) → K x3 σ)) ∧ (¬ (σ 3 4) ≤ x4 → CI M_Cs_isOfKind [vR 0, vI x1, vI x4] σ (fun v5 σ4 => (v5 = 0 → (inR (x4 + 1)) ∧ WM M_Cs_listed 13 [(0, vR 0), (1, vI x1), (2, vI x2), (3, vI x3), (4, vI (x4 + 1))] [] σ4 (QI K)) ∧ (¬ v5 = 0 → (¬ x3 = x2 → (inR (x3 + 1)) ∧ (inR (x4 + 1)) ∧ WM M_Cs_listed 13 [(0, vR 0), (1, vI x1), (2, vI x2), (3, vI (x3 + 1)), (4, vI (x4 + 1))] [] σ4 (QI K)) ∧ (x3 = x2 → K x4 σ4))))) : WM M_Cs_listed 13 [(0, vR 0), (1, vI x1), (2, vI x2), (3, vI x3), (4, vI x4)] [] σ (QI K) := by
  refine r_iload d_Cs_listed_13 rfl (?_ : WM _ 15 _ _ _ _)
  refine r_aload_n d_Cs_listed_15 rfl (?_ : WM _ 16 _ _ _ _)
  refine r_getR (k := 0) (j := 1) (q := 3) (by decide) rfl clk_10 (by decide) (qm_2 (i := 86) rfl rfl) rfl d_Cs_listed_16 (?_ : WM _ 19 _ _ _ _)
  refine r_getI (k := 3) (j := 4) 4 (by decide) rfl clk_3 (by decide) (qm_1 (i := 93) rfl rfl) rfl rfl d_Cs_listed_19 (y := (σ 3 4)) rfl (?_ : WM _ 22 _ _ _ _)
  refine r_icmp_ge 52 d_Cs_listed_22 rfl ⟨fun c2 => (?_ : WM _ 52 _ _ _ _), fun c2 => (?_ : WM _ 25 _ _ _ _)⟩
  · replace h := h.1 c2
    refine r_iload_n d_Cs_listed_52 rfl (?_ : WM _ 53 _ _ _ _)
    refine r_iconst d_Cs_listed_53 (by decide) (?_ : WM _ 54 _ _ _ _)
    refine r_icmp_ne 61 d_Cs_listed_54 rfl ⟨fun c3 => (?_ : WM _ 61 _ _ _ _), fun c3 => (?_ : WM _ 57 _ _ _ _)⟩
    · replace h := h.1 c3
      refine r_iconst d_Cs_listed_61 (by decide) (?_ : WM _ 62 _ _ _ _)
      exact r_ireturn rfl d_Cs_listed_62 h
    · replace h := h.2 c3
      refine r_iload_n d_Cs_listed_57 rfl (?_ : WM _ 58 _ _ _ _)
      refine r_goto 62 d_Cs_listed_58 rfl ?_
      exact r_ireturn rfl d_Cs_listed_62 h
  · replace h := h.2 c2
    refine r_aload_n d_Cs_listed_25 rfl (?_ : WM _ 26 _ _ _ _)
    refine r_iload_n d_Cs_listed_26 rfl (?_ : WM _ 27 _ _ _ _)
    refine r_iload d_Cs_listed_27 rfl (?_ : WM _ 29 _ _ _ _)
    refine r_callV (ν := M_Cs_isOfKind) (k := 0) [vI x1, vI x4] ok_M_Cs_isOfKind okv_M_Cs_isOfKind (by decide) rfl rfl rfl (qm_9 (i := 207) rfl rfl) np_M_Cs_isOfKind rfl (by decide) (Nat.le_of_ble_eq_true rfl) rfl d_Cs_listed_29 (CI.k h (fun v5 σ4 h => (?_ : WM _ 32 _ _ _ _)))
    refine r_if_eq 46 d_Cs_listed_32 rfl ⟨fun c6 => (?_ : WM _ 46 _ _ _ _), fun c6 => (?_ : WM _ 35 _ _ _ _)⟩
    · replace h := h.1 c6
      obtain ⟨h7, h⟩ := h
      refine r_iinc (ls' := [(4, vI (x4 + 1)), (0, vR 0), (1, vI x1), (2, vI x2), (3, vI x3)]) d_Cs_listed_46 rfl h7 (by decide) rfl (?_ : WM _ 49 _ _ _ _)
      refine r_goto 13 d_Cs_listed_49 rfl ?_
      refine r_pick (ls' := [(0, vR 0), (1, vI x1), (2, vI x2), (3, vI x3), (4, vI (x4 + 1))]) [1, 2, 3, 4, 0] rfl ?_
      exact h
    · replace h := h.2 c6
      refine r_iload_n d_Cs_listed_35 rfl (?_ : WM _ 36 _ _ _ _)
      refine r_iload_n d_Cs_listed_36 rfl (?_ : WM _ 37 _ _ _ _)
      refine r_icmp_ne 43 d_Cs_listed_37 rfl ⟨fun c8 => (?_ : WM _ 43 _ _ _ _), fun c8 => (?_ : WM _ 40 _ _ _ _)⟩
      · replace h := h.1 c8
        obtain ⟨h9, h⟩ := h
        refine r_iinc (ls' := [(3, vI (x3 + 1)), (0, vR 0), (1, vI x1), (2, vI x2), (4, vI x4)]) d_Cs_listed_43 rfl h9 (by decide) rfl (?_ : WM _ 46 _ _ _ _)
        obtain ⟨h10, h⟩ := h
        refine r_iinc (ls' := [(4, vI (x4 + 1)), (3, vI (x3 + 1)), (0, vR 0), (1, vI x1), (2, vI x2)]) d_Cs_listed_46 rfl h10 (by decide) rfl (?_ : WM _ 49 _ _ _ _)
        refine r_goto 13 d_Cs_listed_49 rfl ?_
        refine r_pick (ls' := [(0, vR 0), (1, vI x1), (2, vI x2), (3, vI (x3 + 1)), (4, vI (x4 + 1))]) [2, 3, 4, 1, 0] rfl ?_
        exact h
      · replace h := h.2 c8
        refine r_iload d_Cs_listed_40 rfl (?_ : WM _ 42 _ _ _ _)
        exact r_ireturn rfl d_Cs_listed_42 h
set_option maxRecDepth 20000 in
theorem e_Cs_shareOf {K : Int → St → Prop} {σ : St} (x1 : Int) (x2 : Int) (h : (x2 = 0 → K 1 σ) ∧ (x2 = 1 → (0 ≤ x1) ∧ (x1 < 48) ∧ K (σ 6 x1) σ) ∧ (x2 = 2 → CI M_Wa_timesHit [vR 20, vI x1, vI (σ 20 1)] σ (fun v4 σ3 => K v4 σ3)) ∧ (x2 = 3 → CI M_Le_errorOf [vR 3, vI x1] σ (fun v6 σ5 => K v6 σ5)) ∧ (x2 = 4 → CI M_La_isCertain [vR 16, vI x1] σ (fun v8 σ7 => (v8 = 0 → K 0 σ7) ∧ (¬ v8 = 0 → K 1 σ7))) ∧ (x2 < 0 ∨ 4 < x2 → CI M_Es_projectionOfHit [vR 28, vI x1] σ (fun v11 σ10 => CI M_Wa_timesHit [vR 20, vI x1, vI (σ10 20 1)] σ10 (fun v13 σ12 => (inR (v11 * v13)) ∧ K (v11 * v13) σ12)))) : CI M_Cs_shareOf [vR 0, vI x1, vI x2] σ K := by
  refine Con.of ok_M_Cs_shareOf (ls := [(0, vR 0), (1, vI x1), (2, vI x2)]) rfl (Nat.le_of_ble_eq_true rfl) ?_
  refine r_iload_n d_Cs_shareOf_0 rfl (?_ : WM _ 1 _ _ _ _)
  have hsw : (x2 = 0) ∨ (x2 = 1) ∨ (x2 = 2) ∨ (x2 = 3) ∨ (x2 = 4) ∨ (x2 < 0 ∨ 4 < x2) := by omega
  rcases hsw with hc | hc | hc | hc | hc | hc
  · replace h := h.1 hc
    refine r_tswIn 36 d_Cs_shareOf_1 (by omega) (by omega) (by rw [hc]; rfl) rfl ?_
    refine r_iconst d_Cs_shareOf_36 (by decide) (?_ : WM _ 37 _ _ _ _)
    exact r_ireturn rfl d_Cs_shareOf_37 h
  · replace h := h.2.1 hc
    refine r_tswIn 38 d_Cs_shareOf_1 (by omega) (by omega) (by rw [hc]; rfl) rfl ?_
    refine r_aload_n d_Cs_shareOf_38 rfl (?_ : WM _ 39 _ _ _ _)
    refine r_getR (k := 0) (j := 1) (q := 3) (by decide) rfl clk_10 (by decide) (qm_2 (i := 86) rfl rfl) rfl d_Cs_shareOf_39 (?_ : WM _ 42 _ _ _ _)
    refine r_getR (k := 3) (j := 2) (q := 6) (by decide) rfl clk_3 (by decide) (qm_1 (i := 86) rfl rfl) rfl d_Cs_shareOf_42 (?_ : WM _ 45 _ _ _ _)
    refine r_iload_n d_Cs_shareOf_45 rfl (?_ : WM _ 46 _ _ _ _)
    obtain ⟨h1, h⟩ := h
    obtain ⟨h2, h⟩ := h
    refine r_iald (k := 6) (n := 48) (by decide) rfl d_Cs_shareOf_46 h1 h2 (y := (σ 6 x1)) rfl (?_ : WM _ 47 _ _ _ _)
    exact r_ireturn rfl d_Cs_shareOf_47 h
  · replace h := h.2.2.1 hc
    refine r_tswIn 48 d_Cs_shareOf_1 (by omega) (by omega) (by rw [hc]; rfl) rfl ?_
    refine r_aload_n d_Cs_shareOf_48 rfl (?_ : WM _ 49 _ _ _ _)
    refine r_getR (k := 0) (j := 6) (q := 20) (by decide) rfl clk_10 (by decide) (qm_2 (i := 91) rfl rfl) rfl d_Cs_shareOf_49 (?_ : WM _ 52 _ _ _ _)
    refine r_iload_n d_Cs_shareOf_52 rfl (?_ : WM _ 53 _ _ _ _)
    refine r_aload_n d_Cs_shareOf_53 rfl (?_ : WM _ 54 _ _ _ _)
    refine r_getR (k := 0) (j := 6) (q := 20) (by decide) rfl clk_10 (by decide) (qm_2 (i := 91) rfl rfl) rfl d_Cs_shareOf_54 (?_ : WM _ 57 _ _ _ _)
    refine r_getI (k := 20) (j := 1) 1 (by decide) rfl clk_9 (by decide) (qm_1 (i := 190) rfl rfl) rfl rfl d_Cs_shareOf_57 (y := (σ 20 1)) rfl (?_ : WM _ 60 _ _ _ _)
    refine r_callV (ν := M_Wa_timesHit) (k := 20) [vI x1, vI (σ 20 1)] ok_M_Wa_timesHit okv_M_Wa_timesHit (by decide) rfl rfl rfl (qm_6 (i := 232) rfl rfl) np_M_Wa_timesHit rfl (by decide) (Nat.le_of_ble_eq_true rfl) rfl d_Cs_shareOf_60 (CI.k h (fun v4 σ3 h => (?_ : WM _ 63 _ _ _ _)))
    exact r_ireturn rfl d_Cs_shareOf_63 h
  · replace h := h.2.2.2.1 hc
    refine r_tswIn 64 d_Cs_shareOf_1 (by omega) (by omega) (by rw [hc]; rfl) rfl ?_
    refine r_aload_n d_Cs_shareOf_64 rfl (?_ : WM _ 65 _ _ _ _)
    refine r_getR (k := 0) (j := 1) (q := 3) (by decide) rfl clk_10 (by decide) (qm_2 (i := 86) rfl rfl) rfl d_Cs_shareOf_65 (?_ : WM _ 68 _ _ _ _)
    refine r_iload_n d_Cs_shareOf_68 rfl (?_ : WM _ 69 _ _ _ _)
    refine r_callV (ν := M_Le_errorOf) (k := 3) [vI x1] ok_M_Le_errorOf okv_M_Le_errorOf (by decide) rfl rfl rfl (qm_6 (i := 217) rfl rfl) np_M_Le_errorOf rfl (by decide) (Nat.le_of_ble_eq_true rfl) rfl d_Cs_shareOf_69 (CI.k h (fun v6 σ5 h => (?_ : WM _ 72 _ _ _ _)))
    exact r_ireturn rfl d_Cs_shareOf_72 h
  · replace h := h.2.2.2.2.1 hc
    refine r_tswIn 73 d_Cs_shareOf_1 (by omega) (by omega) (by rw [hc]; rfl) rfl ?_
    refine r_aload_n d_Cs_shareOf_73 rfl (?_ : WM _ 74 _ _ _ _)
    refine r_getR (k := 0) (j := 4) (q := 16) (by decide) rfl clk_10 (by decide) (qm_2 (i := 89) rfl rfl) rfl d_Cs_shareOf_74 (?_ : WM _ 77 _ _ _ _)
    refine r_iload_n d_Cs_shareOf_77 rfl (?_ : WM _ 78 _ _ _ _)
    refine r_callV (ν := M_La_isCertain) (k := 16) [vI x1] ok_M_La_isCertain okv_M_La_isCertain (by decide) rfl rfl rfl (qm_6 (i := 231) rfl rfl) np_M_La_isCertain rfl (by decide) (Nat.le_of_ble_eq_true rfl) rfl d_Cs_shareOf_78 (CI.k h (fun v8 σ7 h => (?_ : WM _ 81 _ _ _ _)))
    refine r_if_eq 88 d_Cs_shareOf_81 rfl ⟨fun c9 => (?_ : WM _ 88 _ _ _ _), fun c9 => (?_ : WM _ 84 _ _ _ _)⟩
    · replace h := h.1 c9
      refine r_iconst d_Cs_shareOf_88 (by decide) (?_ : WM _ 89 _ _ _ _)
      exact r_ireturn rfl d_Cs_shareOf_89 h
    · replace h := h.2 c9
      refine r_iconst d_Cs_shareOf_84 (by decide) (?_ : WM _ 85 _ _ _ _)
      refine r_goto 89 d_Cs_shareOf_85 rfl ?_
      exact r_ireturn rfl d_Cs_shareOf_89 h
  · replace h := h.2.2.2.2.2 hc
    refine r_tswOut 90 d_Cs_shareOf_1 hc rfl ?_
    refine r_aload_n d_Cs_shareOf_90 rfl (?_ : WM _ 91 _ _ _ _)
    refine r_getR (k := 0) (j := 8) (q := 28) (by decide) rfl clk_10 (by decide) (qm_2 (i := 93) rfl rfl) rfl d_Cs_shareOf_91 (?_ : WM _ 94 _ _ _ _)
    refine r_iload_n d_Cs_shareOf_94 rfl (?_ : WM _ 95 _ _ _ _)
    refine r_callV (ν := M_Es_projectionOfHit) (k := 28) [vI x1] ok_M_Es_projectionOfHit okv_M_Es_projectionOfHit (by decide) rfl rfl rfl (qm_9 (i := 50) rfl rfl) np_M_Es_projectionOfHit rfl (by decide) (Nat.le_of_ble_eq_true rfl) rfl d_Cs_shareOf_95 (CI.k h (fun v11 σ10 h => (?_ : WM _ 98 _ _ _ _)))
    refine r_aload_n d_Cs_shareOf_98 rfl (?_ : WM _ 99 _ _ _ _)
    refine r_getR (k := 0) (j := 6) (q := 20) (by decide) rfl clk_10 (by decide) (qm_2 (i := 91) rfl rfl) rfl d_Cs_shareOf_99 (?_ : WM _ 102 _ _ _ _)
    refine r_iload_n d_Cs_shareOf_102 rfl (?_ : WM _ 103 _ _ _ _)
    refine r_aload_n d_Cs_shareOf_103 rfl (?_ : WM _ 104 _ _ _ _)
    refine r_getR (k := 0) (j := 6) (q := 20) (by decide) rfl clk_10 (by decide) (qm_2 (i := 91) rfl rfl) rfl d_Cs_shareOf_104 (?_ : WM _ 107 _ _ _ _)
    refine r_getI (k := 20) (j := 1) 1 (by decide) rfl clk_9 (by decide) (qm_1 (i := 190) rfl rfl) rfl rfl d_Cs_shareOf_107 (y := (σ10 20 1)) rfl (?_ : WM _ 110 _ _ _ _)
    refine r_callV (ν := M_Wa_timesHit) (k := 20) [vI x1, vI (σ10 20 1)] ok_M_Wa_timesHit okv_M_Wa_timesHit (by decide) rfl rfl rfl (qm_6 (i := 232) rfl rfl) np_M_Wa_timesHit rfl (by decide) (Nat.le_of_ble_eq_true rfl) rfl d_Cs_shareOf_110 (CI.k h (fun v13 σ12 h => (?_ : WM _ 113 _ _ _ _)))
    obtain ⟨h14, h⟩ := h
    refine r_imul d_Cs_shareOf_113 h14 (?_ : WM _ 114 _ _ _ _)
    exact r_ireturn rfl d_Cs_shareOf_114 h
set_option maxRecDepth 20000 in
theorem e_Cs_writeLine {K : St → Prop} {σ : St} (x1 : Int) (h : (0 ≤ x1) ∧ (x1 < 48) ∧ CV M_Li_number [vR 33, vI (σ 4 x1)] (ups σ 33 1 0) (fun σ3 => CV M_Li_sign [vR 33, vI 47] σ3 (fun σ5 => CV M_Li_number [vR 33, vI (σ5 5 x1)] σ5 (fun σ7 => CV M_Li_sign [vR 33, vI 32] σ7 (fun σ9 => CV M_Li_number [vR 33, vI (σ9 6 x1)] σ9 (fun σ11 => CI M_La_isCertain [vR 16, vI x1] σ11 (fun v14 σ13 => (v14 = 0 → CV M_Li_sign [vR 33, vI 120] σ13 (fun σ16 => CI M_Wa_timesHit [vR 20, vI x1, vI (σ16 20 1)] σ16 (fun v19 σ18 => CV M_Li_number [vR 33, vI v19] σ18 (fun σ20 => CI M_Le_isAudited [vR 3, vI x1] σ20 (fun v23 σ22 => (v23 = 0 → K σ22) ∧ (¬ v23 = 0 → CV M_Li_sign [vR 33, vI 32] σ22 (fun σ25 => CV M_Li_sign [vR 33, vI 61] σ25 (fun σ27 => CV M_Li_number [vR 33, vI (σ27 7 x1)] σ27 (fun σ29 => K σ29))))))))) ∧ (¬ v14 = 0 → CV M_Li_sign [vR 33, vI 33] σ13 (fun σ31 => CI M_Le_isAudited [vR 3, vI x1] σ31 (fun v34 σ33 => (v34 = 0 → K σ33) ∧ (¬ v34 = 0 → CV M_Li_sign [vR 33, vI 32] σ33 (fun σ36 => CV M_Li_sign [vR 33, vI 61] σ36 (fun σ38 => CV M_Li_number [vR 33, vI (σ38 7 x1)] σ38 (fun σ40 => K σ40)))))))))))))) : CV M_Cs_writeLine [vR 0, vI x1] σ K := by
  refine Con.of ok_M_Cs_writeLine (ls := [(0, vR 0), (1, vI x1)]) rfl (Nat.le_of_ble_eq_true rfl) ?_
  refine r_aload_n d_Cs_writeLine_0 rfl (?_ : WM _ 1 _ _ _ _)
  refine r_getR (k := 0) (j := 10) (q := 33) (by decide) rfl clk_10 (by decide) (qm_2 (i := 95) rfl rfl) rfl d_Cs_writeLine_1 (?_ : WM _ 4 _ _ _ _)
  refine r_iconst d_Cs_writeLine_4 (by decide) (?_ : WM _ 5 _ _ _ _)
  refine r_put (k := 33) (j := 1) 1 (by decide) rfl clk_4 (by decide) (qm_2 (i := 70) rfl rfl) rfl rfl rfl tyX4_ok rfl nmX4 d_Cs_writeLine_5 (?_ : WM _ 8 _ _ _ _)
  refine r_aload_n d_Cs_writeLine_8 rfl (?_ : WM _ 9 _ _ _ _)
  refine r_getR (k := 0) (j := 10) (q := 33) (by decide) rfl clk_10 (by decide) (qm_2 (i := 95) rfl rfl) rfl d_Cs_writeLine_9 (?_ : WM _ 12 _ _ _ _)
  refine r_aload_n d_Cs_writeLine_12 rfl (?_ : WM _ 13 _ _ _ _)
  refine r_getR (k := 0) (j := 1) (q := 3) (by decide) rfl clk_10 (by decide) (qm_2 (i := 86) rfl rfl) rfl d_Cs_writeLine_13 (?_ : WM _ 16 _ _ _ _)
  refine r_getR (k := 3) (j := 0) (q := 4) (by decide) rfl clk_3 (by decide) (qm_1 (i := 82) rfl rfl) rfl d_Cs_writeLine_16 (?_ : WM _ 19 _ _ _ _)
  refine r_iload_n d_Cs_writeLine_19 rfl (?_ : WM _ 20 _ _ _ _)
  obtain ⟨h1, h⟩ := h
  obtain ⟨h2, h⟩ := h
  refine r_iald (k := 4) (n := 48) (by decide) rfl d_Cs_writeLine_20 h1 h2 (y := (σ 4 x1)) (ups_c (by decide)) (?_ : WM _ 21 _ _ _ _)
  refine r_callV (ν := M_Li_number) (k := 33) [vI (σ 4 x1)] ok_M_Li_number okv_M_Li_number (by decide) rfl rfl rfl (qm_9 (i := 239) rfl rfl) np_M_Li_number rfl (by decide) (Nat.le_of_ble_eq_true rfl) rfl d_Cs_writeLine_21 (CV.k h (fun σ3 h => (?_ : WM _ 24 _ _ _ _)))
  refine r_aload_n d_Cs_writeLine_24 rfl (?_ : WM _ 25 _ _ _ _)
  refine r_getR (k := 0) (j := 10) (q := 33) (by decide) rfl clk_10 (by decide) (qm_2 (i := 95) rfl rfl) rfl d_Cs_writeLine_25 (?_ : WM _ 28 _ _ _ _)
  refine r_bipush d_Cs_writeLine_28 (by decide) (by decide) (?_ : WM _ 30 _ _ _ _)
  refine r_callV (ν := M_Li_sign) (k := 33) [vI 47] ok_M_Li_sign okv_M_Li_sign (by decide) rfl rfl rfl (qm_10 (i := 7) rfl rfl) np_M_Li_sign rfl (by decide) (Nat.le_of_ble_eq_true rfl) rfl d_Cs_writeLine_30 (CV.k h (fun σ5 h => (?_ : WM _ 33 _ _ _ _)))
  refine r_aload_n d_Cs_writeLine_33 rfl (?_ : WM _ 34 _ _ _ _)
  refine r_getR (k := 0) (j := 10) (q := 33) (by decide) rfl clk_10 (by decide) (qm_2 (i := 95) rfl rfl) rfl d_Cs_writeLine_34 (?_ : WM _ 37 _ _ _ _)
  refine r_aload_n d_Cs_writeLine_37 rfl (?_ : WM _ 38 _ _ _ _)
  refine r_getR (k := 0) (j := 1) (q := 3) (by decide) rfl clk_10 (by decide) (qm_2 (i := 86) rfl rfl) rfl d_Cs_writeLine_38 (?_ : WM _ 41 _ _ _ _)
  refine r_getR (k := 3) (j := 1) (q := 5) (by decide) rfl clk_3 (by decide) (qm_1 (i := 84) rfl rfl) rfl d_Cs_writeLine_41 (?_ : WM _ 44 _ _ _ _)
  refine r_iload_n d_Cs_writeLine_44 rfl (?_ : WM _ 45 _ _ _ _)
  refine r_iald (k := 5) (n := 48) (by decide) rfl d_Cs_writeLine_45 h1 h2 (y := (σ5 5 x1)) rfl (?_ : WM _ 46 _ _ _ _)
  refine r_callV (ν := M_Li_number) (k := 33) [vI (σ5 5 x1)] ok_M_Li_number okv_M_Li_number (by decide) rfl rfl rfl (qm_9 (i := 239) rfl rfl) np_M_Li_number rfl (by decide) (Nat.le_of_ble_eq_true rfl) rfl d_Cs_writeLine_46 (CV.k h (fun σ7 h => (?_ : WM _ 49 _ _ _ _)))
  refine r_aload_n d_Cs_writeLine_49 rfl (?_ : WM _ 50 _ _ _ _)
  refine r_getR (k := 0) (j := 10) (q := 33) (by decide) rfl clk_10 (by decide) (qm_2 (i := 95) rfl rfl) rfl d_Cs_writeLine_50 (?_ : WM _ 53 _ _ _ _)
  refine r_bipush d_Cs_writeLine_53 (by decide) (by decide) (?_ : WM _ 55 _ _ _ _)
  refine r_callV (ν := M_Li_sign) (k := 33) [vI 32] ok_M_Li_sign okv_M_Li_sign (by decide) rfl rfl rfl (qm_10 (i := 7) rfl rfl) np_M_Li_sign rfl (by decide) (Nat.le_of_ble_eq_true rfl) rfl d_Cs_writeLine_55 (CV.k h (fun σ9 h => (?_ : WM _ 58 _ _ _ _)))
  refine r_aload_n d_Cs_writeLine_58 rfl (?_ : WM _ 59 _ _ _ _)
  refine r_getR (k := 0) (j := 10) (q := 33) (by decide) rfl clk_10 (by decide) (qm_2 (i := 95) rfl rfl) rfl d_Cs_writeLine_59 (?_ : WM _ 62 _ _ _ _)
  refine r_aload_n d_Cs_writeLine_62 rfl (?_ : WM _ 63 _ _ _ _)
  refine r_getR (k := 0) (j := 1) (q := 3) (by decide) rfl clk_10 (by decide) (qm_2 (i := 86) rfl rfl) rfl d_Cs_writeLine_63 (?_ : WM _ 66 _ _ _ _)
  refine r_getR (k := 3) (j := 2) (q := 6) (by decide) rfl clk_3 (by decide) (qm_1 (i := 86) rfl rfl) rfl d_Cs_writeLine_66 (?_ : WM _ 69 _ _ _ _)
  refine r_iload_n d_Cs_writeLine_69 rfl (?_ : WM _ 70 _ _ _ _)
  refine r_iald (k := 6) (n := 48) (by decide) rfl d_Cs_writeLine_70 h1 h2 (y := (σ9 6 x1)) rfl (?_ : WM _ 71 _ _ _ _)
  refine r_callV (ν := M_Li_number) (k := 33) [vI (σ9 6 x1)] ok_M_Li_number okv_M_Li_number (by decide) rfl rfl rfl (qm_9 (i := 239) rfl rfl) np_M_Li_number rfl (by decide) (Nat.le_of_ble_eq_true rfl) rfl d_Cs_writeLine_71 (CV.k h (fun σ11 h => (?_ : WM _ 74 _ _ _ _)))
  refine r_aload_n d_Cs_writeLine_74 rfl (?_ : WM _ 75 _ _ _ _)
  refine r_getR (k := 0) (j := 4) (q := 16) (by decide) rfl clk_10 (by decide) (qm_2 (i := 89) rfl rfl) rfl d_Cs_writeLine_75 (?_ : WM _ 78 _ _ _ _)
  refine r_iload_n d_Cs_writeLine_78 rfl (?_ : WM _ 79 _ _ _ _)
  refine r_callV (ν := M_La_isCertain) (k := 16) [vI x1] ok_M_La_isCertain okv_M_La_isCertain (by decide) rfl rfl rfl (qm_6 (i := 231) rfl rfl) np_M_La_isCertain rfl (by decide) (Nat.le_of_ble_eq_true rfl) rfl d_Cs_writeLine_79 (CI.k h (fun v14 σ13 h => (?_ : WM _ 82 _ _ _ _)))
  refine r_if_eq 97 d_Cs_writeLine_82 rfl ⟨fun c15 => (?_ : WM _ 97 _ _ _ _), fun c15 => (?_ : WM _ 85 _ _ _ _)⟩
  · replace h := h.1 c15
    refine r_aload_n d_Cs_writeLine_97 rfl (?_ : WM _ 98 _ _ _ _)
    refine r_getR (k := 0) (j := 10) (q := 33) (by decide) rfl clk_10 (by decide) (qm_2 (i := 95) rfl rfl) rfl d_Cs_writeLine_98 (?_ : WM _ 101 _ _ _ _)
    refine r_bipush d_Cs_writeLine_101 (by decide) (by decide) (?_ : WM _ 103 _ _ _ _)
    refine r_callV (ν := M_Li_sign) (k := 33) [vI 120] ok_M_Li_sign okv_M_Li_sign (by decide) rfl rfl rfl (qm_10 (i := 7) rfl rfl) np_M_Li_sign rfl (by decide) (Nat.le_of_ble_eq_true rfl) rfl d_Cs_writeLine_103 (CV.k h (fun σ16 h => (?_ : WM _ 106 _ _ _ _)))
    refine r_aload_n d_Cs_writeLine_106 rfl (?_ : WM _ 107 _ _ _ _)
    refine r_getR (k := 0) (j := 10) (q := 33) (by decide) rfl clk_10 (by decide) (qm_2 (i := 95) rfl rfl) rfl d_Cs_writeLine_107 (?_ : WM _ 110 _ _ _ _)
    refine r_aload_n d_Cs_writeLine_110 rfl (?_ : WM _ 111 _ _ _ _)
    refine r_getR (k := 0) (j := 6) (q := 20) (by decide) rfl clk_10 (by decide) (qm_2 (i := 91) rfl rfl) rfl d_Cs_writeLine_111 (?_ : WM _ 114 _ _ _ _)
    refine r_iload_n d_Cs_writeLine_114 rfl (?_ : WM _ 115 _ _ _ _)
    refine r_aload_n d_Cs_writeLine_115 rfl (?_ : WM _ 116 _ _ _ _)
    refine r_getR (k := 0) (j := 6) (q := 20) (by decide) rfl clk_10 (by decide) (qm_2 (i := 91) rfl rfl) rfl d_Cs_writeLine_116 (?_ : WM _ 119 _ _ _ _)
    refine r_getI (k := 20) (j := 1) 1 (by decide) rfl clk_9 (by decide) (qm_1 (i := 190) rfl rfl) rfl rfl d_Cs_writeLine_119 (y := (σ16 20 1)) rfl (?_ : WM _ 122 _ _ _ _)
    refine r_callV (ν := M_Wa_timesHit) (k := 20) [vI x1, vI (σ16 20 1)] ok_M_Wa_timesHit okv_M_Wa_timesHit (by decide) rfl rfl rfl (qm_6 (i := 232) rfl rfl) np_M_Wa_timesHit rfl (by decide) (Nat.le_of_ble_eq_true rfl) rfl d_Cs_writeLine_122 (CI.k h (fun v19 σ18 h => (?_ : WM _ 125 _ _ _ _)))
    refine r_callV (ν := M_Li_number) (k := 33) [vI v19] ok_M_Li_number okv_M_Li_number (by decide) rfl rfl rfl (qm_9 (i := 239) rfl rfl) np_M_Li_number rfl (by decide) (Nat.le_of_ble_eq_true rfl) rfl d_Cs_writeLine_125 (CV.k h (fun σ20 h => (?_ : WM _ 128 _ _ _ _)))
    refine r_aload_n d_Cs_writeLine_128 rfl (?_ : WM _ 129 _ _ _ _)
    refine r_getR (k := 0) (j := 1) (q := 3) (by decide) rfl clk_10 (by decide) (qm_2 (i := 86) rfl rfl) rfl d_Cs_writeLine_129 (?_ : WM _ 132 _ _ _ _)
    refine r_iload_n d_Cs_writeLine_132 rfl (?_ : WM _ 133 _ _ _ _)
    refine r_callV (ν := M_Le_isAudited) (k := 3) [vI x1] ok_M_Le_isAudited okv_M_Le_isAudited (by decide) rfl rfl rfl (qm_9 (i := 211) rfl rfl) np_M_Le_isAudited rfl (by decide) (Nat.le_of_ble_eq_true rfl) rfl d_Cs_writeLine_133 (CI.k h (fun v23 σ22 h => (?_ : WM _ 136 _ _ _ _)))
    refine r_if_eq 173 d_Cs_writeLine_136 rfl ⟨fun c24 => (?_ : WM _ 173 _ _ _ _), fun c24 => (?_ : WM _ 139 _ _ _ _)⟩
    · replace h := h.1 c24
      exact r_return rfl d_Cs_writeLine_173 h
    · replace h := h.2 c24
      refine r_aload_n d_Cs_writeLine_139 rfl (?_ : WM _ 140 _ _ _ _)
      refine r_getR (k := 0) (j := 10) (q := 33) (by decide) rfl clk_10 (by decide) (qm_2 (i := 95) rfl rfl) rfl d_Cs_writeLine_140 (?_ : WM _ 143 _ _ _ _)
      refine r_bipush d_Cs_writeLine_143 (by decide) (by decide) (?_ : WM _ 145 _ _ _ _)
      refine r_callV (ν := M_Li_sign) (k := 33) [vI 32] ok_M_Li_sign okv_M_Li_sign (by decide) rfl rfl rfl (qm_10 (i := 7) rfl rfl) np_M_Li_sign rfl (by decide) (Nat.le_of_ble_eq_true rfl) rfl d_Cs_writeLine_145 (CV.k h (fun σ25 h => (?_ : WM _ 148 _ _ _ _)))
      refine r_aload_n d_Cs_writeLine_148 rfl (?_ : WM _ 149 _ _ _ _)
      refine r_getR (k := 0) (j := 10) (q := 33) (by decide) rfl clk_10 (by decide) (qm_2 (i := 95) rfl rfl) rfl d_Cs_writeLine_149 (?_ : WM _ 152 _ _ _ _)
      refine r_bipush d_Cs_writeLine_152 (by decide) (by decide) (?_ : WM _ 154 _ _ _ _)
      refine r_callV (ν := M_Li_sign) (k := 33) [vI 61] ok_M_Li_sign okv_M_Li_sign (by decide) rfl rfl rfl (qm_10 (i := 7) rfl rfl) np_M_Li_sign rfl (by decide) (Nat.le_of_ble_eq_true rfl) rfl d_Cs_writeLine_154 (CV.k h (fun σ27 h => (?_ : WM _ 157 _ _ _ _)))
      refine r_aload_n d_Cs_writeLine_157 rfl (?_ : WM _ 158 _ _ _ _)
      refine r_getR (k := 0) (j := 10) (q := 33) (by decide) rfl clk_10 (by decide) (qm_2 (i := 95) rfl rfl) rfl d_Cs_writeLine_158 (?_ : WM _ 161 _ _ _ _)
      refine r_aload_n d_Cs_writeLine_161 rfl (?_ : WM _ 162 _ _ _ _)
      refine r_getR (k := 0) (j := 1) (q := 3) (by decide) rfl clk_10 (by decide) (qm_2 (i := 86) rfl rfl) rfl d_Cs_writeLine_162 (?_ : WM _ 165 _ _ _ _)
      refine r_getR (k := 3) (j := 3) (q := 7) (by decide) rfl clk_3 (by decide) (qm_1 (i := 89) rfl rfl) rfl d_Cs_writeLine_165 (?_ : WM _ 168 _ _ _ _)
      refine r_iload_n d_Cs_writeLine_168 rfl (?_ : WM _ 169 _ _ _ _)
      refine r_iald (k := 7) (n := 48) (by decide) rfl d_Cs_writeLine_169 h1 h2 (y := (σ27 7 x1)) rfl (?_ : WM _ 170 _ _ _ _)
      refine r_callV (ν := M_Li_number) (k := 33) [vI (σ27 7 x1)] ok_M_Li_number okv_M_Li_number (by decide) rfl rfl rfl (qm_9 (i := 239) rfl rfl) np_M_Li_number rfl (by decide) (Nat.le_of_ble_eq_true rfl) rfl d_Cs_writeLine_170 (CV.k h (fun σ29 h => (?_ : WM _ 173 _ _ _ _)))
      exact r_return rfl d_Cs_writeLine_173 h
  · replace h := h.2 c15
    refine r_aload_n d_Cs_writeLine_85 rfl (?_ : WM _ 86 _ _ _ _)
    refine r_getR (k := 0) (j := 10) (q := 33) (by decide) rfl clk_10 (by decide) (qm_2 (i := 95) rfl rfl) rfl d_Cs_writeLine_86 (?_ : WM _ 89 _ _ _ _)
    refine r_bipush d_Cs_writeLine_89 (by decide) (by decide) (?_ : WM _ 91 _ _ _ _)
    refine r_callV (ν := M_Li_sign) (k := 33) [vI 33] ok_M_Li_sign okv_M_Li_sign (by decide) rfl rfl rfl (qm_10 (i := 7) rfl rfl) np_M_Li_sign rfl (by decide) (Nat.le_of_ble_eq_true rfl) rfl d_Cs_writeLine_91 (CV.k h (fun σ31 h => (?_ : WM _ 94 _ _ _ _)))
    refine r_goto 128 d_Cs_writeLine_94 rfl ?_
    refine r_aload_n d_Cs_writeLine_128 rfl (?_ : WM _ 129 _ _ _ _)
    refine r_getR (k := 0) (j := 1) (q := 3) (by decide) rfl clk_10 (by decide) (qm_2 (i := 86) rfl rfl) rfl d_Cs_writeLine_129 (?_ : WM _ 132 _ _ _ _)
    refine r_iload_n d_Cs_writeLine_132 rfl (?_ : WM _ 133 _ _ _ _)
    refine r_callV (ν := M_Le_isAudited) (k := 3) [vI x1] ok_M_Le_isAudited okv_M_Le_isAudited (by decide) rfl rfl rfl (qm_9 (i := 211) rfl rfl) np_M_Le_isAudited rfl (by decide) (Nat.le_of_ble_eq_true rfl) rfl d_Cs_writeLine_133 (CI.k h (fun v34 σ33 h => (?_ : WM _ 136 _ _ _ _)))
    refine r_if_eq 173 d_Cs_writeLine_136 rfl ⟨fun c35 => (?_ : WM _ 173 _ _ _ _), fun c35 => (?_ : WM _ 139 _ _ _ _)⟩
    · replace h := h.1 c35
      exact r_return rfl d_Cs_writeLine_173 h
    · replace h := h.2 c35
      refine r_aload_n d_Cs_writeLine_139 rfl (?_ : WM _ 140 _ _ _ _)
      refine r_getR (k := 0) (j := 10) (q := 33) (by decide) rfl clk_10 (by decide) (qm_2 (i := 95) rfl rfl) rfl d_Cs_writeLine_140 (?_ : WM _ 143 _ _ _ _)
      refine r_bipush d_Cs_writeLine_143 (by decide) (by decide) (?_ : WM _ 145 _ _ _ _)
      refine r_callV (ν := M_Li_sign) (k := 33) [vI 32] ok_M_Li_sign okv_M_Li_sign (by decide) rfl rfl rfl (qm_10 (i := 7) rfl rfl) np_M_Li_sign rfl (by decide) (Nat.le_of_ble_eq_true rfl) rfl d_Cs_writeLine_145 (CV.k h (fun σ36 h => (?_ : WM _ 148 _ _ _ _)))
      refine r_aload_n d_Cs_writeLine_148 rfl (?_ : WM _ 149 _ _ _ _)
      refine r_getR (k := 0) (j := 10) (q := 33) (by decide) rfl clk_10 (by decide) (qm_2 (i := 95) rfl rfl) rfl d_Cs_writeLine_149 (?_ : WM _ 152 _ _ _ _)
      refine r_bipush d_Cs_writeLine_152 (by decide) (by decide) (?_ : WM _ 154 _ _ _ _)
      refine r_callV (ν := M_Li_sign) (k := 33) [vI 61] ok_M_Li_sign okv_M_Li_sign (by decide) rfl rfl rfl (qm_10 (i := 7) rfl rfl) np_M_Li_sign rfl (by decide) (Nat.le_of_ble_eq_true rfl) rfl d_Cs_writeLine_154 (CV.k h (fun σ38 h => (?_ : WM _ 157 _ _ _ _)))
      refine r_aload_n d_Cs_writeLine_157 rfl (?_ : WM _ 158 _ _ _ _)
      refine r_getR (k := 0) (j := 10) (q := 33) (by decide) rfl clk_10 (by decide) (qm_2 (i := 95) rfl rfl) rfl d_Cs_writeLine_158 (?_ : WM _ 161 _ _ _ _)
      refine r_aload_n d_Cs_writeLine_161 rfl (?_ : WM _ 162 _ _ _ _)
      refine r_getR (k := 0) (j := 1) (q := 3) (by decide) rfl clk_10 (by decide) (qm_2 (i := 86) rfl rfl) rfl d_Cs_writeLine_162 (?_ : WM _ 165 _ _ _ _)
      refine r_getR (k := 3) (j := 3) (q := 7) (by decide) rfl clk_3 (by decide) (qm_1 (i := 89) rfl rfl) rfl d_Cs_writeLine_165 (?_ : WM _ 168 _ _ _ _)
      refine r_iload_n d_Cs_writeLine_168 rfl (?_ : WM _ 169 _ _ _ _)
      refine r_iald (k := 7) (n := 48) (by decide) rfl d_Cs_writeLine_169 h1 h2 (y := (σ38 7 x1)) rfl (?_ : WM _ 170 _ _ _ _)
      refine r_callV (ν := M_Li_number) (k := 33) [vI (σ38 7 x1)] ok_M_Li_number okv_M_Li_number (by decide) rfl rfl rfl (qm_9 (i := 239) rfl rfl) np_M_Li_number rfl (by decide) (Nat.le_of_ble_eq_true rfl) rfl d_Cs_writeLine_170 (CV.k h (fun σ40 h => (?_ : WM _ 173 _ _ _ _)))
      exact r_return rfl d_Cs_writeLine_173 h
set_option maxRecDepth 20000 in
theorem e_Cs_itemsHit {K : Int → St → Prop} {σ : St}  (h : WM M_Cs_itemsHit 4 [(0, vR 0), (1, vI 0), (2, vI 0)] [] σ (QI K)) : CI M_Cs_itemsHit [vR 0] σ K := by
  refine Con.of ok_M_Cs_itemsHit (ls := [(0, vR 0)]) rfl (Nat.le_of_ble_eq_true rfl) ?_
  refine r_iconst d_Cs_itemsHit_0 (by decide) (?_ : WM _ 1 _ _ _ _)
  refine r_istore_n (ls' := [(1, vI 0), (0, vR 0)]) d_Cs_itemsHit_1 rfl (by decide) rfl (?_ : WM _ 2 _ _ _ _)
  refine r_iconst d_Cs_itemsHit_2 (by decide) (?_ : WM _ 3 _ _ _ _)
  refine r_istore_n (ls' := [(2, vI 0), (1, vI 0), (0, vR 0)]) d_Cs_itemsHit_3 rfl (by decide) rfl (?_ : WM _ 4 _ _ _ _)
  refine r_pick (ls' := [(0, vR 0), (1, vI 0), (2, vI 0)]) [2, 1, 0] rfl ?_
  exact h
set_option maxRecDepth 20000 in
theorem l_Cs_itemsHit_1 {K : Int → St → Prop} {σ : St} (x1 : Int) (x2 : Int) (h : ((σ 3 4) ≤ x2 → K x1 σ) ∧ (¬ (σ 3 4) ≤ x2 → CI M_Wa_timesHit [vR 20, vI x2, vI (σ 20 1)] σ (fun v3 σ2 => (v3 ≤ 0 → (inR (x2 + 1)) ∧ WM M_Cs_itemsHit 4 [(0, vR 0), (1, vI x1), (2, vI (x2 + 1))] [] σ2 (QI K)) ∧ (¬ v3 ≤ 0 → (inR (x1 + 1)) ∧ (inR (x2 + 1)) ∧ WM M_Cs_itemsHit 4 [(0, vR 0), (1, vI (x1 + 1)), (2, vI (x2 + 1))] [] σ2 (QI K))))) : WM M_Cs_itemsHit 4 [(0, vR 0), (1, vI x1), (2, vI x2)] [] σ (QI K) := by
  refine r_iload_n d_Cs_itemsHit_4 rfl (?_ : WM _ 5 _ _ _ _)
  refine r_aload_n d_Cs_itemsHit_5 rfl (?_ : WM _ 6 _ _ _ _)
  refine r_getR (k := 0) (j := 1) (q := 3) (by decide) rfl clk_10 (by decide) (qm_2 (i := 86) rfl rfl) rfl d_Cs_itemsHit_6 (?_ : WM _ 9 _ _ _ _)
  refine r_getI (k := 3) (j := 4) 4 (by decide) rfl clk_3 (by decide) (qm_1 (i := 93) rfl rfl) rfl rfl d_Cs_itemsHit_9 (y := (σ 3 4)) rfl (?_ : WM _ 12 _ _ _ _)
  refine r_icmp_ge 42 d_Cs_itemsHit_12 rfl ⟨fun c1 => (?_ : WM _ 42 _ _ _ _), fun c1 => (?_ : WM _ 15 _ _ _ _)⟩
  · replace h := h.1 c1
    refine r_iload_n d_Cs_itemsHit_42 rfl (?_ : WM _ 43 _ _ _ _)
    exact r_ireturn rfl d_Cs_itemsHit_43 h
  · replace h := h.2 c1
    refine r_aload_n d_Cs_itemsHit_15 rfl (?_ : WM _ 16 _ _ _ _)
    refine r_getR (k := 0) (j := 6) (q := 20) (by decide) rfl clk_10 (by decide) (qm_2 (i := 91) rfl rfl) rfl d_Cs_itemsHit_16 (?_ : WM _ 19 _ _ _ _)
    refine r_iload_n d_Cs_itemsHit_19 rfl (?_ : WM _ 20 _ _ _ _)
    refine r_aload_n d_Cs_itemsHit_20 rfl (?_ : WM _ 21 _ _ _ _)
    refine r_getR (k := 0) (j := 6) (q := 20) (by decide) rfl clk_10 (by decide) (qm_2 (i := 91) rfl rfl) rfl d_Cs_itemsHit_21 (?_ : WM _ 24 _ _ _ _)
    refine r_getI (k := 20) (j := 1) 1 (by decide) rfl clk_9 (by decide) (qm_1 (i := 190) rfl rfl) rfl rfl d_Cs_itemsHit_24 (y := (σ 20 1)) rfl (?_ : WM _ 27 _ _ _ _)
    refine r_callV (ν := M_Wa_timesHit) (k := 20) [vI x2, vI (σ 20 1)] ok_M_Wa_timesHit okv_M_Wa_timesHit (by decide) rfl rfl rfl (qm_6 (i := 232) rfl rfl) np_M_Wa_timesHit rfl (by decide) (Nat.le_of_ble_eq_true rfl) rfl d_Cs_itemsHit_27 (CI.k h (fun v3 σ2 h => (?_ : WM _ 30 _ _ _ _)))
    refine r_if_le 36 d_Cs_itemsHit_30 rfl ⟨fun c4 => (?_ : WM _ 36 _ _ _ _), fun c4 => (?_ : WM _ 33 _ _ _ _)⟩
    · replace h := h.1 c4
      obtain ⟨h5, h⟩ := h
      refine r_iinc (ls' := [(2, vI (x2 + 1)), (0, vR 0), (1, vI x1)]) d_Cs_itemsHit_36 rfl h5 (by decide) rfl (?_ : WM _ 39 _ _ _ _)
      refine r_goto 4 d_Cs_itemsHit_39 rfl ?_
      refine r_pick (ls' := [(0, vR 0), (1, vI x1), (2, vI (x2 + 1))]) [1, 2, 0] rfl ?_
      exact h
    · replace h := h.2 c4
      obtain ⟨h6, h⟩ := h
      refine r_iinc (ls' := [(1, vI (x1 + 1)), (0, vR 0), (2, vI x2)]) d_Cs_itemsHit_33 rfl h6 (by decide) rfl (?_ : WM _ 36 _ _ _ _)
      obtain ⟨h7, h⟩ := h
      refine r_iinc (ls' := [(2, vI (x2 + 1)), (1, vI (x1 + 1)), (0, vR 0)]) d_Cs_itemsHit_36 rfl h7 (by decide) rfl (?_ : WM _ 39 _ _ _ _)
      refine r_goto 4 d_Cs_itemsHit_39 rfl ?_
      refine r_pick (ls' := [(0, vR 0), (1, vI (x1 + 1)), (2, vI (x2 + 1))]) [2, 1, 0] rfl ?_
      exact h
set_option maxRecDepth 20000 in
theorem e_Cs_isOfKind {K : Int → St → Prop} {σ : St} (x1 : Int) (x2 : Int) (h : (x1 = 0 → CI M_La_isCertain [vR 16, vI x2] σ (fun v2 σ1 => (v2 = 0 ∨ v2 = 1) ∧ K v2 σ1)) ∧ (x1 = 1 → CI M_Le_isAudited [vR 3, vI x2] σ (fun v5 σ4 => (¬ v5 = 0 → K 0 σ4) ∧ (v5 = 0 → CI M_Wa_isLookedAt [vR 20, vI x2, vI (σ4 20 1)] σ4 (fun v8 σ7 => (v8 = 0 → K 0 σ7) ∧ (¬ v8 = 0 → K 1 σ7))))) ∧ (¬ x1 = 0 ∧ ¬ x1 = 1 → CI M_Wa_isLookedAt [vR 20, vI x2, vI (σ 20 1)] σ (fun v11 σ10 => (v11 = 0 ∨ v11 = 1) ∧ K v11 σ10))) : CI M_Cs_isOfKind [vR 0, vI x1, vI x2] σ K := by
  refine Con.of ok_M_Cs_isOfKind (ls := [(0, vR 0), (1, vI x1), (2, vI x2)]) rfl (Nat.le_of_ble_eq_true rfl) ?_
  refine r_iload_n d_Cs_isOfKind_0 rfl (?_ : WM _ 1 _ _ _ _)
  have hsw : (x1 = 0) ∨ (x1 = 1) ∨ (¬ x1 = 0 ∧ ¬ x1 = 1) := by omega
  rcases hsw with hc | hc | hc
  · replace h := h.1 hc
    refine r_lsw (off := 27) 28 d_Cs_isOfKind_1 rfl (by rw [hc]; try rfl) rfl ?_
    refine r_aload_n d_Cs_isOfKind_28 rfl (?_ : WM _ 29 _ _ _ _)
    refine r_getR (k := 0) (j := 4) (q := 16) (by decide) rfl clk_10 (by decide) (qm_2 (i := 89) rfl rfl) rfl d_Cs_isOfKind_29 (?_ : WM _ 32 _ _ _ _)
    refine r_iload_n d_Cs_isOfKind_32 rfl (?_ : WM _ 33 _ _ _ _)
    refine r_callV (ν := M_La_isCertain) (k := 16) [vI x2] ok_M_La_isCertain okv_M_La_isCertain (by decide) rfl rfl rfl (qm_6 (i := 231) rfl rfl) np_M_La_isCertain rfl (by decide) (Nat.le_of_ble_eq_true rfl) rfl d_Cs_isOfKind_33 (CI.k h (fun v2 σ1 h => (?_ : WM _ 36 _ _ _ _)))
    obtain ⟨h3, h⟩ := h
    exact r_zreturn rfl d_Cs_isOfKind_36 h3 h
  · replace h := h.2.1 hc
    refine r_lsw (off := 36) 37 d_Cs_isOfKind_1 rfl (by rw [hc]; try rfl) rfl ?_
    refine r_aload_n d_Cs_isOfKind_37 rfl (?_ : WM _ 38 _ _ _ _)
    refine r_getR (k := 0) (j := 1) (q := 3) (by decide) rfl clk_10 (by decide) (qm_2 (i := 86) rfl rfl) rfl d_Cs_isOfKind_38 (?_ : WM _ 41 _ _ _ _)
    refine r_iload_n d_Cs_isOfKind_41 rfl (?_ : WM _ 42 _ _ _ _)
    refine r_callV (ν := M_Le_isAudited) (k := 3) [vI x2] ok_M_Le_isAudited okv_M_Le_isAudited (by decide) rfl rfl rfl (qm_9 (i := 211) rfl rfl) np_M_Le_isAudited rfl (by decide) (Nat.le_of_ble_eq_true rfl) rfl d_Cs_isOfKind_42 (CI.k h (fun v5 σ4 h => (?_ : WM _ 45 _ _ _ _)))
    refine r_if_ne 70 d_Cs_isOfKind_45 rfl ⟨fun c6 => (?_ : WM _ 70 _ _ _ _), fun c6 => (?_ : WM _ 48 _ _ _ _)⟩
    · replace h := h.1 c6
      refine r_iconst d_Cs_isOfKind_70 (by decide) (?_ : WM _ 71 _ _ _ _)
      exact r_zreturn rfl d_Cs_isOfKind_71 (by decide) h
    · replace h := h.2 c6
      refine r_aload_n d_Cs_isOfKind_48 rfl (?_ : WM _ 49 _ _ _ _)
      refine r_getR (k := 0) (j := 6) (q := 20) (by decide) rfl clk_10 (by decide) (qm_2 (i := 91) rfl rfl) rfl d_Cs_isOfKind_49 (?_ : WM _ 52 _ _ _ _)
      refine r_iload_n d_Cs_isOfKind_52 rfl (?_ : WM _ 53 _ _ _ _)
      refine r_aload_n d_Cs_isOfKind_53 rfl (?_ : WM _ 54 _ _ _ _)
      refine r_getR (k := 0) (j := 6) (q := 20) (by decide) rfl clk_10 (by decide) (qm_2 (i := 91) rfl rfl) rfl d_Cs_isOfKind_54 (?_ : WM _ 57 _ _ _ _)
      refine r_getI (k := 20) (j := 1) 1 (by decide) rfl clk_9 (by decide) (qm_1 (i := 190) rfl rfl) rfl rfl d_Cs_isOfKind_57 (y := (σ4 20 1)) rfl (?_ : WM _ 60 _ _ _ _)
      refine r_callV (ν := M_Wa_isLookedAt) (k := 20) [vI x2, vI (σ4 20 1)] ok_M_Wa_isLookedAt okv_M_Wa_isLookedAt (by decide) rfl rfl rfl (qm_9 (i := 212) rfl rfl) np_M_Wa_isLookedAt rfl (by decide) (Nat.le_of_ble_eq_true rfl) rfl d_Cs_isOfKind_60 (CI.k h (fun v8 σ7 h => (?_ : WM _ 63 _ _ _ _)))
      refine r_if_eq 70 d_Cs_isOfKind_63 rfl ⟨fun c9 => (?_ : WM _ 70 _ _ _ _), fun c9 => (?_ : WM _ 66 _ _ _ _)⟩
      · replace h := h.1 c9
        refine r_iconst d_Cs_isOfKind_70 (by decide) (?_ : WM _ 71 _ _ _ _)
        exact r_zreturn rfl d_Cs_isOfKind_71 (by decide) h
      · replace h := h.2 c9
        refine r_iconst d_Cs_isOfKind_66 (by decide) (?_ : WM _ 67 _ _ _ _)
        refine r_goto 71 d_Cs_isOfKind_67 rfl ?_
        exact r_zreturn rfl d_Cs_isOfKind_71 (by decide) h
  · replace h := h.2.2 hc
    refine r_lsw (off := 71) 72 d_Cs_isOfKind_1 rfl (by simp [Op.lookupswitch.offset, (show ¬ (0 : Int) = x1 from fun z => hc.1 z.symm), (show ¬ (1 : Int) = x1 from fun z => hc.2 z.symm)]) rfl ?_
    refine r_aload_n d_Cs_isOfKind_72 rfl (?_ : WM _ 73 _ _ _ _)
    refine r_getR (k := 0) (j := 6) (q := 20) (by decide) rfl clk_10 (by decide) (qm_2 (i := 91) rfl rfl) rfl d_Cs_isOfKind_73 (?_ : WM _ 76 _ _ _ _)
    refine r_iload_n d_Cs_isOfKind_76 rfl (?_ : WM _ 77 _ _ _ _)
    refine r_aload_n d_Cs_isOfKind_77 rfl (?_ : WM _ 78 _ _ _ _)
    refine r_getR (k := 0) (j := 6) (q := 20) (by decide) rfl clk_10 (by decide) (qm_2 (i := 91) rfl rfl) rfl d_Cs_isOfKind_78 (?_ : WM _ 81 _ _ _ _)
    refine r_getI (k := 20) (j := 1) 1 (by decide) rfl clk_9 (by decide) (qm_1 (i := 190) rfl rfl) rfl rfl d_Cs_isOfKind_81 (y := (σ 20 1)) rfl (?_ : WM _ 84 _ _ _ _)
    refine r_callV (ν := M_Wa_isLookedAt) (k := 20) [vI x2, vI (σ 20 1)] ok_M_Wa_isLookedAt okv_M_Wa_isLookedAt (by decide) rfl rfl rfl (qm_9 (i := 212) rfl rfl) np_M_Wa_isLookedAt rfl (by decide) (Nat.le_of_ble_eq_true rfl) rfl d_Cs_isOfKind_84 (CI.k h (fun v11 σ10 h => (?_ : WM _ 87 _ _ _ _)))
    obtain ⟨h12, h⟩ := h
    exact r_zreturn rfl d_Cs_isOfKind_87 h12 h
