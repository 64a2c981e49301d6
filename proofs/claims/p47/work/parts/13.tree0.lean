-- what each stretch of a method asks (printed by wip/gen/gen_out.py)
set_option maxRecDepth 20000 in
theorem e_Ta_write {K : St → Prop} {σ : St} (x1 : Int) (h : WM M_Ta_write 3 [(0, vR 1), (1, vI x1), (2, vI 24)] [] σ (QV K)) : CV M_Ta_write [vR 1, vI x1] σ K := by
  refine Con.of ok_M_Ta_write (ls := [(0, vR 1), (1, vI x1)]) rfl (Nat.le_of_ble_eq_true rfl) ?_
  refine r_bipush d_Ta_write_0 (by decide) (by decide) (?_ : WM _ 2 _ _ _ _)
  refine r_istore_n (ls' := [(2, vI 24), (0, vR 1), (1, vI x1)]) d_Ta_write_2 rfl (by decide) rfl (?_ : WM _ 3 _ _ _ _)
  refine r_pick (ls' := [(0, vR 1), (1, vI x1), (2, vI 24)]) [1, 2, 0] rfl ?_
  exact h
set_option maxRecDepth 20000 in
theorem l_Ta_write_1 {K : St → Prop} {σ : St} (x1 : Int) (x2 : Int) (h : (x2 < 0 → K σ) ∧ (¬ x2 < 0 → (900 ≤ (σ 1 1) → K σ) ∧ (¬ 900 ≤ (σ 1 1) → (0 ≤ x2) ∧ (x2 < 32) ∧ (inR (x1 / 2 ^ x2.toNat)) ∧ (0 ≤ (σ 1 1)) ∧ ((σ 1 1) < 900) ∧ (-128 ≤ (((x1 / 2 ^ x2.toNat) + 128) % 256 - 128)) ∧ ((((x1 / 2 ^ x2.toNat) + 128) % 256 - 128) ≤ 127) ∧ (inR ((σ 1 1) + 1)) ∧ (inR (x2 + (-8))) ∧ WM M_Ta_write 3 [(0, vR 1), (1, vI x1), (2, vI (x2 + (-8)))] [] (ups (ups σ 2 (σ 1 1) (((x1 / 2 ^ x2.toNat) + 128) % 256 - 128)) 1 1 ((σ 1 1) + 1)) (QV K)))) : WM M_Ta_write 3 [(0, vR 1), (1, vI x1), (2, vI x2)] [] σ (QV K) := by
  refine r_iload_n d_Ta_write_3 rfl (?_ : WM _ 4 _ _ _ _)
  refine r_if_lt 46 d_Ta_write_4 rfl ⟨fun c1 => (?_ : WM _ 46 _ _ _ _), fun c1 => (?_ : WM _ 7 _ _ _ _)⟩
  · replace h := h.1 c1
    exact r_return rfl d_Ta_write_46 h
  · replace h := h.2 c1
    refine r_aload_n d_Ta_write_7 rfl (?_ : WM _ 8 _ _ _ _)
    refine r_getI (k := 1) (j := 1) 1 (by decide) rfl clk_7 (by decide) (qm_1 (i := 68) rfl rfl) rfl rfl d_Ta_write_8 (y := (σ 1 1)) rfl (?_ : WM _ 11 _ _ _ _)
    refine r_sipush d_Ta_write_11 (by decide) (by decide) (?_ : WM _ 14 _ _ _ _)
    refine r_icmp_ge 46 d_Ta_write_14 rfl ⟨fun c2 => (?_ : WM _ 46 _ _ _ _), fun c2 => (?_ : WM _ 17 _ _ _ _)⟩
    · replace h := h.1 c2
      exact r_return rfl d_Ta_write_46 h
    · replace h := h.2 c2
      refine r_aload_n d_Ta_write_17 rfl (?_ : WM _ 18 _ _ _ _)
      refine r_getR (k := 1) (j := 0) (q := 2) (by decide) rfl clk_7 (by decide) (qm_1 (i := 66) rfl rfl) rfl d_Ta_write_18 (?_ : WM _ 21 _ _ _ _)
      refine r_aload_n d_Ta_write_21 rfl (?_ : WM _ 22 _ _ _ _)
      refine r_getI (k := 1) (j := 1) 1 (by decide) rfl clk_7 (by decide) (qm_1 (i := 68) rfl rfl) rfl rfl d_Ta_write_22 (y := (σ 1 1)) rfl (?_ : WM _ 25 _ _ _ _)
      refine r_iload_n d_Ta_write_25 rfl (?_ : WM _ 26 _ _ _ _)
      refine r_iload_n d_Ta_write_26 rfl (?_ : WM _ 27 _ _ _ _)
      obtain ⟨h3, h⟩ := h
      obtain ⟨h4, h⟩ := h
      obtain ⟨h5, h⟩ := h
      refine r_ishr d_Ta_write_27 h3 h4 h5 (?_ : WM _ 28 _ _ _ _)
      refine r_i2b d_Ta_write_28 (?_ : WM _ 29 _ _ _ _)
      obtain ⟨h6, h⟩ := h
      obtain ⟨h7, h⟩ := h
      obtain ⟨h8, h⟩ := h
      obtain ⟨h9, h⟩ := h
      refine r_bast (k := 2) (n := 900) (by decide) rfl d_Ta_write_29 h6 h7 h8 h9 (?_ : WM _ 30 _ _ _ _)
      refine r_aload_n d_Ta_write_30 rfl (?_ : WM _ 31 _ _ _ _)
      refine r_dup d_Ta_write_31 rfl (?_ : WM _ 32 _ _ _ _)
      refine r_getI (k := 1) (j := 1) 1 (by decide) rfl clk_7 (by decide) (qm_1 (i := 68) rfl rfl) rfl rfl d_Ta_write_32 (y := (σ 1 1)) (ups_c (by decide)) (?_ : WM _ 35 _ _ _ _)
      refine r_iconst d_Ta_write_35 (by decide) (?_ : WM _ 36 _ _ _ _)
      obtain ⟨h10, h⟩ := h
      refine r_iadd d_Ta_write_36 h10 (?_ : WM _ 37 _ _ _ _)
      refine r_put (k := 1) (j := 1) 1 (by decide) rfl clk_7 (by decide) (qm_1 (i := 68) rfl rfl) rfl rfl rfl tyX7_ok rfl nmX7 d_Ta_write_37 (?_ : WM _ 40 _ _ _ _)
      obtain ⟨h11, h⟩ := h
      refine r_iinc (ls' := [(2, vI (x2 + (-8))), (0, vR 1), (1, vI x1)]) d_Ta_write_40 rfl h11 (by decide) rfl (?_ : WM _ 43 _ _ _ _)
      refine r_goto 3 d_Ta_write_43 rfl ?_
      refine r_pick (ls' := [(0, vR 1), (1, vI x1), (2, vI (x2 + (-8)))]) [1, 2, 0] rfl ?_
      exact h
set_option maxRecDepth 20000 in
theorem e_Le_become {K : St → Prop} {σ : St}  (h : WM M_Le_become 7 [(0, vR 3), (1, vR 9), (2, vI 0)] [] (ups σ 3 4 0) (QV K)) : CV M_Le_become [vR 3, vR 9] σ K := by
  refine Con.of ok_M_Le_become (ls := [(0, vR 3), (1, vR 9)]) rfl (Nat.le_of_ble_eq_true rfl) ?_
  refine r_aload_n d_Le_become_0 rfl (?_ : WM _ 1 _ _ _ _)
  refine r_iconst d_Le_become_1 (by decide) (?_ : WM _ 2 _ _ _ _)
  refine r_put (k := 3) (j := 4) 4 (by decide) rfl clk_3 (by decide) (qm_1 (i := 91) rfl rfl) rfl rfl rfl tyX3_ok rfl nmX3 d_Le_become_2 (?_ : WM _ 5 _ _ _ _)
  refine r_iconst d_Le_become_5 (by decide) (?_ : WM _ 6 _ _ _ _)
  refine r_istore_n (ls' := [(2, vI 0), (0, vR 3), (1, vR 9)]) d_Le_become_6 rfl (by decide) rfl (?_ : WM _ 7 _ _ _ _)
  refine r_pick (ls' := [(0, vR 3), (1, vR 9), (2, vI 0)]) [1, 2, 0] rfl ?_
  exact h
set_option maxRecDepth 20000 in
theorem l_Le_become_1 {K : St → Prop} {σ : St} (x2 : Int) (h : ((σ 9 4) ≤ x2 → K σ) ∧ (¬ (σ 9 4) ≤ x2 → (0 ≤ x2) ∧ (x2 < 48) ∧ CV M_Le_append [vR 3, vI (σ 10 x2), vI (σ 11 x2), vI (σ 12 x2)] σ (fun σ4 => (inR (x2 + 1)) ∧ WM M_Le_become 7 [(0, vR 3), (1, vR 9), (2, vI (x2 + 1))] [] (ups σ4 7 x2 (σ4 13 x2)) (QV K)))) : WM M_Le_become 7 [(0, vR 3), (1, vR 9), (2, vI x2)] [] σ (QV K) := by
  refine r_iload_n d_Le_become_7 rfl (?_ : WM _ 8 _ _ _ _)
  refine r_aload_n d_Le_become_8 rfl (?_ : WM _ 9 _ _ _ _)
  refine r_getI (k := 9) (j := 4) 4 (by decide) rfl clk_3 (by decide) (qm_1 (i := 91) rfl rfl) rfl rfl d_Le_become_9 (y := (σ 9 4)) rfl (?_ : WM _ 12 _ _ _ _)
  refine r_icmp_ge 55 d_Le_become_12 rfl ⟨fun c1 => (?_ : WM _ 55 _ _ _ _), fun c1 => (?_ : WM _ 15 _ _ _ _)⟩
  · replace h := h.1 c1
    exact r_return rfl d_Le_become_55 h
  · replace h := h.2 c1
    refine r_aload_n d_Le_become_15 rfl (?_ : WM _ 16 _ _ _ _)
    refine r_aload_n d_Le_become_16 rfl (?_ : WM _ 17 _ _ _ _)
    refine r_getR (k := 9) (j := 0) (q := 10) (by decide) rfl clk_3 (by decide) (qm_1 (i := 81) rfl rfl) rfl d_Le_become_17 (?_ : WM _ 20 _ _ _ _)
    refine r_iload_n d_Le_become_20 rfl (?_ : WM _ 21 _ _ _ _)
    obtain ⟨h2, h⟩ := h
    obtain ⟨h3, h⟩ := h
    refine r_iald (k := 10) (n := 48) (by decide) rfl d_Le_become_21 h2 h3 (y := (σ 10 x2)) rfl (?_ : WM _ 22 _ _ _ _)
    refine r_aload_n d_Le_become_22 rfl (?_ : WM _ 23 _ _ _ _)
    refine r_getR (k := 9) (j := 1) (q := 11) (by decide) rfl clk_3 (by decide) (qm_1 (i := 83) rfl rfl) rfl d_Le_become_23 (?_ : WM _ 26 _ _ _ _)
    refine r_iload_n d_Le_become_26 rfl (?_ : WM _ 27 _ _ _ _)
    refine r_iald (k := 11) (n := 48) (by decide) rfl d_Le_become_27 h2 h3 (y := (σ 11 x2)) rfl (?_ : WM _ 28 _ _ _ _)
    refine r_aload_n d_Le_become_28 rfl (?_ : WM _ 29 _ _ _ _)
    refine r_getR (k := 9) (j := 2) (q := 12) (by decide) rfl clk_3 (by decide) (qm_1 (i := 85) rfl rfl) rfl d_Le_become_29 (?_ : WM _ 32 _ _ _ _)
    refine r_iload_n d_Le_become_32 rfl (?_ : WM _ 33 _ _ _ _)
    refine r_iald (k := 12) (n := 48) (by decide) rfl d_Le_become_33 h2 h3 (y := (σ 12 x2)) rfl (?_ : WM _ 34 _ _ _ _)
    refine r_callV (ν := M_Le_append) (k := 3) [vI (σ 10 x2), vI (σ 11 x2), vI (σ 12 x2)] ok_M_Le_append okv_M_Le_append (by decide) rfl rfl rfl (qm_5 (i := 98) rfl rfl) np_M_Le_append rfl (by decide) (Nat.le_of_ble_eq_true rfl) rfl d_Le_become_34 (CV.k h (fun σ4 h => (?_ : WM _ 37 _ _ _ _)))
    refine r_aload_n d_Le_become_37 rfl (?_ : WM _ 38 _ _ _ _)
    refine r_getR (k := 3) (j := 3) (q := 7) (by decide) rfl clk_3 (by decide) (qm_1 (i := 87) rfl rfl) rfl d_Le_become_38 (?_ : WM _ 41 _ _ _ _)
    refine r_iload_n d_Le_become_41 rfl (?_ : WM _ 42 _ _ _ _)
    refine r_aload_n d_Le_become_42 rfl (?_ : WM _ 43 _ _ _ _)
    refine r_getR (k := 9) (j := 3) (q := 13) (by decide) rfl clk_3 (by decide) (qm_1 (i := 87) rfl rfl) rfl d_Le_become_43 (?_ : WM _ 46 _ _ _ _)
    refine r_iload_n d_Le_become_46 rfl (?_ : WM _ 47 _ _ _ _)
    refine r_iald (k := 13) (n := 48) (by decide) rfl d_Le_become_47 h2 h3 (y := (σ4 13 x2)) rfl (?_ : WM _ 48 _ _ _ _)
    refine r_iast (k := 7) (n := 48) (by decide) rfl d_Le_become_48 h2 h3 (?_ : WM _ 49 _ _ _ _)
    obtain ⟨h6, h⟩ := h
    refine r_iinc (ls' := [(2, vI (x2 + 1)), (0, vR 3), (1, vR 9)]) d_Le_become_49 rfl h6 (by decide) rfl (?_ : WM _ 52 _ _ _ _)
    refine r_goto 7 d_Le_become_52 rfl ?_
    refine r_pick (ls' := [(0, vR 3), (1, vR 9), (2, vI (x2 + 1))]) [1, 2, 0] rfl ?_
    exact h
set_option maxRecDepth 20000 in
theorem e_Te_of {K : Int → St → Prop} {σ : St} (x1 : Int) (h : CI M_Te_has [vR 14, vI x1] σ (fun v2 σ1 => (v2 = 0 → K (-1) σ1) ∧ (¬ v2 = 0 → (0 ≤ x1) ∧ (x1 < 5) ∧ K (σ1 15 x1) σ1))) : CI M_Te_of [vR 14, vI x1] σ K := by
  refine Con.of ok_M_Te_of (ls := [(0, vR 14), (1, vI x1)]) rfl (Nat.le_of_ble_eq_true rfl) ?_
  refine r_aload_n d_Te_of_0 rfl (?_ : WM _ 1 _ _ _ _)
  refine r_iload_n d_Te_of_1 rfl (?_ : WM _ 2 _ _ _ _)
  refine r_callV (ν := M_Te_has) (k := 14) [vI x1] ok_M_Te_has okv_M_Te_has (by decide) rfl rfl rfl (qm_2 (i := 81) rfl rfl) np_M_Te_has rfl (by decide) (Nat.le_of_ble_eq_true rfl) rfl d_Te_of_2 (CI.k h (fun v2 σ1 h => (?_ : WM _ 5 _ _ _ _)))
  refine r_if_eq 17 d_Te_of_5 rfl ⟨fun c3 => (?_ : WM _ 17 _ _ _ _), fun c3 => (?_ : WM _ 8 _ _ _ _)⟩
  · replace h := h.1 c3
    refine r_iconst d_Te_of_17 (by decide) (?_ : WM _ 18 _ _ _ _)
    exact r_ireturn rfl d_Te_of_18 h
  · replace h := h.2 c3
    refine r_aload_n d_Te_of_8 rfl (?_ : WM _ 9 _ _ _ _)
    refine r_getR (k := 14) (j := 0) (q := 15) (by decide) rfl clk_8 (by decide) (qm_1 (i := 145) rfl rfl) rfl d_Te_of_9 (?_ : WM _ 12 _ _ _ _)
    refine r_iload_n d_Te_of_12 rfl (?_ : WM _ 13 _ _ _ _)
    obtain ⟨h4, h⟩ := h
    obtain ⟨h5, h⟩ := h
    refine r_iald (k := 15) (n := 5) (by decide) rfl d_Te_of_13 h4 h5 (y := (σ1 15 x1)) rfl (?_ : WM _ 14 _ _ _ _)
    refine r_goto 18 d_Te_of_14 rfl ?_
    exact r_ireturn rfl d_Te_of_18 h
set_option maxRecDepth 20000 in
theorem e_La_lay_16 {K : St → Prop} {σ : St} (x1 : Int) (h : WM M_La_lay 17 [(0, vR 16), (2, vI 0)] [] (ups (ups (ups σ 16 0 x1) 16 1 0) 16 2 0) (QV K)) : CV M_La_lay [vR 16, vI x1] σ K := by
  refine Con.of ok_M_La_lay (ls := [(0, vR 16), (1, vI x1)]) rfl (Nat.le_of_ble_eq_true rfl) ?_
  refine r_aload_n d_La_lay_0 rfl (?_ : WM _ 1 _ _ _ _)
  refine r_iload_n d_La_lay_1 rfl (?_ : WM _ 2 _ _ _ _)
  refine r_put (k := 16) (j := 0) 0 (by decide) rfl clk_2 (by decide) (qm_1 (i := 155) rfl rfl) rfl rfl rfl tyX2_ok rfl nmX2 d_La_lay_2 (?_ : WM _ 5 _ _ _ _)
  refine r_aload_n d_La_lay_5 rfl (?_ : WM _ 6 _ _ _ _)
  refine r_iconst d_La_lay_6 (by decide) (?_ : WM _ 7 _ _ _ _)
  refine r_put (k := 16) (j := 1) 1 (by decide) rfl clk_2 (by decide) (qm_1 (i := 159) rfl rfl) rfl rfl rfl tyX2_ok rfl nmX2 d_La_lay_7 (?_ : WM _ 10 _ _ _ _)
  refine r_aload_n d_La_lay_10 rfl (?_ : WM _ 11 _ _ _ _)
  refine r_iconst d_La_lay_11 (by decide) (?_ : WM _ 12 _ _ _ _)
  refine r_put (k := 16) (j := 2) 2 (by decide) rfl clk_2 (by decide) (qm_1 (i := 162) rfl rfl) rfl rfl rfl tyX2_ok rfl nmX2 d_La_lay_12 (?_ : WM _ 15 _ _ _ _)
  refine r_iconst d_La_lay_15 (by decide) (?_ : WM _ 16 _ _ _ _)
  refine r_istore_n (ls' := [(2, vI 0), (0, vR 16), (1, vI x1)]) d_La_lay_16 rfl (by decide) rfl (?_ : WM _ 17 _ _ _ _)
  refine r_pick (ls' := [(0, vR 16), (2, vI 0)]) [1, 0] rfl ?_
  exact h
set_option maxRecDepth 20000 in
theorem l_La_lay_16_1 {K : St → Prop} {σ : St} (x2 : Int) (h : ((σ 3 4) ≤ x2 → K σ) ∧ (¬ (σ 3 4) ≤ x2 → (0 ≤ x2) ∧ (x2 < 48) ∧ CI M_La_isCertain [vR 16, vI x2] (ups (ups σ 17 x2 0) 35 x2 0) (fun v5 σ4 => (v5 = 0 → CI M_Le_coinsOf [vR 3, vI x2] σ4 (fun v8 σ7 => (v8 ≤ 0 → (inR (x2 + 1)) ∧ WM M_La_lay 17 [(0, vR 16), (2, vI (x2 + 1))] [] σ7 (QV K)) ∧ (¬ v8 ≤ 0 → (inR ((σ7 16 1) + 1)) ∧ CI M_Le_coinsOf [vR 3, vI x2] (ups σ7 17 x2 ((σ7 16 1) + 1)) (fun v13 σ12 => (inR ((σ7 16 1) + v13)) ∧ (inR (x2 + 1)) ∧ WM M_La_lay 17 [(0, vR 16), (2, vI (x2 + 1))] [] (ups (ups σ12 16 1 ((σ7 16 1) + v13)) 35 x2 ((σ7 16 1) + v13)) (QV K))))) ∧ (¬ v5 = 0 → (inR ((σ4 16 2) + 1)) ∧ (inR (x2 + 1)) ∧ WM M_La_lay 17 [(0, vR 16), (2, vI (x2 + 1))] [] (ups σ4 16 2 ((σ4 16 2) + 1)) (QV K))))) : WM M_La_lay 17 [(0, vR 16), (2, vI x2)] [] σ (QV K) := by
  refine r_iload_n d_La_lay_17 rfl (?_ : WM _ 18 _ _ _ _)
  refine r_aload_n d_La_lay_18 rfl (?_ : WM _ 19 _ _ _ _)
  refine r_getR (k := 16) (j := 3) (q := 3) (by decide) rfl clk_2 (by decide) (qm_1 (i := 164) rfl rfl) rfl d_La_lay_19 (?_ : WM _ 22 _ _ _ _)
  refine r_getI (k := 3) (j := 4) 4 (by decide) rfl clk_3 (by decide) (qm_1 (i := 92) rfl rfl) rfl rfl d_La_lay_22 (y := (σ 3 4)) rfl (?_ : WM _ 25 _ _ _ _)
  refine r_icmp_ge 119 d_La_lay_25 rfl ⟨fun c1 => (?_ : WM _ 119 _ _ _ _), fun c1 => (?_ : WM _ 28 _ _ _ _)⟩
  · replace h := h.1 c1
    exact r_return rfl d_La_lay_119 h
  · replace h := h.2 c1
    refine r_aload_n d_La_lay_28 rfl (?_ : WM _ 29 _ _ _ _)
    refine r_getR (k := 16) (j := 4) (q := 17) (by decide) rfl clk_2 (by decide) (qm_1 (i := 165) rfl rfl) rfl d_La_lay_29 (?_ : WM _ 32 _ _ _ _)
    refine r_iload_n d_La_lay_32 rfl (?_ : WM _ 33 _ _ _ _)
    refine r_iconst d_La_lay_33 (by decide) (?_ : WM _ 34 _ _ _ _)
    obtain ⟨h2, h⟩ := h
    obtain ⟨h3, h⟩ := h
    refine r_iast (k := 17) (n := 48) (by decide) rfl d_La_lay_34 h2 h3 (?_ : WM _ 35 _ _ _ _)
    refine r_aload_n d_La_lay_35 rfl (?_ : WM _ 36 _ _ _ _)
    refine r_getR (k := 16) (j := 5) (q := 35) (by decide) rfl clk_2 (by decide) (qm_1 (i := 166) rfl rfl) rfl d_La_lay_36 (?_ : WM _ 39 _ _ _ _)
    refine r_iload_n d_La_lay_39 rfl (?_ : WM _ 40 _ _ _ _)
    refine r_iconst d_La_lay_40 (by decide) (?_ : WM _ 41 _ _ _ _)
    refine r_iast (k := 35) (n := 48) (by decide) rfl d_La_lay_41 h2 h3 (?_ : WM _ 42 _ _ _ _)
    refine r_aload_n d_La_lay_42 rfl (?_ : WM _ 43 _ _ _ _)
    refine r_iload_n d_La_lay_43 rfl (?_ : WM _ 44 _ _ _ _)
    refine r_callV (ν := M_La_isCertain) (k := 16) [vI x2] ok_M_La_isCertain okv_M_La_isCertain (by decide) rfl rfl rfl (qm_5 (i := 107) rfl rfl) np_M_La_isCertain rfl (by decide) (Nat.le_of_ble_eq_true rfl) rfl d_La_lay_44 (CI.k h (fun v5 σ4 h => (?_ : WM _ 47 _ _ _ _)))
    refine r_if_eq 63 d_La_lay_47 rfl ⟨fun c6 => (?_ : WM _ 63 _ _ _ _), fun c6 => (?_ : WM _ 50 _ _ _ _)⟩
    · replace h := h.1 c6
      refine r_aload_n d_La_lay_63 rfl (?_ : WM _ 64 _ _ _ _)
      refine r_getR (k := 16) (j := 3) (q := 3) (by decide) rfl clk_2 (by decide) (qm_1 (i := 164) rfl rfl) rfl d_La_lay_64 (?_ : WM _ 67 _ _ _ _)
      refine r_iload_n d_La_lay_67 rfl (?_ : WM _ 68 _ _ _ _)
      refine r_callV (ν := M_Le_coinsOf) (k := 3) [vI x2] ok_M_Le_coinsOf okv_M_Le_coinsOf (by decide) rfl rfl rfl (qm_5 (i := 111) rfl rfl) np_M_Le_coinsOf rfl (by decide) (Nat.le_of_ble_eq_true rfl) rfl d_La_lay_68 (CI.k h (fun v8 σ7 h => (?_ : WM _ 71 _ _ _ _)))
      refine r_if_le 113 d_La_lay_71 rfl ⟨fun c9 => (?_ : WM _ 113 _ _ _ _), fun c9 => (?_ : WM _ 74 _ _ _ _)⟩
      · replace h := h.1 c9
        obtain ⟨h10, h⟩ := h
        refine r_iinc (ls' := [(2, vI (x2 + 1)), (0, vR 16)]) d_La_lay_113 rfl h10 (by decide) rfl (?_ : WM _ 116 _ _ _ _)
        refine r_goto 17 d_La_lay_116 rfl ?_
        refine r_pick (ls' := [(0, vR 16), (2, vI (x2 + 1))]) [1, 0] rfl ?_
        exact h
      · replace h := h.2 c9
        refine r_aload_n d_La_lay_74 rfl (?_ : WM _ 75 _ _ _ _)
        refine r_getR (k := 16) (j := 4) (q := 17) (by decide) rfl clk_2 (by decide) (qm_1 (i := 165) rfl rfl) rfl d_La_lay_75 (?_ : WM _ 78 _ _ _ _)
        refine r_iload_n d_La_lay_78 rfl (?_ : WM _ 79 _ _ _ _)
        refine r_aload_n d_La_lay_79 rfl (?_ : WM _ 80 _ _ _ _)
        refine r_getI (k := 16) (j := 1) 1 (by decide) rfl clk_2 (by decide) (qm_1 (i := 159) rfl rfl) rfl rfl d_La_lay_80 (y := (σ7 16 1)) rfl (?_ : WM _ 83 _ _ _ _)
        refine r_iconst d_La_lay_83 (by decide) (?_ : WM _ 84 _ _ _ _)
        obtain ⟨h11, h⟩ := h
        refine r_iadd d_La_lay_84 h11 (?_ : WM _ 85 _ _ _ _)
        refine r_iast (k := 17) (n := 48) (by decide) rfl d_La_lay_85 h2 h3 (?_ : WM _ 86 _ _ _ _)
        refine r_aload_n d_La_lay_86 rfl (?_ : WM _ 87 _ _ _ _)
        refine r_dup d_La_lay_87 rfl (?_ : WM _ 88 _ _ _ _)
        refine r_getI (k := 16) (j := 1) 1 (by decide) rfl clk_2 (by decide) (qm_1 (i := 159) rfl rfl) rfl rfl d_La_lay_88 (y := (σ7 16 1)) (ups_c (by decide)) (?_ : WM _ 91 _ _ _ _)
        refine r_aload_n d_La_lay_91 rfl (?_ : WM _ 92 _ _ _ _)
        refine r_getR (k := 16) (j := 3) (q := 3) (by decide) rfl clk_2 (by decide) (qm_1 (i := 164) rfl rfl) rfl d_La_lay_92 (?_ : WM _ 95 _ _ _ _)
        refine r_iload_n d_La_lay_95 rfl (?_ : WM _ 96 _ _ _ _)
        refine r_callV (ν := M_Le_coinsOf) (k := 3) [vI x2] ok_M_Le_coinsOf okv_M_Le_coinsOf (by decide) rfl rfl rfl (qm_5 (i := 111) rfl rfl) np_M_Le_coinsOf rfl (by decide) (Nat.le_of_ble_eq_true rfl) rfl d_La_lay_96 (CI.k h (fun v13 σ12 h => (?_ : WM _ 99 _ _ _ _)))
        obtain ⟨h14, h⟩ := h
        refine r_iadd d_La_lay_99 h14 (?_ : WM _ 100 _ _ _ _)
        refine r_put (k := 16) (j := 1) 1 (by decide) rfl clk_2 (by decide) (qm_1 (i := 159) rfl rfl) rfl rfl rfl tyX2_ok rfl nmX2 d_La_lay_100 (?_ : WM _ 103 _ _ _ _)
        refine r_aload_n d_La_lay_103 rfl (?_ : WM _ 104 _ _ _ _)
        refine r_getR (k := 16) (j := 5) (q := 35) (by decide) rfl clk_2 (by decide) (qm_1 (i := 166) rfl rfl) rfl d_La_lay_104 (?_ : WM _ 107 _ _ _ _)
        refine r_iload_n d_La_lay_107 rfl (?_ : WM _ 108 _ _ _ _)
        refine r_aload_n d_La_lay_108 rfl (?_ : WM _ 109 _ _ _ _)
        refine r_getI (k := 16) (j := 1) 1 (by decide) rfl clk_2 (by decide) (qm_1 (i := 159) rfl rfl) rfl rfl d_La_lay_109 (y := ((σ7 16 1) + v13)) (ups_s) (?_ : WM _ 112 _ _ _ _)
        refine r_iast (k := 35) (n := 48) (by decide) rfl d_La_lay_112 h2 h3 (?_ : WM _ 113 _ _ _ _)
        obtain ⟨h15, h⟩ := h
        refine r_iinc (ls' := [(2, vI (x2 + 1)), (0, vR 16)]) d_La_lay_113 rfl h15 (by decide) rfl (?_ : WM _ 116 _ _ _ _)
        refine r_goto 17 d_La_lay_116 rfl ?_
        refine r_pick (ls' := [(0, vR 16), (2, vI (x2 + 1))]) [1, 0] rfl ?_
        exact h
    · replace h := h.2 c6
      refine r_aload_n d_La_lay_50 rfl (?_ : WM _ 51 _ _ _ _)
      refine r_dup d_La_lay_51 rfl (?_ : WM _ 52 _ _ _ _)
      refine r_getI (k := 16) (j := 2) 2 (by decide) rfl clk_2 (by decide) (qm_1 (i := 162) rfl rfl) rfl rfl d_La_lay_52 (y := (σ4 16 2)) rfl (?_ : WM _ 55 _ _ _ _)
      refine r_iconst d_La_lay_55 (by decide) (?_ : WM _ 56 _ _ _ _)
      obtain ⟨h16, h⟩ := h
      refine r_iadd d_La_lay_56 h16 (?_ : WM _ 57 _ _ _ _)
      refine r_put (k := 16) (j := 2) 2 (by decide) rfl clk_2 (by decide) (qm_1 (i := 162) rfl rfl) rfl rfl rfl tyX2_ok rfl nmX2 d_La_lay_57 (?_ : WM _ 60 _ _ _ _)
      refine r_goto 113 d_La_lay_60 rfl ?_
      obtain ⟨h17, h⟩ := h
      refine r_iinc (ls' := [(2, vI (x2 + 1)), (0, vR 16)]) d_La_lay_113 rfl h17 (by decide) rfl (?_ : WM _ 116 _ _ _ _)
      refine r_goto 17 d_La_lay_116 rfl ?_
      refine r_pick (ls' := [(0, vR 16), (2, vI (x2 + 1))]) [1, 0] rfl ?_
      exact h
set_option maxRecDepth 20000 in
theorem e_Te_has {K : Int → St → Prop} {σ : St} (x1 : Int) (h : (x1 < 0 → K 0 σ) ∧ (¬ x1 < 0 → (5 ≤ x1 → K 0 σ) ∧ (¬ 5 ≤ x1 → K 1 σ))) : CI M_Te_has [vR 14, vI x1] σ K := by
  refine Con.of ok_M_Te_has (ls := [(0, vR 14), (1, vI x1)]) rfl (Nat.le_of_ble_eq_true rfl) ?_
  refine r_iload_n d_Te_has_0 rfl (?_ : WM _ 1 _ _ _ _)
  refine r_if_lt 13 d_Te_has_1 rfl ⟨fun c1 => (?_ : WM _ 13 _ _ _ _), fun c1 => (?_ : WM _ 4 _ _ _ _)⟩
  · replace h := h.1 c1
    refine r_iconst d_Te_has_13 (by decide) (?_ : WM _ 14 _ _ _ _)
    exact r_zreturn rfl d_Te_has_14 (by decide) h
  · replace h := h.2 c1
    refine r_iload_n d_Te_has_4 rfl (?_ : WM _ 5 _ _ _ _)
    refine r_iconst d_Te_has_5 (by decide) (?_ : WM _ 6 _ _ _ _)
    refine r_icmp_ge 13 d_Te_has_6 rfl ⟨fun c2 => (?_ : WM _ 13 _ _ _ _), fun c2 => (?_ : WM _ 9 _ _ _ _)⟩
    · replace h := h.1 c2
      refine r_iconst d_Te_has_13 (by decide) (?_ : WM _ 14 _ _ _ _)
      exact r_zreturn rfl d_Te_has_14 (by decide) h
    · replace h := h.2 c2
      refine r_iconst d_Te_has_9 (by decide) (?_ : WM _ 10 _ _ _ _)
      refine r_goto 14 d_Te_has_10 rfl ?_
      exact r_zreturn rfl d_Te_has_14 (by decide) h
set_option maxRecDepth 20000 in
theorem e_Te_allows {K : Int → St → Prop} {σ : St} (x1 : Int) (x2 : Int) (h : CI M_Te_has [vR 14, vI x1] σ (fun v2 σ1 => (v2 = 0 → K 0 σ1) ∧ (¬ v2 = 0 → (0 ≤ x1) ∧ (x1 < 5) ∧ (x2 < (leastq x1) → K 0 σ1) ∧ (¬ x2 < (leastq x1) → ((greatq x1) < x2 → K 0 σ1) ∧ (¬ (greatq x1) < x2 → K 1 σ1))))) : CI M_Te_allows [vR 14, vI x1, vI x2] σ K := by
  refine Con.of ok_M_Te_allows (ls := [(0, vR 14), (1, vI x1), (2, vI x2)]) rfl (Nat.le_of_ble_eq_true rfl) ?_
  refine r_aload_n d_Te_allows_0 rfl (?_ : WM _ 1 _ _ _ _)
  refine r_iload_n d_Te_allows_1 rfl (?_ : WM _ 2 _ _ _ _)
  refine r_callV (ν := M_Te_has) (k := 14) [vI x1] ok_M_Te_has okv_M_Te_has (by decide) rfl rfl rfl (qm_2 (i := 81) rfl rfl) np_M_Te_has rfl (by decide) (Nat.le_of_ble_eq_true rfl) rfl d_Te_allows_2 (CI.k h (fun v2 σ1 h => (?_ : WM _ 5 _ _ _ _)))
  refine r_if_eq 30 d_Te_allows_5 rfl ⟨fun c3 => (?_ : WM _ 30 _ _ _ _), fun c3 => (?_ : WM _ 8 _ _ _ _)⟩
  · replace h := h.1 c3
    refine r_iconst d_Te_allows_30 (by decide) (?_ : WM _ 31 _ _ _ _)
    exact r_zreturn rfl d_Te_allows_31 (by decide) h
  · replace h := h.2 c3
    refine r_iload_n d_Te_allows_8 rfl (?_ : WM _ 9 _ _ _ _)
    refine r_gets (q := 60) (fun _ _ _ _ h => h.1) (qm_5 (i := 140) rfl rfl) d_Te_allows_9 (?_ : WM _ 12 _ _ _ _)
    refine r_iload_n d_Te_allows_12 rfl (?_ : WM _ 13 _ _ _ _)
    obtain ⟨h4, h⟩ := h
    obtain ⟨h5, h⟩ := h
    refine r_tiald (q := 60) (n := 5) (f := leastq) (fun _ _ _ _ h => h.2.1) least_in d_Te_allows_13 h4 h5 (?_ : WM _ 14 _ _ _ _)
    refine r_icmp_lt 30 d_Te_allows_14 rfl ⟨fun c6 => (?_ : WM _ 30 _ _ _ _), fun c6 => (?_ : WM _ 17 _ _ _ _)⟩
    · replace h := h.1 c6
      refine r_iconst d_Te_allows_30 (by decide) (?_ : WM _ 31 _ _ _ _)
      exact r_zreturn rfl d_Te_allows_31 (by decide) h
    · replace h := h.2 c6
      refine r_iload_n d_Te_allows_17 rfl (?_ : WM _ 18 _ _ _ _)
      refine r_gets (q := 61) (fun _ _ _ _ h => h.2.2.1) (qm_5 (i := 142) rfl rfl) d_Te_allows_18 (?_ : WM _ 21 _ _ _ _)
      refine r_iload_n d_Te_allows_21 rfl (?_ : WM _ 22 _ _ _ _)
      refine r_tiald (q := 61) (n := 5) (f := greatq) (fun _ _ _ _ h => h.2.2.2.1) great_in d_Te_allows_22 h4 h5 (?_ : WM _ 23 _ _ _ _)
      refine r_icmp_gt 30 d_Te_allows_23 rfl ⟨fun c7 => (?_ : WM _ 30 _ _ _ _), fun c7 => (?_ : WM _ 26 _ _ _ _)⟩
      · replace h := h.1 c7
        refine r_iconst d_Te_allows_30 (by decide) (?_ : WM _ 31 _ _ _ _)
        exact r_zreturn rfl d_Te_allows_31 (by decide) h
      · replace h := h.2 c7
        refine r_iconst d_Te_allows_26 (by decide) (?_ : WM _ 27 _ _ _ _)
        refine r_goto 31 d_Te_allows_27 rfl ?_
        exact r_zreturn rfl d_Te_allows_31 (by decide) h
set_option maxRecDepth 20000 in
theorem e_Te_tell {K : St → Prop} {σ : St} (x1 : Int) (x2 : Int) (h : CI M_Te_has [vR 14, vI x1] σ (fun v2 σ1 => (v2 = 0 → K σ1) ∧ (¬ v2 = 0 → (0 ≤ x1) ∧ (x1 < 5) ∧ K (ups σ1 15 x1 x2)))) : CV M_Te_tell [vR 14, vI x1, vI x2] σ K := by
  refine Con.of ok_M_Te_tell (ls := [(0, vR 14), (1, vI x1), (2, vI x2)]) rfl (Nat.le_of_ble_eq_true rfl) ?_
  refine r_aload_n d_Te_tell_0 rfl (?_ : WM _ 1 _ _ _ _)
  refine r_iload_n d_Te_tell_1 rfl (?_ : WM _ 2 _ _ _ _)
  refine r_callV (ν := M_Te_has) (k := 14) [vI x1] ok_M_Te_has okv_M_Te_has (by decide) rfl rfl rfl (qm_2 (i := 81) rfl rfl) np_M_Te_has rfl (by decide) (Nat.le_of_ble_eq_true rfl) rfl d_Te_tell_2 (CI.k h (fun v2 σ1 h => (?_ : WM _ 5 _ _ _ _)))
  refine r_if_eq 15 d_Te_tell_5 rfl ⟨fun c3 => (?_ : WM _ 15 _ _ _ _), fun c3 => (?_ : WM _ 8 _ _ _ _)⟩
  · replace h := h.1 c3
    exact r_return rfl d_Te_tell_15 h
  · replace h := h.2 c3
    refine r_aload_n d_Te_tell_8 rfl (?_ : WM _ 9 _ _ _ _)
    refine r_getR (k := 14) (j := 0) (q := 15) (by decide) rfl clk_8 (by decide) (qm_1 (i := 145) rfl rfl) rfl d_Te_tell_9 (?_ : WM _ 12 _ _ _ _)
    refine r_iload_n d_Te_tell_12 rfl (?_ : WM _ 13 _ _ _ _)
    refine r_iload_n d_Te_tell_13 rfl (?_ : WM _ 14 _ _ _ _)
    obtain ⟨h4, h⟩ := h
    obtain ⟨h5, h⟩ := h
    refine r_iast (k := 15) (n := 5) (by decide) rfl d_Te_tell_14 h4 h5 (?_ : WM _ 15 _ _ _ _)
    exact r_return rfl d_Te_tell_15 h
set_option maxRecDepth 20000 in
theorem e_Le_isFull_3 {K : Int → St → Prop} {σ : St}  (h : ((σ 3 4) < 48 → K 0 σ) ∧ (¬ (σ 3 4) < 48 → K 1 σ)) : CI M_Le_isFull [vR 3] σ K := by
  refine Con.of ok_M_Le_isFull (ls := [(0, vR 3)]) rfl (Nat.le_of_ble_eq_true rfl) ?_
  refine r_aload_n d_Le_isFull_0 rfl (?_ : WM _ 1 _ _ _ _)
  refine r_getI (k := 3) (j := 4) 4 (by decide) rfl clk_3 (by decide) (qm_1 (i := 91) rfl rfl) rfl rfl d_Le_isFull_1 (y := (σ 3 4)) rfl (?_ : WM _ 4 _ _ _ _)
  refine r_bipush d_Le_isFull_4 (by decide) (by decide) (?_ : WM _ 6 _ _ _ _)
  refine r_icmp_lt 13 d_Le_isFull_6 rfl ⟨fun c1 => (?_ : WM _ 13 _ _ _ _), fun c1 => (?_ : WM _ 9 _ _ _ _)⟩
  · replace h := h.1 c1
    refine r_iconst d_Le_isFull_13 (by decide) (?_ : WM _ 14 _ _ _ _)
    exact r_zreturn rfl d_Le_isFull_14 (by decide) h
  · replace h := h.2 c1
    refine r_iconst d_Le_isFull_9 (by decide) (?_ : WM _ 10 _ _ _ _)
    refine r_goto 14 d_Le_isFull_10 rfl ?_
    exact r_zreturn rfl d_Le_isFull_14 (by decide) h
set_option maxRecDepth 20000 in
theorem e_Le_indexOf_3 {K : Int → St → Prop} {σ : St} (x1 : Int) (x2 : Int) (h : WM M_Le_indexOf 2 [(0, vR 3), (1, vI x1), (2, vI x2), (3, vI 0)] [] σ (QI K)) : CI M_Le_indexOf [vR 3, vI x1, vI x2] σ K := by
  refine Con.of ok_M_Le_indexOf (ls := [(0, vR 3), (1, vI x1), (2, vI x2)]) rfl (Nat.le_of_ble_eq_true rfl) ?_
  refine r_iconst d_Le_indexOf_0 (by decide) (?_ : WM _ 1 _ _ _ _)
  refine r_istore_n (ls' := [(3, vI 0), (0, vR 3), (1, vI x1), (2, vI x2)]) d_Le_indexOf_1 rfl (by decide) rfl (?_ : WM _ 2 _ _ _ _)
  refine r_pick (ls' := [(0, vR 3), (1, vI x1), (2, vI x2), (3, vI 0)]) [1, 2, 3, 0] rfl ?_
  exact h
set_option maxRecDepth 20000 in
theorem l_Le_indexOf_3_1 {K : Int → St → Prop} {σ : St} (x1 : Int) (x2 : Int) (x3 : Int) (h : ((σ 3 4) ≤ x3 → K (-1) σ) ∧ (¬ (σ 3 4) ≤ x3 → (0 ≤ x3) ∧ (x3 < 48) ∧ (¬ (σ 4 x3) = x1 → (inR (x3 + 1)) ∧ WM M_Le_indexOf 2 [(0, vR 3), (1, vI x1), (2, vI x2), (3, vI (x3 + 1))] [] σ (QI K)) ∧ ((σ 4 x3) = x1 → (¬ (σ 5 x3) = x2 → (inR (x3 + 1)) ∧ WM M_Le_indexOf 2 [(0, vR 3), (1, vI x1), (2, vI x2), (3, vI (x3 + 1))] [] σ (QI K)) ∧ ((σ 5 x3) = x2 → K x3 σ)))) : WM M_Le_indexOf 2 [(0, vR 3), (1, vI x1), (2, vI x2), (3, vI x3)] [] σ (QI K) := by
  refine r_iload_n d_Le_indexOf_2 rfl (?_ : WM _ 3 _ _ _ _)
  refine r_aload_n d_Le_indexOf_3 rfl (?_ : WM _ 4 _ _ _ _)
  refine r_getI (k := 3) (j := 4) 4 (by decide) rfl clk_3 (by decide) (qm_1 (i := 91) rfl rfl) rfl rfl d_Le_indexOf_4 (y := (σ 3 4)) rfl (?_ : WM _ 7 _ _ _ _)
  refine r_icmp_ge 38 d_Le_indexOf_7 rfl ⟨fun c1 => (?_ : WM _ 38 _ _ _ _), fun c1 => (?_ : WM _ 10 _ _ _ _)⟩
  · replace h := h.1 c1
    refine r_iconst d_Le_indexOf_38 (by decide) (?_ : WM _ 39 _ _ _ _)
    exact r_ireturn rfl d_Le_indexOf_39 h
  · replace h := h.2 c1
    refine r_aload_n d_Le_indexOf_10 rfl (?_ : WM _ 11 _ _ _ _)
    refine r_getR (k := 3) (j := 0) (q := 4) (by decide) rfl clk_3 (by decide) (qm_1 (i := 81) rfl rfl) rfl d_Le_indexOf_11 (?_ : WM _ 14 _ _ _ _)
    refine r_iload_n d_Le_indexOf_14 rfl (?_ : WM _ 15 _ _ _ _)
    obtain ⟨h2, h⟩ := h
    obtain ⟨h3, h⟩ := h
    refine r_iald (k := 4) (n := 48) (by decide) rfl d_Le_indexOf_15 h2 h3 (y := (σ 4 x3)) rfl (?_ : WM _ 16 _ _ _ _)
    refine r_iload_n d_Le_indexOf_16 rfl (?_ : WM _ 17 _ _ _ _)
    refine r_icmp_ne 32 d_Le_indexOf_17 rfl ⟨fun c4 => (?_ : WM _ 32 _ _ _ _), fun c4 => (?_ : WM _ 20 _ _ _ _)⟩
    · replace h := h.1 c4
      obtain ⟨h5, h⟩ := h
      refine r_iinc (ls' := [(3, vI (x3 + 1)), (0, vR 3), (1, vI x1), (2, vI x2)]) d_Le_indexOf_32 rfl h5 (by decide) rfl (?_ : WM _ 35 _ _ _ _)
      refine r_goto 2 d_Le_indexOf_35 rfl ?_
      refine r_pick (ls' := [(0, vR 3), (1, vI x1), (2, vI x2), (3, vI (x3 + 1))]) [1, 2, 3, 0] rfl ?_
      exact h
    · replace h := h.2 c4
      refine r_aload_n d_Le_indexOf_20 rfl (?_ : WM _ 21 _ _ _ _)
      refine r_getR (k := 3) (j := 1) (q := 5) (by decide) rfl clk_3 (by decide) (qm_1 (i := 83) rfl rfl) rfl d_Le_indexOf_21 (?_ : WM _ 24 _ _ _ _)
      refine r_iload_n d_Le_indexOf_24 rfl (?_ : WM _ 25 _ _ _ _)
      refine r_iald (k := 5) (n := 48) (by decide) rfl d_Le_indexOf_25 h2 h3 (y := (σ 5 x3)) rfl (?_ : WM _ 26 _ _ _ _)
      refine r_iload_n d_Le_indexOf_26 rfl (?_ : WM _ 27 _ _ _ _)
      refine r_icmp_ne 32 d_Le_indexOf_27 rfl ⟨fun c6 => (?_ : WM _ 32 _ _ _ _), fun c6 => (?_ : WM _ 30 _ _ _ _)⟩
      · replace h := h.1 c6
        obtain ⟨h7, h⟩ := h
        refine r_iinc (ls' := [(3, vI (x3 + 1)), (0, vR 3), (1, vI x1), (2, vI x2)]) d_Le_indexOf_32 rfl h7 (by decide) rfl (?_ : WM _ 35 _ _ _ _)
        refine r_goto 2 d_Le_indexOf_35 rfl ?_
        refine r_pick (ls' := [(0, vR 3), (1, vI x1), (2, vI x2), (3, vI (x3 + 1))]) [1, 2, 3, 0] rfl ?_
        exact h
      · replace h := h.2 c6
        refine r_iload_n d_Le_indexOf_30 rfl (?_ : WM _ 31 _ _ _ _)
        exact r_ireturn rfl d_Le_indexOf_31 h
set_option maxRecDepth 20000 in
theorem e_Le_append_3 {K : St → Prop} {σ : St} (x1 : Int) (x2 : Int) (x3 : Int) (h : CI M_Le_isFull [vR 3] σ (fun v2 σ1 => (v2 = 0 → (0 ≤ (σ1 3 4)) ∧ ((σ1 3 4) < 48) ∧ (inR ((σ1 3 4) + 1)) ∧ K (ups (ups (ups (ups (ups σ1 4 (σ1 3 4) x1) 5 (σ1 3 4) x2) 6 (σ1 3 4) x3) 7 (σ1 3 4) (-1)) 3 4 ((σ1 3 4) + 1))) ∧ (¬ v2 = 0 → K σ1))) : CV M_Le_append [vR 3, vI x1, vI x2, vI x3] σ K := by
  refine Con.of ok_M_Le_append (ls := [(0, vR 3), (1, vI x1), (2, vI x2), (3, vI x3)]) rfl (Nat.le_of_ble_eq_true rfl) ?_
  refine r_aload_n d_Le_append_0 rfl (?_ : WM _ 1 _ _ _ _)
  refine r_callV (ν := M_Le_isFull) (k := 3) [] ok_M_Le_isFull okv_M_Le_isFull (by decide) rfl rfl rfl (qm_5 (i := 76) rfl rfl) np_M_Le_isFull rfl (by decide) (Nat.le_of_ble_eq_true rfl) rfl d_Le_append_1 (CI.k h (fun v2 σ1 h => (?_ : WM _ 4 _ _ _ _)))
  refine r_if_eq 8 d_Le_append_4 rfl ⟨fun c3 => (?_ : WM _ 8 _ _ _ _), fun c3 => (?_ : WM _ 7 _ _ _ _)⟩
  · replace h := h.1 c3
    refine r_aload_n d_Le_append_8 rfl (?_ : WM _ 9 _ _ _ _)
    refine r_getR (k := 3) (j := 0) (q := 4) (by decide) rfl clk_3 (by decide) (qm_1 (i := 81) rfl rfl) rfl d_Le_append_9 (?_ : WM _ 12 _ _ _ _)
    refine r_aload_n d_Le_append_12 rfl (?_ : WM _ 13 _ _ _ _)
    refine r_getI (k := 3) (j := 4) 4 (by decide) rfl clk_3 (by decide) (qm_1 (i := 91) rfl rfl) rfl rfl d_Le_append_13 (y := (σ1 3 4)) rfl (?_ : WM _ 16 _ _ _ _)
    refine r_iload_n d_Le_append_16 rfl (?_ : WM _ 17 _ _ _ _)
    obtain ⟨h4, h⟩ := h
    obtain ⟨h5, h⟩ := h
    refine r_iast (k := 4) (n := 48) (by decide) rfl d_Le_append_17 h4 h5 (?_ : WM _ 18 _ _ _ _)
    refine r_aload_n d_Le_append_18 rfl (?_ : WM _ 19 _ _ _ _)
    refine r_getR (k := 3) (j := 1) (q := 5) (by decide) rfl clk_3 (by decide) (qm_1 (i := 83) rfl rfl) rfl d_Le_append_19 (?_ : WM _ 22 _ _ _ _)
    refine r_aload_n d_Le_append_22 rfl (?_ : WM _ 23 _ _ _ _)
    refine r_getI (k := 3) (j := 4) 4 (by decide) rfl clk_3 (by decide) (qm_1 (i := 91) rfl rfl) rfl rfl d_Le_append_23 (y := (σ1 3 4)) (ups_c (by decide)) (?_ : WM _ 26 _ _ _ _)
    refine r_iload_n d_Le_append_26 rfl (?_ : WM _ 27 _ _ _ _)
    refine r_iast (k := 5) (n := 48) (by decide) rfl d_Le_append_27 h4 h5 (?_ : WM _ 28 _ _ _ _)
    refine r_aload_n d_Le_append_28 rfl (?_ : WM _ 29 _ _ _ _)
    refine r_getR (k := 3) (j := 2) (q := 6) (by decide) rfl clk_3 (by decide) (qm_1 (i := 85) rfl rfl) rfl d_Le_append_29 (?_ : WM _ 32 _ _ _ _)
    refine r_aload_n d_Le_append_32 rfl (?_ : WM _ 33 _ _ _ _)
    refine r_getI (k := 3) (j := 4) 4 (by decide) rfl clk_3 (by decide) (qm_1 (i := 91) rfl rfl) rfl rfl d_Le_append_33 (y := (σ1 3 4)) ((ups_c (by decide)).trans (ups_c (by decide))) (?_ : WM _ 36 _ _ _ _)
    refine r_iload_n d_Le_append_36 rfl (?_ : WM _ 37 _ _ _ _)
    refine r_iast (k := 6) (n := 48) (by decide) rfl d_Le_append_37 h4 h5 (?_ : WM _ 38 _ _ _ _)
    refine r_aload_n d_Le_append_38 rfl (?_ : WM _ 39 _ _ _ _)
    refine r_getR (k := 3) (j := 3) (q := 7) (by decide) rfl clk_3 (by decide) (qm_1 (i := 87) rfl rfl) rfl d_Le_append_39 (?_ : WM _ 42 _ _ _ _)
    refine r_aload_n d_Le_append_42 rfl (?_ : WM _ 43 _ _ _ _)
    refine r_getI (k := 3) (j := 4) 4 (by decide) rfl clk_3 (by decide) (qm_1 (i := 91) rfl rfl) rfl rfl d_Le_append_43 (y := (σ1 3 4)) ((ups_c (by decide)).trans ((ups_c (by decide)).trans (ups_c (by decide)))) (?_ : WM _ 46 _ _ _ _)
    refine r_iconst d_Le_append_46 (by decide) (?_ : WM _ 47 _ _ _ _)
    refine r_iast (k := 7) (n := 48) (by decide) rfl d_Le_append_47 h4 h5 (?_ : WM _ 48 _ _ _ _)
    refine r_aload_n d_Le_append_48 rfl (?_ : WM _ 49 _ _ _ _)
    refine r_dup d_Le_append_49 rfl (?_ : WM _ 50 _ _ _ _)
    refine r_getI (k := 3) (j := 4) 4 (by decide) rfl clk_3 (by decide) (qm_1 (i := 91) rfl rfl) rfl rfl d_Le_append_50 (y := (σ1 3 4)) ((ups_c (by decide)).trans ((ups_c (by decide)).trans ((ups_c (by decide)).trans (ups_c (by decide))))) (?_ : WM _ 53 _ _ _ _)
    refine r_iconst d_Le_append_53 (by decide) (?_ : WM _ 54 _ _ _ _)
    obtain ⟨h6, h⟩ := h
    refine r_iadd d_Le_append_54 h6 (?_ : WM _ 55 _ _ _ _)
    refine r_put (k := 3) (j := 4) 4 (by decide) rfl clk_3 (by decide) (qm_1 (i := 91) rfl rfl) rfl rfl rfl tyX3_ok rfl nmX3 d_Le_append_55 (?_ : WM _ 58 _ _ _ _)
    exact r_return rfl d_Le_append_58 h
  · replace h := h.2 c3
    exact r_return rfl d_Le_append_7 h
set_option maxRecDepth 20000 in
theorem e_Le_holds_3 {K : Int → St → Prop} {σ : St} (x1 : Int) (h : (x1 < 0 → K 0 σ) ∧ (¬ x1 < 0 → ((σ 3 4) ≤ x1 → K 0 σ) ∧ (¬ (σ 3 4) ≤ x1 → K 1 σ))) : CI M_Le_holds [vR 3, vI x1] σ K := by
  refine Con.of ok_M_Le_holds (ls := [(0, vR 3), (1, vI x1)]) rfl (Nat.le_of_ble_eq_true rfl) ?_
  refine r_iload_n d_Le_holds_0 rfl (?_ : WM _ 1 _ _ _ _)
  refine r_if_lt 16 d_Le_holds_1 rfl ⟨fun c1 => (?_ : WM _ 16 _ _ _ _), fun c1 => (?_ : WM _ 4 _ _ _ _)⟩
  · replace h := h.1 c1
    refine r_iconst d_Le_holds_16 (by decide) (?_ : WM _ 17 _ _ _ _)
    exact r_zreturn rfl d_Le_holds_17 (by decide) h
  · replace h := h.2 c1
    refine r_iload_n d_Le_holds_4 rfl (?_ : WM _ 5 _ _ _ _)
    refine r_aload_n d_Le_holds_5 rfl (?_ : WM _ 6 _ _ _ _)
    refine r_getI (k := 3) (j := 4) 4 (by decide) rfl clk_3 (by decide) (qm_1 (i := 91) rfl rfl) rfl rfl d_Le_holds_6 (y := (σ 3 4)) rfl (?_ : WM _ 9 _ _ _ _)
    refine r_icmp_ge 16 d_Le_holds_9 rfl ⟨fun c2 => (?_ : WM _ 16 _ _ _ _), fun c2 => (?_ : WM _ 12 _ _ _ _)⟩
    · replace h := h.1 c2
      refine r_iconst d_Le_holds_16 (by decide) (?_ : WM _ 17 _ _ _ _)
      exact r_zreturn rfl d_Le_holds_17 (by decide) h
    · replace h := h.2 c2
      refine r_iconst d_Le_holds_12 (by decide) (?_ : WM _ 13 _ _ _ _)
      refine r_goto 17 d_Le_holds_13 rfl ?_
      exact r_zreturn rfl d_Le_holds_17 (by decide) h
set_option maxRecDepth 20000 in
theorem e_Le_mayBeWorth_3 {K : Int → St → Prop} {σ : St} (x1 : Int) (x2 : Int) (h : CI M_Le_holds [vR 3, vI x1] σ (fun v2 σ1 => (v2 = 0 → K 0 σ1) ∧ (¬ v2 = 0 → (x2 < 0 → K 0 σ1) ∧ (¬ x2 < 0 → (0 ≤ x1) ∧ (x1 < 48) ∧ (inR (2 * (σ1 6 x1))) ∧ ((2 * (σ1 6 x1)) < x2 → K 0 σ1) ∧ (¬ (2 * (σ1 6 x1)) < x2 → K 1 σ1))))) : CI M_Le_mayBeWorth [vR 3, vI x1, vI x2] σ K := by
  refine Con.of ok_M_Le_mayBeWorth (ls := [(0, vR 3), (1, vI x1), (2, vI x2)]) rfl (Nat.le_of_ble_eq_true rfl) ?_
  refine r_aload_n d_Le_mayBeWorth_0 rfl (?_ : WM _ 1 _ _ _ _)
  refine r_iload_n d_Le_mayBeWorth_1 rfl (?_ : WM _ 2 _ _ _ _)
  refine r_callV (ν := M_Le_holds) (k := 3) [vI x1] ok_M_Le_holds okv_M_Le_holds (by decide) rfl rfl rfl (qm_5 (i := 85) rfl rfl) np_M_Le_holds rfl (by decide) (Nat.le_of_ble_eq_true rfl) rfl d_Le_mayBeWorth_2 (CI.k h (fun v2 σ1 h => (?_ : WM _ 5 _ _ _ _)))
  refine r_if_eq 28 d_Le_mayBeWorth_5 rfl ⟨fun c3 => (?_ : WM _ 28 _ _ _ _), fun c3 => (?_ : WM _ 8 _ _ _ _)⟩
  · replace h := h.1 c3
    refine r_iconst d_Le_mayBeWorth_28 (by decide) (?_ : WM _ 29 _ _ _ _)
    exact r_zreturn rfl d_Le_mayBeWorth_29 (by decide) h
  · replace h := h.2 c3
    refine r_iload_n d_Le_mayBeWorth_8 rfl (?_ : WM _ 9 _ _ _ _)
    refine r_if_lt 28 d_Le_mayBeWorth_9 rfl ⟨fun c4 => (?_ : WM _ 28 _ _ _ _), fun c4 => (?_ : WM _ 12 _ _ _ _)⟩
    · replace h := h.1 c4
      refine r_iconst d_Le_mayBeWorth_28 (by decide) (?_ : WM _ 29 _ _ _ _)
      exact r_zreturn rfl d_Le_mayBeWorth_29 (by decide) h
    · replace h := h.2 c4
      refine r_iload_n d_Le_mayBeWorth_12 rfl (?_ : WM _ 13 _ _ _ _)
      refine r_iconst d_Le_mayBeWorth_13 (by decide) (?_ : WM _ 14 _ _ _ _)
      refine r_aload_n d_Le_mayBeWorth_14 rfl (?_ : WM _ 15 _ _ _ _)
      refine r_getR (k := 3) (j := 2) (q := 6) (by decide) rfl clk_3 (by decide) (qm_1 (i := 85) rfl rfl) rfl d_Le_mayBeWorth_15 (?_ : WM _ 18 _ _ _ _)
      refine r_iload_n d_Le_mayBeWorth_18 rfl (?_ : WM _ 19 _ _ _ _)
      obtain ⟨h5, h⟩ := h
      obtain ⟨h6, h⟩ := h
      refine r_iald (k := 6) (n := 48) (by decide) rfl d_Le_mayBeWorth_19 h5 h6 (y := (σ1 6 x1)) rfl (?_ : WM _ 20 _ _ _ _)
      obtain ⟨h7, h⟩ := h
      refine r_imul d_Le_mayBeWorth_20 h7 (?_ : WM _ 21 _ _ _ _)
      refine r_icmp_gt 28 d_Le_mayBeWorth_21 rfl ⟨fun c8 => (?_ : WM _ 28 _ _ _ _), fun c8 => (?_ : WM _ 24 _ _ _ _)⟩
      · replace h := h.1 c8
        refine r_iconst d_Le_mayBeWorth_28 (by decide) (?_ : WM _ 29 _ _ _ _)
        exact r_zreturn rfl d_Le_mayBeWorth_29 (by decide) h
      · replace h := h.2 c8
        refine r_iconst d_Le_mayBeWorth_24 (by decide) (?_ : WM _ 25 _ _ _ _)
        refine r_goto 29 d_Le_mayBeWorth_25 rfl ?_
        exact r_zreturn rfl d_Le_mayBeWorth_29 (by decide) h
set_option maxRecDepth 20000 in
theorem e_Le_coinsOf_3 {K : Int → St → Prop} {σ : St} (x1 : Int) (h : CI M_Le_holds [vR 3, vI x1] σ (fun v2 σ1 => (v2 = 0 → K 0 σ1) ∧ (¬ v2 = 0 → (0 ≤ x1) ∧ (x1 < 48) ∧ CI M_Ma_max [vI (σ1 6 x1), vI 0] σ1 (fun v7 σ6 => K v7 σ6)))) : CI M_Le_coinsOf [vR 3, vI x1] σ K := by
  refine Con.of ok_M_Le_coinsOf (ls := [(0, vR 3), (1, vI x1)]) rfl (Nat.le_of_ble_eq_true rfl) ?_
  refine r_aload_n d_Le_coinsOf_0 rfl (?_ : WM _ 1 _ _ _ _)
  refine r_iload_n d_Le_coinsOf_1 rfl (?_ : WM _ 2 _ _ _ _)
  refine r_callV (ν := M_Le_holds) (k := 3) [vI x1] ok_M_Le_holds okv_M_Le_holds (by decide) rfl rfl rfl (qm_5 (i := 85) rfl rfl) np_M_Le_holds rfl (by decide) (Nat.le_of_ble_eq_true rfl) rfl d_Le_coinsOf_2 (CI.k h (fun v2 σ1 h => (?_ : WM _ 5 _ _ _ _)))
  refine r_if_eq 21 d_Le_coinsOf_5 rfl ⟨fun c3 => (?_ : WM _ 21 _ _ _ _), fun c3 => (?_ : WM _ 8 _ _ _ _)⟩
  · replace h := h.1 c3
    refine r_iconst d_Le_coinsOf_21 (by decide) (?_ : WM _ 22 _ _ _ _)
    exact r_ireturn rfl d_Le_coinsOf_22 h
  · replace h := h.2 c3
    refine r_aload_n d_Le_coinsOf_8 rfl (?_ : WM _ 9 _ _ _ _)
    refine r_getR (k := 3) (j := 2) (q := 6) (by decide) rfl clk_3 (by decide) (qm_1 (i := 85) rfl rfl) rfl d_Le_coinsOf_9 (?_ : WM _ 12 _ _ _ _)
    refine r_iload_n d_Le_coinsOf_12 rfl (?_ : WM _ 13 _ _ _ _)
    obtain ⟨h4, h⟩ := h
    obtain ⟨h5, h⟩ := h
    refine r_iald (k := 6) (n := 48) (by decide) rfl d_Le_coinsOf_13 h4 h5 (y := (σ1 6 x1)) rfl (?_ : WM _ 14 _ _ _ _)
    refine r_iconst d_Le_coinsOf_14 (by decide) (?_ : WM _ 15 _ _ _ _)
    refine r_callS (ν := M_Ma_max) [vI (σ1 6 x1), vI 0] ok_M_Ma_max oks_M_Ma_max (qm_5 (i := 89) rfl rfl) np_M_Ma_max rfl (by decide) (Nat.le_of_ble_eq_true rfl) rfl d_Le_coinsOf_15 (CI.k h (fun v7 σ6 h => (?_ : WM _ 18 _ _ _ _)))
    refine r_goto 22 d_Le_coinsOf_18 rfl ?_
    exact r_ireturn rfl d_Le_coinsOf_22 h
set_option maxRecDepth 20000 in
theorem e_Le_allCoins {K : Int → St → Prop} {σ : St}  (h : WM M_Le_allCoins 4 [(0, vR 3), (1, vI 0), (2, vI 0)] [] σ (QI K)) : CI M_Le_allCoins [vR 3] σ K := by
  refine Con.of ok_M_Le_allCoins (ls := [(0, vR 3)]) rfl (Nat.le_of_ble_eq_true rfl) ?_
  refine r_iconst d_Le_allCoins_0 (by decide) (?_ : WM _ 1 _ _ _ _)
  refine r_istore_n (ls' := [(1, vI 0), (0, vR 3)]) d_Le_allCoins_1 rfl (by decide) rfl (?_ : WM _ 2 _ _ _ _)
  refine r_iconst d_Le_allCoins_2 (by decide) (?_ : WM _ 3 _ _ _ _)
  refine r_istore_n (ls' := [(2, vI 0), (1, vI 0), (0, vR 3)]) d_Le_allCoins_3 rfl (by decide) rfl (?_ : WM _ 4 _ _ _ _)
  refine r_pick (ls' := [(0, vR 3), (1, vI 0), (2, vI 0)]) [2, 1, 0] rfl ?_
  exact h
set_option maxRecDepth 20000 in
theorem l_Le_allCoins_1 {K : Int → St → Prop} {σ : St} (x1 : Int) (x2 : Int) (h : ((σ 3 4) ≤ x2 → K x1 σ) ∧ (¬ (σ 3 4) ≤ x2 → CI M_Le_coinsOf [vR 3, vI x2] σ (fun v3 σ2 => (inR (x1 + v3)) ∧ (inR (x2 + 1)) ∧ WM M_Le_allCoins 4 [(0, vR 3), (1, vI (x1 + v3)), (2, vI (x2 + 1))] [] σ2 (QI K)))) : WM M_Le_allCoins 4 [(0, vR 3), (1, vI x1), (2, vI x2)] [] σ (QI K) := by
  refine r_iload_n d_Le_allCoins_4 rfl (?_ : WM _ 5 _ _ _ _)
  refine r_aload_n d_Le_allCoins_5 rfl (?_ : WM _ 6 _ _ _ _)
  refine r_getI (k := 3) (j := 4) 4 (by decide) rfl clk_3 (by decide) (qm_1 (i := 91) rfl rfl) rfl rfl d_Le_allCoins_6 (y := (σ 3 4)) rfl (?_ : WM _ 9 _ _ _ _)
  refine r_icmp_ge 26 d_Le_allCoins_9 rfl ⟨fun c1 => (?_ : WM _ 26 _ _ _ _), fun c1 => (?_ : WM _ 12 _ _ _ _)⟩
  · replace h := h.1 c1
    refine r_iload_n d_Le_allCoins_26 rfl (?_ : WM _ 27 _ _ _ _)
    exact r_ireturn rfl d_Le_allCoins_27 h
  · replace h := h.2 c1
    refine r_iload_n d_Le_allCoins_12 rfl (?_ : WM _ 13 _ _ _ _)
    refine r_aload_n d_Le_allCoins_13 rfl (?_ : WM _ 14 _ _ _ _)
    refine r_iload_n d_Le_allCoins_14 rfl (?_ : WM _ 15 _ _ _ _)
    refine r_callV (ν := M_Le_coinsOf) (k := 3) [vI x2] ok_M_Le_coinsOf okv_M_Le_coinsOf (by decide) rfl rfl rfl (qm_5 (i := 215) rfl rfl) np_M_Le_coinsOf rfl (by decide) (Nat.le_of_ble_eq_true rfl) rfl d_Le_allCoins_15 (CI.k h (fun v3 σ2 h => (?_ : WM _ 18 _ _ _ _)))
    obtain ⟨h4, h⟩ := h
    refine r_iadd d_Le_allCoins_18 h4 (?_ : WM _ 19 _ _ _ _)
    refine r_istore_n (ls' := [(1, vI (x1 + v3)), (0, vR 3), (2, vI x2)]) d_Le_allCoins_19 rfl (by decide) rfl (?_ : WM _ 20 _ _ _ _)
    obtain ⟨h5, h⟩ := h
    refine r_iinc (ls' := [(2, vI (x2 + 1)), (1, vI (x1 + v3)), (0, vR 3)]) d_Le_allCoins_20 rfl h5 (by decide) rfl (?_ : WM _ 23 _ _ _ _)
    refine r_goto 4 d_Le_allCoins_23 rfl ?_
    refine r_pick (ls' := [(0, vR 3), (1, vI (x1 + v3)), (2, vI (x2 + 1))]) [2, 1, 0] rfl ?_
    exact h
set_option maxRecDepth 20000 in
theorem e_Ma_max {K : Int → St → Prop} {σ : St} (x0 : Int) (x1 : Int) (h : (x0 < x1 → K x1 σ) ∧ (¬ x0 < x1 → K x0 σ)) : CI M_Ma_max [vI x0, vI x1] σ K := by
  refine Con.of ok_M_Ma_max (ls := [(0, vI x0), (1, vI x1)]) rfl (Nat.le_of_ble_eq_true rfl) ?_
  refine r_iload_n d_Ma_max_0 rfl (?_ : WM _ 1 _ _ _ _)
  refine r_iload_n d_Ma_max_1 rfl (?_ : WM _ 2 _ _ _ _)
  refine r_icmp_lt 9 d_Ma_max_2 rfl ⟨fun c1 => (?_ : WM _ 9 _ _ _ _), fun c1 => (?_ : WM _ 5 _ _ _ _)⟩
  · replace h := h.1 c1
    refine r_iload_n d_Ma_max_9 rfl (?_ : WM _ 10 _ _ _ _)
    exact r_ireturn rfl d_Ma_max_10 h
  · replace h := h.2 c1
    refine r_iload_n d_Ma_max_5 rfl (?_ : WM _ 6 _ _ _ _)
    refine r_goto 10 d_Ma_max_6 rfl ?_
    exact r_ireturn rfl d_Ma_max_10 h
set_option maxRecDepth 20000 in
theorem e_Le_errorOf {K : Int → St → Prop} {σ : St} (x1 : Int) (h : CI M_Le_isAudited [vR 3, vI x1] σ (fun v2 σ1 => (v2 = 0 → K 0 σ1) ∧ (¬ v2 = 0 → (0 ≤ x1) ∧ (x1 < 48) ∧ (inR ((σ1 6 x1) - (σ1 7 x1))) ∧ K ((σ1 6 x1) - (σ1 7 x1)) σ1))) : CI M_Le_errorOf [vR 3, vI x1] σ K := by
  refine Con.of ok_M_Le_errorOf (ls := [(0, vR 3), (1, vI x1)]) rfl (Nat.le_of_ble_eq_true rfl) ?_
  refine r_aload_n d_Le_errorOf_0 rfl (?_ : WM _ 1 _ _ _ _)
  refine r_iload_n d_Le_errorOf_1 rfl (?_ : WM _ 2 _ _ _ _)
  refine r_callV (ν := M_Le_isAudited) (k := 3) [vI x1] ok_M_Le_isAudited okv_M_Le_isAudited (by decide) rfl rfl rfl (qm_6 (i := 221) rfl rfl) np_M_Le_isAudited rfl (by decide) (Nat.le_of_ble_eq_true rfl) rfl d_Le_errorOf_2 (CI.k h (fun v2 σ1 h => (?_ : WM _ 5 _ _ _ _)))
  refine r_if_eq 24 d_Le_errorOf_5 rfl ⟨fun c3 => (?_ : WM _ 24 _ _ _ _), fun c3 => (?_ : WM _ 8 _ _ _ _)⟩
  · replace h := h.1 c3
    refine r_iconst d_Le_errorOf_24 (by decide) (?_ : WM _ 25 _ _ _ _)
    exact r_ireturn rfl d_Le_errorOf_25 h
  · replace h := h.2 c3
    refine r_aload_n d_Le_errorOf_8 rfl (?_ : WM _ 9 _ _ _ _)
    refine r_getR (k := 3) (j := 2) (q := 6) (by decide) rfl clk_3 (by decide) (qm_1 (i := 85) rfl rfl) rfl d_Le_errorOf_9 (?_ : WM _ 12 _ _ _ _)
    refine r_iload_n d_Le_errorOf_12 rfl (?_ : WM _ 13 _ _ _ _)
    obtain ⟨h4, h⟩ := h
    obtain ⟨h5, h⟩ := h
    refine r_iald (k := 6) (n := 48) (by decide) rfl d_Le_errorOf_13 h4 h5 (y := (σ1 6 x1)) rfl (?_ : WM _ 14 _ _ _ _)
    refine r_aload_n d_Le_errorOf_14 rfl (?_ : WM _ 15 _ _ _ _)
    refine r_getR (k := 3) (j := 3) (q := 7) (by decide) rfl clk_3 (by decide) (qm_1 (i := 87) rfl rfl) rfl d_Le_errorOf_15 (?_ : WM _ 18 _ _ _ _)
    refine r_iload_n d_Le_errorOf_18 rfl (?_ : WM _ 19 _ _ _ _)
    refine r_iald (k := 7) (n := 48) (by decide) rfl d_Le_errorOf_19 h4 h5 (y := (σ1 7 x1)) rfl (?_ : WM _ 20 _ _ _ _)
    obtain ⟨h6, h⟩ := h
    refine r_isub d_Le_errorOf_20 h6 (?_ : WM _ 21 _ _ _ _)
    refine r_goto 25 d_Le_errorOf_21 rfl ?_
    exact r_ireturn rfl d_Le_errorOf_25 h
set_option maxRecDepth 20000 in
theorem e_Le_taintOf {K : Int → St → Prop} {σ : St} (x1 : Int) (h : CI M_Le_coinsOf [vR 3, vI x1] σ (fun v2 σ1 => (¬ v2 = 0 → CI M_Le_errorOf [vR 3, vI x1] σ1 (fun v5 σ4 => (inL (10000 * v5)) ∧ (v2 ≠ 0) ∧ (inL ((10000 * v5).tdiv v2)) ∧ (inR ((10000 * v5).tdiv v2)) ∧ K ((10000 * v5).tdiv v2) σ4)) ∧ (v2 = 0 → K 0 σ1))) : CI M_Le_taintOf [vR 3, vI x1] σ K := by
  refine Con.of ok_M_Le_taintOf (ls := [(0, vR 3), (1, vI x1)]) rfl (Nat.le_of_ble_eq_true rfl) ?_
  refine r_aload_n d_Le_taintOf_0 rfl (?_ : WM _ 1 _ _ _ _)
  refine r_iload_n d_Le_taintOf_1 rfl (?_ : WM _ 2 _ _ _ _)
  refine r_callV (ν := M_Le_coinsOf) (k := 3) [vI x1] ok_M_Le_coinsOf okv_M_Le_coinsOf (by decide) rfl rfl rfl (qm_5 (i := 215) rfl rfl) np_M_Le_coinsOf rfl (by decide) (Nat.le_of_ble_eq_true rfl) rfl d_Le_taintOf_2 (CI.k h (fun v2 σ1 h => (?_ : WM _ 5 _ _ _ _)))
  refine r_istore_n (ls' := [(2, vI v2), (0, vR 3), (1, vI x1)]) d_Le_taintOf_5 rfl (by decide) rfl (?_ : WM _ 6 _ _ _ _)
  refine r_iload_n d_Le_taintOf_6 rfl (?_ : WM _ 7 _ _ _ _)
  refine r_if_ne 14 d_Le_taintOf_7 rfl ⟨fun c3 => (?_ : WM _ 14 _ _ _ _), fun c3 => (?_ : WM _ 10 _ _ _ _)⟩
  · replace h := h.1 c3
    refine r_ldc2 10000 d_Le_taintOf_14 (qm_6 (i := 229) rfl rfl) (by decide) (by decide) (?_ : WM _ 17 _ _ _ _)
    refine r_aload_n d_Le_taintOf_17 rfl (?_ : WM _ 18 _ _ _ _)
    refine r_iload_n d_Le_taintOf_18 rfl (?_ : WM _ 19 _ _ _ _)
    refine r_callV (ν := M_Le_errorOf) (k := 3) [vI x1] ok_M_Le_errorOf okv_M_Le_errorOf (by decide) rfl rfl rfl (qm_6 (i := 230) rfl rfl) np_M_Le_errorOf rfl (by decide) (Nat.le_of_ble_eq_true rfl) rfl d_Le_taintOf_19 (CI.k h (fun v5 σ4 h => (?_ : WM _ 22 _ _ _ _)))
    refine r_i2l d_Le_taintOf_22 (?_ : WM _ 23 _ _ _ _)
    obtain ⟨h6, h⟩ := h
    refine r_lmul d_Le_taintOf_23 h6 (?_ : WM _ 24 _ _ _ _)
    refine r_iload_n d_Le_taintOf_24 rfl (?_ : WM _ 25 _ _ _ _)
    refine r_i2l d_Le_taintOf_25 (?_ : WM _ 26 _ _ _ _)
    obtain ⟨h7, h⟩ := h
    obtain ⟨h8, h⟩ := h
    refine r_ldiv d_Le_taintOf_26 h7 h8 (?_ : WM _ 27 _ _ _ _)
    obtain ⟨h9, h⟩ := h
    refine r_l2i d_Le_taintOf_27 h9 (?_ : WM _ 28 _ _ _ _)
    exact r_ireturn rfl d_Le_taintOf_28 h
  · replace h := h.2 c3
    refine r_iconst d_Le_taintOf_10 (by decide) (?_ : WM _ 11 _ _ _ _)
    refine r_goto 28 d_Le_taintOf_11 rfl ?_
    exact r_ireturn rfl d_Le_taintOf_28 h
set_option maxRecDepth 20000 in
theorem e_La_isCertain_16 {K : Int → St → Prop} {σ : St} (x1 : Int) (h : ((σ 16 0) ≤ 0 → K 0 σ) ∧ (¬ (σ 16 0) ≤ 0 → CI M_Le_coinsOf [vR 3, vI x1] σ (fun v3 σ2 => (v3 < (σ2 16 0) → K 0 σ2) ∧ (¬ v3 < (σ2 16 0) → K 1 σ2)))) : CI M_La_isCertain [vR 16, vI x1] σ K := by
  refine Con.of ok_M_La_isCertain (ls := [(0, vR 16), (1, vI x1)]) rfl (Nat.le_of_ble_eq_true rfl) ?_
  refine r_aload_n d_La_isCertain_0 rfl (?_ : WM _ 1 _ _ _ _)
  refine r_getI (k := 16) (j := 0) 0 (by decide) rfl clk_2 (by decide) (qm_1 (i := 155) rfl rfl) rfl rfl d_La_isCertain_1 (y := (σ 16 0)) rfl (?_ : WM _ 4 _ _ _ _)
  refine r_if_le 26 d_La_isCertain_4 rfl ⟨fun c1 => (?_ : WM _ 26 _ _ _ _), fun c1 => (?_ : WM _ 7 _ _ _ _)⟩
  · replace h := h.1 c1
    refine r_iconst d_La_isCertain_26 (by decide) (?_ : WM _ 27 _ _ _ _)
    exact r_zreturn rfl d_La_isCertain_27 (by decide) h
  · replace h := h.2 c1
    refine r_aload_n d_La_isCertain_7 rfl (?_ : WM _ 8 _ _ _ _)
    refine r_getR (k := 16) (j := 3) (q := 3) (by decide) rfl clk_2 (by decide) (qm_1 (i := 164) rfl rfl) rfl d_La_isCertain_8 (?_ : WM _ 11 _ _ _ _)
    refine r_iload_n d_La_isCertain_11 rfl (?_ : WM _ 12 _ _ _ _)
    refine r_callV (ν := M_Le_coinsOf) (k := 3) [vI x1] ok_M_Le_coinsOf okv_M_Le_coinsOf (by decide) rfl rfl rfl (qm_5 (i := 111) rfl rfl) np_M_Le_coinsOf rfl (by decide) (Nat.le_of_ble_eq_true rfl) rfl d_La_isCertain_12 (CI.k h (fun v3 σ2 h => (?_ : WM _ 15 _ _ _ _)))
    refine r_aload_n d_La_isCertain_15 rfl (?_ : WM _ 16 _ _ _ _)
    refine r_getI (k := 16) (j := 0) 0 (by decide) rfl clk_2 (by decide) (qm_1 (i := 155) rfl rfl) rfl rfl d_La_isCertain_16 (y := (σ2 16 0)) rfl (?_ : WM _ 19 _ _ _ _)
    refine r_icmp_lt 26 d_La_isCertain_19 rfl ⟨fun c4 => (?_ : WM _ 26 _ _ _ _), fun c4 => (?_ : WM _ 22 _ _ _ _)⟩
    · replace h := h.1 c4
      refine r_iconst d_La_isCertain_26 (by decide) (?_ : WM _ 27 _ _ _ _)
      exact r_zreturn rfl d_La_isCertain_27 (by decide) h
    · replace h := h.2 c4
      refine r_iconst d_La_isCertain_22 (by decide) (?_ : WM _ 23 _ _ _ _)
      refine r_goto 27 d_La_isCertain_23 rfl ?_
      exact r_zreturn rfl d_La_isCertain_27 (by decide) h
set_option maxRecDepth 20000 in
theorem e_La_firstCoin_16 {K : Int → St → Prop} {σ : St} (x1 : Int) (h : CI M_Le_holds [vR 3, vI x1] σ (fun v2 σ1 => (v2 = 0 → K 0 σ1) ∧ (¬ v2 = 0 → (0 ≤ x1) ∧ (x1 < 48) ∧ K (σ1 17 x1) σ1))) : CI M_La_firstCoin [vR 16, vI x1] σ K := by
  refine Con.of ok_M_La_firstCoin (ls := [(0, vR 16), (1, vI x1)]) rfl (Nat.le_of_ble_eq_true rfl) ?_
  refine r_aload_n d_La_firstCoin_0 rfl (?_ : WM _ 1 _ _ _ _)
  refine r_getR (k := 16) (j := 3) (q := 3) (by decide) rfl clk_2 (by decide) (qm_1 (i := 164) rfl rfl) rfl d_La_firstCoin_1 (?_ : WM _ 4 _ _ _ _)
  refine r_iload_n d_La_firstCoin_4 rfl (?_ : WM _ 5 _ _ _ _)
  refine r_callV (ν := M_Le_holds) (k := 3) [vI x1] ok_M_Le_holds okv_M_Le_holds (by decide) rfl rfl rfl (qm_7 (i := 4) rfl rfl) np_M_Le_holds rfl (by decide) (Nat.le_of_ble_eq_true rfl) rfl d_La_firstCoin_5 (CI.k h (fun v2 σ1 h => (?_ : WM _ 8 _ _ _ _)))
  refine r_if_eq 20 d_La_firstCoin_8 rfl ⟨fun c3 => (?_ : WM _ 20 _ _ _ _), fun c3 => (?_ : WM _ 11 _ _ _ _)⟩
  · replace h := h.1 c3
    refine r_iconst d_La_firstCoin_20 (by decide) (?_ : WM _ 21 _ _ _ _)
    exact r_ireturn rfl d_La_firstCoin_21 h
  · replace h := h.2 c3
    refine r_aload_n d_La_firstCoin_11 rfl (?_ : WM _ 12 _ _ _ _)
    refine r_getR (k := 16) (j := 4) (q := 17) (by decide) rfl clk_2 (by decide) (qm_1 (i := 165) rfl rfl) rfl d_La_firstCoin_12 (?_ : WM _ 15 _ _ _ _)
    refine r_iload_n d_La_firstCoin_15 rfl (?_ : WM _ 16 _ _ _ _)
    obtain ⟨h4, h⟩ := h
    obtain ⟨h5, h⟩ := h
    refine r_iald (k := 17) (n := 48) (by decide) rfl d_La_firstCoin_16 h4 h5 (y := (σ1 17 x1)) rfl (?_ : WM _ 17 _ _ _ _)
    refine r_goto 21 d_La_firstCoin_17 rfl ?_
    exact r_ireturn rfl d_La_firstCoin_21 h
set_option maxRecDepth 20000 in
theorem e_La_ownerOf {K : Int → St → Prop} {σ : St} (x1 : Int) (h : WM M_La_ownerOf 2 [(0, vR 16), (1, vI x1), (2, vI 0)] [] σ (QI K)) : CI M_La_ownerOf [vR 16, vI x1] σ K := by
  refine Con.of ok_M_La_ownerOf (ls := [(0, vR 16), (1, vI x1)]) rfl (Nat.le_of_ble_eq_true rfl) ?_
  refine r_iconst d_La_ownerOf_0 (by decide) (?_ : WM _ 1 _ _ _ _)
  refine r_istore_n (ls' := [(2, vI 0), (0, vR 16), (1, vI x1)]) d_La_ownerOf_1 rfl (by decide) rfl (?_ : WM _ 2 _ _ _ _)
  refine r_pick (ls' := [(0, vR 16), (1, vI x1), (2, vI 0)]) [1, 2, 0] rfl ?_
  exact h
set_option maxRecDepth 20000 in
theorem l_La_ownerOf_1 {K : Int → St → Prop} {σ : St} (x1 : Int) (x2 : Int) (h : ((σ 3 4) ≤ x2 → K (-1) σ) ∧ (¬ (σ 3 4) ≤ x2 → (0 ≤ x2) ∧ (x2 < 48) ∧ ((σ 17 x2) ≤ 0 → (inR (x2 + 1)) ∧ WM M_La_ownerOf 2 [(0, vR 16), (1, vI x1), (2, vI (x2 + 1))] [] σ (QI K)) ∧ (¬ (σ 17 x2) ≤ 0 → (x1 < (σ 17 x2) → (inR (x2 + 1)) ∧ WM M_La_ownerOf 2 [(0, vR 16), (1, vI x1), (2, vI (x2 + 1))] [] σ (QI K)) ∧ (¬ x1 < (σ 17 x2) → ((σ 35 x2) < x1 → (inR (x2 + 1)) ∧ WM M_La_ownerOf 2 [(0, vR 16), (1, vI x1), (2, vI (x2 + 1))] [] σ (QI K)) ∧ (¬ (σ 35 x2) < x1 → K x2 σ))))) : WM M_La_ownerOf 2 [(0, vR 16), (1, vI x1), (2, vI x2)] [] σ (QI K) := by
  refine r_iload_n d_La_ownerOf_2 rfl (?_ : WM _ 3 _ _ _ _)
  refine r_aload_n d_La_ownerOf_3 rfl (?_ : WM _ 4 _ _ _ _)
  refine r_getR (k := 16) (j := 3) (q := 3) (by decide) rfl clk_2 (by decide) (qm_1 (i := 164) rfl rfl) rfl d_La_ownerOf_4 (?_ : WM _ 7 _ _ _ _)
  refine r_getI (k := 3) (j := 4) 4 (by decide) rfl clk_3 (by decide) (qm_1 (i := 92) rfl rfl) rfl rfl d_La_ownerOf_7 (y := (σ 3 4)) rfl (?_ : WM _ 10 _ _ _ _)
  refine r_icmp_ge 50 d_La_ownerOf_10 rfl ⟨fun c1 => (?_ : WM _ 50 _ _ _ _), fun c1 => (?_ : WM _ 13 _ _ _ _)⟩
  · replace h := h.1 c1
    refine r_iconst d_La_ownerOf_50 (by decide) (?_ : WM _ 51 _ _ _ _)
    exact r_ireturn rfl d_La_ownerOf_51 h
  · replace h := h.2 c1
    refine r_aload_n d_La_ownerOf_13 rfl (?_ : WM _ 14 _ _ _ _)
    refine r_getR (k := 16) (j := 4) (q := 17) (by decide) rfl clk_2 (by decide) (qm_1 (i := 165) rfl rfl) rfl d_La_ownerOf_14 (?_ : WM _ 17 _ _ _ _)
    refine r_iload_n d_La_ownerOf_17 rfl (?_ : WM _ 18 _ _ _ _)
    obtain ⟨h2, h⟩ := h
    obtain ⟨h3, h⟩ := h
    refine r_iald (k := 17) (n := 48) (by decide) rfl d_La_ownerOf_18 h2 h3 (y := (σ 17 x2)) rfl (?_ : WM _ 19 _ _ _ _)
    refine r_if_le 44 d_La_ownerOf_19 rfl ⟨fun c4 => (?_ : WM _ 44 _ _ _ _), fun c4 => (?_ : WM _ 22 _ _ _ _)⟩
    · replace h := h.1 c4
      obtain ⟨h5, h⟩ := h
      refine r_iinc (ls' := [(2, vI (x2 + 1)), (0, vR 16), (1, vI x1)]) d_La_ownerOf_44 rfl h5 (by decide) rfl (?_ : WM _ 47 _ _ _ _)
      refine r_goto 2 d_La_ownerOf_47 rfl ?_
      refine r_pick (ls' := [(0, vR 16), (1, vI x1), (2, vI (x2 + 1))]) [1, 2, 0] rfl ?_
      exact h
    · replace h := h.2 c4
      refine r_iload_n d_La_ownerOf_22 rfl (?_ : WM _ 23 _ _ _ _)
      refine r_aload_n d_La_ownerOf_23 rfl (?_ : WM _ 24 _ _ _ _)
      refine r_getR (k := 16) (j := 4) (q := 17) (by decide) rfl clk_2 (by decide) (qm_1 (i := 165) rfl rfl) rfl d_La_ownerOf_24 (?_ : WM _ 27 _ _ _ _)
      refine r_iload_n d_La_ownerOf_27 rfl (?_ : WM _ 28 _ _ _ _)
      refine r_iald (k := 17) (n := 48) (by decide) rfl d_La_ownerOf_28 h2 h3 (y := (σ 17 x2)) rfl (?_ : WM _ 29 _ _ _ _)
      refine r_icmp_lt 44 d_La_ownerOf_29 rfl ⟨fun c6 => (?_ : WM _ 44 _ _ _ _), fun c6 => (?_ : WM _ 32 _ _ _ _)⟩
      · replace h := h.1 c6
        obtain ⟨h7, h⟩ := h
        refine r_iinc (ls' := [(2, vI (x2 + 1)), (0, vR 16), (1, vI x1)]) d_La_ownerOf_44 rfl h7 (by decide) rfl (?_ : WM _ 47 _ _ _ _)
        refine r_goto 2 d_La_ownerOf_47 rfl ?_
        refine r_pick (ls' := [(0, vR 16), (1, vI x1), (2, vI (x2 + 1))]) [1, 2, 0] rfl ?_
        exact h
      · replace h := h.2 c6
        refine r_iload_n d_La_ownerOf_32 rfl (?_ : WM _ 33 _ _ _ _)
        refine r_aload_n d_La_ownerOf_33 rfl (?_ : WM _ 34 _ _ _ _)
        refine r_getR (k := 16) (j := 5) (q := 35) (by decide) rfl clk_2 (by decide) (qm_1 (i := 166) rfl rfl) rfl d_La_ownerOf_34 (?_ : WM _ 37 _ _ _ _)
        refine r_iload_n d_La_ownerOf_37 rfl (?_ : WM _ 38 _ _ _ _)
        refine r_iald (k := 35) (n := 48) (by decide) rfl d_La_ownerOf_38 h2 h3 (y := (σ 35 x2)) rfl (?_ : WM _ 39 _ _ _ _)
        refine r_icmp_gt 44 d_La_ownerOf_39 rfl ⟨fun c8 => (?_ : WM _ 44 _ _ _ _), fun c8 => (?_ : WM _ 42 _ _ _ _)⟩
        · replace h := h.1 c8
          obtain ⟨h9, h⟩ := h
          refine r_iinc (ls' := [(2, vI (x2 + 1)), (0, vR 16), (1, vI x1)]) d_La_ownerOf_44 rfl h9 (by decide) rfl (?_ : WM _ 47 _ _ _ _)
          refine r_goto 2 d_La_ownerOf_47 rfl ?_
          refine r_pick (ls' := [(0, vR 16), (1, vI x1), (2, vI (x2 + 1))]) [1, 2, 0] rfl ?_
          exact h
        · replace h := h.2 c8
          refine r_iload_n d_La_ownerOf_42 rfl (?_ : WM _ 43 _ _ _ _)
          exact r_ireturn rfl d_La_ownerOf_43 h
set_option maxRecDepth 20000 in
theorem e_Le_isFirstOfAccount {K : Int → St → Prop} {σ : St} (x1 : Int) (h : WM M_Le_isFirstOfAccount 2 [(0, vR 3), (1, vI x1), (2, vI 0)] [] σ (QI K)) : CI M_Le_isFirstOfAccount [vR 3, vI x1] σ K := by
  refine Con.of ok_M_Le_isFirstOfAccount (ls := [(0, vR 3), (1, vI x1)]) rfl (Nat.le_of_ble_eq_true rfl) ?_
  refine r_iconst d_Le_isFirstOfAccount_0 (by decide) (?_ : WM _ 1 _ _ _ _)
  refine r_istore_n (ls' := [(2, vI 0), (0, vR 3), (1, vI x1)]) d_Le_isFirstOfAccount_1 rfl (by decide) rfl (?_ : WM _ 2 _ _ _ _)
  refine r_pick (ls' := [(0, vR 3), (1, vI x1), (2, vI 0)]) [1, 2, 0] rfl ?_
  exact h
set_option maxRecDepth 20000 in
theorem l_Le_isFirstOfAccount_1 {K : Int → St → Prop} {σ : St} (x1 : Int) (x2 : Int) (h : (x1 ≤ x2 → CI M_Le_holds [vR 3, vI x1] σ (fun v3 σ2 => (v3 = 0 ∨ v3 = 1) ∧ K v3 σ2)) ∧ (¬ x1 ≤ x2 → ((σ 3 4) ≤ x1 → CI M_Le_holds [vR 3, vI x1] σ (fun v7 σ6 => (v7 = 0 ∨ v7 = 1) ∧ K v7 σ6)) ∧ (¬ (σ 3 4) ≤ x1 → (0 ≤ x2) ∧ (x2 < 48) ∧ (0 ≤ x1) ∧ (x1 < 48) ∧ (¬ (σ 4 x2) = (σ 4 x1) → (inR (x2 + 1)) ∧ WM M_Le_isFirstOfAccount 2 [(0, vR 3), (1, vI x1), (2, vI (x2 + 1))] [] σ (QI K)) ∧ ((σ 4 x2) = (σ 4 x1) → K 0 σ)))) : WM M_Le_isFirstOfAccount 2 [(0, vR 3), (1, vI x1), (2, vI x2)] [] σ (QI K) := by
  refine r_iload_n d_Le_isFirstOfAccount_2 rfl (?_ : WM _ 3 _ _ _ _)
  refine r_iload_n d_Le_isFirstOfAccount_3 rfl (?_ : WM _ 4 _ _ _ _)
  refine r_icmp_ge 38 d_Le_isFirstOfAccount_4 rfl ⟨fun c1 => (?_ : WM _ 38 _ _ _ _), fun c1 => (?_ : WM _ 7 _ _ _ _)⟩
  · replace h := h.1 c1
    refine r_aload_n d_Le_isFirstOfAccount_38 rfl (?_ : WM _ 39 _ _ _ _)
    refine r_iload_n d_Le_isFirstOfAccount_39 rfl (?_ : WM _ 40 _ _ _ _)
    refine r_callV (ν := M_Le_holds) (k := 3) [vI x1] ok_M_Le_holds okv_M_Le_holds (by decide) rfl rfl rfl (qm_5 (i := 85) rfl rfl) np_M_Le_holds rfl (by decide) (Nat.le_of_ble_eq_true rfl) rfl d_Le_isFirstOfAccount_40 (CI.k h (fun v3 σ2 h => (?_ : WM _ 43 _ _ _ _)))
    obtain ⟨h4, h⟩ := h
    exact r_zreturn rfl d_Le_isFirstOfAccount_43 h4 h
  · replace h := h.2 c1
    refine r_iload_n d_Le_isFirstOfAccount_7 rfl (?_ : WM _ 8 _ _ _ _)
    refine r_aload_n d_Le_isFirstOfAccount_8 rfl (?_ : WM _ 9 _ _ _ _)
    refine r_getI (k := 3) (j := 4) 4 (by decide) rfl clk_3 (by decide) (qm_1 (i := 91) rfl rfl) rfl rfl d_Le_isFirstOfAccount_9 (y := (σ 3 4)) rfl (?_ : WM _ 12 _ _ _ _)
    refine r_icmp_ge 38 d_Le_isFirstOfAccount_12 rfl ⟨fun c5 => (?_ : WM _ 38 _ _ _ _), fun c5 => (?_ : WM _ 15 _ _ _ _)⟩
    · replace h := h.1 c5
      refine r_aload_n d_Le_isFirstOfAccount_38 rfl (?_ : WM _ 39 _ _ _ _)
      refine r_iload_n d_Le_isFirstOfAccount_39 rfl (?_ : WM _ 40 _ _ _ _)
      refine r_callV (ν := M_Le_holds) (k := 3) [vI x1] ok_M_Le_holds okv_M_Le_holds (by decide) rfl rfl rfl (qm_5 (i := 85) rfl rfl) np_M_Le_holds rfl (by decide) (Nat.le_of_ble_eq_true rfl) rfl d_Le_isFirstOfAccount_40 (CI.k h (fun v7 σ6 h => (?_ : WM _ 43 _ _ _ _)))
      obtain ⟨h8, h⟩ := h
      exact r_zreturn rfl d_Le_isFirstOfAccount_43 h8 h
    · replace h := h.2 c5
      refine r_aload_n d_Le_isFirstOfAccount_15 rfl (?_ : WM _ 16 _ _ _ _)
      refine r_getR (k := 3) (j := 0) (q := 4) (by decide) rfl clk_3 (by decide) (qm_1 (i := 81) rfl rfl) rfl d_Le_isFirstOfAccount_16 (?_ : WM _ 19 _ _ _ _)
      refine r_iload_n d_Le_isFirstOfAccount_19 rfl (?_ : WM _ 20 _ _ _ _)
      obtain ⟨h9, h⟩ := h
      obtain ⟨h10, h⟩ := h
      refine r_iald (k := 4) (n := 48) (by decide) rfl d_Le_isFirstOfAccount_20 h9 h10 (y := (σ 4 x2)) rfl (?_ : WM _ 21 _ _ _ _)
      refine r_aload_n d_Le_isFirstOfAccount_21 rfl (?_ : WM _ 22 _ _ _ _)
      refine r_getR (k := 3) (j := 0) (q := 4) (by decide) rfl clk_3 (by decide) (qm_1 (i := 81) rfl rfl) rfl d_Le_isFirstOfAccount_22 (?_ : WM _ 25 _ _ _ _)
      refine r_iload_n d_Le_isFirstOfAccount_25 rfl (?_ : WM _ 26 _ _ _ _)
      obtain ⟨h11, h⟩ := h
      obtain ⟨h12, h⟩ := h
      refine r_iald (k := 4) (n := 48) (by decide) rfl d_Le_isFirstOfAccount_26 h11 h12 (y := (σ 4 x1)) rfl (?_ : WM _ 27 _ _ _ _)
      refine r_icmp_ne 32 d_Le_isFirstOfAccount_27 rfl ⟨fun c13 => (?_ : WM _ 32 _ _ _ _), fun c13 => (?_ : WM _ 30 _ _ _ _)⟩
      · replace h := h.1 c13
        obtain ⟨h14, h⟩ := h
        refine r_iinc (ls' := [(2, vI (x2 + 1)), (0, vR 3), (1, vI x1)]) d_Le_isFirstOfAccount_32 rfl h14 (by decide) rfl (?_ : WM _ 35 _ _ _ _)
        refine r_goto 2 d_Le_isFirstOfAccount_35 rfl ?_
        refine r_pick (ls' := [(0, vR 3), (1, vI x1), (2, vI (x2 + 1))]) [1, 2, 0] rfl ?_
        exact h
      · replace h := h.2 c13
        refine r_iconst d_Le_isFirstOfAccount_30 (by decide) (?_ : WM _ 31 _ _ _ _)
        exact r_zreturn rfl d_Le_isFirstOfAccount_31 (by decide) h
set_option maxRecDepth 20000 in
theorem e_Le_auditedItems {K : Int → St → Prop} {σ : St}  (h : WM M_Le_auditedItems 4 [(0, vR 3), (1, vI 0), (2, vI 0)] [] σ (QI K)) : CI M_Le_auditedItems [vR 3] σ K := by
  refine Con.of ok_M_Le_auditedItems (ls := [(0, vR 3)]) rfl (Nat.le_of_ble_eq_true rfl) ?_
  refine r_iconst d_Le_auditedItems_0 (by decide) (?_ : WM _ 1 _ _ _ _)
  refine r_istore_n (ls' := [(1, vI 0), (0, vR 3)]) d_Le_auditedItems_1 rfl (by decide) rfl (?_ : WM _ 2 _ _ _ _)
  refine r_iconst d_Le_auditedItems_2 (by decide) (?_ : WM _ 3 _ _ _ _)
  refine r_istore_n (ls' := [(2, vI 0), (1, vI 0), (0, vR 3)]) d_Le_auditedItems_3 rfl (by decide) rfl (?_ : WM _ 4 _ _ _ _)
  refine r_pick (ls' := [(0, vR 3), (1, vI 0), (2, vI 0)]) [2, 1, 0] rfl ?_
  exact h
set_option maxRecDepth 20000 in
theorem l_Le_auditedItems_1 {K : Int → St → Prop} {σ : St} (x1 : Int) (x2 : Int) (h : ((σ 3 4) ≤ x2 → K x1 σ) ∧ (¬ (σ 3 4) ≤ x2 → CI M_Le_isAudited [vR 3, vI x2] σ (fun v3 σ2 => (v3 = 0 → (inR (x2 + 1)) ∧ WM M_Le_auditedItems 4 [(0, vR 3), (1, vI x1), (2, vI (x2 + 1))] [] σ2 (QI K)) ∧ (¬ v3 = 0 → (inR (x1 + 1)) ∧ (inR (x2 + 1)) ∧ WM M_Le_auditedItems 4 [(0, vR 3), (1, vI (x1 + 1)), (2, vI (x2 + 1))] [] σ2 (QI K))))) : WM M_Le_auditedItems 4 [(0, vR 3), (1, vI x1), (2, vI x2)] [] σ (QI K) := by
  refine r_iload_n d_Le_auditedItems_4 rfl (?_ : WM _ 5 _ _ _ _)
  refine r_aload_n d_Le_auditedItems_5 rfl (?_ : WM _ 6 _ _ _ _)
  refine r_getI (k := 3) (j := 4) 4 (by decide) rfl clk_3 (by decide) (qm_1 (i := 91) rfl rfl) rfl rfl d_Le_auditedItems_6 (y := (σ 3 4)) rfl (?_ : WM _ 9 _ _ _ _)
  refine r_icmp_ge 29 d_Le_auditedItems_9 rfl ⟨fun c1 => (?_ : WM _ 29 _ _ _ _), fun c1 => (?_ : WM _ 12 _ _ _ _)⟩
  · replace h := h.1 c1
    refine r_iload_n d_Le_auditedItems_29 rfl (?_ : WM _ 30 _ _ _ _)
    exact r_ireturn rfl d_Le_auditedItems_30 h
  · replace h := h.2 c1
    refine r_aload_n d_Le_auditedItems_12 rfl (?_ : WM _ 13 _ _ _ _)
    refine r_iload_n d_Le_auditedItems_13 rfl (?_ : WM _ 14 _ _ _ _)
    refine r_callV (ν := M_Le_isAudited) (k := 3) [vI x2] ok_M_Le_isAudited okv_M_Le_isAudited (by decide) rfl rfl rfl (qm_6 (i := 221) rfl rfl) np_M_Le_isAudited rfl (by decide) (Nat.le_of_ble_eq_true rfl) rfl d_Le_auditedItems_14 (CI.k h (fun v3 σ2 h => (?_ : WM _ 17 _ _ _ _)))
    refine r_if_eq 23 d_Le_auditedItems_17 rfl ⟨fun c4 => (?_ : WM _ 23 _ _ _ _), fun c4 => (?_ : WM _ 20 _ _ _ _)⟩
    · replace h := h.1 c4
      obtain ⟨h5, h⟩ := h
      refine r_iinc (ls' := [(2, vI (x2 + 1)), (0, vR 3), (1, vI x1)]) d_Le_auditedItems_23 rfl h5 (by decide) rfl (?_ : WM _ 26 _ _ _ _)
      refine r_goto 4 d_Le_auditedItems_26 rfl ?_
      refine r_pick (ls' := [(0, vR 3), (1, vI x1), (2, vI (x2 + 1))]) [1, 2, 0] rfl ?_
      exact h
    · replace h := h.2 c4
      obtain ⟨h6, h⟩ := h
      refine r_iinc (ls' := [(1, vI (x1 + 1)), (0, vR 3), (2, vI x2)]) d_Le_auditedItems_20 rfl h6 (by decide) rfl (?_ : WM _ 23 _ _ _ _)
      obtain ⟨h7, h⟩ := h
      refine r_iinc (ls' := [(2, vI (x2 + 1)), (1, vI (x1 + 1)), (0, vR 3)]) d_Le_auditedItems_23 rfl h7 (by decide) rfl (?_ : WM _ 26 _ _ _ _)
      refine r_goto 4 d_Le_auditedItems_26 rfl ?_
      refine r_pick (ls' := [(0, vR 3), (1, vI (x1 + 1)), (2, vI (x2 + 1))]) [2, 1, 0] rfl ?_
      exact h
set_option maxRecDepth 20000 in
theorem e_La_hitsFrom_16 {K : Int → St → Prop} {σ : St} (x1 : Int) (h : ((σ 16 0) = 0 → K 0 σ) ∧ (¬ (σ 16 0) = 0 → (x1 ≤ (σ 16 1) → (inR ((σ 16 1) - x1)) ∧ (0 ≤ ((σ 16 1) - x1)) ∧ (0 < (σ 16 0)) ∧ (inR ((((σ 16 1) - x1) / (σ 16 0)) + 1)) ∧ K ((((σ 16 1) - x1) / (σ 16 0)) + 1) σ) ∧ (¬ x1 ≤ (σ 16 1) → K 0 σ))) : CI M_La_hitsFrom [vR 16, vI x1] σ K := by
  refine Con.of ok_M_La_hitsFrom (ls := [(0, vR 16), (1, vI x1)]) rfl (Nat.le_of_ble_eq_true rfl) ?_
  refine r_aload_n d_La_hitsFrom_0 rfl (?_ : WM _ 1 _ _ _ _)
  refine r_getI (k := 16) (j := 0) 0 (by decide) rfl clk_2 (by decide) (qm_1 (i := 155) rfl rfl) rfl rfl d_La_hitsFrom_1 (y := (σ 16 0)) rfl (?_ : WM _ 4 _ _ _ _)
  refine r_if_eq 15 d_La_hitsFrom_4 rfl ⟨fun c1 => (?_ : WM _ 15 _ _ _ _), fun c1 => (?_ : WM _ 7 _ _ _ _)⟩
  · replace h := h.1 c1
    refine r_iconst d_La_hitsFrom_15 (by decide) (?_ : WM _ 16 _ _ _ _)
    refine r_goto 32 d_La_hitsFrom_16 rfl ?_
    exact r_ireturn rfl d_La_hitsFrom_32 h
  · replace h := h.2 c1
    refine r_iload_n d_La_hitsFrom_7 rfl (?_ : WM _ 8 _ _ _ _)
    refine r_aload_n d_La_hitsFrom_8 rfl (?_ : WM _ 9 _ _ _ _)
    refine r_getI (k := 16) (j := 1) 1 (by decide) rfl clk_2 (by decide) (qm_1 (i := 159) rfl rfl) rfl rfl d_La_hitsFrom_9 (y := (σ 16 1)) rfl (?_ : WM _ 12 _ _ _ _)
    refine r_icmp_le 19 d_La_hitsFrom_12 rfl ⟨fun c2 => (?_ : WM _ 19 _ _ _ _), fun c2 => (?_ : WM _ 15 _ _ _ _)⟩
    · replace h := h.1 c2
      refine r_aload_n d_La_hitsFrom_19 rfl (?_ : WM _ 20 _ _ _ _)
      refine r_getI (k := 16) (j := 1) 1 (by decide) rfl clk_2 (by decide) (qm_1 (i := 159) rfl rfl) rfl rfl d_La_hitsFrom_20 (y := (σ 16 1)) rfl (?_ : WM _ 23 _ _ _ _)
      refine r_iload_n d_La_hitsFrom_23 rfl (?_ : WM _ 24 _ _ _ _)
      obtain ⟨h3, h⟩ := h
      refine r_isub d_La_hitsFrom_24 h3 (?_ : WM _ 25 _ _ _ _)
      refine r_aload_n d_La_hitsFrom_25 rfl (?_ : WM _ 26 _ _ _ _)
      refine r_getI (k := 16) (j := 0) 0 (by decide) rfl clk_2 (by decide) (qm_1 (i := 155) rfl rfl) rfl rfl d_La_hitsFrom_26 (y := (σ 16 0)) rfl (?_ : WM _ 29 _ _ _ _)
      obtain ⟨h4, h⟩ := h
      obtain ⟨h5, h⟩ := h
      refine r_idivn d_La_hitsFrom_29 h4 h5 (?_ : WM _ 30 _ _ _ _)
      refine r_iconst d_La_hitsFrom_30 (by decide) (?_ : WM _ 31 _ _ _ _)
      obtain ⟨h6, h⟩ := h
      refine r_iadd d_La_hitsFrom_31 h6 (?_ : WM _ 32 _ _ _ _)
      exact r_ireturn rfl d_La_hitsFrom_32 h
    · replace h := h.2 c2
      refine r_iconst d_La_hitsFrom_15 (by decide) (?_ : WM _ 16 _ _ _ _)
      refine r_goto 32 d_La_hitsFrom_16 rfl ?_
      exact r_ireturn rfl d_La_hitsFrom_32 h
set_option maxRecDepth 20000 in
theorem e_Le_isAudited {K : Int → St → Prop} {σ : St} (x1 : Int) (h : (x1 < 0 → K 0 σ) ∧ (¬ x1 < 0 → ((σ 3 4) ≤ x1 → K 0 σ) ∧ (¬ (σ 3 4) ≤ x1 → (0 ≤ x1) ∧ (x1 < 48) ∧ ((σ 7 x1) = (-1) → K 0 σ) ∧ (¬ (σ 7 x1) = (-1) → K 1 σ)))) : CI M_Le_isAudited [vR 3, vI x1] σ K := by
  refine Con.of ok_M_Le_isAudited (ls := [(0, vR 3), (1, vI x1)]) rfl (Nat.le_of_ble_eq_true rfl) ?_
  refine r_iload_n d_Le_isAudited_0 rfl (?_ : WM _ 1 _ _ _ _)
  refine r_if_lt 26 d_Le_isAudited_1 rfl ⟨fun c1 => (?_ : WM _ 26 _ _ _ _), fun c1 => (?_ : WM _ 4 _ _ _ _)⟩
  · replace h := h.1 c1
    refine r_iconst d_Le_isAudited_26 (by decide) (?_ : WM _ 27 _ _ _ _)
    exact r_zreturn rfl d_Le_isAudited_27 (by decide) h
  · replace h := h.2 c1
    refine r_iload_n d_Le_isAudited_4 rfl (?_ : WM _ 5 _ _ _ _)
    refine r_aload_n d_Le_isAudited_5 rfl (?_ : WM _ 6 _ _ _ _)
    refine r_getI (k := 3) (j := 4) 4 (by decide) rfl clk_3 (by decide) (qm_1 (i := 91) rfl rfl) rfl rfl d_Le_isAudited_6 (y := (σ 3 4)) rfl (?_ : WM _ 9 _ _ _ _)
    refine r_icmp_ge 26 d_Le_isAudited_9 rfl ⟨fun c2 => (?_ : WM _ 26 _ _ _ _), fun c2 => (?_ : WM _ 12 _ _ _ _)⟩
    · replace h := h.1 c2
      refine r_iconst d_Le_isAudited_26 (by decide) (?_ : WM _ 27 _ _ _ _)
      exact r_zreturn rfl d_Le_isAudited_27 (by decide) h
    · replace h := h.2 c2
      refine r_aload_n d_Le_isAudited_12 rfl (?_ : WM _ 13 _ _ _ _)
      refine r_getR (k := 3) (j := 3) (q := 7) (by decide) rfl clk_3 (by decide) (qm_1 (i := 87) rfl rfl) rfl d_Le_isAudited_13 (?_ : WM _ 16 _ _ _ _)
      refine r_iload_n d_Le_isAudited_16 rfl (?_ : WM _ 17 _ _ _ _)
      obtain ⟨h3, h⟩ := h
      obtain ⟨h4, h⟩ := h
      refine r_iald (k := 7) (n := 48) (by decide) rfl d_Le_isAudited_17 h3 h4 (y := (σ 7 x1)) rfl (?_ : WM _ 18 _ _ _ _)
      refine r_iconst d_Le_isAudited_18 (by decide) (?_ : WM _ 19 _ _ _ _)
      refine r_icmp_eq 26 d_Le_isAudited_19 rfl ⟨fun c5 => (?_ : WM _ 26 _ _ _ _), fun c5 => (?_ : WM _ 22 _ _ _ _)⟩
      · replace h := h.1 c5
        refine r_iconst d_Le_isAudited_26 (by decide) (?_ : WM _ 27 _ _ _ _)
        exact r_zreturn rfl d_Le_isAudited_27 (by decide) h
      · replace h := h.2 c5
        refine r_iconst d_Le_isAudited_22 (by decide) (?_ : WM _ 23 _ _ _ _)
        refine r_goto 27 d_Le_isAudited_23 rfl ?_
        exact r_zreturn rfl d_Le_isAudited_27 (by decide) h
set_option maxRecDepth 20000 in
theorem e_La_strikes_16 {K : Int → St → Prop} {σ : St} (x1 : Int) (x2 : Int) (h : CI M_La_firstCoin [vR 16, vI x2] σ (fun v2 σ1 => ((σ1 16 0) = 0 → K 0 σ1) ∧ (¬ (σ1 16 0) = 0 → (¬ v2 = 0 → (inR (x1 - v2)) ∧ CI M_Ma_floorMod [vI (x1 - v2), vI (σ1 16 0)] σ1 (fun v7 σ6 => (inR (v2 + v7)) ∧ CI M_La_lastCoin [vR 16, vI x2] σ6 (fun v10 σ9 => (v10 < (v2 + v7) → K 0 σ9) ∧ (¬ v10 < (v2 + v7) → K 1 σ9)))) ∧ (v2 = 0 → K 0 σ1)))) : CI M_La_strikes [vR 16, vI x1, vI x2] σ K := by
  refine Con.of ok_M_La_strikes (ls := [(0, vR 16), (1, vI x1), (2, vI x2)]) rfl (Nat.le_of_ble_eq_true rfl) ?_
  refine r_aload_n d_La_strikes_0 rfl (?_ : WM _ 1 _ _ _ _)
  refine r_iload_n d_La_strikes_1 rfl (?_ : WM _ 2 _ _ _ _)
  refine r_callV (ν := M_La_firstCoin) (k := 16) [vI x2] ok_M_La_firstCoin okv_M_La_firstCoin (by decide) rfl rfl rfl (qm_7 (i := 0) rfl rfl) np_M_La_firstCoin rfl (by decide) (Nat.le_of_ble_eq_true rfl) rfl d_La_strikes_2 (CI.k h (fun v2 σ1 h => (?_ : WM _ 5 _ _ _ _)))
  refine r_istore_n (ls' := [(3, vI v2), (0, vR 16), (1, vI x1), (2, vI x2)]) d_La_strikes_5 rfl (by decide) rfl (?_ : WM _ 6 _ _ _ _)
  refine r_aload_n d_La_strikes_6 rfl (?_ : WM _ 7 _ _ _ _)
  refine r_getI (k := 16) (j := 0) 0 (by decide) rfl clk_2 (by decide) (qm_1 (i := 155) rfl rfl) rfl rfl d_La_strikes_7 (y := (σ1 16 0)) rfl (?_ : WM _ 10 _ _ _ _)
  refine r_if_eq 17 d_La_strikes_10 rfl ⟨fun c3 => (?_ : WM _ 17 _ _ _ _), fun c3 => (?_ : WM _ 13 _ _ _ _)⟩
  · replace h := h.1 c3
    refine r_iconst d_La_strikes_17 (by decide) (?_ : WM _ 18 _ _ _ _)
    exact r_zreturn rfl d_La_strikes_18 (by decide) h
  · replace h := h.2 c3
    refine r_iload_n d_La_strikes_13 rfl (?_ : WM _ 14 _ _ _ _)
    refine r_if_ne 19 d_La_strikes_14 rfl ⟨fun c4 => (?_ : WM _ 19 _ _ _ _), fun c4 => (?_ : WM _ 17 _ _ _ _)⟩
    · replace h := h.1 c4
      refine r_iload_n d_La_strikes_19 rfl (?_ : WM _ 20 _ _ _ _)
      refine r_iload_n d_La_strikes_20 rfl (?_ : WM _ 21 _ _ _ _)
      refine r_iload_n d_La_strikes_21 rfl (?_ : WM _ 22 _ _ _ _)
      obtain ⟨h5, h⟩ := h
      refine r_isub d_La_strikes_22 h5 (?_ : WM _ 23 _ _ _ _)
      refine r_aload_n d_La_strikes_23 rfl (?_ : WM _ 24 _ _ _ _)
      refine r_getI (k := 16) (j := 0) 0 (by decide) rfl clk_2 (by decide) (qm_1 (i := 155) rfl rfl) rfl rfl d_La_strikes_24 (y := (σ1 16 0)) rfl (?_ : WM _ 27 _ _ _ _)
      refine r_callS (ν := M_Ma_floorMod) [vI (x1 - v2), vI (σ1 16 0)] ok_M_Ma_floorMod oks_M_Ma_floorMod (qm_7 (i := 5) rfl rfl) np_M_Ma_floorMod rfl (by decide) (Nat.le_of_ble_eq_true rfl) rfl d_La_strikes_27 (CI.k h (fun v7 σ6 h => (?_ : WM _ 30 _ _ _ _)))
      obtain ⟨h8, h⟩ := h
      refine r_iadd d_La_strikes_30 h8 (?_ : WM _ 31 _ _ _ _)
      refine r_aload_n d_La_strikes_31 rfl (?_ : WM _ 32 _ _ _ _)
      refine r_iload_n d_La_strikes_32 rfl (?_ : WM _ 33 _ _ _ _)
      refine r_callV (ν := M_La_lastCoin) (k := 16) [vI x2] ok_M_La_lastCoin okv_M_La_lastCoin (by decide) rfl rfl rfl (qm_7 (i := 8) rfl rfl) np_M_La_lastCoin rfl (by decide) (Nat.le_of_ble_eq_true rfl) rfl d_La_strikes_33 (CI.k h (fun v10 σ9 h => (?_ : WM _ 36 _ _ _ _)))
      refine r_icmp_gt 43 d_La_strikes_36 rfl ⟨fun c11 => (?_ : WM _ 43 _ _ _ _), fun c11 => (?_ : WM _ 39 _ _ _ _)⟩
      · replace h := h.1 c11
        refine r_iconst d_La_strikes_43 (by decide) (?_ : WM _ 44 _ _ _ _)
        exact r_zreturn rfl d_La_strikes_44 (by decide) h
      · replace h := h.2 c11
        refine r_iconst d_La_strikes_39 (by decide) (?_ : WM _ 40 _ _ _ _)
        refine r_goto 44 d_La_strikes_40 rfl ?_
        exact r_zreturn rfl d_La_strikes_44 (by decide) h
    · replace h := h.2 c4
      refine r_iconst d_La_strikes_17 (by decide) (?_ : WM _ 18 _ _ _ _)
      exact r_zreturn rfl d_La_strikes_18 (by decide) h
set_option maxRecDepth 20000 in
theorem e_Ma_floorMod {K : Int → St → Prop} {σ : St} (x0 : Int) (x1 : Int) (h : (x1 ≠ 0) ∧ (inR (x0.tmod x1)) ∧ (0 ≤ x1) ∧ (0 ≤ x0 → K (x0.tmod x1) σ) ∧ (¬ 0 ≤ x0 → ((x0.tmod x1) = 0 → K (x0.tmod x1) σ) ∧ (¬ (x0.tmod x1) = 0 → (inR ((x0.tmod x1) + x1)) ∧ K ((x0.tmod x1) + x1) σ))) : CI M_Ma_floorMod [vI x0, vI x1] σ K := by
  refine Con.of ok_M_Ma_floorMod (ls := [(0, vI x0), (1, vI x1)]) rfl (Nat.le_of_ble_eq_true rfl) ?_
  refine r_iload_n d_Ma_floorMod_0 rfl (?_ : WM _ 1 _ _ _ _)
  refine r_iload_n d_Ma_floorMod_1 rfl (?_ : WM _ 2 _ _ _ _)
  obtain ⟨h1, h⟩ := h
  obtain ⟨h2, h⟩ := h
  refine r_irem d_Ma_floorMod_2 h1 h2 (?_ : WM _ 3 _ _ _ _)
  refine r_istore_n (ls' := [(2, vI (x0.tmod x1)), (0, vI x0), (1, vI x1)]) d_Ma_floorMod_3 rfl (by decide) rfl (?_ : WM _ 4 _ _ _ _)
  refine r_iload_n d_Ma_floorMod_4 rfl (?_ : WM _ 5 _ _ _ _)
  refine r_iload_n d_Ma_floorMod_5 rfl (?_ : WM _ 6 _ _ _ _)
  obtain ⟨h3, h⟩ := h
  refine r_xorge 18 d_Ma_floorMod_6 d_Ma_floorMod_7 rfl h3 ⟨fun c4 => (?_ : WM _ 18 _ _ _ _), fun c4 => (?_ : WM _ 10 _ _ _ _)⟩
  · replace h := h.1 c4
    refine r_iload_n d_Ma_floorMod_18 rfl (?_ : WM _ 19 _ _ _ _)
    exact r_ireturn rfl d_Ma_floorMod_19 h
  · replace h := h.2 c4
    refine r_iload_n d_Ma_floorMod_10 rfl (?_ : WM _ 11 _ _ _ _)
    refine r_if_eq 18 d_Ma_floorMod_11 rfl ⟨fun c5 => (?_ : WM _ 18 _ _ _ _), fun c5 => (?_ : WM _ 14 _ _ _ _)⟩
    · replace h := h.1 c5
      refine r_iload_n d_Ma_floorMod_18 rfl (?_ : WM _ 19 _ _ _ _)
      exact r_ireturn rfl d_Ma_floorMod_19 h
    · replace h := h.2 c5
      refine r_iload_n d_Ma_floorMod_14 rfl (?_ : WM _ 15 _ _ _ _)
      refine r_iload_n d_Ma_floorMod_15 rfl (?_ : WM _ 16 _ _ _ _)
      obtain ⟨h6, h⟩ := h
      refine r_iadd d_Ma_floorMod_16 h6 (?_ : WM _ 17 _ _ _ _)
      exact r_ireturn rfl d_Ma_floorMod_17 h
set_option maxRecDepth 20000 in
theorem e_La_lastCoin_16 {K : Int → St → Prop} {σ : St} (x1 : Int) (h : CI M_Le_holds [vR 3, vI x1] σ (fun v2 σ1 => (v2 = 0 → K 0 σ1) ∧ (¬ v2 = 0 → (0 ≤ x1) ∧ (x1 < 48) ∧ K (σ1 35 x1) σ1))) : CI M_La_lastCoin [vR 16, vI x1] σ K := by
  refine Con.of ok_M_La_lastCoin (ls := [(0, vR 16), (1, vI x1)]) rfl (Nat.le_of_ble_eq_true rfl) ?_
  refine r_aload_n d_La_lastCoin_0 rfl (?_ : WM _ 1 _ _ _ _)
  refine r_getR (k := 16) (j := 3) (q := 3) (by decide) rfl clk_2 (by decide) (qm_1 (i := 164) rfl rfl) rfl d_La_lastCoin_1 (?_ : WM _ 4 _ _ _ _)
  refine r_iload_n d_La_lastCoin_4 rfl (?_ : WM _ 5 _ _ _ _)
  refine r_callV (ν := M_Le_holds) (k := 3) [vI x1] ok_M_Le_holds okv_M_Le_holds (by decide) rfl rfl rfl (qm_7 (i := 4) rfl rfl) np_M_Le_holds rfl (by decide) (Nat.le_of_ble_eq_true rfl) rfl d_La_lastCoin_5 (CI.k h (fun v2 σ1 h => (?_ : WM _ 8 _ _ _ _)))
  refine r_if_eq 20 d_La_lastCoin_8 rfl ⟨fun c3 => (?_ : WM _ 20 _ _ _ _), fun c3 => (?_ : WM _ 11 _ _ _ _)⟩
  · replace h := h.1 c3
    refine r_iconst d_La_lastCoin_20 (by decide) (?_ : WM _ 21 _ _ _ _)
    exact r_ireturn rfl d_La_lastCoin_21 h
  · replace h := h.2 c3
    refine r_aload_n d_La_lastCoin_11 rfl (?_ : WM _ 12 _ _ _ _)
    refine r_getR (k := 16) (j := 5) (q := 35) (by decide) rfl clk_2 (by decide) (qm_1 (i := 166) rfl rfl) rfl d_La_lastCoin_12 (?_ : WM _ 15 _ _ _ _)
    refine r_iload_n d_La_lastCoin_15 rfl (?_ : WM _ 16 _ _ _ _)
    obtain ⟨h4, h⟩ := h
    obtain ⟨h5, h⟩ := h
    refine r_iald (k := 35) (n := 48) (by decide) rfl d_La_lastCoin_16 h4 h5 (y := (σ1 35 x1)) rfl (?_ : WM _ 17 _ _ _ _)
    refine r_goto 21 d_La_lastCoin_17 rfl ?_
    exact r_ireturn rfl d_La_lastCoin_21 h
set_option maxRecDepth 20000 in
theorem e_Ar_fill {K : St → Prop} {σ : St} (x1 : Int) (h : WM M_Ar_fill 5 [(0, vR 27), (1, vI x1), (2, vI 0), (3, vI 401)] [] σ (QV K)) : CV M_Ar_fill [vR 27, vI x1] σ K := by
  refine Con.of ok_M_Ar_fill (ls := [(0, vR 27), (1, vI x1)]) rfl (Nat.le_of_ble_eq_true rfl) ?_
  refine r_iconst d_Ar_fill_0 (by decide) (?_ : WM _ 1 _ _ _ _)
  refine r_istore_n (ls' := [(2, vI 0), (0, vR 27), (1, vI x1)]) d_Ar_fill_1 rfl (by decide) rfl (?_ : WM _ 2 _ _ _ _)
  refine r_aload_n d_Ar_fill_2 rfl (?_ : WM _ 3 _ _ _ _)
  refine r_alen (k := 27) (t := 0) (n := 401) 401 (by decide) rfl (fun _ => rfl) rfl (by decide) d_Ar_fill_3 (?_ : WM _ 4 _ _ _ _)
  refine r_istore_n (ls' := [(3, vI 401), (2, vI 0), (0, vR 27), (1, vI x1)]) d_Ar_fill_4 rfl (by decide) rfl (?_ : WM _ 5 _ _ _ _)
  refine r_pick (ls' := [(0, vR 27), (1, vI x1), (2, vI 0), (3, vI 401)]) [2, 3, 1, 0] rfl ?_
  exact h
set_option maxRecDepth 20000 in
theorem l_Ar_fill_1 {K : St → Prop} {σ : St} (x1 : Int) (x2 : Int) (x3 : Int) (h : (x3 ≤ x2 → K σ) ∧ (¬ x3 ≤ x2 → (0 ≤ x2) ∧ (x2 < 401) ∧ (inR (x2 + 1)) ∧ WM M_Ar_fill 5 [(0, vR 27), (1, vI x1), (2, vI (x2 + 1)), (3, vI x3)] [] (ups σ 27 x2 x1) (QV K))) : WM M_Ar_fill 5 [(0, vR 27), (1, vI x1), (2, vI x2), (3, vI x3)] [] σ (QV K) := by
  refine r_iload_n d_Ar_fill_5 rfl (?_ : WM _ 6 _ _ _ _)
  refine r_iload_n d_Ar_fill_6 rfl (?_ : WM _ 7 _ _ _ _)
  refine r_icmp_ge 20 d_Ar_fill_7 rfl ⟨fun c1 => (?_ : WM _ 20 _ _ _ _), fun c1 => (?_ : WM _ 10 _ _ _ _)⟩
  · replace h := h.1 c1
    exact r_return rfl d_Ar_fill_20 h
  · replace h := h.2 c1
    refine r_aload_n d_Ar_fill_10 rfl (?_ : WM _ 11 _ _ _ _)
    refine r_iload_n d_Ar_fill_11 rfl (?_ : WM _ 12 _ _ _ _)
    refine r_iload_n d_Ar_fill_12 rfl (?_ : WM _ 13 _ _ _ _)
    obtain ⟨h2, h⟩ := h
    obtain ⟨h3, h⟩ := h
    refine r_iast (k := 27) (n := 401) (by decide) rfl d_Ar_fill_13 h2 h3 (?_ : WM _ 14 _ _ _ _)
    obtain ⟨h4, h⟩ := h
    refine r_iinc (ls' := [(2, vI (x2 + 1)), (0, vR 27), (1, vI x1), (3, vI x3)]) d_Ar_fill_14 rfl h4 (by decide) rfl (?_ : WM _ 17 _ _ _ _)
    refine r_goto 5 d_Ar_fill_17 rfl ?_
    refine r_pick (ls' := [(0, vR 27), (1, vI x1), (2, vI (x2 + 1)), (3, vI x3)]) [1, 2, 0, 3] rfl ?_
    exact h
set_option maxRecDepth 20000 in
theorem e_Ta_byteAt {K : Int → St → Prop} {σ : St} (x1 : Int) (h : (x1 < 0 → K (-1) σ) ∧ (¬ x1 < 0 → ((σ 1 1) ≤ x1 → K (-1) σ) ∧ (¬ (σ 1 1) ≤ x1 → (0 ≤ x1) ∧ (x1 < 900) ∧ K ((σ 2 x1) % 256) σ))) : CI M_Ta_byteAt [vR 1, vI x1] σ K := by
  refine Con.of ok_M_Ta_byteAt (ls := [(0, vR 1), (1, vI x1)]) rfl (Nat.le_of_ble_eq_true rfl) ?_
  refine r_iload_n d_Ta_byteAt_0 rfl (?_ : WM _ 1 _ _ _ _)
  refine r_if_lt 25 d_Ta_byteAt_1 rfl ⟨fun c1 => (?_ : WM _ 25 _ _ _ _), fun c1 => (?_ : WM _ 4 _ _ _ _)⟩
  · replace h := h.1 c1
    refine r_iconst d_Ta_byteAt_25 (by decide) (?_ : WM _ 26 _ _ _ _)
    exact r_ireturn rfl d_Ta_byteAt_26 h
  · replace h := h.2 c1
    refine r_iload_n d_Ta_byteAt_4 rfl (?_ : WM _ 5 _ _ _ _)
    refine r_aload_n d_Ta_byteAt_5 rfl (?_ : WM _ 6 _ _ _ _)
    refine r_getI (k := 1) (j := 1) 1 (by decide) rfl clk_7 (by decide) (qm_1 (i := 68) rfl rfl) rfl rfl d_Ta_byteAt_6 (y := (σ 1 1)) rfl (?_ : WM _ 9 _ _ _ _)
    refine r_icmp_ge 25 d_Ta_byteAt_9 rfl ⟨fun c2 => (?_ : WM _ 25 _ _ _ _), fun c2 => (?_ : WM _ 12 _ _ _ _)⟩
    · replace h := h.1 c2
      refine r_iconst d_Ta_byteAt_25 (by decide) (?_ : WM _ 26 _ _ _ _)
      exact r_ireturn rfl d_Ta_byteAt_26 h
    · replace h := h.2 c2
      refine r_aload_n d_Ta_byteAt_12 rfl (?_ : WM _ 13 _ _ _ _)
      refine r_getR (k := 1) (j := 0) (q := 2) (by decide) rfl clk_7 (by decide) (qm_1 (i := 66) rfl rfl) rfl d_Ta_byteAt_13 (?_ : WM _ 16 _ _ _ _)
      refine r_iload_n d_Ta_byteAt_16 rfl (?_ : WM _ 17 _ _ _ _)
      obtain ⟨h3, h⟩ := h
      obtain ⟨h4, h⟩ := h
      refine r_bald (k := 2) (n := 900) (by decide) rfl d_Ta_byteAt_17 h3 h4 (y := (σ 2 x1)) rfl (?_ : WM _ 18 _ _ _ _)
      refine r_sipush d_Ta_byteAt_18 (by decide) (by decide) (?_ : WM _ 21 _ _ _ _)
      refine r_iand255 d_Ta_byteAt_21 (?_ : WM _ 22 _ _ _ _)
      refine r_goto 26 d_Ta_byteAt_22 rfl ?_
      exact r_ireturn rfl d_Ta_byteAt_26 h
set_option maxRecDepth 20000 in
theorem e_Sg_length_62 {K : Int → St → Prop} {σ : St}  (h : CI M_Sg_coder [vR 62] σ (fun v2 σ1 => (0 ≤ v2) ∧ (v2 < 32) ∧ (inR (4 / 2 ^ v2.toNat)) ∧ K (4 / 2 ^ v2.toNat) σ1)) : CI M_Sg_length [vR 62] σ K := by
  refine Con.of ok_M_Sg_length (ls := [(0, vR 62)]) rfl (Nat.le_of_ble_eq_true rfl) ?_
  refine r_aload_n d_Sg_length_0 rfl (?_ : WM _ 1 _ _ _ _)
  refine r_getE (v := vR 64) (fun _ _ _ _ h => (h.2.2.2.2.1.1 0 (by decide)).2.2.1) trivial (qm_4 (i := 224) rfl rfl) d_Sg_length_1 (?_ : WM _ 4 _ _ _ _)
  refine r_talen 4 (fun _ _ _ _ h => (h.2.2.2.2.1.1 0 (by decide)).2.2.2) rfl (by decide) d_Sg_length_4 (?_ : WM _ 5 _ _ _ _)
  refine r_aload_n d_Sg_length_5 rfl (?_ : WM _ 6 _ _ _ _)
  refine r_callT (ν := M_Sg_coder) (j := 0) [] ok_M_Sg_coder okv_M_Sg_coder (by decide) rfl (qm_4 (i := 61) rfl rfl) np_M_Sg_coder rfl (by decide) (Nat.le_of_ble_eq_true rfl) rfl d_Sg_length_6 (CI.k h (fun v2 σ1 h => (?_ : WM _ 9 _ _ _ _)))
  obtain ⟨h3, h⟩ := h
  obtain ⟨h4, h⟩ := h
  obtain ⟨h5, h⟩ := h
  refine r_ishr d_Sg_length_9 h3 h4 h5 (?_ : WM _ 10 _ _ _ _)
  exact r_ireturn rfl d_Sg_length_10 h
set_option maxRecDepth 20000 in
theorem e_Sg_charAt_62 {K : Int → St → Prop} {σ : St} (x1 : Int) (h : CI M_Sg_isLatin1 [vR 62] σ (fun v2 σ1 => (v2 = 0 → CI M_Su_charAt [vR 64, vI x1] σ1 (fun v5 σ4 => (0 ≤ v5) ∧ (v5 < 65536) ∧ K v5 σ4)) ∧ (¬ v2 = 0 → CI M_Sl_charAt [vR 64, vI x1] σ1 (fun v9 σ8 => (0 ≤ v9) ∧ (v9 < 65536) ∧ K v9 σ8)))) : CI M_Sg_charAt [vR 62, vI x1] σ K := by
  refine Con.of ok_M_Sg_charAt (ls := [(0, vR 62), (1, vI x1)]) rfl (Nat.le_of_ble_eq_true rfl) ?_
  refine r_aload_n d_Sg_charAt_0 rfl (?_ : WM _ 1 _ _ _ _)
  refine r_callT (ν := M_Sg_isLatin1) (j := 0) [] ok_M_Sg_isLatin1 okv_M_Sg_isLatin1 (by decide) rfl (qm_5 (i := 35) rfl rfl) np_M_Sg_isLatin1 rfl (by decide) (Nat.le_of_ble_eq_true rfl) rfl d_Sg_charAt_1 (CI.k h (fun v2 σ1 h => (?_ : WM _ 4 _ _ _ _)))
  refine r_if_eq 16 d_Sg_charAt_4 rfl ⟨fun c3 => (?_ : WM _ 16 _ _ _ _), fun c3 => (?_ : WM _ 7 _ _ _ _)⟩
  · replace h := h.1 c3
    refine r_aload_n d_Sg_charAt_16 rfl (?_ : WM _ 17 _ _ _ _)
    refine r_getE (v := vR 64) (fun _ _ _ _ h => (h.2.2.2.2.1.1 0 (by decide)).2.2.1) trivial (qm_4 (i := 224) rfl rfl) d_Sg_charAt_17 (?_ : WM _ 20 _ _ _ _)
    refine r_iload_n d_Sg_charAt_20 rfl (?_ : WM _ 21 _ _ _ _)
    refine r_callS (ν := M_Su_charAt) [vR 64, vI x1] ok_M_Su_charAt oks_M_Su_charAt (qm_5 (i := 43) rfl rfl) np_M_Su_charAt rfl (by decide) (Nat.le_of_ble_eq_true rfl) rfl d_Sg_charAt_21 (CI.k h (fun v5 σ4 h => (?_ : WM _ 24 _ _ _ _)))
    obtain ⟨h6, h⟩ := h
    obtain ⟨h7, h⟩ := h
    exact r_creturn rfl d_Sg_charAt_24 h6 h7 h
  · replace h := h.2 c3
    refine r_aload_n d_Sg_charAt_7 rfl (?_ : WM _ 8 _ _ _ _)
    refine r_getE (v := vR 64) (fun _ _ _ _ h => (h.2.2.2.2.1.1 0 (by decide)).2.2.1) trivial (qm_4 (i := 224) rfl rfl) d_Sg_charAt_8 (?_ : WM _ 11 _ _ _ _)
    refine r_iload_n d_Sg_charAt_11 rfl (?_ : WM _ 12 _ _ _ _)
    refine r_callS (ν := M_Sl_charAt) [vR 64, vI x1] ok_M_Sl_charAt oks_M_Sl_charAt (qm_5 (i := 39) rfl rfl) np_M_Sl_charAt rfl (by decide) (Nat.le_of_ble_eq_true rfl) rfl d_Sg_charAt_12 (CI.k h (fun v9 σ8 h => (?_ : WM _ 15 _ _ _ _)))
    obtain ⟨h10, h⟩ := h
    obtain ⟨h11, h⟩ := h
    exact r_creturn rfl d_Sg_charAt_15 h10 h11 h
set_option maxRecDepth 20000 in
theorem e_Le_isFull_9 {K : Int → St → Prop} {σ : St}  (h : ((σ 9 4) < 48 → K 0 σ) ∧ (¬ (σ 9 4) < 48 → K 1 σ)) : CI M_Le_isFull [vR 9] σ K := by
  refine Con.of ok_M_Le_isFull (ls := [(0, vR 9)]) rfl (Nat.le_of_ble_eq_true rfl) ?_
  refine r_aload_n d_Le_isFull_0 rfl (?_ : WM _ 1 _ _ _ _)
  refine r_getI (k := 9) (j := 4) 4 (by decide) rfl clk_3 (by decide) (qm_1 (i := 91) rfl rfl) rfl rfl d_Le_isFull_1 (y := (σ 9 4)) rfl (?_ : WM _ 4 _ _ _ _)
  refine r_bipush d_Le_isFull_4 (by decide) (by decide) (?_ : WM _ 6 _ _ _ _)
  refine r_icmp_lt 13 d_Le_isFull_6 rfl ⟨fun c1 => (?_ : WM _ 13 _ _ _ _), fun c1 => (?_ : WM _ 9 _ _ _ _)⟩
  · replace h := h.1 c1
    refine r_iconst d_Le_isFull_13 (by decide) (?_ : WM _ 14 _ _ _ _)
    exact r_zreturn rfl d_Le_isFull_14 (by decide) h
  · replace h := h.2 c1
    refine r_iconst d_Le_isFull_9 (by decide) (?_ : WM _ 10 _ _ _ _)
    refine r_goto 14 d_Le_isFull_10 rfl ?_
    exact r_zreturn rfl d_Le_isFull_14 (by decide) h
set_option maxRecDepth 20000 in
theorem e_Le_indexOf_9 {K : Int → St → Prop} {σ : St} (x1 : Int) (x2 : Int) (h : WM M_Le_indexOf 2 [(0, vR 9), (1, vI x1), (2, vI x2), (3, vI 0)] [] σ (QI K)) : CI M_Le_indexOf [vR 9, vI x1, vI x2] σ K := by
  refine Con.of ok_M_Le_indexOf (ls := [(0, vR 9), (1, vI x1), (2, vI x2)]) rfl (Nat.le_of_ble_eq_true rfl) ?_
  refine r_iconst d_Le_indexOf_0 (by decide) (?_ : WM _ 1 _ _ _ _)
  refine r_istore_n (ls' := [(3, vI 0), (0, vR 9), (1, vI x1), (2, vI x2)]) d_Le_indexOf_1 rfl (by decide) rfl (?_ : WM _ 2 _ _ _ _)
  refine r_pick (ls' := [(0, vR 9), (1, vI x1), (2, vI x2), (3, vI 0)]) [1, 2, 3, 0] rfl ?_
  exact h
set_option maxRecDepth 20000 in
theorem l_Le_indexOf_9_1 {K : Int → St → Prop} {σ : St} (x1 : Int) (x2 : Int) (x3 : Int) (h : ((σ 9 4) ≤ x3 → K (-1) σ) ∧ (¬ (σ 9 4) ≤ x3 → (0 ≤ x3) ∧ (x3 < 48) ∧ (¬ (σ 10 x3) = x1 → (inR (x3 + 1)) ∧ WM M_Le_indexOf 2 [(0, vR 9), (1, vI x1), (2, vI x2), (3, vI (x3 + 1))] [] σ (QI K)) ∧ ((σ 10 x3) = x1 → (¬ (σ 11 x3) = x2 → (inR (x3 + 1)) ∧ WM M_Le_indexOf 2 [(0, vR 9), (1, vI x1), (2, vI x2), (3, vI (x3 + 1))] [] σ (QI K)) ∧ ((σ 11 x3) = x2 → K x3 σ)))) : WM M_Le_indexOf 2 [(0, vR 9), (1, vI x1), (2, vI x2), (3, vI x3)] [] σ (QI K) := by
  refine r_iload_n d_Le_indexOf_2 rfl (?_ : WM _ 3 _ _ _ _)
  refine r_aload_n d_Le_indexOf_3 rfl (?_ : WM _ 4 _ _ _ _)
  refine r_getI (k := 9) (j := 4) 4 (by decide) rfl clk_3 (by decide) (qm_1 (i := 91) rfl rfl) rfl rfl d_Le_indexOf_4 (y := (σ 9 4)) rfl (?_ : WM _ 7 _ _ _ _)
  refine r_icmp_ge 38 d_Le_indexOf_7 rfl ⟨fun c1 => (?_ : WM _ 38 _ _ _ _), fun c1 => (?_ : WM _ 10 _ _ _ _)⟩
  · replace h := h.1 c1
    refine r_iconst d_Le_indexOf_38 (by decide) (?_ : WM _ 39 _ _ _ _)
    exact r_ireturn rfl d_Le_indexOf_39 h
  · replace h := h.2 c1
    refine r_aload_n d_Le_indexOf_10 rfl (?_ : WM _ 11 _ _ _ _)
    refine r_getR (k := 9) (j := 0) (q := 10) (by decide) rfl clk_3 (by decide) (qm_1 (i := 81) rfl rfl) rfl d_Le_indexOf_11 (?_ : WM _ 14 _ _ _ _)
    refine r_iload_n d_Le_indexOf_14 rfl (?_ : WM _ 15 _ _ _ _)
    obtain ⟨h2, h⟩ := h
    obtain ⟨h3, h⟩ := h
    refine r_iald (k := 10) (n := 48) (by decide) rfl d_Le_indexOf_15 h2 h3 (y := (σ 10 x3)) rfl (?_ : WM _ 16 _ _ _ _)
    refine r_iload_n d_Le_indexOf_16 rfl (?_ : WM _ 17 _ _ _ _)
    refine r_icmp_ne 32 d_Le_indexOf_17 rfl ⟨fun c4 => (?_ : WM _ 32 _ _ _ _), fun c4 => (?_ : WM _ 20 _ _ _ _)⟩
    · replace h := h.1 c4
      obtain ⟨h5, h⟩ := h
      refine r_iinc (ls' := [(3, vI (x3 + 1)), (0, vR 9), (1, vI x1), (2, vI x2)]) d_Le_indexOf_32 rfl h5 (by decide) rfl (?_ : WM _ 35 _ _ _ _)
      refine r_goto 2 d_Le_indexOf_35 rfl ?_
      refine r_pick (ls' := [(0, vR 9), (1, vI x1), (2, vI x2), (3, vI (x3 + 1))]) [1, 2, 3, 0] rfl ?_
      exact h
    · replace h := h.2 c4
      refine r_aload_n d_Le_indexOf_20 rfl (?_ : WM _ 21 _ _ _ _)
      refine r_getR (k := 9) (j := 1) (q := 11) (by decide) rfl clk_3 (by decide) (qm_1 (i := 83) rfl rfl) rfl d_Le_indexOf_21 (?_ : WM _ 24 _ _ _ _)
      refine r_iload_n d_Le_indexOf_24 rfl (?_ : WM _ 25 _ _ _ _)
      refine r_iald (k := 11) (n := 48) (by decide) rfl d_Le_indexOf_25 h2 h3 (y := (σ 11 x3)) rfl (?_ : WM _ 26 _ _ _ _)
      refine r_iload_n d_Le_indexOf_26 rfl (?_ : WM _ 27 _ _ _ _)
      refine r_icmp_ne 32 d_Le_indexOf_27 rfl ⟨fun c6 => (?_ : WM _ 32 _ _ _ _), fun c6 => (?_ : WM _ 30 _ _ _ _)⟩
      · replace h := h.1 c6
        obtain ⟨h7, h⟩ := h
        refine r_iinc (ls' := [(3, vI (x3 + 1)), (0, vR 9), (1, vI x1), (2, vI x2)]) d_Le_indexOf_32 rfl h7 (by decide) rfl (?_ : WM _ 35 _ _ _ _)
        refine r_goto 2 d_Le_indexOf_35 rfl ?_
        refine r_pick (ls' := [(0, vR 9), (1, vI x1), (2, vI x2), (3, vI (x3 + 1))]) [1, 2, 3, 0] rfl ?_
        exact h
      · replace h := h.2 c6
        refine r_iload_n d_Le_indexOf_30 rfl (?_ : WM _ 31 _ _ _ _)
        exact r_ireturn rfl d_Le_indexOf_31 h
set_option maxRecDepth 20000 in
theorem e_Le_append_9 {K : St → Prop} {σ : St} (x1 : Int) (x2 : Int) (x3 : Int) (h : CI M_Le_isFull [vR 9] σ (fun v2 σ1 => (v2 = 0 → (0 ≤ (σ1 9 4)) ∧ ((σ1 9 4) < 48) ∧ (inR ((σ1 9 4) + 1)) ∧ K (ups (ups (ups (ups (ups σ1 10 (σ1 9 4) x1) 11 (σ1 9 4) x2) 12 (σ1 9 4) x3) 13 (σ1 9 4) (-1)) 9 4 ((σ1 9 4) + 1))) ∧ (¬ v2 = 0 → K σ1))) : CV M_Le_append [vR 9, vI x1, vI x2, vI x3] σ K := by
  refine Con.of ok_M_Le_append (ls := [(0, vR 9), (1, vI x1), (2, vI x2), (3, vI x3)]) rfl (Nat.le_of_ble_eq_true rfl) ?_
  refine r_aload_n d_Le_append_0 rfl (?_ : WM _ 1 _ _ _ _)
  refine r_callV (ν := M_Le_isFull) (k := 9) [] ok_M_Le_isFull okv_M_Le_isFull (by decide) rfl rfl rfl (qm_5 (i := 76) rfl rfl) np_M_Le_isFull rfl (by decide) (Nat.le_of_ble_eq_true rfl) rfl d_Le_append_1 (CI.k h (fun v2 σ1 h => (?_ : WM _ 4 _ _ _ _)))
  refine r_if_eq 8 d_Le_append_4 rfl ⟨fun c3 => (?_ : WM _ 8 _ _ _ _), fun c3 => (?_ : WM _ 7 _ _ _ _)⟩
  · replace h := h.1 c3
    refine r_aload_n d_Le_append_8 rfl (?_ : WM _ 9 _ _ _ _)
    refine r_getR (k := 9) (j := 0) (q := 10) (by decide) rfl clk_3 (by decide) (qm_1 (i := 81) rfl rfl) rfl d_Le_append_9 (?_ : WM _ 12 _ _ _ _)
    refine r_aload_n d_Le_append_12 rfl (?_ : WM _ 13 _ _ _ _)
    refine r_getI (k := 9) (j := 4) 4 (by decide) rfl clk_3 (by decide) (qm_1 (i := 91) rfl rfl) rfl rfl d_Le_append_13 (y := (σ1 9 4)) rfl (?_ : WM _ 16 _ _ _ _)
    refine r_iload_n d_Le_append_16 rfl (?_ : WM _ 17 _ _ _ _)
    obtain ⟨h4, h⟩ := h
    obtain ⟨h5, h⟩ := h
    refine r_iast (k := 10) (n := 48) (by decide) rfl d_Le_append_17 h4 h5 (?_ : WM _ 18 _ _ _ _)
    refine r_aload_n d_Le_append_18 rfl (?_ : WM _ 19 _ _ _ _)
    refine r_getR (k := 9) (j := 1) (q := 11) (by decide) rfl clk_3 (by decide) (qm_1 (i := 83) rfl rfl) rfl d_Le_append_19 (?_ : WM _ 22 _ _ _ _)
    refine r_aload_n d_Le_append_22 rfl (?_ : WM _ 23 _ _ _ _)
    refine r_getI (k := 9) (j := 4) 4 (by decide) rfl clk_3 (by decide) (qm_1 (i := 91) rfl rfl) rfl rfl d_Le_append_23 (y := (σ1 9 4)) (ups_c (by decide)) (?_ : WM _ 26 _ _ _ _)
    refine r_iload_n d_Le_append_26 rfl (?_ : WM _ 27 _ _ _ _)
    refine r_iast (k := 11) (n := 48) (by decide) rfl d_Le_append_27 h4 h5 (?_ : WM _ 28 _ _ _ _)
    refine r_aload_n d_Le_append_28 rfl (?_ : WM _ 29 _ _ _ _)
    refine r_getR (k := 9) (j := 2) (q := 12) (by decide) rfl clk_3 (by decide) (qm_1 (i := 85) rfl rfl) rfl d_Le_append_29 (?_ : WM _ 32 _ _ _ _)
    refine r_aload_n d_Le_append_32 rfl (?_ : WM _ 33 _ _ _ _)
    refine r_getI (k := 9) (j := 4) 4 (by decide) rfl clk_3 (by decide) (qm_1 (i := 91) rfl rfl) rfl rfl d_Le_append_33 (y := (σ1 9 4)) ((ups_c (by decide)).trans (ups_c (by decide))) (?_ : WM _ 36 _ _ _ _)
    refine r_iload_n d_Le_append_36 rfl (?_ : WM _ 37 _ _ _ _)
    refine r_iast (k := 12) (n := 48) (by decide) rfl d_Le_append_37 h4 h5 (?_ : WM _ 38 _ _ _ _)
    refine r_aload_n d_Le_append_38 rfl (?_ : WM _ 39 _ _ _ _)
    refine r_getR (k := 9) (j := 3) (q := 13) (by decide) rfl clk_3 (by decide) (qm_1 (i := 87) rfl rfl) rfl d_Le_append_39 (?_ : WM _ 42 _ _ _ _)
    refine r_aload_n d_Le_append_42 rfl (?_ : WM _ 43 _ _ _ _)
    refine r_getI (k := 9) (j := 4) 4 (by decide) rfl clk_3 (by decide) (qm_1 (i := 91) rfl rfl) rfl rfl d_Le_append_43 (y := (σ1 9 4)) ((ups_c (by decide)).trans ((ups_c (by decide)).trans (ups_c (by decide)))) (?_ : WM _ 46 _ _ _ _)
    refine r_iconst d_Le_append_46 (by decide) (?_ : WM _ 47 _ _ _ _)
    refine r_iast (k := 13) (n := 48) (by decide) rfl d_Le_append_47 h4 h5 (?_ : WM _ 48 _ _ _ _)
    refine r_aload_n d_Le_append_48 rfl (?_ : WM _ 49 _ _ _ _)
    refine r_dup d_Le_append_49 rfl (?_ : WM _ 50 _ _ _ _)
    refine r_getI (k := 9) (j := 4) 4 (by decide) rfl clk_3 (by decide) (qm_1 (i := 91) rfl rfl) rfl rfl d_Le_append_50 (y := (σ1 9 4)) ((ups_c (by decide)).trans ((ups_c (by decide)).trans ((ups_c (by decide)).trans (ups_c (by decide))))) (?_ : WM _ 53 _ _ _ _)
    refine r_iconst d_Le_append_53 (by decide) (?_ : WM _ 54 _ _ _ _)
    obtain ⟨h6, h⟩ := h
    refine r_iadd d_Le_append_54 h6 (?_ : WM _ 55 _ _ _ _)
    refine r_put (k := 9) (j := 4) 4 (by decide) rfl clk_3 (by decide) (qm_1 (i := 91) rfl rfl) rfl rfl rfl tyX3_ok rfl nmX3 d_Le_append_55 (?_ : WM _ 58 _ _ _ _)
    exact r_return rfl d_Le_append_58 h
  · replace h := h.2 c3
    exact r_return rfl d_Le_append_7 h
set_option maxRecDepth 20000 in
theorem e_Sg_length_63 {K : Int → St → Prop} {σ : St}  (h : CI M_Sg_coder [vR 63] σ (fun v2 σ1 => (0 ≤ v2) ∧ (v2 < 32) ∧ (inR (5 / 2 ^ v2.toNat)) ∧ K (5 / 2 ^ v2.toNat) σ1)) : CI M_Sg_length [vR 63] σ K := by
  refine Con.of ok_M_Sg_length (ls := [(0, vR 63)]) rfl (Nat.le_of_ble_eq_true rfl) ?_
  refine r_aload_n d_Sg_length_0 rfl (?_ : WM _ 1 _ _ _ _)
  refine r_getE (v := vR 65) (fun _ _ _ _ h => (h.2.2.2.2.1.1 1 (by decide)).2.2.1) trivial (qm_4 (i := 224) rfl rfl) d_Sg_length_1 (?_ : WM _ 4 _ _ _ _)
  refine r_talen 5 (fun _ _ _ _ h => (h.2.2.2.2.1.1 1 (by decide)).2.2.2) rfl (by decide) d_Sg_length_4 (?_ : WM _ 5 _ _ _ _)
  refine r_aload_n d_Sg_length_5 rfl (?_ : WM _ 6 _ _ _ _)
  refine r_callT (ν := M_Sg_coder) (j := 1) [] ok_M_Sg_coder okv_M_Sg_coder (by decide) rfl (qm_4 (i := 61) rfl rfl) np_M_Sg_coder rfl (by decide) (Nat.le_of_ble_eq_true rfl) rfl d_Sg_length_6 (CI.k h (fun v2 σ1 h => (?_ : WM _ 9 _ _ _ _)))
  obtain ⟨h3, h⟩ := h
  obtain ⟨h4, h⟩ := h
  obtain ⟨h5, h⟩ := h
  refine r_ishr d_Sg_length_9 h3 h4 h5 (?_ : WM _ 10 _ _ _ _)
  exact r_ireturn rfl d_Sg_length_10 h
set_option maxRecDepth 20000 in
theorem e_Sg_charAt_63 {K : Int → St → Prop} {σ : St} (x1 : Int) (h : CI M_Sg_isLatin1 [vR 63] σ (fun v2 σ1 => (v2 = 0 → CI M_Su_charAt [vR 65, vI x1] σ1 (fun v5 σ4 => (0 ≤ v5) ∧ (v5 < 65536) ∧ K v5 σ4)) ∧ (¬ v2 = 0 → CI M_Sl_charAt [vR 65, vI x1] σ1 (fun v9 σ8 => (0 ≤ v9) ∧ (v9 < 65536) ∧ K v9 σ8)))) : CI M_Sg_charAt [vR 63, vI x1] σ K := by
  refine Con.of ok_M_Sg_charAt (ls := [(0, vR 63), (1, vI x1)]) rfl (Nat.le_of_ble_eq_true rfl) ?_
  refine r_aload_n d_Sg_charAt_0 rfl (?_ : WM _ 1 _ _ _ _)
  refine r_callT (ν := M_Sg_isLatin1) (j := 1) [] ok_M_Sg_isLatin1 okv_M_Sg_isLatin1 (by decide) rfl (qm_5 (i := 35) rfl rfl) np_M_Sg_isLatin1 rfl (by decide) (Nat.le_of_ble_eq_true rfl) rfl d_Sg_charAt_1 (CI.k h (fun v2 σ1 h => (?_ : WM _ 4 _ _ _ _)))
  refine r_if_eq 16 d_Sg_charAt_4 rfl ⟨fun c3 => (?_ : WM _ 16 _ _ _ _), fun c3 => (?_ : WM _ 7 _ _ _ _)⟩
  · replace h := h.1 c3
    refine r_aload_n d_Sg_charAt_16 rfl (?_ : WM _ 17 _ _ _ _)
    refine r_getE (v := vR 65) (fun _ _ _ _ h => (h.2.2.2.2.1.1 1 (by decide)).2.2.1) trivial (qm_4 (i := 224) rfl rfl) d_Sg_charAt_17 (?_ : WM _ 20 _ _ _ _)
    refine r_iload_n d_Sg_charAt_20 rfl (?_ : WM _ 21 _ _ _ _)
    refine r_callS (ν := M_Su_charAt) [vR 65, vI x1] ok_M_Su_charAt oks_M_Su_charAt (qm_5 (i := 43) rfl rfl) np_M_Su_charAt rfl (by decide) (Nat.le_of_ble_eq_true rfl) rfl d_Sg_charAt_21 (CI.k h (fun v5 σ4 h => (?_ : WM _ 24 _ _ _ _)))
    obtain ⟨h6, h⟩ := h
    obtain ⟨h7, h⟩ := h
    exact r_creturn rfl d_Sg_charAt_24 h6 h7 h
  · replace h := h.2 c3
    refine r_aload_n d_Sg_charAt_7 rfl (?_ : WM _ 8 _ _ _ _)
    refine r_getE (v := vR 65) (fun _ _ _ _ h => (h.2.2.2.2.1.1 1 (by decide)).2.2.1) trivial (qm_4 (i := 224) rfl rfl) d_Sg_charAt_8 (?_ : WM _ 11 _ _ _ _)
    refine r_iload_n d_Sg_charAt_11 rfl (?_ : WM _ 12 _ _ _ _)
    refine r_callS (ν := M_Sl_charAt) [vR 65, vI x1] ok_M_Sl_charAt oks_M_Sl_charAt (qm_5 (i := 39) rfl rfl) np_M_Sl_charAt rfl (by decide) (Nat.le_of_ble_eq_true rfl) rfl d_Sg_charAt_12 (CI.k h (fun v9 σ8 h => (?_ : WM _ 15 _ _ _ _)))
    obtain ⟨h10, h⟩ := h
    obtain ⟨h11, h⟩ := h
    exact r_creturn rfl d_Sg_charAt_15 h10 h11 h
set_option maxRecDepth 20000 in
theorem e_Le_coinsOf_9 {K : Int → St → Prop} {σ : St} (x1 : Int) (h : CI M_Le_holds [vR 9, vI x1] σ (fun v2 σ1 => (v2 = 0 → K 0 σ1) ∧ (¬ v2 = 0 → (0 ≤ x1) ∧ (x1 < 48) ∧ CI M_Ma_max [vI (σ1 12 x1), vI 0] σ1 (fun v7 σ6 => K v7 σ6)))) : CI M_Le_coinsOf [vR 9, vI x1] σ K := by
  refine Con.of ok_M_Le_coinsOf (ls := [(0, vR 9), (1, vI x1)]) rfl (Nat.le_of_ble_eq_true rfl) ?_
  refine r_aload_n d_Le_coinsOf_0 rfl (?_ : WM _ 1 _ _ _ _)
  refine r_iload_n d_Le_coinsOf_1 rfl (?_ : WM _ 2 _ _ _ _)
  refine r_callV (ν := M_Le_holds) (k := 9) [vI x1] ok_M_Le_holds okv_M_Le_holds (by decide) rfl rfl rfl (qm_5 (i := 85) rfl rfl) np_M_Le_holds rfl (by decide) (Nat.le_of_ble_eq_true rfl) rfl d_Le_coinsOf_2 (CI.k h (fun v2 σ1 h => (?_ : WM _ 5 _ _ _ _)))
  refine r_if_eq 21 d_Le_coinsOf_5 rfl ⟨fun c3 => (?_ : WM _ 21 _ _ _ _), fun c3 => (?_ : WM _ 8 _ _ _ _)⟩
  · replace h := h.1 c3
    refine r_iconst d_Le_coinsOf_21 (by decide) (?_ : WM _ 22 _ _ _ _)
    exact r_ireturn rfl d_Le_coinsOf_22 h
  · replace h := h.2 c3
    refine r_aload_n d_Le_coinsOf_8 rfl (?_ : WM _ 9 _ _ _ _)
    refine r_getR (k := 9) (j := 2) (q := 12) (by decide) rfl clk_3 (by decide) (qm_1 (i := 85) rfl rfl) rfl d_Le_coinsOf_9 (?_ : WM _ 12 _ _ _ _)
    refine r_iload_n d_Le_coinsOf_12 rfl (?_ : WM _ 13 _ _ _ _)
    obtain ⟨h4, h⟩ := h
    obtain ⟨h5, h⟩ := h
    refine r_iald (k := 12) (n := 48) (by decide) rfl d_Le_coinsOf_13 h4 h5 (y := (σ1 12 x1)) rfl (?_ : WM _ 14 _ _ _ _)
    refine r_iconst d_Le_coinsOf_14 (by decide) (?_ : WM _ 15 _ _ _ _)
    refine r_callS (ν := M_Ma_max) [vI (σ1 12 x1), vI 0] ok_M_Ma_max oks_M_Ma_max (qm_5 (i := 89) rfl rfl) np_M_Ma_max rfl (by decide) (Nat.le_of_ble_eq_true rfl) rfl d_Le_coinsOf_15 (CI.k h (fun v7 σ6 h => (?_ : WM _ 18 _ _ _ _)))
    refine r_goto 22 d_Le_coinsOf_18 rfl ?_
    exact r_ireturn rfl d_Le_coinsOf_22 h
set_option maxRecDepth 20000 in
theorem e_Le_mayBeWorth_9 {K : Int → St → Prop} {σ : St} (x1 : Int) (x2 : Int) (h : CI M_Le_holds [vR 9, vI x1] σ (fun v2 σ1 => (v2 = 0 → K 0 σ1) ∧ (¬ v2 = 0 → (x2 < 0 → K 0 σ1) ∧ (¬ x2 < 0 → (0 ≤ x1) ∧ (x1 < 48) ∧ (inR (2 * (σ1 12 x1))) ∧ ((2 * (σ1 12 x1)) < x2 → K 0 σ1) ∧ (¬ (2 * (σ1 12 x1)) < x2 → K 1 σ1))))) : CI M_Le_mayBeWorth [vR 9, vI x1, vI x2] σ K := by
  refine Con.of ok_M_Le_mayBeWorth (ls := [(0, vR 9), (1, vI x1), (2, vI x2)]) rfl (Nat.le_of_ble_eq_true rfl) ?_
  refine r_aload_n d_Le_mayBeWorth_0 rfl (?_ : WM _ 1 _ _ _ _)
  refine r_iload_n d_Le_mayBeWorth_1 rfl (?_ : WM _ 2 _ _ _ _)
  refine r_callV (ν := M_Le_holds) (k := 9) [vI x1] ok_M_Le_holds okv_M_Le_holds (by decide) rfl rfl rfl (qm_5 (i := 85) rfl rfl) np_M_Le_holds rfl (by decide) (Nat.le_of_ble_eq_true rfl) rfl d_Le_mayBeWorth_2 (CI.k h (fun v2 σ1 h => (?_ : WM _ 5 _ _ _ _)))
  refine r_if_eq 28 d_Le_mayBeWorth_5 rfl ⟨fun c3 => (?_ : WM _ 28 _ _ _ _), fun c3 => (?_ : WM _ 8 _ _ _ _)⟩
  · replace h := h.1 c3
    refine r_iconst d_Le_mayBeWorth_28 (by decide) (?_ : WM _ 29 _ _ _ _)
    exact r_zreturn rfl d_Le_mayBeWorth_29 (by decide) h
  · replace h := h.2 c3
    refine r_iload_n d_Le_mayBeWorth_8 rfl (?_ : WM _ 9 _ _ _ _)
    refine r_if_lt 28 d_Le_mayBeWorth_9 rfl ⟨fun c4 => (?_ : WM _ 28 _ _ _ _), fun c4 => (?_ : WM _ 12 _ _ _ _)⟩
    · replace h := h.1 c4
      refine r_iconst d_Le_mayBeWorth_28 (by decide) (?_ : WM _ 29 _ _ _ _)
      exact r_zreturn rfl d_Le_mayBeWorth_29 (by decide) h
    · replace h := h.2 c4
      refine r_iload_n d_Le_mayBeWorth_12 rfl (?_ : WM _ 13 _ _ _ _)
      refine r_iconst d_Le_mayBeWorth_13 (by decide) (?_ : WM _ 14 _ _ _ _)
      refine r_aload_n d_Le_mayBeWorth_14 rfl (?_ : WM _ 15 _ _ _ _)
      refine r_getR (k := 9) (j := 2) (q := 12) (by decide) rfl clk_3 (by decide) (qm_1 (i := 85) rfl rfl) rfl d_Le_mayBeWorth_15 (?_ : WM _ 18 _ _ _ _)
      refine r_iload_n d_Le_mayBeWorth_18 rfl (?_ : WM _ 19 _ _ _ _)
      obtain ⟨h5, h⟩ := h
      obtain ⟨h6, h⟩ := h
      refine r_iald (k := 12) (n := 48) (by decide) rfl d_Le_mayBeWorth_19 h5 h6 (y := (σ1 12 x1)) rfl (?_ : WM _ 20 _ _ _ _)
      obtain ⟨h7, h⟩ := h
      refine r_imul d_Le_mayBeWorth_20 h7 (?_ : WM _ 21 _ _ _ _)
      refine r_icmp_gt 28 d_Le_mayBeWorth_21 rfl ⟨fun c8 => (?_ : WM _ 28 _ _ _ _), fun c8 => (?_ : WM _ 24 _ _ _ _)⟩
      · replace h := h.1 c8
        refine r_iconst d_Le_mayBeWorth_28 (by decide) (?_ : WM _ 29 _ _ _ _)
        exact r_zreturn rfl d_Le_mayBeWorth_29 (by decide) h
      · replace h := h.2 c8
        refine r_iconst d_Le_mayBeWorth_24 (by decide) (?_ : WM _ 25 _ _ _ _)
        refine r_goto 29 d_Le_mayBeWorth_25 rfl ?_
        exact r_zreturn rfl d_Le_mayBeWorth_29 (by decide) h
set_option maxRecDepth 20000 in
theorem e_Sg_coder_62 {K : Int → St → Prop} {σ : St}  (h : K 0 σ) : CI M_Sg_coder [vR 62] σ K := by
  refine Con.of ok_M_Sg_coder (ls := [(0, vR 62)]) rfl (Nat.le_of_ble_eq_true rfl) ?_
  refine r_getsI 1 (fun _ _ _ _ h => h.2.2.2.2.2.2.2.1) (by decide) (by decide) (qm_4 (i := 65) rfl rfl) d_Sg_coder_0 (?_ : WM _ 3 _ _ _ _)
  refine r_if_eq 13 d_Sg_coder_3 rfl ⟨fun hc => absurd hc (by decide), fun hc => (?_ : WM _ 6 _ _ _ _)⟩
  refine r_aload_n d_Sg_coder_6 rfl (?_ : WM _ 7 _ _ _ _)
  refine r_getE (v := vI 0) (fun _ _ _ _ h => (h.2.2.2.2.1.1 0 (by decide)).2.1) (show inR 0 by decide) (qm_4 (i := 225) rfl rfl) d_Sg_coder_7 (?_ : WM _ 10 _ _ _ _)
  refine r_goto 14 d_Sg_coder_10 rfl ?_
  exact r_breturn rfl d_Sg_coder_14 (by decide) (by decide) h
set_option maxRecDepth 20000 in
theorem e_Sg_isLatin1_62 {K : Int → St → Prop} {σ : St}  (h : K 1 σ) : CI M_Sg_isLatin1 [vR 62] σ K := by
  refine Con.of ok_M_Sg_isLatin1 (ls := [(0, vR 62)]) rfl (Nat.le_of_ble_eq_true rfl) ?_
  refine r_getsI 1 (fun _ _ _ _ h => h.2.2.2.2.2.2.2.1) (by decide) (by decide) (qm_4 (i := 65) rfl rfl) d_Sg_isLatin1_0 (?_ : WM _ 3 _ _ _ _)
  refine r_if_eq 17 d_Sg_isLatin1_3 rfl ⟨fun hc => absurd hc (by decide), fun hc => (?_ : WM _ 6 _ _ _ _)⟩
  refine r_aload_n d_Sg_isLatin1_6 rfl (?_ : WM _ 7 _ _ _ _)
  refine r_getE (v := vI 0) (fun _ _ _ _ h => (h.2.2.2.2.1.1 0 (by decide)).2.1) (show inR 0 by decide) (qm_4 (i := 225) rfl rfl) d_Sg_isLatin1_7 (?_ : WM _ 10 _ _ _ _)
  refine r_if_ne 17 d_Sg_isLatin1_10 rfl ⟨fun hc => absurd hc (by decide), fun hc => (?_ : WM _ 13 _ _ _ _)⟩
  refine r_iconst d_Sg_isLatin1_13 (by decide) (?_ : WM _ 14 _ _ _ _)
  refine r_goto 18 d_Sg_isLatin1_14 rfl ?_
  exact r_zreturn rfl d_Sg_isLatin1_18 (by decide) h
set_option maxRecDepth 20000 in
theorem e_Sl_charAt_64 {K : Int → St → Prop} {σ : St} (x1 : Int) (h : CV M_Sg_checkIndex [vI x1, vI 4] σ (fun σ1 => (0 ≤ x1) ∧ (x1 < 4) ∧ (0 ≤ (((chq0 x1) % 256) % 65536)) ∧ ((((chq0 x1) % 256) % 65536) < 65536) ∧ K (((chq0 x1) % 256) % 65536) σ1)) : CI M_Sl_charAt [vR 64, vI x1] σ K := by
  refine Con.of ok_M_Sl_charAt (ls := [(0, vR 64), (1, vI x1)]) rfl (Nat.le_of_ble_eq_true rfl) ?_
  refine r_iload_n d_Sl_charAt_0 rfl (?_ : WM _ 1 _ _ _ _)
  refine r_aload_n d_Sl_charAt_1 rfl (?_ : WM _ 2 _ _ _ _)
  refine r_talen 4 (fun _ _ _ _ h => (h.2.2.2.2.1.1 0 (by decide)).2.2.2) rfl (by decide) d_Sl_charAt_2 (?_ : WM _ 3 _ _ _ _)
  refine r_callS (ν := M_Sg_checkIndex) [vI x1, vI 4] ok_M_Sg_checkIndex oks_M_Sg_checkIndex (qm_5 (i := 42) rfl rfl) np_M_Sg_checkIndex rfl (by decide) (Nat.le_of_ble_eq_true rfl) rfl d_Sl_charAt_3 (CV.k h (fun σ1 h => (?_ : WM _ 6 _ _ _ _)))
  refine r_aload_n d_Sl_charAt_6 rfl (?_ : WM _ 7 _ _ _ _)
  refine r_iload_n d_Sl_charAt_7 rfl (?_ : WM _ 8 _ _ _ _)
  obtain ⟨h3, h⟩ := h
  obtain ⟨h4, h⟩ := h
  refine r_tbald (q := 64) (n := 4) (f := chq0) chq0_T chq0_in d_Sl_charAt_8 h3 h4 (?_ : WM _ 9 _ _ _ _)
  refine r_sipush d_Sl_charAt_9 (by decide) (by decide) (?_ : WM _ 12 _ _ _ _)
  refine r_iand255 d_Sl_charAt_12 (?_ : WM _ 13 _ _ _ _)
  refine r_i2c d_Sl_charAt_13 (?_ : WM _ 14 _ _ _ _)
  obtain ⟨h5, h⟩ := h
  obtain ⟨h6, h⟩ := h
  exact r_creturn rfl d_Sl_charAt_14 h5 h6 h
set_option maxRecDepth 20000 in
theorem e_Sg_coder_63 {K : Int → St → Prop} {σ : St}  (h : K 0 σ) : CI M_Sg_coder [vR 63] σ K := by
  refine Con.of ok_M_Sg_coder (ls := [(0, vR 63)]) rfl (Nat.le_of_ble_eq_true rfl) ?_
  refine r_getsI 1 (fun _ _ _ _ h => h.2.2.2.2.2.2.2.1) (by decide) (by decide) (qm_4 (i := 65) rfl rfl) d_Sg_coder_0 (?_ : WM _ 3 _ _ _ _)
  refine r_if_eq 13 d_Sg_coder_3 rfl ⟨fun hc => absurd hc (by decide), fun hc => (?_ : WM _ 6 _ _ _ _)⟩
  refine r_aload_n d_Sg_coder_6 rfl (?_ : WM _ 7 _ _ _ _)
  refine r_getE (v := vI 0) (fun _ _ _ _ h => (h.2.2.2.2.1.1 1 (by decide)).2.1) (show inR 0 by decide) (qm_4 (i := 225) rfl rfl) d_Sg_coder_7 (?_ : WM _ 10 _ _ _ _)
  refine r_goto 14 d_Sg_coder_10 rfl ?_
  exact r_breturn rfl d_Sg_coder_14 (by decide) (by decide) h
set_option maxRecDepth 20000 in
theorem e_Sg_isLatin1_63 {K : Int → St → Prop} {σ : St}  (h : K 1 σ) : CI M_Sg_isLatin1 [vR 63] σ K := by
  refine Con.of ok_M_Sg_isLatin1 (ls := [(0, vR 63)]) rfl (Nat.le_of_ble_eq_true rfl) ?_
  refine r_getsI 1 (fun _ _ _ _ h => h.2.2.2.2.2.2.2.1) (by decide) (by decide) (qm_4 (i := 65) rfl rfl) d_Sg_isLatin1_0 (?_ : WM _ 3 _ _ _ _)
  refine r_if_eq 17 d_Sg_isLatin1_3 rfl ⟨fun hc => absurd hc (by decide), fun hc => (?_ : WM _ 6 _ _ _ _)⟩
  refine r_aload_n d_Sg_isLatin1_6 rfl (?_ : WM _ 7 _ _ _ _)
  refine r_getE (v := vI 0) (fun _ _ _ _ h => (h.2.2.2.2.1.1 1 (by decide)).2.1) (show inR 0 by decide) (qm_4 (i := 225) rfl rfl) d_Sg_isLatin1_7 (?_ : WM _ 10 _ _ _ _)
  refine r_if_ne 17 d_Sg_isLatin1_10 rfl ⟨fun hc => absurd hc (by decide), fun hc => (?_ : WM _ 13 _ _ _ _)⟩
  refine r_iconst d_Sg_isLatin1_13 (by decide) (?_ : WM _ 14 _ _ _ _)
  refine r_goto 18 d_Sg_isLatin1_14 rfl ?_
  exact r_zreturn rfl d_Sg_isLatin1_18 (by decide) h
set_option maxRecDepth 20000 in
theorem e_Sl_charAt_65 {K : Int → St → Prop} {σ : St} (x1 : Int) (h : CV M_Sg_checkIndex [vI x1, vI 5] σ (fun σ1 => (0 ≤ x1) ∧ (x1 < 5) ∧ (0 ≤ (((chq1 x1) % 256) % 65536)) ∧ ((((chq1 x1) % 256) % 65536) < 65536) ∧ K (((chq1 x1) % 256) % 65536) σ1)) : CI M_Sl_charAt [vR 65, vI x1] σ K := by
  refine Con.of ok_M_Sl_charAt (ls := [(0, vR 65), (1, vI x1)]) rfl (Nat.le_of_ble_eq_true rfl) ?_
  refine r_iload_n d_Sl_charAt_0 rfl (?_ : WM _ 1 _ _ _ _)
  refine r_aload_n d_Sl_charAt_1 rfl (?_ : WM _ 2 _ _ _ _)
  refine r_talen 5 (fun _ _ _ _ h => (h.2.2.2.2.1.1 1 (by decide)).2.2.2) rfl (by decide) d_Sl_charAt_2 (?_ : WM _ 3 _ _ _ _)
  refine r_callS (ν := M_Sg_checkIndex) [vI x1, vI 5] ok_M_Sg_checkIndex oks_M_Sg_checkIndex (qm_5 (i := 42) rfl rfl) np_M_Sg_checkIndex rfl (by decide) (Nat.le_of_ble_eq_true rfl) rfl d_Sl_charAt_3 (CV.k h (fun σ1 h => (?_ : WM _ 6 _ _ _ _)))
  refine r_aload_n d_Sl_charAt_6 rfl (?_ : WM _ 7 _ _ _ _)
  refine r_iload_n d_Sl_charAt_7 rfl (?_ : WM _ 8 _ _ _ _)
  obtain ⟨h3, h⟩ := h
  obtain ⟨h4, h⟩ := h
  refine r_tbald (q := 65) (n := 5) (f := chq1) chq1_T chq1_in d_Sl_charAt_8 h3 h4 (?_ : WM _ 9 _ _ _ _)
  refine r_sipush d_Sl_charAt_9 (by decide) (by decide) (?_ : WM _ 12 _ _ _ _)
  refine r_iand255 d_Sl_charAt_12 (?_ : WM _ 13 _ _ _ _)
  refine r_i2c d_Sl_charAt_13 (?_ : WM _ 14 _ _ _ _)
  obtain ⟨h5, h⟩ := h
  obtain ⟨h6, h⟩ := h
  exact r_creturn rfl d_Sl_charAt_14 h5 h6 h
set_option maxRecDepth 20000 in
theorem e_Le_holds_9 {K : Int → St → Prop} {σ : St} (x1 : Int) (h : (x1 < 0 → K 0 σ) ∧ (¬ x1 < 0 → ((σ 9 4) ≤ x1 → K 0 σ) ∧ (¬ (σ 9 4) ≤ x1 → K 1 σ))) : CI M_Le_holds [vR 9, vI x1] σ K := by
  refine Con.of ok_M_Le_holds (ls := [(0, vR 9), (1, vI x1)]) rfl (Nat.le_of_ble_eq_true rfl) ?_
  refine r_iload_n d_Le_holds_0 rfl (?_ : WM _ 1 _ _ _ _)
  refine r_if_lt 16 d_Le_holds_1 rfl ⟨fun c1 => (?_ : WM _ 16 _ _ _ _), fun c1 => (?_ : WM _ 4 _ _ _ _)⟩
  · replace h := h.1 c1
    refine r_iconst d_Le_holds_16 (by decide) (?_ : WM _ 17 _ _ _ _)
    exact r_zreturn rfl d_Le_holds_17 (by decide) h
  · replace h := h.2 c1
    refine r_iload_n d_Le_holds_4 rfl (?_ : WM _ 5 _ _ _ _)
    refine r_aload_n d_Le_holds_5 rfl (?_ : WM _ 6 _ _ _ _)
    refine r_getI (k := 9) (j := 4) 4 (by decide) rfl clk_3 (by decide) (qm_1 (i := 91) rfl rfl) rfl rfl d_Le_holds_6 (y := (σ 9 4)) rfl (?_ : WM _ 9 _ _ _ _)
    refine r_icmp_ge 16 d_Le_holds_9 rfl ⟨fun c2 => (?_ : WM _ 16 _ _ _ _), fun c2 => (?_ : WM _ 12 _ _ _ _)⟩
    · replace h := h.1 c2
      refine r_iconst d_Le_holds_16 (by decide) (?_ : WM _ 17 _ _ _ _)
      exact r_zreturn rfl d_Le_holds_17 (by decide) h
    · replace h := h.2 c2
      refine r_iconst d_Le_holds_12 (by decide) (?_ : WM _ 13 _ _ _ _)
      refine r_goto 17 d_Le_holds_13 rfl ?_
      exact r_zreturn rfl d_Le_holds_17 (by decide) h
set_option maxRecDepth 20000 in
theorem e_Sg_checkIndex {K : St → Prop} {σ : St} (x0 : Int) (x1 : Int) (h : ∀ o1 : Value, o1.category = 1 → CI M_Pc_checkIndex [vI x0, vI x1, vO o1] σ (fun v3 σ2 => K σ2)) : CV M_Sg_checkIndex [vI x0, vI x1] σ K := by
  refine Con.of ok_M_Sg_checkIndex (ls := [(0, vI x0), (1, vI x1)]) rfl (Nat.le_of_ble_eq_true rfl) ?_
  refine r_iload_n d_Sg_checkIndex_0 rfl (?_ : WM _ 1 _ _ _ _)
  refine r_iload_n d_Sg_checkIndex_1 rfl (?_ : WM _ 2 _ _ _ _)
  refine r_getsO (fun _ _ _ _ h => h.2.2.2.2.2.2.2.2) (qm_4 (i := 43) rfl rfl) d_Sg_checkIndex_2 (fun o1 hco1 => (?_ : WM _ 5 _ _ _ _))
  replace h := h o1 hco1
  refine r_callS (ν := M_Pc_checkIndex) [vI x0, vI x1, vO o1] ok_M_Pc_checkIndex oks_M_Pc_checkIndex (qm_4 (i := 144) rfl rfl) np_M_Pc_checkIndex rfl (by decide) (Nat.le_of_ble_eq_true rfl) rfl d_Sg_checkIndex_5 (CI.k h (fun v3 σ2 h => (?_ : WM _ 8 _ _ _ _)))
  refine r_pop d_Sg_checkIndex_8 rfl (?_ : WM _ 9 _ _ _ _)
  exact r_return rfl d_Sg_checkIndex_9 h
set_option maxRecDepth 20000 in
theorem e_Pc_checkIndex {K : Int → St → Prop} {σ : St} (x0 : Int) (x1 : Int) (oo : Value) (h : (x0 < 0 → False) ∧ (¬ x0 < 0 → (x0 < x1 → K x0 σ) ∧ (¬ x0 < x1 → False))) : CI M_Pc_checkIndex [vI x0, vI x1, vO oo] σ K := by
  refine Con.of ok_M_Pc_checkIndex (ls := [(0, vI x0), (1, vI x1), (2, vO oo)]) rfl (Nat.le_of_ble_eq_true rfl) ?_
  refine r_iload_n d_Pc_checkIndex_0 rfl (?_ : WM _ 1 _ _ _ _)
  refine r_if_lt 9 d_Pc_checkIndex_1 rfl ⟨fun c1 => (?_ : WM _ 9 _ _ _ _), fun c1 => (?_ : WM _ 4 _ _ _ _)⟩
  · replace h := h.1 c1
    exact h.elim
  · replace h := h.2 c1
    refine r_iload_n d_Pc_checkIndex_4 rfl (?_ : WM _ 5 _ _ _ _)
    refine r_iload_n d_Pc_checkIndex_5 rfl (?_ : WM _ 6 _ _ _ _)
    refine r_icmp_lt 16 d_Pc_checkIndex_6 rfl ⟨fun c2 => (?_ : WM _ 16 _ _ _ _), fun c2 => (?_ : WM _ 9 _ _ _ _)⟩
    · replace h := h.1 c2
      refine r_iload_n d_Pc_checkIndex_16 rfl (?_ : WM _ 17 _ _ _ _)
      exact r_ireturn rfl d_Pc_checkIndex_17 h
    · replace h := h.2 c2
      exact h.elim
