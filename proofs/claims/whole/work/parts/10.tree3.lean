-- what each stretch of a method asks (printed by wip/gen/gen_out.py)
set_option maxRecDepth 20000 in
theorem e_Mo_feed {K : Int → St → Prop} {σ : St} (x1 : Int) (x2 : Int) (x3 : Int) (x4 : Int) (x5 : Int) (h : (inR ((σ 35 13) + 20)) ∧ (((σ 35 13) + 20) ≤ 900 → WM M_Mo_feed 24 [(0, vR 35), (1, vI x1), (2, vI x2), (3, vI x3), (4, vI x4), (5, vI x5), (6, vI 0)] [] (ups σ 35 0 0) (QI K)) ∧ (¬ ((σ 35 13) + 20) ≤ 900 → K (-4) (ups σ 35 0 0))) : CI M_Mo_feed [vR 35, vI x1, vI x2, vI x3, vI x4, vI x5] σ K := by
  refine Con.of ok_M_Mo_feed (ls := [(0, vR 35), (1, vI x1), (2, vI x2), (3, vI x3), (4, vI x4), (5, vI x5)]) rfl (Nat.le_of_ble_eq_true rfl) ?_
  refine r_aload_n d_Mo_feed_0 rfl (?_ : WM _ 1 _ _ _ _)
  refine r_iconst d_Mo_feed_1 (by decide) (?_ : WM _ 2 _ _ _ _)
  refine r_put (k := 35) (j := 0) 0 (by decide) rfl clk_11 (by decide) (qm_5 (i := 36) rfl rfl) rfl rfl rfl tyX11_ok rfl nmX11 d_Mo_feed_2 (?_ : WM _ 5 _ _ _ _)
  refine r_aload_n d_Mo_feed_5 rfl (?_ : WM _ 6 _ _ _ _)
  refine r_getI (k := 35) (j := 13) 13 (by decide) rfl clk_11 (by decide) (qm_5 (i := 49) rfl rfl) rfl rfl d_Mo_feed_6 (y := (σ 35 13)) (ups_f (by decide)) (?_ : WM _ 9 _ _ _ _)
  refine r_bipush d_Mo_feed_9 (by decide) (by decide) (?_ : WM _ 11 _ _ _ _)
  obtain ⟨h1, h⟩ := h
  refine r_iadd d_Mo_feed_11 h1 (?_ : WM _ 12 _ _ _ _)
  refine r_sipush d_Mo_feed_12 (by decide) (by decide) (?_ : WM _ 15 _ _ _ _)
  refine r_icmp_le 21 d_Mo_feed_15 rfl ⟨fun c2 => (?_ : WM _ 21 _ _ _ _), fun c2 => (?_ : WM _ 18 _ _ _ _)⟩
  · replace h := h.1 c2
    refine r_iconst d_Mo_feed_21 (by decide) (?_ : WM _ 22 _ _ _ _)
    refine r_istore (ls' := [(6, vI 0), (0, vR 35), (1, vI x1), (2, vI x2), (3, vI x3), (4, vI x4), (5, vI x5)]) d_Mo_feed_22 (by decide) rfl (?_ : WM _ 24 _ _ _ _)
    refine r_pick (ls' := [(0, vR 35), (1, vI x1), (2, vI x2), (3, vI x3), (4, vI x4), (5, vI x5), (6, vI 0)]) [1, 2, 3, 4, 5, 6, 0] rfl ?_
    exact h
  · replace h := h.2 c2
    refine r_bipush d_Mo_feed_18 (by decide) (by decide) (?_ : WM _ 20 _ _ _ _)
    exact r_ireturn rfl d_Mo_feed_20 h
set_option maxRecDepth 20000 in
theorem l_Mo_feed_1 {K : Int → St → Prop} {σ : St} (x1 : Int) (x2 : Int) (x3 : Int) (x4 : Int) (x5 : Int) (x6 : Int) (h : (20 ≤ x6 → K (σ 35 13) σ) ∧ (¬ 20 ≤ x6 → (4 ≤ x6 → (8 ≤ x6 → (12 ≤ x6 → (16 ≤ x6 → (0 ≤ x6) ∧ (inR (8 * (x6 % 4))) ∧ (inR (24 - (8 * (x6 % 4)))) ∧ (0 ≤ (24 - (8 * (x6 % 4)))) ∧ ((24 - (8 * (x6 % 4))) < 32) ∧ (inR (x5 / 2 ^ (24 - (8 * (x6 % 4))).toNat)) ∧ (0 ≤ (σ 35 13)) ∧ ((σ 35 13) < 900) ∧ (-128 ≤ (((x5 / 2 ^ (24 - (8 * (x6 % 4))).toNat) + 128) % 256 - 128)) ∧ ((((x5 / 2 ^ (24 - (8 * (x6 % 4))).toNat) + 128) % 256 - 128) ≤ 127) ∧ (inR ((σ 35 13) + 1)) ∧ (inR (x6 + 1)) ∧ WM M_Mo_feed 24 [(0, vR 35), (1, vI x1), (2, vI x2), (3, vI x3), (4, vI x4), (5, vI x5), (6, vI (x6 + 1))] [] (ups (ups σ 42 (σ 35 13) (((x5 / 2 ^ (24 - (8 * (x6 % 4))).toNat) + 128) % 256 - 128)) 35 13 ((σ 35 13) + 1)) (QI K)) ∧ (¬ 16 ≤ x6 → (0 ≤ x6) ∧ (inR (8 * (x6 % 4))) ∧ (inR (24 - (8 * (x6 % 4)))) ∧ (0 ≤ (24 - (8 * (x6 % 4)))) ∧ ((24 - (8 * (x6 % 4))) < 32) ∧ (inR (x4 / 2 ^ (24 - (8 * (x6 % 4))).toNat)) ∧ (0 ≤ (σ 35 13)) ∧ ((σ 35 13) < 900) ∧ (-128 ≤ (((x4 / 2 ^ (24 - (8 * (x6 % 4))).toNat) + 128) % 256 - 128)) ∧ ((((x4 / 2 ^ (24 - (8 * (x6 % 4))).toNat) + 128) % 256 - 128) ≤ 127) ∧ (inR ((σ 35 13) + 1)) ∧ (inR (x6 + 1)) ∧ WM M_Mo_feed 24 [(0, vR 35), (1, vI x1), (2, vI x2), (3, vI x3), (4, vI x4), (5, vI x5), (6, vI (x6 + 1))] [] (ups (ups σ 42 (σ 35 13) (((x4 / 2 ^ (24 - (8 * (x6 % 4))).toNat) + 128) % 256 - 128)) 35 13 ((σ 35 13) + 1)) (QI K))) ∧ (¬ 12 ≤ x6 → (0 ≤ x6) ∧ (inR (8 * (x6 % 4))) ∧ (inR (24 - (8 * (x6 % 4)))) ∧ (0 ≤ (24 - (8 * (x6 % 4)))) ∧ ((24 - (8 * (x6 % 4))) < 32) ∧ (inR (x3 / 2 ^ (24 - (8 * (x6 % 4))).toNat)) ∧ (0 ≤ (σ 35 13)) ∧ ((σ 35 13) < 900) ∧ (-128 ≤ (((x3 / 2 ^ (24 - (8 * (x6 % 4))).toNat) + 128) % 256 - 128)) ∧ ((((x3 / 2 ^ (24 - (8 * (x6 % 4))).toNat) + 128) % 256 - 128) ≤ 127) ∧ (inR ((σ 35 13) + 1)) ∧ (inR (x6 + 1)) ∧ WM M_Mo_feed 24 [(0, vR 35), (1, vI x1), (2, vI x2), (3, vI x3), (4, vI x4), (5, vI x5), (6, vI (x6 + 1))] [] (ups (ups σ 42 (σ 35 13) (((x3 / 2 ^ (24 - (8 * (x6 % 4))).toNat) + 128) % 256 - 128)) 35 13 ((σ 35 13) + 1)) (QI K))) ∧ (¬ 8 ≤ x6 → (0 ≤ x6) ∧ (inR (8 * (x6 % 4))) ∧ (inR (24 - (8 * (x6 % 4)))) ∧ (0 ≤ (24 - (8 * (x6 % 4)))) ∧ ((24 - (8 * (x6 % 4))) < 32) ∧ (inR (x2 / 2 ^ (24 - (8 * (x6 % 4))).toNat)) ∧ (0 ≤ (σ 35 13)) ∧ ((σ 35 13) < 900) ∧ (-128 ≤ (((x2 / 2 ^ (24 - (8 * (x6 % 4))).toNat) + 128) % 256 - 128)) ∧ ((((x2 / 2 ^ (24 - (8 * (x6 % 4))).toNat) + 128) % 256 - 128) ≤ 127) ∧ (inR ((σ 35 13) + 1)) ∧ (inR (x6 + 1)) ∧ WM M_Mo_feed 24 [(0, vR 35), (1, vI x1), (2, vI x2), (3, vI x3), (4, vI x4), (5, vI x5), (6, vI (x6 + 1))] [] (ups (ups σ 42 (σ 35 13) (((x2 / 2 ^ (24 - (8 * (x6 % 4))).toNat) + 128) % 256 - 128)) 35 13 ((σ 35 13) + 1)) (QI K))) ∧ (¬ 4 ≤ x6 → (0 ≤ x6) ∧ (inR (8 * (x6 % 4))) ∧ (inR (24 - (8 * (x6 % 4)))) ∧ (0 ≤ (24 - (8 * (x6 % 4)))) ∧ ((24 - (8 * (x6 % 4))) < 32) ∧ (inR (x1 / 2 ^ (24 - (8 * (x6 % 4))).toNat)) ∧ (0 ≤ (σ 35 13)) ∧ ((σ 35 13) < 900) ∧ (-128 ≤ (((x1 / 2 ^ (24 - (8 * (x6 % 4))).toNat) + 128) % 256 - 128)) ∧ ((((x1 / 2 ^ (24 - (8 * (x6 % 4))).toNat) + 128) % 256 - 128) ≤ 127) ∧ (inR ((σ 35 13) + 1)) ∧ (inR (x6 + 1)) ∧ WM M_Mo_feed 24 [(0, vR 35), (1, vI x1), (2, vI x2), (3, vI x3), (4, vI x4), (5, vI x5), (6, vI (x6 + 1))] [] (ups (ups σ 42 (σ 35 13) (((x1 / 2 ^ (24 - (8 * (x6 % 4))).toNat) + 128) % 256 - 128)) 35 13 ((σ 35 13) + 1)) (QI K)))) : WM M_Mo_feed 24 [(0, vR 35), (1, vI x1), (2, vI x2), (3, vI x3), (4, vI x4), (5, vI x5), (6, vI x6)] [] σ (QI K) := by
  refine r_iload d_Mo_feed_24 rfl (?_ : WM _ 26 _ _ _ _)
  refine r_bipush d_Mo_feed_26 (by decide) (by decide) (?_ : WM _ 28 _ _ _ _)
  refine r_icmp_ge 118 d_Mo_feed_28 rfl ⟨fun c3 => (?_ : WM _ 118 _ _ _ _), fun c3 => (?_ : WM _ 31 _ _ _ _)⟩
  · replace h := h.1 c3
    refine r_aload_n d_Mo_feed_118 rfl (?_ : WM _ 119 _ _ _ _)
    refine r_getI (k := 35) (j := 13) 13 (by decide) rfl clk_11 (by decide) (qm_5 (i := 49) rfl rfl) rfl rfl d_Mo_feed_119 (y := (σ 35 13)) rfl (?_ : WM _ 122 _ _ _ _)
    exact r_ireturn rfl d_Mo_feed_122 h
  · replace h := h.2 c3
    refine r_iload d_Mo_feed_31 rfl (?_ : WM _ 33 _ _ _ _)
    refine r_iconst d_Mo_feed_33 (by decide) (?_ : WM _ 34 _ _ _ _)
    refine r_icmp_ge 41 d_Mo_feed_34 rfl ⟨fun c4 => (?_ : WM _ 41 _ _ _ _), fun c4 => (?_ : WM _ 37 _ _ _ _)⟩
    · replace h := h.1 c4
      refine r_iload d_Mo_feed_41 rfl (?_ : WM _ 43 _ _ _ _)
      refine r_bipush d_Mo_feed_43 (by decide) (by decide) (?_ : WM _ 45 _ _ _ _)
      refine r_icmp_ge 52 d_Mo_feed_45 rfl ⟨fun c5 => (?_ : WM _ 52 _ _ _ _), fun c5 => (?_ : WM _ 48 _ _ _ _)⟩
      · replace h := h.1 c5
        refine r_iload d_Mo_feed_52 rfl (?_ : WM _ 54 _ _ _ _)
        refine r_bipush d_Mo_feed_54 (by decide) (by decide) (?_ : WM _ 56 _ _ _ _)
        refine r_icmp_ge 63 d_Mo_feed_56 rfl ⟨fun c6 => (?_ : WM _ 63 _ _ _ _), fun c6 => (?_ : WM _ 59 _ _ _ _)⟩
        · replace h := h.1 c6
          refine r_iload d_Mo_feed_63 rfl (?_ : WM _ 65 _ _ _ _)
          refine r_bipush d_Mo_feed_65 (by decide) (by decide) (?_ : WM _ 67 _ _ _ _)
          refine r_icmp_ge 75 d_Mo_feed_67 rfl ⟨fun c7 => (?_ : WM _ 75 _ _ _ _), fun c7 => (?_ : WM _ 70 _ _ _ _)⟩
          · replace h := h.1 c7
            refine r_iload d_Mo_feed_75 rfl (?_ : WM _ 77 _ _ _ _)
            refine r_istore (ls' := [(7, vI x5), (0, vR 35), (1, vI x1), (2, vI x2), (3, vI x3), (4, vI x4), (5, vI x5), (6, vI x6)]) d_Mo_feed_77 (by decide) rfl (?_ : WM _ 79 _ _ _ _)
            refine r_aload_n d_Mo_feed_79 rfl (?_ : WM _ 80 _ _ _ _)
            refine r_getR (k := 35) (j := 12) (q := 42) (by decide) rfl clk_11 (by decide) (qm_5 (i := 48) rfl rfl) rfl d_Mo_feed_80 (?_ : WM _ 83 _ _ _ _)
            refine r_aload_n d_Mo_feed_83 rfl (?_ : WM _ 84 _ _ _ _)
            refine r_getI (k := 35) (j := 13) 13 (by decide) rfl clk_11 (by decide) (qm_5 (i := 49) rfl rfl) rfl rfl d_Mo_feed_84 (y := (σ 35 13)) rfl (?_ : WM _ 87 _ _ _ _)
            refine r_iload d_Mo_feed_87 rfl (?_ : WM _ 89 _ _ _ _)
            refine r_bipush d_Mo_feed_89 (by decide) (by decide) (?_ : WM _ 91 _ _ _ _)
            refine r_bipush d_Mo_feed_91 (by decide) (by decide) (?_ : WM _ 93 _ _ _ _)
            refine r_iload d_Mo_feed_93 rfl (?_ : WM _ 95 _ _ _ _)
            refine r_iconst d_Mo_feed_95 (by decide) (?_ : WM _ 96 _ _ _ _)
            obtain ⟨h8, h⟩ := h
            refine r_iremn d_Mo_feed_96 h8 (by decide) (?_ : WM _ 97 _ _ _ _)
            obtain ⟨h9, h⟩ := h
            refine r_imul d_Mo_feed_97 h9 (?_ : WM _ 98 _ _ _ _)
            obtain ⟨h10, h⟩ := h
            refine r_isub d_Mo_feed_98 h10 (?_ : WM _ 99 _ _ _ _)
            obtain ⟨h11, h⟩ := h
            obtain ⟨h12, h⟩ := h
            obtain ⟨h13, h⟩ := h
            refine r_ishr d_Mo_feed_99 h11 h12 h13 (?_ : WM _ 100 _ _ _ _)
            refine r_i2b d_Mo_feed_100 (?_ : WM _ 101 _ _ _ _)
            obtain ⟨h14, h⟩ := h
            obtain ⟨h15, h⟩ := h
            obtain ⟨h16, h⟩ := h
            obtain ⟨h17, h⟩ := h
            refine r_bast (k := 42) (n := 900) (by decide) rfl d_Mo_feed_101 h14 h15 h16 h17 (?_ : WM _ 102 _ _ _ _)
            refine r_aload_n d_Mo_feed_102 rfl (?_ : WM _ 103 _ _ _ _)
            refine r_dup d_Mo_feed_103 rfl (?_ : WM _ 104 _ _ _ _)
            refine r_getI (k := 35) (j := 13) 13 (by decide) rfl clk_11 (by decide) (qm_5 (i := 49) rfl rfl) rfl rfl d_Mo_feed_104 (y := (σ 35 13)) (ups_c (by decide)) (?_ : WM _ 107 _ _ _ _)
            refine r_iconst d_Mo_feed_107 (by decide) (?_ : WM _ 108 _ _ _ _)
            obtain ⟨h18, h⟩ := h
            refine r_iadd d_Mo_feed_108 h18 (?_ : WM _ 109 _ _ _ _)
            refine r_put (k := 35) (j := 13) 13 (by decide) rfl clk_11 (by decide) (qm_5 (i := 49) rfl rfl) rfl rfl rfl tyX11_ok rfl nmX11 d_Mo_feed_109 (?_ : WM _ 112 _ _ _ _)
            obtain ⟨h19, h⟩ := h
            refine r_iinc (ls' := [(6, vI (x6 + 1)), (7, vI x5), (0, vR 35), (1, vI x1), (2, vI x2), (3, vI x3), (4, vI x4), (5, vI x5)]) d_Mo_feed_112 rfl h19 (by decide) rfl (?_ : WM _ 115 _ _ _ _)
            refine r_goto 24 d_Mo_feed_115 rfl ?_
            refine r_pick (ls' := [(0, vR 35), (1, vI x1), (2, vI x2), (3, vI x3), (4, vI x4), (5, vI x5), (6, vI (x6 + 1))]) [2, 3, 4, 5, 6, 7, 0] rfl ?_
            exact h
          · replace h := h.2 c7
            refine r_iload d_Mo_feed_70 rfl (?_ : WM _ 72 _ _ _ _)
            refine r_goto 77 d_Mo_feed_72 rfl ?_
            refine r_istore (ls' := [(7, vI x4), (0, vR 35), (1, vI x1), (2, vI x2), (3, vI x3), (4, vI x4), (5, vI x5), (6, vI x6)]) d_Mo_feed_77 (by decide) rfl (?_ : WM _ 79 _ _ _ _)
            refine r_aload_n d_Mo_feed_79 rfl (?_ : WM _ 80 _ _ _ _)
            refine r_getR (k := 35) (j := 12) (q := 42) (by decide) rfl clk_11 (by decide) (qm_5 (i := 48) rfl rfl) rfl d_Mo_feed_80 (?_ : WM _ 83 _ _ _ _)
            refine r_aload_n d_Mo_feed_83 rfl (?_ : WM _ 84 _ _ _ _)
            refine r_getI (k := 35) (j := 13) 13 (by decide) rfl clk_11 (by decide) (qm_5 (i := 49) rfl rfl) rfl rfl d_Mo_feed_84 (y := (σ 35 13)) rfl (?_ : WM _ 87 _ _ _ _)
            refine r_iload d_Mo_feed_87 rfl (?_ : WM _ 89 _ _ _ _)
            refine r_bipush d_Mo_feed_89 (by decide) (by decide) (?_ : WM _ 91 _ _ _ _)
            refine r_bipush d_Mo_feed_91 (by decide) (by decide) (?_ : WM _ 93 _ _ _ _)
            refine r_iload d_Mo_feed_93 rfl (?_ : WM _ 95 _ _ _ _)
            refine r_iconst d_Mo_feed_95 (by decide) (?_ : WM _ 96 _ _ _ _)
            obtain ⟨h20, h⟩ := h
            refine r_iremn d_Mo_feed_96 h20 (by decide) (?_ : WM _ 97 _ _ _ _)
            obtain ⟨h21, h⟩ := h
            refine r_imul d_Mo_feed_97 h21 (?_ : WM _ 98 _ _ _ _)
            obtain ⟨h22, h⟩ := h
            refine r_isub d_Mo_feed_98 h22 (?_ : WM _ 99 _ _ _ _)
            obtain ⟨h23, h⟩ := h
            obtain ⟨h24, h⟩ := h
            obtain ⟨h25, h⟩ := h
            refine r_ishr d_Mo_feed_99 h23 h24 h25 (?_ : WM _ 100 _ _ _ _)
            refine r_i2b d_Mo_feed_100 (?_ : WM _ 101 _ _ _ _)
            obtain ⟨h26, h⟩ := h
            obtain ⟨h27, h⟩ := h
            obtain ⟨h28, h⟩ := h
            obtain ⟨h29, h⟩ := h
            refine r_bast (k := 42) (n := 900) (by decide) rfl d_Mo_feed_101 h26 h27 h28 h29 (?_ : WM _ 102 _ _ _ _)
            refine r_aload_n d_Mo_feed_102 rfl (?_ : WM _ 103 _ _ _ _)
            refine r_dup d_Mo_feed_103 rfl (?_ : WM _ 104 _ _ _ _)
            refine r_getI (k := 35) (j := 13) 13 (by decide) rfl clk_11 (by decide) (qm_5 (i := 49) rfl rfl) rfl rfl d_Mo_feed_104 (y := (σ 35 13)) (ups_c (by decide)) (?_ : WM _ 107 _ _ _ _)
            refine r_iconst d_Mo_feed_107 (by decide) (?_ : WM _ 108 _ _ _ _)
            obtain ⟨h30, h⟩ := h
            refine r_iadd d_Mo_feed_108 h30 (?_ : WM _ 109 _ _ _ _)
            refine r_put (k := 35) (j := 13) 13 (by decide) rfl clk_11 (by decide) (qm_5 (i := 49) rfl rfl) rfl rfl rfl tyX11_ok rfl nmX11 d_Mo_feed_109 (?_ : WM _ 112 _ _ _ _)
            obtain ⟨h31, h⟩ := h
            refine r_iinc (ls' := [(6, vI (x6 + 1)), (7, vI x4), (0, vR 35), (1, vI x1), (2, vI x2), (3, vI x3), (4, vI x4), (5, vI x5)]) d_Mo_feed_112 rfl h31 (by decide) rfl (?_ : WM _ 115 _ _ _ _)
            refine r_goto 24 d_Mo_feed_115 rfl ?_
            refine r_pick (ls' := [(0, vR 35), (1, vI x1), (2, vI x2), (3, vI x3), (4, vI x4), (5, vI x5), (6, vI (x6 + 1))]) [2, 3, 4, 5, 6, 7, 0] rfl ?_
            exact h
        · replace h := h.2 c6
          refine r_iload_n d_Mo_feed_59 rfl (?_ : WM _ 60 _ _ _ _)
          refine r_goto 77 d_Mo_feed_60 rfl ?_
          refine r_istore (ls' := [(7, vI x3), (0, vR 35), (1, vI x1), (2, vI x2), (3, vI x3), (4, vI x4), (5, vI x5), (6, vI x6)]) d_Mo_feed_77 (by decide) rfl (?_ : WM _ 79 _ _ _ _)
          refine r_aload_n d_Mo_feed_79 rfl (?_ : WM _ 80 _ _ _ _)
          refine r_getR (k := 35) (j := 12) (q := 42) (by decide) rfl clk_11 (by decide) (qm_5 (i := 48) rfl rfl) rfl d_Mo_feed_80 (?_ : WM _ 83 _ _ _ _)
          refine r_aload_n d_Mo_feed_83 rfl (?_ : WM _ 84 _ _ _ _)
          refine r_getI (k := 35) (j := 13) 13 (by decide) rfl clk_11 (by decide) (qm_5 (i := 49) rfl rfl) rfl rfl d_Mo_feed_84 (y := (σ 35 13)) rfl (?_ : WM _ 87 _ _ _ _)
          refine r_iload d_Mo_feed_87 rfl (?_ : WM _ 89 _ _ _ _)
          refine r_bipush d_Mo_feed_89 (by decide) (by decide) (?_ : WM _ 91 _ _ _ _)
          refine r_bipush d_Mo_feed_91 (by decide) (by decide) (?_ : WM _ 93 _ _ _ _)
          refine r_iload d_Mo_feed_93 rfl (?_ : WM _ 95 _ _ _ _)
          refine r_iconst d_Mo_feed_95 (by decide) (?_ : WM _ 96 _ _ _ _)
          obtain ⟨h32, h⟩ := h
          refine r_iremn d_Mo_feed_96 h32 (by decide) (?_ : WM _ 97 _ _ _ _)
          obtain ⟨h33, h⟩ := h
          refine r_imul d_Mo_feed_97 h33 (?_ : WM _ 98 _ _ _ _)
          obtain ⟨h34, h⟩ := h
          refine r_isub d_Mo_feed_98 h34 (?_ : WM _ 99 _ _ _ _)
          obtain ⟨h35, h⟩ := h
          obtain ⟨h36, h⟩ := h
          obtain ⟨h37, h⟩ := h
          refine r_ishr d_Mo_feed_99 h35 h36 h37 (?_ : WM _ 100 _ _ _ _)
          refine r_i2b d_Mo_feed_100 (?_ : WM _ 101 _ _ _ _)
          obtain ⟨h38, h⟩ := h
          obtain ⟨h39, h⟩ := h
          obtain ⟨h40, h⟩ := h
          obtain ⟨h41, h⟩ := h
          refine r_bast (k := 42) (n := 900) (by decide) rfl d_Mo_feed_101 h38 h39 h40 h41 (?_ : WM _ 102 _ _ _ _)
          refine r_aload_n d_Mo_feed_102 rfl (?_ : WM _ 103 _ _ _ _)
          refine r_dup d_Mo_feed_103 rfl (?_ : WM _ 104 _ _ _ _)
          refine r_getI (k := 35) (j := 13) 13 (by decide) rfl clk_11 (by decide) (qm_5 (i := 49) rfl rfl) rfl rfl d_Mo_feed_104 (y := (σ 35 13)) (ups_c (by decide)) (?_ : WM _ 107 _ _ _ _)
          refine r_iconst d_Mo_feed_107 (by decide) (?_ : WM _ 108 _ _ _ _)
          obtain ⟨h42, h⟩ := h
          refine r_iadd d_Mo_feed_108 h42 (?_ : WM _ 109 _ _ _ _)
          refine r_put (k := 35) (j := 13) 13 (by decide) rfl clk_11 (by decide) (qm_5 (i := 49) rfl rfl) rfl rfl rfl tyX11_ok rfl nmX11 d_Mo_feed_109 (?_ : WM _ 112 _ _ _ _)
          obtain ⟨h43, h⟩ := h
          refine r_iinc (ls' := [(6, vI (x6 + 1)), (7, vI x3), (0, vR 35), (1, vI x1), (2, vI x2), (3, vI x3), (4, vI x4), (5, vI x5)]) d_Mo_feed_112 rfl h43 (by decide) rfl (?_ : WM _ 115 _ _ _ _)
          refine r_goto 24 d_Mo_feed_115 rfl ?_
          refine r_pick (ls' := [(0, vR 35), (1, vI x1), (2, vI x2), (3, vI x3), (4, vI x4), (5, vI x5), (6, vI (x6 + 1))]) [2, 3, 4, 5, 6, 7, 0] rfl ?_
          exact h
      · replace h := h.2 c5
        refine r_iload_n d_Mo_feed_48 rfl (?_ : WM _ 49 _ _ _ _)
        refine r_goto 77 d_Mo_feed_49 rfl ?_
        refine r_istore (ls' := [(7, vI x2), (0, vR 35), (1, vI x1), (2, vI x2), (3, vI x3), (4, vI x4), (5, vI x5), (6, vI x6)]) d_Mo_feed_77 (by decide) rfl (?_ : WM _ 79 _ _ _ _)
        refine r_aload_n d_Mo_feed_79 rfl (?_ : WM _ 80 _ _ _ _)
        refine r_getR (k := 35) (j := 12) (q := 42) (by decide) rfl clk_11 (by decide) (qm_5 (i := 48) rfl rfl) rfl d_Mo_feed_80 (?_ : WM _ 83 _ _ _ _)
        refine r_aload_n d_Mo_feed_83 rfl (?_ : WM _ 84 _ _ _ _)
        refine r_getI (k := 35) (j := 13) 13 (by decide) rfl clk_11 (by decide) (qm_5 (i := 49) rfl rfl) rfl rfl d_Mo_feed_84 (y := (σ 35 13)) rfl (?_ : WM _ 87 _ _ _ _)
        refine r_iload d_Mo_feed_87 rfl (?_ : WM _ 89 _ _ _ _)
        refine r_bipush d_Mo_feed_89 (by decide) (by decide) (?_ : WM _ 91 _ _ _ _)
        refine r_bipush d_Mo_feed_91 (by decide) (by decide) (?_ : WM _ 93 _ _ _ _)
        refine r_iload d_Mo_feed_93 rfl (?_ : WM _ 95 _ _ _ _)
        refine r_iconst d_Mo_feed_95 (by decide) (?_ : WM _ 96 _ _ _ _)
        obtain ⟨h44, h⟩ := h
        refine r_iremn d_Mo_feed_96 h44 (by decide) (?_ : WM _ 97 _ _ _ _)
        obtain ⟨h45, h⟩ := h
        refine r_imul d_Mo_feed_97 h45 (?_ : WM _ 98 _ _ _ _)
        obtain ⟨h46, h⟩ := h
        refine r_isub d_Mo_feed_98 h46 (?_ : WM _ 99 _ _ _ _)
        obtain ⟨h47, h⟩ := h
        obtain ⟨h48, h⟩ := h
        obtain ⟨h49, h⟩ := h
        refine r_ishr d_Mo_feed_99 h47 h48 h49 (?_ : WM _ 100 _ _ _ _)
        refine r_i2b d_Mo_feed_100 (?_ : WM _ 101 _ _ _ _)
        obtain ⟨h50, h⟩ := h
        obtain ⟨h51, h⟩ := h
        obtain ⟨h52, h⟩ := h
        obtain ⟨h53, h⟩ := h
        refine r_bast (k := 42) (n := 900) (by decide) rfl d_Mo_feed_101 h50 h51 h52 h53 (?_ : WM _ 102 _ _ _ _)
        refine r_aload_n d_Mo_feed_102 rfl (?_ : WM _ 103 _ _ _ _)
        refine r_dup d_Mo_feed_103 rfl (?_ : WM _ 104 _ _ _ _)
        refine r_getI (k := 35) (j := 13) 13 (by decide) rfl clk_11 (by decide) (qm_5 (i := 49) rfl rfl) rfl rfl d_Mo_feed_104 (y := (σ 35 13)) (ups_c (by decide)) (?_ : WM _ 107 _ _ _ _)
        refine r_iconst d_Mo_feed_107 (by decide) (?_ : WM _ 108 _ _ _ _)
        obtain ⟨h54, h⟩ := h
        refine r_iadd d_Mo_feed_108 h54 (?_ : WM _ 109 _ _ _ _)
        refine r_put (k := 35) (j := 13) 13 (by decide) rfl clk_11 (by decide) (qm_5 (i := 49) rfl rfl) rfl rfl rfl tyX11_ok rfl nmX11 d_Mo_feed_109 (?_ : WM _ 112 _ _ _ _)
        obtain ⟨h55, h⟩ := h
        refine r_iinc (ls' := [(6, vI (x6 + 1)), (7, vI x2), (0, vR 35), (1, vI x1), (2, vI x2), (3, vI x3), (4, vI x4), (5, vI x5)]) d_Mo_feed_112 rfl h55 (by decide) rfl (?_ : WM _ 115 _ _ _ _)
        refine r_goto 24 d_Mo_feed_115 rfl ?_
        refine r_pick (ls' := [(0, vR 35), (1, vI x1), (2, vI x2), (3, vI x3), (4, vI x4), (5, vI x5), (6, vI (x6 + 1))]) [2, 3, 4, 5, 6, 7, 0] rfl ?_
        exact h
    · replace h := h.2 c4
      refine r_iload_n d_Mo_feed_37 rfl (?_ : WM _ 38 _ _ _ _)
      refine r_goto 77 d_Mo_feed_38 rfl ?_
      refine r_istore (ls' := [(7, vI x1), (0, vR 35), (1, vI x1), (2, vI x2), (3, vI x3), (4, vI x4), (5, vI x5), (6, vI x6)]) d_Mo_feed_77 (by decide) rfl (?_ : WM _ 79 _ _ _ _)
      refine r_aload_n d_Mo_feed_79 rfl (?_ : WM _ 80 _ _ _ _)
      refine r_getR (k := 35) (j := 12) (q := 42) (by decide) rfl clk_11 (by decide) (qm_5 (i := 48) rfl rfl) rfl d_Mo_feed_80 (?_ : WM _ 83 _ _ _ _)
      refine r_aload_n d_Mo_feed_83 rfl (?_ : WM _ 84 _ _ _ _)
      refine r_getI (k := 35) (j := 13) 13 (by decide) rfl clk_11 (by decide) (qm_5 (i := 49) rfl rfl) rfl rfl d_Mo_feed_84 (y := (σ 35 13)) rfl (?_ : WM _ 87 _ _ _ _)
      refine r_iload d_Mo_feed_87 rfl (?_ : WM _ 89 _ _ _ _)
      refine r_bipush d_Mo_feed_89 (by decide) (by decide) (?_ : WM _ 91 _ _ _ _)
      refine r_bipush d_Mo_feed_91 (by decide) (by decide) (?_ : WM _ 93 _ _ _ _)
      refine r_iload d_Mo_feed_93 rfl (?_ : WM _ 95 _ _ _ _)
      refine r_iconst d_Mo_feed_95 (by decide) (?_ : WM _ 96 _ _ _ _)
      obtain ⟨h56, h⟩ := h
      refine r_iremn d_Mo_feed_96 h56 (by decide) (?_ : WM _ 97 _ _ _ _)
      obtain ⟨h57, h⟩ := h
      refine r_imul d_Mo_feed_97 h57 (?_ : WM _ 98 _ _ _ _)
      obtain ⟨h58, h⟩ := h
      refine r_isub d_Mo_feed_98 h58 (?_ : WM _ 99 _ _ _ _)
      obtain ⟨h59, h⟩ := h
      obtain ⟨h60, h⟩ := h
      obtain ⟨h61, h⟩ := h
      refine r_ishr d_Mo_feed_99 h59 h60 h61 (?_ : WM _ 100 _ _ _ _)
      refine r_i2b d_Mo_feed_100 (?_ : WM _ 101 _ _ _ _)
      obtain ⟨h62, h⟩ := h
      obtain ⟨h63, h⟩ := h
      obtain ⟨h64, h⟩ := h
      obtain ⟨h65, h⟩ := h
      refine r_bast (k := 42) (n := 900) (by decide) rfl d_Mo_feed_101 h62 h63 h64 h65 (?_ : WM _ 102 _ _ _ _)
      refine r_aload_n d_Mo_feed_102 rfl (?_ : WM _ 103 _ _ _ _)
      refine r_dup d_Mo_feed_103 rfl (?_ : WM _ 104 _ _ _ _)
      refine r_getI (k := 35) (j := 13) 13 (by decide) rfl clk_11 (by decide) (qm_5 (i := 49) rfl rfl) rfl rfl d_Mo_feed_104 (y := (σ 35 13)) (ups_c (by decide)) (?_ : WM _ 107 _ _ _ _)
      refine r_iconst d_Mo_feed_107 (by decide) (?_ : WM _ 108 _ _ _ _)
      obtain ⟨h66, h⟩ := h
      refine r_iadd d_Mo_feed_108 h66 (?_ : WM _ 109 _ _ _ _)
      refine r_put (k := 35) (j := 13) 13 (by decide) rfl clk_11 (by decide) (qm_5 (i := 49) rfl rfl) rfl rfl rfl tyX11_ok rfl nmX11 d_Mo_feed_109 (?_ : WM _ 112 _ _ _ _)
      obtain ⟨h67, h⟩ := h
      refine r_iinc (ls' := [(6, vI (x6 + 1)), (7, vI x1), (0, vR 35), (1, vI x1), (2, vI x2), (3, vI x3), (4, vI x4), (5, vI x5)]) d_Mo_feed_112 rfl h67 (by decide) rfl (?_ : WM _ 115 _ _ _ _)
      refine r_goto 24 d_Mo_feed_115 rfl ?_
      refine r_pick (ls' := [(0, vR 35), (1, vI x1), (2, vI x2), (3, vI x3), (4, vI x4), (5, vI x5), (6, vI (x6 + 1))]) [2, 3, 4, 5, 6, 7, 0] rfl ?_
      exact h
set_option maxRecDepth 20000 in
theorem e_Mo_text {K : Int → St → Prop} {σ : St} (x1 : Int) (h : CI M_Mo_isIn [vL x1, vL 0, vL (σ 35 13)] (ups σ 35 0 0) (fun v2 σ1 => (¬ v2 = 0 → CV M_Mo_blanks [vR 35] (ups (ups (ups (ups (ups (ups σ1 35 13 0) 35 14 x1) 35 15 0) 35 16 0) 35 17 (-1)) 35 7 0) (fun σ4 => WM M_Mo_text 56 [(0, vR 35)] [] σ4 (QI K))) ∧ (v2 = 0 → K (-3) σ1))) : CI M_Mo_text [vR 35, vI x1] σ K := by
  refine Con.of ok_M_Mo_text (ls := [(0, vR 35), (1, vI x1)]) rfl (Nat.le_of_ble_eq_true rfl) ?_
  refine r_aload_n d_Mo_text_0 rfl (?_ : WM _ 1 _ _ _ _)
  refine r_iconst d_Mo_text_1 (by decide) (?_ : WM _ 2 _ _ _ _)
  refine r_put (k := 35) (j := 0) 0 (by decide) rfl clk_11 (by decide) (qm_5 (i := 36) rfl rfl) rfl rfl rfl tyX11_ok rfl nmX11 d_Mo_text_2 (?_ : WM _ 5 _ _ _ _)
  refine r_iload_n d_Mo_text_5 rfl (?_ : WM _ 6 _ _ _ _)
  refine r_i2l d_Mo_text_6 (?_ : WM _ 7 _ _ _ _)
  refine r_lconst 0 d_Mo_text_7 rfl (by decide) (?_ : WM _ 8 _ _ _ _)
  refine r_aload_n d_Mo_text_8 rfl (?_ : WM _ 9 _ _ _ _)
  refine r_getI (k := 35) (j := 13) 13 (by decide) rfl clk_11 (by decide) (qm_5 (i := 49) rfl rfl) rfl rfl d_Mo_text_9 (y := (σ 35 13)) (ups_f (by decide)) (?_ : WM _ 12 _ _ _ _)
  refine r_i2l d_Mo_text_12 (?_ : WM _ 13 _ _ _ _)
  refine r_callS (ν := M_Mo_isIn) [vL x1, vL 0, vL (σ 35 13)] ok_M_Mo_isIn oks_M_Mo_isIn (qm_5 (i := 153) rfl rfl) np_M_Mo_isIn rfl (by decide) (Nat.le_of_ble_eq_true rfl) rfl d_Mo_text_13 (CI.k h (fun v2 σ1 h => (?_ : WM _ 16 _ _ _ _)))
  refine r_if_ne 22 d_Mo_text_16 rfl ⟨fun c3 => (?_ : WM _ 22 _ _ _ _), fun c3 => (?_ : WM _ 19 _ _ _ _)⟩
  · replace h := h.1 c3
    refine r_aload_n d_Mo_text_22 rfl (?_ : WM _ 23 _ _ _ _)
    refine r_iconst d_Mo_text_23 (by decide) (?_ : WM _ 24 _ _ _ _)
    refine r_put (k := 35) (j := 13) 13 (by decide) rfl clk_11 (by decide) (qm_5 (i := 49) rfl rfl) rfl rfl rfl tyX11_ok rfl nmX11 d_Mo_text_24 (?_ : WM _ 27 _ _ _ _)
    refine r_aload_n d_Mo_text_27 rfl (?_ : WM _ 28 _ _ _ _)
    refine r_iload_n d_Mo_text_28 rfl (?_ : WM _ 29 _ _ _ _)
    refine r_put (k := 35) (j := 14) 14 (by decide) rfl clk_11 (by decide) (qm_5 (i := 50) rfl rfl) rfl rfl rfl tyX11_ok rfl nmX11 d_Mo_text_29 (?_ : WM _ 32 _ _ _ _)
    refine r_aload_n d_Mo_text_32 rfl (?_ : WM _ 33 _ _ _ _)
    refine r_iconst d_Mo_text_33 (by decide) (?_ : WM _ 34 _ _ _ _)
    refine r_put (k := 35) (j := 15) 15 (by decide) rfl clk_11 (by decide) (qm_5 (i := 51) rfl rfl) rfl rfl rfl tyX11_ok rfl nmX11 d_Mo_text_34 (?_ : WM _ 37 _ _ _ _)
    refine r_aload_n d_Mo_text_37 rfl (?_ : WM _ 38 _ _ _ _)
    refine r_iconst d_Mo_text_38 (by decide) (?_ : WM _ 39 _ _ _ _)
    refine r_put (k := 35) (j := 16) 16 (by decide) rfl clk_11 (by decide) (qm_5 (i := 52) rfl rfl) rfl rfl rfl tyX11_ok rfl nmX11 d_Mo_text_39 (?_ : WM _ 42 _ _ _ _)
    refine r_aload_n d_Mo_text_42 rfl (?_ : WM _ 43 _ _ _ _)
    refine r_iconst d_Mo_text_43 (by decide) (?_ : WM _ 44 _ _ _ _)
    refine r_put (k := 35) (j := 17) 17 (by decide) rfl clk_11 (by decide) (qm_5 (i := 53) rfl rfl) rfl rfl rfl tyX11_ok rfl nmX11 d_Mo_text_44 (?_ : WM _ 47 _ _ _ _)
    refine r_aload_n d_Mo_text_47 rfl (?_ : WM _ 48 _ _ _ _)
    refine r_iconst d_Mo_text_48 (by decide) (?_ : WM _ 49 _ _ _ _)
    refine r_put (k := 35) (j := 7) 7 (by decide) rfl clk_11 (by decide) (qm_5 (i := 43) rfl rfl) rfl rfl rfl tyX11_ok rfl nmX11 d_Mo_text_49 (?_ : WM _ 52 _ _ _ _)
    refine r_aload_n d_Mo_text_52 rfl (?_ : WM _ 53 _ _ _ _)
    refine r_callV (ν := M_Mo_blanks) (k := 35) [] ok_M_Mo_blanks okv_M_Mo_blanks (by decide) rfl rfl rfl (qm_5 (i := 156) rfl rfl) np_M_Mo_blanks rfl (by decide) (Nat.le_of_ble_eq_true rfl) rfl d_Mo_text_53 (CV.k h (fun σ4 h => (?_ : WM _ 56 _ _ _ _)))
    refine r_pick (ls' := [(0, vR 35)]) [0] rfl ?_
    exact h
  · replace h := h.2 c3
    refine r_bipush d_Mo_text_19 (by decide) (by decide) (?_ : WM _ 21 _ _ _ _)
    exact r_ireturn rfl d_Mo_text_21 h
set_option maxRecDepth 20000 in
theorem l_Mo_text_1 {K : Int → St → Prop} {σ : St}  (h : (¬ (σ 35 16) = 0 → (inR ((-30) - (σ 35 16))) ∧ K ((-30) - (σ 35 16)) σ) ∧ ((σ 35 16) = 0 → CI M_Mo_peek [vR 35] σ (fun v9 σ8 => (v9 = (-1) → ((σ8 35 16) = 0 → WM M_Mo_text 107 [(0, vR 35), (2, vI 0)] [] (ups σ8 35 6 (σ8 35 7)) (QI K)) ∧ (¬ (σ8 35 16) = 0 → (inR ((-30) - (σ8 35 16))) ∧ K ((-30) - (σ8 35 16)) σ8)) ∧ (¬ v9 = (-1) → CV M_Mo_line [vR 35] σ8 (fun σ13 => CV M_Mo_blanks [vR 35] σ13 (fun σ15 => WM M_Mo_text 56 [(0, vR 35)] [] σ15 (QI K))))))) : WM M_Mo_text 56 [(0, vR 35)] [] σ (QI K) := by
  refine r_aload_n d_Mo_text_56 rfl (?_ : WM _ 57 _ _ _ _)
  refine r_getI (k := 35) (j := 16) 16 (by decide) rfl clk_11 (by decide) (qm_5 (i := 52) rfl rfl) rfl rfl d_Mo_text_57 (y := (σ 35 16)) rfl (?_ : WM _ 60 _ _ _ _)
  refine r_if_ne 82 d_Mo_text_60 rfl ⟨fun c6 => (?_ : WM _ 82 _ _ _ _), fun c6 => (?_ : WM _ 63 _ _ _ _)⟩
  · replace h := h.1 c6
    refine r_aload_n d_Mo_text_82 rfl (?_ : WM _ 83 _ _ _ _)
    refine r_getI (k := 35) (j := 16) 16 (by decide) rfl clk_11 (by decide) (qm_5 (i := 52) rfl rfl) rfl rfl d_Mo_text_83 (y := (σ 35 16)) rfl (?_ : WM _ 86 _ _ _ _)
    refine r_if_eq 97 d_Mo_text_86 rfl ⟨fun hc => absurd hc c6, fun hc => (?_ : WM _ 89 _ _ _ _)⟩
    refine r_bipush d_Mo_text_89 (by decide) (by decide) (?_ : WM _ 91 _ _ _ _)
    refine r_aload_n d_Mo_text_91 rfl (?_ : WM _ 92 _ _ _ _)
    refine r_getI (k := 35) (j := 16) 16 (by decide) rfl clk_11 (by decide) (qm_5 (i := 52) rfl rfl) rfl rfl d_Mo_text_92 (y := (σ 35 16)) rfl (?_ : WM _ 95 _ _ _ _)
    obtain ⟨h7, h⟩ := h
    refine r_isub d_Mo_text_95 h7 (?_ : WM _ 96 _ _ _ _)
    exact r_ireturn rfl d_Mo_text_96 h
  · replace h := h.2 c6
    refine r_aload_n d_Mo_text_63 rfl (?_ : WM _ 64 _ _ _ _)
    refine r_callV (ν := M_Mo_peek) (k := 35) [] ok_M_Mo_peek okv_M_Mo_peek (by decide) rfl rfl rfl (qm_5 (i := 160) rfl rfl) np_M_Mo_peek rfl (by decide) (Nat.le_of_ble_eq_true rfl) rfl d_Mo_text_64 (CI.k h (fun v9 σ8 h => (?_ : WM _ 67 _ _ _ _)))
    refine r_iconst d_Mo_text_67 (by decide) (?_ : WM _ 68 _ _ _ _)
    refine r_icmp_eq 82 d_Mo_text_68 rfl ⟨fun c10 => (?_ : WM _ 82 _ _ _ _), fun c10 => (?_ : WM _ 71 _ _ _ _)⟩
    · replace h := h.1 c10
      refine r_aload_n d_Mo_text_82 rfl (?_ : WM _ 83 _ _ _ _)
      refine r_getI (k := 35) (j := 16) 16 (by decide) rfl clk_11 (by decide) (qm_5 (i := 52) rfl rfl) rfl rfl d_Mo_text_83 (y := (σ8 35 16)) rfl (?_ : WM _ 86 _ _ _ _)
      refine r_if_eq 97 d_Mo_text_86 rfl ⟨fun c11 => (?_ : WM _ 97 _ _ _ _), fun c11 => (?_ : WM _ 89 _ _ _ _)⟩
      · replace h := h.1 c11
        refine r_aload_n d_Mo_text_97 rfl (?_ : WM _ 98 _ _ _ _)
        refine r_aload_n d_Mo_text_98 rfl (?_ : WM _ 99 _ _ _ _)
        refine r_getI (k := 35) (j := 7) 7 (by decide) rfl clk_11 (by decide) (qm_5 (i := 43) rfl rfl) rfl rfl d_Mo_text_99 (y := (σ8 35 7)) rfl (?_ : WM _ 102 _ _ _ _)
        refine r_put (k := 35) (j := 6) 6 (by decide) rfl clk_11 (by decide) (qm_5 (i := 42) rfl rfl) rfl rfl rfl tyX11_ok rfl nmX11 d_Mo_text_102 (?_ : WM _ 105 _ _ _ _)
        refine r_iconst d_Mo_text_105 (by decide) (?_ : WM _ 106 _ _ _ _)
        refine r_istore_n (ls' := [(2, vI 0), (0, vR 35)]) d_Mo_text_106 rfl (by decide) rfl (?_ : WM _ 107 _ _ _ _)
        refine r_pick (ls' := [(0, vR 35), (2, vI 0)]) [1, 0] rfl ?_
        exact h
      · replace h := h.2 c11
        refine r_bipush d_Mo_text_89 (by decide) (by decide) (?_ : WM _ 91 _ _ _ _)
        refine r_aload_n d_Mo_text_91 rfl (?_ : WM _ 92 _ _ _ _)
        refine r_getI (k := 35) (j := 16) 16 (by decide) rfl clk_11 (by decide) (qm_5 (i := 52) rfl rfl) rfl rfl d_Mo_text_92 (y := (σ8 35 16)) rfl (?_ : WM _ 95 _ _ _ _)
        obtain ⟨h12, h⟩ := h
        refine r_isub d_Mo_text_95 h12 (?_ : WM _ 96 _ _ _ _)
        exact r_ireturn rfl d_Mo_text_96 h
    · replace h := h.2 c10
      refine r_aload_n d_Mo_text_71 rfl (?_ : WM _ 72 _ _ _ _)
      refine r_callV (ν := M_Mo_line) (k := 35) [] ok_M_Mo_line okv_M_Mo_line (by decide) rfl rfl rfl (qm_5 (i := 164) rfl rfl) np_M_Mo_line rfl (by decide) (Nat.le_of_ble_eq_true rfl) rfl d_Mo_text_72 (CV.k h (fun σ13 h => (?_ : WM _ 75 _ _ _ _)))
      refine r_aload_n d_Mo_text_75 rfl (?_ : WM _ 76 _ _ _ _)
      refine r_callV (ν := M_Mo_blanks) (k := 35) [] ok_M_Mo_blanks okv_M_Mo_blanks (by decide) rfl rfl rfl (qm_5 (i := 156) rfl rfl) np_M_Mo_blanks rfl (by decide) (Nat.le_of_ble_eq_true rfl) rfl d_Mo_text_76 (CV.k h (fun σ15 h => (?_ : WM _ 79 _ _ _ _)))
      refine r_goto 56 d_Mo_text_79 rfl ?_
      exact h
set_option maxRecDepth 20000 in
theorem l_Mo_text_2 {K : Int → St → Prop} {σ : St} (x2 : Int) (h : (inR (4 * (σ 35 7))) ∧ ((4 * (σ 35 7)) ≤ x2 → K (σ 35 6) (ups (ups (ups σ 35 9 0) 35 10 0) 35 11 (σ 36 4))) ∧ (¬ (4 * (σ 35 7)) ≤ x2 → (0 ≤ x2) ∧ (x2 < 192) ∧ (inR (x2 + 1)) ∧ WM M_Mo_text 107 [(0, vR 35), (2, vI (x2 + 1))] [] (ups σ 39 x2 (σ 40 x2)) (QI K))) : WM M_Mo_text 107 [(0, vR 35), (2, vI x2)] [] σ (QI K) := by
  refine r_iload_n d_Mo_text_107 rfl (?_ : WM _ 108 _ _ _ _)
  refine r_iconst d_Mo_text_108 (by decide) (?_ : WM _ 109 _ _ _ _)
  refine r_aload_n d_Mo_text_109 rfl (?_ : WM _ 110 _ _ _ _)
  refine r_getI (k := 35) (j := 7) 7 (by decide) rfl clk_11 (by decide) (qm_5 (i := 43) rfl rfl) rfl rfl d_Mo_text_110 (y := (σ 35 7)) rfl (?_ : WM _ 113 _ _ _ _)
  obtain ⟨h17, h⟩ := h
  refine r_imul d_Mo_text_113 h17 (?_ : WM _ 114 _ _ _ _)
  refine r_icmp_ge 135 d_Mo_text_114 rfl ⟨fun c18 => (?_ : WM _ 135 _ _ _ _), fun c18 => (?_ : WM _ 117 _ _ _ _)⟩
  · replace h := h.1 c18
    refine r_aload_n d_Mo_text_135 rfl (?_ : WM _ 136 _ _ _ _)
    refine r_iconst d_Mo_text_136 (by decide) (?_ : WM _ 137 _ _ _ _)
    refine r_put (k := 35) (j := 9) 9 (by decide) rfl clk_11 (by decide) (qm_5 (i := 45) rfl rfl) rfl rfl rfl tyX11_ok rfl nmX11 d_Mo_text_137 (?_ : WM _ 140 _ _ _ _)
    refine r_aload_n d_Mo_text_140 rfl (?_ : WM _ 141 _ _ _ _)
    refine r_iconst d_Mo_text_141 (by decide) (?_ : WM _ 142 _ _ _ _)
    refine r_put (k := 35) (j := 10) 10 (by decide) rfl clk_11 (by decide) (qm_5 (i := 46) rfl rfl) rfl rfl rfl tyX11_ok rfl nmX11 d_Mo_text_142 (?_ : WM _ 145 _ _ _ _)
    refine r_aload_n d_Mo_text_145 rfl (?_ : WM _ 146 _ _ _ _)
    refine r_aload_n d_Mo_text_146 rfl (?_ : WM _ 147 _ _ _ _)
    refine r_getR (k := 35) (j := 1) (q := 36) (by decide) rfl clk_11 (by decide) (qm_5 (i := 37) rfl rfl) rfl d_Mo_text_147 (?_ : WM _ 150 _ _ _ _)
    refine r_iconst d_Mo_text_150 (by decide) (?_ : WM _ 151 _ _ _ _)
    refine r_iald (k := 36) (n := 5) (by decide) rfl d_Mo_text_151 (by decide) (by decide) (y := (σ 36 4)) ((ups_c (by decide)).trans (ups_c (by decide))) (?_ : WM _ 152 _ _ _ _)
    refine r_put (k := 35) (j := 11) 11 (by decide) rfl clk_11 (by decide) (qm_5 (i := 47) rfl rfl) rfl rfl rfl tyX11_ok rfl nmX11 d_Mo_text_152 (?_ : WM _ 155 _ _ _ _)
    refine r_aload_n d_Mo_text_155 rfl (?_ : WM _ 156 _ _ _ _)
    refine r_getI (k := 35) (j := 6) 6 (by decide) rfl clk_11 (by decide) (qm_5 (i := 42) rfl rfl) rfl rfl d_Mo_text_156 (y := (σ 35 6)) ((ups_f (by decide)).trans ((ups_f (by decide)).trans (ups_f (by decide)))) (?_ : WM _ 159 _ _ _ _)
    exact r_ireturn rfl d_Mo_text_159 h
  · replace h := h.2 c18
    refine r_aload_n d_Mo_text_117 rfl (?_ : WM _ 118 _ _ _ _)
    refine r_getR (k := 35) (j := 4) (q := 39) (by decide) rfl clk_11 (by decide) (qm_5 (i := 40) rfl rfl) rfl d_Mo_text_118 (?_ : WM _ 121 _ _ _ _)
    refine r_iload_n d_Mo_text_121 rfl (?_ : WM _ 122 _ _ _ _)
    refine r_aload_n d_Mo_text_122 rfl (?_ : WM _ 123 _ _ _ _)
    refine r_getR (k := 35) (j := 5) (q := 40) (by decide) rfl clk_11 (by decide) (qm_5 (i := 41) rfl rfl) rfl d_Mo_text_123 (?_ : WM _ 126 _ _ _ _)
    refine r_iload_n d_Mo_text_126 rfl (?_ : WM _ 127 _ _ _ _)
    obtain ⟨h19, h⟩ := h
    obtain ⟨h20, h⟩ := h
    refine r_iald (k := 40) (n := 192) (by decide) rfl d_Mo_text_127 h19 h20 (y := (σ 40 x2)) rfl (?_ : WM _ 128 _ _ _ _)
    refine r_iast (k := 39) (n := 192) (by decide) rfl d_Mo_text_128 h19 h20 (?_ : WM _ 129 _ _ _ _)
    obtain ⟨h21, h⟩ := h
    refine r_iinc (ls' := [(2, vI (x2 + 1)), (0, vR 35)]) d_Mo_text_129 rfl h21 (by decide) rfl (?_ : WM _ 132 _ _ _ _)
    refine r_goto 107 d_Mo_text_132 rfl ?_
    refine r_pick (ls' := [(0, vR 35), (2, vI (x2 + 1))]) [1, 0] rfl ?_
    exact h
set_option maxRecDepth 20000 in
theorem e_Mo_fault {K : Int → St → Prop} {σ : St} (x1 : Int) (h : (¬ x1 = 0 → (¬ x1 = 1 → K (-1) (ups σ 35 0 0)) ∧ (x1 = 1 → K (σ 35 17) (ups σ 35 0 0))) ∧ (x1 = 0 → K (σ 35 16) (ups σ 35 0 0))) : CI M_Mo_fault [vR 35, vI x1] σ K := by
  refine Con.of ok_M_Mo_fault (ls := [(0, vR 35), (1, vI x1)]) rfl (Nat.le_of_ble_eq_true rfl) ?_
  refine r_aload_n d_Mo_fault_0 rfl (?_ : WM _ 1 _ _ _ _)
  refine r_iconst d_Mo_fault_1 (by decide) (?_ : WM _ 2 _ _ _ _)
  refine r_put (k := 35) (j := 0) 0 (by decide) rfl clk_11 (by decide) (qm_5 (i := 36) rfl rfl) rfl rfl rfl tyX11_ok rfl nmX11 d_Mo_fault_2 (?_ : WM _ 5 _ _ _ _)
  refine r_iload_n d_Mo_fault_5 rfl (?_ : WM _ 6 _ _ _ _)
  refine r_if_ne 16 d_Mo_fault_6 rfl ⟨fun c1 => (?_ : WM _ 16 _ _ _ _), fun c1 => (?_ : WM _ 9 _ _ _ _)⟩
  · replace h := h.1 c1
    refine r_iload_n d_Mo_fault_16 rfl (?_ : WM _ 17 _ _ _ _)
    refine r_iconst d_Mo_fault_17 (by decide) (?_ : WM _ 18 _ _ _ _)
    refine r_icmp_ne 28 d_Mo_fault_18 rfl ⟨fun c2 => (?_ : WM _ 28 _ _ _ _), fun c2 => (?_ : WM _ 21 _ _ _ _)⟩
    · replace h := h.1 c2
      refine r_iconst d_Mo_fault_28 (by decide) (?_ : WM _ 29 _ _ _ _)
      exact r_ireturn rfl d_Mo_fault_29 h
    · replace h := h.2 c2
      refine r_aload_n d_Mo_fault_21 rfl (?_ : WM _ 22 _ _ _ _)
      refine r_getI (k := 35) (j := 17) 17 (by decide) rfl clk_11 (by decide) (qm_5 (i := 53) rfl rfl) rfl rfl d_Mo_fault_22 (y := (σ 35 17)) (ups_f (by decide)) (?_ : WM _ 25 _ _ _ _)
      refine r_goto 29 d_Mo_fault_25 rfl ?_
      exact r_ireturn rfl d_Mo_fault_29 h
  · replace h := h.2 c1
    refine r_aload_n d_Mo_fault_9 rfl (?_ : WM _ 10 _ _ _ _)
    refine r_getI (k := 35) (j := 16) 16 (by decide) rfl clk_11 (by decide) (qm_5 (i := 52) rfl rfl) rfl rfl d_Mo_fault_10 (y := (σ 35 16)) (ups_f (by decide)) (?_ : WM _ 13 _ _ _ _)
    refine r_goto 29 d_Mo_fault_13 rfl ?_
    exact r_ireturn rfl d_Mo_fault_29 h
set_option maxRecDepth 20000 in
theorem e_Mo_terms {K : Int → St → Prop} {σ : St} (x1 : Int) (x2 : Int) (h : CI M_Mo_isIn [vL x1, vL 0, vL 4] (ups σ 35 0 0) (fun v2 σ1 => (¬ v2 = 0 → (0 ≤ x1) ∧ (x1 < 5) ∧ CI M_Mo_isIn [vL x2, vL (σ1 37 x1), vL (σ1 38 x1)] σ1 (fun v7 σ6 => (¬ v7 = 0 → (¬ x1 = 4 → K (σ6 36 x1) (ups σ6 36 x1 x2)) ∧ (x1 = 4 → K (σ6 36 x1) (ups (ups σ6 36 x1 x2) 35 11 x2))) ∧ (v7 = 0 → K (-3) σ6))) ∧ (v2 = 0 → K (-2) σ1))) : CI M_Mo_terms [vR 35, vI x1, vI x2] σ K := by
  refine Con.of ok_M_Mo_terms (ls := [(0, vR 35), (1, vI x1), (2, vI x2)]) rfl (Nat.le_of_ble_eq_true rfl) ?_
  refine r_aload_n d_Mo_terms_0 rfl (?_ : WM _ 1 _ _ _ _)
  refine r_iconst d_Mo_terms_1 (by decide) (?_ : WM _ 2 _ _ _ _)
  refine r_put (k := 35) (j := 0) 0 (by decide) rfl clk_11 (by decide) (qm_5 (i := 36) rfl rfl) rfl rfl rfl tyX11_ok rfl nmX11 d_Mo_terms_2 (?_ : WM _ 5 _ _ _ _)
  refine r_iload_n d_Mo_terms_5 rfl (?_ : WM _ 6 _ _ _ _)
  refine r_i2l d_Mo_terms_6 (?_ : WM _ 7 _ _ _ _)
  refine r_lconst 0 d_Mo_terms_7 rfl (by decide) (?_ : WM _ 8 _ _ _ _)
  refine r_ldc2 4 d_Mo_terms_8 (qm_5 (i := 216) rfl rfl) (by decide) (by decide) (?_ : WM _ 11 _ _ _ _)
  refine r_callS (ν := M_Mo_isIn) [vL x1, vL 0, vL 4] ok_M_Mo_isIn oks_M_Mo_isIn (qm_5 (i := 153) rfl rfl) np_M_Mo_isIn rfl (by decide) (Nat.le_of_ble_eq_true rfl) rfl d_Mo_terms_11 (CI.k h (fun v2 σ1 h => (?_ : WM _ 14 _ _ _ _)))
  refine r_if_ne 20 d_Mo_terms_14 rfl ⟨fun c3 => (?_ : WM _ 20 _ _ _ _), fun c3 => (?_ : WM _ 17 _ _ _ _)⟩
  · replace h := h.1 c3
    refine r_iload_n d_Mo_terms_20 rfl (?_ : WM _ 21 _ _ _ _)
    refine r_i2l d_Mo_terms_21 (?_ : WM _ 22 _ _ _ _)
    refine r_aload_n d_Mo_terms_22 rfl (?_ : WM _ 23 _ _ _ _)
    refine r_getR (k := 35) (j := 2) (q := 37) (by decide) rfl clk_11 (by decide) (qm_5 (i := 38) rfl rfl) rfl d_Mo_terms_23 (?_ : WM _ 26 _ _ _ _)
    refine r_iload_n d_Mo_terms_26 rfl (?_ : WM _ 27 _ _ _ _)
    obtain ⟨h4, h⟩ := h
    obtain ⟨h5, h⟩ := h
    refine r_iald (k := 37) (n := 5) (by decide) rfl d_Mo_terms_27 h4 h5 (y := (σ1 37 x1)) rfl (?_ : WM _ 28 _ _ _ _)
    refine r_i2l d_Mo_terms_28 (?_ : WM _ 29 _ _ _ _)
    refine r_aload_n d_Mo_terms_29 rfl (?_ : WM _ 30 _ _ _ _)
    refine r_getR (k := 35) (j := 3) (q := 38) (by decide) rfl clk_11 (by decide) (qm_5 (i := 39) rfl rfl) rfl d_Mo_terms_30 (?_ : WM _ 33 _ _ _ _)
    refine r_iload_n d_Mo_terms_33 rfl (?_ : WM _ 34 _ _ _ _)
    refine r_iald (k := 38) (n := 5) (by decide) rfl d_Mo_terms_34 h4 h5 (y := (σ1 38 x1)) rfl (?_ : WM _ 35 _ _ _ _)
    refine r_i2l d_Mo_terms_35 (?_ : WM _ 36 _ _ _ _)
    refine r_callS (ν := M_Mo_isIn) [vL x2, vL (σ1 37 x1), vL (σ1 38 x1)] ok_M_Mo_isIn oks_M_Mo_isIn (qm_5 (i := 153) rfl rfl) np_M_Mo_isIn rfl (by decide) (Nat.le_of_ble_eq_true rfl) rfl d_Mo_terms_36 (CI.k h (fun v7 σ6 h => (?_ : WM _ 39 _ _ _ _)))
    refine r_if_ne 45 d_Mo_terms_39 rfl ⟨fun c8 => (?_ : WM _ 45 _ _ _ _), fun c8 => (?_ : WM _ 42 _ _ _ _)⟩
    · replace h := h.1 c8
      refine r_aload_n d_Mo_terms_45 rfl (?_ : WM _ 46 _ _ _ _)
      refine r_getR (k := 35) (j := 1) (q := 36) (by decide) rfl clk_11 (by decide) (qm_5 (i := 37) rfl rfl) rfl d_Mo_terms_46 (?_ : WM _ 49 _ _ _ _)
      refine r_iload_n d_Mo_terms_49 rfl (?_ : WM _ 50 _ _ _ _)
      refine r_iald (k := 36) (n := 5) (by decide) rfl d_Mo_terms_50 h4 h5 (y := (σ6 36 x1)) rfl (?_ : WM _ 51 _ _ _ _)
      refine r_istore_n (ls' := [(3, vI (σ6 36 x1)), (0, vR 35), (1, vI x1), (2, vI x2)]) d_Mo_terms_51 rfl (by decide) rfl (?_ : WM _ 52 _ _ _ _)
      refine r_aload_n d_Mo_terms_52 rfl (?_ : WM _ 53 _ _ _ _)
      refine r_getR (k := 35) (j := 1) (q := 36) (by decide) rfl clk_11 (by decide) (qm_5 (i := 37) rfl rfl) rfl d_Mo_terms_53 (?_ : WM _ 56 _ _ _ _)
      refine r_iload_n d_Mo_terms_56 rfl (?_ : WM _ 57 _ _ _ _)
      refine r_iload_n d_Mo_terms_57 rfl (?_ : WM _ 58 _ _ _ _)
      refine r_iast (k := 36) (n := 5) (by decide) rfl d_Mo_terms_58 h4 h5 (?_ : WM _ 59 _ _ _ _)
      refine r_iload_n d_Mo_terms_59 rfl (?_ : WM _ 60 _ _ _ _)
      refine r_iconst d_Mo_terms_60 (by decide) (?_ : WM _ 61 _ _ _ _)
      refine r_icmp_ne 69 d_Mo_terms_61 rfl ⟨fun c9 => (?_ : WM _ 69 _ _ _ _), fun c9 => (?_ : WM _ 64 _ _ _ _)⟩
      · replace h := h.1 c9
        refine r_iload_n d_Mo_terms_69 rfl (?_ : WM _ 70 _ _ _ _)
        exact r_ireturn rfl d_Mo_terms_70 h
      · replace h := h.2 c9
        refine r_aload_n d_Mo_terms_64 rfl (?_ : WM _ 65 _ _ _ _)
        refine r_iload_n d_Mo_terms_65 rfl (?_ : WM _ 66 _ _ _ _)
        refine r_put (k := 35) (j := 11) 11 (by decide) rfl clk_11 (by decide) (qm_5 (i := 47) rfl rfl) rfl rfl rfl tyX11_ok rfl nmX11 d_Mo_terms_66 (?_ : WM _ 69 _ _ _ _)
        refine r_iload_n d_Mo_terms_69 rfl (?_ : WM _ 70 _ _ _ _)
        exact r_ireturn rfl d_Mo_terms_70 h
    · replace h := h.2 c8
      refine r_bipush d_Mo_terms_42 (by decide) (by decide) (?_ : WM _ 44 _ _ _ _)
      exact r_ireturn rfl d_Mo_terms_44 h
  · replace h := h.2 c3
    refine r_bipush d_Mo_terms_17 (by decide) (by decide) (?_ : WM _ 19 _ _ _ _)
    exact r_ireturn rfl d_Mo_terms_19 h
set_option maxRecDepth 20000 in
theorem e_Mo_add {K : Int → St → Prop} {σ : St} (x1 : Int) (x2 : Int) (x3 : Int) (h : CI M_Mo_isIn [vL x1, vL 0, vL 99] (ups σ 35 0 0) (fun v2 σ1 => (v2 = 0 → K (-3) σ1) ∧ (¬ v2 = 0 → CI M_Mo_isIn [vL x2, vL 0, vL 9999] σ1 (fun v5 σ4 => (v5 = 0 → K (-3) σ4) ∧ (¬ v5 = 0 → CI M_Mo_isIn [vL x3, vL (-99999), vL 99999] σ4 (fun v8 σ7 => (¬ v8 = 0 → (¬ (σ7 35 6) = 48 → (0 < (σ7 35 10) → K (-5) σ7) ∧ (¬ 0 < (σ7 35 10) → CI M_Mo_placeIn [vR 39, vI (σ7 35 6), vI x1, vI x2] σ7 (fun v13 σ12 => (v13 = (-1) → (inR (4 * (σ12 35 6))) ∧ (inR ((4 * (σ12 35 6)) + 0)) ∧ (0 ≤ ((4 * (σ12 35 6)) + 0)) ∧ (((4 * (σ12 35 6)) + 0) < 192) ∧ (inR ((4 * (σ12 35 6)) + 1)) ∧ (0 ≤ ((4 * (σ12 35 6)) + 1)) ∧ (((4 * (σ12 35 6)) + 1) < 192) ∧ (inR ((4 * (σ12 35 6)) + 2)) ∧ (0 ≤ ((4 * (σ12 35 6)) + 2)) ∧ (((4 * (σ12 35 6)) + 2) < 192) ∧ (inR ((4 * (σ12 35 6)) + 3)) ∧ (0 ≤ ((4 * (σ12 35 6)) + 3)) ∧ (((4 * (σ12 35 6)) + 3) < 192) ∧ (inR ((σ12 35 6) + 1)) ∧ (inR (((σ12 35 6) + 1) - 1)) ∧ K (((σ12 35 6) + 1) - 1) (ups (ups (ups (ups (ups σ12 39 ((4 * (σ12 35 6)) + 0) x1) 39 ((4 * (σ12 35 6)) + 1) x2) 39 ((4 * (σ12 35 6)) + 2) x3) 39 ((4 * (σ12 35 6)) + 3) (-1)) 35 6 ((σ12 35 6) + 1))) ∧ (¬ v13 = (-1) → K (-5) σ12)))) ∧ ((σ7 35 6) = 48 → K (-4) σ7)) ∧ (v8 = 0 → K (-3) σ7))))))) : CI M_Mo_add [vR 35, vI x1, vI x2, vI x3] σ K := by
  refine Con.of ok_M_Mo_add (ls := [(0, vR 35), (1, vI x1), (2, vI x2), (3, vI x3)]) rfl (Nat.le_of_ble_eq_true rfl) ?_
  refine r_aload_n d_Mo_add_0 rfl (?_ : WM _ 1 _ _ _ _)
  refine r_iconst d_Mo_add_1 (by decide) (?_ : WM _ 2 _ _ _ _)
  refine r_put (k := 35) (j := 0) 0 (by decide) rfl clk_11 (by decide) (qm_5 (i := 36) rfl rfl) rfl rfl rfl tyX11_ok rfl nmX11 d_Mo_add_2 (?_ : WM _ 5 _ _ _ _)
  refine r_iload_n d_Mo_add_5 rfl (?_ : WM _ 6 _ _ _ _)
  refine r_i2l d_Mo_add_6 (?_ : WM _ 7 _ _ _ _)
  refine r_lconst 0 d_Mo_add_7 rfl (by decide) (?_ : WM _ 8 _ _ _ _)
  refine r_ldc2 99 d_Mo_add_8 (qm_5 (i := 221) rfl rfl) (by decide) (by decide) (?_ : WM _ 11 _ _ _ _)
  refine r_callS (ν := M_Mo_isIn) [vL x1, vL 0, vL 99] ok_M_Mo_isIn oks_M_Mo_isIn (qm_5 (i := 153) rfl rfl) np_M_Mo_isIn rfl (by decide) (Nat.le_of_ble_eq_true rfl) rfl d_Mo_add_11 (CI.k h (fun v2 σ1 h => (?_ : WM _ 14 _ _ _ _)))
  refine r_if_eq 43 d_Mo_add_14 rfl ⟨fun c3 => (?_ : WM _ 43 _ _ _ _), fun c3 => (?_ : WM _ 17 _ _ _ _)⟩
  · replace h := h.1 c3
    refine r_bipush d_Mo_add_43 (by decide) (by decide) (?_ : WM _ 45 _ _ _ _)
    exact r_ireturn rfl d_Mo_add_45 h
  · replace h := h.2 c3
    refine r_iload_n d_Mo_add_17 rfl (?_ : WM _ 18 _ _ _ _)
    refine r_i2l d_Mo_add_18 (?_ : WM _ 19 _ _ _ _)
    refine r_lconst 0 d_Mo_add_19 rfl (by decide) (?_ : WM _ 20 _ _ _ _)
    refine r_ldc2 9999 d_Mo_add_20 (qm_5 (i := 222) rfl rfl) (by decide) (by decide) (?_ : WM _ 23 _ _ _ _)
    refine r_callS (ν := M_Mo_isIn) [vL x2, vL 0, vL 9999] ok_M_Mo_isIn oks_M_Mo_isIn (qm_5 (i := 153) rfl rfl) np_M_Mo_isIn rfl (by decide) (Nat.le_of_ble_eq_true rfl) rfl d_Mo_add_23 (CI.k h (fun v5 σ4 h => (?_ : WM _ 26 _ _ _ _)))
    refine r_if_eq 43 d_Mo_add_26 rfl ⟨fun c6 => (?_ : WM _ 43 _ _ _ _), fun c6 => (?_ : WM _ 29 _ _ _ _)⟩
    · replace h := h.1 c6
      refine r_bipush d_Mo_add_43 (by decide) (by decide) (?_ : WM _ 45 _ _ _ _)
      exact r_ireturn rfl d_Mo_add_45 h
    · replace h := h.2 c6
      refine r_iload_n d_Mo_add_29 rfl (?_ : WM _ 30 _ _ _ _)
      refine r_i2l d_Mo_add_30 (?_ : WM _ 31 _ _ _ _)
      refine r_ldc2 (-99999) d_Mo_add_31 (qm_5 (i := 223) rfl rfl) (by decide) (by decide) (?_ : WM _ 34 _ _ _ _)
      refine r_ldc2 99999 d_Mo_add_34 (qm_5 (i := 224) rfl rfl) (by decide) (by decide) (?_ : WM _ 37 _ _ _ _)
      refine r_callS (ν := M_Mo_isIn) [vL x3, vL (-99999), vL 99999] ok_M_Mo_isIn oks_M_Mo_isIn (qm_5 (i := 153) rfl rfl) np_M_Mo_isIn rfl (by decide) (Nat.le_of_ble_eq_true rfl) rfl d_Mo_add_37 (CI.k h (fun v8 σ7 h => (?_ : WM _ 40 _ _ _ _)))
      refine r_if_ne 46 d_Mo_add_40 rfl ⟨fun c9 => (?_ : WM _ 46 _ _ _ _), fun c9 => (?_ : WM _ 43 _ _ _ _)⟩
      · replace h := h.1 c9
        refine r_aload_n d_Mo_add_46 rfl (?_ : WM _ 47 _ _ _ _)
        refine r_getI (k := 35) (j := 6) 6 (by decide) rfl clk_11 (by decide) (qm_5 (i := 42) rfl rfl) rfl rfl d_Mo_add_47 (y := (σ7 35 6)) rfl (?_ : WM _ 50 _ _ _ _)
        refine r_bipush d_Mo_add_50 (by decide) (by decide) (?_ : WM _ 52 _ _ _ _)
        refine r_icmp_ne 58 d_Mo_add_52 rfl ⟨fun c10 => (?_ : WM _ 58 _ _ _ _), fun c10 => (?_ : WM _ 55 _ _ _ _)⟩
        · replace h := h.1 c10
          refine r_aload_n d_Mo_add_58 rfl (?_ : WM _ 59 _ _ _ _)
          refine r_getI (k := 35) (j := 10) 10 (by decide) rfl clk_11 (by decide) (qm_5 (i := 46) rfl rfl) rfl rfl d_Mo_add_59 (y := (σ7 35 10)) rfl (?_ : WM _ 62 _ _ _ _)
          refine r_if_gt 82 d_Mo_add_62 rfl ⟨fun c11 => (?_ : WM _ 82 _ _ _ _), fun c11 => (?_ : WM _ 65 _ _ _ _)⟩
          · replace h := h.1 c11
            refine r_bipush d_Mo_add_82 (by decide) (by decide) (?_ : WM _ 84 _ _ _ _)
            exact r_ireturn rfl d_Mo_add_84 h
          · replace h := h.2 c11
            refine r_aload_n d_Mo_add_65 rfl (?_ : WM _ 66 _ _ _ _)
            refine r_getR (k := 35) (j := 4) (q := 39) (by decide) rfl clk_11 (by decide) (qm_5 (i := 40) rfl rfl) rfl d_Mo_add_66 (?_ : WM _ 69 _ _ _ _)
            refine r_aload_n d_Mo_add_69 rfl (?_ : WM _ 70 _ _ _ _)
            refine r_getI (k := 35) (j := 6) 6 (by decide) rfl clk_11 (by decide) (qm_5 (i := 42) rfl rfl) rfl rfl d_Mo_add_70 (y := (σ7 35 6)) rfl (?_ : WM _ 73 _ _ _ _)
            refine r_iload_n d_Mo_add_73 rfl (?_ : WM _ 74 _ _ _ _)
            refine r_iload_n d_Mo_add_74 rfl (?_ : WM _ 75 _ _ _ _)
            refine r_callS (ν := M_Mo_placeIn) [vR 39, vI (σ7 35 6), vI x1, vI x2] ok_M_Mo_placeIn oks_M_Mo_placeIn (qm_5 (i := 201) rfl rfl) np_M_Mo_placeIn rfl (by decide) (Nat.le_of_ble_eq_true rfl) rfl d_Mo_add_75 (CI.k h (fun v13 σ12 h => (?_ : WM _ 78 _ _ _ _)))
            refine r_iconst d_Mo_add_78 (by decide) (?_ : WM _ 79 _ _ _ _)
            refine r_icmp_eq 85 d_Mo_add_79 rfl ⟨fun c14 => (?_ : WM _ 85 _ _ _ _), fun c14 => (?_ : WM _ 82 _ _ _ _)⟩
            · replace h := h.1 c14
              refine r_iconst d_Mo_add_85 (by decide) (?_ : WM _ 86 _ _ _ _)
              refine r_aload_n d_Mo_add_86 rfl (?_ : WM _ 87 _ _ _ _)
              refine r_getI (k := 35) (j := 6) 6 (by decide) rfl clk_11 (by decide) (qm_5 (i := 42) rfl rfl) rfl rfl d_Mo_add_87 (y := (σ12 35 6)) rfl (?_ : WM _ 90 _ _ _ _)
              obtain ⟨h15, h⟩ := h
              refine r_imul d_Mo_add_90 h15 (?_ : WM _ 91 _ _ _ _)
              refine r_istore (ls' := [(4, vI (4 * (σ12 35 6))), (0, vR 35), (1, vI x1), (2, vI x2), (3, vI x3)]) d_Mo_add_91 (by decide) rfl (?_ : WM _ 93 _ _ _ _)
              refine r_aload_n d_Mo_add_93 rfl (?_ : WM _ 94 _ _ _ _)
              refine r_getR (k := 35) (j := 4) (q := 39) (by decide) rfl clk_11 (by decide) (qm_5 (i := 40) rfl rfl) rfl d_Mo_add_94 (?_ : WM _ 97 _ _ _ _)
              refine r_iload d_Mo_add_97 rfl (?_ : WM _ 99 _ _ _ _)
              refine r_iconst d_Mo_add_99 (by decide) (?_ : WM _ 100 _ _ _ _)
              obtain ⟨h16, h⟩ := h
              refine r_iadd d_Mo_add_100 h16 (?_ : WM _ 101 _ _ _ _)
              refine r_iload_n d_Mo_add_101 rfl (?_ : WM _ 102 _ _ _ _)
              obtain ⟨h17, h⟩ := h
              obtain ⟨h18, h⟩ := h
              refine r_iast (k := 39) (n := 192) (by decide) rfl d_Mo_add_102 h17 h18 (?_ : WM _ 103 _ _ _ _)
              refine r_aload_n d_Mo_add_103 rfl (?_ : WM _ 104 _ _ _ _)
              refine r_getR (k := 35) (j := 4) (q := 39) (by decide) rfl clk_11 (by decide) (qm_5 (i := 40) rfl rfl) rfl d_Mo_add_104 (?_ : WM _ 107 _ _ _ _)
              refine r_iload d_Mo_add_107 rfl (?_ : WM _ 109 _ _ _ _)
              refine r_iconst d_Mo_add_109 (by decide) (?_ : WM _ 110 _ _ _ _)
              obtain ⟨h19, h⟩ := h
              refine r_iadd d_Mo_add_110 h19 (?_ : WM _ 111 _ _ _ _)
              refine r_iload_n d_Mo_add_111 rfl (?_ : WM _ 112 _ _ _ _)
              obtain ⟨h20, h⟩ := h
              obtain ⟨h21, h⟩ := h
              refine r_iast (k := 39) (n := 192) (by decide) rfl d_Mo_add_112 h20 h21 (?_ : WM _ 113 _ _ _ _)
              refine r_aload_n d_Mo_add_113 rfl (?_ : WM _ 114 _ _ _ _)
              refine r_getR (k := 35) (j := 4) (q := 39) (by decide) rfl clk_11 (by decide) (qm_5 (i := 40) rfl rfl) rfl d_Mo_add_114 (?_ : WM _ 117 _ _ _ _)
              refine r_iload d_Mo_add_117 rfl (?_ : WM _ 119 _ _ _ _)
              refine r_iconst d_Mo_add_119 (by decide) (?_ : WM _ 120 _ _ _ _)
              obtain ⟨h22, h⟩ := h
              refine r_iadd d_Mo_add_120 h22 (?_ : WM _ 121 _ _ _ _)
              refine r_iload_n d_Mo_add_121 rfl (?_ : WM _ 122 _ _ _ _)
              obtain ⟨h23, h⟩ := h
              obtain ⟨h24, h⟩ := h
              refine r_iast (k := 39) (n := 192) (by decide) rfl d_Mo_add_122 h23 h24 (?_ : WM _ 123 _ _ _ _)
              refine r_aload_n d_Mo_add_123 rfl (?_ : WM _ 124 _ _ _ _)
              refine r_getR (k := 35) (j := 4) (q := 39) (by decide) rfl clk_11 (by decide) (qm_5 (i := 40) rfl rfl) rfl d_Mo_add_124 (?_ : WM _ 127 _ _ _ _)
              refine r_iload d_Mo_add_127 rfl (?_ : WM _ 129 _ _ _ _)
              refine r_iconst d_Mo_add_129 (by decide) (?_ : WM _ 130 _ _ _ _)
              obtain ⟨h25, h⟩ := h
              refine r_iadd d_Mo_add_130 h25 (?_ : WM _ 131 _ _ _ _)
              refine r_iconst d_Mo_add_131 (by decide) (?_ : WM _ 132 _ _ _ _)
              obtain ⟨h26, h⟩ := h
              obtain ⟨h27, h⟩ := h
              refine r_iast (k := 39) (n := 192) (by decide) rfl d_Mo_add_132 h26 h27 (?_ : WM _ 133 _ _ _ _)
              refine r_aload_n d_Mo_add_133 rfl (?_ : WM _ 134 _ _ _ _)
              refine r_dup d_Mo_add_134 rfl (?_ : WM _ 135 _ _ _ _)
              refine r_getI (k := 35) (j := 6) 6 (by decide) rfl clk_11 (by decide) (qm_5 (i := 42) rfl rfl) rfl rfl d_Mo_add_135 (y := (σ12 35 6)) ((ups_c (by decide)).trans ((ups_c (by decide)).trans ((ups_c (by decide)).trans (ups_c (by decide))))) (?_ : WM _ 138 _ _ _ _)
              refine r_iconst d_Mo_add_138 (by decide) (?_ : WM _ 139 _ _ _ _)
              obtain ⟨h28, h⟩ := h
              refine r_iadd d_Mo_add_139 h28 (?_ : WM _ 140 _ _ _ _)
              refine r_put (k := 35) (j := 6) 6 (by decide) rfl clk_11 (by decide) (qm_5 (i := 42) rfl rfl) rfl rfl rfl tyX11_ok rfl nmX11 d_Mo_add_140 (?_ : WM _ 143 _ _ _ _)
              refine r_aload_n d_Mo_add_143 rfl (?_ : WM _ 144 _ _ _ _)
              refine r_getI (k := 35) (j := 6) 6 (by decide) rfl clk_11 (by decide) (qm_5 (i := 42) rfl rfl) rfl rfl d_Mo_add_144 (y := ((σ12 35 6) + 1)) (ups_s) (?_ : WM _ 147 _ _ _ _)
              refine r_iconst d_Mo_add_147 (by decide) (?_ : WM _ 148 _ _ _ _)
              obtain ⟨h29, h⟩ := h
              refine r_isub d_Mo_add_148 h29 (?_ : WM _ 149 _ _ _ _)
              exact r_ireturn rfl d_Mo_add_149 h
            · replace h := h.2 c14
              refine r_bipush d_Mo_add_82 (by decide) (by decide) (?_ : WM _ 84 _ _ _ _)
              exact r_ireturn rfl d_Mo_add_84 h
        · replace h := h.2 c10
          refine r_bipush d_Mo_add_55 (by decide) (by decide) (?_ : WM _ 57 _ _ _ _)
          exact r_ireturn rfl d_Mo_add_57 h
      · replace h := h.2 c9
        refine r_bipush d_Mo_add_43 (by decide) (by decide) (?_ : WM _ 45 _ _ _ _)
        exact r_ireturn rfl d_Mo_add_45 h
set_option maxRecDepth 20000 in
theorem e_Mo_post {K : Int → St → Prop} {σ : St} (x1 : Int) (x2 : Int) (h : CI M_Mo_isItem [vR 35, vI x1] (ups σ 35 0 0) (fun v2 σ1 => (v2 = 0 → K (-10000000) σ1) ∧ (¬ v2 = 0 → CI M_Mo_isIn [vL x2, vL (-99999), vL 99999] σ1 (fun v5 σ4 => (v5 = 0 → K (-10000000) σ4) ∧ (¬ v5 = 0 → ((σ4 35 10) ≤ 0 → CI M_Mo_book [vR 35, vI x1] σ4 (fun v9 σ8 => (inR (4 * x1)) ∧ (inR ((4 * x1) + 2)) ∧ (0 ≤ ((4 * x1) + 2)) ∧ (((4 * x1) + 2) < 192) ∧ (inR ((4 * x1) + 3)) ∧ (0 ≤ ((4 * x1) + 3)) ∧ (((4 * x1) + 3) < 192) ∧ K v9 (ups (ups σ8 39 ((4 * x1) + 2) x2) 39 ((4 * x1) + 3) (-1)))) ∧ (¬ (σ4 35 10) ≤ 0 → K (-10000000) σ4)))))) : CI M_Mo_post [vR 35, vI x1, vI x2] σ K := by
  refine Con.of ok_M_Mo_post (ls := [(0, vR 35), (1, vI x1), (2, vI x2)]) rfl (Nat.le_of_ble_eq_true rfl) ?_
  refine r_aload_n d_Mo_post_0 rfl (?_ : WM _ 1 _ _ _ _)
  refine r_iconst d_Mo_post_1 (by decide) (?_ : WM _ 2 _ _ _ _)
  refine r_put (k := 35) (j := 0) 0 (by decide) rfl clk_11 (by decide) (qm_5 (i := 36) rfl rfl) rfl rfl rfl tyX11_ok rfl nmX11 d_Mo_post_2 (?_ : WM _ 5 _ _ _ _)
  refine r_aload_n d_Mo_post_5 rfl (?_ : WM _ 6 _ _ _ _)
  refine r_iload_n d_Mo_post_6 rfl (?_ : WM _ 7 _ _ _ _)
  refine r_callV (ν := M_Mo_isItem) (k := 35) [vI x1] ok_M_Mo_isItem okv_M_Mo_isItem (by decide) rfl rfl rfl (qm_5 (i := 229) rfl rfl) np_M_Mo_isItem rfl (by decide) (Nat.le_of_ble_eq_true rfl) rfl d_Mo_post_7 (CI.k h (fun v2 σ1 h => (?_ : WM _ 10 _ _ _ _)))
  refine r_if_eq 34 d_Mo_post_10 rfl ⟨fun c3 => (?_ : WM _ 34 _ _ _ _), fun c3 => (?_ : WM _ 13 _ _ _ _)⟩
  · replace h := h.1 c3
    refine r_ldc (-10000000) d_Mo_post_34 (qm_5 (i := 233) rfl rfl) (by decide) (by decide) (?_ : WM _ 36 _ _ _ _)
    exact r_ireturn rfl d_Mo_post_36 h
  · replace h := h.2 c3
    refine r_iload_n d_Mo_post_13 rfl (?_ : WM _ 14 _ _ _ _)
    refine r_i2l d_Mo_post_14 (?_ : WM _ 15 _ _ _ _)
    refine r_ldc2 (-99999) d_Mo_post_15 (qm_5 (i := 223) rfl rfl) (by decide) (by decide) (?_ : WM _ 18 _ _ _ _)
    refine r_ldc2 99999 d_Mo_post_18 (qm_5 (i := 224) rfl rfl) (by decide) (by decide) (?_ : WM _ 21 _ _ _ _)
    refine r_callS (ν := M_Mo_isIn) [vL x2, vL (-99999), vL 99999] ok_M_Mo_isIn oks_M_Mo_isIn (qm_5 (i := 153) rfl rfl) np_M_Mo_isIn rfl (by decide) (Nat.le_of_ble_eq_true rfl) rfl d_Mo_post_21 (CI.k h (fun v5 σ4 h => (?_ : WM _ 24 _ _ _ _)))
    refine r_if_eq 34 d_Mo_post_24 rfl ⟨fun c6 => (?_ : WM _ 34 _ _ _ _), fun c6 => (?_ : WM _ 27 _ _ _ _)⟩
    · replace h := h.1 c6
      refine r_ldc (-10000000) d_Mo_post_34 (qm_5 (i := 233) rfl rfl) (by decide) (by decide) (?_ : WM _ 36 _ _ _ _)
      exact r_ireturn rfl d_Mo_post_36 h
    · replace h := h.2 c6
      refine r_aload_n d_Mo_post_27 rfl (?_ : WM _ 28 _ _ _ _)
      refine r_getI (k := 35) (j := 10) 10 (by decide) rfl clk_11 (by decide) (qm_5 (i := 46) rfl rfl) rfl rfl d_Mo_post_28 (y := (σ4 35 10)) rfl (?_ : WM _ 31 _ _ _ _)
      refine r_if_le 37 d_Mo_post_31 rfl ⟨fun c7 => (?_ : WM _ 37 _ _ _ _), fun c7 => (?_ : WM _ 34 _ _ _ _)⟩
      · replace h := h.1 c7
        refine r_aload_n d_Mo_post_37 rfl (?_ : WM _ 38 _ _ _ _)
        refine r_iload_n d_Mo_post_38 rfl (?_ : WM _ 39 _ _ _ _)
        refine r_callV (ν := M_Mo_book) (k := 35) [vI x1] ok_M_Mo_book okv_M_Mo_book (by decide) rfl rfl rfl (qm_5 (i := 234) rfl rfl) np_M_Mo_book rfl (by decide) (Nat.le_of_ble_eq_true rfl) rfl d_Mo_post_39 (CI.k h (fun v9 σ8 h => (?_ : WM _ 42 _ _ _ _)))
        refine r_istore_n (ls' := [(3, vI v9), (0, vR 35), (1, vI x1), (2, vI x2)]) d_Mo_post_42 rfl (by decide) rfl (?_ : WM _ 43 _ _ _ _)
        refine r_aload_n d_Mo_post_43 rfl (?_ : WM _ 44 _ _ _ _)
        refine r_getR (k := 35) (j := 4) (q := 39) (by decide) rfl clk_11 (by decide) (qm_5 (i := 40) rfl rfl) rfl d_Mo_post_44 (?_ : WM _ 47 _ _ _ _)
        refine r_iconst d_Mo_post_47 (by decide) (?_ : WM _ 48 _ _ _ _)
        refine r_iload_n d_Mo_post_48 rfl (?_ : WM _ 49 _ _ _ _)
        obtain ⟨h10, h⟩ := h
        refine r_imul d_Mo_post_49 h10 (?_ : WM _ 50 _ _ _ _)
        refine r_iconst d_Mo_post_50 (by decide) (?_ : WM _ 51 _ _ _ _)
        obtain ⟨h11, h⟩ := h
        refine r_iadd d_Mo_post_51 h11 (?_ : WM _ 52 _ _ _ _)
        refine r_iload_n d_Mo_post_52 rfl (?_ : WM _ 53 _ _ _ _)
        obtain ⟨h12, h⟩ := h
        obtain ⟨h13, h⟩ := h
        refine r_iast (k := 39) (n := 192) (by decide) rfl d_Mo_post_53 h12 h13 (?_ : WM _ 54 _ _ _ _)
        refine r_aload_n d_Mo_post_54 rfl (?_ : WM _ 55 _ _ _ _)
        refine r_getR (k := 35) (j := 4) (q := 39) (by decide) rfl clk_11 (by decide) (qm_5 (i := 40) rfl rfl) rfl d_Mo_post_55 (?_ : WM _ 58 _ _ _ _)
        refine r_iconst d_Mo_post_58 (by decide) (?_ : WM _ 59 _ _ _ _)
        refine r_iload_n d_Mo_post_59 rfl (?_ : WM _ 60 _ _ _ _)
        refine r_imul d_Mo_post_60 h10 (?_ : WM _ 61 _ _ _ _)
        refine r_iconst d_Mo_post_61 (by decide) (?_ : WM _ 62 _ _ _ _)
        obtain ⟨h14, h⟩ := h
        refine r_iadd d_Mo_post_62 h14 (?_ : WM _ 63 _ _ _ _)
        refine r_iconst d_Mo_post_63 (by decide) (?_ : WM _ 64 _ _ _ _)
        obtain ⟨h15, h⟩ := h
        obtain ⟨h16, h⟩ := h
        refine r_iast (k := 39) (n := 192) (by decide) rfl d_Mo_post_64 h15 h16 (?_ : WM _ 65 _ _ _ _)
        refine r_iload_n d_Mo_post_65 rfl (?_ : WM _ 66 _ _ _ _)
        exact r_ireturn rfl d_Mo_post_66 h
      · replace h := h.2 c7
        refine r_ldc (-10000000) d_Mo_post_34 (qm_5 (i := 233) rfl rfl) (by decide) (by decide) (?_ : WM _ 36 _ _ _ _)
        exact r_ireturn rfl d_Mo_post_36 h
set_option maxRecDepth 20000 in
theorem e_Mo_audit {K : Int → St → Prop} {σ : St} (x1 : Int) (x2 : Int) (h : CI M_Mo_isItem [vR 35, vI x1] (ups σ 35 0 0) (fun v2 σ1 => (¬ v2 = 0 → CI M_Mo_isAudit [vR 35, vI x1, vI x2] σ1 (fun v5 σ4 => (¬ v5 = 0 → CI M_Mo_coinsOf [vR 35, vI x1] σ4 (fun v8 σ7 => (¬ v8 = 0 → CI M_Mo_audited [vR 35, vI x1] σ7 (fun v11 σ10 => (inR (4 * x1)) ∧ (inR ((4 * x1) + 3)) ∧ (0 ≤ ((4 * x1) + 3)) ∧ (((4 * x1) + 3) < 192) ∧ K v11 (ups σ10 39 ((4 * x1) + 3) x2))) ∧ (v8 = 0 → K (-5) σ7))) ∧ (v5 = 0 → K (-3) σ4))) ∧ (v2 = 0 → K (-2) σ1))) : CI M_Mo_audit [vR 35, vI x1, vI x2] σ K := by
  refine Con.of ok_M_Mo_audit (ls := [(0, vR 35), (1, vI x1), (2, vI x2)]) rfl (Nat.le_of_ble_eq_true rfl) ?_
  refine r_aload_n d_Mo_audit_0 rfl (?_ : WM _ 1 _ _ _ _)
  refine r_iconst d_Mo_audit_1 (by decide) (?_ : WM _ 2 _ _ _ _)
  refine r_put (k := 35) (j := 0) 0 (by decide) rfl clk_11 (by decide) (qm_5 (i := 36) rfl rfl) rfl rfl rfl tyX11_ok rfl nmX11 d_Mo_audit_2 (?_ : WM _ 5 _ _ _ _)
  refine r_aload_n d_Mo_audit_5 rfl (?_ : WM _ 6 _ _ _ _)
  refine r_iload_n d_Mo_audit_6 rfl (?_ : WM _ 7 _ _ _ _)
  refine r_callV (ν := M_Mo_isItem) (k := 35) [vI x1] ok_M_Mo_isItem okv_M_Mo_isItem (by decide) rfl rfl rfl (qm_5 (i := 229) rfl rfl) np_M_Mo_isItem rfl (by decide) (Nat.le_of_ble_eq_true rfl) rfl d_Mo_audit_7 (CI.k h (fun v2 σ1 h => (?_ : WM _ 10 _ _ _ _)))
  refine r_if_ne 16 d_Mo_audit_10 rfl ⟨fun c3 => (?_ : WM _ 16 _ _ _ _), fun c3 => (?_ : WM _ 13 _ _ _ _)⟩
  · replace h := h.1 c3
    refine r_aload_n d_Mo_audit_16 rfl (?_ : WM _ 17 _ _ _ _)
    refine r_iload_n d_Mo_audit_17 rfl (?_ : WM _ 18 _ _ _ _)
    refine r_iload_n d_Mo_audit_18 rfl (?_ : WM _ 19 _ _ _ _)
    refine r_callV (ν := M_Mo_isAudit) (k := 35) [vI x1, vI x2] ok_M_Mo_isAudit okv_M_Mo_isAudit (by decide) rfl rfl rfl (qm_6 (i := 2) rfl rfl) np_M_Mo_isAudit rfl (by decide) (Nat.le_of_ble_eq_true rfl) rfl d_Mo_audit_19 (CI.k h (fun v5 σ4 h => (?_ : WM _ 22 _ _ _ _)))
    refine r_if_ne 28 d_Mo_audit_22 rfl ⟨fun c6 => (?_ : WM _ 28 _ _ _ _), fun c6 => (?_ : WM _ 25 _ _ _ _)⟩
    · replace h := h.1 c6
      refine r_aload_n d_Mo_audit_28 rfl (?_ : WM _ 29 _ _ _ _)
      refine r_iload_n d_Mo_audit_29 rfl (?_ : WM _ 30 _ _ _ _)
      refine r_callV (ν := M_Mo_coinsOf) (k := 35) [vI x1] ok_M_Mo_coinsOf okv_M_Mo_coinsOf (by decide) rfl rfl rfl (qm_6 (i := 7) rfl rfl) np_M_Mo_coinsOf rfl (by decide) (Nat.le_of_ble_eq_true rfl) rfl d_Mo_audit_30 (CI.k h (fun v8 σ7 h => (?_ : WM _ 33 _ _ _ _)))
      refine r_if_ne 39 d_Mo_audit_33 rfl ⟨fun c9 => (?_ : WM _ 39 _ _ _ _), fun c9 => (?_ : WM _ 36 _ _ _ _)⟩
      · replace h := h.1 c9
        refine r_aload_n d_Mo_audit_39 rfl (?_ : WM _ 40 _ _ _ _)
        refine r_iload_n d_Mo_audit_40 rfl (?_ : WM _ 41 _ _ _ _)
        refine r_callV (ν := M_Mo_audited) (k := 35) [vI x1] ok_M_Mo_audited okv_M_Mo_audited (by decide) rfl rfl rfl (qm_6 (i := 11) rfl rfl) np_M_Mo_audited rfl (by decide) (Nat.le_of_ble_eq_true rfl) rfl d_Mo_audit_41 (CI.k h (fun v11 σ10 h => (?_ : WM _ 44 _ _ _ _)))
        refine r_istore_n (ls' := [(3, vI v11), (0, vR 35), (1, vI x1), (2, vI x2)]) d_Mo_audit_44 rfl (by decide) rfl (?_ : WM _ 45 _ _ _ _)
        refine r_aload_n d_Mo_audit_45 rfl (?_ : WM _ 46 _ _ _ _)
        refine r_getR (k := 35) (j := 4) (q := 39) (by decide) rfl clk_11 (by decide) (qm_5 (i := 40) rfl rfl) rfl d_Mo_audit_46 (?_ : WM _ 49 _ _ _ _)
        refine r_iconst d_Mo_audit_49 (by decide) (?_ : WM _ 50 _ _ _ _)
        refine r_iload_n d_Mo_audit_50 rfl (?_ : WM _ 51 _ _ _ _)
        obtain ⟨h12, h⟩ := h
        refine r_imul d_Mo_audit_51 h12 (?_ : WM _ 52 _ _ _ _)
        refine r_iconst d_Mo_audit_52 (by decide) (?_ : WM _ 53 _ _ _ _)
        obtain ⟨h13, h⟩ := h
        refine r_iadd d_Mo_audit_53 h13 (?_ : WM _ 54 _ _ _ _)
        refine r_iload_n d_Mo_audit_54 rfl (?_ : WM _ 55 _ _ _ _)
        obtain ⟨h14, h⟩ := h
        obtain ⟨h15, h⟩ := h
        refine r_iast (k := 39) (n := 192) (by decide) rfl d_Mo_audit_55 h14 h15 (?_ : WM _ 56 _ _ _ _)
        refine r_iload_n d_Mo_audit_56 rfl (?_ : WM _ 57 _ _ _ _)
        exact r_ireturn rfl d_Mo_audit_57 h
      · replace h := h.2 c9
        refine r_bipush d_Mo_audit_36 (by decide) (by decide) (?_ : WM _ 38 _ _ _ _)
        exact r_ireturn rfl d_Mo_audit_38 h
    · replace h := h.2 c6
      refine r_bipush d_Mo_audit_25 (by decide) (by decide) (?_ : WM _ 27 _ _ _ _)
      exact r_ireturn rfl d_Mo_audit_27 h
  · replace h := h.2 c3
    refine r_bipush d_Mo_audit_13 (by decide) (by decide) (?_ : WM _ 15 _ _ _ _)
    exact r_ireturn rfl d_Mo_audit_15 h
set_option maxRecDepth 20000 in
theorem e_Mo_forget {K : Int → St → Prop} {σ : St} (x1 : Int) (h : CI M_Mo_isItem [vR 35, vI x1] (ups σ 35 0 0) (fun v2 σ1 => (¬ v2 = 0 → CI M_Mo_audited [vR 35, vI x1] σ1 (fun v5 σ4 => (inR (4 * x1)) ∧ (inR ((4 * x1) + 3)) ∧ (0 ≤ ((4 * x1) + 3)) ∧ (((4 * x1) + 3) < 192) ∧ K v5 (ups σ4 39 ((4 * x1) + 3) (-1)))) ∧ (v2 = 0 → K (-2) σ1))) : CI M_Mo_forget [vR 35, vI x1] σ K := by
  refine Con.of ok_M_Mo_forget (ls := [(0, vR 35), (1, vI x1)]) rfl (Nat.le_of_ble_eq_true rfl) ?_
  refine r_aload_n d_Mo_forget_0 rfl (?_ : WM _ 1 _ _ _ _)
  refine r_iconst d_Mo_forget_1 (by decide) (?_ : WM _ 2 _ _ _ _)
  refine r_put (k := 35) (j := 0) 0 (by decide) rfl clk_11 (by decide) (qm_5 (i := 36) rfl rfl) rfl rfl rfl tyX11_ok rfl nmX11 d_Mo_forget_2 (?_ : WM _ 5 _ _ _ _)
  refine r_aload_n d_Mo_forget_5 rfl (?_ : WM _ 6 _ _ _ _)
  refine r_iload_n d_Mo_forget_6 rfl (?_ : WM _ 7 _ _ _ _)
  refine r_callV (ν := M_Mo_isItem) (k := 35) [vI x1] ok_M_Mo_isItem okv_M_Mo_isItem (by decide) rfl rfl rfl (qm_5 (i := 229) rfl rfl) np_M_Mo_isItem rfl (by decide) (Nat.le_of_ble_eq_true rfl) rfl d_Mo_forget_7 (CI.k h (fun v2 σ1 h => (?_ : WM _ 10 _ _ _ _)))
  refine r_if_ne 16 d_Mo_forget_10 rfl ⟨fun c3 => (?_ : WM _ 16 _ _ _ _), fun c3 => (?_ : WM _ 13 _ _ _ _)⟩
  · replace h := h.1 c3
    refine r_aload_n d_Mo_forget_16 rfl (?_ : WM _ 17 _ _ _ _)
    refine r_iload_n d_Mo_forget_17 rfl (?_ : WM _ 18 _ _ _ _)
    refine r_callV (ν := M_Mo_audited) (k := 35) [vI x1] ok_M_Mo_audited okv_M_Mo_audited (by decide) rfl rfl rfl (qm_6 (i := 11) rfl rfl) np_M_Mo_audited rfl (by decide) (Nat.le_of_ble_eq_true rfl) rfl d_Mo_forget_18 (CI.k h (fun v5 σ4 h => (?_ : WM _ 21 _ _ _ _)))
    refine r_istore_n (ls' := [(2, vI v5), (0, vR 35), (1, vI x1)]) d_Mo_forget_21 rfl (by decide) rfl (?_ : WM _ 22 _ _ _ _)
    refine r_aload_n d_Mo_forget_22 rfl (?_ : WM _ 23 _ _ _ _)
    refine r_getR (k := 35) (j := 4) (q := 39) (by decide) rfl clk_11 (by decide) (qm_5 (i := 40) rfl rfl) rfl d_Mo_forget_23 (?_ : WM _ 26 _ _ _ _)
    refine r_iconst d_Mo_forget_26 (by decide) (?_ : WM _ 27 _ _ _ _)
    refine r_iload_n d_Mo_forget_27 rfl (?_ : WM _ 28 _ _ _ _)
    obtain ⟨h6, h⟩ := h
    refine r_imul d_Mo_forget_28 h6 (?_ : WM _ 29 _ _ _ _)
    refine r_iconst d_Mo_forget_29 (by decide) (?_ : WM _ 30 _ _ _ _)
    obtain ⟨h7, h⟩ := h
    refine r_iadd d_Mo_forget_30 h7 (?_ : WM _ 31 _ _ _ _)
    refine r_iconst d_Mo_forget_31 (by decide) (?_ : WM _ 32 _ _ _ _)
    obtain ⟨h8, h⟩ := h
    obtain ⟨h9, h⟩ := h
    refine r_iast (k := 39) (n := 192) (by decide) rfl d_Mo_forget_32 h8 h9 (?_ : WM _ 33 _ _ _ _)
    refine r_iload_n d_Mo_forget_33 rfl (?_ : WM _ 34 _ _ _ _)
    exact r_ireturn rfl d_Mo_forget_34 h
  · replace h := h.2 c3
    refine r_bipush d_Mo_forget_13 (by decide) (by decide) (?_ : WM _ 15 _ _ _ _)
    exact r_ireturn rfl d_Mo_forget_15 h
set_option maxRecDepth 20000 in
theorem e_Mo_interval {K : Int → St → Prop} {σ : St} (x1 : Int) (h : CI M_Mo_isIn [vL x1, vL 1, vL 99999] (ups σ 35 0 0) (fun v2 σ1 => (¬ v2 = 0 → ((σ1 35 10) ≤ 0 → CI M_Mo_certainMany [vR 35] (ups σ1 35 9 x1) (fun v6 σ5 => K v6 σ5)) ∧ (¬ (σ1 35 10) ≤ 0 → K (-5) σ1)) ∧ (v2 = 0 → K (-3) σ1))) : CI M_Mo_interval [vR 35, vI x1] σ K := by
  refine Con.of ok_M_Mo_interval (ls := [(0, vR 35), (1, vI x1)]) rfl (Nat.le_of_ble_eq_true rfl) ?_
  refine r_aload_n d_Mo_interval_0 rfl (?_ : WM _ 1 _ _ _ _)
  refine r_iconst d_Mo_interval_1 (by decide) (?_ : WM _ 2 _ _ _ _)
  refine r_put (k := 35) (j := 0) 0 (by decide) rfl clk_11 (by decide) (qm_5 (i := 36) rfl rfl) rfl rfl rfl tyX11_ok rfl nmX11 d_Mo_interval_2 (?_ : WM _ 5 _ _ _ _)
  refine r_iload_n d_Mo_interval_5 rfl (?_ : WM _ 6 _ _ _ _)
  refine r_i2l d_Mo_interval_6 (?_ : WM _ 7 _ _ _ _)
  refine r_lconst 1 d_Mo_interval_7 rfl (by decide) (?_ : WM _ 8 _ _ _ _)
  refine r_ldc2 99999 d_Mo_interval_8 (qm_5 (i := 224) rfl rfl) (by decide) (by decide) (?_ : WM _ 11 _ _ _ _)
  refine r_callS (ν := M_Mo_isIn) [vL x1, vL 1, vL 99999] ok_M_Mo_isIn oks_M_Mo_isIn (qm_5 (i := 153) rfl rfl) np_M_Mo_isIn rfl (by decide) (Nat.le_of_ble_eq_true rfl) rfl d_Mo_interval_11 (CI.k h (fun v2 σ1 h => (?_ : WM _ 14 _ _ _ _)))
  refine r_if_ne 20 d_Mo_interval_14 rfl ⟨fun c3 => (?_ : WM _ 20 _ _ _ _), fun c3 => (?_ : WM _ 17 _ _ _ _)⟩
  · replace h := h.1 c3
    refine r_aload_n d_Mo_interval_20 rfl (?_ : WM _ 21 _ _ _ _)
    refine r_getI (k := 35) (j := 10) 10 (by decide) rfl clk_11 (by decide) (qm_5 (i := 46) rfl rfl) rfl rfl d_Mo_interval_21 (y := (σ1 35 10)) rfl (?_ : WM _ 24 _ _ _ _)
    refine r_if_le 30 d_Mo_interval_24 rfl ⟨fun c4 => (?_ : WM _ 30 _ _ _ _), fun c4 => (?_ : WM _ 27 _ _ _ _)⟩
    · replace h := h.1 c4
      refine r_aload_n d_Mo_interval_30 rfl (?_ : WM _ 31 _ _ _ _)
      refine r_iload_n d_Mo_interval_31 rfl (?_ : WM _ 32 _ _ _ _)
      refine r_put (k := 35) (j := 9) 9 (by decide) rfl clk_11 (by decide) (qm_5 (i := 45) rfl rfl) rfl rfl rfl tyX11_ok rfl nmX11 d_Mo_interval_32 (?_ : WM _ 35 _ _ _ _)
      refine r_aload_n d_Mo_interval_35 rfl (?_ : WM _ 36 _ _ _ _)
      refine r_callV (ν := M_Mo_certainMany) (k := 35) [] ok_M_Mo_certainMany okv_M_Mo_certainMany (by decide) rfl rfl rfl (qm_6 (i := 23) rfl rfl) np_M_Mo_certainMany rfl (by decide) (Nat.le_of_ble_eq_true rfl) rfl d_Mo_interval_36 (CI.k h (fun v6 σ5 h => (?_ : WM _ 39 _ _ _ _)))
      exact r_ireturn rfl d_Mo_interval_39 h
    · replace h := h.2 c4
      refine r_bipush d_Mo_interval_27 (by decide) (by decide) (?_ : WM _ 29 _ _ _ _)
      exact r_ireturn rfl d_Mo_interval_29 h
  · replace h := h.2 c3
    refine r_bipush d_Mo_interval_17 (by decide) (by decide) (?_ : WM _ 19 _ _ _ _)
    exact r_ireturn rfl d_Mo_interval_19 h
set_option maxRecDepth 20000 in
theorem e_Mo_plan {K : Int → St → Prop} {σ : St}  (h : CI M_Mo_sizeBy [vR 35, vI (σ 36 0), vI (σ 36 2)] (ups σ 35 0 0) (fun v2 σ1 => (¬ v2 = (-1) → CI M_Mo_allCoins [vR 35] σ1 (fun v5 σ4 => (v5 = 0 → K (-5) σ4) ∧ (¬ v5 = 0 → ((σ4 35 10) ≤ 0 → CI M_Mo_allCoins [vR 35] σ4 (fun v9 σ8 => (0 ≤ v9) ∧ (0 < v2) ∧ (¬ (v9 / v2) = 0 → K v2 (ups σ8 35 9 (v9 / v2))) ∧ ((v9 / v2) = 0 → K v2 (ups (ups σ8 35 9 (v9 / v2)) 35 9 1)))) ∧ (¬ (σ4 35 10) ≤ 0 → K (-5) σ4)))) ∧ (v2 = (-1) → K (-4) σ1))) : CI M_Mo_plan [vR 35] σ K := by
  refine Con.of ok_M_Mo_plan (ls := [(0, vR 35)]) rfl (Nat.le_of_ble_eq_true rfl) ?_
  refine r_aload_n d_Mo_plan_0 rfl (?_ : WM _ 1 _ _ _ _)
  refine r_iconst d_Mo_plan_1 (by decide) (?_ : WM _ 2 _ _ _ _)
  refine r_put (k := 35) (j := 0) 0 (by decide) rfl clk_11 (by decide) (qm_5 (i := 36) rfl rfl) rfl rfl rfl tyX11_ok rfl nmX11 d_Mo_plan_2 (?_ : WM _ 5 _ _ _ _)
  refine r_aload_n d_Mo_plan_5 rfl (?_ : WM _ 6 _ _ _ _)
  refine r_aload_n d_Mo_plan_6 rfl (?_ : WM _ 7 _ _ _ _)
  refine r_getR (k := 35) (j := 1) (q := 36) (by decide) rfl clk_11 (by decide) (qm_5 (i := 37) rfl rfl) rfl d_Mo_plan_7 (?_ : WM _ 10 _ _ _ _)
  refine r_iconst d_Mo_plan_10 (by decide) (?_ : WM _ 11 _ _ _ _)
  refine r_iald (k := 36) (n := 5) (by decide) rfl d_Mo_plan_11 (by decide) (by decide) (y := (σ 36 0)) (ups_c (by decide)) (?_ : WM _ 12 _ _ _ _)
  refine r_aload_n d_Mo_plan_12 rfl (?_ : WM _ 13 _ _ _ _)
  refine r_getR (k := 35) (j := 1) (q := 36) (by decide) rfl clk_11 (by decide) (qm_5 (i := 37) rfl rfl) rfl d_Mo_plan_13 (?_ : WM _ 16 _ _ _ _)
  refine r_iconst d_Mo_plan_16 (by decide) (?_ : WM _ 17 _ _ _ _)
  refine r_iald (k := 36) (n := 5) (by decide) rfl d_Mo_plan_17 (by decide) (by decide) (y := (σ 36 2)) (ups_c (by decide)) (?_ : WM _ 18 _ _ _ _)
  refine r_callV (ν := M_Mo_sizeBy) (k := 35) [vI (σ 36 0), vI (σ 36 2)] ok_M_Mo_sizeBy okv_M_Mo_sizeBy (by decide) rfl rfl rfl (qm_6 (i := 38) rfl rfl) np_M_Mo_sizeBy rfl (by decide) (Nat.le_of_ble_eq_true rfl) rfl d_Mo_plan_18 (CI.k h (fun v2 σ1 h => (?_ : WM _ 21 _ _ _ _)))
  refine r_istore_n (ls' := [(1, vI v2), (0, vR 35)]) d_Mo_plan_21 rfl (by decide) rfl (?_ : WM _ 22 _ _ _ _)
  refine r_iload_n d_Mo_plan_22 rfl (?_ : WM _ 23 _ _ _ _)
  refine r_iconst d_Mo_plan_23 (by decide) (?_ : WM _ 24 _ _ _ _)
  refine r_icmp_ne 30 d_Mo_plan_24 rfl ⟨fun c3 => (?_ : WM _ 30 _ _ _ _), fun c3 => (?_ : WM _ 27 _ _ _ _)⟩
  · replace h := h.1 c3
    refine r_aload_n d_Mo_plan_30 rfl (?_ : WM _ 31 _ _ _ _)
    refine r_callV (ν := M_Mo_allCoins) (k := 35) [] ok_M_Mo_allCoins okv_M_Mo_allCoins (by decide) rfl rfl rfl (qm_6 (i := 42) rfl rfl) np_M_Mo_allCoins rfl (by decide) (Nat.le_of_ble_eq_true rfl) rfl d_Mo_plan_31 (CI.k h (fun v5 σ4 h => (?_ : WM _ 34 _ _ _ _)))
    refine r_if_eq 44 d_Mo_plan_34 rfl ⟨fun c6 => (?_ : WM _ 44 _ _ _ _), fun c6 => (?_ : WM _ 37 _ _ _ _)⟩
    · replace h := h.1 c6
      refine r_bipush d_Mo_plan_44 (by decide) (by decide) (?_ : WM _ 46 _ _ _ _)
      exact r_ireturn rfl d_Mo_plan_46 h
    · replace h := h.2 c6
      refine r_aload_n d_Mo_plan_37 rfl (?_ : WM _ 38 _ _ _ _)
      refine r_getI (k := 35) (j := 10) 10 (by decide) rfl clk_11 (by decide) (qm_5 (i := 46) rfl rfl) rfl rfl d_Mo_plan_38 (y := (σ4 35 10)) rfl (?_ : WM _ 41 _ _ _ _)
      refine r_if_le 47 d_Mo_plan_41 rfl ⟨fun c7 => (?_ : WM _ 47 _ _ _ _), fun c7 => (?_ : WM _ 44 _ _ _ _)⟩
      · replace h := h.1 c7
        refine r_aload_n d_Mo_plan_47 rfl (?_ : WM _ 48 _ _ _ _)
        refine r_aload_n d_Mo_plan_48 rfl (?_ : WM _ 49 _ _ _ _)
        refine r_callV (ν := M_Mo_allCoins) (k := 35) [] ok_M_Mo_allCoins okv_M_Mo_allCoins (by decide) rfl rfl rfl (qm_6 (i := 42) rfl rfl) np_M_Mo_allCoins rfl (by decide) (Nat.le_of_ble_eq_true rfl) rfl d_Mo_plan_49 (CI.k h (fun v9 σ8 h => (?_ : WM _ 52 _ _ _ _)))
        refine r_iload_n d_Mo_plan_52 rfl (?_ : WM _ 53 _ _ _ _)
        obtain ⟨h10, h⟩ := h
        obtain ⟨h11, h⟩ := h
        refine r_idivn d_Mo_plan_53 h10 h11 (?_ : WM _ 54 _ _ _ _)
        refine r_put (k := 35) (j := 9) 9 (by decide) rfl clk_11 (by decide) (qm_5 (i := 45) rfl rfl) rfl rfl rfl tyX11_ok rfl nmX11 d_Mo_plan_54 (?_ : WM _ 57 _ _ _ _)
        refine r_aload_n d_Mo_plan_57 rfl (?_ : WM _ 58 _ _ _ _)
        refine r_getI (k := 35) (j := 9) 9 (by decide) rfl clk_11 (by decide) (qm_5 (i := 45) rfl rfl) rfl rfl d_Mo_plan_58 (y := (v9 / v2)) (ups_s) (?_ : WM _ 61 _ _ _ _)
        refine r_if_ne 69 d_Mo_plan_61 rfl ⟨fun c12 => (?_ : WM _ 69 _ _ _ _), fun c12 => (?_ : WM _ 64 _ _ _ _)⟩
        · replace h := h.1 c12
          refine r_iload_n d_Mo_plan_69 rfl (?_ : WM _ 70 _ _ _ _)
          exact r_ireturn rfl d_Mo_plan_70 h
        · replace h := h.2 c12
          refine r_aload_n d_Mo_plan_64 rfl (?_ : WM _ 65 _ _ _ _)
          refine r_iconst d_Mo_plan_65 (by decide) (?_ : WM _ 66 _ _ _ _)
          refine r_put (k := 35) (j := 9) 9 (by decide) rfl clk_11 (by decide) (qm_5 (i := 45) rfl rfl) rfl rfl rfl tyX11_ok rfl nmX11 d_Mo_plan_66 (?_ : WM _ 69 _ _ _ _)
          refine r_iload_n d_Mo_plan_69 rfl (?_ : WM _ 70 _ _ _ _)
          exact r_ireturn rfl d_Mo_plan_70 h
      · replace h := h.2 c7
        refine r_bipush d_Mo_plan_44 (by decide) (by decide) (?_ : WM _ 46 _ _ _ _)
        exact r_ireturn rfl d_Mo_plan_46 h
  · replace h := h.2 c3
    refine r_bipush d_Mo_plan_27 (by decide) (by decide) (?_ : WM _ 29 _ _ _ _)
    exact r_ireturn rfl d_Mo_plan_29 h
set_option maxRecDepth 20000 in
theorem e_Mo_draw {K : Int → St → Prop} {σ : St}  (h : ((σ 35 9) ≤ 0 → (¬ (σ 35 9) = 0 → CI M_Mo_drawnStart [vR 35] (ups σ 35 0 0) (fun v4 σ3 => (0 ≤ (σ 35 10)) ∧ ((σ 35 10) < 5) ∧ (inR ((σ3 35 10) + 1)) ∧ (inR (((σ3 35 10) + 1) - 1)) ∧ (0 ≤ (((σ3 35 10) + 1) - 1)) ∧ ((((σ3 35 10) + 1) - 1) < 5) ∧ K ((ups σ3 41 (σ 35 10) v4) 41 (((σ3 35 10) + 1) - 1)) (ups (ups σ3 41 (σ 35 10) v4) 35 10 ((σ3 35 10) + 1)))) ∧ ((σ 35 9) = 0 → K (-5) (ups σ 35 0 0))) ∧ (¬ (σ 35 9) ≤ 0 → ((σ 35 10) = 5 → K (-4) (ups σ 35 0 0)) ∧ (¬ (σ 35 10) = 5 → ((σ 35 10) < (σ 35 9) → (¬ (σ 35 9) = 0 → CI M_Mo_drawnStart [vR 35] (ups σ 35 0 0) (fun v15 σ14 => (0 ≤ (σ 35 10)) ∧ ((σ 35 10) < 5) ∧ (inR ((σ14 35 10) + 1)) ∧ (inR (((σ14 35 10) + 1) - 1)) ∧ (0 ≤ (((σ14 35 10) + 1) - 1)) ∧ ((((σ14 35 10) + 1) - 1) < 5) ∧ K ((ups σ14 41 (σ 35 10) v15) 41 (((σ14 35 10) + 1) - 1)) (ups (ups σ14 41 (σ 35 10) v15) 35 10 ((σ14 35 10) + 1)))) ∧ ((σ 35 9) = 0 → K (-5) (ups σ 35 0 0))) ∧ (¬ (σ 35 10) < (σ 35 9) → K (-4) (ups σ 35 0 0))))) : CI M_Mo_draw [vR 35] σ K := by
  refine Con.of ok_M_Mo_draw (ls := [(0, vR 35)]) rfl (Nat.le_of_ble_eq_true rfl) ?_
  refine r_aload_n d_Mo_draw_0 rfl (?_ : WM _ 1 _ _ _ _)
  refine r_iconst d_Mo_draw_1 (by decide) (?_ : WM _ 2 _ _ _ _)
  refine r_put (k := 35) (j := 0) 0 (by decide) rfl clk_11 (by decide) (qm_5 (i := 36) rfl rfl) rfl rfl rfl tyX11_ok rfl nmX11 d_Mo_draw_2 (?_ : WM _ 5 _ _ _ _)
  refine r_aload_n d_Mo_draw_5 rfl (?_ : WM _ 6 _ _ _ _)
  refine r_getI (k := 35) (j := 9) 9 (by decide) rfl clk_11 (by decide) (qm_5 (i := 45) rfl rfl) rfl rfl d_Mo_draw_6 (y := (σ 35 9)) (ups_f (by decide)) (?_ : WM _ 9 _ _ _ _)
  refine r_if_le 34 d_Mo_draw_9 rfl ⟨fun c1 => (?_ : WM _ 34 _ _ _ _), fun c1 => (?_ : WM _ 12 _ _ _ _)⟩
  · replace h := h.1 c1
    refine r_aload_n d_Mo_draw_34 rfl (?_ : WM _ 35 _ _ _ _)
    refine r_getI (k := 35) (j := 9) 9 (by decide) rfl clk_11 (by decide) (qm_5 (i := 45) rfl rfl) rfl rfl d_Mo_draw_35 (y := (σ 35 9)) (ups_f (by decide)) (?_ : WM _ 38 _ _ _ _)
    refine r_if_ne 44 d_Mo_draw_38 rfl ⟨fun c2 => (?_ : WM _ 44 _ _ _ _), fun c2 => (?_ : WM _ 41 _ _ _ _)⟩
    · replace h := h.1 c2
      refine r_aload_n d_Mo_draw_44 rfl (?_ : WM _ 45 _ _ _ _)
      refine r_getR (k := 35) (j := 8) (q := 41) (by decide) rfl clk_11 (by decide) (qm_5 (i := 44) rfl rfl) rfl d_Mo_draw_45 (?_ : WM _ 48 _ _ _ _)
      refine r_aload_n d_Mo_draw_48 rfl (?_ : WM _ 49 _ _ _ _)
      refine r_getI (k := 35) (j := 10) 10 (by decide) rfl clk_11 (by decide) (qm_5 (i := 46) rfl rfl) rfl rfl d_Mo_draw_49 (y := (σ 35 10)) (ups_f (by decide)) (?_ : WM _ 52 _ _ _ _)
      refine r_aload_n d_Mo_draw_52 rfl (?_ : WM _ 53 _ _ _ _)
      refine r_callV (ν := M_Mo_drawnStart) (k := 35) [] ok_M_Mo_drawnStart okv_M_Mo_drawnStart (by decide) rfl rfl rfl (qm_6 (i := 65) rfl rfl) np_M_Mo_drawnStart rfl (by decide) (Nat.le_of_ble_eq_true rfl) rfl d_Mo_draw_53 (CI.k h (fun v4 σ3 h => (?_ : WM _ 56 _ _ _ _)))
      obtain ⟨h5, h⟩ := h
      obtain ⟨h6, h⟩ := h
      refine r_iast (k := 41) (n := 5) (by decide) rfl d_Mo_draw_56 h5 h6 (?_ : WM _ 57 _ _ _ _)
      refine r_aload_n d_Mo_draw_57 rfl (?_ : WM _ 58 _ _ _ _)
      refine r_dup d_Mo_draw_58 rfl (?_ : WM _ 59 _ _ _ _)
      refine r_getI (k := 35) (j := 10) 10 (by decide) rfl clk_11 (by decide) (qm_5 (i := 46) rfl rfl) rfl rfl d_Mo_draw_59 (y := (σ3 35 10)) (ups_c (by decide)) (?_ : WM _ 62 _ _ _ _)
      refine r_iconst d_Mo_draw_62 (by decide) (?_ : WM _ 63 _ _ _ _)
      obtain ⟨h7, h⟩ := h
      refine r_iadd d_Mo_draw_63 h7 (?_ : WM _ 64 _ _ _ _)
      refine r_put (k := 35) (j := 10) 10 (by decide) rfl clk_11 (by decide) (qm_5 (i := 46) rfl rfl) rfl rfl rfl tyX11_ok rfl nmX11 d_Mo_draw_64 (?_ : WM _ 67 _ _ _ _)
      refine r_aload_n d_Mo_draw_67 rfl (?_ : WM _ 68 _ _ _ _)
      refine r_getR (k := 35) (j := 8) (q := 41) (by decide) rfl clk_11 (by decide) (qm_5 (i := 44) rfl rfl) rfl d_Mo_draw_68 (?_ : WM _ 71 _ _ _ _)
      refine r_aload_n d_Mo_draw_71 rfl (?_ : WM _ 72 _ _ _ _)
      refine r_getI (k := 35) (j := 10) 10 (by decide) rfl clk_11 (by decide) (qm_5 (i := 46) rfl rfl) rfl rfl d_Mo_draw_72 (y := ((σ3 35 10) + 1)) (ups_s) (?_ : WM _ 75 _ _ _ _)
      refine r_iconst d_Mo_draw_75 (by decide) (?_ : WM _ 76 _ _ _ _)
      obtain ⟨h8, h⟩ := h
      refine r_isub d_Mo_draw_76 h8 (?_ : WM _ 77 _ _ _ _)
      obtain ⟨h9, h⟩ := h
      obtain ⟨h10, h⟩ := h
      refine r_iald (k := 41) (n := 5) (by decide) rfl d_Mo_draw_77 h9 h10 (y := ((ups σ3 41 (σ 35 10) v4) 41 (((σ3 35 10) + 1) - 1))) (ups_c (by decide)) (?_ : WM _ 78 _ _ _ _)
      exact r_ireturn rfl d_Mo_draw_78 h
    · replace h := h.2 c2
      refine r_bipush d_Mo_draw_41 (by decide) (by decide) (?_ : WM _ 43 _ _ _ _)
      exact r_ireturn rfl d_Mo_draw_43 h
  · replace h := h.2 c1
    refine r_aload_n d_Mo_draw_12 rfl (?_ : WM _ 13 _ _ _ _)
    refine r_getI (k := 35) (j := 10) 10 (by decide) rfl clk_11 (by decide) (qm_5 (i := 46) rfl rfl) rfl rfl d_Mo_draw_13 (y := (σ 35 10)) (ups_f (by decide)) (?_ : WM _ 16 _ _ _ _)
    refine r_iconst d_Mo_draw_16 (by decide) (?_ : WM _ 17 _ _ _ _)
    refine r_icmp_eq 31 d_Mo_draw_17 rfl ⟨fun c11 => (?_ : WM _ 31 _ _ _ _), fun c11 => (?_ : WM _ 20 _ _ _ _)⟩
    · replace h := h.1 c11
      refine r_bipush d_Mo_draw_31 (by decide) (by decide) (?_ : WM _ 33 _ _ _ _)
      exact r_ireturn rfl d_Mo_draw_33 h
    · replace h := h.2 c11
      refine r_aload_n d_Mo_draw_20 rfl (?_ : WM _ 21 _ _ _ _)
      refine r_getI (k := 35) (j := 10) 10 (by decide) rfl clk_11 (by decide) (qm_5 (i := 46) rfl rfl) rfl rfl d_Mo_draw_21 (y := (σ 35 10)) (ups_f (by decide)) (?_ : WM _ 24 _ _ _ _)
      refine r_aload_n d_Mo_draw_24 rfl (?_ : WM _ 25 _ _ _ _)
      refine r_getI (k := 35) (j := 9) 9 (by decide) rfl clk_11 (by decide) (qm_5 (i := 45) rfl rfl) rfl rfl d_Mo_draw_25 (y := (σ 35 9)) (ups_f (by decide)) (?_ : WM _ 28 _ _ _ _)
      refine r_icmp_lt 34 d_Mo_draw_28 rfl ⟨fun c12 => (?_ : WM _ 34 _ _ _ _), fun c12 => (?_ : WM _ 31 _ _ _ _)⟩
      · replace h := h.1 c12
        refine r_aload_n d_Mo_draw_34 rfl (?_ : WM _ 35 _ _ _ _)
        refine r_getI (k := 35) (j := 9) 9 (by decide) rfl clk_11 (by decide) (qm_5 (i := 45) rfl rfl) rfl rfl d_Mo_draw_35 (y := (σ 35 9)) (ups_f (by decide)) (?_ : WM _ 38 _ _ _ _)
        refine r_if_ne 44 d_Mo_draw_38 rfl ⟨fun c13 => (?_ : WM _ 44 _ _ _ _), fun c13 => (?_ : WM _ 41 _ _ _ _)⟩
        · replace h := h.1 c13
          refine r_aload_n d_Mo_draw_44 rfl (?_ : WM _ 45 _ _ _ _)
          refine r_getR (k := 35) (j := 8) (q := 41) (by decide) rfl clk_11 (by decide) (qm_5 (i := 44) rfl rfl) rfl d_Mo_draw_45 (?_ : WM _ 48 _ _ _ _)
          refine r_aload_n d_Mo_draw_48 rfl (?_ : WM _ 49 _ _ _ _)
          refine r_getI (k := 35) (j := 10) 10 (by decide) rfl clk_11 (by decide) (qm_5 (i := 46) rfl rfl) rfl rfl d_Mo_draw_49 (y := (σ 35 10)) (ups_f (by decide)) (?_ : WM _ 52 _ _ _ _)
          refine r_aload_n d_Mo_draw_52 rfl (?_ : WM _ 53 _ _ _ _)
          refine r_callV (ν := M_Mo_drawnStart) (k := 35) [] ok_M_Mo_drawnStart okv_M_Mo_drawnStart (by decide) rfl rfl rfl (qm_6 (i := 65) rfl rfl) np_M_Mo_drawnStart rfl (by decide) (Nat.le_of_ble_eq_true rfl) rfl d_Mo_draw_53 (CI.k h (fun v15 σ14 h => (?_ : WM _ 56 _ _ _ _)))
          obtain ⟨h16, h⟩ := h
          obtain ⟨h17, h⟩ := h
          refine r_iast (k := 41) (n := 5) (by decide) rfl d_Mo_draw_56 h16 h17 (?_ : WM _ 57 _ _ _ _)
          refine r_aload_n d_Mo_draw_57 rfl (?_ : WM _ 58 _ _ _ _)
          refine r_dup d_Mo_draw_58 rfl (?_ : WM _ 59 _ _ _ _)
          refine r_getI (k := 35) (j := 10) 10 (by decide) rfl clk_11 (by decide) (qm_5 (i := 46) rfl rfl) rfl rfl d_Mo_draw_59 (y := (σ14 35 10)) (ups_c (by decide)) (?_ : WM _ 62 _ _ _ _)
          refine r_iconst d_Mo_draw_62 (by decide) (?_ : WM _ 63 _ _ _ _)
          obtain ⟨h18, h⟩ := h
          refine r_iadd d_Mo_draw_63 h18 (?_ : WM _ 64 _ _ _ _)
          refine r_put (k := 35) (j := 10) 10 (by decide) rfl clk_11 (by decide) (qm_5 (i := 46) rfl rfl) rfl rfl rfl tyX11_ok rfl nmX11 d_Mo_draw_64 (?_ : WM _ 67 _ _ _ _)
          refine r_aload_n d_Mo_draw_67 rfl (?_ : WM _ 68 _ _ _ _)
          refine r_getR (k := 35) (j := 8) (q := 41) (by decide) rfl clk_11 (by decide) (qm_5 (i := 44) rfl rfl) rfl d_Mo_draw_68 (?_ : WM _ 71 _ _ _ _)
          refine r_aload_n d_Mo_draw_71 rfl (?_ : WM _ 72 _ _ _ _)
          refine r_getI (k := 35) (j := 10) 10 (by decide) rfl clk_11 (by decide) (qm_5 (i := 46) rfl rfl) rfl rfl d_Mo_draw_72 (y := ((σ14 35 10) + 1)) (ups_s) (?_ : WM _ 75 _ _ _ _)
          refine r_iconst d_Mo_draw_75 (by decide) (?_ : WM _ 76 _ _ _ _)
          obtain ⟨h19, h⟩ := h
          refine r_isub d_Mo_draw_76 h19 (?_ : WM _ 77 _ _ _ _)
          obtain ⟨h20, h⟩ := h
          obtain ⟨h21, h⟩ := h
          refine r_iald (k := 41) (n := 5) (by decide) rfl d_Mo_draw_77 h20 h21 (y := ((ups σ14 41 (σ 35 10) v15) 41 (((σ14 35 10) + 1) - 1))) (ups_c (by decide)) (?_ : WM _ 78 _ _ _ _)
          exact r_ireturn rfl d_Mo_draw_78 h
        · replace h := h.2 c13
          refine r_bipush d_Mo_draw_41 (by decide) (by decide) (?_ : WM _ 43 _ _ _ _)
          exact r_ireturn rfl d_Mo_draw_43 h
      · replace h := h.2 c12
        refine r_bipush d_Mo_draw_31 (by decide) (by decide) (?_ : WM _ 33 _ _ _ _)
        exact r_ireturn rfl d_Mo_draw_33 h
set_option maxRecDepth 20000 in
theorem e_Mo_clear {K : Int → St → Prop} {σ : St}  (h : K (σ 35 10) (ups (ups σ 35 0 0) 35 10 0)) : CI M_Mo_clear [vR 35] σ K := by
  refine Con.of ok_M_Mo_clear (ls := [(0, vR 35)]) rfl (Nat.le_of_ble_eq_true rfl) ?_
  refine r_aload_n d_Mo_clear_0 rfl (?_ : WM _ 1 _ _ _ _)
  refine r_iconst d_Mo_clear_1 (by decide) (?_ : WM _ 2 _ _ _ _)
  refine r_put (k := 35) (j := 0) 0 (by decide) rfl clk_11 (by decide) (qm_5 (i := 36) rfl rfl) rfl rfl rfl tyX11_ok rfl nmX11 d_Mo_clear_2 (?_ : WM _ 5 _ _ _ _)
  refine r_aload_n d_Mo_clear_5 rfl (?_ : WM _ 6 _ _ _ _)
  refine r_getI (k := 35) (j := 10) 10 (by decide) rfl clk_11 (by decide) (qm_5 (i := 46) rfl rfl) rfl rfl d_Mo_clear_6 (y := (σ 35 10)) (ups_f (by decide)) (?_ : WM _ 9 _ _ _ _)
  refine r_istore_n (ls' := [(1, vI (σ 35 10)), (0, vR 35)]) d_Mo_clear_9 rfl (by decide) rfl (?_ : WM _ 10 _ _ _ _)
  refine r_aload_n d_Mo_clear_10 rfl (?_ : WM _ 11 _ _ _ _)
  refine r_iconst d_Mo_clear_11 (by decide) (?_ : WM _ 12 _ _ _ _)
  refine r_put (k := 35) (j := 10) 10 (by decide) rfl clk_11 (by decide) (qm_5 (i := 46) rfl rfl) rfl rfl rfl tyX11_ok rfl nmX11 d_Mo_clear_12 (?_ : WM _ 15 _ _ _ _)
  refine r_iload_n d_Mo_clear_15 rfl (?_ : WM _ 16 _ _ _ _)
  exact r_ireturn rfl d_Mo_clear_16 h
set_option maxRecDepth 20000 in
theorem e_Mo_find {K : Int → St → Prop} {σ : St} (x1 : Int) (x2 : Int) (h : CI M_Mo_placeIn [vR 39, vI (σ 35 6), vI x1, vI x2] (ups σ 35 0 0) (fun v2 σ1 => K v2 σ1)) : CI M_Mo_find [vR 35, vI x1, vI x2] σ K := by
  refine Con.of ok_M_Mo_find (ls := [(0, vR 35), (1, vI x1), (2, vI x2)]) rfl (Nat.le_of_ble_eq_true rfl) ?_
  refine r_aload_n d_Mo_find_0 rfl (?_ : WM _ 1 _ _ _ _)
  refine r_iconst d_Mo_find_1 (by decide) (?_ : WM _ 2 _ _ _ _)
  refine r_put (k := 35) (j := 0) 0 (by decide) rfl clk_11 (by decide) (qm_5 (i := 36) rfl rfl) rfl rfl rfl tyX11_ok rfl nmX11 d_Mo_find_2 (?_ : WM _ 5 _ _ _ _)
  refine r_aload_n d_Mo_find_5 rfl (?_ : WM _ 6 _ _ _ _)
  refine r_getR (k := 35) (j := 4) (q := 39) (by decide) rfl clk_11 (by decide) (qm_5 (i := 40) rfl rfl) rfl d_Mo_find_6 (?_ : WM _ 9 _ _ _ _)
  refine r_aload_n d_Mo_find_9 rfl (?_ : WM _ 10 _ _ _ _)
  refine r_getI (k := 35) (j := 6) 6 (by decide) rfl clk_11 (by decide) (qm_5 (i := 42) rfl rfl) rfl rfl d_Mo_find_10 (y := (σ 35 6)) (ups_f (by decide)) (?_ : WM _ 13 _ _ _ _)
  refine r_iload_n d_Mo_find_13 rfl (?_ : WM _ 14 _ _ _ _)
  refine r_iload_n d_Mo_find_14 rfl (?_ : WM _ 15 _ _ _ _)
  refine r_callS (ν := M_Mo_placeIn) [vR 39, vI (σ 35 6), vI x1, vI x2] ok_M_Mo_placeIn oks_M_Mo_placeIn (qm_5 (i := 201) rfl rfl) np_M_Mo_placeIn rfl (by decide) (Nat.le_of_ble_eq_true rfl) rfl d_Mo_find_15 (CI.k h (fun v2 σ1 h => (?_ : WM _ 18 _ _ _ _)))
  exact r_ireturn rfl d_Mo_find_18 h
set_option maxRecDepth 20000 in
theorem e_Mo_item {K : Int → St → Prop} {σ : St} (x1 : Int) (x2 : Int) (h : CI M_Mo_isItem [vR 35, vI x1] (ups σ 35 0 0) (fun v2 σ1 => (v2 = 0 → K (-10000000) σ1) ∧ (¬ v2 = 0 → CI M_Mo_isIn [vL x2, vL 0, vL 8] σ1 (fun v5 σ4 => (¬ v5 = 0 → CV M_Mo_laysHits [vR 35] σ4 (fun σ7 => (x2 = 4 → CI M_Mo_errorOf [vR 35, vI x1] σ7 (fun v10 σ9 => K v10 σ9)) ∧ (x2 = 5 → CI M_Mo_taintOf [vR 35, vI x1] σ7 (fun v12 σ11 => K v12 σ11)) ∧ (x2 = 6 → CI M_Mo_isCertain [vR 35, vI x1] σ7 (fun v14 σ13 => (v14 = 0 → K 0 σ13) ∧ (¬ v14 = 0 → K 1 σ13))) ∧ (x2 = 7 → (0 ≤ x1) ∧ (x1 < 48) ∧ K (σ7 48 x1) σ7) ∧ (x2 = 8 → (0 ≤ x1) ∧ (x1 < 48) ∧ K (σ7 44 x1) σ7) ∧ (x2 < 4 ∨ 8 < x2 → (inR (4 * x1)) ∧ (inR ((4 * x1) + x2)) ∧ (0 ≤ ((4 * x1) + x2)) ∧ (((4 * x1) + x2) < 192) ∧ K (σ7 39 ((4 * x1) + x2)) σ7))) ∧ (v5 = 0 → K (-10000000) σ4))))) : CI M_Mo_item [vR 35, vI x1, vI x2] σ K := by
  refine Con.of ok_M_Mo_item (ls := [(0, vR 35), (1, vI x1), (2, vI x2)]) rfl (Nat.le_of_ble_eq_true rfl) ?_
  refine r_aload_n d_Mo_item_0 rfl (?_ : WM _ 1 _ _ _ _)
  refine r_iconst d_Mo_item_1 (by decide) (?_ : WM _ 2 _ _ _ _)
  refine r_put (k := 35) (j := 0) 0 (by decide) rfl clk_11 (by decide) (qm_5 (i := 36) rfl rfl) rfl rfl rfl tyX11_ok rfl nmX11 d_Mo_item_2 (?_ : WM _ 5 _ _ _ _)
  refine r_aload_n d_Mo_item_5 rfl (?_ : WM _ 6 _ _ _ _)
  refine r_iload_n d_Mo_item_6 rfl (?_ : WM _ 7 _ _ _ _)
  refine r_callV (ν := M_Mo_isItem) (k := 35) [vI x1] ok_M_Mo_isItem okv_M_Mo_isItem (by decide) rfl rfl rfl (qm_5 (i := 229) rfl rfl) np_M_Mo_isItem rfl (by decide) (Nat.le_of_ble_eq_true rfl) rfl d_Mo_item_7 (CI.k h (fun v2 σ1 h => (?_ : WM _ 10 _ _ _ _)))
  refine r_if_eq 25 d_Mo_item_10 rfl ⟨fun c3 => (?_ : WM _ 25 _ _ _ _), fun c3 => (?_ : WM _ 13 _ _ _ _)⟩
  · replace h := h.1 c3
    refine r_ldc (-10000000) d_Mo_item_25 (qm_5 (i := 233) rfl rfl) (by decide) (by decide) (?_ : WM _ 27 _ _ _ _)
    exact r_ireturn rfl d_Mo_item_27 h
  · replace h := h.2 c3
    refine r_iload_n d_Mo_item_13 rfl (?_ : WM _ 14 _ _ _ _)
    refine r_i2l d_Mo_item_14 (?_ : WM _ 15 _ _ _ _)
    refine r_lconst 0 d_Mo_item_15 rfl (by decide) (?_ : WM _ 16 _ _ _ _)
    refine r_ldc2 8 d_Mo_item_16 (qm_6 (i := 88) rfl rfl) (by decide) (by decide) (?_ : WM _ 19 _ _ _ _)
    refine r_callS (ν := M_Mo_isIn) [vL x2, vL 0, vL 8] ok_M_Mo_isIn oks_M_Mo_isIn (qm_5 (i := 153) rfl rfl) np_M_Mo_isIn rfl (by decide) (Nat.le_of_ble_eq_true rfl) rfl d_Mo_item_19 (CI.k h (fun v5 σ4 h => (?_ : WM _ 22 _ _ _ _)))
    refine r_if_ne 28 d_Mo_item_22 rfl ⟨fun c6 => (?_ : WM _ 28 _ _ _ _), fun c6 => (?_ : WM _ 25 _ _ _ _)⟩
    · replace h := h.1 c6
      refine r_aload_n d_Mo_item_28 rfl (?_ : WM _ 29 _ _ _ _)
      refine r_callV (ν := M_Mo_laysHits) (k := 35) [] ok_M_Mo_laysHits okv_M_Mo_laysHits (by decide) rfl rfl rfl (qm_6 (i := 89) rfl rfl) np_M_Mo_laysHits rfl (by decide) (Nat.le_of_ble_eq_true rfl) rfl d_Mo_item_29 (CV.k h (fun σ7 h => (?_ : WM _ 32 _ _ _ _)))
      refine r_iload_n d_Mo_item_32 rfl (?_ : WM _ 33 _ _ _ _)
      have hsw : (x2 = 4) ∨ (x2 = 5) ∨ (x2 = 6) ∨ (x2 = 7) ∨ (x2 = 8) ∨ (x2 < 4 ∨ 8 < x2) := by omega
      rcases hsw with hc | hc | hc | hc | hc | hc
      · replace h := h.1 hc
        refine r_tswIn 68 d_Mo_item_33 (by omega) (by omega) (by rw [hc]; rfl) rfl ?_
        refine r_aload_n d_Mo_item_68 rfl (?_ : WM _ 69 _ _ _ _)
        refine r_iload_n d_Mo_item_69 rfl (?_ : WM _ 70 _ _ _ _)
        refine r_callV (ν := M_Mo_errorOf) (k := 35) [vI x1] ok_M_Mo_errorOf okv_M_Mo_errorOf (by decide) rfl rfl rfl (qm_6 (i := 101) rfl rfl) np_M_Mo_errorOf rfl (by decide) (Nat.le_of_ble_eq_true rfl) rfl d_Mo_item_70 (CI.k h (fun v10 σ9 h => (?_ : WM _ 73 _ _ _ _)))
        exact r_ireturn rfl d_Mo_item_73 h
      · replace h := h.2.1 hc
        refine r_tswIn 74 d_Mo_item_33 (by omega) (by omega) (by rw [hc]; rfl) rfl ?_
        refine r_aload_n d_Mo_item_74 rfl (?_ : WM _ 75 _ _ _ _)
        refine r_iload_n d_Mo_item_75 rfl (?_ : WM _ 76 _ _ _ _)
        refine r_callV (ν := M_Mo_taintOf) (k := 35) [vI x1] ok_M_Mo_taintOf okv_M_Mo_taintOf (by decide) rfl rfl rfl (qm_6 (i := 105) rfl rfl) np_M_Mo_taintOf rfl (by decide) (Nat.le_of_ble_eq_true rfl) rfl d_Mo_item_76 (CI.k h (fun v12 σ11 h => (?_ : WM _ 79 _ _ _ _)))
        exact r_ireturn rfl d_Mo_item_79 h
      · replace h := h.2.2.1 hc
        refine r_tswIn 80 d_Mo_item_33 (by omega) (by omega) (by rw [hc]; rfl) rfl ?_
        refine r_aload_n d_Mo_item_80 rfl (?_ : WM _ 81 _ _ _ _)
        refine r_iload_n d_Mo_item_81 rfl (?_ : WM _ 82 _ _ _ _)
        refine r_callV (ν := M_Mo_isCertain) (k := 35) [vI x1] ok_M_Mo_isCertain okv_M_Mo_isCertain (by decide) rfl rfl rfl (qm_6 (i := 27) rfl rfl) np_M_Mo_isCertain rfl (by decide) (Nat.le_of_ble_eq_true rfl) rfl d_Mo_item_82 (CI.k h (fun v14 σ13 h => (?_ : WM _ 85 _ _ _ _)))
        refine r_if_eq 92 d_Mo_item_85 rfl ⟨fun c15 => (?_ : WM _ 92 _ _ _ _), fun c15 => (?_ : WM _ 88 _ _ _ _)⟩
        · replace h := h.1 c15
          refine r_iconst d_Mo_item_92 (by decide) (?_ : WM _ 93 _ _ _ _)
          exact r_ireturn rfl d_Mo_item_93 h
        · replace h := h.2 c15
          refine r_iconst d_Mo_item_88 (by decide) (?_ : WM _ 89 _ _ _ _)
          refine r_goto 93 d_Mo_item_89 rfl ?_
          exact r_ireturn rfl d_Mo_item_93 h
      · replace h := h.2.2.2.1 hc
        refine r_tswIn 94 d_Mo_item_33 (by omega) (by omega) (by rw [hc]; rfl) rfl ?_
        refine r_aload_n d_Mo_item_94 rfl (?_ : WM _ 95 _ _ _ _)
        refine r_getR (k := 35) (j := 24) (q := 48) (by decide) rfl clk_11 (by decide) (qm_5 (i := 60) rfl rfl) rfl d_Mo_item_95 (?_ : WM _ 98 _ _ _ _)
        refine r_iload_n d_Mo_item_98 rfl (?_ : WM _ 99 _ _ _ _)
        obtain ⟨h16, h⟩ := h
        obtain ⟨h17, h⟩ := h
        refine r_iald (k := 48) (n := 48) (by decide) rfl d_Mo_item_99 h16 h17 (y := (σ7 48 x1)) rfl (?_ : WM _ 100 _ _ _ _)
        exact r_ireturn rfl d_Mo_item_100 h
      · replace h := h.2.2.2.2.1 hc
        refine r_tswIn 101 d_Mo_item_33 (by omega) (by omega) (by rw [hc]; rfl) rfl ?_
        refine r_aload_n d_Mo_item_101 rfl (?_ : WM _ 102 _ _ _ _)
        refine r_getR (k := 35) (j := 19) (q := 44) (by decide) rfl clk_11 (by decide) (qm_5 (i := 55) rfl rfl) rfl d_Mo_item_102 (?_ : WM _ 105 _ _ _ _)
        refine r_iload_n d_Mo_item_105 rfl (?_ : WM _ 106 _ _ _ _)
        obtain ⟨h18, h⟩ := h
        obtain ⟨h19, h⟩ := h
        refine r_iald (k := 44) (n := 48) (by decide) rfl d_Mo_item_106 h18 h19 (y := (σ7 44 x1)) rfl (?_ : WM _ 107 _ _ _ _)
        exact r_ireturn rfl d_Mo_item_107 h
      · replace h := h.2.2.2.2.2 hc
        refine r_tswOut 108 d_Mo_item_33 hc rfl ?_
        refine r_aload_n d_Mo_item_108 rfl (?_ : WM _ 109 _ _ _ _)
        refine r_getR (k := 35) (j := 4) (q := 39) (by decide) rfl clk_11 (by decide) (qm_5 (i := 40) rfl rfl) rfl d_Mo_item_109 (?_ : WM _ 112 _ _ _ _)
        refine r_iconst d_Mo_item_112 (by decide) (?_ : WM _ 113 _ _ _ _)
        refine r_iload_n d_Mo_item_113 rfl (?_ : WM _ 114 _ _ _ _)
        obtain ⟨h20, h⟩ := h
        refine r_imul d_Mo_item_114 h20 (?_ : WM _ 115 _ _ _ _)
        refine r_iload_n d_Mo_item_115 rfl (?_ : WM _ 116 _ _ _ _)
        obtain ⟨h21, h⟩ := h
        refine r_iadd d_Mo_item_116 h21 (?_ : WM _ 117 _ _ _ _)
        obtain ⟨h22, h⟩ := h
        obtain ⟨h23, h⟩ := h
        refine r_iald (k := 39) (n := 192) (by decide) rfl d_Mo_item_117 h22 h23 (y := (σ7 39 ((4 * x1) + x2))) rfl (?_ : WM _ 118 _ _ _ _)
        exact r_ireturn rfl d_Mo_item_118 h
    · replace h := h.2 c6
      refine r_ldc (-10000000) d_Mo_item_25 (qm_5 (i := 233) rfl rfl) (by decide) (by decide) (?_ : WM _ 27 _ _ _ _)
      exact r_ireturn rfl d_Mo_item_27 h
set_option maxRecDepth 20000 in
theorem e_Mo_coin {K : Int → St → Prop} {σ : St} (x1 : Int) (x2 : Int) (h : CV M_Mo_laysRest [vR 35, vI (σ 35 9)] (ups σ 35 0 0) (fun σ1 => CI M_Mo_isIn [vL x1, vL 1, vL (σ1 35 20)] σ1 (fun v4 σ3 => (v4 = 0 → K (-2) σ3) ∧ (¬ v4 = 0 → CI M_Mo_isIn [vL x2, vL 0, vL 2] σ3 (fun v7 σ6 => (¬ v7 = 0 → (¬ (σ6 35 9) = 0 → (2 ≤ x2 → WM M_Mo_coin 83 [(0, vR 35), (1, vI x1), (3, vI 0), (4, vI 0)] [] σ6 (QI K)) ∧ (¬ 2 ≤ x2 → (¬ x2 = 0 → (inR (x1 - 1)) ∧ (0 ≤ (x1 - 1)) ∧ (0 < (σ6 35 9)) ∧ K ((x1 - 1) / (σ6 35 9)) σ6) ∧ (x2 = 0 → CI M_Mo_ownerOf [vR 35, vI x1] σ6 (fun v16 σ15 => K v16 σ15)))) ∧ ((σ6 35 9) = 0 → K (-5) σ6)) ∧ (v7 = 0 → K (-2) σ6)))))) : CI M_Mo_coin [vR 35, vI x1, vI x2] σ K := by
  refine Con.of ok_M_Mo_coin (ls := [(0, vR 35), (1, vI x1), (2, vI x2)]) rfl (Nat.le_of_ble_eq_true rfl) ?_
  refine r_aload_n d_Mo_coin_0 rfl (?_ : WM _ 1 _ _ _ _)
  refine r_iconst d_Mo_coin_1 (by decide) (?_ : WM _ 2 _ _ _ _)
  refine r_put (k := 35) (j := 0) 0 (by decide) rfl clk_11 (by decide) (qm_5 (i := 36) rfl rfl) rfl rfl rfl tyX11_ok rfl nmX11 d_Mo_coin_2 (?_ : WM _ 5 _ _ _ _)
  refine r_aload_n d_Mo_coin_5 rfl (?_ : WM _ 6 _ _ _ _)
  refine r_aload_n d_Mo_coin_6 rfl (?_ : WM _ 7 _ _ _ _)
  refine r_getI (k := 35) (j := 9) 9 (by decide) rfl clk_11 (by decide) (qm_5 (i := 45) rfl rfl) rfl rfl d_Mo_coin_7 (y := (σ 35 9)) (ups_f (by decide)) (?_ : WM _ 10 _ _ _ _)
  refine r_callV (ν := M_Mo_laysRest) (k := 35) [vI (σ 35 9)] ok_M_Mo_laysRest okv_M_Mo_laysRest (by decide) rfl rfl rfl (qm_6 (i := 93) rfl rfl) np_M_Mo_laysRest rfl (by decide) (Nat.le_of_ble_eq_true rfl) rfl d_Mo_coin_10 (CV.k h (fun σ1 h => (?_ : WM _ 13 _ _ _ _)))
  refine r_iload_n d_Mo_coin_13 rfl (?_ : WM _ 14 _ _ _ _)
  refine r_i2l d_Mo_coin_14 (?_ : WM _ 15 _ _ _ _)
  refine r_lconst 1 d_Mo_coin_15 rfl (by decide) (?_ : WM _ 16 _ _ _ _)
  refine r_aload_n d_Mo_coin_16 rfl (?_ : WM _ 17 _ _ _ _)
  refine r_getI (k := 35) (j := 20) 20 (by decide) rfl clk_11 (by decide) (qm_5 (i := 56) rfl rfl) rfl rfl d_Mo_coin_17 (y := (σ1 35 20)) rfl (?_ : WM _ 20 _ _ _ _)
  refine r_i2l d_Mo_coin_20 (?_ : WM _ 21 _ _ _ _)
  refine r_callS (ν := M_Mo_isIn) [vL x1, vL 1, vL (σ1 35 20)] ok_M_Mo_isIn oks_M_Mo_isIn (qm_5 (i := 153) rfl rfl) np_M_Mo_isIn rfl (by decide) (Nat.le_of_ble_eq_true rfl) rfl d_Mo_coin_21 (CI.k h (fun v4 σ3 h => (?_ : WM _ 24 _ _ _ _)))
  refine r_if_eq 39 d_Mo_coin_24 rfl ⟨fun c5 => (?_ : WM _ 39 _ _ _ _), fun c5 => (?_ : WM _ 27 _ _ _ _)⟩
  · replace h := h.1 c5
    refine r_bipush d_Mo_coin_39 (by decide) (by decide) (?_ : WM _ 41 _ _ _ _)
    exact r_ireturn rfl d_Mo_coin_41 h
  · replace h := h.2 c5
    refine r_iload_n d_Mo_coin_27 rfl (?_ : WM _ 28 _ _ _ _)
    refine r_i2l d_Mo_coin_28 (?_ : WM _ 29 _ _ _ _)
    refine r_lconst 0 d_Mo_coin_29 rfl (by decide) (?_ : WM _ 30 _ _ _ _)
    refine r_ldc2 2 d_Mo_coin_30 (qm_6 (i := 6) rfl rfl) (by decide) (by decide) (?_ : WM _ 33 _ _ _ _)
    refine r_callS (ν := M_Mo_isIn) [vL x2, vL 0, vL 2] ok_M_Mo_isIn oks_M_Mo_isIn (qm_5 (i := 153) rfl rfl) np_M_Mo_isIn rfl (by decide) (Nat.le_of_ble_eq_true rfl) rfl d_Mo_coin_33 (CI.k h (fun v7 σ6 h => (?_ : WM _ 36 _ _ _ _)))
    refine r_if_ne 42 d_Mo_coin_36 rfl ⟨fun c8 => (?_ : WM _ 42 _ _ _ _), fun c8 => (?_ : WM _ 39 _ _ _ _)⟩
    · replace h := h.1 c8
      refine r_aload_n d_Mo_coin_42 rfl (?_ : WM _ 43 _ _ _ _)
      refine r_getI (k := 35) (j := 9) 9 (by decide) rfl clk_11 (by decide) (qm_5 (i := 45) rfl rfl) rfl rfl d_Mo_coin_43 (y := (σ6 35 9)) rfl (?_ : WM _ 46 _ _ _ _)
      refine r_if_ne 52 d_Mo_coin_46 rfl ⟨fun c9 => (?_ : WM _ 52 _ _ _ _), fun c9 => (?_ : WM _ 49 _ _ _ _)⟩
      · replace h := h.1 c9
        refine r_iload_n d_Mo_coin_52 rfl (?_ : WM _ 53 _ _ _ _)
        refine r_iconst d_Mo_coin_53 (by decide) (?_ : WM _ 54 _ _ _ _)
        refine r_icmp_ge 78 d_Mo_coin_54 rfl ⟨fun c10 => (?_ : WM _ 78 _ _ _ _), fun c10 => (?_ : WM _ 57 _ _ _ _)⟩
        · replace h := h.1 c10
          refine r_iconst d_Mo_coin_78 (by decide) (?_ : WM _ 79 _ _ _ _)
          refine r_istore_n (ls' := [(3, vI 0), (0, vR 35), (1, vI x1), (2, vI x2)]) d_Mo_coin_79 rfl (by decide) rfl (?_ : WM _ 80 _ _ _ _)
          refine r_iconst d_Mo_coin_80 (by decide) (?_ : WM _ 81 _ _ _ _)
          refine r_istore (ls' := [(4, vI 0), (3, vI 0), (0, vR 35), (1, vI x1), (2, vI x2)]) d_Mo_coin_81 (by decide) rfl (?_ : WM _ 83 _ _ _ _)
          refine r_pick (ls' := [(0, vR 35), (1, vI x1), (3, vI 0), (4, vI 0)]) [2, 3, 1, 0] rfl ?_
          exact h
        · replace h := h.2 c10
          refine r_iload_n d_Mo_coin_57 rfl (?_ : WM _ 58 _ _ _ _)
          refine r_if_ne 69 d_Mo_coin_58 rfl ⟨fun c11 => (?_ : WM _ 69 _ _ _ _), fun c11 => (?_ : WM _ 61 _ _ _ _)⟩
          · replace h := h.1 c11
            refine r_iload_n d_Mo_coin_69 rfl (?_ : WM _ 70 _ _ _ _)
            refine r_iconst d_Mo_coin_70 (by decide) (?_ : WM _ 71 _ _ _ _)
            obtain ⟨h12, h⟩ := h
            refine r_isub d_Mo_coin_71 h12 (?_ : WM _ 72 _ _ _ _)
            refine r_aload_n d_Mo_coin_72 rfl (?_ : WM _ 73 _ _ _ _)
            refine r_getI (k := 35) (j := 9) 9 (by decide) rfl clk_11 (by decide) (qm_5 (i := 45) rfl rfl) rfl rfl d_Mo_coin_73 (y := (σ6 35 9)) rfl (?_ : WM _ 76 _ _ _ _)
            obtain ⟨h13, h⟩ := h
            obtain ⟨h14, h⟩ := h
            refine r_idivn d_Mo_coin_76 h13 h14 (?_ : WM _ 77 _ _ _ _)
            exact r_ireturn rfl d_Mo_coin_77 h
          · replace h := h.2 c11
            refine r_aload_n d_Mo_coin_61 rfl (?_ : WM _ 62 _ _ _ _)
            refine r_iload_n d_Mo_coin_62 rfl (?_ : WM _ 63 _ _ _ _)
            refine r_callV (ν := M_Mo_ownerOf) (k := 35) [vI x1] ok_M_Mo_ownerOf okv_M_Mo_ownerOf (by decide) rfl rfl rfl (qm_6 (i := 97) rfl rfl) np_M_Mo_ownerOf rfl (by decide) (Nat.le_of_ble_eq_true rfl) rfl d_Mo_coin_63 (CI.k h (fun v16 σ15 h => (?_ : WM _ 66 _ _ _ _)))
            refine r_goto 77 d_Mo_coin_66 rfl ?_
            exact r_ireturn rfl d_Mo_coin_77 h
      · replace h := h.2 c9
        refine r_bipush d_Mo_coin_49 (by decide) (by decide) (?_ : WM _ 51 _ _ _ _)
        exact r_ireturn rfl d_Mo_coin_51 h
    · replace h := h.2 c8
      refine r_bipush d_Mo_coin_39 (by decide) (by decide) (?_ : WM _ 41 _ _ _ _)
      exact r_ireturn rfl d_Mo_coin_41 h
set_option maxRecDepth 20000 in
theorem l_Mo_coin_1 {K : Int → St → Prop} {σ : St} (x1 : Int) (x3 : Int) (x4 : Int) (h : ((σ 35 10) ≤ x4 → K x3 σ) ∧ (¬ (σ 35 10) ≤ x4 → (inR (x1 - 1)) ∧ (0 ≤ (x1 - 1)) ∧ (0 < (σ 35 9)) ∧ (inR (((x1 - 1) % (σ 35 9)) + 1)) ∧ (0 ≤ x4) ∧ (x4 < 5) ∧ (¬ (((x1 - 1) % (σ 35 9)) + 1) = (σ 41 x4) → (inR (x3 + 0)) ∧ (inR (x4 + 1)) ∧ WM M_Mo_coin 83 [(0, vR 35), (1, vI x1), (3, vI (x3 + 0)), (4, vI (x4 + 1))] [] σ (QI K)) ∧ ((((x1 - 1) % (σ 35 9)) + 1) = (σ 41 x4) → (inR (x3 + 1)) ∧ (inR (x4 + 1)) ∧ WM M_Mo_coin 83 [(0, vR 35), (1, vI x1), (3, vI (x3 + 1)), (4, vI (x4 + 1))] [] σ (QI K)))) : WM M_Mo_coin 83 [(0, vR 35), (1, vI x1), (3, vI x3), (4, vI x4)] [] σ (QI K) := by
  refine r_iload d_Mo_coin_83 rfl (?_ : WM _ 85 _ _ _ _)
  refine r_aload_n d_Mo_coin_85 rfl (?_ : WM _ 86 _ _ _ _)
  refine r_getI (k := 35) (j := 10) 10 (by decide) rfl clk_11 (by decide) (qm_5 (i := 46) rfl rfl) rfl rfl d_Mo_coin_86 (y := (σ 35 10)) rfl (?_ : WM _ 89 _ _ _ _)
  refine r_icmp_ge 126 d_Mo_coin_89 rfl ⟨fun c17 => (?_ : WM _ 126 _ _ _ _), fun c17 => (?_ : WM _ 92 _ _ _ _)⟩
  · replace h := h.1 c17
    refine r_iload_n d_Mo_coin_126 rfl (?_ : WM _ 127 _ _ _ _)
    exact r_ireturn rfl d_Mo_coin_127 h
  · replace h := h.2 c17
    refine r_iload_n d_Mo_coin_92 rfl (?_ : WM _ 93 _ _ _ _)
    refine r_iload_n d_Mo_coin_93 rfl (?_ : WM _ 94 _ _ _ _)
    refine r_iconst d_Mo_coin_94 (by decide) (?_ : WM _ 95 _ _ _ _)
    obtain ⟨h18, h⟩ := h
    refine r_isub d_Mo_coin_95 h18 (?_ : WM _ 96 _ _ _ _)
    refine r_aload_n d_Mo_coin_96 rfl (?_ : WM _ 97 _ _ _ _)
    refine r_getI (k := 35) (j := 9) 9 (by decide) rfl clk_11 (by decide) (qm_5 (i := 45) rfl rfl) rfl rfl d_Mo_coin_97 (y := (σ 35 9)) rfl (?_ : WM _ 100 _ _ _ _)
    obtain ⟨h19, h⟩ := h
    obtain ⟨h20, h⟩ := h
    refine r_iremn d_Mo_coin_100 h19 h20 (?_ : WM _ 101 _ _ _ _)
    refine r_iconst d_Mo_coin_101 (by decide) (?_ : WM _ 102 _ _ _ _)
    obtain ⟨h21, h⟩ := h
    refine r_iadd d_Mo_coin_102 h21 (?_ : WM _ 103 _ _ _ _)
    refine r_aload_n d_Mo_coin_103 rfl (?_ : WM _ 104 _ _ _ _)
    refine r_getR (k := 35) (j := 8) (q := 41) (by decide) rfl clk_11 (by decide) (qm_5 (i := 44) rfl rfl) rfl d_Mo_coin_104 (?_ : WM _ 107 _ _ _ _)
    refine r_iload d_Mo_coin_107 rfl (?_ : WM _ 109 _ _ _ _)
    obtain ⟨h22, h⟩ := h
    obtain ⟨h23, h⟩ := h
    refine r_iald (k := 41) (n := 5) (by decide) rfl d_Mo_coin_109 h22 h23 (y := (σ 41 x4)) rfl (?_ : WM _ 110 _ _ _ _)
    refine r_icmp_ne 117 d_Mo_coin_110 rfl ⟨fun c24 => (?_ : WM _ 117 _ _ _ _), fun c24 => (?_ : WM _ 113 _ _ _ _)⟩
    · replace h := h.1 c24
      refine r_iconst d_Mo_coin_117 (by decide) (?_ : WM _ 118 _ _ _ _)
      obtain ⟨h25, h⟩ := h
      refine r_iadd d_Mo_coin_118 h25 (?_ : WM _ 119 _ _ _ _)
      refine r_istore_n (ls' := [(3, vI (x3 + 0)), (0, vR 35), (1, vI x1), (4, vI x4)]) d_Mo_coin_119 rfl (by decide) rfl (?_ : WM _ 120 _ _ _ _)
      obtain ⟨h26, h⟩ := h
      refine r_iinc (ls' := [(4, vI (x4 + 1)), (3, vI (x3 + 0)), (0, vR 35), (1, vI x1)]) d_Mo_coin_120 rfl h26 (by decide) rfl (?_ : WM _ 123 _ _ _ _)
      refine r_goto 83 d_Mo_coin_123 rfl ?_
      refine r_pick (ls' := [(0, vR 35), (1, vI x1), (3, vI (x3 + 0)), (4, vI (x4 + 1))]) [2, 3, 1, 0] rfl ?_
      exact h
    · replace h := h.2 c24
      refine r_iconst d_Mo_coin_113 (by decide) (?_ : WM _ 114 _ _ _ _)
      refine r_goto 118 d_Mo_coin_114 rfl ?_
      obtain ⟨h27, h⟩ := h
      refine r_iadd d_Mo_coin_118 h27 (?_ : WM _ 119 _ _ _ _)
      refine r_istore_n (ls' := [(3, vI (x3 + 1)), (0, vR 35), (1, vI x1), (4, vI x4)]) d_Mo_coin_119 rfl (by decide) rfl (?_ : WM _ 120 _ _ _ _)
      obtain ⟨h28, h⟩ := h
      refine r_iinc (ls' := [(4, vI (x4 + 1)), (3, vI (x3 + 1)), (0, vR 35), (1, vI x1)]) d_Mo_coin_120 rfl h28 (by decide) rfl (?_ : WM _ 123 _ _ _ _)
      refine r_goto 83 d_Mo_coin_123 rfl ?_
      refine r_pick (ls' := [(0, vR 35), (1, vI x1), (3, vI (x3 + 1)), (4, vI (x4 + 1))]) [2, 3, 1, 0] rfl ?_
      exact h
set_option maxRecDepth 20000 in
theorem e_Mo_hit {K : Int → St → Prop} {σ : St} (x1 : Int) (x2 : Int) (h : CV M_Mo_laysHits [vR 35] (ups σ 35 0 0) (fun σ1 => (inR ((σ1 35 25) - 1)) ∧ CI M_Mo_isIn [vL x1, vL 0, vL ((σ1 35 25) - 1)] σ1 (fun v5 σ4 => (¬ v5 = 0 → (x2 = 0 → (0 ≤ x1) ∧ (x1 < 240) ∧ K (σ4 45 x1) σ4) ∧ (x2 = 1 → (0 ≤ x1) ∧ (x1 < 240) ∧ K (σ4 46 x1) σ4) ∧ (x2 = 2 → (0 ≤ x1) ∧ (x1 < 240) ∧ K (σ4 47 x1) σ4) ∧ (x2 = 3 → (0 ≤ x1) ∧ (x1 < 240) ∧ CI M_Mo_taintOf [vR 35, vI (σ4 45 x1)] σ4 (fun v16 σ15 => (inR (v16 + 10000)) ∧ K (v16 + 10000) σ15)) ∧ (x2 < 0 ∨ 3 < x2 → K (-2) σ4)) ∧ (v5 = 0 → K (-2) σ4)))) : CI M_Mo_hit [vR 35, vI x1, vI x2] σ K := by
  refine Con.of ok_M_Mo_hit (ls := [(0, vR 35), (1, vI x1), (2, vI x2)]) rfl (Nat.le_of_ble_eq_true rfl) ?_
  refine r_aload_n d_Mo_hit_0 rfl (?_ : WM _ 1 _ _ _ _)
  refine r_iconst d_Mo_hit_1 (by decide) (?_ : WM _ 2 _ _ _ _)
  refine r_put (k := 35) (j := 0) 0 (by decide) rfl clk_11 (by decide) (qm_5 (i := 36) rfl rfl) rfl rfl rfl tyX11_ok rfl nmX11 d_Mo_hit_2 (?_ : WM _ 5 _ _ _ _)
  refine r_aload_n d_Mo_hit_5 rfl (?_ : WM _ 6 _ _ _ _)
  refine r_callV (ν := M_Mo_laysHits) (k := 35) [] ok_M_Mo_laysHits okv_M_Mo_laysHits (by decide) rfl rfl rfl (qm_6 (i := 89) rfl rfl) np_M_Mo_laysHits rfl (by decide) (Nat.le_of_ble_eq_true rfl) rfl d_Mo_hit_6 (CV.k h (fun σ1 h => (?_ : WM _ 9 _ _ _ _)))
  refine r_iload_n d_Mo_hit_9 rfl (?_ : WM _ 10 _ _ _ _)
  refine r_i2l d_Mo_hit_10 (?_ : WM _ 11 _ _ _ _)
  refine r_lconst 0 d_Mo_hit_11 rfl (by decide) (?_ : WM _ 12 _ _ _ _)
  refine r_aload_n d_Mo_hit_12 rfl (?_ : WM _ 13 _ _ _ _)
  refine r_getI (k := 35) (j := 25) 25 (by decide) rfl clk_11 (by decide) (qm_5 (i := 61) rfl rfl) rfl rfl d_Mo_hit_13 (y := (σ1 35 25)) rfl (?_ : WM _ 16 _ _ _ _)
  refine r_iconst d_Mo_hit_16 (by decide) (?_ : WM _ 17 _ _ _ _)
  obtain ⟨h3, h⟩ := h
  refine r_isub d_Mo_hit_17 h3 (?_ : WM _ 18 _ _ _ _)
  refine r_i2l d_Mo_hit_18 (?_ : WM _ 19 _ _ _ _)
  refine r_callS (ν := M_Mo_isIn) [vL x1, vL 0, vL ((σ1 35 25) - 1)] ok_M_Mo_isIn oks_M_Mo_isIn (qm_5 (i := 153) rfl rfl) np_M_Mo_isIn rfl (by decide) (Nat.le_of_ble_eq_true rfl) rfl d_Mo_hit_19 (CI.k h (fun v5 σ4 h => (?_ : WM _ 22 _ _ _ _)))
  refine r_if_ne 28 d_Mo_hit_22 rfl ⟨fun c6 => (?_ : WM _ 28 _ _ _ _), fun c6 => (?_ : WM _ 25 _ _ _ _)⟩
  · replace h := h.1 c6
    refine r_iload_n d_Mo_hit_28 rfl (?_ : WM _ 29 _ _ _ _)
    have hsw : (x2 = 0) ∨ (x2 = 1) ∨ (x2 = 2) ∨ (x2 = 3) ∨ (x2 < 0 ∨ 3 < x2) := by omega
    rcases hsw with hc | hc | hc | hc | hc
    · replace h := h.1 hc
      refine r_tswIn 60 d_Mo_hit_29 (by omega) (by omega) (by rw [hc]; rfl) rfl ?_
      refine r_aload_n d_Mo_hit_60 rfl (?_ : WM _ 61 _ _ _ _)
      refine r_getR (k := 35) (j := 21) (q := 45) (by decide) rfl clk_11 (by decide) (qm_5 (i := 57) rfl rfl) rfl d_Mo_hit_61 (?_ : WM _ 64 _ _ _ _)
      refine r_iload_n d_Mo_hit_64 rfl (?_ : WM _ 65 _ _ _ _)
      obtain ⟨h7, h⟩ := h
      obtain ⟨h8, h⟩ := h
      refine r_iald (k := 45) (n := 240) (by decide) rfl d_Mo_hit_65 h7 h8 (y := (σ4 45 x1)) rfl (?_ : WM _ 66 _ _ _ _)
      exact r_ireturn rfl d_Mo_hit_66 h
    · replace h := h.2.1 hc
      refine r_tswIn 67 d_Mo_hit_29 (by omega) (by omega) (by rw [hc]; rfl) rfl ?_
      refine r_aload_n d_Mo_hit_67 rfl (?_ : WM _ 68 _ _ _ _)
      refine r_getR (k := 35) (j := 22) (q := 46) (by decide) rfl clk_11 (by decide) (qm_5 (i := 58) rfl rfl) rfl d_Mo_hit_68 (?_ : WM _ 71 _ _ _ _)
      refine r_iload_n d_Mo_hit_71 rfl (?_ : WM _ 72 _ _ _ _)
      obtain ⟨h9, h⟩ := h
      obtain ⟨h10, h⟩ := h
      refine r_iald (k := 46) (n := 240) (by decide) rfl d_Mo_hit_72 h9 h10 (y := (σ4 46 x1)) rfl (?_ : WM _ 73 _ _ _ _)
      exact r_ireturn rfl d_Mo_hit_73 h
    · replace h := h.2.2.1 hc
      refine r_tswIn 74 d_Mo_hit_29 (by omega) (by omega) (by rw [hc]; rfl) rfl ?_
      refine r_aload_n d_Mo_hit_74 rfl (?_ : WM _ 75 _ _ _ _)
      refine r_getR (k := 35) (j := 23) (q := 47) (by decide) rfl clk_11 (by decide) (qm_5 (i := 59) rfl rfl) rfl d_Mo_hit_75 (?_ : WM _ 78 _ _ _ _)
      refine r_iload_n d_Mo_hit_78 rfl (?_ : WM _ 79 _ _ _ _)
      obtain ⟨h11, h⟩ := h
      obtain ⟨h12, h⟩ := h
      refine r_iald (k := 47) (n := 240) (by decide) rfl d_Mo_hit_79 h11 h12 (y := (σ4 47 x1)) rfl (?_ : WM _ 80 _ _ _ _)
      exact r_ireturn rfl d_Mo_hit_80 h
    · replace h := h.2.2.2.1 hc
      refine r_tswIn 81 d_Mo_hit_29 (by omega) (by omega) (by rw [hc]; rfl) rfl ?_
      refine r_aload_n d_Mo_hit_81 rfl (?_ : WM _ 82 _ _ _ _)
      refine r_aload_n d_Mo_hit_82 rfl (?_ : WM _ 83 _ _ _ _)
      refine r_getR (k := 35) (j := 21) (q := 45) (by decide) rfl clk_11 (by decide) (qm_5 (i := 57) rfl rfl) rfl d_Mo_hit_83 (?_ : WM _ 86 _ _ _ _)
      refine r_iload_n d_Mo_hit_86 rfl (?_ : WM _ 87 _ _ _ _)
      obtain ⟨h13, h⟩ := h
      obtain ⟨h14, h⟩ := h
      refine r_iald (k := 45) (n := 240) (by decide) rfl d_Mo_hit_87 h13 h14 (y := (σ4 45 x1)) rfl (?_ : WM _ 88 _ _ _ _)
      refine r_callV (ν := M_Mo_taintOf) (k := 35) [vI (σ4 45 x1)] ok_M_Mo_taintOf okv_M_Mo_taintOf (by decide) rfl rfl rfl (qm_6 (i := 105) rfl rfl) np_M_Mo_taintOf rfl (by decide) (Nat.le_of_ble_eq_true rfl) rfl d_Mo_hit_88 (CI.k h (fun v16 σ15 h => (?_ : WM _ 91 _ _ _ _)))
      refine r_sipush d_Mo_hit_91 (by decide) (by decide) (?_ : WM _ 94 _ _ _ _)
      obtain ⟨h17, h⟩ := h
      refine r_iadd d_Mo_hit_94 h17 (?_ : WM _ 95 _ _ _ _)
      exact r_ireturn rfl d_Mo_hit_95 h
    · replace h := h.2.2.2.2 hc
      refine r_tswOut 96 d_Mo_hit_29 hc rfl ?_
      refine r_bipush d_Mo_hit_96 (by decide) (by decide) (?_ : WM _ 98 _ _ _ _)
      exact r_ireturn rfl d_Mo_hit_98 h
  · replace h := h.2 c6
    refine r_bipush d_Mo_hit_25 (by decide) (by decide) (?_ : WM _ 27 _ _ _ _)
    exact r_ireturn rfl d_Mo_hit_27 h
set_option maxRecDepth 20000 in
theorem e_Mo_start {K : Int → St → Prop} {σ : St} (x1 : Int) (h : (inR ((σ 35 10) - 1)) ∧ CI M_Mo_isIn [vL x1, vL 0, vL ((σ 35 10) - 1)] (ups σ 35 0 0) (fun v3 σ2 => (v3 = 0 → K (-2) σ2) ∧ (¬ v3 = 0 → (0 ≤ x1) ∧ (x1 < 5) ∧ K (σ2 41 x1) σ2))) : CI M_Mo_start [vR 35, vI x1] σ K := by
  refine Con.of ok_M_Mo_start (ls := [(0, vR 35), (1, vI x1)]) rfl (Nat.le_of_ble_eq_true rfl) ?_
  refine r_aload_n d_Mo_start_0 rfl (?_ : WM _ 1 _ _ _ _)
  refine r_iconst d_Mo_start_1 (by decide) (?_ : WM _ 2 _ _ _ _)
  refine r_put (k := 35) (j := 0) 0 (by decide) rfl clk_11 (by decide) (qm_5 (i := 36) rfl rfl) rfl rfl rfl tyX11_ok rfl nmX11 d_Mo_start_2 (?_ : WM _ 5 _ _ _ _)
  refine r_iload_n d_Mo_start_5 rfl (?_ : WM _ 6 _ _ _ _)
  refine r_i2l d_Mo_start_6 (?_ : WM _ 7 _ _ _ _)
  refine r_lconst 0 d_Mo_start_7 rfl (by decide) (?_ : WM _ 8 _ _ _ _)
  refine r_aload_n d_Mo_start_8 rfl (?_ : WM _ 9 _ _ _ _)
  refine r_getI (k := 35) (j := 10) 10 (by decide) rfl clk_11 (by decide) (qm_5 (i := 46) rfl rfl) rfl rfl d_Mo_start_9 (y := (σ 35 10)) (ups_f (by decide)) (?_ : WM _ 12 _ _ _ _)
  refine r_iconst d_Mo_start_12 (by decide) (?_ : WM _ 13 _ _ _ _)
  obtain ⟨h1, h⟩ := h
  refine r_isub d_Mo_start_13 h1 (?_ : WM _ 14 _ _ _ _)
  refine r_i2l d_Mo_start_14 (?_ : WM _ 15 _ _ _ _)
  refine r_callS (ν := M_Mo_isIn) [vL x1, vL 0, vL ((σ 35 10) - 1)] ok_M_Mo_isIn oks_M_Mo_isIn (qm_5 (i := 153) rfl rfl) np_M_Mo_isIn rfl (by decide) (Nat.le_of_ble_eq_true rfl) rfl d_Mo_start_15 (CI.k h (fun v3 σ2 h => (?_ : WM _ 18 _ _ _ _)))
  refine r_if_eq 30 d_Mo_start_18 rfl ⟨fun c4 => (?_ : WM _ 30 _ _ _ _), fun c4 => (?_ : WM _ 21 _ _ _ _)⟩
  · replace h := h.1 c4
    refine r_bipush d_Mo_start_30 (by decide) (by decide) (?_ : WM _ 32 _ _ _ _)
    exact r_ireturn rfl d_Mo_start_32 h
  · replace h := h.2 c4
    refine r_aload_n d_Mo_start_21 rfl (?_ : WM _ 22 _ _ _ _)
    refine r_getR (k := 35) (j := 8) (q := 41) (by decide) rfl clk_11 (by decide) (qm_5 (i := 44) rfl rfl) rfl d_Mo_start_22 (?_ : WM _ 25 _ _ _ _)
    refine r_iload_n d_Mo_start_25 rfl (?_ : WM _ 26 _ _ _ _)
    obtain ⟨h5, h⟩ := h
    obtain ⟨h6, h⟩ := h
    refine r_iald (k := 41) (n := 5) (by decide) rfl d_Mo_start_26 h5 h6 (y := (σ2 41 x1)) rfl (?_ : WM _ 27 _ _ _ _)
    refine r_goto 32 d_Mo_start_27 rfl ?_
    exact r_ireturn rfl d_Mo_start_32 h
set_option maxRecDepth 20000 in
theorem e_Mo_certain {K : Int → St → Prop} {σ : St} (x1 : Int) (h : CI M_Mo_among [vR 35, vI x1, vI 0] (ups σ 35 0 0) (fun v2 σ1 => K v2 σ1)) : CI M_Mo_certain [vR 35, vI x1] σ K := by
  refine Con.of ok_M_Mo_certain (ls := [(0, vR 35), (1, vI x1)]) rfl (Nat.le_of_ble_eq_true rfl) ?_
  refine r_aload_n d_Mo_certain_0 rfl (?_ : WM _ 1 _ _ _ _)
  refine r_iconst d_Mo_certain_1 (by decide) (?_ : WM _ 2 _ _ _ _)
  refine r_put (k := 35) (j := 0) 0 (by decide) rfl clk_11 (by decide) (qm_5 (i := 36) rfl rfl) rfl rfl rfl tyX11_ok rfl nmX11 d_Mo_certain_2 (?_ : WM _ 5 _ _ _ _)
  refine r_aload_n d_Mo_certain_5 rfl (?_ : WM _ 6 _ _ _ _)
  refine r_iload_n d_Mo_certain_6 rfl (?_ : WM _ 7 _ _ _ _)
  refine r_iconst d_Mo_certain_7 (by decide) (?_ : WM _ 8 _ _ _ _)
  refine r_callV (ν := M_Mo_among) (k := 35) [vI x1, vI 0] ok_M_Mo_among okv_M_Mo_among (by decide) rfl rfl rfl (qm_6 (i := 125) rfl rfl) np_M_Mo_among rfl (by decide) (Nat.le_of_ble_eq_true rfl) rfl d_Mo_certain_8 (CI.k h (fun v2 σ1 h => (?_ : WM _ 11 _ _ _ _)))
  exact r_ireturn rfl d_Mo_certain_11 h
set_option maxRecDepth 20000 in
theorem e_Mo_lacking {K : Int → St → Prop} {σ : St} (x1 : Int) (h : CI M_Mo_among [vR 35, vI x1, vI 1] (ups σ 35 0 0) (fun v2 σ1 => K v2 σ1)) : CI M_Mo_lacking [vR 35, vI x1] σ K := by
  refine Con.of ok_M_Mo_lacking (ls := [(0, vR 35), (1, vI x1)]) rfl (Nat.le_of_ble_eq_true rfl) ?_
  refine r_aload_n d_Mo_lacking_0 rfl (?_ : WM _ 1 _ _ _ _)
  refine r_iconst d_Mo_lacking_1 (by decide) (?_ : WM _ 2 _ _ _ _)
  refine r_put (k := 35) (j := 0) 0 (by decide) rfl clk_11 (by decide) (qm_5 (i := 36) rfl rfl) rfl rfl rfl tyX11_ok rfl nmX11 d_Mo_lacking_2 (?_ : WM _ 5 _ _ _ _)
  refine r_aload_n d_Mo_lacking_5 rfl (?_ : WM _ 6 _ _ _ _)
  refine r_iload_n d_Mo_lacking_6 rfl (?_ : WM _ 7 _ _ _ _)
  refine r_iconst d_Mo_lacking_7 (by decide) (?_ : WM _ 8 _ _ _ _)
  refine r_callV (ν := M_Mo_among) (k := 35) [vI x1, vI 1] ok_M_Mo_among okv_M_Mo_among (by decide) rfl rfl rfl (qm_6 (i := 125) rfl rfl) np_M_Mo_among rfl (by decide) (Nat.le_of_ble_eq_true rfl) rfl d_Mo_lacking_8 (CI.k h (fun v2 σ1 h => (?_ : WM _ 11 _ _ _ _)))
  exact r_ireturn rfl d_Mo_lacking_11 h
set_option maxRecDepth 20000 in
theorem e_Mo_account {K : Int → St → Prop} {σ : St} (x1 : Int) (x2 : Int) (h : CI M_Mo_isIn [vL x1, vL 0, vL 99] (ups σ 35 0 0) (fun v2 σ1 => (v2 = 0 → K (-10000000) σ1) ∧ (¬ v2 = 0 → CI M_Mo_isIn [vL x2, vL 0, vL 5] σ1 (fun v5 σ4 => (¬ v5 = 0 → CV M_Mo_laysHits [vR 35] σ4 (fun σ7 => WM M_Mo_account 41 [(0, vR 35), (1, vI x1), (2, vI x2), (3, vI 0), (4, vI 0)] [] σ7 (QI K))) ∧ (v5 = 0 → K (-10000000) σ4))))) : CI M_Mo_account [vR 35, vI x1, vI x2] σ K := by
  refine Con.of ok_M_Mo_account (ls := [(0, vR 35), (1, vI x1), (2, vI x2)]) rfl (Nat.le_of_ble_eq_true rfl) ?_
  refine r_aload_n d_Mo_account_0 rfl (?_ : WM _ 1 _ _ _ _)
  refine r_iconst d_Mo_account_1 (by decide) (?_ : WM _ 2 _ _ _ _)
  refine r_put (k := 35) (j := 0) 0 (by decide) rfl clk_11 (by decide) (qm_5 (i := 36) rfl rfl) rfl rfl rfl tyX11_ok rfl nmX11 d_Mo_account_2 (?_ : WM _ 5 _ _ _ _)
  refine r_iload_n d_Mo_account_5 rfl (?_ : WM _ 6 _ _ _ _)
  refine r_i2l d_Mo_account_6 (?_ : WM _ 7 _ _ _ _)
  refine r_lconst 0 d_Mo_account_7 rfl (by decide) (?_ : WM _ 8 _ _ _ _)
  refine r_ldc2 99 d_Mo_account_8 (qm_5 (i := 221) rfl rfl) (by decide) (by decide) (?_ : WM _ 11 _ _ _ _)
  refine r_callS (ν := M_Mo_isIn) [vL x1, vL 0, vL 99] ok_M_Mo_isIn oks_M_Mo_isIn (qm_5 (i := 153) rfl rfl) np_M_Mo_isIn rfl (by decide) (Nat.le_of_ble_eq_true rfl) rfl d_Mo_account_11 (CI.k h (fun v2 σ1 h => (?_ : WM _ 14 _ _ _ _)))
  refine r_if_eq 29 d_Mo_account_14 rfl ⟨fun c3 => (?_ : WM _ 29 _ _ _ _), fun c3 => (?_ : WM _ 17 _ _ _ _)⟩
  · replace h := h.1 c3
    refine r_ldc (-10000000) d_Mo_account_29 (qm_5 (i := 233) rfl rfl) (by decide) (by decide) (?_ : WM _ 31 _ _ _ _)
    exact r_ireturn rfl d_Mo_account_31 h
  · replace h := h.2 c3
    refine r_iload_n d_Mo_account_17 rfl (?_ : WM _ 18 _ _ _ _)
    refine r_i2l d_Mo_account_18 (?_ : WM _ 19 _ _ _ _)
    refine r_lconst 0 d_Mo_account_19 rfl (by decide) (?_ : WM _ 20 _ _ _ _)
    refine r_ldc2 5 d_Mo_account_20 (qm_6 (i := 161) rfl rfl) (by decide) (by decide) (?_ : WM _ 23 _ _ _ _)
    refine r_callS (ν := M_Mo_isIn) [vL x2, vL 0, vL 5] ok_M_Mo_isIn oks_M_Mo_isIn (qm_5 (i := 153) rfl rfl) np_M_Mo_isIn rfl (by decide) (Nat.le_of_ble_eq_true rfl) rfl d_Mo_account_23 (CI.k h (fun v5 σ4 h => (?_ : WM _ 26 _ _ _ _)))
    refine r_if_ne 32 d_Mo_account_26 rfl ⟨fun c6 => (?_ : WM _ 32 _ _ _ _), fun c6 => (?_ : WM _ 29 _ _ _ _)⟩
    · replace h := h.1 c6
      refine r_aload_n d_Mo_account_32 rfl (?_ : WM _ 33 _ _ _ _)
      refine r_callV (ν := M_Mo_laysHits) (k := 35) [] ok_M_Mo_laysHits okv_M_Mo_laysHits (by decide) rfl rfl rfl (qm_6 (i := 89) rfl rfl) np_M_Mo_laysHits rfl (by decide) (Nat.le_of_ble_eq_true rfl) rfl d_Mo_account_33 (CV.k h (fun σ7 h => (?_ : WM _ 36 _ _ _ _)))
      refine r_iconst d_Mo_account_36 (by decide) (?_ : WM _ 37 _ _ _ _)
      refine r_istore_n (ls' := [(3, vI 0), (0, vR 35), (1, vI x1), (2, vI x2)]) d_Mo_account_37 rfl (by decide) rfl (?_ : WM _ 38 _ _ _ _)
      refine r_iconst d_Mo_account_38 (by decide) (?_ : WM _ 39 _ _ _ _)
      refine r_istore (ls' := [(4, vI 0), (3, vI 0), (0, vR 35), (1, vI x1), (2, vI x2)]) d_Mo_account_39 (by decide) rfl (?_ : WM _ 41 _ _ _ _)
      refine r_pick (ls' := [(0, vR 35), (1, vI x1), (2, vI x2), (3, vI 0), (4, vI 0)]) [2, 3, 4, 1, 0] rfl ?_
      exact h
    · replace h := h.2 c6
      refine r_ldc (-10000000) d_Mo_account_29 (qm_5 (i := 233) rfl rfl) (by decide) (by decide) (?_ : WM _ 31 _ _ _ _)
      exact r_ireturn rfl d_Mo_account_31 h
set_option maxRecDepth 20000 in
theorem l_Mo_account_1 {K : Int → St → Prop} {σ : St} (x1 : Int) (x2 : Int) (x3 : Int) (x4 : Int) (h : ((σ 35 6) ≤ x4 → K x3 σ) ∧ (¬ (σ 35 6) ≤ x4 → (inR (4 * x4)) ∧ (inR ((4 * x4) + 0)) ∧ (0 ≤ ((4 * x4) + 0)) ∧ (((4 * x4) + 0) < 192) ∧ ((σ 39 ((4 * x4) + 0)) = x1 → (x2 = 0 → (inR (x3 + 1)) ∧ (inR (x4 + 1)) ∧ WM M_Mo_account 41 [(0, vR 35), (1, vI x1), (2, vI x2), (3, vI (x3 + 1)), (4, vI (x4 + 1))] [] σ (QI K)) ∧ (x2 = 1 → CI M_Mo_book [vR 35, vI x4] σ (fun v18 σ17 => (inR (x3 + v18)) ∧ (inR (x4 + 1)) ∧ WM M_Mo_account 41 [(0, vR 35), (1, vI x1), (2, vI x2), (3, vI (x3 + v18)), (4, vI (x4 + 1))] [] σ17 (QI K))) ∧ (x2 = 2 → (0 ≤ x4) ∧ (x4 < 48) ∧ (inR (x3 + (σ 48 x4))) ∧ (inR (x4 + 1)) ∧ WM M_Mo_account 41 [(0, vR 35), (1, vI x1), (2, vI x2), (3, vI (x3 + (σ 48 x4))), (4, vI (x4 + 1))] [] σ (QI K)) ∧ (x2 = 3 → CI M_Mo_errorOf [vR 35, vI x4] σ (fun v26 σ25 => (inR (x3 + v26)) ∧ (inR (x4 + 1)) ∧ WM M_Mo_account 41 [(0, vR 35), (1, vI x1), (2, vI x2), (3, vI (x3 + v26)), (4, vI (x4 + 1))] [] σ25 (QI K))) ∧ (x2 = 4 → CI M_Mo_isCertain [vR 35, vI x4] σ (fun v30 σ29 => (v30 = 0 → (inR (x3 + 0)) ∧ (inR (x4 + 1)) ∧ WM M_Mo_account 41 [(0, vR 35), (1, vI x1), (2, vI x2), (3, vI (x3 + 0)), (4, vI (x4 + 1))] [] σ29 (QI K)) ∧ (¬ v30 = 0 → (inR (x3 + 1)) ∧ (inR (x4 + 1)) ∧ WM M_Mo_account 41 [(0, vR 35), (1, vI x1), (2, vI x2), (3, vI (x3 + 1)), (4, vI (x4 + 1))] [] σ29 (QI K)))) ∧ (x2 < 0 ∨ 4 < x2 → (0 ≤ x4) ∧ (x4 < 48) ∧ ((σ 48 x4) ≤ 0 → (inR (x3 + 0)) ∧ (inR (x4 + 1)) ∧ WM M_Mo_account 41 [(0, vR 35), (1, vI x1), (2, vI x2), (3, vI (x3 + 0)), (4, vI (x4 + 1))] [] σ (QI K)) ∧ (¬ (σ 48 x4) ≤ 0 → CI M_Mo_partOf [vR 35, vI x4] σ (fun v42 σ41 => (inR ((σ 48 x4) * v42)) ∧ (inR (x3 + ((σ 48 x4) * v42))) ∧ (inR (x4 + 1)) ∧ WM M_Mo_account 41 [(0, vR 35), (1, vI x1), (2, vI x2), (3, vI (x3 + ((σ 48 x4) * v42))), (4, vI (x4 + 1))] [] σ41 (QI K))))) ∧ (¬ (σ 39 ((4 * x4) + 0)) = x1 → (inR (x4 + 1)) ∧ WM M_Mo_account 41 [(0, vR 35), (1, vI x1), (2, vI x2), (3, vI x3), (4, vI (x4 + 1))] [] σ (QI K)))) : WM M_Mo_account 41 [(0, vR 35), (1, vI x1), (2, vI x2), (3, vI x3), (4, vI x4)] [] σ (QI K) := by
  refine r_iload d_Mo_account_41 rfl (?_ : WM _ 43 _ _ _ _)
  refine r_aload_n d_Mo_account_43 rfl (?_ : WM _ 44 _ _ _ _)
  refine r_getI (k := 35) (j := 6) 6 (by decide) rfl clk_11 (by decide) (qm_5 (i := 42) rfl rfl) rfl rfl d_Mo_account_44 (y := (σ 35 6)) rfl (?_ : WM _ 47 _ _ _ _)
  refine r_icmp_ge 204 d_Mo_account_47 rfl ⟨fun c9 => (?_ : WM _ 204 _ _ _ _), fun c9 => (?_ : WM _ 50 _ _ _ _)⟩
  · replace h := h.1 c9
    refine r_iload_n d_Mo_account_204 rfl (?_ : WM _ 205 _ _ _ _)
    exact r_ireturn rfl d_Mo_account_205 h
  · replace h := h.2 c9
    refine r_aload_n d_Mo_account_50 rfl (?_ : WM _ 51 _ _ _ _)
    refine r_getR (k := 35) (j := 4) (q := 39) (by decide) rfl clk_11 (by decide) (qm_5 (i := 40) rfl rfl) rfl d_Mo_account_51 (?_ : WM _ 54 _ _ _ _)
    refine r_iconst d_Mo_account_54 (by decide) (?_ : WM _ 55 _ _ _ _)
    refine r_iload d_Mo_account_55 rfl (?_ : WM _ 57 _ _ _ _)
    obtain ⟨h10, h⟩ := h
    refine r_imul d_Mo_account_57 h10 (?_ : WM _ 58 _ _ _ _)
    refine r_iconst d_Mo_account_58 (by decide) (?_ : WM _ 59 _ _ _ _)
    obtain ⟨h11, h⟩ := h
    refine r_iadd d_Mo_account_59 h11 (?_ : WM _ 60 _ _ _ _)
    obtain ⟨h12, h⟩ := h
    obtain ⟨h13, h⟩ := h
    refine r_iald (k := 39) (n := 192) (by decide) rfl d_Mo_account_60 h12 h13 (y := (σ 39 ((4 * x4) + 0))) rfl (?_ : WM _ 61 _ _ _ _)
    refine r_iload_n d_Mo_account_61 rfl (?_ : WM _ 62 _ _ _ _)
    refine r_icmp_eq 68 d_Mo_account_62 rfl ⟨fun c14 => (?_ : WM _ 68 _ _ _ _), fun c14 => (?_ : WM _ 65 _ _ _ _)⟩
    · replace h := h.1 c14
      refine r_iload_n d_Mo_account_68 rfl (?_ : WM _ 69 _ _ _ _)
      have hsw : (x2 = 0) ∨ (x2 = 1) ∨ (x2 = 2) ∨ (x2 = 3) ∨ (x2 = 4) ∨ (x2 < 0 ∨ 4 < x2) := by omega
      rcases hsw with hc | hc | hc | hc | hc | hc
      · replace h := h.1 hc
        refine r_tswIn 104 d_Mo_account_69 (by omega) (by omega) (by rw [hc]; rfl) rfl ?_
        obtain ⟨h15, h⟩ := h
        refine r_iinc (ls' := [(3, vI (x3 + 1)), (0, vR 35), (1, vI x1), (2, vI x2), (4, vI x4)]) d_Mo_account_104 rfl h15 (by decide) rfl (?_ : WM _ 107 _ _ _ _)
        refine r_goto 198 d_Mo_account_107 rfl ?_
        obtain ⟨h16, h⟩ := h
        refine r_iinc (ls' := [(4, vI (x4 + 1)), (3, vI (x3 + 1)), (0, vR 35), (1, vI x1), (2, vI x2)]) d_Mo_account_198 rfl h16 (by decide) rfl (?_ : WM _ 201 _ _ _ _)
        refine r_goto 41 d_Mo_account_201 rfl ?_
        refine r_pick (ls' := [(0, vR 35), (1, vI x1), (2, vI x2), (3, vI (x3 + 1)), (4, vI (x4 + 1))]) [2, 3, 4, 1, 0] rfl ?_
        exact h
      · replace h := h.2.1 hc
        refine r_tswIn 110 d_Mo_account_69 (by omega) (by omega) (by rw [hc]; rfl) rfl ?_
        refine r_iload_n d_Mo_account_110 rfl (?_ : WM _ 111 _ _ _ _)
        refine r_aload_n d_Mo_account_111 rfl (?_ : WM _ 112 _ _ _ _)
        refine r_iload d_Mo_account_112 rfl (?_ : WM _ 114 _ _ _ _)
        refine r_callV (ν := M_Mo_book) (k := 35) [vI x4] ok_M_Mo_book okv_M_Mo_book (by decide) rfl rfl rfl (qm_5 (i := 234) rfl rfl) np_M_Mo_book rfl (by decide) (Nat.le_of_ble_eq_true rfl) rfl d_Mo_account_114 (CI.k h (fun v18 σ17 h => (?_ : WM _ 117 _ _ _ _)))
        obtain ⟨h19, h⟩ := h
        refine r_iadd d_Mo_account_117 h19 (?_ : WM _ 118 _ _ _ _)
        refine r_istore_n (ls' := [(3, vI (x3 + v18)), (0, vR 35), (1, vI x1), (2, vI x2), (4, vI x4)]) d_Mo_account_118 rfl (by decide) rfl (?_ : WM _ 119 _ _ _ _)
        refine r_goto 198 d_Mo_account_119 rfl ?_
        obtain ⟨h20, h⟩ := h
        refine r_iinc (ls' := [(4, vI (x4 + 1)), (3, vI (x3 + v18)), (0, vR 35), (1, vI x1), (2, vI x2)]) d_Mo_account_198 rfl h20 (by decide) rfl (?_ : WM _ 201 _ _ _ _)
        refine r_goto 41 d_Mo_account_201 rfl ?_
        refine r_pick (ls' := [(0, vR 35), (1, vI x1), (2, vI x2), (3, vI (x3 + v18)), (4, vI (x4 + 1))]) [2, 3, 4, 1, 0] rfl ?_
        exact h
      · replace h := h.2.2.1 hc
        refine r_tswIn 122 d_Mo_account_69 (by omega) (by omega) (by rw [hc]; rfl) rfl ?_
        refine r_iload_n d_Mo_account_122 rfl (?_ : WM _ 123 _ _ _ _)
        refine r_aload_n d_Mo_account_123 rfl (?_ : WM _ 124 _ _ _ _)
        refine r_getR (k := 35) (j := 24) (q := 48) (by decide) rfl clk_11 (by decide) (qm_5 (i := 60) rfl rfl) rfl d_Mo_account_124 (?_ : WM _ 127 _ _ _ _)
        refine r_iload d_Mo_account_127 rfl (?_ : WM _ 129 _ _ _ _)
        obtain ⟨h21, h⟩ := h
        obtain ⟨h22, h⟩ := h
        refine r_iald (k := 48) (n := 48) (by decide) rfl d_Mo_account_129 h21 h22 (y := (σ 48 x4)) rfl (?_ : WM _ 130 _ _ _ _)
        obtain ⟨h23, h⟩ := h
        refine r_iadd d_Mo_account_130 h23 (?_ : WM _ 131 _ _ _ _)
        refine r_istore_n (ls' := [(3, vI (x3 + (σ 48 x4))), (0, vR 35), (1, vI x1), (2, vI x2), (4, vI x4)]) d_Mo_account_131 rfl (by decide) rfl (?_ : WM _ 132 _ _ _ _)
        refine r_goto 198 d_Mo_account_132 rfl ?_
        obtain ⟨h24, h⟩ := h
        refine r_iinc (ls' := [(4, vI (x4 + 1)), (3, vI (x3 + (σ 48 x4))), (0, vR 35), (1, vI x1), (2, vI x2)]) d_Mo_account_198 rfl h24 (by decide) rfl (?_ : WM _ 201 _ _ _ _)
        refine r_goto 41 d_Mo_account_201 rfl ?_
        refine r_pick (ls' := [(0, vR 35), (1, vI x1), (2, vI x2), (3, vI (x3 + (σ 48 x4))), (4, vI (x4 + 1))]) [2, 3, 4, 1, 0] rfl ?_
        exact h
      · replace h := h.2.2.2.1 hc
        refine r_tswIn 135 d_Mo_account_69 (by omega) (by omega) (by rw [hc]; rfl) rfl ?_
        refine r_iload_n d_Mo_account_135 rfl (?_ : WM _ 136 _ _ _ _)
        refine r_aload_n d_Mo_account_136 rfl (?_ : WM _ 137 _ _ _ _)
        refine r_iload d_Mo_account_137 rfl (?_ : WM _ 139 _ _ _ _)
        refine r_callV (ν := M_Mo_errorOf) (k := 35) [vI x4] ok_M_Mo_errorOf okv_M_Mo_errorOf (by decide) rfl rfl rfl (qm_6 (i := 101) rfl rfl) np_M_Mo_errorOf rfl (by decide) (Nat.le_of_ble_eq_true rfl) rfl d_Mo_account_139 (CI.k h (fun v26 σ25 h => (?_ : WM _ 142 _ _ _ _)))
        obtain ⟨h27, h⟩ := h
        refine r_iadd d_Mo_account_142 h27 (?_ : WM _ 143 _ _ _ _)
        refine r_istore_n (ls' := [(3, vI (x3 + v26)), (0, vR 35), (1, vI x1), (2, vI x2), (4, vI x4)]) d_Mo_account_143 rfl (by decide) rfl (?_ : WM _ 144 _ _ _ _)
        refine r_goto 198 d_Mo_account_144 rfl ?_
        obtain ⟨h28, h⟩ := h
        refine r_iinc (ls' := [(4, vI (x4 + 1)), (3, vI (x3 + v26)), (0, vR 35), (1, vI x1), (2, vI x2)]) d_Mo_account_198 rfl h28 (by decide) rfl (?_ : WM _ 201 _ _ _ _)
        refine r_goto 41 d_Mo_account_201 rfl ?_
        refine r_pick (ls' := [(0, vR 35), (1, vI x1), (2, vI x2), (3, vI (x3 + v26)), (4, vI (x4 + 1))]) [2, 3, 4, 1, 0] rfl ?_
        exact h
      · replace h := h.2.2.2.2.1 hc
        refine r_tswIn 147 d_Mo_account_69 (by omega) (by omega) (by rw [hc]; rfl) rfl ?_
        refine r_iload_n d_Mo_account_147 rfl (?_ : WM _ 148 _ _ _ _)
        refine r_aload_n d_Mo_account_148 rfl (?_ : WM _ 149 _ _ _ _)
        refine r_iload d_Mo_account_149 rfl (?_ : WM _ 151 _ _ _ _)
        refine r_callV (ν := M_Mo_isCertain) (k := 35) [vI x4] ok_M_Mo_isCertain okv_M_Mo_isCertain (by decide) rfl rfl rfl (qm_6 (i := 27) rfl rfl) np_M_Mo_isCertain rfl (by decide) (Nat.le_of_ble_eq_true rfl) rfl d_Mo_account_151 (CI.k h (fun v30 σ29 h => (?_ : WM _ 154 _ _ _ _)))
        refine r_if_eq 161 d_Mo_account_154 rfl ⟨fun c31 => (?_ : WM _ 161 _ _ _ _), fun c31 => (?_ : WM _ 157 _ _ _ _)⟩
        · replace h := h.1 c31
          refine r_iconst d_Mo_account_161 (by decide) (?_ : WM _ 162 _ _ _ _)
          obtain ⟨h32, h⟩ := h
          refine r_iadd d_Mo_account_162 h32 (?_ : WM _ 163 _ _ _ _)
          refine r_istore_n (ls' := [(3, vI (x3 + 0)), (0, vR 35), (1, vI x1), (2, vI x2), (4, vI x4)]) d_Mo_account_163 rfl (by decide) rfl (?_ : WM _ 164 _ _ _ _)
          refine r_goto 198 d_Mo_account_164 rfl ?_
          obtain ⟨h33, h⟩ := h
          refine r_iinc (ls' := [(4, vI (x4 + 1)), (3, vI (x3 + 0)), (0, vR 35), (1, vI x1), (2, vI x2)]) d_Mo_account_198 rfl h33 (by decide) rfl (?_ : WM _ 201 _ _ _ _)
          refine r_goto 41 d_Mo_account_201 rfl ?_
          refine r_pick (ls' := [(0, vR 35), (1, vI x1), (2, vI x2), (3, vI (x3 + 0)), (4, vI (x4 + 1))]) [2, 3, 4, 1, 0] rfl ?_
          exact h
        · replace h := h.2 c31
          refine r_iconst d_Mo_account_157 (by decide) (?_ : WM _ 158 _ _ _ _)
          refine r_goto 162 d_Mo_account_158 rfl ?_
          obtain ⟨h34, h⟩ := h
          refine r_iadd d_Mo_account_162 h34 (?_ : WM _ 163 _ _ _ _)
          refine r_istore_n (ls' := [(3, vI (x3 + 1)), (0, vR 35), (1, vI x1), (2, vI x2), (4, vI x4)]) d_Mo_account_163 rfl (by decide) rfl (?_ : WM _ 164 _ _ _ _)
          refine r_goto 198 d_Mo_account_164 rfl ?_
          obtain ⟨h35, h⟩ := h
          refine r_iinc (ls' := [(4, vI (x4 + 1)), (3, vI (x3 + 1)), (0, vR 35), (1, vI x1), (2, vI x2)]) d_Mo_account_198 rfl h35 (by decide) rfl (?_ : WM _ 201 _ _ _ _)
          refine r_goto 41 d_Mo_account_201 rfl ?_
          refine r_pick (ls' := [(0, vR 35), (1, vI x1), (2, vI x2), (3, vI (x3 + 1)), (4, vI (x4 + 1))]) [2, 3, 4, 1, 0] rfl ?_
          exact h
      · replace h := h.2.2.2.2.2 hc
        refine r_tswOut 167 d_Mo_account_69 hc rfl ?_
        refine r_iload_n d_Mo_account_167 rfl (?_ : WM _ 168 _ _ _ _)
        refine r_aload_n d_Mo_account_168 rfl (?_ : WM _ 169 _ _ _ _)
        refine r_getR (k := 35) (j := 24) (q := 48) (by decide) rfl clk_11 (by decide) (qm_5 (i := 60) rfl rfl) rfl d_Mo_account_169 (?_ : WM _ 172 _ _ _ _)
        refine r_iload d_Mo_account_172 rfl (?_ : WM _ 174 _ _ _ _)
        obtain ⟨h36, h⟩ := h
        obtain ⟨h37, h⟩ := h
        refine r_iald (k := 48) (n := 48) (by decide) rfl d_Mo_account_174 h36 h37 (y := (σ 48 x4)) rfl (?_ : WM _ 175 _ _ _ _)
        refine r_if_le 195 d_Mo_account_175 rfl ⟨fun c38 => (?_ : WM _ 195 _ _ _ _), fun c38 => (?_ : WM _ 178 _ _ _ _)⟩
        · replace h := h.1 c38
          refine r_iconst d_Mo_account_195 (by decide) (?_ : WM _ 196 _ _ _ _)
          obtain ⟨h39, h⟩ := h
          refine r_iadd d_Mo_account_196 h39 (?_ : WM _ 197 _ _ _ _)
          refine r_istore_n (ls' := [(3, vI (x3 + 0)), (0, vR 35), (1, vI x1), (2, vI x2), (4, vI x4)]) d_Mo_account_197 rfl (by decide) rfl (?_ : WM _ 198 _ _ _ _)
          obtain ⟨h40, h⟩ := h
          refine r_iinc (ls' := [(4, vI (x4 + 1)), (3, vI (x3 + 0)), (0, vR 35), (1, vI x1), (2, vI x2)]) d_Mo_account_198 rfl h40 (by decide) rfl (?_ : WM _ 201 _ _ _ _)
          refine r_goto 41 d_Mo_account_201 rfl ?_
          refine r_pick (ls' := [(0, vR 35), (1, vI x1), (2, vI x2), (3, vI (x3 + 0)), (4, vI (x4 + 1))]) [2, 3, 4, 1, 0] rfl ?_
          exact h
        · replace h := h.2 c38
          refine r_aload_n d_Mo_account_178 rfl (?_ : WM _ 179 _ _ _ _)
          refine r_getR (k := 35) (j := 24) (q := 48) (by decide) rfl clk_11 (by decide) (qm_5 (i := 60) rfl rfl) rfl d_Mo_account_179 (?_ : WM _ 182 _ _ _ _)
          refine r_iload d_Mo_account_182 rfl (?_ : WM _ 184 _ _ _ _)
          refine r_iald (k := 48) (n := 48) (by decide) rfl d_Mo_account_184 h36 h37 (y := (σ 48 x4)) rfl (?_ : WM _ 185 _ _ _ _)
          refine r_aload_n d_Mo_account_185 rfl (?_ : WM _ 186 _ _ _ _)
          refine r_iload d_Mo_account_186 rfl (?_ : WM _ 188 _ _ _ _)
          refine r_callV (ν := M_Mo_partOf) (k := 35) [vI x4] ok_M_Mo_partOf okv_M_Mo_partOf (by decide) rfl rfl rfl (qm_6 (i := 162) rfl rfl) np_M_Mo_partOf rfl (by decide) (Nat.le_of_ble_eq_true rfl) rfl d_Mo_account_188 (CI.k h (fun v42 σ41 h => (?_ : WM _ 191 _ _ _ _)))
          obtain ⟨h43, h⟩ := h
          refine r_imul d_Mo_account_191 h43 (?_ : WM _ 192 _ _ _ _)
          refine r_goto 196 d_Mo_account_192 rfl ?_
          obtain ⟨h44, h⟩ := h
          refine r_iadd d_Mo_account_196 h44 (?_ : WM _ 197 _ _ _ _)
          refine r_istore_n (ls' := [(3, vI (x3 + ((σ 48 x4) * v42))), (0, vR 35), (1, vI x1), (2, vI x2), (4, vI x4)]) d_Mo_account_197 rfl (by decide) rfl (?_ : WM _ 198 _ _ _ _)
          obtain ⟨h45, h⟩ := h
          refine r_iinc (ls' := [(4, vI (x4 + 1)), (3, vI (x3 + ((σ 48 x4) * v42))), (0, vR 35), (1, vI x1), (2, vI x2)]) d_Mo_account_198 rfl h45 (by decide) rfl (?_ : WM _ 201 _ _ _ _)
          refine r_goto 41 d_Mo_account_201 rfl ?_
          refine r_pick (ls' := [(0, vR 35), (1, vI x1), (2, vI x2), (3, vI (x3 + ((σ 48 x4) * v42))), (4, vI (x4 + 1))]) [2, 3, 4, 1, 0] rfl ?_
          exact h
    · replace h := h.2 c14
      refine r_goto 198 d_Mo_account_65 rfl ?_
      obtain ⟨h46, h⟩ := h
      refine r_iinc (ls' := [(4, vI (x4 + 1)), (0, vR 35), (1, vI x1), (2, vI x2), (3, vI x3)]) d_Mo_account_198 rfl h46 (by decide) rfl (?_ : WM _ 201 _ _ _ _)
      refine r_goto 41 d_Mo_account_201 rfl ?_
      refine r_pick (ls' := [(0, vR 35), (1, vI x1), (2, vI x2), (3, vI x3), (4, vI (x4 + 1))]) [1, 2, 3, 4, 0] rfl ?_
      exact h
set_option maxRecDepth 20000 in
theorem e_Mo_accounts {K : Int → St → Prop} {σ : St} (x1 : Int) (h : ((-1) ≤ x1 → WM M_Mo_accounts 17 [(0, vR 35), (1, vI x1), (2, vI 0), (3, vI 0)] [] (ups σ 35 0 0) (QI K)) ∧ (¬ (-1) ≤ x1 → K (-3) (ups σ 35 0 0))) : CI M_Mo_accounts [vR 35, vI x1] σ K := by
  refine Con.of ok_M_Mo_accounts (ls := [(0, vR 35), (1, vI x1)]) rfl (Nat.le_of_ble_eq_true rfl) ?_
  refine r_aload_n d_Mo_accounts_0 rfl (?_ : WM _ 1 _ _ _ _)
  refine r_iconst d_Mo_accounts_1 (by decide) (?_ : WM _ 2 _ _ _ _)
  refine r_put (k := 35) (j := 0) 0 (by decide) rfl clk_11 (by decide) (qm_5 (i := 36) rfl rfl) rfl rfl rfl tyX11_ok rfl nmX11 d_Mo_accounts_2 (?_ : WM _ 5 _ _ _ _)
  refine r_iload_n d_Mo_accounts_5 rfl (?_ : WM _ 6 _ _ _ _)
  refine r_iconst d_Mo_accounts_6 (by decide) (?_ : WM _ 7 _ _ _ _)
  refine r_icmp_ge 13 d_Mo_accounts_7 rfl ⟨fun c1 => (?_ : WM _ 13 _ _ _ _), fun c1 => (?_ : WM _ 10 _ _ _ _)⟩
  · replace h := h.1 c1
    refine r_iconst d_Mo_accounts_13 (by decide) (?_ : WM _ 14 _ _ _ _)
    refine r_istore_n (ls' := [(2, vI 0), (0, vR 35), (1, vI x1)]) d_Mo_accounts_14 rfl (by decide) rfl (?_ : WM _ 15 _ _ _ _)
    refine r_iconst d_Mo_accounts_15 (by decide) (?_ : WM _ 16 _ _ _ _)
    refine r_istore_n (ls' := [(3, vI 0), (2, vI 0), (0, vR 35), (1, vI x1)]) d_Mo_accounts_16 rfl (by decide) rfl (?_ : WM _ 17 _ _ _ _)
    refine r_pick (ls' := [(0, vR 35), (1, vI x1), (2, vI 0), (3, vI 0)]) [2, 3, 1, 0] rfl ?_
    exact h
  · replace h := h.2 c1
    refine r_bipush d_Mo_accounts_10 (by decide) (by decide) (?_ : WM _ 12 _ _ _ _)
    exact r_ireturn rfl d_Mo_accounts_12 h
set_option maxRecDepth 20000 in
theorem l_Mo_accounts_1 {K : Int → St → Prop} {σ : St} (x1 : Int) (x2 : Int) (x3 : Int) (h : ((σ 35 6) ≤ x3 → (¬ x1 = (-1) → K (-1) σ) ∧ (x1 = (-1) → K x2 σ)) ∧ (¬ (σ 35 6) ≤ x3 → (inR (4 * x3)) ∧ (inR ((4 * x3) + 0)) ∧ (0 ≤ ((4 * x3) + 0)) ∧ (((4 * x3) + 0) < 192) ∧ WM M_Mo_accounts 43 [(0, vR 35), (1, vI x1), (2, vI x2), (3, vI x3), (4, vI (σ 39 ((4 * x3) + 0))), (5, vI 1), (6, vI 0)] [] σ (QI K))) : WM M_Mo_accounts 17 [(0, vR 35), (1, vI x1), (2, vI x2), (3, vI x3)] [] σ (QI K) := by
  refine r_iload_n d_Mo_accounts_17 rfl (?_ : WM _ 18 _ _ _ _)
  refine r_aload_n d_Mo_accounts_18 rfl (?_ : WM _ 19 _ _ _ _)
  refine r_getI (k := 35) (j := 6) 6 (by decide) rfl clk_11 (by decide) (qm_5 (i := 42) rfl rfl) rfl rfl d_Mo_accounts_19 (y := (σ 35 6)) rfl (?_ : WM _ 22 _ _ _ _)
  refine r_icmp_ge 108 d_Mo_accounts_22 rfl ⟨fun c2 => (?_ : WM _ 108 _ _ _ _), fun c2 => (?_ : WM _ 25 _ _ _ _)⟩
  · replace h := h.1 c2
    refine r_iload_n d_Mo_accounts_108 rfl (?_ : WM _ 109 _ _ _ _)
    refine r_iconst d_Mo_accounts_109 (by decide) (?_ : WM _ 110 _ _ _ _)
    refine r_icmp_ne 117 d_Mo_accounts_110 rfl ⟨fun c3 => (?_ : WM _ 117 _ _ _ _), fun c3 => (?_ : WM _ 113 _ _ _ _)⟩
    · replace h := h.1 c3
      refine r_iconst d_Mo_accounts_117 (by decide) (?_ : WM _ 118 _ _ _ _)
      exact r_ireturn rfl d_Mo_accounts_118 h
    · replace h := h.2 c3
      refine r_iload_n d_Mo_accounts_113 rfl (?_ : WM _ 114 _ _ _ _)
      refine r_goto 118 d_Mo_accounts_114 rfl ?_
      exact r_ireturn rfl d_Mo_accounts_118 h
  · replace h := h.2 c2
    refine r_aload_n d_Mo_accounts_25 rfl (?_ : WM _ 26 _ _ _ _)
    refine r_getR (k := 35) (j := 4) (q := 39) (by decide) rfl clk_11 (by decide) (qm_5 (i := 40) rfl rfl) rfl d_Mo_accounts_26 (?_ : WM _ 29 _ _ _ _)
    refine r_iconst d_Mo_accounts_29 (by decide) (?_ : WM _ 30 _ _ _ _)
    refine r_iload_n d_Mo_accounts_30 rfl (?_ : WM _ 31 _ _ _ _)
    obtain ⟨h4, h⟩ := h
    refine r_imul d_Mo_accounts_31 h4 (?_ : WM _ 32 _ _ _ _)
    refine r_iconst d_Mo_accounts_32 (by decide) (?_ : WM _ 33 _ _ _ _)
    obtain ⟨h5, h⟩ := h
    refine r_iadd d_Mo_accounts_33 h5 (?_ : WM _ 34 _ _ _ _)
    obtain ⟨h6, h⟩ := h
    obtain ⟨h7, h⟩ := h
    refine r_iald (k := 39) (n := 192) (by decide) rfl d_Mo_accounts_34 h6 h7 (y := (σ 39 ((4 * x3) + 0))) rfl (?_ : WM _ 35 _ _ _ _)
    refine r_istore (ls' := [(4, vI (σ 39 ((4 * x3) + 0))), (0, vR 35), (1, vI x1), (2, vI x2), (3, vI x3)]) d_Mo_accounts_35 (by decide) rfl (?_ : WM _ 37 _ _ _ _)
    refine r_iconst d_Mo_accounts_37 (by decide) (?_ : WM _ 38 _ _ _ _)
    refine r_istore (ls' := [(5, vI 1), (4, vI (σ 39 ((4 * x3) + 0))), (0, vR 35), (1, vI x1), (2, vI x2), (3, vI x3)]) d_Mo_accounts_38 (by decide) rfl (?_ : WM _ 40 _ _ _ _)
    refine r_iconst d_Mo_accounts_40 (by decide) (?_ : WM _ 41 _ _ _ _)
    refine r_istore (ls' := [(6, vI 0), (5, vI 1), (4, vI (σ 39 ((4 * x3) + 0))), (0, vR 35), (1, vI x1), (2, vI x2), (3, vI x3)]) d_Mo_accounts_41 (by decide) rfl (?_ : WM _ 43 _ _ _ _)
    refine r_pick (ls' := [(0, vR 35), (1, vI x1), (2, vI x2), (3, vI x3), (4, vI (σ 39 ((4 * x3) + 0))), (5, vI 1), (6, vI 0)]) [3, 4, 5, 6, 2, 1, 0] rfl ?_
    exact h
set_option maxRecDepth 20000 in
theorem l_Mo_accounts_2 {K : Int → St → Prop} {σ : St} (x1 : Int) (x2 : Int) (x3 : Int) (x4 : Int) (x5 : Int) (x6 : Int) (h : (x3 ≤ x6 → (¬ x5 = 0 → (¬ x2 = x1 → (inR (x2 + 1)) ∧ (inR (x3 + 1)) ∧ WM M_Mo_accounts 17 [(0, vR 35), (1, vI x1), (2, vI (x2 + 1)), (3, vI (x3 + 1))] [] σ (QI K)) ∧ (x2 = x1 → K x4 σ)) ∧ (x5 = 0 → (inR (x3 + 1)) ∧ WM M_Mo_accounts 17 [(0, vR 35), (1, vI x1), (2, vI x2), (3, vI (x3 + 1))] [] σ (QI K))) ∧ (¬ x3 ≤ x6 → (x5 = 0 → (inR (x6 + 1)) ∧ WM M_Mo_accounts 43 [(0, vR 35), (1, vI x1), (2, vI x2), (3, vI x3), (4, vI x4), (5, vI 0), (6, vI (x6 + 1))] [] σ (QI K)) ∧ (¬ x5 = 0 → (inR (4 * x6)) ∧ (inR ((4 * x6) + 0)) ∧ (0 ≤ ((4 * x6) + 0)) ∧ (((4 * x6) + 0) < 192) ∧ ((σ 39 ((4 * x6) + 0)) = x4 → (inR (x6 + 1)) ∧ WM M_Mo_accounts 43 [(0, vR 35), (1, vI x1), (2, vI x2), (3, vI x3), (4, vI x4), (5, vI 0), (6, vI (x6 + 1))] [] σ (QI K)) ∧ (¬ (σ 39 ((4 * x6) + 0)) = x4 → (inR (x6 + 1)) ∧ WM M_Mo_accounts 43 [(0, vR 35), (1, vI x1), (2, vI x2), (3, vI x3), (4, vI x4), (5, vI 1), (6, vI (x6 + 1))] [] σ (QI K))))) : WM M_Mo_accounts 43 [(0, vR 35), (1, vI x1), (2, vI x2), (3, vI x3), (4, vI x4), (5, vI x5), (6, vI x6)] [] σ (QI K) := by
  refine r_iload d_Mo_accounts_43 rfl (?_ : WM _ 45 _ _ _ _)
  refine r_iload_n d_Mo_accounts_45 rfl (?_ : WM _ 46 _ _ _ _)
  refine r_icmp_ge 83 d_Mo_accounts_46 rfl ⟨fun c8 => (?_ : WM _ 83 _ _ _ _), fun c8 => (?_ : WM _ 49 _ _ _ _)⟩
  · replace h := h.1 c8
    refine r_iload d_Mo_accounts_83 rfl (?_ : WM _ 85 _ _ _ _)
    refine r_if_ne 91 d_Mo_accounts_85 rfl ⟨fun c9 => (?_ : WM _ 91 _ _ _ _), fun c9 => (?_ : WM _ 88 _ _ _ _)⟩
    · replace h := h.1 c9
      refine r_iload_n d_Mo_accounts_91 rfl (?_ : WM _ 92 _ _ _ _)
      refine r_iload_n d_Mo_accounts_92 rfl (?_ : WM _ 93 _ _ _ _)
      refine r_icmp_ne 99 d_Mo_accounts_93 rfl ⟨fun c10 => (?_ : WM _ 99 _ _ _ _), fun c10 => (?_ : WM _ 96 _ _ _ _)⟩
      · replace h := h.1 c10
        obtain ⟨h11, h⟩ := h
        refine r_iinc (ls' := [(2, vI (x2 + 1)), (0, vR 35), (1, vI x1), (3, vI x3), (4, vI x4), (5, vI x5), (6, vI x6)]) d_Mo_accounts_99 rfl h11 (by decide) rfl (?_ : WM _ 102 _ _ _ _)
        obtain ⟨h12, h⟩ := h
        refine r_iinc (ls' := [(3, vI (x3 + 1)), (2, vI (x2 + 1)), (0, vR 35), (1, vI x1), (4, vI x4), (5, vI x5), (6, vI x6)]) d_Mo_accounts_102 rfl h12 (by decide) rfl (?_ : WM _ 105 _ _ _ _)
        refine r_goto 17 d_Mo_accounts_105 rfl ?_
        refine r_pick (ls' := [(0, vR 35), (1, vI x1), (2, vI (x2 + 1)), (3, vI (x3 + 1))]) [2, 3, 1, 0] rfl ?_
        exact h
      · replace h := h.2 c10
        refine r_iload d_Mo_accounts_96 rfl (?_ : WM _ 98 _ _ _ _)
        exact r_ireturn rfl d_Mo_accounts_98 h
    · replace h := h.2 c9
      refine r_goto 102 d_Mo_accounts_88 rfl ?_
      obtain ⟨h13, h⟩ := h
      refine r_iinc (ls' := [(3, vI (x3 + 1)), (0, vR 35), (1, vI x1), (2, vI x2), (4, vI x4), (5, vI x5), (6, vI x6)]) d_Mo_accounts_102 rfl h13 (by decide) rfl (?_ : WM _ 105 _ _ _ _)
      refine r_goto 17 d_Mo_accounts_105 rfl ?_
      refine r_pick (ls' := [(0, vR 35), (1, vI x1), (2, vI x2), (3, vI (x3 + 1))]) [1, 2, 3, 0] rfl ?_
      exact h
  · replace h := h.2 c8
    refine r_iload d_Mo_accounts_49 rfl (?_ : WM _ 51 _ _ _ _)
    refine r_if_eq 74 d_Mo_accounts_51 rfl ⟨fun c14 => (?_ : WM _ 74 _ _ _ _), fun c14 => (?_ : WM _ 54 _ _ _ _)⟩
    · replace h := h.1 c14
      refine r_iconst d_Mo_accounts_74 (by decide) (?_ : WM _ 75 _ _ _ _)
      refine r_istore (ls' := [(5, vI 0), (0, vR 35), (1, vI x1), (2, vI x2), (3, vI x3), (4, vI x4), (6, vI x6)]) d_Mo_accounts_75 (by decide) rfl (?_ : WM _ 77 _ _ _ _)
      obtain ⟨h15, h⟩ := h
      refine r_iinc (ls' := [(6, vI (x6 + 1)), (5, vI 0), (0, vR 35), (1, vI x1), (2, vI x2), (3, vI x3), (4, vI x4)]) d_Mo_accounts_77 rfl h15 (by decide) rfl (?_ : WM _ 80 _ _ _ _)
      refine r_goto 43 d_Mo_accounts_80 rfl ?_
      refine r_pick (ls' := [(0, vR 35), (1, vI x1), (2, vI x2), (3, vI x3), (4, vI x4), (5, vI 0), (6, vI (x6 + 1))]) [2, 3, 4, 5, 6, 1, 0] rfl ?_
      exact h
    · replace h := h.2 c14
      refine r_aload_n d_Mo_accounts_54 rfl (?_ : WM _ 55 _ _ _ _)
      refine r_getR (k := 35) (j := 4) (q := 39) (by decide) rfl clk_11 (by decide) (qm_5 (i := 40) rfl rfl) rfl d_Mo_accounts_55 (?_ : WM _ 58 _ _ _ _)
      refine r_iconst d_Mo_accounts_58 (by decide) (?_ : WM _ 59 _ _ _ _)
      refine r_iload d_Mo_accounts_59 rfl (?_ : WM _ 61 _ _ _ _)
      obtain ⟨h16, h⟩ := h
      refine r_imul d_Mo_accounts_61 h16 (?_ : WM _ 62 _ _ _ _)
      refine r_iconst d_Mo_accounts_62 (by decide) (?_ : WM _ 63 _ _ _ _)
      obtain ⟨h17, h⟩ := h
      refine r_iadd d_Mo_accounts_63 h17 (?_ : WM _ 64 _ _ _ _)
      obtain ⟨h18, h⟩ := h
      obtain ⟨h19, h⟩ := h
      refine r_iald (k := 39) (n := 192) (by decide) rfl d_Mo_accounts_64 h18 h19 (y := (σ 39 ((4 * x6) + 0))) rfl (?_ : WM _ 65 _ _ _ _)
      refine r_iload d_Mo_accounts_65 rfl (?_ : WM _ 67 _ _ _ _)
      refine r_icmp_eq 74 d_Mo_accounts_67 rfl ⟨fun c20 => (?_ : WM _ 74 _ _ _ _), fun c20 => (?_ : WM _ 70 _ _ _ _)⟩
      · replace h := h.1 c20
        refine r_iconst d_Mo_accounts_74 (by decide) (?_ : WM _ 75 _ _ _ _)
        refine r_istore (ls' := [(5, vI 0), (0, vR 35), (1, vI x1), (2, vI x2), (3, vI x3), (4, vI x4), (6, vI x6)]) d_Mo_accounts_75 (by decide) rfl (?_ : WM _ 77 _ _ _ _)
        obtain ⟨h21, h⟩ := h
        refine r_iinc (ls' := [(6, vI (x6 + 1)), (5, vI 0), (0, vR 35), (1, vI x1), (2, vI x2), (3, vI x3), (4, vI x4)]) d_Mo_accounts_77 rfl h21 (by decide) rfl (?_ : WM _ 80 _ _ _ _)
        refine r_goto 43 d_Mo_accounts_80 rfl ?_
        refine r_pick (ls' := [(0, vR 35), (1, vI x1), (2, vI x2), (3, vI x3), (4, vI x4), (5, vI 0), (6, vI (x6 + 1))]) [2, 3, 4, 5, 6, 1, 0] rfl ?_
        exact h
      · replace h := h.2 c20
        refine r_iconst d_Mo_accounts_70 (by decide) (?_ : WM _ 71 _ _ _ _)
        refine r_goto 75 d_Mo_accounts_71 rfl ?_
        refine r_istore (ls' := [(5, vI 1), (0, vR 35), (1, vI x1), (2, vI x2), (3, vI x3), (4, vI x4), (6, vI x6)]) d_Mo_accounts_75 (by decide) rfl (?_ : WM _ 77 _ _ _ _)
        obtain ⟨h22, h⟩ := h
        refine r_iinc (ls' := [(6, vI (x6 + 1)), (5, vI 1), (0, vR 35), (1, vI x1), (2, vI x2), (3, vI x3), (4, vI x4)]) d_Mo_accounts_77 rfl h22 (by decide) rfl (?_ : WM _ 80 _ _ _ _)
        refine r_goto 43 d_Mo_accounts_80 rfl ?_
        refine r_pick (ls' := [(0, vR 35), (1, vI x1), (2, vI x2), (3, vI x3), (4, vI x4), (5, vI 1), (6, vI (x6 + 1))]) [2, 3, 4, 5, 6, 1, 0] rfl ?_
        exact h
set_option maxRecDepth 20000 in
theorem e_Mo_drawn {K : Int → St → Prop} {σ : St} (x1 : Int) (h : CI M_Mo_among [vR 35, vI x1, vI 2] (ups σ 35 0 0) (fun v2 σ1 => K v2 σ1)) : CI M_Mo_drawn [vR 35, vI x1] σ K := by
  refine Con.of ok_M_Mo_drawn (ls := [(0, vR 35), (1, vI x1)]) rfl (Nat.le_of_ble_eq_true rfl) ?_
  refine r_aload_n d_Mo_drawn_0 rfl (?_ : WM _ 1 _ _ _ _)
  refine r_iconst d_Mo_drawn_1 (by decide) (?_ : WM _ 2 _ _ _ _)
  refine r_put (k := 35) (j := 0) 0 (by decide) rfl clk_11 (by decide) (qm_5 (i := 36) rfl rfl) rfl rfl rfl tyX11_ok rfl nmX11 d_Mo_drawn_2 (?_ : WM _ 5 _ _ _ _)
  refine r_aload_n d_Mo_drawn_5 rfl (?_ : WM _ 6 _ _ _ _)
  refine r_iload_n d_Mo_drawn_6 rfl (?_ : WM _ 7 _ _ _ _)
  refine r_iconst d_Mo_drawn_7 (by decide) (?_ : WM _ 8 _ _ _ _)
  refine r_callV (ν := M_Mo_among) (k := 35) [vI x1, vI 2] ok_M_Mo_among okv_M_Mo_among (by decide) rfl rfl rfl (qm_6 (i := 125) rfl rfl) np_M_Mo_among rfl (by decide) (Nat.le_of_ble_eq_true rfl) rfl d_Mo_drawn_8 (CI.k h (fun v2 σ1 h => (?_ : WM _ 11 _ _ _ _)))
  exact r_ireturn rfl d_Mo_drawn_11 h
set_option maxRecDepth 20000 in
theorem e_Mo_line_ {K : Int → St → Prop} {σ : St} (x1 : Int) (x2 : Int) (h : (0 ≤ x1 → CI M_Mo_among [vR 35, vI x1, vI 2] (ups σ 35 0 0) (fun v3 σ2 => (¬ v3 = (-1) → (0 ≤ x2 → (inR (4 * v3)) ∧ (inR ((4 * v3) + 0)) ∧ (0 ≤ ((4 * v3) + 0)) ∧ (((4 * v3) + 0) < 192) ∧ CV M_Mo_tellsNumber [vR 35, vI (σ2 39 ((4 * v3) + 0))] (ups σ2 35 30 0) (fun σ10 => CV M_Mo_tells [vR 35, vI 47] σ10 (fun σ12 => (inR ((4 * v3) + 1)) ∧ (0 ≤ ((4 * v3) + 1)) ∧ (((4 * v3) + 1) < 192) ∧ CV M_Mo_tellsNumber [vR 35, vI (σ12 39 ((4 * v3) + 1))] σ12 (fun σ17 => CV M_Mo_tells [vR 35, vI 32] σ17 (fun σ19 => CI M_Mo_book [vR 35, vI v3] σ19 (fun v22 σ21 => CV M_Mo_tellsNumber [vR 35, vI v22] σ21 (fun σ23 => CI M_Mo_isCertain [vR 35, vI v3] σ23 (fun v26 σ25 => (v26 = 0 → CV M_Mo_tells [vR 35, vI 120] σ25 (fun σ28 => (0 ≤ v3) ∧ (v3 < 48) ∧ CV M_Mo_tellsNumber [vR 35, vI (σ28 48 v3)] σ28 (fun σ32 => CI M_Mo_audited [vR 35, vI v3] σ32 (fun v35 σ34 => (v35 = (-1) → ((σ34 35 30) ≤ x2 → K (-1) σ34) ∧ (¬ (σ34 35 30) ≤ x2 → (0 ≤ x2) ∧ (x2 < 60) ∧ K (σ34 50 x2) σ34)) ∧ (¬ v35 = (-1) → CV M_Mo_tells [vR 35, vI 32] σ34 (fun σ40 => CV M_Mo_tells [vR 35, vI 61] σ40 (fun σ42 => CI M_Mo_audited [vR 35, vI v3] σ42 (fun v45 σ44 => CV M_Mo_tellsNumber [vR 35, vI v45] σ44 (fun σ46 => ((σ46 35 30) ≤ x2 → K (-1) σ46) ∧ (¬ (σ46 35 30) ≤ x2 → (0 ≤ x2) ∧ (x2 < 60) ∧ K (σ46 50 x2) σ46)))))))))) ∧ (¬ v26 = 0 → CV M_Mo_tells [vR 35, vI 33] σ25 (fun σ51 => CI M_Mo_audited [vR 35, vI v3] σ51 (fun v54 σ53 => (v54 = (-1) → ((σ53 35 30) ≤ x2 → K (-1) σ53) ∧ (¬ (σ53 35 30) ≤ x2 → (0 ≤ x2) ∧ (x2 < 60) ∧ K (σ53 50 x2) σ53)) ∧ (¬ v54 = (-1) → CV M_Mo_tells [vR 35, vI 32] σ53 (fun σ59 => CV M_Mo_tells [vR 35, vI 61] σ59 (fun σ61 => CI M_Mo_audited [vR 35, vI v3] σ61 (fun v64 σ63 => CV M_Mo_tellsNumber [vR 35, vI v64] σ63 (fun σ65 => ((σ65 35 30) ≤ x2 → K (-1) σ65) ∧ (¬ (σ65 35 30) ≤ x2 → (0 ≤ x2) ∧ (x2 < 60) ∧ K (σ65 50 x2) σ65))))))))))))))))) ∧ (¬ 0 ≤ x2 → K (-3) σ2)) ∧ (v3 = (-1) → K (-2) σ2))) ∧ (¬ 0 ≤ x1 → K (-2) (ups σ 35 0 0))) : CI M_Mo_line_ [vR 35, vI x1, vI x2] σ K := by
  refine Con.of ok_M_Mo_line_ (ls := [(0, vR 35), (1, vI x1), (2, vI x2)]) rfl (Nat.le_of_ble_eq_true rfl) ?_
  refine r_aload_n d_Mo_line__0 rfl (?_ : WM _ 1 _ _ _ _)
  refine r_iconst d_Mo_line__1 (by decide) (?_ : WM _ 2 _ _ _ _)
  refine r_put (k := 35) (j := 0) 0 (by decide) rfl clk_11 (by decide) (qm_5 (i := 36) rfl rfl) rfl rfl rfl tyX11_ok rfl nmX11 d_Mo_line__2 (?_ : WM _ 5 _ _ _ _)
  refine r_iload_n d_Mo_line__5 rfl (?_ : WM _ 6 _ _ _ _)
  refine r_if_ge 13 d_Mo_line__6 rfl ⟨fun c1 => (?_ : WM _ 13 _ _ _ _), fun c1 => (?_ : WM _ 9 _ _ _ _)⟩
  · replace h := h.1 c1
    refine r_aload_n d_Mo_line__13 rfl (?_ : WM _ 14 _ _ _ _)
    refine r_iload_n d_Mo_line__14 rfl (?_ : WM _ 15 _ _ _ _)
    refine r_iconst d_Mo_line__15 (by decide) (?_ : WM _ 16 _ _ _ _)
    refine r_callV (ν := M_Mo_among) (k := 35) [vI x1, vI 2] ok_M_Mo_among okv_M_Mo_among (by decide) rfl rfl rfl (qm_6 (i := 125) rfl rfl) np_M_Mo_among rfl (by decide) (Nat.le_of_ble_eq_true rfl) rfl d_Mo_line__16 (CI.k h (fun v3 σ2 h => (?_ : WM _ 19 _ _ _ _)))
    refine r_istore_n (ls' := [(3, vI v3), (0, vR 35), (1, vI x1), (2, vI x2)]) d_Mo_line__19 rfl (by decide) rfl (?_ : WM _ 20 _ _ _ _)
    refine r_iload_n d_Mo_line__20 rfl (?_ : WM _ 21 _ _ _ _)
    refine r_iconst d_Mo_line__21 (by decide) (?_ : WM _ 22 _ _ _ _)
    refine r_icmp_ne 28 d_Mo_line__22 rfl ⟨fun c4 => (?_ : WM _ 28 _ _ _ _), fun c4 => (?_ : WM _ 25 _ _ _ _)⟩
    · replace h := h.1 c4
      refine r_iload_n d_Mo_line__28 rfl (?_ : WM _ 29 _ _ _ _)
      refine r_if_ge 35 d_Mo_line__29 rfl ⟨fun c5 => (?_ : WM _ 35 _ _ _ _), fun c5 => (?_ : WM _ 32 _ _ _ _)⟩
      · replace h := h.1 c5
        refine r_aload_n d_Mo_line__35 rfl (?_ : WM _ 36 _ _ _ _)
        refine r_iconst d_Mo_line__36 (by decide) (?_ : WM _ 37 _ _ _ _)
        refine r_put (k := 35) (j := 30) 30 (by decide) rfl clk_11 (by decide) (qm_5 (i := 66) rfl rfl) rfl rfl rfl tyX11_ok rfl nmX11 d_Mo_line__37 (?_ : WM _ 40 _ _ _ _)
        refine r_aload_n d_Mo_line__40 rfl (?_ : WM _ 41 _ _ _ _)
        refine r_aload_n d_Mo_line__41 rfl (?_ : WM _ 42 _ _ _ _)
        refine r_getR (k := 35) (j := 4) (q := 39) (by decide) rfl clk_11 (by decide) (qm_5 (i := 40) rfl rfl) rfl d_Mo_line__42 (?_ : WM _ 45 _ _ _ _)
        refine r_iconst d_Mo_line__45 (by decide) (?_ : WM _ 46 _ _ _ _)
        refine r_iload_n d_Mo_line__46 rfl (?_ : WM _ 47 _ _ _ _)
        obtain ⟨h6, h⟩ := h
        refine r_imul d_Mo_line__47 h6 (?_ : WM _ 48 _ _ _ _)
        refine r_iconst d_Mo_line__48 (by decide) (?_ : WM _ 49 _ _ _ _)
        obtain ⟨h7, h⟩ := h
        refine r_iadd d_Mo_line__49 h7 (?_ : WM _ 50 _ _ _ _)
        obtain ⟨h8, h⟩ := h
        obtain ⟨h9, h⟩ := h
        refine r_iald (k := 39) (n := 192) (by decide) rfl d_Mo_line__50 h8 h9 (y := (σ2 39 ((4 * v3) + 0))) (ups_c (by decide)) (?_ : WM _ 51 _ _ _ _)
        refine r_callV (ν := M_Mo_tellsNumber) (k := 35) [vI (σ2 39 ((4 * v3) + 0))] ok_M_Mo_tellsNumber okv_M_Mo_tellsNumber (by decide) rfl rfl rfl (qm_6 (i := 149) rfl rfl) np_M_Mo_tellsNumber rfl (by decide) (Nat.le_of_ble_eq_true rfl) rfl d_Mo_line__51 (CV.k h (fun σ10 h => (?_ : WM _ 54 _ _ _ _)))
        refine r_aload_n d_Mo_line__54 rfl (?_ : WM _ 55 _ _ _ _)
        refine r_bipush d_Mo_line__55 (by decide) (by decide) (?_ : WM _ 57 _ _ _ _)
        refine r_callV (ν := M_Mo_tells) (k := 35) [vI 47] ok_M_Mo_tells okv_M_Mo_tells (by decide) rfl rfl rfl (qm_6 (i := 153) rfl rfl) np_M_Mo_tells rfl (by decide) (Nat.le_of_ble_eq_true rfl) rfl d_Mo_line__57 (CV.k h (fun σ12 h => (?_ : WM _ 60 _ _ _ _)))
        refine r_aload_n d_Mo_line__60 rfl (?_ : WM _ 61 _ _ _ _)
        refine r_aload_n d_Mo_line__61 rfl (?_ : WM _ 62 _ _ _ _)
        refine r_getR (k := 35) (j := 4) (q := 39) (by decide) rfl clk_11 (by decide) (qm_5 (i := 40) rfl rfl) rfl d_Mo_line__62 (?_ : WM _ 65 _ _ _ _)
        refine r_iconst d_Mo_line__65 (by decide) (?_ : WM _ 66 _ _ _ _)
        refine r_iload_n d_Mo_line__66 rfl (?_ : WM _ 67 _ _ _ _)
        refine r_imul d_Mo_line__67 h6 (?_ : WM _ 68 _ _ _ _)
        refine r_iconst d_Mo_line__68 (by decide) (?_ : WM _ 69 _ _ _ _)
        obtain ⟨h14, h⟩ := h
        refine r_iadd d_Mo_line__69 h14 (?_ : WM _ 70 _ _ _ _)
        obtain ⟨h15, h⟩ := h
        obtain ⟨h16, h⟩ := h
        refine r_iald (k := 39) (n := 192) (by decide) rfl d_Mo_line__70 h15 h16 (y := (σ12 39 ((4 * v3) + 1))) rfl (?_ : WM _ 71 _ _ _ _)
        refine r_callV (ν := M_Mo_tellsNumber) (k := 35) [vI (σ12 39 ((4 * v3) + 1))] ok_M_Mo_tellsNumber okv_M_Mo_tellsNumber (by decide) rfl rfl rfl (qm_6 (i := 149) rfl rfl) np_M_Mo_tellsNumber rfl (by decide) (Nat.le_of_ble_eq_true rfl) rfl d_Mo_line__71 (CV.k h (fun σ17 h => (?_ : WM _ 74 _ _ _ _)))
        refine r_aload_n d_Mo_line__74 rfl (?_ : WM _ 75 _ _ _ _)
        refine r_bipush d_Mo_line__75 (by decide) (by decide) (?_ : WM _ 77 _ _ _ _)
        refine r_callV (ν := M_Mo_tells) (k := 35) [vI 32] ok_M_Mo_tells okv_M_Mo_tells (by decide) rfl rfl rfl (qm_6 (i := 153) rfl rfl) np_M_Mo_tells rfl (by decide) (Nat.le_of_ble_eq_true rfl) rfl d_Mo_line__77 (CV.k h (fun σ19 h => (?_ : WM _ 80 _ _ _ _)))
        refine r_aload_n d_Mo_line__80 rfl (?_ : WM _ 81 _ _ _ _)
        refine r_aload_n d_Mo_line__81 rfl (?_ : WM _ 82 _ _ _ _)
        refine r_iload_n d_Mo_line__82 rfl (?_ : WM _ 83 _ _ _ _)
        refine r_callV (ν := M_Mo_book) (k := 35) [vI v3] ok_M_Mo_book okv_M_Mo_book (by decide) rfl rfl rfl (qm_5 (i := 234) rfl rfl) np_M_Mo_book rfl (by decide) (Nat.le_of_ble_eq_true rfl) rfl d_Mo_line__83 (CI.k h (fun v22 σ21 h => (?_ : WM _ 86 _ _ _ _)))
        refine r_callV (ν := M_Mo_tellsNumber) (k := 35) [vI v22] ok_M_Mo_tellsNumber okv_M_Mo_tellsNumber (by decide) rfl rfl rfl (qm_6 (i := 149) rfl rfl) np_M_Mo_tellsNumber rfl (by decide) (Nat.le_of_ble_eq_true rfl) rfl d_Mo_line__86 (CV.k h (fun σ23 h => (?_ : WM _ 89 _ _ _ _)))
        refine r_aload_n d_Mo_line__89 rfl (?_ : WM _ 90 _ _ _ _)
        refine r_iload_n d_Mo_line__90 rfl (?_ : WM _ 91 _ _ _ _)
        refine r_callV (ν := M_Mo_isCertain) (k := 35) [vI v3] ok_M_Mo_isCertain okv_M_Mo_isCertain (by decide) rfl rfl rfl (qm_6 (i := 27) rfl rfl) np_M_Mo_isCertain rfl (by decide) (Nat.le_of_ble_eq_true rfl) rfl d_Mo_line__91 (CI.k h (fun v26 σ25 h => (?_ : WM _ 94 _ _ _ _)))
        refine r_if_eq 106 d_Mo_line__94 rfl ⟨fun c27 => (?_ : WM _ 106 _ _ _ _), fun c27 => (?_ : WM _ 97 _ _ _ _)⟩
        · replace h := h.1 c27
          refine r_aload_n d_Mo_line__106 rfl (?_ : WM _ 107 _ _ _ _)
          refine r_bipush d_Mo_line__107 (by decide) (by decide) (?_ : WM _ 109 _ _ _ _)
          refine r_callV (ν := M_Mo_tells) (k := 35) [vI 120] ok_M_Mo_tells okv_M_Mo_tells (by decide) rfl rfl rfl (qm_6 (i := 153) rfl rfl) np_M_Mo_tells rfl (by decide) (Nat.le_of_ble_eq_true rfl) rfl d_Mo_line__109 (CV.k h (fun σ28 h => (?_ : WM _ 112 _ _ _ _)))
          refine r_aload_n d_Mo_line__112 rfl (?_ : WM _ 113 _ _ _ _)
          refine r_aload_n d_Mo_line__113 rfl (?_ : WM _ 114 _ _ _ _)
          refine r_getR (k := 35) (j := 24) (q := 48) (by decide) rfl clk_11 (by decide) (qm_5 (i := 60) rfl rfl) rfl d_Mo_line__114 (?_ : WM _ 117 _ _ _ _)
          refine r_iload_n d_Mo_line__117 rfl (?_ : WM _ 118 _ _ _ _)
          obtain ⟨h30, h⟩ := h
          obtain ⟨h31, h⟩ := h
          refine r_iald (k := 48) (n := 48) (by decide) rfl d_Mo_line__118 h30 h31 (y := (σ28 48 v3)) rfl (?_ : WM _ 119 _ _ _ _)
          refine r_callV (ν := M_Mo_tellsNumber) (k := 35) [vI (σ28 48 v3)] ok_M_Mo_tellsNumber okv_M_Mo_tellsNumber (by decide) rfl rfl rfl (qm_6 (i := 149) rfl rfl) np_M_Mo_tellsNumber rfl (by decide) (Nat.le_of_ble_eq_true rfl) rfl d_Mo_line__119 (CV.k h (fun σ32 h => (?_ : WM _ 122 _ _ _ _)))
          refine r_aload_n d_Mo_line__122 rfl (?_ : WM _ 123 _ _ _ _)
          refine r_iload_n d_Mo_line__123 rfl (?_ : WM _ 124 _ _ _ _)
          refine r_callV (ν := M_Mo_audited) (k := 35) [vI v3] ok_M_Mo_audited okv_M_Mo_audited (by decide) rfl rfl rfl (qm_6 (i := 11) rfl rfl) np_M_Mo_audited rfl (by decide) (Nat.le_of_ble_eq_true rfl) rfl d_Mo_line__124 (CI.k h (fun v35 σ34 h => (?_ : WM _ 127 _ _ _ _)))
          refine r_iconst d_Mo_line__127 (by decide) (?_ : WM _ 128 _ _ _ _)
          refine r_icmp_eq 152 d_Mo_line__128 rfl ⟨fun c36 => (?_ : WM _ 152 _ _ _ _), fun c36 => (?_ : WM _ 131 _ _ _ _)⟩
          · replace h := h.1 c36
            refine r_iload_n d_Mo_line__152 rfl (?_ : WM _ 153 _ _ _ _)
            refine r_aload_n d_Mo_line__153 rfl (?_ : WM _ 154 _ _ _ _)
            refine r_getI (k := 35) (j := 30) 30 (by decide) rfl clk_11 (by decide) (qm_5 (i := 66) rfl rfl) rfl rfl d_Mo_line__154 (y := (σ34 35 30)) rfl (?_ : WM _ 157 _ _ _ _)
            refine r_icmp_ge 169 d_Mo_line__157 rfl ⟨fun c37 => (?_ : WM _ 169 _ _ _ _), fun c37 => (?_ : WM _ 160 _ _ _ _)⟩
            · replace h := h.1 c37
              refine r_iconst d_Mo_line__169 (by decide) (?_ : WM _ 170 _ _ _ _)
              exact r_ireturn rfl d_Mo_line__170 h
            · replace h := h.2 c37
              refine r_aload_n d_Mo_line__160 rfl (?_ : WM _ 161 _ _ _ _)
              refine r_getR (k := 35) (j := 29) (q := 50) (by decide) rfl clk_11 (by decide) (qm_5 (i := 65) rfl rfl) rfl d_Mo_line__161 (?_ : WM _ 164 _ _ _ _)
              refine r_iload_n d_Mo_line__164 rfl (?_ : WM _ 165 _ _ _ _)
              obtain ⟨h38, h⟩ := h
              obtain ⟨h39, h⟩ := h
              refine r_iald (k := 50) (n := 60) (by decide) rfl d_Mo_line__165 h38 h39 (y := (σ34 50 x2)) rfl (?_ : WM _ 166 _ _ _ _)
              refine r_goto 170 d_Mo_line__166 rfl ?_
              exact r_ireturn rfl d_Mo_line__170 h
          · replace h := h.2 c36
            refine r_aload_n d_Mo_line__131 rfl (?_ : WM _ 132 _ _ _ _)
            refine r_bipush d_Mo_line__132 (by decide) (by decide) (?_ : WM _ 134 _ _ _ _)
            refine r_callV (ν := M_Mo_tells) (k := 35) [vI 32] ok_M_Mo_tells okv_M_Mo_tells (by decide) rfl rfl rfl (qm_6 (i := 153) rfl rfl) np_M_Mo_tells rfl (by decide) (Nat.le_of_ble_eq_true rfl) rfl d_Mo_line__134 (CV.k h (fun σ40 h => (?_ : WM _ 137 _ _ _ _)))
            refine r_aload_n d_Mo_line__137 rfl (?_ : WM _ 138 _ _ _ _)
            refine r_bipush d_Mo_line__138 (by decide) (by decide) (?_ : WM _ 140 _ _ _ _)
            refine r_callV (ν := M_Mo_tells) (k := 35) [vI 61] ok_M_Mo_tells okv_M_Mo_tells (by decide) rfl rfl rfl (qm_6 (i := 153) rfl rfl) np_M_Mo_tells rfl (by decide) (Nat.le_of_ble_eq_true rfl) rfl d_Mo_line__140 (CV.k h (fun σ42 h => (?_ : WM _ 143 _ _ _ _)))
            refine r_aload_n d_Mo_line__143 rfl (?_ : WM _ 144 _ _ _ _)
            refine r_aload_n d_Mo_line__144 rfl (?_ : WM _ 145 _ _ _ _)
            refine r_iload_n d_Mo_line__145 rfl (?_ : WM _ 146 _ _ _ _)
            refine r_callV (ν := M_Mo_audited) (k := 35) [vI v3] ok_M_Mo_audited okv_M_Mo_audited (by decide) rfl rfl rfl (qm_6 (i := 11) rfl rfl) np_M_Mo_audited rfl (by decide) (Nat.le_of_ble_eq_true rfl) rfl d_Mo_line__146 (CI.k h (fun v45 σ44 h => (?_ : WM _ 149 _ _ _ _)))
            refine r_callV (ν := M_Mo_tellsNumber) (k := 35) [vI v45] ok_M_Mo_tellsNumber okv_M_Mo_tellsNumber (by decide) rfl rfl rfl (qm_6 (i := 149) rfl rfl) np_M_Mo_tellsNumber rfl (by decide) (Nat.le_of_ble_eq_true rfl) rfl d_Mo_line__149 (CV.k h (fun σ46 h => (?_ : WM _ 152 _ _ _ _)))
            refine r_iload_n d_Mo_line__152 rfl (?_ : WM _ 153 _ _ _ _)
            refine r_aload_n d_Mo_line__153 rfl (?_ : WM _ 154 _ _ _ _)
            refine r_getI (k := 35) (j := 30) 30 (by decide) rfl clk_11 (by decide) (qm_5 (i := 66) rfl rfl) rfl rfl d_Mo_line__154 (y := (σ46 35 30)) rfl (?_ : WM _ 157 _ _ _ _)
            refine r_icmp_ge 169 d_Mo_line__157 rfl ⟨fun c48 => (?_ : WM _ 169 _ _ _ _), fun c48 => (?_ : WM _ 160 _ _ _ _)⟩
            · replace h := h.1 c48
              refine r_iconst d_Mo_line__169 (by decide) (?_ : WM _ 170 _ _ _ _)
              exact r_ireturn rfl d_Mo_line__170 h
            · replace h := h.2 c48
              refine r_aload_n d_Mo_line__160 rfl (?_ : WM _ 161 _ _ _ _)
              refine r_getR (k := 35) (j := 29) (q := 50) (by decide) rfl clk_11 (by decide) (qm_5 (i := 65) rfl rfl) rfl d_Mo_line__161 (?_ : WM _ 164 _ _ _ _)
              refine r_iload_n d_Mo_line__164 rfl (?_ : WM _ 165 _ _ _ _)
              obtain ⟨h49, h⟩ := h
              obtain ⟨h50, h⟩ := h
              refine r_iald (k := 50) (n := 60) (by decide) rfl d_Mo_line__165 h49 h50 (y := (σ46 50 x2)) rfl (?_ : WM _ 166 _ _ _ _)
              refine r_goto 170 d_Mo_line__166 rfl ?_
              exact r_ireturn rfl d_Mo_line__170 h
        · replace h := h.2 c27
          refine r_aload_n d_Mo_line__97 rfl (?_ : WM _ 98 _ _ _ _)
          refine r_bipush d_Mo_line__98 (by decide) (by decide) (?_ : WM _ 100 _ _ _ _)
          refine r_callV (ν := M_Mo_tells) (k := 35) [vI 33] ok_M_Mo_tells okv_M_Mo_tells (by decide) rfl rfl rfl (qm_6 (i := 153) rfl rfl) np_M_Mo_tells rfl (by decide) (Nat.le_of_ble_eq_true rfl) rfl d_Mo_line__100 (CV.k h (fun σ51 h => (?_ : WM _ 103 _ _ _ _)))
          refine r_goto 122 d_Mo_line__103 rfl ?_
          refine r_aload_n d_Mo_line__122 rfl (?_ : WM _ 123 _ _ _ _)
          refine r_iload_n d_Mo_line__123 rfl (?_ : WM _ 124 _ _ _ _)
          refine r_callV (ν := M_Mo_audited) (k := 35) [vI v3] ok_M_Mo_audited okv_M_Mo_audited (by decide) rfl rfl rfl (qm_6 (i := 11) rfl rfl) np_M_Mo_audited rfl (by decide) (Nat.le_of_ble_eq_true rfl) rfl d_Mo_line__124 (CI.k h (fun v54 σ53 h => (?_ : WM _ 127 _ _ _ _)))
          refine r_iconst d_Mo_line__127 (by decide) (?_ : WM _ 128 _ _ _ _)
          refine r_icmp_eq 152 d_Mo_line__128 rfl ⟨fun c55 => (?_ : WM _ 152 _ _ _ _), fun c55 => (?_ : WM _ 131 _ _ _ _)⟩
          · replace h := h.1 c55
            refine r_iload_n d_Mo_line__152 rfl (?_ : WM _ 153 _ _ _ _)
            refine r_aload_n d_Mo_line__153 rfl (?_ : WM _ 154 _ _ _ _)
            refine r_getI (k := 35) (j := 30) 30 (by decide) rfl clk_11 (by decide) (qm_5 (i := 66) rfl rfl) rfl rfl d_Mo_line__154 (y := (σ53 35 30)) rfl (?_ : WM _ 157 _ _ _ _)
            refine r_icmp_ge 169 d_Mo_line__157 rfl ⟨fun c56 => (?_ : WM _ 169 _ _ _ _), fun c56 => (?_ : WM _ 160 _ _ _ _)⟩
            · replace h := h.1 c56
              refine r_iconst d_Mo_line__169 (by decide) (?_ : WM _ 170 _ _ _ _)
              exact r_ireturn rfl d_Mo_line__170 h
            · replace h := h.2 c56
              refine r_aload_n d_Mo_line__160 rfl (?_ : WM _ 161 _ _ _ _)
              refine r_getR (k := 35) (j := 29) (q := 50) (by decide) rfl clk_11 (by decide) (qm_5 (i := 65) rfl rfl) rfl d_Mo_line__161 (?_ : WM _ 164 _ _ _ _)
              refine r_iload_n d_Mo_line__164 rfl (?_ : WM _ 165 _ _ _ _)
              obtain ⟨h57, h⟩ := h
              obtain ⟨h58, h⟩ := h
              refine r_iald (k := 50) (n := 60) (by decide) rfl d_Mo_line__165 h57 h58 (y := (σ53 50 x2)) rfl (?_ : WM _ 166 _ _ _ _)
              refine r_goto 170 d_Mo_line__166 rfl ?_
              exact r_ireturn rfl d_Mo_line__170 h
          · replace h := h.2 c55
            refine r_aload_n d_Mo_line__131 rfl (?_ : WM _ 132 _ _ _ _)
            refine r_bipush d_Mo_line__132 (by decide) (by decide) (?_ : WM _ 134 _ _ _ _)
            refine r_callV (ν := M_Mo_tells) (k := 35) [vI 32] ok_M_Mo_tells okv_M_Mo_tells (by decide) rfl rfl rfl (qm_6 (i := 153) rfl rfl) np_M_Mo_tells rfl (by decide) (Nat.le_of_ble_eq_true rfl) rfl d_Mo_line__134 (CV.k h (fun σ59 h => (?_ : WM _ 137 _ _ _ _)))
            refine r_aload_n d_Mo_line__137 rfl (?_ : WM _ 138 _ _ _ _)
            refine r_bipush d_Mo_line__138 (by decide) (by decide) (?_ : WM _ 140 _ _ _ _)
            refine r_callV (ν := M_Mo_tells) (k := 35) [vI 61] ok_M_Mo_tells okv_M_Mo_tells (by decide) rfl rfl rfl (qm_6 (i := 153) rfl rfl) np_M_Mo_tells rfl (by decide) (Nat.le_of_ble_eq_true rfl) rfl d_Mo_line__140 (CV.k h (fun σ61 h => (?_ : WM _ 143 _ _ _ _)))
            refine r_aload_n d_Mo_line__143 rfl (?_ : WM _ 144 _ _ _ _)
            refine r_aload_n d_Mo_line__144 rfl (?_ : WM _ 145 _ _ _ _)
            refine r_iload_n d_Mo_line__145 rfl (?_ : WM _ 146 _ _ _ _)
            refine r_callV (ν := M_Mo_audited) (k := 35) [vI v3] ok_M_Mo_audited okv_M_Mo_audited (by decide) rfl rfl rfl (qm_6 (i := 11) rfl rfl) np_M_Mo_audited rfl (by decide) (Nat.le_of_ble_eq_true rfl) rfl d_Mo_line__146 (CI.k h (fun v64 σ63 h => (?_ : WM _ 149 _ _ _ _)))
            refine r_callV (ν := M_Mo_tellsNumber) (k := 35) [vI v64] ok_M_Mo_tellsNumber okv_M_Mo_tellsNumber (by decide) rfl rfl rfl (qm_6 (i := 149) rfl rfl) np_M_Mo_tellsNumber rfl (by decide) (Nat.le_of_ble_eq_true rfl) rfl d_Mo_line__149 (CV.k h (fun σ65 h => (?_ : WM _ 152 _ _ _ _)))
            refine r_iload_n d_Mo_line__152 rfl (?_ : WM _ 153 _ _ _ _)
            refine r_aload_n d_Mo_line__153 rfl (?_ : WM _ 154 _ _ _ _)
            refine r_getI (k := 35) (j := 30) 30 (by decide) rfl clk_11 (by decide) (qm_5 (i := 66) rfl rfl) rfl rfl d_Mo_line__154 (y := (σ65 35 30)) rfl (?_ : WM _ 157 _ _ _ _)
            refine r_icmp_ge 169 d_Mo_line__157 rfl ⟨fun c67 => (?_ : WM _ 169 _ _ _ _), fun c67 => (?_ : WM _ 160 _ _ _ _)⟩
            · replace h := h.1 c67
              refine r_iconst d_Mo_line__169 (by decide) (?_ : WM _ 170 _ _ _ _)
              exact r_ireturn rfl d_Mo_line__170 h
            · replace h := h.2 c67
              refine r_aload_n d_Mo_line__160 rfl (?_ : WM _ 161 _ _ _ _)
              refine r_getR (k := 35) (j := 29) (q := 50) (by decide) rfl clk_11 (by decide) (qm_5 (i := 65) rfl rfl) rfl d_Mo_line__161 (?_ : WM _ 164 _ _ _ _)
              refine r_iload_n d_Mo_line__164 rfl (?_ : WM _ 165 _ _ _ _)
              obtain ⟨h68, h⟩ := h
              obtain ⟨h69, h⟩ := h
              refine r_iald (k := 50) (n := 60) (by decide) rfl d_Mo_line__165 h68 h69 (y := (σ65 50 x2)) rfl (?_ : WM _ 166 _ _ _ _)
              refine r_goto 170 d_Mo_line__166 rfl ?_
              exact r_ireturn rfl d_Mo_line__170 h
      · replace h := h.2 c5
        refine r_bipush d_Mo_line__32 (by decide) (by decide) (?_ : WM _ 34 _ _ _ _)
        exact r_ireturn rfl d_Mo_line__34 h
    · replace h := h.2 c4
      refine r_bipush d_Mo_line__25 (by decide) (by decide) (?_ : WM _ 27 _ _ _ _)
      exact r_ireturn rfl d_Mo_line__27 h
  · replace h := h.2 c1
    refine r_iconst d_Mo_line__9 (by decide) (?_ : WM _ 10 _ _ _ _)
    refine r_goto 19 d_Mo_line__10 rfl ?_
    refine r_istore_n (ls' := [(3, vI (-1)), (0, vR 35), (1, vI x1), (2, vI x2)]) d_Mo_line__19 rfl (by decide) rfl (?_ : WM _ 20 _ _ _ _)
    refine r_iload_n d_Mo_line__20 rfl (?_ : WM _ 21 _ _ _ _)
    refine r_iconst d_Mo_line__21 (by decide) (?_ : WM _ 22 _ _ _ _)
    refine r_icmp_ne 28 d_Mo_line__22 rfl ⟨fun hc => absurd hc (by decide), fun hc => (?_ : WM _ 25 _ _ _ _)⟩
    refine r_bipush d_Mo_line__25 (by decide) (by decide) (?_ : WM _ 27 _ _ _ _)
    exact r_ireturn rfl d_Mo_line__27 h
set_option maxRecDepth 20000 in
theorem e_Mo_upper {K : Int → St → Prop} {σ : St} (x1 : Int) (x2 : Int) (h : CI M_Mo_isIn [vL x1, vL 0, vL 400] (ups σ 35 0 0) (fun v2 σ1 => (v2 = 0 → K (-3) σ1) ∧ (¬ v2 = 0 → CI M_Mo_isIn [vL x2, vL 0, vL 400] σ1 (fun v5 σ4 => (v5 = 0 → K (-3) σ4) ∧ (¬ v5 = 0 → CI M_Mo_upperOf [vR 35, vI x1, vI x2] σ4 (fun v8 σ7 => K v8 σ7)))))) : CI M_Mo_upper [vR 35, vI x1, vI x2] σ K := by
  refine Con.of ok_M_Mo_upper (ls := [(0, vR 35), (1, vI x1), (2, vI x2)]) rfl (Nat.le_of_ble_eq_true rfl) ?_
  refine r_aload_n d_Mo_upper_0 rfl (?_ : WM _ 1 _ _ _ _)
  refine r_iconst d_Mo_upper_1 (by decide) (?_ : WM _ 2 _ _ _ _)
  refine r_put (k := 35) (j := 0) 0 (by decide) rfl clk_11 (by decide) (qm_5 (i := 36) rfl rfl) rfl rfl rfl tyX11_ok rfl nmX11 d_Mo_upper_2 (?_ : WM _ 5 _ _ _ _)
  refine r_iload_n d_Mo_upper_5 rfl (?_ : WM _ 6 _ _ _ _)
  refine r_i2l d_Mo_upper_6 (?_ : WM _ 7 _ _ _ _)
  refine r_lconst 0 d_Mo_upper_7 rfl (by decide) (?_ : WM _ 8 _ _ _ _)
  refine r_ldc2 400 d_Mo_upper_8 (qm_6 (i := 175) rfl rfl) (by decide) (by decide) (?_ : WM _ 11 _ _ _ _)
  refine r_callS (ν := M_Mo_isIn) [vL x1, vL 0, vL 400] ok_M_Mo_isIn oks_M_Mo_isIn (qm_5 (i := 153) rfl rfl) np_M_Mo_isIn rfl (by decide) (Nat.le_of_ble_eq_true rfl) rfl d_Mo_upper_11 (CI.k h (fun v2 σ1 h => (?_ : WM _ 14 _ _ _ _)))
  refine r_if_eq 38 d_Mo_upper_14 rfl ⟨fun c3 => (?_ : WM _ 38 _ _ _ _), fun c3 => (?_ : WM _ 17 _ _ _ _)⟩
  · replace h := h.1 c3
    refine r_bipush d_Mo_upper_38 (by decide) (by decide) (?_ : WM _ 40 _ _ _ _)
    exact r_ireturn rfl d_Mo_upper_40 h
  · replace h := h.2 c3
    refine r_iload_n d_Mo_upper_17 rfl (?_ : WM _ 18 _ _ _ _)
    refine r_i2l d_Mo_upper_18 (?_ : WM _ 19 _ _ _ _)
    refine r_lconst 0 d_Mo_upper_19 rfl (by decide) (?_ : WM _ 20 _ _ _ _)
    refine r_ldc2 400 d_Mo_upper_20 (qm_6 (i := 175) rfl rfl) (by decide) (by decide) (?_ : WM _ 23 _ _ _ _)
    refine r_callS (ν := M_Mo_isIn) [vL x2, vL 0, vL 400] ok_M_Mo_isIn oks_M_Mo_isIn (qm_5 (i := 153) rfl rfl) np_M_Mo_isIn rfl (by decide) (Nat.le_of_ble_eq_true rfl) rfl d_Mo_upper_23 (CI.k h (fun v5 σ4 h => (?_ : WM _ 26 _ _ _ _)))
    refine r_if_eq 38 d_Mo_upper_26 rfl ⟨fun c6 => (?_ : WM _ 38 _ _ _ _), fun c6 => (?_ : WM _ 29 _ _ _ _)⟩
    · replace h := h.1 c6
      refine r_bipush d_Mo_upper_38 (by decide) (by decide) (?_ : WM _ 40 _ _ _ _)
      exact r_ireturn rfl d_Mo_upper_40 h
    · replace h := h.2 c6
      refine r_aload_n d_Mo_upper_29 rfl (?_ : WM _ 30 _ _ _ _)
      refine r_iload_n d_Mo_upper_30 rfl (?_ : WM _ 31 _ _ _ _)
      refine r_iload_n d_Mo_upper_31 rfl (?_ : WM _ 32 _ _ _ _)
      refine r_callV (ν := M_Mo_upperOf) (k := 35) [vI x1, vI x2] ok_M_Mo_upperOf okv_M_Mo_upperOf (by decide) rfl rfl rfl (qm_6 (i := 46) rfl rfl) np_M_Mo_upperOf rfl (by decide) (Nat.le_of_ble_eq_true rfl) rfl d_Mo_upper_32 (CI.k h (fun v8 σ7 h => (?_ : WM _ 35 _ _ _ _)))
      refine r_goto 40 d_Mo_upper_35 rfl ?_
      exact r_ireturn rfl d_Mo_upper_40 h
set_option maxRecDepth 20000 in
theorem e_Mo_size {K : Int → St → Prop} {σ : St} (x1 : Int) (h : CI M_Mo_isIn [vL x1, vL 1, vL 9999999] (ups σ 35 0 0) (fun v2 σ1 => (¬ v2 = 0 → CI M_Mo_allCoins [vR 35] σ1 (fun v5 σ4 => (¬ v5 = 0 → CI M_Mo_sizeBy [vR 35, vI x1, vI (σ4 36 2)] σ4 (fun v8 σ7 => K v8 σ7)) ∧ (v5 = 0 → K (-5) σ4))) ∧ (v2 = 0 → K (-3) σ1))) : CI M_Mo_size [vR 35, vI x1] σ K := by
  refine Con.of ok_M_Mo_size (ls := [(0, vR 35), (1, vI x1)]) rfl (Nat.le_of_ble_eq_true rfl) ?_
  refine r_aload_n d_Mo_size_0 rfl (?_ : WM _ 1 _ _ _ _)
  refine r_iconst d_Mo_size_1 (by decide) (?_ : WM _ 2 _ _ _ _)
  refine r_put (k := 35) (j := 0) 0 (by decide) rfl clk_11 (by decide) (qm_5 (i := 36) rfl rfl) rfl rfl rfl tyX11_ok rfl nmX11 d_Mo_size_2 (?_ : WM _ 5 _ _ _ _)
  refine r_iload_n d_Mo_size_5 rfl (?_ : WM _ 6 _ _ _ _)
  refine r_i2l d_Mo_size_6 (?_ : WM _ 7 _ _ _ _)
  refine r_lconst 1 d_Mo_size_7 rfl (by decide) (?_ : WM _ 8 _ _ _ _)
  refine r_ldc2 9999999 d_Mo_size_8 (qm_6 (i := 180) rfl rfl) (by decide) (by decide) (?_ : WM _ 11 _ _ _ _)
  refine r_callS (ν := M_Mo_isIn) [vL x1, vL 1, vL 9999999] ok_M_Mo_isIn oks_M_Mo_isIn (qm_5 (i := 153) rfl rfl) np_M_Mo_isIn rfl (by decide) (Nat.le_of_ble_eq_true rfl) rfl d_Mo_size_11 (CI.k h (fun v2 σ1 h => (?_ : WM _ 14 _ _ _ _)))
  refine r_if_ne 20 d_Mo_size_14 rfl ⟨fun c3 => (?_ : WM _ 20 _ _ _ _), fun c3 => (?_ : WM _ 17 _ _ _ _)⟩
  · replace h := h.1 c3
    refine r_aload_n d_Mo_size_20 rfl (?_ : WM _ 21 _ _ _ _)
    refine r_callV (ν := M_Mo_allCoins) (k := 35) [] ok_M_Mo_allCoins okv_M_Mo_allCoins (by decide) rfl rfl rfl (qm_6 (i := 42) rfl rfl) np_M_Mo_allCoins rfl (by decide) (Nat.le_of_ble_eq_true rfl) rfl d_Mo_size_21 (CI.k h (fun v5 σ4 h => (?_ : WM _ 24 _ _ _ _)))
    refine r_if_ne 32 d_Mo_size_24 rfl ⟨fun c6 => (?_ : WM _ 32 _ _ _ _), fun c6 => (?_ : WM _ 27 _ _ _ _)⟩
    · replace h := h.1 c6
      refine r_aload_n d_Mo_size_32 rfl (?_ : WM _ 33 _ _ _ _)
      refine r_iload_n d_Mo_size_33 rfl (?_ : WM _ 34 _ _ _ _)
      refine r_aload_n d_Mo_size_34 rfl (?_ : WM _ 35 _ _ _ _)
      refine r_getR (k := 35) (j := 1) (q := 36) (by decide) rfl clk_11 (by decide) (qm_5 (i := 37) rfl rfl) rfl d_Mo_size_35 (?_ : WM _ 38 _ _ _ _)
      refine r_iconst d_Mo_size_38 (by decide) (?_ : WM _ 39 _ _ _ _)
      refine r_iald (k := 36) (n := 5) (by decide) rfl d_Mo_size_39 (by decide) (by decide) (y := (σ4 36 2)) rfl (?_ : WM _ 40 _ _ _ _)
      refine r_callV (ν := M_Mo_sizeBy) (k := 35) [vI x1, vI (σ4 36 2)] ok_M_Mo_sizeBy okv_M_Mo_sizeBy (by decide) rfl rfl rfl (qm_6 (i := 38) rfl rfl) np_M_Mo_sizeBy rfl (by decide) (Nat.le_of_ble_eq_true rfl) rfl d_Mo_size_40 (CI.k h (fun v8 σ7 h => (?_ : WM _ 43 _ _ _ _)))
      exact r_ireturn rfl d_Mo_size_43 h
    · replace h := h.2 c6
      refine r_bipush d_Mo_size_27 (by decide) (by decide) (?_ : WM _ 29 _ _ _ _)
      refine r_goto 43 d_Mo_size_29 rfl ?_
      exact r_ireturn rfl d_Mo_size_43 h
  · replace h := h.2 c3
    refine r_bipush d_Mo_size_17 (by decide) (by decide) (?_ : WM _ 19 _ _ _ _)
    exact r_ireturn rfl d_Mo_size_19 h
set_option maxRecDepth 20000 in
theorem e_Mo_projected {K : Int → St → Prop} {σ : St} (x1 : Int) (h : CI M_Mo_isIn [vL x1, vL 0, vL 4] (ups σ 35 0 0) (fun v2 σ1 => (v2 = 0 → K (-10000000) σ1) ∧ (¬ v2 = 0 → (¬ (σ1 35 10) = 0 → CV M_Mo_laysHits [vR 35] σ1 (fun σ5 => (x1 = 0 → CI M_Mo_projectedBy [vR 35, vI 1] σ5 (fun v8 σ7 => K v8 σ7)) ∧ (x1 = 1 → CI M_Mo_projectedBy [vR 35, vI (-1)] σ5 (fun v10 σ9 => K v10 σ9)) ∧ (x1 = 2 → CI M_Mo_knownBy [vR 35, vI 1] σ5 (fun v12 σ11 => K v12 σ11)) ∧ (x1 = 3 → CI M_Mo_knownBy [vR 35, vI (-1)] σ5 (fun v14 σ13 => K v14 σ13)) ∧ (x1 < 0 ∨ 3 < x1 → CI M_Mo_projectedBy [vR 35, vI 1] σ5 (fun v16 σ15 => CI M_Mo_knownBy [vR 35, vI 1] σ15 (fun v18 σ17 => (inR (v16 + v18)) ∧ CI M_Mo_projectedBy [vR 35, vI (-1)] σ17 (fun v21 σ20 => (inR ((v16 + v18) - v21)) ∧ CI M_Mo_knownBy [vR 35, vI (-1)] σ20 (fun v24 σ23 => (inR (((v16 + v18) - v21) - v24)) ∧ K (((v16 + v18) - v21) - v24) σ23))))))) ∧ ((σ1 35 10) = 0 → K (-10000000) σ1)))) : CI M_Mo_projected [vR 35, vI x1] σ K := by
  refine Con.of ok_M_Mo_projected (ls := [(0, vR 35), (1, vI x1)]) rfl (Nat.le_of_ble_eq_true rfl) ?_
  refine r_aload_n d_Mo_projected_0 rfl (?_ : WM _ 1 _ _ _ _)
  refine r_iconst d_Mo_projected_1 (by decide) (?_ : WM _ 2 _ _ _ _)
  refine r_put (k := 35) (j := 0) 0 (by decide) rfl clk_11 (by decide) (qm_5 (i := 36) rfl rfl) rfl rfl rfl tyX11_ok rfl nmX11 d_Mo_projected_2 (?_ : WM _ 5 _ _ _ _)
  refine r_iload_n d_Mo_projected_5 rfl (?_ : WM _ 6 _ _ _ _)
  refine r_i2l d_Mo_projected_6 (?_ : WM _ 7 _ _ _ _)
  refine r_lconst 0 d_Mo_projected_7 rfl (by decide) (?_ : WM _ 8 _ _ _ _)
  refine r_ldc2 4 d_Mo_projected_8 (qm_5 (i := 216) rfl rfl) (by decide) (by decide) (?_ : WM _ 11 _ _ _ _)
  refine r_callS (ν := M_Mo_isIn) [vL x1, vL 0, vL 4] ok_M_Mo_isIn oks_M_Mo_isIn (qm_5 (i := 153) rfl rfl) np_M_Mo_isIn rfl (by decide) (Nat.le_of_ble_eq_true rfl) rfl d_Mo_projected_11 (CI.k h (fun v2 σ1 h => (?_ : WM _ 14 _ _ _ _)))
  refine r_if_eq 24 d_Mo_projected_14 rfl ⟨fun c3 => (?_ : WM _ 24 _ _ _ _), fun c3 => (?_ : WM _ 17 _ _ _ _)⟩
  · replace h := h.1 c3
    refine r_ldc (-10000000) d_Mo_projected_24 (qm_5 (i := 233) rfl rfl) (by decide) (by decide) (?_ : WM _ 26 _ _ _ _)
    exact r_ireturn rfl d_Mo_projected_26 h
  · replace h := h.2 c3
    refine r_aload_n d_Mo_projected_17 rfl (?_ : WM _ 18 _ _ _ _)
    refine r_getI (k := 35) (j := 10) 10 (by decide) rfl clk_11 (by decide) (qm_5 (i := 46) rfl rfl) rfl rfl d_Mo_projected_18 (y := (σ1 35 10)) rfl (?_ : WM _ 21 _ _ _ _)
    refine r_if_ne 27 d_Mo_projected_21 rfl ⟨fun c4 => (?_ : WM _ 27 _ _ _ _), fun c4 => (?_ : WM _ 24 _ _ _ _)⟩
    · replace h := h.1 c4
      refine r_aload_n d_Mo_projected_27 rfl (?_ : WM _ 28 _ _ _ _)
      refine r_callV (ν := M_Mo_laysHits) (k := 35) [] ok_M_Mo_laysHits okv_M_Mo_laysHits (by decide) rfl rfl rfl (qm_6 (i := 89) rfl rfl) np_M_Mo_laysHits rfl (by decide) (Nat.le_of_ble_eq_true rfl) rfl d_Mo_projected_28 (CV.k h (fun σ5 h => (?_ : WM _ 31 _ _ _ _)))
      refine r_iload_n d_Mo_projected_31 rfl (?_ : WM _ 32 _ _ _ _)
      have hsw : (x1 = 0) ∨ (x1 = 1) ∨ (x1 = 2) ∨ (x1 = 3) ∨ (x1 < 0 ∨ 3 < x1) := by omega
      rcases hsw with hc | hc | hc | hc | hc
      · replace h := h.1 hc
        refine r_tswIn 64 d_Mo_projected_32 (by omega) (by omega) (by rw [hc]; rfl) rfl ?_
        refine r_aload_n d_Mo_projected_64 rfl (?_ : WM _ 65 _ _ _ _)
        refine r_iconst d_Mo_projected_65 (by decide) (?_ : WM _ 66 _ _ _ _)
        refine r_callV (ν := M_Mo_projectedBy) (k := 35) [vI 1] ok_M_Mo_projectedBy okv_M_Mo_projectedBy (by decide) rfl rfl rfl (qm_6 (i := 185) rfl rfl) np_M_Mo_projectedBy rfl (by decide) (Nat.le_of_ble_eq_true rfl) rfl d_Mo_projected_66 (CI.k h (fun v8 σ7 h => (?_ : WM _ 69 _ _ _ _)))
        exact r_ireturn rfl d_Mo_projected_69 h
      · replace h := h.2.1 hc
        refine r_tswIn 70 d_Mo_projected_32 (by omega) (by omega) (by rw [hc]; rfl) rfl ?_
        refine r_aload_n d_Mo_projected_70 rfl (?_ : WM _ 71 _ _ _ _)
        refine r_iconst d_Mo_projected_71 (by decide) (?_ : WM _ 72 _ _ _ _)
        refine r_callV (ν := M_Mo_projectedBy) (k := 35) [vI (-1)] ok_M_Mo_projectedBy okv_M_Mo_projectedBy (by decide) rfl rfl rfl (qm_6 (i := 185) rfl rfl) np_M_Mo_projectedBy rfl (by decide) (Nat.le_of_ble_eq_true rfl) rfl d_Mo_projected_72 (CI.k h (fun v10 σ9 h => (?_ : WM _ 75 _ _ _ _)))
        exact r_ireturn rfl d_Mo_projected_75 h
      · replace h := h.2.2.1 hc
        refine r_tswIn 76 d_Mo_projected_32 (by omega) (by omega) (by rw [hc]; rfl) rfl ?_
        refine r_aload_n d_Mo_projected_76 rfl (?_ : WM _ 77 _ _ _ _)
        refine r_iconst d_Mo_projected_77 (by decide) (?_ : WM _ 78 _ _ _ _)
        refine r_callV (ν := M_Mo_knownBy) (k := 35) [vI 1] ok_M_Mo_knownBy okv_M_Mo_knownBy (by decide) rfl rfl rfl (qm_6 (i := 189) rfl rfl) np_M_Mo_knownBy rfl (by decide) (Nat.le_of_ble_eq_true rfl) rfl d_Mo_projected_78 (CI.k h (fun v12 σ11 h => (?_ : WM _ 81 _ _ _ _)))
        exact r_ireturn rfl d_Mo_projected_81 h
      · replace h := h.2.2.2.1 hc
        refine r_tswIn 82 d_Mo_projected_32 (by omega) (by omega) (by rw [hc]; rfl) rfl ?_
        refine r_aload_n d_Mo_projected_82 rfl (?_ : WM _ 83 _ _ _ _)
        refine r_iconst d_Mo_projected_83 (by decide) (?_ : WM _ 84 _ _ _ _)
        refine r_callV (ν := M_Mo_knownBy) (k := 35) [vI (-1)] ok_M_Mo_knownBy okv_M_Mo_knownBy (by decide) rfl rfl rfl (qm_6 (i := 189) rfl rfl) np_M_Mo_knownBy rfl (by decide) (Nat.le_of_ble_eq_true rfl) rfl d_Mo_projected_84 (CI.k h (fun v14 σ13 h => (?_ : WM _ 87 _ _ _ _)))
        exact r_ireturn rfl d_Mo_projected_87 h
      · replace h := h.2.2.2.2 hc
        refine r_tswOut 88 d_Mo_projected_32 hc rfl ?_
        refine r_aload_n d_Mo_projected_88 rfl (?_ : WM _ 89 _ _ _ _)
        refine r_iconst d_Mo_projected_89 (by decide) (?_ : WM _ 90 _ _ _ _)
        refine r_callV (ν := M_Mo_projectedBy) (k := 35) [vI 1] ok_M_Mo_projectedBy okv_M_Mo_projectedBy (by decide) rfl rfl rfl (qm_6 (i := 185) rfl rfl) np_M_Mo_projectedBy rfl (by decide) (Nat.le_of_ble_eq_true rfl) rfl d_Mo_projected_90 (CI.k h (fun v16 σ15 h => (?_ : WM _ 93 _ _ _ _)))
        refine r_aload_n d_Mo_projected_93 rfl (?_ : WM _ 94 _ _ _ _)
        refine r_iconst d_Mo_projected_94 (by decide) (?_ : WM _ 95 _ _ _ _)
        refine r_callV (ν := M_Mo_knownBy) (k := 35) [vI 1] ok_M_Mo_knownBy okv_M_Mo_knownBy (by decide) rfl rfl rfl (qm_6 (i := 189) rfl rfl) np_M_Mo_knownBy rfl (by decide) (Nat.le_of_ble_eq_true rfl) rfl d_Mo_projected_95 (CI.k h (fun v18 σ17 h => (?_ : WM _ 98 _ _ _ _)))
        obtain ⟨h19, h⟩ := h
        refine r_iadd d_Mo_projected_98 h19 (?_ : WM _ 99 _ _ _ _)
        refine r_aload_n d_Mo_projected_99 rfl (?_ : WM _ 100 _ _ _ _)
        refine r_iconst d_Mo_projected_100 (by decide) (?_ : WM _ 101 _ _ _ _)
        refine r_callV (ν := M_Mo_projectedBy) (k := 35) [vI (-1)] ok_M_Mo_projectedBy okv_M_Mo_projectedBy (by decide) rfl rfl rfl (qm_6 (i := 185) rfl rfl) np_M_Mo_projectedBy rfl (by decide) (Nat.le_of_ble_eq_true rfl) rfl d_Mo_projected_101 (CI.k h (fun v21 σ20 h => (?_ : WM _ 104 _ _ _ _)))
        obtain ⟨h22, h⟩ := h
        refine r_isub d_Mo_projected_104 h22 (?_ : WM _ 105 _ _ _ _)
        refine r_aload_n d_Mo_projected_105 rfl (?_ : WM _ 106 _ _ _ _)
        refine r_iconst d_Mo_projected_106 (by decide) (?_ : WM _ 107 _ _ _ _)
        refine r_callV (ν := M_Mo_knownBy) (k := 35) [vI (-1)] ok_M_Mo_knownBy okv_M_Mo_knownBy (by decide) rfl rfl rfl (qm_6 (i := 189) rfl rfl) np_M_Mo_knownBy rfl (by decide) (Nat.le_of_ble_eq_true rfl) rfl d_Mo_projected_107 (CI.k h (fun v24 σ23 h => (?_ : WM _ 110 _ _ _ _)))
        obtain ⟨h25, h⟩ := h
        refine r_isub d_Mo_projected_110 h25 (?_ : WM _ 111 _ _ _ _)
        exact r_ireturn rfl d_Mo_projected_111 h
    · replace h := h.2 c4
      refine r_ldc (-10000000) d_Mo_projected_24 (qm_5 (i := 233) rfl rfl) (by decide) (by decide) (?_ : WM _ 26 _ _ _ _)
      exact r_ireturn rfl d_Mo_projected_26 h
set_option maxRecDepth 20000 in
theorem e_Mo_taint {K : Int → St → Prop} {σ : St} (x1 : Int) (x2 : Int) (h : CV M_Mo_laysHits [vR 35] (ups σ 35 0 0) (fun σ1 => CV M_Mo_laysRanks [vR 35, vI 1] σ1 (fun σ3 => (inR ((σ3 35 32) - 1)) ∧ CI M_Mo_isIn [vL x1, vL 0, vL ((σ3 35 32) - 1)] σ3 (fun v7 σ6 => (¬ v7 = 0 → (x2 = 0 → (0 ≤ x1) ∧ (x1 < 240) ∧ K (σ6 51 x1) σ6) ∧ (x2 = 1 → (0 ≤ x1) ∧ (x1 < 240) ∧ (0 ≤ (σ6 51 x1)) ∧ ((σ6 51 x1) < 240) ∧ CI M_Mo_taintOf [vR 35, vI (σ6 45 (σ6 51 x1))] σ6 (fun v16 σ15 => K v16 σ15)) ∧ (x2 = 2 → (inR (x1 + 1)) ∧ CI M_Mo_riseOf [vR 35, vI (x1 + 1), vI (σ6 35 25)] σ6 (fun v19 σ18 => K v19 σ18)) ∧ (x2 < 0 ∨ 2 < x2 → K (-2) σ6)) ∧ (v7 = 0 → K (-2) σ6))))) : CI M_Mo_taint [vR 35, vI x1, vI x2] σ K := by
  refine Con.of ok_M_Mo_taint (ls := [(0, vR 35), (1, vI x1), (2, vI x2)]) rfl (Nat.le_of_ble_eq_true rfl) ?_
  refine r_aload_n d_Mo_taint_0 rfl (?_ : WM _ 1 _ _ _ _)
  refine r_iconst d_Mo_taint_1 (by decide) (?_ : WM _ 2 _ _ _ _)
  refine r_put (k := 35) (j := 0) 0 (by decide) rfl clk_11 (by decide) (qm_5 (i := 36) rfl rfl) rfl rfl rfl tyX11_ok rfl nmX11 d_Mo_taint_2 (?_ : WM _ 5 _ _ _ _)
  refine r_aload_n d_Mo_taint_5 rfl (?_ : WM _ 6 _ _ _ _)
  refine r_callV (ν := M_Mo_laysHits) (k := 35) [] ok_M_Mo_laysHits okv_M_Mo_laysHits (by decide) rfl rfl rfl (qm_6 (i := 89) rfl rfl) np_M_Mo_laysHits rfl (by decide) (Nat.le_of_ble_eq_true rfl) rfl d_Mo_taint_6 (CV.k h (fun σ1 h => (?_ : WM _ 9 _ _ _ _)))
  refine r_aload_n d_Mo_taint_9 rfl (?_ : WM _ 10 _ _ _ _)
  refine r_iconst d_Mo_taint_10 (by decide) (?_ : WM _ 11 _ _ _ _)
  refine r_callV (ν := M_Mo_laysRanks) (k := 35) [vI 1] ok_M_Mo_laysRanks okv_M_Mo_laysRanks (by decide) rfl rfl rfl (qm_6 (i := 197) rfl rfl) np_M_Mo_laysRanks rfl (by decide) (Nat.le_of_ble_eq_true rfl) rfl d_Mo_taint_11 (CV.k h (fun σ3 h => (?_ : WM _ 14 _ _ _ _)))
  refine r_iload_n d_Mo_taint_14 rfl (?_ : WM _ 15 _ _ _ _)
  refine r_i2l d_Mo_taint_15 (?_ : WM _ 16 _ _ _ _)
  refine r_lconst 0 d_Mo_taint_16 rfl (by decide) (?_ : WM _ 17 _ _ _ _)
  refine r_aload_n d_Mo_taint_17 rfl (?_ : WM _ 18 _ _ _ _)
  refine r_getI (k := 35) (j := 32) 32 (by decide) rfl clk_11 (by decide) (qm_5 (i := 68) rfl rfl) rfl rfl d_Mo_taint_18 (y := (σ3 35 32)) rfl (?_ : WM _ 21 _ _ _ _)
  refine r_iconst d_Mo_taint_21 (by decide) (?_ : WM _ 22 _ _ _ _)
  obtain ⟨h5, h⟩ := h
  refine r_isub d_Mo_taint_22 h5 (?_ : WM _ 23 _ _ _ _)
  refine r_i2l d_Mo_taint_23 (?_ : WM _ 24 _ _ _ _)
  refine r_callS (ν := M_Mo_isIn) [vL x1, vL 0, vL ((σ3 35 32) - 1)] ok_M_Mo_isIn oks_M_Mo_isIn (qm_5 (i := 153) rfl rfl) np_M_Mo_isIn rfl (by decide) (Nat.le_of_ble_eq_true rfl) rfl d_Mo_taint_24 (CI.k h (fun v7 σ6 h => (?_ : WM _ 27 _ _ _ _)))
  refine r_if_ne 33 d_Mo_taint_27 rfl ⟨fun c8 => (?_ : WM _ 33 _ _ _ _), fun c8 => (?_ : WM _ 30 _ _ _ _)⟩
  · replace h := h.1 c8
    refine r_iload_n d_Mo_taint_33 rfl (?_ : WM _ 34 _ _ _ _)
    have hsw : (x2 = 0) ∨ (x2 = 1) ∨ (x2 = 2) ∨ (x2 < 0 ∨ 2 < x2) := by omega
    rcases hsw with hc | hc | hc | hc
    · replace h := h.1 hc
      refine r_tswIn 60 d_Mo_taint_34 (by omega) (by omega) (by rw [hc]; rfl) rfl ?_
      refine r_aload_n d_Mo_taint_60 rfl (?_ : WM _ 61 _ _ _ _)
      refine r_getR (k := 35) (j := 31) (q := 51) (by decide) rfl clk_11 (by decide) (qm_5 (i := 67) rfl rfl) rfl d_Mo_taint_61 (?_ : WM _ 64 _ _ _ _)
      refine r_iload_n d_Mo_taint_64 rfl (?_ : WM _ 65 _ _ _ _)
      obtain ⟨h9, h⟩ := h
      obtain ⟨h10, h⟩ := h
      refine r_iald (k := 51) (n := 240) (by decide) rfl d_Mo_taint_65 h9 h10 (y := (σ6 51 x1)) rfl (?_ : WM _ 66 _ _ _ _)
      exact r_ireturn rfl d_Mo_taint_66 h
    · replace h := h.2.1 hc
      refine r_tswIn 67 d_Mo_taint_34 (by omega) (by omega) (by rw [hc]; rfl) rfl ?_
      refine r_aload_n d_Mo_taint_67 rfl (?_ : WM _ 68 _ _ _ _)
      refine r_aload_n d_Mo_taint_68 rfl (?_ : WM _ 69 _ _ _ _)
      refine r_getR (k := 35) (j := 21) (q := 45) (by decide) rfl clk_11 (by decide) (qm_5 (i := 57) rfl rfl) rfl d_Mo_taint_69 (?_ : WM _ 72 _ _ _ _)
      refine r_aload_n d_Mo_taint_72 rfl (?_ : WM _ 73 _ _ _ _)
      refine r_getR (k := 35) (j := 31) (q := 51) (by decide) rfl clk_11 (by decide) (qm_5 (i := 67) rfl rfl) rfl d_Mo_taint_73 (?_ : WM _ 76 _ _ _ _)
      refine r_iload_n d_Mo_taint_76 rfl (?_ : WM _ 77 _ _ _ _)
      obtain ⟨h11, h⟩ := h
      obtain ⟨h12, h⟩ := h
      refine r_iald (k := 51) (n := 240) (by decide) rfl d_Mo_taint_77 h11 h12 (y := (σ6 51 x1)) rfl (?_ : WM _ 78 _ _ _ _)
      obtain ⟨h13, h⟩ := h
      obtain ⟨h14, h⟩ := h
      refine r_iald (k := 45) (n := 240) (by decide) rfl d_Mo_taint_78 h13 h14 (y := (σ6 45 (σ6 51 x1))) rfl (?_ : WM _ 79 _ _ _ _)
      refine r_callV (ν := M_Mo_taintOf) (k := 35) [vI (σ6 45 (σ6 51 x1))] ok_M_Mo_taintOf okv_M_Mo_taintOf (by decide) rfl rfl rfl (qm_6 (i := 105) rfl rfl) np_M_Mo_taintOf rfl (by decide) (Nat.le_of_ble_eq_true rfl) rfl d_Mo_taint_79 (CI.k h (fun v16 σ15 h => (?_ : WM _ 82 _ _ _ _)))
      exact r_ireturn rfl d_Mo_taint_82 h
    · replace h := h.2.2.1 hc
      refine r_tswIn 83 d_Mo_taint_34 (by omega) (by omega) (by rw [hc]; rfl) rfl ?_
      refine r_aload_n d_Mo_taint_83 rfl (?_ : WM _ 84 _ _ _ _)
      refine r_iload_n d_Mo_taint_84 rfl (?_ : WM _ 85 _ _ _ _)
      refine r_iconst d_Mo_taint_85 (by decide) (?_ : WM _ 86 _ _ _ _)
      obtain ⟨h17, h⟩ := h
      refine r_iadd d_Mo_taint_86 h17 (?_ : WM _ 87 _ _ _ _)
      refine r_aload_n d_Mo_taint_87 rfl (?_ : WM _ 88 _ _ _ _)
      refine r_getI (k := 35) (j := 25) 25 (by decide) rfl clk_11 (by decide) (qm_5 (i := 61) rfl rfl) rfl rfl d_Mo_taint_88 (y := (σ6 35 25)) rfl (?_ : WM _ 91 _ _ _ _)
      refine r_callV (ν := M_Mo_riseOf) (k := 35) [vI (x1 + 1), vI (σ6 35 25)] ok_M_Mo_riseOf okv_M_Mo_riseOf (by decide) rfl rfl rfl (qm_6 (i := 201) rfl rfl) np_M_Mo_riseOf rfl (by decide) (Nat.le_of_ble_eq_true rfl) rfl d_Mo_taint_91 (CI.k h (fun v19 σ18 h => (?_ : WM _ 94 _ _ _ _)))
      exact r_ireturn rfl d_Mo_taint_94 h
    · replace h := h.2.2.2 hc
      refine r_tswOut 95 d_Mo_taint_34 hc rfl ?_
      refine r_bipush d_Mo_taint_95 (by decide) (by decide) (?_ : WM _ 97 _ _ _ _)
      exact r_ireturn rfl d_Mo_taint_97 h
  · replace h := h.2 c8
    refine r_bipush d_Mo_taint_30 (by decide) (by decide) (?_ : WM _ 32 _ _ _ _)
    exact r_ireturn rfl d_Mo_taint_32 h
set_option maxRecDepth 20000 in
theorem e_Mo_bound {K : Int → St → Prop} {σ : St} (x1 : Int) (h : CI M_Mo_isIn [vL x1, vL 0, vL 4] (ups σ 35 0 0) (fun v2 σ1 => (v2 = 0 → K (-10000000) σ1) ∧ (¬ v2 = 0 → (¬ (σ1 35 10) = 0 → CV M_Mo_laysHits [vR 35] σ1 (fun σ5 => (x1 = 0 → CI M_Mo_basicBy [vR 35, vI (σ5 35 25)] σ5 (fun v8 σ7 => K v8 σ7)) ∧ (x1 = 1 → CI M_Mo_risesBy [vR 35, vI 1, vI (σ5 35 25)] σ5 (fun v10 σ9 => K v10 σ9)) ∧ (x1 = 2 → CI M_Mo_knownBy [vR 35, vI 1] σ5 (fun v12 σ11 => K v12 σ11)) ∧ (x1 = 3 → CI M_Mo_boundBy [vR 35, vI 1, vI (σ5 35 25)] σ5 (fun v14 σ13 => K v14 σ13)) ∧ (x1 < 0 ∨ 3 < x1 → CI M_Mo_boundBy [vR 35, vI 1, vI (σ5 35 25)] σ5 (fun v16 σ15 => (inR ((σ5 36 0) - v16)) ∧ K ((σ5 36 0) - v16) σ15)))) ∧ ((σ1 35 10) = 0 → K (-10000000) σ1)))) : CI M_Mo_bound [vR 35, vI x1] σ K := by
  refine Con.of ok_M_Mo_bound (ls := [(0, vR 35), (1, vI x1)]) rfl (Nat.le_of_ble_eq_true rfl) ?_
  refine r_aload_n d_Mo_bound_0 rfl (?_ : WM _ 1 _ _ _ _)
  refine r_iconst d_Mo_bound_1 (by decide) (?_ : WM _ 2 _ _ _ _)
  refine r_put (k := 35) (j := 0) 0 (by decide) rfl clk_11 (by decide) (qm_5 (i := 36) rfl rfl) rfl rfl rfl tyX11_ok rfl nmX11 d_Mo_bound_2 (?_ : WM _ 5 _ _ _ _)
  refine r_iload_n d_Mo_bound_5 rfl (?_ : WM _ 6 _ _ _ _)
  refine r_i2l d_Mo_bound_6 (?_ : WM _ 7 _ _ _ _)
  refine r_lconst 0 d_Mo_bound_7 rfl (by decide) (?_ : WM _ 8 _ _ _ _)
  refine r_ldc2 4 d_Mo_bound_8 (qm_5 (i := 216) rfl rfl) (by decide) (by decide) (?_ : WM _ 11 _ _ _ _)
  refine r_callS (ν := M_Mo_isIn) [vL x1, vL 0, vL 4] ok_M_Mo_isIn oks_M_Mo_isIn (qm_5 (i := 153) rfl rfl) np_M_Mo_isIn rfl (by decide) (Nat.le_of_ble_eq_true rfl) rfl d_Mo_bound_11 (CI.k h (fun v2 σ1 h => (?_ : WM _ 14 _ _ _ _)))
  refine r_if_eq 24 d_Mo_bound_14 rfl ⟨fun c3 => (?_ : WM _ 24 _ _ _ _), fun c3 => (?_ : WM _ 17 _ _ _ _)⟩
  · replace h := h.1 c3
    refine r_ldc (-10000000) d_Mo_bound_24 (qm_5 (i := 233) rfl rfl) (by decide) (by decide) (?_ : WM _ 26 _ _ _ _)
    exact r_ireturn rfl d_Mo_bound_26 h
  · replace h := h.2 c3
    refine r_aload_n d_Mo_bound_17 rfl (?_ : WM _ 18 _ _ _ _)
    refine r_getI (k := 35) (j := 10) 10 (by decide) rfl clk_11 (by decide) (qm_5 (i := 46) rfl rfl) rfl rfl d_Mo_bound_18 (y := (σ1 35 10)) rfl (?_ : WM _ 21 _ _ _ _)
    refine r_if_ne 27 d_Mo_bound_21 rfl ⟨fun c4 => (?_ : WM _ 27 _ _ _ _), fun c4 => (?_ : WM _ 24 _ _ _ _)⟩
    · replace h := h.1 c4
      refine r_aload_n d_Mo_bound_27 rfl (?_ : WM _ 28 _ _ _ _)
      refine r_callV (ν := M_Mo_laysHits) (k := 35) [] ok_M_Mo_laysHits okv_M_Mo_laysHits (by decide) rfl rfl rfl (qm_6 (i := 89) rfl rfl) np_M_Mo_laysHits rfl (by decide) (Nat.le_of_ble_eq_true rfl) rfl d_Mo_bound_28 (CV.k h (fun σ5 h => (?_ : WM _ 31 _ _ _ _)))
      refine r_iload_n d_Mo_bound_31 rfl (?_ : WM _ 32 _ _ _ _)
      have hsw : (x1 = 0) ∨ (x1 = 1) ∨ (x1 = 2) ∨ (x1 = 3) ∨ (x1 < 0 ∨ 3 < x1) := by omega
      rcases hsw with hc | hc | hc | hc | hc
      · replace h := h.1 hc
        refine r_tswIn 64 d_Mo_bound_32 (by omega) (by omega) (by rw [hc]; rfl) rfl ?_
        refine r_aload_n d_Mo_bound_64 rfl (?_ : WM _ 65 _ _ _ _)
        refine r_aload_n d_Mo_bound_65 rfl (?_ : WM _ 66 _ _ _ _)
        refine r_getI (k := 35) (j := 25) 25 (by decide) rfl clk_11 (by decide) (qm_5 (i := 61) rfl rfl) rfl rfl d_Mo_bound_66 (y := (σ5 35 25)) rfl (?_ : WM _ 69 _ _ _ _)
        refine r_callV (ν := M_Mo_basicBy) (k := 35) [vI (σ5 35 25)] ok_M_Mo_basicBy okv_M_Mo_basicBy (by decide) rfl rfl rfl (qm_6 (i := 210) rfl rfl) np_M_Mo_basicBy rfl (by decide) (Nat.le_of_ble_eq_true rfl) rfl d_Mo_bound_69 (CI.k h (fun v8 σ7 h => (?_ : WM _ 72 _ _ _ _)))
        exact r_ireturn rfl d_Mo_bound_72 h
      · replace h := h.2.1 hc
        refine r_tswIn 73 d_Mo_bound_32 (by omega) (by omega) (by rw [hc]; rfl) rfl ?_
        refine r_aload_n d_Mo_bound_73 rfl (?_ : WM _ 74 _ _ _ _)
        refine r_iconst d_Mo_bound_74 (by decide) (?_ : WM _ 75 _ _ _ _)
        refine r_aload_n d_Mo_bound_75 rfl (?_ : WM _ 76 _ _ _ _)
        refine r_getI (k := 35) (j := 25) 25 (by decide) rfl clk_11 (by decide) (qm_5 (i := 61) rfl rfl) rfl rfl d_Mo_bound_76 (y := (σ5 35 25)) rfl (?_ : WM _ 79 _ _ _ _)
        refine r_callV (ν := M_Mo_risesBy) (k := 35) [vI 1, vI (σ5 35 25)] ok_M_Mo_risesBy okv_M_Mo_risesBy (by decide) rfl rfl rfl (qm_6 (i := 214) rfl rfl) np_M_Mo_risesBy rfl (by decide) (Nat.le_of_ble_eq_true rfl) rfl d_Mo_bound_79 (CI.k h (fun v10 σ9 h => (?_ : WM _ 82 _ _ _ _)))
        exact r_ireturn rfl d_Mo_bound_82 h
      · replace h := h.2.2.1 hc
        refine r_tswIn 83 d_Mo_bound_32 (by omega) (by omega) (by rw [hc]; rfl) rfl ?_
        refine r_aload_n d_Mo_bound_83 rfl (?_ : WM _ 84 _ _ _ _)
        refine r_iconst d_Mo_bound_84 (by decide) (?_ : WM _ 85 _ _ _ _)
        refine r_callV (ν := M_Mo_knownBy) (k := 35) [vI 1] ok_M_Mo_knownBy okv_M_Mo_knownBy (by decide) rfl rfl rfl (qm_6 (i := 189) rfl rfl) np_M_Mo_knownBy rfl (by decide) (Nat.le_of_ble_eq_true rfl) rfl d_Mo_bound_85 (CI.k h (fun v12 σ11 h => (?_ : WM _ 88 _ _ _ _)))
        exact r_ireturn rfl d_Mo_bound_88 h
      · replace h := h.2.2.2.1 hc
        refine r_tswIn 89 d_Mo_bound_32 (by omega) (by omega) (by rw [hc]; rfl) rfl ?_
        refine r_aload_n d_Mo_bound_89 rfl (?_ : WM _ 90 _ _ _ _)
        refine r_iconst d_Mo_bound_90 (by decide) (?_ : WM _ 91 _ _ _ _)
        refine r_aload_n d_Mo_bound_91 rfl (?_ : WM _ 92 _ _ _ _)
        refine r_getI (k := 35) (j := 25) 25 (by decide) rfl clk_11 (by decide) (qm_5 (i := 61) rfl rfl) rfl rfl d_Mo_bound_92 (y := (σ5 35 25)) rfl (?_ : WM _ 95 _ _ _ _)
        refine r_callV (ν := M_Mo_boundBy) (k := 35) [vI 1, vI (σ5 35 25)] ok_M_Mo_boundBy okv_M_Mo_boundBy (by decide) rfl rfl rfl (qm_6 (i := 218) rfl rfl) np_M_Mo_boundBy rfl (by decide) (Nat.le_of_ble_eq_true rfl) rfl d_Mo_bound_95 (CI.k h (fun v14 σ13 h => (?_ : WM _ 98 _ _ _ _)))
        exact r_ireturn rfl d_Mo_bound_98 h
      · replace h := h.2.2.2.2 hc
        refine r_tswOut 99 d_Mo_bound_32 hc rfl ?_
        refine r_aload_n d_Mo_bound_99 rfl (?_ : WM _ 100 _ _ _ _)
        refine r_getR (k := 35) (j := 1) (q := 36) (by decide) rfl clk_11 (by decide) (qm_5 (i := 37) rfl rfl) rfl d_Mo_bound_100 (?_ : WM _ 103 _ _ _ _)
        refine r_iconst d_Mo_bound_103 (by decide) (?_ : WM _ 104 _ _ _ _)
        refine r_iald (k := 36) (n := 5) (by decide) rfl d_Mo_bound_104 (by decide) (by decide) (y := (σ5 36 0)) rfl (?_ : WM _ 105 _ _ _ _)
        refine r_aload_n d_Mo_bound_105 rfl (?_ : WM _ 106 _ _ _ _)
        refine r_iconst d_Mo_bound_106 (by decide) (?_ : WM _ 107 _ _ _ _)
        refine r_aload_n d_Mo_bound_107 rfl (?_ : WM _ 108 _ _ _ _)
        refine r_getI (k := 35) (j := 25) 25 (by decide) rfl clk_11 (by decide) (qm_5 (i := 61) rfl rfl) rfl rfl d_Mo_bound_108 (y := (σ5 35 25)) rfl (?_ : WM _ 111 _ _ _ _)
        refine r_callV (ν := M_Mo_boundBy) (k := 35) [vI 1, vI (σ5 35 25)] ok_M_Mo_boundBy okv_M_Mo_boundBy (by decide) rfl rfl rfl (qm_6 (i := 218) rfl rfl) np_M_Mo_boundBy rfl (by decide) (Nat.le_of_ble_eq_true rfl) rfl d_Mo_bound_111 (CI.k h (fun v16 σ15 h => (?_ : WM _ 114 _ _ _ _)))
        obtain ⟨h17, h⟩ := h
        refine r_isub d_Mo_bound_114 h17 (?_ : WM _ 115 _ _ _ _)
        exact r_ireturn rfl d_Mo_bound_115 h
    · replace h := h.2 c4
      refine r_ldc (-10000000) d_Mo_bound_24 (qm_5 (i := 233) rfl rfl) (by decide) (by decide) (?_ : WM _ 26 _ _ _ _)
      exact r_ireturn rfl d_Mo_bound_26 h
set_option maxRecDepth 20000 in
theorem e_Mo_below {K : Int → St → Prop} {σ : St} (x1 : Int) (h : CI M_Mo_isIn [vL x1, vL 0, vL 3] (ups σ 35 0 0) (fun v2 σ1 => (v2 = 0 → K (-10000000) σ1) ∧ (¬ v2 = 0 → (¬ (σ1 35 10) = 0 → CV M_Mo_laysHits [vR 35] σ1 (fun σ5 => (x1 = 0 → CI M_Mo_basicBy [vR 35, vI (σ5 35 25)] σ5 (fun v8 σ7 => K v8 σ7)) ∧ (x1 = 1 → CI M_Mo_risesBy [vR 35, vI (-1), vI (σ5 35 25)] σ5 (fun v10 σ9 => K v10 σ9)) ∧ (x1 = 2 → CI M_Mo_knownBy [vR 35, vI (-1)] σ5 (fun v12 σ11 => K v12 σ11)) ∧ (x1 < 0 ∨ 2 < x1 → CI M_Mo_boundBy [vR 35, vI (-1), vI (σ5 35 25)] σ5 (fun v14 σ13 => K v14 σ13)))) ∧ ((σ1 35 10) = 0 → K (-10000000) σ1)))) : CI M_Mo_below [vR 35, vI x1] σ K := by
  refine Con.of ok_M_Mo_below (ls := [(0, vR 35), (1, vI x1)]) rfl (Nat.le_of_ble_eq_true rfl) ?_
  refine r_aload_n d_Mo_below_0 rfl (?_ : WM _ 1 _ _ _ _)
  refine r_iconst d_Mo_below_1 (by decide) (?_ : WM _ 2 _ _ _ _)
  refine r_put (k := 35) (j := 0) 0 (by decide) rfl clk_11 (by decide) (qm_5 (i := 36) rfl rfl) rfl rfl rfl tyX11_ok rfl nmX11 d_Mo_below_2 (?_ : WM _ 5 _ _ _ _)
  refine r_iload_n d_Mo_below_5 rfl (?_ : WM _ 6 _ _ _ _)
  refine r_i2l d_Mo_below_6 (?_ : WM _ 7 _ _ _ _)
  refine r_lconst 0 d_Mo_below_7 rfl (by decide) (?_ : WM _ 8 _ _ _ _)
  refine r_ldc2 3 d_Mo_below_8 (qm_6 (i := 226) rfl rfl) (by decide) (by decide) (?_ : WM _ 11 _ _ _ _)
  refine r_callS (ν := M_Mo_isIn) [vL x1, vL 0, vL 3] ok_M_Mo_isIn oks_M_Mo_isIn (qm_5 (i := 153) rfl rfl) np_M_Mo_isIn rfl (by decide) (Nat.le_of_ble_eq_true rfl) rfl d_Mo_below_11 (CI.k h (fun v2 σ1 h => (?_ : WM _ 14 _ _ _ _)))
  refine r_if_eq 24 d_Mo_below_14 rfl ⟨fun c3 => (?_ : WM _ 24 _ _ _ _), fun c3 => (?_ : WM _ 17 _ _ _ _)⟩
  · replace h := h.1 c3
    refine r_ldc (-10000000) d_Mo_below_24 (qm_5 (i := 233) rfl rfl) (by decide) (by decide) (?_ : WM _ 26 _ _ _ _)
    exact r_ireturn rfl d_Mo_below_26 h
  · replace h := h.2 c3
    refine r_aload_n d_Mo_below_17 rfl (?_ : WM _ 18 _ _ _ _)
    refine r_getI (k := 35) (j := 10) 10 (by decide) rfl clk_11 (by decide) (qm_5 (i := 46) rfl rfl) rfl rfl d_Mo_below_18 (y := (σ1 35 10)) rfl (?_ : WM _ 21 _ _ _ _)
    refine r_if_ne 27 d_Mo_below_21 rfl ⟨fun c4 => (?_ : WM _ 27 _ _ _ _), fun c4 => (?_ : WM _ 24 _ _ _ _)⟩
    · replace h := h.1 c4
      refine r_aload_n d_Mo_below_27 rfl (?_ : WM _ 28 _ _ _ _)
      refine r_callV (ν := M_Mo_laysHits) (k := 35) [] ok_M_Mo_laysHits okv_M_Mo_laysHits (by decide) rfl rfl rfl (qm_6 (i := 89) rfl rfl) np_M_Mo_laysHits rfl (by decide) (Nat.le_of_ble_eq_true rfl) rfl d_Mo_below_28 (CV.k h (fun σ5 h => (?_ : WM _ 31 _ _ _ _)))
      refine r_iload_n d_Mo_below_31 rfl (?_ : WM _ 32 _ _ _ _)
      have hsw : (x1 = 0) ∨ (x1 = 1) ∨ (x1 = 2) ∨ (x1 < 0 ∨ 2 < x1) := by omega
      rcases hsw with hc | hc | hc | hc
      · replace h := h.1 hc
        refine r_tswIn 60 d_Mo_below_32 (by omega) (by omega) (by rw [hc]; rfl) rfl ?_
        refine r_aload_n d_Mo_below_60 rfl (?_ : WM _ 61 _ _ _ _)
        refine r_aload_n d_Mo_below_61 rfl (?_ : WM _ 62 _ _ _ _)
        refine r_getI (k := 35) (j := 25) 25 (by decide) rfl clk_11 (by decide) (qm_5 (i := 61) rfl rfl) rfl rfl d_Mo_below_62 (y := (σ5 35 25)) rfl (?_ : WM _ 65 _ _ _ _)
        refine r_callV (ν := M_Mo_basicBy) (k := 35) [vI (σ5 35 25)] ok_M_Mo_basicBy okv_M_Mo_basicBy (by decide) rfl rfl rfl (qm_6 (i := 210) rfl rfl) np_M_Mo_basicBy rfl (by decide) (Nat.le_of_ble_eq_true rfl) rfl d_Mo_below_65 (CI.k h (fun v8 σ7 h => (?_ : WM _ 68 _ _ _ _)))
        exact r_ireturn rfl d_Mo_below_68 h
      · replace h := h.2.1 hc
        refine r_tswIn 69 d_Mo_below_32 (by omega) (by omega) (by rw [hc]; rfl) rfl ?_
        refine r_aload_n d_Mo_below_69 rfl (?_ : WM _ 70 _ _ _ _)
        refine r_iconst d_Mo_below_70 (by decide) (?_ : WM _ 71 _ _ _ _)
        refine r_aload_n d_Mo_below_71 rfl (?_ : WM _ 72 _ _ _ _)
        refine r_getI (k := 35) (j := 25) 25 (by decide) rfl clk_11 (by decide) (qm_5 (i := 61) rfl rfl) rfl rfl d_Mo_below_72 (y := (σ5 35 25)) rfl (?_ : WM _ 75 _ _ _ _)
        refine r_callV (ν := M_Mo_risesBy) (k := 35) [vI (-1), vI (σ5 35 25)] ok_M_Mo_risesBy okv_M_Mo_risesBy (by decide) rfl rfl rfl (qm_6 (i := 214) rfl rfl) np_M_Mo_risesBy rfl (by decide) (Nat.le_of_ble_eq_true rfl) rfl d_Mo_below_75 (CI.k h (fun v10 σ9 h => (?_ : WM _ 78 _ _ _ _)))
        exact r_ireturn rfl d_Mo_below_78 h
      · replace h := h.2.2.1 hc
        refine r_tswIn 79 d_Mo_below_32 (by omega) (by omega) (by rw [hc]; rfl) rfl ?_
        refine r_aload_n d_Mo_below_79 rfl (?_ : WM _ 80 _ _ _ _)
        refine r_iconst d_Mo_below_80 (by decide) (?_ : WM _ 81 _ _ _ _)
        refine r_callV (ν := M_Mo_knownBy) (k := 35) [vI (-1)] ok_M_Mo_knownBy okv_M_Mo_knownBy (by decide) rfl rfl rfl (qm_6 (i := 189) rfl rfl) np_M_Mo_knownBy rfl (by decide) (Nat.le_of_ble_eq_true rfl) rfl d_Mo_below_81 (CI.k h (fun v12 σ11 h => (?_ : WM _ 84 _ _ _ _)))
        exact r_ireturn rfl d_Mo_below_84 h
      · replace h := h.2.2.2 hc
        refine r_tswOut 85 d_Mo_below_32 hc rfl ?_
        refine r_aload_n d_Mo_below_85 rfl (?_ : WM _ 86 _ _ _ _)
        refine r_iconst d_Mo_below_86 (by decide) (?_ : WM _ 87 _ _ _ _)
        refine r_aload_n d_Mo_below_87 rfl (?_ : WM _ 88 _ _ _ _)
        refine r_getI (k := 35) (j := 25) 25 (by decide) rfl clk_11 (by decide) (qm_5 (i := 61) rfl rfl) rfl rfl d_Mo_below_88 (y := (σ5 35 25)) rfl (?_ : WM _ 91 _ _ _ _)
        refine r_callV (ν := M_Mo_boundBy) (k := 35) [vI (-1), vI (σ5 35 25)] ok_M_Mo_boundBy okv_M_Mo_boundBy (by decide) rfl rfl rfl (qm_6 (i := 218) rfl rfl) np_M_Mo_boundBy rfl (by decide) (Nat.le_of_ble_eq_true rfl) rfl d_Mo_below_91 (CI.k h (fun v14 σ13 h => (?_ : WM _ 94 _ _ _ _)))
        exact r_ireturn rfl d_Mo_below_94 h
    · replace h := h.2 c4
      refine r_ldc (-10000000) d_Mo_below_24 (qm_5 (i := 233) rfl rfl) (by decide) (by decide) (?_ : WM _ 26 _ _ _ _)
      exact r_ireturn rfl d_Mo_below_26 h
set_option maxRecDepth 20000 in
theorem e_Mo_judged {K : Int → St → Prop} {σ : St}  (h : (¬ (σ 35 10) = 0 → CI M_Mo_among [vR 35, vI (-1), vI 1] (ups σ 35 0 0) (fun v3 σ2 => (v3 ≤ 0 → CI M_Mo_boundBy [vR 35, vI 1, vI (σ2 35 25)] σ2 (fun v6 σ5 => ((σ5 36 0) < v6 → K 3 σ5) ∧ (¬ (σ5 36 0) < v6 → K 2 σ5))) ∧ (¬ v3 ≤ 0 → K 1 σ2))) ∧ ((σ 35 10) = 0 → K 0 (ups σ 35 0 0))) : CI M_Mo_judged [vR 35] σ K := by
  refine Con.of ok_M_Mo_judged (ls := [(0, vR 35)]) rfl (Nat.le_of_ble_eq_true rfl) ?_
  refine r_aload_n d_Mo_judged_0 rfl (?_ : WM _ 1 _ _ _ _)
  refine r_iconst d_Mo_judged_1 (by decide) (?_ : WM _ 2 _ _ _ _)
  refine r_put (k := 35) (j := 0) 0 (by decide) rfl clk_11 (by decide) (qm_5 (i := 36) rfl rfl) rfl rfl rfl tyX11_ok rfl nmX11 d_Mo_judged_2 (?_ : WM _ 5 _ _ _ _)
  refine r_aload_n d_Mo_judged_5 rfl (?_ : WM _ 6 _ _ _ _)
  refine r_getI (k := 35) (j := 10) 10 (by decide) rfl clk_11 (by decide) (qm_5 (i := 46) rfl rfl) rfl rfl d_Mo_judged_6 (y := (σ 35 10)) (ups_f (by decide)) (?_ : WM _ 9 _ _ _ _)
  refine r_if_ne 14 d_Mo_judged_9 rfl ⟨fun c1 => (?_ : WM _ 14 _ _ _ _), fun c1 => (?_ : WM _ 12 _ _ _ _)⟩
  · replace h := h.1 c1
    refine r_aload_n d_Mo_judged_14 rfl (?_ : WM _ 15 _ _ _ _)
    refine r_iconst d_Mo_judged_15 (by decide) (?_ : WM _ 16 _ _ _ _)
    refine r_iconst d_Mo_judged_16 (by decide) (?_ : WM _ 17 _ _ _ _)
    refine r_callV (ν := M_Mo_among) (k := 35) [vI (-1), vI 1] ok_M_Mo_among okv_M_Mo_among (by decide) rfl rfl rfl (qm_6 (i := 125) rfl rfl) np_M_Mo_among rfl (by decide) (Nat.le_of_ble_eq_true rfl) rfl d_Mo_judged_17 (CI.k h (fun v3 σ2 h => (?_ : WM _ 20 _ _ _ _)))
    refine r_if_le 25 d_Mo_judged_20 rfl ⟨fun c4 => (?_ : WM _ 25 _ _ _ _), fun c4 => (?_ : WM _ 23 _ _ _ _)⟩
    · replace h := h.1 c4
      refine r_aload_n d_Mo_judged_25 rfl (?_ : WM _ 26 _ _ _ _)
      refine r_iconst d_Mo_judged_26 (by decide) (?_ : WM _ 27 _ _ _ _)
      refine r_aload_n d_Mo_judged_27 rfl (?_ : WM _ 28 _ _ _ _)
      refine r_getI (k := 35) (j := 25) 25 (by decide) rfl clk_11 (by decide) (qm_5 (i := 61) rfl rfl) rfl rfl d_Mo_judged_28 (y := (σ2 35 25)) rfl (?_ : WM _ 31 _ _ _ _)
      refine r_callV (ν := M_Mo_boundBy) (k := 35) [vI 1, vI (σ2 35 25)] ok_M_Mo_boundBy okv_M_Mo_boundBy (by decide) rfl rfl rfl (qm_6 (i := 218) rfl rfl) np_M_Mo_boundBy rfl (by decide) (Nat.le_of_ble_eq_true rfl) rfl d_Mo_judged_31 (CI.k h (fun v6 σ5 h => (?_ : WM _ 34 _ _ _ _)))
      refine r_aload_n d_Mo_judged_34 rfl (?_ : WM _ 35 _ _ _ _)
      refine r_getR (k := 35) (j := 1) (q := 36) (by decide) rfl clk_11 (by decide) (qm_5 (i := 37) rfl rfl) rfl d_Mo_judged_35 (?_ : WM _ 38 _ _ _ _)
      refine r_iconst d_Mo_judged_38 (by decide) (?_ : WM _ 39 _ _ _ _)
      refine r_iald (k := 36) (n := 5) (by decide) rfl d_Mo_judged_39 (by decide) (by decide) (y := (σ5 36 0)) rfl (?_ : WM _ 40 _ _ _ _)
      refine r_icmp_gt 47 d_Mo_judged_40 rfl ⟨fun c7 => (?_ : WM _ 47 _ _ _ _), fun c7 => (?_ : WM _ 43 _ _ _ _)⟩
      · replace h := h.1 c7
        refine r_iconst d_Mo_judged_47 (by decide) (?_ : WM _ 48 _ _ _ _)
        exact r_ireturn rfl d_Mo_judged_48 h
      · replace h := h.2 c7
        refine r_iconst d_Mo_judged_43 (by decide) (?_ : WM _ 44 _ _ _ _)
        refine r_goto 48 d_Mo_judged_44 rfl ?_
        exact r_ireturn rfl d_Mo_judged_48 h
    · replace h := h.2 c4
      refine r_iconst d_Mo_judged_23 (by decide) (?_ : WM _ 24 _ _ _ _)
      exact r_ireturn rfl d_Mo_judged_24 h
  · replace h := h.2 c1
    refine r_iconst d_Mo_judged_12 (by decide) (?_ : WM _ 13 _ _ _ _)
    exact r_ireturn rfl d_Mo_judged_13 h
set_option maxRecDepth 20000 in
theorem e_Mo_would {K : Int → St → Prop} {σ : St} (x1 : Int) (x2 : Int) (h : CI M_Mo_isItem [vR 35, vI x1] (ups σ 35 0 0) (fun v2 σ1 => (v2 = 0 → K (-10000000) σ1) ∧ (¬ v2 = 0 → CI M_Mo_isAudit [vR 35, vI x1, vI x2] σ1 (fun v5 σ4 => (v5 = 0 → K (-10000000) σ4) ∧ (¬ v5 = 0 → CI M_Mo_coinsOf [vR 35, vI x1] σ4 (fun v8 σ7 => (v8 = 0 → K (-10000000) σ7) ∧ (¬ v8 = 0 → (¬ (σ7 35 10) = 0 → CV M_Mo_laysHits [vR 35] σ7 (fun σ11 => CI M_Mo_boundIf [vR 35, vI x1, vI x2] σ11 (fun v14 σ13 => K v14 σ13))) ∧ ((σ7 35 10) = 0 → K (-10000000) σ7)))))))) : CI M_Mo_would [vR 35, vI x1, vI x2] σ K := by
  refine Con.of ok_M_Mo_would (ls := [(0, vR 35), (1, vI x1), (2, vI x2)]) rfl (Nat.le_of_ble_eq_true rfl) ?_
  refine r_aload_n d_Mo_would_0 rfl (?_ : WM _ 1 _ _ _ _)
  refine r_iconst d_Mo_would_1 (by decide) (?_ : WM _ 2 _ _ _ _)
  refine r_put (k := 35) (j := 0) 0 (by decide) rfl clk_11 (by decide) (qm_5 (i := 36) rfl rfl) rfl rfl rfl tyX11_ok rfl nmX11 d_Mo_would_2 (?_ : WM _ 5 _ _ _ _)
  refine r_aload_n d_Mo_would_5 rfl (?_ : WM _ 6 _ _ _ _)
  refine r_iload_n d_Mo_would_6 rfl (?_ : WM _ 7 _ _ _ _)
  refine r_callV (ν := M_Mo_isItem) (k := 35) [vI x1] ok_M_Mo_isItem okv_M_Mo_isItem (by decide) rfl rfl rfl (qm_5 (i := 229) rfl rfl) np_M_Mo_isItem rfl (by decide) (Nat.le_of_ble_eq_true rfl) rfl d_Mo_would_7 (CI.k h (fun v2 σ1 h => (?_ : WM _ 10 _ _ _ _)))
  refine r_if_eq 37 d_Mo_would_10 rfl ⟨fun c3 => (?_ : WM _ 37 _ _ _ _), fun c3 => (?_ : WM _ 13 _ _ _ _)⟩
  · replace h := h.1 c3
    refine r_ldc (-10000000) d_Mo_would_37 (qm_5 (i := 233) rfl rfl) (by decide) (by decide) (?_ : WM _ 39 _ _ _ _)
    exact r_ireturn rfl d_Mo_would_39 h
  · replace h := h.2 c3
    refine r_aload_n d_Mo_would_13 rfl (?_ : WM _ 14 _ _ _ _)
    refine r_iload_n d_Mo_would_14 rfl (?_ : WM _ 15 _ _ _ _)
    refine r_iload_n d_Mo_would_15 rfl (?_ : WM _ 16 _ _ _ _)
    refine r_callV (ν := M_Mo_isAudit) (k := 35) [vI x1, vI x2] ok_M_Mo_isAudit okv_M_Mo_isAudit (by decide) rfl rfl rfl (qm_6 (i := 2) rfl rfl) np_M_Mo_isAudit rfl (by decide) (Nat.le_of_ble_eq_true rfl) rfl d_Mo_would_16 (CI.k h (fun v5 σ4 h => (?_ : WM _ 19 _ _ _ _)))
    refine r_if_eq 37 d_Mo_would_19 rfl ⟨fun c6 => (?_ : WM _ 37 _ _ _ _), fun c6 => (?_ : WM _ 22 _ _ _ _)⟩
    · replace h := h.1 c6
      refine r_ldc (-10000000) d_Mo_would_37 (qm_5 (i := 233) rfl rfl) (by decide) (by decide) (?_ : WM _ 39 _ _ _ _)
      exact r_ireturn rfl d_Mo_would_39 h
    · replace h := h.2 c6
      refine r_aload_n d_Mo_would_22 rfl (?_ : WM _ 23 _ _ _ _)
      refine r_iload_n d_Mo_would_23 rfl (?_ : WM _ 24 _ _ _ _)
      refine r_callV (ν := M_Mo_coinsOf) (k := 35) [vI x1] ok_M_Mo_coinsOf okv_M_Mo_coinsOf (by decide) rfl rfl rfl (qm_6 (i := 7) rfl rfl) np_M_Mo_coinsOf rfl (by decide) (Nat.le_of_ble_eq_true rfl) rfl d_Mo_would_24 (CI.k h (fun v8 σ7 h => (?_ : WM _ 27 _ _ _ _)))
      refine r_if_eq 37 d_Mo_would_27 rfl ⟨fun c9 => (?_ : WM _ 37 _ _ _ _), fun c9 => (?_ : WM _ 30 _ _ _ _)⟩
      · replace h := h.1 c9
        refine r_ldc (-10000000) d_Mo_would_37 (qm_5 (i := 233) rfl rfl) (by decide) (by decide) (?_ : WM _ 39 _ _ _ _)
        exact r_ireturn rfl d_Mo_would_39 h
      · replace h := h.2 c9
        refine r_aload_n d_Mo_would_30 rfl (?_ : WM _ 31 _ _ _ _)
        refine r_getI (k := 35) (j := 10) 10 (by decide) rfl clk_11 (by decide) (qm_5 (i := 46) rfl rfl) rfl rfl d_Mo_would_31 (y := (σ7 35 10)) rfl (?_ : WM _ 34 _ _ _ _)
        refine r_if_ne 40 d_Mo_would_34 rfl ⟨fun c10 => (?_ : WM _ 40 _ _ _ _), fun c10 => (?_ : WM _ 37 _ _ _ _)⟩
        · replace h := h.1 c10
          refine r_aload_n d_Mo_would_40 rfl (?_ : WM _ 41 _ _ _ _)
          refine r_callV (ν := M_Mo_laysHits) (k := 35) [] ok_M_Mo_laysHits okv_M_Mo_laysHits (by decide) rfl rfl rfl (qm_6 (i := 89) rfl rfl) np_M_Mo_laysHits rfl (by decide) (Nat.le_of_ble_eq_true rfl) rfl d_Mo_would_41 (CV.k h (fun σ11 h => (?_ : WM _ 44 _ _ _ _)))
          refine r_aload_n d_Mo_would_44 rfl (?_ : WM _ 45 _ _ _ _)
          refine r_iload_n d_Mo_would_45 rfl (?_ : WM _ 46 _ _ _ _)
          refine r_iload_n d_Mo_would_46 rfl (?_ : WM _ 47 _ _ _ _)
          refine r_callV (ν := M_Mo_boundIf) (k := 35) [vI x1, vI x2] ok_M_Mo_boundIf okv_M_Mo_boundIf (by decide) rfl rfl rfl (qm_6 (i := 235) rfl rfl) np_M_Mo_boundIf rfl (by decide) (Nat.le_of_ble_eq_true rfl) rfl d_Mo_would_47 (CI.k h (fun v14 σ13 h => (?_ : WM _ 50 _ _ _ _)))
          exact r_ireturn rfl d_Mo_would_50 h
        · replace h := h.2 c10
          refine r_ldc (-10000000) d_Mo_would_37 (qm_5 (i := 233) rfl rfl) (by decide) (by decide) (?_ : WM _ 39 _ _ _ _)
          exact r_ireturn rfl d_Mo_would_39 h
set_option maxRecDepth 20000 in
theorem e_Mo_dearest {K : Int → St → Prop} {σ : St}  (h : (¬ (σ 35 10) = 0 → CV M_Mo_laysHits [vR 35] (ups σ 35 0 0) (fun σ2 => WM M_Mo_dearest 25 [(0, vR 35), (1, vI (-1)), (2, vI 0), (3, vI 0)] [] σ2 (QI K))) ∧ ((σ 35 10) = 0 → K (-5) (ups σ 35 0 0))) : CI M_Mo_dearest [vR 35] σ K := by
  refine Con.of ok_M_Mo_dearest (ls := [(0, vR 35)]) rfl (Nat.le_of_ble_eq_true rfl) ?_
  refine r_aload_n d_Mo_dearest_0 rfl (?_ : WM _ 1 _ _ _ _)
  refine r_iconst d_Mo_dearest_1 (by decide) (?_ : WM _ 2 _ _ _ _)
  refine r_put (k := 35) (j := 0) 0 (by decide) rfl clk_11 (by decide) (qm_5 (i := 36) rfl rfl) rfl rfl rfl tyX11_ok rfl nmX11 d_Mo_dearest_2 (?_ : WM _ 5 _ _ _ _)
  refine r_aload_n d_Mo_dearest_5 rfl (?_ : WM _ 6 _ _ _ _)
  refine r_getI (k := 35) (j := 10) 10 (by decide) rfl clk_11 (by decide) (qm_5 (i := 46) rfl rfl) rfl rfl d_Mo_dearest_6 (y := (σ 35 10)) (ups_f (by decide)) (?_ : WM _ 9 _ _ _ _)
  refine r_if_ne 15 d_Mo_dearest_9 rfl ⟨fun c1 => (?_ : WM _ 15 _ _ _ _), fun c1 => (?_ : WM _ 12 _ _ _ _)⟩
  · replace h := h.1 c1
    refine r_aload_n d_Mo_dearest_15 rfl (?_ : WM _ 16 _ _ _ _)
    refine r_callV (ν := M_Mo_laysHits) (k := 35) [] ok_M_Mo_laysHits okv_M_Mo_laysHits (by decide) rfl rfl rfl (qm_6 (i := 89) rfl rfl) np_M_Mo_laysHits rfl (by decide) (Nat.le_of_ble_eq_true rfl) rfl d_Mo_dearest_16 (CV.k h (fun σ2 h => (?_ : WM _ 19 _ _ _ _)))
    refine r_iconst d_Mo_dearest_19 (by decide) (?_ : WM _ 20 _ _ _ _)
    refine r_istore_n (ls' := [(1, vI (-1)), (0, vR 35)]) d_Mo_dearest_20 rfl (by decide) rfl (?_ : WM _ 21 _ _ _ _)
    refine r_iconst d_Mo_dearest_21 (by decide) (?_ : WM _ 22 _ _ _ _)
    refine r_istore_n (ls' := [(2, vI 0), (1, vI (-1)), (0, vR 35)]) d_Mo_dearest_22 rfl (by decide) rfl (?_ : WM _ 23 _ _ _ _)
    refine r_iconst d_Mo_dearest_23 (by decide) (?_ : WM _ 24 _ _ _ _)
    refine r_istore_n (ls' := [(3, vI 0), (2, vI 0), (1, vI (-1)), (0, vR 35)]) d_Mo_dearest_24 rfl (by decide) rfl (?_ : WM _ 25 _ _ _ _)
    refine r_pick (ls' := [(0, vR 35), (1, vI (-1)), (2, vI 0), (3, vI 0)]) [3, 2, 1, 0] rfl ?_
    exact h
  · replace h := h.2 c1
    refine r_bipush d_Mo_dearest_12 (by decide) (by decide) (?_ : WM _ 14 _ _ _ _)
    exact r_ireturn rfl d_Mo_dearest_14 h
set_option maxRecDepth 20000 in
theorem l_Mo_dearest_1 {K : Int → St → Prop} {σ : St} (x1 : Int) (x2 : Int) (x3 : Int) (h : ((σ 35 6) ≤ x3 → K x1 σ) ∧ (¬ (σ 35 6) ≤ x3 → CI M_Mo_isDrawn [vR 35, vI x3] σ (fun v6 σ5 => (v6 = 0 → (inR (x3 + 1)) ∧ WM M_Mo_dearest 25 [(0, vR 35), (1, vI x1), (2, vI x2), (3, vI (x3 + 1))] [] σ5 (QI K)) ∧ (¬ v6 = 0 → CI M_Mo_errorOf [vR 35, vI x3] σ5 (fun v10 σ9 => (0 < v10 → CI M_Mo_book [vR 35, vI x3] σ9 (fun v13 σ12 => CI M_Mo_boundIf [vR 35, vI x3, vI v13] σ12 (fun v15 σ14 => (x1 = (-1) → (inR (x3 + 1)) ∧ WM M_Mo_dearest 25 [(0, vR 35), (1, vI x3), (2, vI v15), (3, vI (x3 + 1))] [] σ14 (QI K)) ∧ (¬ x1 = (-1) → (v15 < x2 → (inR (x3 + 1)) ∧ WM M_Mo_dearest 25 [(0, vR 35), (1, vI x3), (2, vI v15), (3, vI (x3 + 1))] [] σ14 (QI K)) ∧ (¬ v15 < x2 → (inR (x3 + 1)) ∧ WM M_Mo_dearest 25 [(0, vR 35), (1, vI x1), (2, vI x2), (3, vI (x3 + 1))] [] σ14 (QI K)))))) ∧ (¬ 0 < v10 → (inR (x3 + 1)) ∧ WM M_Mo_dearest 25 [(0, vR 35), (1, vI x1), (2, vI x2), (3, vI (x3 + 1))] [] σ9 (QI K))))))) : WM M_Mo_dearest 25 [(0, vR 35), (1, vI x1), (2, vI x2), (3, vI x3)] [] σ (QI K) := by
  refine r_iload_n d_Mo_dearest_25 rfl (?_ : WM _ 26 _ _ _ _)
  refine r_aload_n d_Mo_dearest_26 rfl (?_ : WM _ 27 _ _ _ _)
  refine r_getI (k := 35) (j := 6) 6 (by decide) rfl clk_11 (by decide) (qm_5 (i := 42) rfl rfl) rfl rfl d_Mo_dearest_27 (y := (σ 35 6)) rfl (?_ : WM _ 30 _ _ _ _)
  refine r_icmp_ge 89 d_Mo_dearest_30 rfl ⟨fun c4 => (?_ : WM _ 89 _ _ _ _), fun c4 => (?_ : WM _ 33 _ _ _ _)⟩
  · replace h := h.1 c4
    refine r_iload_n d_Mo_dearest_89 rfl (?_ : WM _ 90 _ _ _ _)
    exact r_ireturn rfl d_Mo_dearest_90 h
  · replace h := h.2 c4
    refine r_aload_n d_Mo_dearest_33 rfl (?_ : WM _ 34 _ _ _ _)
    refine r_iload_n d_Mo_dearest_34 rfl (?_ : WM _ 35 _ _ _ _)
    refine r_callV (ν := M_Mo_isDrawn) (k := 35) [vI x3] ok_M_Mo_isDrawn okv_M_Mo_isDrawn (by decide) rfl rfl rfl (qm_6 (i := 133) rfl rfl) np_M_Mo_isDrawn rfl (by decide) (Nat.le_of_ble_eq_true rfl) rfl d_Mo_dearest_35 (CI.k h (fun v6 σ5 h => (?_ : WM _ 38 _ _ _ _)))
    refine r_if_eq 83 d_Mo_dearest_38 rfl ⟨fun c7 => (?_ : WM _ 83 _ _ _ _), fun c7 => (?_ : WM _ 41 _ _ _ _)⟩
    · replace h := h.1 c7
      obtain ⟨h8, h⟩ := h
      refine r_iinc (ls' := [(3, vI (x3 + 1)), (0, vR 35), (1, vI x1), (2, vI x2)]) d_Mo_dearest_83 rfl h8 (by decide) rfl (?_ : WM _ 86 _ _ _ _)
      refine r_goto 25 d_Mo_dearest_86 rfl ?_
      refine r_pick (ls' := [(0, vR 35), (1, vI x1), (2, vI x2), (3, vI (x3 + 1))]) [1, 2, 3, 0] rfl ?_
      exact h
    · replace h := h.2 c7
      refine r_aload_n d_Mo_dearest_41 rfl (?_ : WM _ 42 _ _ _ _)
      refine r_iload_n d_Mo_dearest_42 rfl (?_ : WM _ 43 _ _ _ _)
      refine r_callV (ν := M_Mo_errorOf) (k := 35) [vI x3] ok_M_Mo_errorOf okv_M_Mo_errorOf (by decide) rfl rfl rfl (qm_6 (i := 101) rfl rfl) np_M_Mo_errorOf rfl (by decide) (Nat.le_of_ble_eq_true rfl) rfl d_Mo_dearest_43 (CI.k h (fun v10 σ9 h => (?_ : WM _ 46 _ _ _ _)))
      refine r_if_gt 52 d_Mo_dearest_46 rfl ⟨fun c11 => (?_ : WM _ 52 _ _ _ _), fun c11 => (?_ : WM _ 49 _ _ _ _)⟩
      · replace h := h.1 c11
        refine r_aload_n d_Mo_dearest_52 rfl (?_ : WM _ 53 _ _ _ _)
        refine r_iload_n d_Mo_dearest_53 rfl (?_ : WM _ 54 _ _ _ _)
        refine r_aload_n d_Mo_dearest_54 rfl (?_ : WM _ 55 _ _ _ _)
        refine r_iload_n d_Mo_dearest_55 rfl (?_ : WM _ 56 _ _ _ _)
        refine r_callV (ν := M_Mo_book) (k := 35) [vI x3] ok_M_Mo_book okv_M_Mo_book (by decide) rfl rfl rfl (qm_5 (i := 234) rfl rfl) np_M_Mo_book rfl (by decide) (Nat.le_of_ble_eq_true rfl) rfl d_Mo_dearest_56 (CI.k h (fun v13 σ12 h => (?_ : WM _ 59 _ _ _ _)))
        refine r_callV (ν := M_Mo_boundIf) (k := 35) [vI x3, vI v13] ok_M_Mo_boundIf okv_M_Mo_boundIf (by decide) rfl rfl rfl (qm_6 (i := 235) rfl rfl) np_M_Mo_boundIf rfl (by decide) (Nat.le_of_ble_eq_true rfl) rfl d_Mo_dearest_59 (CI.k h (fun v15 σ14 h => (?_ : WM _ 62 _ _ _ _)))
        refine r_istore (ls' := [(4, vI v15), (0, vR 35), (1, vI x1), (2, vI x2), (3, vI x3)]) d_Mo_dearest_62 (by decide) rfl (?_ : WM _ 64 _ _ _ _)
        refine r_iload_n d_Mo_dearest_64 rfl (?_ : WM _ 65 _ _ _ _)
        refine r_iconst d_Mo_dearest_65 (by decide) (?_ : WM _ 66 _ _ _ _)
        refine r_icmp_eq 78 d_Mo_dearest_66 rfl ⟨fun c16 => (?_ : WM _ 78 _ _ _ _), fun c16 => (?_ : WM _ 69 _ _ _ _)⟩
        · replace h := h.1 c16
          refine r_iload_n d_Mo_dearest_78 rfl (?_ : WM _ 79 _ _ _ _)
          refine r_istore_n (ls' := [(1, vI x3), (4, vI v15), (0, vR 35), (2, vI x2), (3, vI x3)]) d_Mo_dearest_79 rfl (by decide) rfl (?_ : WM _ 80 _ _ _ _)
          refine r_iload d_Mo_dearest_80 rfl (?_ : WM _ 82 _ _ _ _)
          refine r_istore_n (ls' := [(2, vI v15), (1, vI x3), (4, vI v15), (0, vR 35), (3, vI x3)]) d_Mo_dearest_82 rfl (by decide) rfl (?_ : WM _ 83 _ _ _ _)
          obtain ⟨h17, h⟩ := h
          refine r_iinc (ls' := [(3, vI (x3 + 1)), (2, vI v15), (1, vI x3), (4, vI v15), (0, vR 35)]) d_Mo_dearest_83 rfl h17 (by decide) rfl (?_ : WM _ 86 _ _ _ _)
          refine r_goto 25 d_Mo_dearest_86 rfl ?_
          refine r_pick (ls' := [(0, vR 35), (1, vI x3), (2, vI v15), (3, vI (x3 + 1))]) [4, 2, 1, 0] rfl ?_
          exact h
        · replace h := h.2 c16
          refine r_iload d_Mo_dearest_69 rfl (?_ : WM _ 71 _ _ _ _)
          refine r_iload_n d_Mo_dearest_71 rfl (?_ : WM _ 72 _ _ _ _)
          refine r_icmp_lt 78 d_Mo_dearest_72 rfl ⟨fun c18 => (?_ : WM _ 78 _ _ _ _), fun c18 => (?_ : WM _ 75 _ _ _ _)⟩
          · replace h := h.1 c18
            refine r_iload_n d_Mo_dearest_78 rfl (?_ : WM _ 79 _ _ _ _)
            refine r_istore_n (ls' := [(1, vI x3), (4, vI v15), (0, vR 35), (2, vI x2), (3, vI x3)]) d_Mo_dearest_79 rfl (by decide) rfl (?_ : WM _ 80 _ _ _ _)
            refine r_iload d_Mo_dearest_80 rfl (?_ : WM _ 82 _ _ _ _)
            refine r_istore_n (ls' := [(2, vI v15), (1, vI x3), (4, vI v15), (0, vR 35), (3, vI x3)]) d_Mo_dearest_82 rfl (by decide) rfl (?_ : WM _ 83 _ _ _ _)
            obtain ⟨h19, h⟩ := h
            refine r_iinc (ls' := [(3, vI (x3 + 1)), (2, vI v15), (1, vI x3), (4, vI v15), (0, vR 35)]) d_Mo_dearest_83 rfl h19 (by decide) rfl (?_ : WM _ 86 _ _ _ _)
            refine r_goto 25 d_Mo_dearest_86 rfl ?_
            refine r_pick (ls' := [(0, vR 35), (1, vI x3), (2, vI v15), (3, vI (x3 + 1))]) [4, 2, 1, 0] rfl ?_
            exact h
          · replace h := h.2 c18
            refine r_goto 83 d_Mo_dearest_75 rfl ?_
            obtain ⟨h20, h⟩ := h
            refine r_iinc (ls' := [(3, vI (x3 + 1)), (4, vI v15), (0, vR 35), (1, vI x1), (2, vI x2)]) d_Mo_dearest_83 rfl h20 (by decide) rfl (?_ : WM _ 86 _ _ _ _)
            refine r_goto 25 d_Mo_dearest_86 rfl ?_
            refine r_pick (ls' := [(0, vR 35), (1, vI x1), (2, vI x2), (3, vI (x3 + 1))]) [2, 3, 4, 0] rfl ?_
            exact h
      · replace h := h.2 c11
        refine r_goto 83 d_Mo_dearest_49 rfl ?_
        obtain ⟨h21, h⟩ := h
        refine r_iinc (ls' := [(3, vI (x3 + 1)), (0, vR 35), (1, vI x1), (2, vI x2)]) d_Mo_dearest_83 rfl h21 (by decide) rfl (?_ : WM _ 86 _ _ _ _)
        refine r_goto 25 d_Mo_dearest_86 rfl ?_
        refine r_pick (ls' := [(0, vR 35), (1, vI x1), (2, vI x2), (3, vI (x3 + 1))]) [1, 2, 3, 0] rfl ?_
        exact h
set_option maxRecDepth 20000 in
theorem e_Mo_more {K : Int → St → Prop} {σ : St}  (h : (¬ (σ 35 10) = 0 → CV M_Mo_laysHits [vR 35] (ups σ 35 0 0) (fun σ2 => WM M_Mo_more 21 [(0, vR 35), (1, vI 0)] [] σ2 (QI K))) ∧ ((σ 35 10) = 0 → K (-5) (ups σ 35 0 0))) : CI M_Mo_more [vR 35] σ K := by
  refine Con.of ok_M_Mo_more (ls := [(0, vR 35)]) rfl (Nat.le_of_ble_eq_true rfl) ?_
  refine r_aload_n d_Mo_more_0 rfl (?_ : WM _ 1 _ _ _ _)
  refine r_iconst d_Mo_more_1 (by decide) (?_ : WM _ 2 _ _ _ _)
  refine r_put (k := 35) (j := 0) 0 (by decide) rfl clk_11 (by decide) (qm_5 (i := 36) rfl rfl) rfl rfl rfl tyX11_ok rfl nmX11 d_Mo_more_2 (?_ : WM _ 5 _ _ _ _)
  refine r_aload_n d_Mo_more_5 rfl (?_ : WM _ 6 _ _ _ _)
  refine r_getI (k := 35) (j := 10) 10 (by decide) rfl clk_11 (by decide) (qm_5 (i := 46) rfl rfl) rfl rfl d_Mo_more_6 (y := (σ 35 10)) (ups_f (by decide)) (?_ : WM _ 9 _ _ _ _)
  refine r_if_ne 15 d_Mo_more_9 rfl ⟨fun c1 => (?_ : WM _ 15 _ _ _ _), fun c1 => (?_ : WM _ 12 _ _ _ _)⟩
  · replace h := h.1 c1
    refine r_aload_n d_Mo_more_15 rfl (?_ : WM _ 16 _ _ _ _)
    refine r_callV (ν := M_Mo_laysHits) (k := 35) [] ok_M_Mo_laysHits okv_M_Mo_laysHits (by decide) rfl rfl rfl (qm_6 (i := 89) rfl rfl) np_M_Mo_laysHits rfl (by decide) (Nat.le_of_ble_eq_true rfl) rfl d_Mo_more_16 (CV.k h (fun σ2 h => (?_ : WM _ 19 _ _ _ _)))
    refine r_iconst d_Mo_more_19 (by decide) (?_ : WM _ 20 _ _ _ _)
    refine r_istore_n (ls' := [(1, vI 0), (0, vR 35)]) d_Mo_more_20 rfl (by decide) rfl (?_ : WM _ 21 _ _ _ _)
    refine r_pick (ls' := [(0, vR 35), (1, vI 0)]) [1, 0] rfl ?_
    exact h
  · replace h := h.2 c1
    refine r_bipush d_Mo_more_12 (by decide) (by decide) (?_ : WM _ 14 _ _ _ _)
    exact r_ireturn rfl d_Mo_more_14 h
set_option maxRecDepth 20000 in
theorem l_Mo_more_1 {K : Int → St → Prop} {σ : St} (x1 : Int) (h : (inR (x1 + (σ 35 10))) ∧ (5 < (x1 + (σ 35 10)) → K (-1) σ) ∧ (¬ 5 < (x1 + (σ 35 10)) → (0 ≤ (σ 35 20)) ∧ (0 < (σ 35 9)) ∧ (inR (x1 * ((σ 35 20) / (σ 35 9)))) ∧ (inR ((σ 35 25) + (x1 * ((σ 35 20) / (σ 35 9))))) ∧ CI M_Mo_boundBy [vR 35, vI 1, vI ((σ 35 25) + (x1 * ((σ 35 20) / (σ 35 9))))] σ (fun v11 σ10 => ((σ10 36 0) < v11 → (inR (x1 + 1)) ∧ WM M_Mo_more 21 [(0, vR 35), (1, vI (x1 + 1))] [] σ10 (QI K)) ∧ (¬ (σ10 36 0) < v11 → K x1 σ10)))) : WM M_Mo_more 21 [(0, vR 35), (1, vI x1)] [] σ (QI K) := by
  refine r_iload_n d_Mo_more_21 rfl (?_ : WM _ 22 _ _ _ _)
  refine r_aload_n d_Mo_more_22 rfl (?_ : WM _ 23 _ _ _ _)
  refine r_getI (k := 35) (j := 10) 10 (by decide) rfl clk_11 (by decide) (qm_5 (i := 46) rfl rfl) rfl rfl d_Mo_more_23 (y := (σ 35 10)) rfl (?_ : WM _ 26 _ _ _ _)
  obtain ⟨h4, h⟩ := h
  refine r_iadd d_Mo_more_26 h4 (?_ : WM _ 27 _ _ _ _)
  refine r_iconst d_Mo_more_27 (by decide) (?_ : WM _ 28 _ _ _ _)
  refine r_icmp_gt 69 d_Mo_more_28 rfl ⟨fun c5 => (?_ : WM _ 69 _ _ _ _), fun c5 => (?_ : WM _ 31 _ _ _ _)⟩
  · replace h := h.1 c5
    refine r_iconst d_Mo_more_69 (by decide) (?_ : WM _ 70 _ _ _ _)
    exact r_ireturn rfl d_Mo_more_70 h
  · replace h := h.2 c5
    refine r_aload_n d_Mo_more_31 rfl (?_ : WM _ 32 _ _ _ _)
    refine r_iconst d_Mo_more_32 (by decide) (?_ : WM _ 33 _ _ _ _)
    refine r_aload_n d_Mo_more_33 rfl (?_ : WM _ 34 _ _ _ _)
    refine r_getI (k := 35) (j := 25) 25 (by decide) rfl clk_11 (by decide) (qm_5 (i := 61) rfl rfl) rfl rfl d_Mo_more_34 (y := (σ 35 25)) rfl (?_ : WM _ 37 _ _ _ _)
    refine r_iload_n d_Mo_more_37 rfl (?_ : WM _ 38 _ _ _ _)
    refine r_aload_n d_Mo_more_38 rfl (?_ : WM _ 39 _ _ _ _)
    refine r_getI (k := 35) (j := 20) 20 (by decide) rfl clk_11 (by decide) (qm_5 (i := 56) rfl rfl) rfl rfl d_Mo_more_39 (y := (σ 35 20)) rfl (?_ : WM _ 42 _ _ _ _)
    refine r_aload_n d_Mo_more_42 rfl (?_ : WM _ 43 _ _ _ _)
    refine r_getI (k := 35) (j := 9) 9 (by decide) rfl clk_11 (by decide) (qm_5 (i := 45) rfl rfl) rfl rfl d_Mo_more_43 (y := (σ 35 9)) rfl (?_ : WM _ 46 _ _ _ _)
    obtain ⟨h6, h⟩ := h
    obtain ⟨h7, h⟩ := h
    refine r_idivn d_Mo_more_46 h6 h7 (?_ : WM _ 47 _ _ _ _)
    obtain ⟨h8, h⟩ := h
    refine r_imul d_Mo_more_47 h8 (?_ : WM _ 48 _ _ _ _)
    obtain ⟨h9, h⟩ := h
    refine r_iadd d_Mo_more_48 h9 (?_ : WM _ 49 _ _ _ _)
    refine r_callV (ν := M_Mo_boundBy) (k := 35) [vI 1, vI ((σ 35 25) + (x1 * ((σ 35 20) / (σ 35 9))))] ok_M_Mo_boundBy okv_M_Mo_boundBy (by decide) rfl rfl rfl (qm_6 (i := 218) rfl rfl) np_M_Mo_boundBy rfl (by decide) (Nat.le_of_ble_eq_true rfl) rfl d_Mo_more_49 (CI.k h (fun v11 σ10 h => (?_ : WM _ 52 _ _ _ _)))
    refine r_aload_n d_Mo_more_52 rfl (?_ : WM _ 53 _ _ _ _)
    refine r_getR (k := 35) (j := 1) (q := 36) (by decide) rfl clk_11 (by decide) (qm_5 (i := 37) rfl rfl) rfl d_Mo_more_53 (?_ : WM _ 56 _ _ _ _)
    refine r_iconst d_Mo_more_56 (by decide) (?_ : WM _ 57 _ _ _ _)
    refine r_iald (k := 36) (n := 5) (by decide) rfl d_Mo_more_57 (by decide) (by decide) (y := (σ10 36 0)) rfl (?_ : WM _ 58 _ _ _ _)
    refine r_icmp_gt 63 d_Mo_more_58 rfl ⟨fun c12 => (?_ : WM _ 63 _ _ _ _), fun c12 => (?_ : WM _ 61 _ _ _ _)⟩
    · replace h := h.1 c12
      obtain ⟨h13, h⟩ := h
      refine r_iinc (ls' := [(1, vI (x1 + 1)), (0, vR 35)]) d_Mo_more_63 rfl h13 (by decide) rfl (?_ : WM _ 66 _ _ _ _)
      refine r_goto 21 d_Mo_more_66 rfl ?_
      refine r_pick (ls' := [(0, vR 35), (1, vI (x1 + 1))]) [1, 0] rfl ?_
      exact h
    · replace h := h.2 c12
      refine r_iload_n d_Mo_more_61 rfl (?_ : WM _ 62 _ _ _ _)
      exact r_ireturn rfl d_Mo_more_62 h
set_option maxRecDepth 20000 in
theorem e_Mo_step {K : Int → St → Prop} {σ : St} (x1 : Int) (x2 : Int) (h : CI M_Mo_isIn [vL x1, vL 1, vL (σ 35 10)] (ups σ 35 0 0) (fun v2 σ1 => (v2 = 0 → K (-10000000) σ1) ∧ (¬ v2 = 0 → CI M_Mo_isIn [vL x2, vL 0, vL 3] σ1 (fun v5 σ4 => (¬ v5 = 0 → CV M_Mo_laysHits [vR 35] (ups σ4 35 10 x1) (fun σ7 => CI M_Mo_boundBy [vR 35, vI 1, vI (σ7 35 25)] σ7 (fun v10 σ9 => CI M_Mo_lackingNow [vR 35] σ9 (fun v12 σ11 => (x2 = 0 → K (σ11 35 25) (ups σ11 35 10 (σ4 35 10))) ∧ (x2 = 1 → K v10 (ups σ11 35 10 (σ4 35 10))) ∧ (x2 = 2 → ((σ11 36 0) < v10 → K 0 (ups σ11 35 10 (σ4 35 10))) ∧ (¬ (σ11 36 0) < v10 → K 1 (ups σ11 35 10 (σ4 35 10)))) ∧ (x2 < 0 ∨ 2 < x2 → K v12 (ups σ11 35 10 (σ4 35 10))))))) ∧ (v5 = 0 → K (-10000000) σ4))))) : CI M_Mo_step [vR 35, vI x1, vI x2] σ K := by
  refine Con.of ok_M_Mo_step (ls := [(0, vR 35), (1, vI x1), (2, vI x2)]) rfl (Nat.le_of_ble_eq_true rfl) ?_
  refine r_aload_n d_Mo_step_0 rfl (?_ : WM _ 1 _ _ _ _)
  refine r_iconst d_Mo_step_1 (by decide) (?_ : WM _ 2 _ _ _ _)
  refine r_put (k := 35) (j := 0) 0 (by decide) rfl clk_11 (by decide) (qm_5 (i := 36) rfl rfl) rfl rfl rfl tyX11_ok rfl nmX11 d_Mo_step_2 (?_ : WM _ 5 _ _ _ _)
  refine r_iload_n d_Mo_step_5 rfl (?_ : WM _ 6 _ _ _ _)
  refine r_i2l d_Mo_step_6 (?_ : WM _ 7 _ _ _ _)
  refine r_lconst 1 d_Mo_step_7 rfl (by decide) (?_ : WM _ 8 _ _ _ _)
  refine r_aload_n d_Mo_step_8 rfl (?_ : WM _ 9 _ _ _ _)
  refine r_getI (k := 35) (j := 10) 10 (by decide) rfl clk_11 (by decide) (qm_5 (i := 46) rfl rfl) rfl rfl d_Mo_step_9 (y := (σ 35 10)) (ups_f (by decide)) (?_ : WM _ 12 _ _ _ _)
  refine r_i2l d_Mo_step_12 (?_ : WM _ 13 _ _ _ _)
  refine r_callS (ν := M_Mo_isIn) [vL x1, vL 1, vL (σ 35 10)] ok_M_Mo_isIn oks_M_Mo_isIn (qm_5 (i := 153) rfl rfl) np_M_Mo_isIn rfl (by decide) (Nat.le_of_ble_eq_true rfl) rfl d_Mo_step_13 (CI.k h (fun v2 σ1 h => (?_ : WM _ 16 _ _ _ _)))
  refine r_if_eq 31 d_Mo_step_16 rfl ⟨fun c3 => (?_ : WM _ 31 _ _ _ _), fun c3 => (?_ : WM _ 19 _ _ _ _)⟩
  · replace h := h.1 c3
    refine r_ldc (-10000000) d_Mo_step_31 (qm_5 (i := 233) rfl rfl) (by decide) (by decide) (?_ : WM _ 33 _ _ _ _)
    exact r_ireturn rfl d_Mo_step_33 h
  · replace h := h.2 c3
    refine r_iload_n d_Mo_step_19 rfl (?_ : WM _ 20 _ _ _ _)
    refine r_i2l d_Mo_step_20 (?_ : WM _ 21 _ _ _ _)
    refine r_lconst 0 d_Mo_step_21 rfl (by decide) (?_ : WM _ 22 _ _ _ _)
    refine r_ldc2 3 d_Mo_step_22 (qm_6 (i := 226) rfl rfl) (by decide) (by decide) (?_ : WM _ 25 _ _ _ _)
    refine r_callS (ν := M_Mo_isIn) [vL x2, vL 0, vL 3] ok_M_Mo_isIn oks_M_Mo_isIn (qm_5 (i := 153) rfl rfl) np_M_Mo_isIn rfl (by decide) (Nat.le_of_ble_eq_true rfl) rfl d_Mo_step_25 (CI.k h (fun v5 σ4 h => (?_ : WM _ 28 _ _ _ _)))
    refine r_if_ne 34 d_Mo_step_28 rfl ⟨fun c6 => (?_ : WM _ 34 _ _ _ _), fun c6 => (?_ : WM _ 31 _ _ _ _)⟩
    · replace h := h.1 c6
      refine r_aload_n d_Mo_step_34 rfl (?_ : WM _ 35 _ _ _ _)
      refine r_getI (k := 35) (j := 10) 10 (by decide) rfl clk_11 (by decide) (qm_5 (i := 46) rfl rfl) rfl rfl d_Mo_step_35 (y := (σ4 35 10)) rfl (?_ : WM _ 38 _ _ _ _)
      refine r_istore_n (ls' := [(3, vI (σ4 35 10)), (0, vR 35), (1, vI x1), (2, vI x2)]) d_Mo_step_38 rfl (by decide) rfl (?_ : WM _ 39 _ _ _ _)
      refine r_aload_n d_Mo_step_39 rfl (?_ : WM _ 40 _ _ _ _)
      refine r_iload_n d_Mo_step_40 rfl (?_ : WM _ 41 _ _ _ _)
      refine r_put (k := 35) (j := 10) 10 (by decide) rfl clk_11 (by decide) (qm_5 (i := 46) rfl rfl) rfl rfl rfl tyX11_ok rfl nmX11 d_Mo_step_41 (?_ : WM _ 44 _ _ _ _)
      refine r_aload_n d_Mo_step_44 rfl (?_ : WM _ 45 _ _ _ _)
      refine r_callV (ν := M_Mo_laysHits) (k := 35) [] ok_M_Mo_laysHits okv_M_Mo_laysHits (by decide) rfl rfl rfl (qm_6 (i := 89) rfl rfl) np_M_Mo_laysHits rfl (by decide) (Nat.le_of_ble_eq_true rfl) rfl d_Mo_step_45 (CV.k h (fun σ7 h => (?_ : WM _ 48 _ _ _ _)))
      refine r_aload_n d_Mo_step_48 rfl (?_ : WM _ 49 _ _ _ _)
      refine r_iconst d_Mo_step_49 (by decide) (?_ : WM _ 50 _ _ _ _)
      refine r_aload_n d_Mo_step_50 rfl (?_ : WM _ 51 _ _ _ _)
      refine r_getI (k := 35) (j := 25) 25 (by decide) rfl clk_11 (by decide) (qm_5 (i := 61) rfl rfl) rfl rfl d_Mo_step_51 (y := (σ7 35 25)) rfl (?_ : WM _ 54 _ _ _ _)
      refine r_callV (ν := M_Mo_boundBy) (k := 35) [vI 1, vI (σ7 35 25)] ok_M_Mo_boundBy okv_M_Mo_boundBy (by decide) rfl rfl rfl (qm_6 (i := 218) rfl rfl) np_M_Mo_boundBy rfl (by decide) (Nat.le_of_ble_eq_true rfl) rfl d_Mo_step_54 (CI.k h (fun v10 σ9 h => (?_ : WM _ 57 _ _ _ _)))
      refine r_istore (ls' := [(4, vI v10), (3, vI (σ4 35 10)), (0, vR 35), (1, vI x1), (2, vI x2)]) d_Mo_step_57 (by decide) rfl (?_ : WM _ 59 _ _ _ _)
      refine r_aload_n d_Mo_step_59 rfl (?_ : WM _ 60 _ _ _ _)
      refine r_callV (ν := M_Mo_lackingNow) (k := 35) [] ok_M_Mo_lackingNow okv_M_Mo_lackingNow (by decide) rfl rfl rfl (qm_7 (i := 11) rfl rfl) np_M_Mo_lackingNow rfl (by decide) (Nat.le_of_ble_eq_true rfl) rfl d_Mo_step_60 (CI.k h (fun v12 σ11 h => (?_ : WM _ 63 _ _ _ _)))
      refine r_istore (ls' := [(5, vI v12), (4, vI v10), (3, vI (σ4 35 10)), (0, vR 35), (1, vI x1), (2, vI x2)]) d_Mo_step_63 (by decide) rfl (?_ : WM _ 65 _ _ _ _)
      refine r_aload_n d_Mo_step_65 rfl (?_ : WM _ 66 _ _ _ _)
      refine r_iload_n d_Mo_step_66 rfl (?_ : WM _ 67 _ _ _ _)
      refine r_put (k := 35) (j := 10) 10 (by decide) rfl clk_11 (by decide) (qm_5 (i := 46) rfl rfl) rfl rfl rfl tyX11_ok rfl nmX11 d_Mo_step_67 (?_ : WM _ 70 _ _ _ _)
      refine r_iload_n d_Mo_step_70 rfl (?_ : WM _ 71 _ _ _ _)
      have hsw : (x2 = 0) ∨ (x2 = 1) ∨ (x2 = 2) ∨ (x2 < 0 ∨ 2 < x2) := by omega
      rcases hsw with hc | hc | hc | hc
      · replace h := h.1 hc
        refine r_tswIn 96 d_Mo_step_71 (by omega) (by omega) (by rw [hc]; rfl) rfl ?_
        refine r_aload_n d_Mo_step_96 rfl (?_ : WM _ 97 _ _ _ _)
        refine r_getI (k := 35) (j := 25) 25 (by decide) rfl clk_11 (by decide) (qm_5 (i := 61) rfl rfl) rfl rfl d_Mo_step_97 (y := (σ11 35 25)) (ups_f (by decide)) (?_ : WM _ 100 _ _ _ _)
        exact r_ireturn rfl d_Mo_step_100 h
      · replace h := h.2.1 hc
        refine r_tswIn 101 d_Mo_step_71 (by omega) (by omega) (by rw [hc]; rfl) rfl ?_
        refine r_iload d_Mo_step_101 rfl (?_ : WM _ 103 _ _ _ _)
        exact r_ireturn rfl d_Mo_step_103 h
      · replace h := h.2.2.1 hc
        refine r_tswIn 104 d_Mo_step_71 (by omega) (by omega) (by rw [hc]; rfl) rfl ?_
        refine r_iload d_Mo_step_104 rfl (?_ : WM _ 106 _ _ _ _)
        refine r_aload_n d_Mo_step_106 rfl (?_ : WM _ 107 _ _ _ _)
        refine r_getR (k := 35) (j := 1) (q := 36) (by decide) rfl clk_11 (by decide) (qm_5 (i := 37) rfl rfl) rfl d_Mo_step_107 (?_ : WM _ 110 _ _ _ _)
        refine r_iconst d_Mo_step_110 (by decide) (?_ : WM _ 111 _ _ _ _)
        refine r_iald (k := 36) (n := 5) (by decide) rfl d_Mo_step_111 (by decide) (by decide) (y := (σ11 36 0)) (ups_c (by decide)) (?_ : WM _ 112 _ _ _ _)
        refine r_icmp_gt 119 d_Mo_step_112 rfl ⟨fun c13 => (?_ : WM _ 119 _ _ _ _), fun c13 => (?_ : WM _ 115 _ _ _ _)⟩
        · replace h := h.1 c13
          refine r_iconst d_Mo_step_119 (by decide) (?_ : WM _ 120 _ _ _ _)
          exact r_ireturn rfl d_Mo_step_120 h
        · replace h := h.2 c13
          refine r_iconst d_Mo_step_115 (by decide) (?_ : WM _ 116 _ _ _ _)
          refine r_goto 120 d_Mo_step_116 rfl ?_
          exact r_ireturn rfl d_Mo_step_120 h
      · replace h := h.2.2.2 hc
        refine r_tswOut 121 d_Mo_step_71 hc rfl ?_
        refine r_iload d_Mo_step_121 rfl (?_ : WM _ 123 _ _ _ _)
        exact r_ireturn rfl d_Mo_step_123 h
    · replace h := h.2 c6
      refine r_ldc (-10000000) d_Mo_step_31 (qm_5 (i := 233) rfl rfl) (by decide) (by decide) (?_ : WM _ 33 _ _ _ _)
      exact r_ireturn rfl d_Mo_step_33 h
set_option maxRecDepth 20000 in
theorem e_Mo_risky {K : Int → St → Prop} {σ : St}  (h : (¬ (σ 35 10) = 0 → CV M_Mo_laysHits [vR 35] (ups σ 35 0 0) (fun σ2 => WM M_Mo_risky 32 [(0, vR 35), (1, vI (σ2 36 1)), (2, vI 0), (3, vI 501)] [] σ2 (QI K))) ∧ ((σ 35 10) = 0 → K (-5) (ups σ 35 0 0))) : CI M_Mo_risky [vR 35] σ K := by
  refine Con.of ok_M_Mo_risky (ls := [(0, vR 35)]) rfl (Nat.le_of_ble_eq_true rfl) ?_
  refine r_aload_n d_Mo_risky_0 rfl (?_ : WM _ 1 _ _ _ _)
  refine r_iconst d_Mo_risky_1 (by decide) (?_ : WM _ 2 _ _ _ _)
  refine r_put (k := 35) (j := 0) 0 (by decide) rfl clk_11 (by decide) (qm_5 (i := 36) rfl rfl) rfl rfl rfl tyX11_ok rfl nmX11 d_Mo_risky_2 (?_ : WM _ 5 _ _ _ _)
  refine r_aload_n d_Mo_risky_5 rfl (?_ : WM _ 6 _ _ _ _)
  refine r_getI (k := 35) (j := 10) 10 (by decide) rfl clk_11 (by decide) (qm_5 (i := 46) rfl rfl) rfl rfl d_Mo_risky_6 (y := (σ 35 10)) (ups_f (by decide)) (?_ : WM _ 9 _ _ _ _)
  refine r_if_ne 15 d_Mo_risky_9 rfl ⟨fun c1 => (?_ : WM _ 15 _ _ _ _), fun c1 => (?_ : WM _ 12 _ _ _ _)⟩
  · replace h := h.1 c1
    refine r_aload_n d_Mo_risky_15 rfl (?_ : WM _ 16 _ _ _ _)
    refine r_callV (ν := M_Mo_laysHits) (k := 35) [] ok_M_Mo_laysHits okv_M_Mo_laysHits (by decide) rfl rfl rfl (qm_6 (i := 89) rfl rfl) np_M_Mo_laysHits rfl (by decide) (Nat.le_of_ble_eq_true rfl) rfl d_Mo_risky_16 (CV.k h (fun σ2 h => (?_ : WM _ 19 _ _ _ _)))
    refine r_aload_n d_Mo_risky_19 rfl (?_ : WM _ 20 _ _ _ _)
    refine r_getR (k := 35) (j := 1) (q := 36) (by decide) rfl clk_11 (by decide) (qm_5 (i := 37) rfl rfl) rfl d_Mo_risky_20 (?_ : WM _ 23 _ _ _ _)
    refine r_iconst d_Mo_risky_23 (by decide) (?_ : WM _ 24 _ _ _ _)
    refine r_iald (k := 36) (n := 5) (by decide) rfl d_Mo_risky_24 (by decide) (by decide) (y := (σ2 36 1)) rfl (?_ : WM _ 25 _ _ _ _)
    refine r_istore_n (ls' := [(1, vI (σ2 36 1)), (0, vR 35)]) d_Mo_risky_25 rfl (by decide) rfl (?_ : WM _ 26 _ _ _ _)
    refine r_iconst d_Mo_risky_26 (by decide) (?_ : WM _ 27 _ _ _ _)
    refine r_istore_n (ls' := [(2, vI 0), (1, vI (σ2 36 1)), (0, vR 35)]) d_Mo_risky_27 rfl (by decide) rfl (?_ : WM _ 28 _ _ _ _)
    refine r_sipush d_Mo_risky_28 (by decide) (by decide) (?_ : WM _ 31 _ _ _ _)
    refine r_istore_n (ls' := [(3, vI 501), (2, vI 0), (1, vI (σ2 36 1)), (0, vR 35)]) d_Mo_risky_31 rfl (by decide) rfl (?_ : WM _ 32 _ _ _ _)
    refine r_pick (ls' := [(0, vR 35), (1, vI (σ2 36 1)), (2, vI 0), (3, vI 501)]) [3, 2, 1, 0] rfl ?_
    exact h
  · replace h := h.2 c1
    refine r_bipush d_Mo_risky_12 (by decide) (by decide) (?_ : WM _ 14 _ _ _ _)
    exact r_ireturn rfl d_Mo_risky_14 h
set_option maxRecDepth 20000 in
theorem l_Mo_risky_1 {K : Int → St → Prop} {σ : St} (x1 : Int) (x2 : Int) (x3 : Int) (h : (inR (x3 - x2)) ∧ ((x3 - x2) ≤ 1 → (¬ x3 = 501 → K x3 (ups σ 36 1 x1)) ∧ (x3 = 501 → K (-1) (ups σ 36 1 x1))) ∧ (¬ (x3 - x2) ≤ 1 → (inR (x2 + x3)) ∧ (0 ≤ (x2 + x3)) ∧ CI M_Mo_boundBy [vR 35, vI 1, vI (σ 35 25)] (ups σ 36 1 ((x2 + x3) / 2)) (fun v10 σ9 => ((σ9 36 0) < v10 → WM M_Mo_risky 32 [(0, vR 35), (1, vI x1), (2, vI (σ9 36 1)), (3, vI x3)] [] σ9 (QI K)) ∧ (¬ (σ9 36 0) < v10 → WM M_Mo_risky 32 [(0, vR 35), (1, vI x1), (2, vI x2), (3, vI (σ9 36 1))] [] σ9 (QI K))))) : WM M_Mo_risky 32 [(0, vR 35), (1, vI x1), (2, vI x2), (3, vI x3)] [] σ (QI K) := by
  refine r_iload_n d_Mo_risky_32 rfl (?_ : WM _ 33 _ _ _ _)
  refine r_iload_n d_Mo_risky_33 rfl (?_ : WM _ 34 _ _ _ _)
  obtain ⟨h4, h⟩ := h
  refine r_isub d_Mo_risky_34 h4 (?_ : WM _ 35 _ _ _ _)
  refine r_iconst d_Mo_risky_35 (by decide) (?_ : WM _ 36 _ _ _ _)
  refine r_icmp_le 88 d_Mo_risky_36 rfl ⟨fun c5 => (?_ : WM _ 88 _ _ _ _), fun c5 => (?_ : WM _ 39 _ _ _ _)⟩
  · replace h := h.1 c5
    refine r_aload_n d_Mo_risky_88 rfl (?_ : WM _ 89 _ _ _ _)
    refine r_getR (k := 35) (j := 1) (q := 36) (by decide) rfl clk_11 (by decide) (qm_5 (i := 37) rfl rfl) rfl d_Mo_risky_89 (?_ : WM _ 92 _ _ _ _)
    refine r_iconst d_Mo_risky_92 (by decide) (?_ : WM _ 93 _ _ _ _)
    refine r_iload_n d_Mo_risky_93 rfl (?_ : WM _ 94 _ _ _ _)
    refine r_iast (k := 36) (n := 5) (by decide) rfl d_Mo_risky_94 (by decide) (by decide) (?_ : WM _ 95 _ _ _ _)
    refine r_iload_n d_Mo_risky_95 rfl (?_ : WM _ 96 _ _ _ _)
    refine r_sipush d_Mo_risky_96 (by decide) (by decide) (?_ : WM _ 99 _ _ _ _)
    refine r_icmp_ne 106 d_Mo_risky_99 rfl ⟨fun c6 => (?_ : WM _ 106 _ _ _ _), fun c6 => (?_ : WM _ 102 _ _ _ _)⟩
    · replace h := h.1 c6
      refine r_iload_n d_Mo_risky_106 rfl (?_ : WM _ 107 _ _ _ _)
      exact r_ireturn rfl d_Mo_risky_107 h
    · replace h := h.2 c6
      refine r_iconst d_Mo_risky_102 (by decide) (?_ : WM _ 103 _ _ _ _)
      refine r_goto 107 d_Mo_risky_103 rfl ?_
      exact r_ireturn rfl d_Mo_risky_107 h
  · replace h := h.2 c5
    refine r_aload_n d_Mo_risky_39 rfl (?_ : WM _ 40 _ _ _ _)
    refine r_getR (k := 35) (j := 1) (q := 36) (by decide) rfl clk_11 (by decide) (qm_5 (i := 37) rfl rfl) rfl d_Mo_risky_40 (?_ : WM _ 43 _ _ _ _)
    refine r_iconst d_Mo_risky_43 (by decide) (?_ : WM _ 44 _ _ _ _)
    refine r_iload_n d_Mo_risky_44 rfl (?_ : WM _ 45 _ _ _ _)
    refine r_iload_n d_Mo_risky_45 rfl (?_ : WM _ 46 _ _ _ _)
    obtain ⟨h7, h⟩ := h
    refine r_iadd d_Mo_risky_46 h7 (?_ : WM _ 47 _ _ _ _)
    refine r_iconst d_Mo_risky_47 (by decide) (?_ : WM _ 48 _ _ _ _)
    obtain ⟨h8, h⟩ := h
    refine r_idivn d_Mo_risky_48 h8 (by decide) (?_ : WM _ 49 _ _ _ _)
    refine r_iast (k := 36) (n := 5) (by decide) rfl d_Mo_risky_49 (by decide) (by decide) (?_ : WM _ 50 _ _ _ _)
    refine r_aload_n d_Mo_risky_50 rfl (?_ : WM _ 51 _ _ _ _)
    refine r_iconst d_Mo_risky_51 (by decide) (?_ : WM _ 52 _ _ _ _)
    refine r_aload_n d_Mo_risky_52 rfl (?_ : WM _ 53 _ _ _ _)
    refine r_getI (k := 35) (j := 25) 25 (by decide) rfl clk_11 (by decide) (qm_5 (i := 61) rfl rfl) rfl rfl d_Mo_risky_53 (y := (σ 35 25)) (ups_c (by decide)) (?_ : WM _ 56 _ _ _ _)
    refine r_callV (ν := M_Mo_boundBy) (k := 35) [vI 1, vI (σ 35 25)] ok_M_Mo_boundBy okv_M_Mo_boundBy (by decide) rfl rfl rfl (qm_6 (i := 218) rfl rfl) np_M_Mo_boundBy rfl (by decide) (Nat.le_of_ble_eq_true rfl) rfl d_Mo_risky_56 (CI.k h (fun v10 σ9 h => (?_ : WM _ 59 _ _ _ _)))
    refine r_aload_n d_Mo_risky_59 rfl (?_ : WM _ 60 _ _ _ _)
    refine r_getR (k := 35) (j := 1) (q := 36) (by decide) rfl clk_11 (by decide) (qm_5 (i := 37) rfl rfl) rfl d_Mo_risky_60 (?_ : WM _ 63 _ _ _ _)
    refine r_iconst d_Mo_risky_63 (by decide) (?_ : WM _ 64 _ _ _ _)
    refine r_iald (k := 36) (n := 5) (by decide) rfl d_Mo_risky_64 (by decide) (by decide) (y := (σ9 36 0)) rfl (?_ : WM _ 65 _ _ _ _)
    refine r_icmp_gt 78 d_Mo_risky_65 rfl ⟨fun c11 => (?_ : WM _ 78 _ _ _ _), fun c11 => (?_ : WM _ 68 _ _ _ _)⟩
    · replace h := h.1 c11
      refine r_aload_n d_Mo_risky_78 rfl (?_ : WM _ 79 _ _ _ _)
      refine r_getR (k := 35) (j := 1) (q := 36) (by decide) rfl clk_11 (by decide) (qm_5 (i := 37) rfl rfl) rfl d_Mo_risky_79 (?_ : WM _ 82 _ _ _ _)
      refine r_iconst d_Mo_risky_82 (by decide) (?_ : WM _ 83 _ _ _ _)
      refine r_iald (k := 36) (n := 5) (by decide) rfl d_Mo_risky_83 (by decide) (by decide) (y := (σ9 36 1)) rfl (?_ : WM _ 84 _ _ _ _)
      refine r_istore_n (ls' := [(2, vI (σ9 36 1)), (0, vR 35), (1, vI x1), (3, vI x3)]) d_Mo_risky_84 rfl (by decide) rfl (?_ : WM _ 85 _ _ _ _)
      refine r_goto 32 d_Mo_risky_85 rfl ?_
      refine r_pick (ls' := [(0, vR 35), (1, vI x1), (2, vI (σ9 36 1)), (3, vI x3)]) [1, 2, 0, 3] rfl ?_
      exact h
    · replace h := h.2 c11
      refine r_aload_n d_Mo_risky_68 rfl (?_ : WM _ 69 _ _ _ _)
      refine r_getR (k := 35) (j := 1) (q := 36) (by decide) rfl clk_11 (by decide) (qm_5 (i := 37) rfl rfl) rfl d_Mo_risky_69 (?_ : WM _ 72 _ _ _ _)
      refine r_iconst d_Mo_risky_72 (by decide) (?_ : WM _ 73 _ _ _ _)
      refine r_iald (k := 36) (n := 5) (by decide) rfl d_Mo_risky_73 (by decide) (by decide) (y := (σ9 36 1)) rfl (?_ : WM _ 74 _ _ _ _)
      refine r_istore_n (ls' := [(3, vI (σ9 36 1)), (0, vR 35), (1, vI x1), (2, vI x2)]) d_Mo_risky_74 rfl (by decide) rfl (?_ : WM _ 75 _ _ _ _)
      refine r_goto 32 d_Mo_risky_75 rfl ?_
      refine r_pick (ls' := [(0, vR 35), (1, vI x1), (2, vI x2), (3, vI (σ9 36 1))]) [1, 2, 3, 0] rfl ?_
      exact h
set_option maxRecDepth 20000 in
theorem e_Mo_sizes {K : Int → St → Prop} {σ : St} (x1 : Int) (h : CI M_Mo_isIn [vL x1, vL 0, vL 9] (ups σ 35 0 0) (fun v2 σ1 => (¬ v2 = 0 → CI M_Mo_allCoins [vR 35] σ1 (fun v5 σ4 => (¬ v5 = 0 → CI M_Mo_sizeBy [vR 35, vI (σ4 36 0), vI x1] σ4 (fun v8 σ7 => K v8 σ7)) ∧ (v5 = 0 → K (-5) σ4))) ∧ (v2 = 0 → K (-3) σ1))) : CI M_Mo_sizes [vR 35, vI x1] σ K := by
  refine Con.of ok_M_Mo_sizes (ls := [(0, vR 35), (1, vI x1)]) rfl (Nat.le_of_ble_eq_true rfl) ?_
  refine r_aload_n d_Mo_sizes_0 rfl (?_ : WM _ 1 _ _ _ _)
  refine r_iconst d_Mo_sizes_1 (by decide) (?_ : WM _ 2 _ _ _ _)
  refine r_put (k := 35) (j := 0) 0 (by decide) rfl clk_11 (by decide) (qm_5 (i := 36) rfl rfl) rfl rfl rfl tyX11_ok rfl nmX11 d_Mo_sizes_2 (?_ : WM _ 5 _ _ _ _)
  refine r_iload_n d_Mo_sizes_5 rfl (?_ : WM _ 6 _ _ _ _)
  refine r_i2l d_Mo_sizes_6 (?_ : WM _ 7 _ _ _ _)
  refine r_lconst 0 d_Mo_sizes_7 rfl (by decide) (?_ : WM _ 8 _ _ _ _)
  refine r_ldc2 9 d_Mo_sizes_8 (qm_7 (i := 23) rfl rfl) (by decide) (by decide) (?_ : WM _ 11 _ _ _ _)
  refine r_callS (ν := M_Mo_isIn) [vL x1, vL 0, vL 9] ok_M_Mo_isIn oks_M_Mo_isIn (qm_5 (i := 153) rfl rfl) np_M_Mo_isIn rfl (by decide) (Nat.le_of_ble_eq_true rfl) rfl d_Mo_sizes_11 (CI.k h (fun v2 σ1 h => (?_ : WM _ 14 _ _ _ _)))
  refine r_if_ne 20 d_Mo_sizes_14 rfl ⟨fun c3 => (?_ : WM _ 20 _ _ _ _), fun c3 => (?_ : WM _ 17 _ _ _ _)⟩
  · replace h := h.1 c3
    refine r_aload_n d_Mo_sizes_20 rfl (?_ : WM _ 21 _ _ _ _)
    refine r_callV (ν := M_Mo_allCoins) (k := 35) [] ok_M_Mo_allCoins okv_M_Mo_allCoins (by decide) rfl rfl rfl (qm_6 (i := 42) rfl rfl) np_M_Mo_allCoins rfl (by decide) (Nat.le_of_ble_eq_true rfl) rfl d_Mo_sizes_21 (CI.k h (fun v5 σ4 h => (?_ : WM _ 24 _ _ _ _)))
    refine r_if_ne 32 d_Mo_sizes_24 rfl ⟨fun c6 => (?_ : WM _ 32 _ _ _ _), fun c6 => (?_ : WM _ 27 _ _ _ _)⟩
    · replace h := h.1 c6
      refine r_aload_n d_Mo_sizes_32 rfl (?_ : WM _ 33 _ _ _ _)
      refine r_aload_n d_Mo_sizes_33 rfl (?_ : WM _ 34 _ _ _ _)
      refine r_getR (k := 35) (j := 1) (q := 36) (by decide) rfl clk_11 (by decide) (qm_5 (i := 37) rfl rfl) rfl d_Mo_sizes_34 (?_ : WM _ 37 _ _ _ _)
      refine r_iconst d_Mo_sizes_37 (by decide) (?_ : WM _ 38 _ _ _ _)
      refine r_iald (k := 36) (n := 5) (by decide) rfl d_Mo_sizes_38 (by decide) (by decide) (y := (σ4 36 0)) rfl (?_ : WM _ 39 _ _ _ _)
      refine r_iload_n d_Mo_sizes_39 rfl (?_ : WM _ 40 _ _ _ _)
      refine r_callV (ν := M_Mo_sizeBy) (k := 35) [vI (σ4 36 0), vI x1] ok_M_Mo_sizeBy okv_M_Mo_sizeBy (by decide) rfl rfl rfl (qm_6 (i := 38) rfl rfl) np_M_Mo_sizeBy rfl (by decide) (Nat.le_of_ble_eq_true rfl) rfl d_Mo_sizes_40 (CI.k h (fun v8 σ7 h => (?_ : WM _ 43 _ _ _ _)))
      exact r_ireturn rfl d_Mo_sizes_43 h
    · replace h := h.2 c6
      refine r_bipush d_Mo_sizes_27 (by decide) (by decide) (?_ : WM _ 29 _ _ _ _)
      refine r_goto 43 d_Mo_sizes_29 rfl ?_
      exact r_ireturn rfl d_Mo_sizes_43 h
  · replace h := h.2 c3
    refine r_bipush d_Mo_sizes_17 (by decide) (by decide) (?_ : WM _ 19 _ _ _ _)
    exact r_ireturn rfl d_Mo_sizes_19 h
set_option maxRecDepth 20000 in
theorem e_Mo_trial {K : Int → St → Prop} {σ : St} (x1 : Int) (x2 : Int) (h : CI M_Mo_isIn [vL x2, vL 0, vL 3] (ups σ 35 0 0) (fun v2 σ1 => (¬ v2 = 0 → (¬ (σ1 35 9) = 0 → CI M_Mo_isIn [vL x1, vL 1, vL (σ1 35 9)] σ1 (fun v6 σ5 => (¬ v6 = 0 → CV M_Mo_laysRest [vR 35, vI (σ5 35 9)] σ5 (fun σ8 => (¬ x2 = 3 → WM M_Mo_trial 96 [(0, vR 35), (1, vI x1), (2, vI x2), (3, vI 0), (4, vI 0)] [] σ8 (QI K)) ∧ (x2 = 3 → (x1 ≤ (σ8 35 20) → (inR ((σ8 35 20) - x1)) ∧ (0 ≤ ((σ8 35 20) - x1)) ∧ (0 < (σ8 35 9)) ∧ (inR ((((σ8 35 20) - x1) / (σ8 35 9)) * (σ8 35 9))) ∧ (inR (x1 + ((((σ8 35 20) - x1) / (σ8 35 9)) * (σ8 35 9)))) ∧ K (x1 + ((((σ8 35 20) - x1) / (σ8 35 9)) * (σ8 35 9))) σ8) ∧ (¬ x1 ≤ (σ8 35 20) → K 0 σ8)))) ∧ (v6 = 0 → K (-3) σ5))) ∧ ((σ1 35 9) = 0 → K (-5) σ1)) ∧ (v2 = 0 → K (-2) σ1))) : CI M_Mo_trial [vR 35, vI x1, vI x2] σ K := by
  refine Con.of ok_M_Mo_trial (ls := [(0, vR 35), (1, vI x1), (2, vI x2)]) rfl (Nat.le_of_ble_eq_true rfl) ?_
  refine r_aload_n d_Mo_trial_0 rfl (?_ : WM _ 1 _ _ _ _)
  refine r_iconst d_Mo_trial_1 (by decide) (?_ : WM _ 2 _ _ _ _)
  refine r_put (k := 35) (j := 0) 0 (by decide) rfl clk_11 (by decide) (qm_5 (i := 36) rfl rfl) rfl rfl rfl tyX11_ok rfl nmX11 d_Mo_trial_2 (?_ : WM _ 5 _ _ _ _)
  refine r_iload_n d_Mo_trial_5 rfl (?_ : WM _ 6 _ _ _ _)
  refine r_i2l d_Mo_trial_6 (?_ : WM _ 7 _ _ _ _)
  refine r_lconst 0 d_Mo_trial_7 rfl (by decide) (?_ : WM _ 8 _ _ _ _)
  refine r_ldc2 3 d_Mo_trial_8 (qm_6 (i := 226) rfl rfl) (by decide) (by decide) (?_ : WM _ 11 _ _ _ _)
  refine r_callS (ν := M_Mo_isIn) [vL x2, vL 0, vL 3] ok_M_Mo_isIn oks_M_Mo_isIn (qm_5 (i := 153) rfl rfl) np_M_Mo_isIn rfl (by decide) (Nat.le_of_ble_eq_true rfl) rfl d_Mo_trial_11 (CI.k h (fun v2 σ1 h => (?_ : WM _ 14 _ _ _ _)))
  refine r_if_ne 20 d_Mo_trial_14 rfl ⟨fun c3 => (?_ : WM _ 20 _ _ _ _), fun c3 => (?_ : WM _ 17 _ _ _ _)⟩
  · replace h := h.1 c3
    refine r_aload_n d_Mo_trial_20 rfl (?_ : WM _ 21 _ _ _ _)
    refine r_getI (k := 35) (j := 9) 9 (by decide) rfl clk_11 (by decide) (qm_5 (i := 45) rfl rfl) rfl rfl d_Mo_trial_21 (y := (σ1 35 9)) rfl (?_ : WM _ 24 _ _ _ _)
    refine r_if_ne 30 d_Mo_trial_24 rfl ⟨fun c4 => (?_ : WM _ 30 _ _ _ _), fun c4 => (?_ : WM _ 27 _ _ _ _)⟩
    · replace h := h.1 c4
      refine r_iload_n d_Mo_trial_30 rfl (?_ : WM _ 31 _ _ _ _)
      refine r_i2l d_Mo_trial_31 (?_ : WM _ 32 _ _ _ _)
      refine r_lconst 1 d_Mo_trial_32 rfl (by decide) (?_ : WM _ 33 _ _ _ _)
      refine r_aload_n d_Mo_trial_33 rfl (?_ : WM _ 34 _ _ _ _)
      refine r_getI (k := 35) (j := 9) 9 (by decide) rfl clk_11 (by decide) (qm_5 (i := 45) rfl rfl) rfl rfl d_Mo_trial_34 (y := (σ1 35 9)) rfl (?_ : WM _ 37 _ _ _ _)
      refine r_i2l d_Mo_trial_37 (?_ : WM _ 38 _ _ _ _)
      refine r_callS (ν := M_Mo_isIn) [vL x1, vL 1, vL (σ1 35 9)] ok_M_Mo_isIn oks_M_Mo_isIn (qm_5 (i := 153) rfl rfl) np_M_Mo_isIn rfl (by decide) (Nat.le_of_ble_eq_true rfl) rfl d_Mo_trial_38 (CI.k h (fun v6 σ5 h => (?_ : WM _ 41 _ _ _ _)))
      refine r_if_ne 47 d_Mo_trial_41 rfl ⟨fun c7 => (?_ : WM _ 47 _ _ _ _), fun c7 => (?_ : WM _ 44 _ _ _ _)⟩
      · replace h := h.1 c7
        refine r_aload_n d_Mo_trial_47 rfl (?_ : WM _ 48 _ _ _ _)
        refine r_aload_n d_Mo_trial_48 rfl (?_ : WM _ 49 _ _ _ _)
        refine r_getI (k := 35) (j := 9) 9 (by decide) rfl clk_11 (by decide) (qm_5 (i := 45) rfl rfl) rfl rfl d_Mo_trial_49 (y := (σ5 35 9)) rfl (?_ : WM _ 52 _ _ _ _)
        refine r_callV (ν := M_Mo_laysRest) (k := 35) [vI (σ5 35 9)] ok_M_Mo_laysRest okv_M_Mo_laysRest (by decide) rfl rfl rfl (qm_6 (i := 93) rfl rfl) np_M_Mo_laysRest rfl (by decide) (Nat.le_of_ble_eq_true rfl) rfl d_Mo_trial_52 (CV.k h (fun σ8 h => (?_ : WM _ 55 _ _ _ _)))
        refine r_iload_n d_Mo_trial_55 rfl (?_ : WM _ 56 _ _ _ _)
        refine r_iconst d_Mo_trial_56 (by decide) (?_ : WM _ 57 _ _ _ _)
        refine r_icmp_ne 91 d_Mo_trial_57 rfl ⟨fun c10 => (?_ : WM _ 91 _ _ _ _), fun c10 => (?_ : WM _ 60 _ _ _ _)⟩
        · replace h := h.1 c10
          refine r_iconst d_Mo_trial_91 (by decide) (?_ : WM _ 92 _ _ _ _)
          refine r_istore_n (ls' := [(3, vI 0), (0, vR 35), (1, vI x1), (2, vI x2)]) d_Mo_trial_92 rfl (by decide) rfl (?_ : WM _ 93 _ _ _ _)
          refine r_iconst d_Mo_trial_93 (by decide) (?_ : WM _ 94 _ _ _ _)
          refine r_istore (ls' := [(4, vI 0), (3, vI 0), (0, vR 35), (1, vI x1), (2, vI x2)]) d_Mo_trial_94 (by decide) rfl (?_ : WM _ 96 _ _ _ _)
          refine r_pick (ls' := [(0, vR 35), (1, vI x1), (2, vI x2), (3, vI 0), (4, vI 0)]) [2, 3, 4, 1, 0] rfl ?_
          exact h
        · replace h := h.2 c10
          refine r_iload_n d_Mo_trial_60 rfl (?_ : WM _ 61 _ _ _ _)
          refine r_aload_n d_Mo_trial_61 rfl (?_ : WM _ 62 _ _ _ _)
          refine r_getI (k := 35) (j := 20) 20 (by decide) rfl clk_11 (by decide) (qm_5 (i := 56) rfl rfl) rfl rfl d_Mo_trial_62 (y := (σ8 35 20)) rfl (?_ : WM _ 65 _ _ _ _)
          refine r_icmp_le 72 d_Mo_trial_65 rfl ⟨fun c11 => (?_ : WM _ 72 _ _ _ _), fun c11 => (?_ : WM _ 68 _ _ _ _)⟩
          · replace h := h.1 c11
            refine r_iload_n d_Mo_trial_72 rfl (?_ : WM _ 73 _ _ _ _)
            refine r_aload_n d_Mo_trial_73 rfl (?_ : WM _ 74 _ _ _ _)
            refine r_getI (k := 35) (j := 20) 20 (by decide) rfl clk_11 (by decide) (qm_5 (i := 56) rfl rfl) rfl rfl d_Mo_trial_74 (y := (σ8 35 20)) rfl (?_ : WM _ 77 _ _ _ _)
            refine r_iload_n d_Mo_trial_77 rfl (?_ : WM _ 78 _ _ _ _)
            obtain ⟨h12, h⟩ := h
            refine r_isub d_Mo_trial_78 h12 (?_ : WM _ 79 _ _ _ _)
            refine r_aload_n d_Mo_trial_79 rfl (?_ : WM _ 80 _ _ _ _)
            refine r_getI (k := 35) (j := 9) 9 (by decide) rfl clk_11 (by decide) (qm_5 (i := 45) rfl rfl) rfl rfl d_Mo_trial_80 (y := (σ8 35 9)) rfl (?_ : WM _ 83 _ _ _ _)
            obtain ⟨h13, h⟩ := h
            obtain ⟨h14, h⟩ := h
            refine r_idivn d_Mo_trial_83 h13 h14 (?_ : WM _ 84 _ _ _ _)
            refine r_aload_n d_Mo_trial_84 rfl (?_ : WM _ 85 _ _ _ _)
            refine r_getI (k := 35) (j := 9) 9 (by decide) rfl clk_11 (by decide) (qm_5 (i := 45) rfl rfl) rfl rfl d_Mo_trial_85 (y := (σ8 35 9)) rfl (?_ : WM _ 88 _ _ _ _)
            obtain ⟨h15, h⟩ := h
            refine r_imul d_Mo_trial_88 h15 (?_ : WM _ 89 _ _ _ _)
            obtain ⟨h16, h⟩ := h
            refine r_iadd d_Mo_trial_89 h16 (?_ : WM _ 90 _ _ _ _)
            exact r_ireturn rfl d_Mo_trial_90 h
          · replace h := h.2 c11
            refine r_iconst d_Mo_trial_68 (by decide) (?_ : WM _ 69 _ _ _ _)
            refine r_goto 90 d_Mo_trial_69 rfl ?_
            exact r_ireturn rfl d_Mo_trial_90 h
      · replace h := h.2 c7
        refine r_bipush d_Mo_trial_44 (by decide) (by decide) (?_ : WM _ 46 _ _ _ _)
        exact r_ireturn rfl d_Mo_trial_46 h
    · replace h := h.2 c4
      refine r_bipush d_Mo_trial_27 (by decide) (by decide) (?_ : WM _ 29 _ _ _ _)
      exact r_ireturn rfl d_Mo_trial_29 h
  · replace h := h.2 c3
    refine r_bipush d_Mo_trial_17 (by decide) (by decide) (?_ : WM _ 19 _ _ _ _)
    exact r_ireturn rfl d_Mo_trial_19 h
set_option maxRecDepth 20000 in
theorem l_Mo_trial_1 {K : Int → St → Prop} {σ : St} (x1 : Int) (x2 : Int) (x3 : Int) (x4 : Int) (h : ((σ 35 6) ≤ x4 → K x3 σ) ∧ (¬ (σ 35 6) ≤ x4 → CI M_Mo_catches [vR 35, vI x1, vI x4] σ (fun v19 σ18 => (¬ x2 = 0 → WM M_Mo_trial 131 [(0, vR 35), (1, vI x1), (2, vI x2), (3, vI x3), (4, vI x4), (5, vI v19)] [] σ18 (QI K)) ∧ (x2 = 0 → (v19 = 0 → (inR (x3 + 0)) ∧ WM M_Mo_trial 131 [(0, vR 35), (1, vI x1), (2, vI x2), (3, vI (x3 + 0)), (4, vI x4), (5, vI v19)] [] σ18 (QI K)) ∧ (¬ v19 = 0 → (inR (x3 + 1)) ∧ WM M_Mo_trial 131 [(0, vR 35), (1, vI x1), (2, vI x2), (3, vI (x3 + 1)), (4, vI x4), (5, vI v19)] [] σ18 (QI K)))))) : WM M_Mo_trial 96 [(0, vR 35), (1, vI x1), (2, vI x2), (3, vI x3), (4, vI x4)] [] σ (QI K) := by
  refine r_iload d_Mo_trial_96 rfl (?_ : WM _ 98 _ _ _ _)
  refine r_aload_n d_Mo_trial_98 rfl (?_ : WM _ 99 _ _ _ _)
  refine r_getI (k := 35) (j := 6) 6 (by decide) rfl clk_11 (by decide) (qm_5 (i := 42) rfl rfl) rfl rfl d_Mo_trial_99 (y := (σ 35 6)) rfl (?_ : WM _ 102 _ _ _ _)
  refine r_icmp_ge 206 d_Mo_trial_102 rfl ⟨fun c17 => (?_ : WM _ 206 _ _ _ _), fun c17 => (?_ : WM _ 105 _ _ _ _)⟩
  · replace h := h.1 c17
    refine r_iload_n d_Mo_trial_206 rfl (?_ : WM _ 207 _ _ _ _)
    exact r_ireturn rfl d_Mo_trial_207 h
  · replace h := h.2 c17
    refine r_aload_n d_Mo_trial_105 rfl (?_ : WM _ 106 _ _ _ _)
    refine r_iload_n d_Mo_trial_106 rfl (?_ : WM _ 107 _ _ _ _)
    refine r_iload d_Mo_trial_107 rfl (?_ : WM _ 109 _ _ _ _)
    refine r_callV (ν := M_Mo_catches) (k := 35) [vI x1, vI x4] ok_M_Mo_catches okv_M_Mo_catches (by decide) rfl rfl rfl (qm_7 (i := 28) rfl rfl) np_M_Mo_catches rfl (by decide) (Nat.le_of_ble_eq_true rfl) rfl d_Mo_trial_109 (CI.k h (fun v19 σ18 h => (?_ : WM _ 112 _ _ _ _)))
    refine r_istore (ls' := [(5, vI v19), (0, vR 35), (1, vI x1), (2, vI x2), (3, vI x3), (4, vI x4)]) d_Mo_trial_112 (by decide) rfl (?_ : WM _ 114 _ _ _ _)
    refine r_iload_n d_Mo_trial_114 rfl (?_ : WM _ 115 _ _ _ _)
    refine r_if_ne 131 d_Mo_trial_115 rfl ⟨fun c20 => (?_ : WM _ 131 _ _ _ _), fun c20 => (?_ : WM _ 118 _ _ _ _)⟩
    · replace h := h.1 c20
      refine r_pick (ls' := [(0, vR 35), (1, vI x1), (2, vI x2), (3, vI x3), (4, vI x4), (5, vI v19)]) [1, 2, 3, 4, 5, 0] rfl ?_
      exact h
    · replace h := h.2 c20
      refine r_iload_n d_Mo_trial_118 rfl (?_ : WM _ 119 _ _ _ _)
      refine r_iload d_Mo_trial_119 rfl (?_ : WM _ 121 _ _ _ _)
      refine r_if_eq 128 d_Mo_trial_121 rfl ⟨fun c21 => (?_ : WM _ 128 _ _ _ _), fun c21 => (?_ : WM _ 124 _ _ _ _)⟩
      · replace h := h.1 c21
        refine r_iconst d_Mo_trial_128 (by decide) (?_ : WM _ 129 _ _ _ _)
        obtain ⟨h22, h⟩ := h
        refine r_iadd d_Mo_trial_129 h22 (?_ : WM _ 130 _ _ _ _)
        refine r_istore_n (ls' := [(3, vI (x3 + 0)), (5, vI v19), (0, vR 35), (1, vI x1), (2, vI x2), (4, vI x4)]) d_Mo_trial_130 rfl (by decide) rfl (?_ : WM _ 131 _ _ _ _)
        refine r_pick (ls' := [(0, vR 35), (1, vI x1), (2, vI x2), (3, vI (x3 + 0)), (4, vI x4), (5, vI v19)]) [2, 3, 4, 0, 5, 1] rfl ?_
        exact h
      · replace h := h.2 c21
        refine r_iconst d_Mo_trial_124 (by decide) (?_ : WM _ 125 _ _ _ _)
        refine r_goto 129 d_Mo_trial_125 rfl ?_
        obtain ⟨h23, h⟩ := h
        refine r_iadd d_Mo_trial_129 h23 (?_ : WM _ 130 _ _ _ _)
        refine r_istore_n (ls' := [(3, vI (x3 + 1)), (5, vI v19), (0, vR 35), (1, vI x1), (2, vI x2), (4, vI x4)]) d_Mo_trial_130 rfl (by decide) rfl (?_ : WM _ 131 _ _ _ _)
        refine r_pick (ls' := [(0, vR 35), (1, vI x1), (2, vI x2), (3, vI (x3 + 1)), (4, vI x4), (5, vI v19)]) [2, 3, 4, 0, 5, 1] rfl ?_
        exact h
set_option maxRecDepth 20000 in
theorem l_Mo_trial_2 {K : Int → St → Prop} {σ : St} (x1 : Int) (x2 : Int) (x3 : Int) (x4 : Int) (x5 : Int) (h : (¬ x2 = 1 → WM M_Mo_trial 168 [(0, vR 35), (1, vI x1), (2, vI x2), (3, vI x3), (4, vI x4), (5, vI x5)] [] σ (QI K)) ∧ (x2 = 1 → (¬ x5 = 0 → CI M_Mo_audited [vR 35, vI x4] σ (fun v27 σ26 => (¬ v27 = (-1) → (inR (x3 + 0)) ∧ WM M_Mo_trial 168 [(0, vR 35), (1, vI x1), (2, vI x2), (3, vI (x3 + 0)), (4, vI x4), (5, vI x5)] [] σ26 (QI K)) ∧ (v27 = (-1) → (inR (x3 + 1)) ∧ WM M_Mo_trial 168 [(0, vR 35), (1, vI x1), (2, vI x2), (3, vI (x3 + 1)), (4, vI x4), (5, vI x5)] [] σ26 (QI K)))) ∧ (x5 = 0 → CI M_Mo_isCertain [vR 35, vI x4] σ (fun v32 σ31 => (v32 = 0 → (inR (x3 + 0)) ∧ WM M_Mo_trial 168 [(0, vR 35), (1, vI x1), (2, vI x2), (3, vI (x3 + 0)), (4, vI x4), (5, vI x5)] [] σ31 (QI K)) ∧ (¬ v32 = 0 → CI M_Mo_audited [vR 35, vI x4] σ31 (fun v36 σ35 => (¬ v36 = (-1) → (inR (x3 + 0)) ∧ WM M_Mo_trial 168 [(0, vR 35), (1, vI x1), (2, vI x2), (3, vI (x3 + 0)), (4, vI x4), (5, vI x5)] [] σ35 (QI K)) ∧ (v36 = (-1) → (inR (x3 + 1)) ∧ WM M_Mo_trial 168 [(0, vR 35), (1, vI x1), (2, vI x2), (3, vI (x3 + 1)), (4, vI x4), (5, vI x5)] [] σ35 (QI K)))))))) : WM M_Mo_trial 131 [(0, vR 35), (1, vI x1), (2, vI x2), (3, vI x3), (4, vI x4), (5, vI x5)] [] σ (QI K) := by
  refine r_iload_n d_Mo_trial_131 rfl (?_ : WM _ 132 _ _ _ _)
  refine r_iconst d_Mo_trial_132 (by decide) (?_ : WM _ 133 _ _ _ _)
  refine r_icmp_ne 168 d_Mo_trial_133 rfl ⟨fun c24 => (?_ : WM _ 168 _ _ _ _), fun c24 => (?_ : WM _ 136 _ _ _ _)⟩
  · replace h := h.1 c24
    exact h
  · replace h := h.2 c24
    refine r_iload_n d_Mo_trial_136 rfl (?_ : WM _ 137 _ _ _ _)
    refine r_iload d_Mo_trial_137 rfl (?_ : WM _ 139 _ _ _ _)
    refine r_if_ne 151 d_Mo_trial_139 rfl ⟨fun c25 => (?_ : WM _ 151 _ _ _ _), fun c25 => (?_ : WM _ 142 _ _ _ _)⟩
    · replace h := h.1 c25
      refine r_aload_n d_Mo_trial_151 rfl (?_ : WM _ 152 _ _ _ _)
      refine r_iload d_Mo_trial_152 rfl (?_ : WM _ 154 _ _ _ _)
      refine r_callV (ν := M_Mo_audited) (k := 35) [vI x4] ok_M_Mo_audited okv_M_Mo_audited (by decide) rfl rfl rfl (qm_6 (i := 11) rfl rfl) np_M_Mo_audited rfl (by decide) (Nat.le_of_ble_eq_true rfl) rfl d_Mo_trial_154 (CI.k h (fun v27 σ26 h => (?_ : WM _ 157 _ _ _ _)))
      refine r_iconst d_Mo_trial_157 (by decide) (?_ : WM _ 158 _ _ _ _)
      refine r_icmp_ne 165 d_Mo_trial_158 rfl ⟨fun c28 => (?_ : WM _ 165 _ _ _ _), fun c28 => (?_ : WM _ 161 _ _ _ _)⟩
      · replace h := h.1 c28
        refine r_iconst d_Mo_trial_165 (by decide) (?_ : WM _ 166 _ _ _ _)
        obtain ⟨h29, h⟩ := h
        refine r_iadd d_Mo_trial_166 h29 (?_ : WM _ 167 _ _ _ _)
        refine r_istore_n (ls' := [(3, vI (x3 + 0)), (0, vR 35), (1, vI x1), (2, vI x2), (4, vI x4), (5, vI x5)]) d_Mo_trial_167 rfl (by decide) rfl (?_ : WM _ 168 _ _ _ _)
        refine r_pick (ls' := [(0, vR 35), (1, vI x1), (2, vI x2), (3, vI (x3 + 0)), (4, vI x4), (5, vI x5)]) [1, 2, 3, 0, 4, 5] rfl ?_
        exact h
      · replace h := h.2 c28
        refine r_iconst d_Mo_trial_161 (by decide) (?_ : WM _ 162 _ _ _ _)
        refine r_goto 166 d_Mo_trial_162 rfl ?_
        obtain ⟨h30, h⟩ := h
        refine r_iadd d_Mo_trial_166 h30 (?_ : WM _ 167 _ _ _ _)
        refine r_istore_n (ls' := [(3, vI (x3 + 1)), (0, vR 35), (1, vI x1), (2, vI x2), (4, vI x4), (5, vI x5)]) d_Mo_trial_167 rfl (by decide) rfl (?_ : WM _ 168 _ _ _ _)
        refine r_pick (ls' := [(0, vR 35), (1, vI x1), (2, vI x2), (3, vI (x3 + 1)), (4, vI x4), (5, vI x5)]) [1, 2, 3, 0, 4, 5] rfl ?_
        exact h
    · replace h := h.2 c25
      refine r_aload_n d_Mo_trial_142 rfl (?_ : WM _ 143 _ _ _ _)
      refine r_iload d_Mo_trial_143 rfl (?_ : WM _ 145 _ _ _ _)
      refine r_callV (ν := M_Mo_isCertain) (k := 35) [vI x4] ok_M_Mo_isCertain okv_M_Mo_isCertain (by decide) rfl rfl rfl (qm_6 (i := 27) rfl rfl) np_M_Mo_isCertain rfl (by decide) (Nat.le_of_ble_eq_true rfl) rfl d_Mo_trial_145 (CI.k h (fun v32 σ31 h => (?_ : WM _ 148 _ _ _ _)))
      refine r_if_eq 165 d_Mo_trial_148 rfl ⟨fun c33 => (?_ : WM _ 165 _ _ _ _), fun c33 => (?_ : WM _ 151 _ _ _ _)⟩
      · replace h := h.1 c33
        refine r_iconst d_Mo_trial_165 (by decide) (?_ : WM _ 166 _ _ _ _)
        obtain ⟨h34, h⟩ := h
        refine r_iadd d_Mo_trial_166 h34 (?_ : WM _ 167 _ _ _ _)
        refine r_istore_n (ls' := [(3, vI (x3 + 0)), (0, vR 35), (1, vI x1), (2, vI x2), (4, vI x4), (5, vI x5)]) d_Mo_trial_167 rfl (by decide) rfl (?_ : WM _ 168 _ _ _ _)
        refine r_pick (ls' := [(0, vR 35), (1, vI x1), (2, vI x2), (3, vI (x3 + 0)), (4, vI x4), (5, vI x5)]) [1, 2, 3, 0, 4, 5] rfl ?_
        exact h
      · replace h := h.2 c33
        refine r_aload_n d_Mo_trial_151 rfl (?_ : WM _ 152 _ _ _ _)
        refine r_iload d_Mo_trial_152 rfl (?_ : WM _ 154 _ _ _ _)
        refine r_callV (ν := M_Mo_audited) (k := 35) [vI x4] ok_M_Mo_audited okv_M_Mo_audited (by decide) rfl rfl rfl (qm_6 (i := 11) rfl rfl) np_M_Mo_audited rfl (by decide) (Nat.le_of_ble_eq_true rfl) rfl d_Mo_trial_154 (CI.k h (fun v36 σ35 h => (?_ : WM _ 157 _ _ _ _)))
        refine r_iconst d_Mo_trial_157 (by decide) (?_ : WM _ 158 _ _ _ _)
        refine r_icmp_ne 165 d_Mo_trial_158 rfl ⟨fun c37 => (?_ : WM _ 165 _ _ _ _), fun c37 => (?_ : WM _ 161 _ _ _ _)⟩
        · replace h := h.1 c37
          refine r_iconst d_Mo_trial_165 (by decide) (?_ : WM _ 166 _ _ _ _)
          obtain ⟨h38, h⟩ := h
          refine r_iadd d_Mo_trial_166 h38 (?_ : WM _ 167 _ _ _ _)
          refine r_istore_n (ls' := [(3, vI (x3 + 0)), (0, vR 35), (1, vI x1), (2, vI x2), (4, vI x4), (5, vI x5)]) d_Mo_trial_167 rfl (by decide) rfl (?_ : WM _ 168 _ _ _ _)
          refine r_pick (ls' := [(0, vR 35), (1, vI x1), (2, vI x2), (3, vI (x3 + 0)), (4, vI x4), (5, vI x5)]) [1, 2, 3, 0, 4, 5] rfl ?_
          exact h
        · replace h := h.2 c37
          refine r_iconst d_Mo_trial_161 (by decide) (?_ : WM _ 162 _ _ _ _)
          refine r_goto 166 d_Mo_trial_162 rfl ?_
          obtain ⟨h39, h⟩ := h
          refine r_iadd d_Mo_trial_166 h39 (?_ : WM _ 167 _ _ _ _)
          refine r_istore_n (ls' := [(3, vI (x3 + 1)), (0, vR 35), (1, vI x1), (2, vI x2), (4, vI x4), (5, vI x5)]) d_Mo_trial_167 rfl (by decide) rfl (?_ : WM _ 168 _ _ _ _)
          refine r_pick (ls' := [(0, vR 35), (1, vI x1), (2, vI x2), (3, vI (x3 + 1)), (4, vI x4), (5, vI x5)]) [1, 2, 3, 0, 4, 5] rfl ?_
          exact h
set_option maxRecDepth 20000 in
theorem l_Mo_trial_3 {K : Int → St → Prop} {σ : St} (x1 : Int) (x2 : Int) (x3 : Int) (x4 : Int) (x5 : Int) (h : (¬ x2 = 2 → (inR (x4 + 1)) ∧ WM M_Mo_trial 96 [(0, vR 35), (1, vI x1), (2, vI x2), (3, vI x3), (4, vI (x4 + 1))] [] σ (QI K)) ∧ (x2 = 2 → (x5 = 0 → (inR (x3 + 0)) ∧ (inR (x4 + 1)) ∧ WM M_Mo_trial 96 [(0, vR 35), (1, vI x1), (2, vI x2), (3, vI (x3 + 0)), (4, vI (x4 + 1))] [] σ (QI K)) ∧ (¬ x5 = 0 → CI M_Mo_taintOf [vR 35, vI x4] σ (fun v46 σ45 => (v46 ≤ 0 → (inR (x3 + 0)) ∧ (inR (x4 + 1)) ∧ WM M_Mo_trial 96 [(0, vR 35), (1, vI x1), (2, vI x2), (3, vI (x3 + 0)), (4, vI (x4 + 1))] [] σ45 (QI K)) ∧ (¬ v46 ≤ 0 → CI M_Mo_taintOf [vR 35, vI x4] σ45 (fun v51 σ50 => (inR (x3 + v51)) ∧ (inR (x4 + 1)) ∧ WM M_Mo_trial 96 [(0, vR 35), (1, vI x1), (2, vI x2), (3, vI (x3 + v51)), (4, vI (x4 + 1))] [] σ50 (QI K))))))) : WM M_Mo_trial 168 [(0, vR 35), (1, vI x1), (2, vI x2), (3, vI x3), (4, vI x4), (5, vI x5)] [] σ (QI K) := by
  refine r_iload_n d_Mo_trial_168 rfl (?_ : WM _ 169 _ _ _ _)
  refine r_iconst d_Mo_trial_169 (by decide) (?_ : WM _ 170 _ _ _ _)
  refine r_icmp_ne 200 d_Mo_trial_170 rfl ⟨fun c40 => (?_ : WM _ 200 _ _ _ _), fun c40 => (?_ : WM _ 173 _ _ _ _)⟩
  · replace h := h.1 c40
    obtain ⟨h41, h⟩ := h
    refine r_iinc (ls' := [(4, vI (x4 + 1)), (0, vR 35), (1, vI x1), (2, vI x2), (3, vI x3), (5, vI x5)]) d_Mo_trial_200 rfl h41 (by decide) rfl (?_ : WM _ 203 _ _ _ _)
    refine r_goto 96 d_Mo_trial_203 rfl ?_
    refine r_pick (ls' := [(0, vR 35), (1, vI x1), (2, vI x2), (3, vI x3), (4, vI (x4 + 1))]) [1, 2, 3, 4, 0] rfl ?_
    exact h
  · replace h := h.2 c40
    refine r_iload_n d_Mo_trial_173 rfl (?_ : WM _ 174 _ _ _ _)
    refine r_iload d_Mo_trial_174 rfl (?_ : WM _ 176 _ _ _ _)
    refine r_if_eq 197 d_Mo_trial_176 rfl ⟨fun c42 => (?_ : WM _ 197 _ _ _ _), fun c42 => (?_ : WM _ 179 _ _ _ _)⟩
    · replace h := h.1 c42
      refine r_iconst d_Mo_trial_197 (by decide) (?_ : WM _ 198 _ _ _ _)
      obtain ⟨h43, h⟩ := h
      refine r_iadd d_Mo_trial_198 h43 (?_ : WM _ 199 _ _ _ _)
      refine r_istore_n (ls' := [(3, vI (x3 + 0)), (0, vR 35), (1, vI x1), (2, vI x2), (4, vI x4), (5, vI x5)]) d_Mo_trial_199 rfl (by decide) rfl (?_ : WM _ 200 _ _ _ _)
      obtain ⟨h44, h⟩ := h
      refine r_iinc (ls' := [(4, vI (x4 + 1)), (3, vI (x3 + 0)), (0, vR 35), (1, vI x1), (2, vI x2), (5, vI x5)]) d_Mo_trial_200 rfl h44 (by decide) rfl (?_ : WM _ 203 _ _ _ _)
      refine r_goto 96 d_Mo_trial_203 rfl ?_
      refine r_pick (ls' := [(0, vR 35), (1, vI x1), (2, vI x2), (3, vI (x3 + 0)), (4, vI (x4 + 1))]) [2, 3, 4, 1, 0] rfl ?_
      exact h
    · replace h := h.2 c42
      refine r_aload_n d_Mo_trial_179 rfl (?_ : WM _ 180 _ _ _ _)
      refine r_iload d_Mo_trial_180 rfl (?_ : WM _ 182 _ _ _ _)
      refine r_callV (ν := M_Mo_taintOf) (k := 35) [vI x4] ok_M_Mo_taintOf okv_M_Mo_taintOf (by decide) rfl rfl rfl (qm_6 (i := 105) rfl rfl) np_M_Mo_taintOf rfl (by decide) (Nat.le_of_ble_eq_true rfl) rfl d_Mo_trial_182 (CI.k h (fun v46 σ45 h => (?_ : WM _ 185 _ _ _ _)))
      refine r_if_le 197 d_Mo_trial_185 rfl ⟨fun c47 => (?_ : WM _ 197 _ _ _ _), fun c47 => (?_ : WM _ 188 _ _ _ _)⟩
      · replace h := h.1 c47
        refine r_iconst d_Mo_trial_197 (by decide) (?_ : WM _ 198 _ _ _ _)
        obtain ⟨h48, h⟩ := h
        refine r_iadd d_Mo_trial_198 h48 (?_ : WM _ 199 _ _ _ _)
        refine r_istore_n (ls' := [(3, vI (x3 + 0)), (0, vR 35), (1, vI x1), (2, vI x2), (4, vI x4), (5, vI x5)]) d_Mo_trial_199 rfl (by decide) rfl (?_ : WM _ 200 _ _ _ _)
        obtain ⟨h49, h⟩ := h
        refine r_iinc (ls' := [(4, vI (x4 + 1)), (3, vI (x3 + 0)), (0, vR 35), (1, vI x1), (2, vI x2), (5, vI x5)]) d_Mo_trial_200 rfl h49 (by decide) rfl (?_ : WM _ 203 _ _ _ _)
        refine r_goto 96 d_Mo_trial_203 rfl ?_
        refine r_pick (ls' := [(0, vR 35), (1, vI x1), (2, vI x2), (3, vI (x3 + 0)), (4, vI (x4 + 1))]) [2, 3, 4, 1, 0] rfl ?_
        exact h
      · replace h := h.2 c47
        refine r_aload_n d_Mo_trial_188 rfl (?_ : WM _ 189 _ _ _ _)
        refine r_iload d_Mo_trial_189 rfl (?_ : WM _ 191 _ _ _ _)
        refine r_callV (ν := M_Mo_taintOf) (k := 35) [vI x4] ok_M_Mo_taintOf okv_M_Mo_taintOf (by decide) rfl rfl rfl (qm_6 (i := 105) rfl rfl) np_M_Mo_taintOf rfl (by decide) (Nat.le_of_ble_eq_true rfl) rfl d_Mo_trial_191 (CI.k h (fun v51 σ50 h => (?_ : WM _ 194 _ _ _ _)))
        refine r_goto 198 d_Mo_trial_194 rfl ?_
        obtain ⟨h52, h⟩ := h
        refine r_iadd d_Mo_trial_198 h52 (?_ : WM _ 199 _ _ _ _)
        refine r_istore_n (ls' := [(3, vI (x3 + v51)), (0, vR 35), (1, vI x1), (2, vI x2), (4, vI x4), (5, vI x5)]) d_Mo_trial_199 rfl (by decide) rfl (?_ : WM _ 200 _ _ _ _)
        obtain ⟨h53, h⟩ := h
        refine r_iinc (ls' := [(4, vI (x4 + 1)), (3, vI (x3 + v51)), (0, vR 35), (1, vI x1), (2, vI x2), (5, vI x5)]) d_Mo_trial_200 rfl h53 (by decide) rfl (?_ : WM _ 203 _ _ _ _)
        refine r_goto 96 d_Mo_trial_203 rfl ?_
        refine r_pick (ls' := [(0, vR 35), (1, vI x1), (2, vI x2), (3, vI (x3 + v51)), (4, vI (x4 + 1))]) [2, 3, 4, 1, 0] rfl ?_
        exact h
set_option maxRecDepth 20000 in
theorem e_Mo_covered {K : Int → St → Prop} {σ : St}  (h : CV M_Mo_laysHits [vR 35] (ups σ 35 0 0) (fun σ1 => WM M_Mo_covered 13 [(0, vR 35), (1, vL 0), (3, vI 0)] [] σ1 (QI K))) : CI M_Mo_covered [vR 35] σ K := by
  refine Con.of ok_M_Mo_covered (ls := [(0, vR 35)]) rfl (Nat.le_of_ble_eq_true rfl) ?_
  refine r_aload_n d_Mo_covered_0 rfl (?_ : WM _ 1 _ _ _ _)
  refine r_iconst d_Mo_covered_1 (by decide) (?_ : WM _ 2 _ _ _ _)
  refine r_put (k := 35) (j := 0) 0 (by decide) rfl clk_11 (by decide) (qm_5 (i := 36) rfl rfl) rfl rfl rfl tyX11_ok rfl nmX11 d_Mo_covered_2 (?_ : WM _ 5 _ _ _ _)
  refine r_aload_n d_Mo_covered_5 rfl (?_ : WM _ 6 _ _ _ _)
  refine r_callV (ν := M_Mo_laysHits) (k := 35) [] ok_M_Mo_laysHits okv_M_Mo_laysHits (by decide) rfl rfl rfl (qm_6 (i := 89) rfl rfl) np_M_Mo_laysHits rfl (by decide) (Nat.le_of_ble_eq_true rfl) rfl d_Mo_covered_6 (CV.k h (fun σ1 h => (?_ : WM _ 9 _ _ _ _)))
  refine r_lconst 0 d_Mo_covered_9 rfl (by decide) (?_ : WM _ 10 _ _ _ _)
  refine r_lstore_n (ls' := [(1, vL 0), (0, vR 35)]) d_Mo_covered_10 rfl (by decide) rfl (?_ : WM _ 11 _ _ _ _)
  refine r_iconst d_Mo_covered_11 (by decide) (?_ : WM _ 12 _ _ _ _)
  refine r_istore_n (ls' := [(3, vI 0), (1, vL 0), (0, vR 35)]) d_Mo_covered_12 rfl (by decide) rfl (?_ : WM _ 13 _ _ _ _)
  refine r_pick (ls' := [(0, vR 35), (1, vL 0), (3, vI 0)]) [2, 1, 0] rfl ?_
  exact h
set_option maxRecDepth 20000 in
theorem l_Mo_covered_1 {K : Int → St → Prop} {σ : St} (x1 : Int) (x3 : Int) (h : ((σ 35 6) ≤ x3 → CI M_Mo_allCoins [vR 35] σ (fun v5 σ4 => (¬ v5 = 0 → (inL (1000 * x1)) ∧ CI M_Mo_allCoins [vR 35] σ4 (fun v9 σ8 => (0 ≤ (1000 * x1)) ∧ (0 < v9) ∧ (inR ((1000 * x1) / v9)) ∧ K ((1000 * x1) / v9) σ8)) ∧ (v5 = 0 → K 0 σ4))) ∧ (¬ (σ 35 6) ≤ x3 → CI M_Mo_isDrawn [vR 35, vI x3] σ (fun v14 σ13 => (v14 = 0 → (inL (x1 + 0)) ∧ (inR (x3 + 1)) ∧ WM M_Mo_covered 13 [(0, vR 35), (1, vL (x1 + 0)), (3, vI (x3 + 1))] [] σ13 (QI K)) ∧ (¬ v14 = 0 → CI M_Mo_coinsOf [vR 35, vI x3] σ13 (fun v19 σ18 => (inL (x1 + v19)) ∧ (inR (x3 + 1)) ∧ WM M_Mo_covered 13 [(0, vR 35), (1, vL (x1 + v19)), (3, vI (x3 + 1))] [] σ18 (QI K)))))) : WM M_Mo_covered 13 [(0, vR 35), (1, vL x1), (3, vI x3)] [] σ (QI K) := by
  refine r_iload_n d_Mo_covered_13 rfl (?_ : WM _ 14 _ _ _ _)
  refine r_aload_n d_Mo_covered_14 rfl (?_ : WM _ 15 _ _ _ _)
  refine r_getI (k := 35) (j := 6) 6 (by decide) rfl clk_11 (by decide) (qm_5 (i := 42) rfl rfl) rfl rfl d_Mo_covered_15 (y := (σ 35 6)) rfl (?_ : WM _ 18 _ _ _ _)
  refine r_icmp_ge 48 d_Mo_covered_18 rfl ⟨fun c3 => (?_ : WM _ 48 _ _ _ _), fun c3 => (?_ : WM _ 21 _ _ _ _)⟩
  · replace h := h.1 c3
    refine r_aload_n d_Mo_covered_48 rfl (?_ : WM _ 49 _ _ _ _)
    refine r_callV (ν := M_Mo_allCoins) (k := 35) [] ok_M_Mo_allCoins okv_M_Mo_allCoins (by decide) rfl rfl rfl (qm_6 (i := 42) rfl rfl) np_M_Mo_allCoins rfl (by decide) (Nat.le_of_ble_eq_true rfl) rfl d_Mo_covered_49 (CI.k h (fun v5 σ4 h => (?_ : WM _ 52 _ _ _ _)))
    refine r_if_ne 59 d_Mo_covered_52 rfl ⟨fun c6 => (?_ : WM _ 59 _ _ _ _), fun c6 => (?_ : WM _ 55 _ _ _ _)⟩
    · replace h := h.1 c6
      refine r_ldc2 1000 d_Mo_covered_59 (qm_7 (i := 36) rfl rfl) (by decide) (by decide) (?_ : WM _ 62 _ _ _ _)
      refine r_lload_n d_Mo_covered_62 rfl (?_ : WM _ 63 _ _ _ _)
      obtain ⟨h7, h⟩ := h
      refine r_lmul d_Mo_covered_63 h7 (?_ : WM _ 64 _ _ _ _)
      refine r_aload_n d_Mo_covered_64 rfl (?_ : WM _ 65 _ _ _ _)
      refine r_callV (ν := M_Mo_allCoins) (k := 35) [] ok_M_Mo_allCoins okv_M_Mo_allCoins (by decide) rfl rfl rfl (qm_6 (i := 42) rfl rfl) np_M_Mo_allCoins rfl (by decide) (Nat.le_of_ble_eq_true rfl) rfl d_Mo_covered_65 (CI.k h (fun v9 σ8 h => (?_ : WM _ 68 _ _ _ _)))
      refine r_i2l d_Mo_covered_68 (?_ : WM _ 69 _ _ _ _)
      obtain ⟨h10, h⟩ := h
      obtain ⟨h11, h⟩ := h
      refine r_ldivn d_Mo_covered_69 h10 h11 (?_ : WM _ 70 _ _ _ _)
      obtain ⟨h12, h⟩ := h
      refine r_l2i d_Mo_covered_70 h12 (?_ : WM _ 71 _ _ _ _)
      exact r_ireturn rfl d_Mo_covered_71 h
    · replace h := h.2 c6
      refine r_iconst d_Mo_covered_55 (by decide) (?_ : WM _ 56 _ _ _ _)
      refine r_goto 71 d_Mo_covered_56 rfl ?_
      exact r_ireturn rfl d_Mo_covered_71 h
  · replace h := h.2 c3
    refine r_lload_n d_Mo_covered_21 rfl (?_ : WM _ 22 _ _ _ _)
    refine r_aload_n d_Mo_covered_22 rfl (?_ : WM _ 23 _ _ _ _)
    refine r_iload_n d_Mo_covered_23 rfl (?_ : WM _ 24 _ _ _ _)
    refine r_callV (ν := M_Mo_isDrawn) (k := 35) [vI x3] ok_M_Mo_isDrawn okv_M_Mo_isDrawn (by decide) rfl rfl rfl (qm_6 (i := 133) rfl rfl) np_M_Mo_isDrawn rfl (by decide) (Nat.le_of_ble_eq_true rfl) rfl d_Mo_covered_24 (CI.k h (fun v14 σ13 h => (?_ : WM _ 27 _ _ _ _)))
    refine r_if_eq 39 d_Mo_covered_27 rfl ⟨fun c15 => (?_ : WM _ 39 _ _ _ _), fun c15 => (?_ : WM _ 30 _ _ _ _)⟩
    · replace h := h.1 c15
      refine r_lconst 0 d_Mo_covered_39 rfl (by decide) (?_ : WM _ 40 _ _ _ _)
      obtain ⟨h16, h⟩ := h
      refine r_ladd d_Mo_covered_40 h16 (?_ : WM _ 41 _ _ _ _)
      refine r_lstore_n (ls' := [(1, vL (x1 + 0)), (0, vR 35), (3, vI x3)]) d_Mo_covered_41 rfl (by decide) rfl (?_ : WM _ 42 _ _ _ _)
      obtain ⟨h17, h⟩ := h
      refine r_iinc (ls' := [(3, vI (x3 + 1)), (1, vL (x1 + 0)), (0, vR 35)]) d_Mo_covered_42 rfl h17 (by decide) rfl (?_ : WM _ 45 _ _ _ _)
      refine r_goto 13 d_Mo_covered_45 rfl ?_
      refine r_pick (ls' := [(0, vR 35), (1, vL (x1 + 0)), (3, vI (x3 + 1))]) [2, 1, 0] rfl ?_
      exact h
    · replace h := h.2 c15
      refine r_aload_n d_Mo_covered_30 rfl (?_ : WM _ 31 _ _ _ _)
      refine r_iload_n d_Mo_covered_31 rfl (?_ : WM _ 32 _ _ _ _)
      refine r_callV (ν := M_Mo_coinsOf) (k := 35) [vI x3] ok_M_Mo_coinsOf okv_M_Mo_coinsOf (by decide) rfl rfl rfl (qm_6 (i := 7) rfl rfl) np_M_Mo_coinsOf rfl (by decide) (Nat.le_of_ble_eq_true rfl) rfl d_Mo_covered_32 (CI.k h (fun v19 σ18 h => (?_ : WM _ 35 _ _ _ _)))
      refine r_i2l d_Mo_covered_35 (?_ : WM _ 36 _ _ _ _)
      refine r_goto 40 d_Mo_covered_36 rfl ?_
      obtain ⟨h20, h⟩ := h
      refine r_ladd d_Mo_covered_40 h20 (?_ : WM _ 41 _ _ _ _)
      refine r_lstore_n (ls' := [(1, vL (x1 + v19)), (0, vR 35), (3, vI x3)]) d_Mo_covered_41 rfl (by decide) rfl (?_ : WM _ 42 _ _ _ _)
      obtain ⟨h21, h⟩ := h
      refine r_iinc (ls' := [(3, vI (x3 + 1)), (1, vL (x1 + v19)), (0, vR 35)]) d_Mo_covered_42 rfl h21 (by decide) rfl (?_ : WM _ 45 _ _ _ _)
      refine r_goto 13 d_Mo_covered_45 rfl ?_
      refine r_pick (ls' := [(0, vR 35), (1, vL (x1 + v19)), (3, vI (x3 + 1))]) [2, 1, 0] rfl ?_
      exact h
set_option maxRecDepth 20000 in
theorem e_Mo_caught {K : Int → St → Prop} {σ : St} (x1 : Int) (h : (0 ≤ x1 → (¬ (σ 35 9) = 0 → CV M_Mo_laysTurns [vR 35] (ups σ 35 0 0) (fun σ3 => WM M_Mo_caught 30 [(0, vR 35), (1, vI x1), (2, vI 0), (3, vI 0)] [] σ3 (QI K))) ∧ ((σ 35 9) = 0 → K (-5) (ups σ 35 0 0))) ∧ (¬ 0 ≤ x1 → K (-3) (ups σ 35 0 0))) : CI M_Mo_caught [vR 35, vI x1] σ K := by
  refine Con.of ok_M_Mo_caught (ls := [(0, vR 35), (1, vI x1)]) rfl (Nat.le_of_ble_eq_true rfl) ?_
  refine r_aload_n d_Mo_caught_0 rfl (?_ : WM _ 1 _ _ _ _)
  refine r_iconst d_Mo_caught_1 (by decide) (?_ : WM _ 2 _ _ _ _)
  refine r_put (k := 35) (j := 0) 0 (by decide) rfl clk_11 (by decide) (qm_5 (i := 36) rfl rfl) rfl rfl rfl tyX11_ok rfl nmX11 d_Mo_caught_2 (?_ : WM _ 5 _ _ _ _)
  refine r_iload_n d_Mo_caught_5 rfl (?_ : WM _ 6 _ _ _ _)
  refine r_if_ge 12 d_Mo_caught_6 rfl ⟨fun c1 => (?_ : WM _ 12 _ _ _ _), fun c1 => (?_ : WM _ 9 _ _ _ _)⟩
  · replace h := h.1 c1
    refine r_aload_n d_Mo_caught_12 rfl (?_ : WM _ 13 _ _ _ _)
    refine r_getI (k := 35) (j := 9) 9 (by decide) rfl clk_11 (by decide) (qm_5 (i := 45) rfl rfl) rfl rfl d_Mo_caught_13 (y := (σ 35 9)) (ups_f (by decide)) (?_ : WM _ 16 _ _ _ _)
    refine r_if_ne 22 d_Mo_caught_16 rfl ⟨fun c2 => (?_ : WM _ 22 _ _ _ _), fun c2 => (?_ : WM _ 19 _ _ _ _)⟩
    · replace h := h.1 c2
      refine r_aload_n d_Mo_caught_22 rfl (?_ : WM _ 23 _ _ _ _)
      refine r_callV (ν := M_Mo_laysTurns) (k := 35) [] ok_M_Mo_laysTurns okv_M_Mo_laysTurns (by decide) rfl rfl rfl (qm_7 (i := 41) rfl rfl) np_M_Mo_laysTurns rfl (by decide) (Nat.le_of_ble_eq_true rfl) rfl d_Mo_caught_23 (CV.k h (fun σ3 h => (?_ : WM _ 26 _ _ _ _)))
      refine r_iconst d_Mo_caught_26 (by decide) (?_ : WM _ 27 _ _ _ _)
      refine r_istore_n (ls' := [(2, vI 0), (0, vR 35), (1, vI x1)]) d_Mo_caught_27 rfl (by decide) rfl (?_ : WM _ 28 _ _ _ _)
      refine r_iconst d_Mo_caught_28 (by decide) (?_ : WM _ 29 _ _ _ _)
      refine r_istore_n (ls' := [(3, vI 0), (2, vI 0), (0, vR 35), (1, vI x1)]) d_Mo_caught_29 rfl (by decide) rfl (?_ : WM _ 30 _ _ _ _)
      refine r_pick (ls' := [(0, vR 35), (1, vI x1), (2, vI 0), (3, vI 0)]) [2, 3, 1, 0] rfl ?_
      exact h
    · replace h := h.2 c2
      refine r_bipush d_Mo_caught_19 (by decide) (by decide) (?_ : WM _ 21 _ _ _ _)
      exact r_ireturn rfl d_Mo_caught_21 h
  · replace h := h.2 c1
    refine r_bipush d_Mo_caught_9 (by decide) (by decide) (?_ : WM _ 11 _ _ _ _)
    exact r_ireturn rfl d_Mo_caught_11 h
set_option maxRecDepth 20000 in
theorem l_Mo_caught_1 {K : Int → St → Prop} {σ : St} (x1 : Int) (x2 : Int) (x3 : Int) (h : ((σ 35 34) ≤ x3 → K x2 σ) ∧ (¬ (σ 35 34) ≤ x3 → (0 ≤ x3) ∧ (x3 < 98) ∧ CI M_Mo_caughtBy [vR 35, vI (σ 52 x3)] σ (fun v9 σ8 => (¬ v9 = x1 → (inR (x2 + 0)) ∧ (inR (x3 + 1)) ∧ WM M_Mo_caught 30 [(0, vR 35), (1, vI x1), (2, vI (x2 + 0)), (3, vI (x3 + 1))] [] σ8 (QI K)) ∧ (v9 = x1 → CI M_Mo_turnLong [vR 35, vI x3] σ8 (fun v14 σ13 => (inR (x2 + v14)) ∧ (inR (x3 + 1)) ∧ WM M_Mo_caught 30 [(0, vR 35), (1, vI x1), (2, vI (x2 + v14)), (3, vI (x3 + 1))] [] σ13 (QI K)))))) : WM M_Mo_caught 30 [(0, vR 35), (1, vI x1), (2, vI x2), (3, vI x3)] [] σ (QI K) := by
  refine r_iload_n d_Mo_caught_30 rfl (?_ : WM _ 31 _ _ _ _)
  refine r_aload_n d_Mo_caught_31 rfl (?_ : WM _ 32 _ _ _ _)
  refine r_getI (k := 35) (j := 34) 34 (by decide) rfl clk_11 (by decide) (qm_5 (i := 70) rfl rfl) rfl rfl d_Mo_caught_32 (y := (σ 35 34)) rfl (?_ : WM _ 35 _ _ _ _)
  refine r_icmp_ge 70 d_Mo_caught_35 rfl ⟨fun c5 => (?_ : WM _ 70 _ _ _ _), fun c5 => (?_ : WM _ 38 _ _ _ _)⟩
  · replace h := h.1 c5
    refine r_iload_n d_Mo_caught_70 rfl (?_ : WM _ 71 _ _ _ _)
    exact r_ireturn rfl d_Mo_caught_71 h
  · replace h := h.2 c5
    refine r_iload_n d_Mo_caught_38 rfl (?_ : WM _ 39 _ _ _ _)
    refine r_aload_n d_Mo_caught_39 rfl (?_ : WM _ 40 _ _ _ _)
    refine r_aload_n d_Mo_caught_40 rfl (?_ : WM _ 41 _ _ _ _)
    refine r_getR (k := 35) (j := 33) (q := 52) (by decide) rfl clk_11 (by decide) (qm_5 (i := 69) rfl rfl) rfl d_Mo_caught_41 (?_ : WM _ 44 _ _ _ _)
    refine r_iload_n d_Mo_caught_44 rfl (?_ : WM _ 45 _ _ _ _)
    obtain ⟨h6, h⟩ := h
    obtain ⟨h7, h⟩ := h
    refine r_iald (k := 52) (n := 98) (by decide) rfl d_Mo_caught_45 h6 h7 (y := (σ 52 x3)) rfl (?_ : WM _ 46 _ _ _ _)
    refine r_callV (ν := M_Mo_caughtBy) (k := 35) [vI (σ 52 x3)] ok_M_Mo_caughtBy okv_M_Mo_caughtBy (by decide) rfl rfl rfl (qm_7 (i := 49) rfl rfl) np_M_Mo_caughtBy rfl (by decide) (Nat.le_of_ble_eq_true rfl) rfl d_Mo_caught_46 (CI.k h (fun v9 σ8 h => (?_ : WM _ 49 _ _ _ _)))
    refine r_iload_n d_Mo_caught_49 rfl (?_ : WM _ 50 _ _ _ _)
    refine r_icmp_ne 61 d_Mo_caught_50 rfl ⟨fun c10 => (?_ : WM _ 61 _ _ _ _), fun c10 => (?_ : WM _ 53 _ _ _ _)⟩
    · replace h := h.1 c10
      refine r_iconst d_Mo_caught_61 (by decide) (?_ : WM _ 62 _ _ _ _)
      obtain ⟨h11, h⟩ := h
      refine r_iadd d_Mo_caught_62 h11 (?_ : WM _ 63 _ _ _ _)
      refine r_istore_n (ls' := [(2, vI (x2 + 0)), (0, vR 35), (1, vI x1), (3, vI x3)]) d_Mo_caught_63 rfl (by decide) rfl (?_ : WM _ 64 _ _ _ _)
      obtain ⟨h12, h⟩ := h
      refine r_iinc (ls' := [(3, vI (x3 + 1)), (2, vI (x2 + 0)), (0, vR 35), (1, vI x1)]) d_Mo_caught_64 rfl h12 (by decide) rfl (?_ : WM _ 67 _ _ _ _)
      refine r_goto 30 d_Mo_caught_67 rfl ?_
      refine r_pick (ls' := [(0, vR 35), (1, vI x1), (2, vI (x2 + 0)), (3, vI (x3 + 1))]) [2, 3, 1, 0] rfl ?_
      exact h
    · replace h := h.2 c10
      refine r_aload_n d_Mo_caught_53 rfl (?_ : WM _ 54 _ _ _ _)
      refine r_iload_n d_Mo_caught_54 rfl (?_ : WM _ 55 _ _ _ _)
      refine r_callV (ν := M_Mo_turnLong) (k := 35) [vI x3] ok_M_Mo_turnLong okv_M_Mo_turnLong (by decide) rfl rfl rfl (qm_7 (i := 53) rfl rfl) np_M_Mo_turnLong rfl (by decide) (Nat.le_of_ble_eq_true rfl) rfl d_Mo_caught_55 (CI.k h (fun v14 σ13 h => (?_ : WM _ 58 _ _ _ _)))
      refine r_goto 62 d_Mo_caught_58 rfl ?_
      obtain ⟨h15, h⟩ := h
      refine r_iadd d_Mo_caught_62 h15 (?_ : WM _ 63 _ _ _ _)
      refine r_istore_n (ls' := [(2, vI (x2 + v14)), (0, vR 35), (1, vI x1), (3, vI x3)]) d_Mo_caught_63 rfl (by decide) rfl (?_ : WM _ 64 _ _ _ _)
      obtain ⟨h16, h⟩ := h
      refine r_iinc (ls' := [(3, vI (x3 + 1)), (2, vI (x2 + v14)), (0, vR 35), (1, vI x1)]) d_Mo_caught_64 rfl h16 (by decide) rfl (?_ : WM _ 67 _ _ _ _)
      refine r_goto 30 d_Mo_caught_67 rfl ?_
      refine r_pick (ls' := [(0, vR 35), (1, vI x1), (2, vI (x2 + v14)), (3, vI (x3 + 1))]) [2, 3, 1, 0] rfl ?_
      exact h
set_option maxRecDepth 20000 in
theorem e_Mo_worst {K : Int → St → Prop} {σ : St} (x1 : Int) (h : CI M_Mo_isIn [vL x1, vL 0, vL 1] (ups σ 35 0 0) (fun v2 σ1 => (¬ v2 = 0 → (¬ (σ1 35 9) = 0 → CV M_Mo_laysTurns [vR 35] σ1 (fun σ5 => WM M_Mo_worst 39 [(0, vR 35), (1, vI x1), (2, vI (-1)), (3, vI (-1)), (4, vI 0)] [] σ5 (QI K))) ∧ ((σ1 35 9) = 0 → K (-5) σ1)) ∧ (v2 = 0 → K (-2) σ1))) : CI M_Mo_worst [vR 35, vI x1] σ K := by
  refine Con.of ok_M_Mo_worst (ls := [(0, vR 35), (1, vI x1)]) rfl (Nat.le_of_ble_eq_true rfl) ?_
  refine r_aload_n d_Mo_worst_0 rfl (?_ : WM _ 1 _ _ _ _)
  refine r_iconst d_Mo_worst_1 (by decide) (?_ : WM _ 2 _ _ _ _)
  refine r_put (k := 35) (j := 0) 0 (by decide) rfl clk_11 (by decide) (qm_5 (i := 36) rfl rfl) rfl rfl rfl tyX11_ok rfl nmX11 d_Mo_worst_2 (?_ : WM _ 5 _ _ _ _)
  refine r_iload_n d_Mo_worst_5 rfl (?_ : WM _ 6 _ _ _ _)
  refine r_i2l d_Mo_worst_6 (?_ : WM _ 7 _ _ _ _)
  refine r_lconst 0 d_Mo_worst_7 rfl (by decide) (?_ : WM _ 8 _ _ _ _)
  refine r_lconst 1 d_Mo_worst_8 rfl (by decide) (?_ : WM _ 9 _ _ _ _)
  refine r_callS (ν := M_Mo_isIn) [vL x1, vL 0, vL 1] ok_M_Mo_isIn oks_M_Mo_isIn (qm_5 (i := 153) rfl rfl) np_M_Mo_isIn rfl (by decide) (Nat.le_of_ble_eq_true rfl) rfl d_Mo_worst_9 (CI.k h (fun v2 σ1 h => (?_ : WM _ 12 _ _ _ _)))
  refine r_if_ne 18 d_Mo_worst_12 rfl ⟨fun c3 => (?_ : WM _ 18 _ _ _ _), fun c3 => (?_ : WM _ 15 _ _ _ _)⟩
  · replace h := h.1 c3
    refine r_aload_n d_Mo_worst_18 rfl (?_ : WM _ 19 _ _ _ _)
    refine r_getI (k := 35) (j := 9) 9 (by decide) rfl clk_11 (by decide) (qm_5 (i := 45) rfl rfl) rfl rfl d_Mo_worst_19 (y := (σ1 35 9)) rfl (?_ : WM _ 22 _ _ _ _)
    refine r_if_ne 28 d_Mo_worst_22 rfl ⟨fun c4 => (?_ : WM _ 28 _ _ _ _), fun c4 => (?_ : WM _ 25 _ _ _ _)⟩
    · replace h := h.1 c4
      refine r_aload_n d_Mo_worst_28 rfl (?_ : WM _ 29 _ _ _ _)
      refine r_callV (ν := M_Mo_laysTurns) (k := 35) [] ok_M_Mo_laysTurns okv_M_Mo_laysTurns (by decide) rfl rfl rfl (qm_7 (i := 41) rfl rfl) np_M_Mo_laysTurns rfl (by decide) (Nat.le_of_ble_eq_true rfl) rfl d_Mo_worst_29 (CV.k h (fun σ5 h => (?_ : WM _ 32 _ _ _ _)))
      refine r_iconst d_Mo_worst_32 (by decide) (?_ : WM _ 33 _ _ _ _)
      refine r_istore_n (ls' := [(2, vI (-1)), (0, vR 35), (1, vI x1)]) d_Mo_worst_33 rfl (by decide) rfl (?_ : WM _ 34 _ _ _ _)
      refine r_iconst d_Mo_worst_34 (by decide) (?_ : WM _ 35 _ _ _ _)
      refine r_istore_n (ls' := [(3, vI (-1)), (2, vI (-1)), (0, vR 35), (1, vI x1)]) d_Mo_worst_35 rfl (by decide) rfl (?_ : WM _ 36 _ _ _ _)
      refine r_iconst d_Mo_worst_36 (by decide) (?_ : WM _ 37 _ _ _ _)
      refine r_istore (ls' := [(4, vI 0), (3, vI (-1)), (2, vI (-1)), (0, vR 35), (1, vI x1)]) d_Mo_worst_37 (by decide) rfl (?_ : WM _ 39 _ _ _ _)
      refine r_pick (ls' := [(0, vR 35), (1, vI x1), (2, vI (-1)), (3, vI (-1)), (4, vI 0)]) [3, 4, 2, 1, 0] rfl ?_
      exact h
    · replace h := h.2 c4
      refine r_bipush d_Mo_worst_25 (by decide) (by decide) (?_ : WM _ 27 _ _ _ _)
      exact r_ireturn rfl d_Mo_worst_27 h
  · replace h := h.2 c3
    refine r_bipush d_Mo_worst_15 (by decide) (by decide) (?_ : WM _ 17 _ _ _ _)
    exact r_ireturn rfl d_Mo_worst_17 h
set_option maxRecDepth 20000 in
theorem l_Mo_worst_1 {K : Int → St → Prop} {σ : St} (x1 : Int) (x2 : Int) (x3 : Int) (x4 : Int) (h : ((σ 35 34) ≤ x4 → (¬ x1 = 0 → K x3 σ) ∧ (x1 = 0 → K x2 σ)) ∧ (¬ (σ 35 34) ≤ x4 → WM M_Mo_worst 54 [(0, vR 35), (1, vI x1), (2, vI x2), (3, vI x3), (4, vI x4), (5, vI 0), (6, vI 0)] [] σ (QI K))) : WM M_Mo_worst 39 [(0, vR 35), (1, vI x1), (2, vI x2), (3, vI x3), (4, vI x4)] [] σ (QI K) := by
  refine r_iload d_Mo_worst_39 rfl (?_ : WM _ 41 _ _ _ _)
  refine r_aload_n d_Mo_worst_41 rfl (?_ : WM _ 42 _ _ _ _)
  refine r_getI (k := 35) (j := 34) 34 (by decide) rfl clk_11 (by decide) (qm_5 (i := 70) rfl rfl) rfl rfl d_Mo_worst_42 (y := (σ 35 34)) rfl (?_ : WM _ 45 _ _ _ _)
  refine r_icmp_ge 135 d_Mo_worst_45 rfl ⟨fun c7 => (?_ : WM _ 135 _ _ _ _), fun c7 => (?_ : WM _ 48 _ _ _ _)⟩
  · replace h := h.1 c7
    refine r_iload_n d_Mo_worst_135 rfl (?_ : WM _ 136 _ _ _ _)
    refine r_if_ne 143 d_Mo_worst_136 rfl ⟨fun c8 => (?_ : WM _ 143 _ _ _ _), fun c8 => (?_ : WM _ 139 _ _ _ _)⟩
    · replace h := h.1 c8
      refine r_iload_n d_Mo_worst_143 rfl (?_ : WM _ 144 _ _ _ _)
      exact r_ireturn rfl d_Mo_worst_144 h
    · replace h := h.2 c8
      refine r_iload_n d_Mo_worst_139 rfl (?_ : WM _ 140 _ _ _ _)
      refine r_goto 144 d_Mo_worst_140 rfl ?_
      exact r_ireturn rfl d_Mo_worst_144 h
  · replace h := h.2 c7
    refine r_iconst d_Mo_worst_48 (by decide) (?_ : WM _ 49 _ _ _ _)
    refine r_istore (ls' := [(5, vI 0), (0, vR 35), (1, vI x1), (2, vI x2), (3, vI x3), (4, vI x4)]) d_Mo_worst_49 (by decide) rfl (?_ : WM _ 51 _ _ _ _)
    refine r_iconst d_Mo_worst_51 (by decide) (?_ : WM _ 52 _ _ _ _)
    refine r_istore (ls' := [(6, vI 0), (5, vI 0), (0, vR 35), (1, vI x1), (2, vI x2), (3, vI x3), (4, vI x4)]) d_Mo_worst_52 (by decide) rfl (?_ : WM _ 54 _ _ _ _)
    refine r_pick (ls' := [(0, vR 35), (1, vI x1), (2, vI x2), (3, vI x3), (4, vI x4), (5, vI 0), (6, vI 0)]) [2, 3, 4, 5, 6, 1, 0] rfl ?_
    exact h
set_option maxRecDepth 20000 in
theorem l_Mo_worst_2 {K : Int → St → Prop} {σ : St} (x1 : Int) (x2 : Int) (x3 : Int) (x4 : Int) (x5 : Int) (x6 : Int) (h : ((σ 35 6) ≤ x6 → (x3 < x5 → (0 ≤ x4) ∧ (x4 < 98) ∧ (inR (x4 + 1)) ∧ WM M_Mo_worst 39 [(0, vR 35), (1, vI x1), (2, vI (σ 52 x4)), (3, vI x5), (4, vI (x4 + 1))] [] σ (QI K)) ∧ (¬ x3 < x5 → (inR (x4 + 1)) ∧ WM M_Mo_worst 39 [(0, vR 35), (1, vI x1), (2, vI x2), (3, vI x3), (4, vI (x4 + 1))] [] σ (QI K))) ∧ (¬ (σ 35 6) ≤ x6 → (0 ≤ x4) ∧ (x4 < 98) ∧ CI M_Mo_catches [vR 35, vI (σ 52 x4), vI x6] σ (fun v18 σ17 => (v18 = 0 → (inR (x5 + 0)) ∧ (inR (x6 + 1)) ∧ WM M_Mo_worst 54 [(0, vR 35), (1, vI x1), (2, vI x2), (3, vI x3), (4, vI x4), (5, vI (x5 + 0)), (6, vI (x6 + 1))] [] σ17 (QI K)) ∧ (¬ v18 = 0 → CI M_Mo_taintOf [vR 35, vI x6] σ17 (fun v23 σ22 => (v23 ≤ 0 → (inR (x5 + 0)) ∧ (inR (x6 + 1)) ∧ WM M_Mo_worst 54 [(0, vR 35), (1, vI x1), (2, vI x2), (3, vI x3), (4, vI x4), (5, vI (x5 + 0)), (6, vI (x6 + 1))] [] σ22 (QI K)) ∧ (¬ v23 ≤ 0 → CI M_Mo_taintOf [vR 35, vI x6] σ22 (fun v28 σ27 => (inR (x5 + v28)) ∧ (inR (x6 + 1)) ∧ WM M_Mo_worst 54 [(0, vR 35), (1, vI x1), (2, vI x2), (3, vI x3), (4, vI x4), (5, vI (x5 + v28)), (6, vI (x6 + 1))] [] σ27 (QI K)))))))) : WM M_Mo_worst 54 [(0, vR 35), (1, vI x1), (2, vI x2), (3, vI x3), (4, vI x4), (5, vI x5), (6, vI x6)] [] σ (QI K) := by
  refine r_iload d_Mo_worst_54 rfl (?_ : WM _ 56 _ _ _ _)
  refine r_aload_n d_Mo_worst_56 rfl (?_ : WM _ 57 _ _ _ _)
  refine r_getI (k := 35) (j := 6) 6 (by decide) rfl clk_11 (by decide) (qm_5 (i := 42) rfl rfl) rfl rfl d_Mo_worst_57 (y := (σ 35 6)) rfl (?_ : WM _ 60 _ _ _ _)
  refine r_icmp_ge 109 d_Mo_worst_60 rfl ⟨fun c9 => (?_ : WM _ 109 _ _ _ _), fun c9 => (?_ : WM _ 63 _ _ _ _)⟩
  · replace h := h.1 c9
    refine r_iload d_Mo_worst_109 rfl (?_ : WM _ 111 _ _ _ _)
    refine r_iload_n d_Mo_worst_111 rfl (?_ : WM _ 112 _ _ _ _)
    refine r_icmp_gt 118 d_Mo_worst_112 rfl ⟨fun c10 => (?_ : WM _ 118 _ _ _ _), fun c10 => (?_ : WM _ 115 _ _ _ _)⟩
    · replace h := h.1 c10
      refine r_aload_n d_Mo_worst_118 rfl (?_ : WM _ 119 _ _ _ _)
      refine r_getR (k := 35) (j := 33) (q := 52) (by decide) rfl clk_11 (by decide) (qm_5 (i := 69) rfl rfl) rfl d_Mo_worst_119 (?_ : WM _ 122 _ _ _ _)
      refine r_iload d_Mo_worst_122 rfl (?_ : WM _ 124 _ _ _ _)
      obtain ⟨h11, h⟩ := h
      obtain ⟨h12, h⟩ := h
      refine r_iald (k := 52) (n := 98) (by decide) rfl d_Mo_worst_124 h11 h12 (y := (σ 52 x4)) rfl (?_ : WM _ 125 _ _ _ _)
      refine r_istore_n (ls' := [(2, vI (σ 52 x4)), (0, vR 35), (1, vI x1), (3, vI x3), (4, vI x4), (5, vI x5), (6, vI x6)]) d_Mo_worst_125 rfl (by decide) rfl (?_ : WM _ 126 _ _ _ _)
      refine r_iload d_Mo_worst_126 rfl (?_ : WM _ 128 _ _ _ _)
      refine r_istore_n (ls' := [(3, vI x5), (2, vI (σ 52 x4)), (0, vR 35), (1, vI x1), (4, vI x4), (5, vI x5), (6, vI x6)]) d_Mo_worst_128 rfl (by decide) rfl (?_ : WM _ 129 _ _ _ _)
      obtain ⟨h13, h⟩ := h
      refine r_iinc (ls' := [(4, vI (x4 + 1)), (3, vI x5), (2, vI (σ 52 x4)), (0, vR 35), (1, vI x1), (5, vI x5), (6, vI x6)]) d_Mo_worst_129 rfl h13 (by decide) rfl (?_ : WM _ 132 _ _ _ _)
      refine r_goto 39 d_Mo_worst_132 rfl ?_
      refine r_pick (ls' := [(0, vR 35), (1, vI x1), (2, vI (σ 52 x4)), (3, vI x5), (4, vI (x4 + 1))]) [3, 4, 2, 1, 0] rfl ?_
      exact h
    · replace h := h.2 c10
      refine r_goto 129 d_Mo_worst_115 rfl ?_
      obtain ⟨h14, h⟩ := h
      refine r_iinc (ls' := [(4, vI (x4 + 1)), (0, vR 35), (1, vI x1), (2, vI x2), (3, vI x3), (5, vI x5), (6, vI x6)]) d_Mo_worst_129 rfl h14 (by decide) rfl (?_ : WM _ 132 _ _ _ _)
      refine r_goto 39 d_Mo_worst_132 rfl ?_
      refine r_pick (ls' := [(0, vR 35), (1, vI x1), (2, vI x2), (3, vI x3), (4, vI (x4 + 1))]) [1, 2, 3, 4, 0] rfl ?_
      exact h
  · replace h := h.2 c9
    refine r_iload d_Mo_worst_63 rfl (?_ : WM _ 65 _ _ _ _)
    refine r_aload_n d_Mo_worst_65 rfl (?_ : WM _ 66 _ _ _ _)
    refine r_aload_n d_Mo_worst_66 rfl (?_ : WM _ 67 _ _ _ _)
    refine r_getR (k := 35) (j := 33) (q := 52) (by decide) rfl clk_11 (by decide) (qm_5 (i := 69) rfl rfl) rfl d_Mo_worst_67 (?_ : WM _ 70 _ _ _ _)
    refine r_iload d_Mo_worst_70 rfl (?_ : WM _ 72 _ _ _ _)
    obtain ⟨h15, h⟩ := h
    obtain ⟨h16, h⟩ := h
    refine r_iald (k := 52) (n := 98) (by decide) rfl d_Mo_worst_72 h15 h16 (y := (σ 52 x4)) rfl (?_ : WM _ 73 _ _ _ _)
    refine r_iload d_Mo_worst_73 rfl (?_ : WM _ 75 _ _ _ _)
    refine r_callV (ν := M_Mo_catches) (k := 35) [vI (σ 52 x4), vI x6] ok_M_Mo_catches okv_M_Mo_catches (by decide) rfl rfl rfl (qm_7 (i := 28) rfl rfl) np_M_Mo_catches rfl (by decide) (Nat.le_of_ble_eq_true rfl) rfl d_Mo_worst_75 (CI.k h (fun v18 σ17 h => (?_ : WM _ 78 _ _ _ _)))
    refine r_if_eq 99 d_Mo_worst_78 rfl ⟨fun c19 => (?_ : WM _ 99 _ _ _ _), fun c19 => (?_ : WM _ 81 _ _ _ _)⟩
    · replace h := h.1 c19
      refine r_iconst d_Mo_worst_99 (by decide) (?_ : WM _ 100 _ _ _ _)
      obtain ⟨h20, h⟩ := h
      refine r_iadd d_Mo_worst_100 h20 (?_ : WM _ 101 _ _ _ _)
      refine r_istore (ls' := [(5, vI (x5 + 0)), (0, vR 35), (1, vI x1), (2, vI x2), (3, vI x3), (4, vI x4), (6, vI x6)]) d_Mo_worst_101 (by decide) rfl (?_ : WM _ 103 _ _ _ _)
      obtain ⟨h21, h⟩ := h
      refine r_iinc (ls' := [(6, vI (x6 + 1)), (5, vI (x5 + 0)), (0, vR 35), (1, vI x1), (2, vI x2), (3, vI x3), (4, vI x4)]) d_Mo_worst_103 rfl h21 (by decide) rfl (?_ : WM _ 106 _ _ _ _)
      refine r_goto 54 d_Mo_worst_106 rfl ?_
      refine r_pick (ls' := [(0, vR 35), (1, vI x1), (2, vI x2), (3, vI x3), (4, vI x4), (5, vI (x5 + 0)), (6, vI (x6 + 1))]) [2, 3, 4, 5, 6, 1, 0] rfl ?_
      exact h
    · replace h := h.2 c19
      refine r_aload_n d_Mo_worst_81 rfl (?_ : WM _ 82 _ _ _ _)
      refine r_iload d_Mo_worst_82 rfl (?_ : WM _ 84 _ _ _ _)
      refine r_callV (ν := M_Mo_taintOf) (k := 35) [vI x6] ok_M_Mo_taintOf okv_M_Mo_taintOf (by decide) rfl rfl rfl (qm_6 (i := 105) rfl rfl) np_M_Mo_taintOf rfl (by decide) (Nat.le_of_ble_eq_true rfl) rfl d_Mo_worst_84 (CI.k h (fun v23 σ22 h => (?_ : WM _ 87 _ _ _ _)))
      refine r_if_le 99 d_Mo_worst_87 rfl ⟨fun c24 => (?_ : WM _ 99 _ _ _ _), fun c24 => (?_ : WM _ 90 _ _ _ _)⟩
      · replace h := h.1 c24
        refine r_iconst d_Mo_worst_99 (by decide) (?_ : WM _ 100 _ _ _ _)
        obtain ⟨h25, h⟩ := h
        refine r_iadd d_Mo_worst_100 h25 (?_ : WM _ 101 _ _ _ _)
        refine r_istore (ls' := [(5, vI (x5 + 0)), (0, vR 35), (1, vI x1), (2, vI x2), (3, vI x3), (4, vI x4), (6, vI x6)]) d_Mo_worst_101 (by decide) rfl (?_ : WM _ 103 _ _ _ _)
        obtain ⟨h26, h⟩ := h
        refine r_iinc (ls' := [(6, vI (x6 + 1)), (5, vI (x5 + 0)), (0, vR 35), (1, vI x1), (2, vI x2), (3, vI x3), (4, vI x4)]) d_Mo_worst_103 rfl h26 (by decide) rfl (?_ : WM _ 106 _ _ _ _)
        refine r_goto 54 d_Mo_worst_106 rfl ?_
        refine r_pick (ls' := [(0, vR 35), (1, vI x1), (2, vI x2), (3, vI x3), (4, vI x4), (5, vI (x5 + 0)), (6, vI (x6 + 1))]) [2, 3, 4, 5, 6, 1, 0] rfl ?_
        exact h
      · replace h := h.2 c24
        refine r_aload_n d_Mo_worst_90 rfl (?_ : WM _ 91 _ _ _ _)
        refine r_iload d_Mo_worst_91 rfl (?_ : WM _ 93 _ _ _ _)
        refine r_callV (ν := M_Mo_taintOf) (k := 35) [vI x6] ok_M_Mo_taintOf okv_M_Mo_taintOf (by decide) rfl rfl rfl (qm_6 (i := 105) rfl rfl) np_M_Mo_taintOf rfl (by decide) (Nat.le_of_ble_eq_true rfl) rfl d_Mo_worst_93 (CI.k h (fun v28 σ27 h => (?_ : WM _ 96 _ _ _ _)))
        refine r_goto 100 d_Mo_worst_96 rfl ?_
        obtain ⟨h29, h⟩ := h
        refine r_iadd d_Mo_worst_100 h29 (?_ : WM _ 101 _ _ _ _)
        refine r_istore (ls' := [(5, vI (x5 + v28)), (0, vR 35), (1, vI x1), (2, vI x2), (3, vI x3), (4, vI x4), (6, vI x6)]) d_Mo_worst_101 (by decide) rfl (?_ : WM _ 103 _ _ _ _)
        obtain ⟨h30, h⟩ := h
        refine r_iinc (ls' := [(6, vI (x6 + 1)), (5, vI (x5 + v28)), (0, vR 35), (1, vI x1), (2, vI x2), (3, vI x3), (4, vI x4)]) d_Mo_worst_103 rfl h30 (by decide) rfl (?_ : WM _ 106 _ _ _ _)
        refine r_goto 54 d_Mo_worst_106 rfl ?_
        refine r_pick (ls' := [(0, vR 35), (1, vI x1), (2, vI x2), (3, vI x3), (4, vI x4), (5, vI (x5 + v28)), (6, vI (x6 + 1))]) [2, 3, 4, 5, 6, 1, 0] rfl ?_
        exact h
set_option maxRecDepth 20000 in
theorem e_Mo_chance {K : Int → St → Prop} {σ : St} (x1 : Int) (h : CI M_Mo_isIn [vL x1, vL 0, vL 1] (ups σ 35 0 0) (fun v2 σ1 => (¬ v2 = 0 → (¬ (σ1 35 9) = 0 → CV M_Mo_laysTurns [vR 35] σ1 (fun σ5 => WM M_Mo_chance 36 [(0, vR 35), (1, vI x1), (2, vI 0), (3, vI 0)] [] σ5 (QI K))) ∧ ((σ1 35 9) = 0 → K (-5) σ1)) ∧ (v2 = 0 → K (-2) σ1))) : CI M_Mo_chance [vR 35, vI x1] σ K := by
  refine Con.of ok_M_Mo_chance (ls := [(0, vR 35), (1, vI x1)]) rfl (Nat.le_of_ble_eq_true rfl) ?_
  refine r_aload_n d_Mo_chance_0 rfl (?_ : WM _ 1 _ _ _ _)
  refine r_iconst d_Mo_chance_1 (by decide) (?_ : WM _ 2 _ _ _ _)
  refine r_put (k := 35) (j := 0) 0 (by decide) rfl clk_11 (by decide) (qm_5 (i := 36) rfl rfl) rfl rfl rfl tyX11_ok rfl nmX11 d_Mo_chance_2 (?_ : WM _ 5 _ _ _ _)
  refine r_iload_n d_Mo_chance_5 rfl (?_ : WM _ 6 _ _ _ _)
  refine r_i2l d_Mo_chance_6 (?_ : WM _ 7 _ _ _ _)
  refine r_lconst 0 d_Mo_chance_7 rfl (by decide) (?_ : WM _ 8 _ _ _ _)
  refine r_lconst 1 d_Mo_chance_8 rfl (by decide) (?_ : WM _ 9 _ _ _ _)
  refine r_callS (ν := M_Mo_isIn) [vL x1, vL 0, vL 1] ok_M_Mo_isIn oks_M_Mo_isIn (qm_5 (i := 153) rfl rfl) np_M_Mo_isIn rfl (by decide) (Nat.le_of_ble_eq_true rfl) rfl d_Mo_chance_9 (CI.k h (fun v2 σ1 h => (?_ : WM _ 12 _ _ _ _)))
  refine r_if_ne 18 d_Mo_chance_12 rfl ⟨fun c3 => (?_ : WM _ 18 _ _ _ _), fun c3 => (?_ : WM _ 15 _ _ _ _)⟩
  · replace h := h.1 c3
    refine r_aload_n d_Mo_chance_18 rfl (?_ : WM _ 19 _ _ _ _)
    refine r_getI (k := 35) (j := 9) 9 (by decide) rfl clk_11 (by decide) (qm_5 (i := 45) rfl rfl) rfl rfl d_Mo_chance_19 (y := (σ1 35 9)) rfl (?_ : WM _ 22 _ _ _ _)
    refine r_if_ne 28 d_Mo_chance_22 rfl ⟨fun c4 => (?_ : WM _ 28 _ _ _ _), fun c4 => (?_ : WM _ 25 _ _ _ _)⟩
    · replace h := h.1 c4
      refine r_aload_n d_Mo_chance_28 rfl (?_ : WM _ 29 _ _ _ _)
      refine r_callV (ν := M_Mo_laysTurns) (k := 35) [] ok_M_Mo_laysTurns okv_M_Mo_laysTurns (by decide) rfl rfl rfl (qm_7 (i := 41) rfl rfl) np_M_Mo_laysTurns rfl (by decide) (Nat.le_of_ble_eq_true rfl) rfl d_Mo_chance_29 (CV.k h (fun σ5 h => (?_ : WM _ 32 _ _ _ _)))
      refine r_iconst d_Mo_chance_32 (by decide) (?_ : WM _ 33 _ _ _ _)
      refine r_istore_n (ls' := [(2, vI 0), (0, vR 35), (1, vI x1)]) d_Mo_chance_33 rfl (by decide) rfl (?_ : WM _ 34 _ _ _ _)
      refine r_iconst d_Mo_chance_34 (by decide) (?_ : WM _ 35 _ _ _ _)
      refine r_istore_n (ls' := [(3, vI 0), (2, vI 0), (0, vR 35), (1, vI x1)]) d_Mo_chance_35 rfl (by decide) rfl (?_ : WM _ 36 _ _ _ _)
      refine r_pick (ls' := [(0, vR 35), (1, vI x1), (2, vI 0), (3, vI 0)]) [2, 3, 1, 0] rfl ?_
      exact h
    · replace h := h.2 c4
      refine r_bipush d_Mo_chance_25 (by decide) (by decide) (?_ : WM _ 27 _ _ _ _)
      exact r_ireturn rfl d_Mo_chance_27 h
  · replace h := h.2 c3
    refine r_bipush d_Mo_chance_15 (by decide) (by decide) (?_ : WM _ 17 _ _ _ _)
    exact r_ireturn rfl d_Mo_chance_17 h
set_option maxRecDepth 20000 in
theorem l_Mo_chance_1 {K : Int → St → Prop} {σ : St} (x1 : Int) (x2 : Int) (x3 : Int) (h : ((σ 35 34) ≤ x3 → (¬ x1 = 0 → CI M_Mo_common [vI x2, vI (σ 35 9)] σ (fun v10 σ9 => (0 ≤ (σ 35 9)) ∧ (0 < v10) ∧ K ((σ 35 9) / v10) σ9)) ∧ (x1 = 0 → CI M_Mo_common [vI x2, vI (σ 35 9)] σ (fun v14 σ13 => (0 ≤ x2) ∧ (0 < v14) ∧ K (x2 / v14) σ13))) ∧ (¬ (σ 35 34) ≤ x3 → (0 ≤ x3) ∧ (x3 < 98) ∧ CI M_Mo_caughtBy [vR 35, vI (σ 52 x3)] σ (fun v20 σ19 => (v20 ≤ 0 → (inR (x2 + 0)) ∧ (inR (x3 + 1)) ∧ WM M_Mo_chance 36 [(0, vR 35), (1, vI x1), (2, vI (x2 + 0)), (3, vI (x3 + 1))] [] σ19 (QI K)) ∧ (¬ v20 ≤ 0 → CI M_Mo_turnLong [vR 35, vI x3] σ19 (fun v25 σ24 => (inR (x2 + v25)) ∧ (inR (x3 + 1)) ∧ WM M_Mo_chance 36 [(0, vR 35), (1, vI x1), (2, vI (x2 + v25)), (3, vI (x3 + 1))] [] σ24 (QI K)))))) : WM M_Mo_chance 36 [(0, vR 35), (1, vI x1), (2, vI x2), (3, vI x3)] [] σ (QI K) := by
  refine r_iload_n d_Mo_chance_36 rfl (?_ : WM _ 37 _ _ _ _)
  refine r_aload_n d_Mo_chance_37 rfl (?_ : WM _ 38 _ _ _ _)
  refine r_getI (k := 35) (j := 34) 34 (by decide) rfl clk_11 (by decide) (qm_5 (i := 70) rfl rfl) rfl rfl d_Mo_chance_38 (y := (σ 35 34)) rfl (?_ : WM _ 41 _ _ _ _)
  refine r_icmp_ge 75 d_Mo_chance_41 rfl ⟨fun c7 => (?_ : WM _ 75 _ _ _ _), fun c7 => (?_ : WM _ 44 _ _ _ _)⟩
  · replace h := h.1 c7
    refine r_iload_n d_Mo_chance_75 rfl (?_ : WM _ 76 _ _ _ _)
    refine r_if_ne 83 d_Mo_chance_76 rfl ⟨fun c8 => (?_ : WM _ 83 _ _ _ _), fun c8 => (?_ : WM _ 79 _ _ _ _)⟩
    · replace h := h.1 c8
      refine r_aload_n d_Mo_chance_83 rfl (?_ : WM _ 84 _ _ _ _)
      refine r_getI (k := 35) (j := 9) 9 (by decide) rfl clk_11 (by decide) (qm_5 (i := 45) rfl rfl) rfl rfl d_Mo_chance_84 (y := (σ 35 9)) rfl (?_ : WM _ 87 _ _ _ _)
      refine r_iload_n d_Mo_chance_87 rfl (?_ : WM _ 88 _ _ _ _)
      refine r_aload_n d_Mo_chance_88 rfl (?_ : WM _ 89 _ _ _ _)
      refine r_getI (k := 35) (j := 9) 9 (by decide) rfl clk_11 (by decide) (qm_5 (i := 45) rfl rfl) rfl rfl d_Mo_chance_89 (y := (σ 35 9)) rfl (?_ : WM _ 92 _ _ _ _)
      refine r_callS (ν := M_Mo_common) [vI x2, vI (σ 35 9)] ok_M_Mo_common oks_M_Mo_common (qm_7 (i := 65) rfl rfl) np_M_Mo_common rfl (by decide) (Nat.le_of_ble_eq_true rfl) rfl d_Mo_chance_92 (CI.k h (fun v10 σ9 h => (?_ : WM _ 95 _ _ _ _)))
      obtain ⟨h11, h⟩ := h
      obtain ⟨h12, h⟩ := h
      refine r_idivn d_Mo_chance_95 h11 h12 (?_ : WM _ 96 _ _ _ _)
      exact r_ireturn rfl d_Mo_chance_96 h
    · replace h := h.2 c8
      refine r_iload_n d_Mo_chance_79 rfl (?_ : WM _ 80 _ _ _ _)
      refine r_goto 87 d_Mo_chance_80 rfl ?_
      refine r_iload_n d_Mo_chance_87 rfl (?_ : WM _ 88 _ _ _ _)
      refine r_aload_n d_Mo_chance_88 rfl (?_ : WM _ 89 _ _ _ _)
      refine r_getI (k := 35) (j := 9) 9 (by decide) rfl clk_11 (by decide) (qm_5 (i := 45) rfl rfl) rfl rfl d_Mo_chance_89 (y := (σ 35 9)) rfl (?_ : WM _ 92 _ _ _ _)
      refine r_callS (ν := M_Mo_common) [vI x2, vI (σ 35 9)] ok_M_Mo_common oks_M_Mo_common (qm_7 (i := 65) rfl rfl) np_M_Mo_common rfl (by decide) (Nat.le_of_ble_eq_true rfl) rfl d_Mo_chance_92 (CI.k h (fun v14 σ13 h => (?_ : WM _ 95 _ _ _ _)))
      obtain ⟨h15, h⟩ := h
      obtain ⟨h16, h⟩ := h
      refine r_idivn d_Mo_chance_95 h15 h16 (?_ : WM _ 96 _ _ _ _)
      exact r_ireturn rfl d_Mo_chance_96 h
  · replace h := h.2 c7
    refine r_iload_n d_Mo_chance_44 rfl (?_ : WM _ 45 _ _ _ _)
    refine r_aload_n d_Mo_chance_45 rfl (?_ : WM _ 46 _ _ _ _)
    refine r_aload_n d_Mo_chance_46 rfl (?_ : WM _ 47 _ _ _ _)
    refine r_getR (k := 35) (j := 33) (q := 52) (by decide) rfl clk_11 (by decide) (qm_5 (i := 69) rfl rfl) rfl d_Mo_chance_47 (?_ : WM _ 50 _ _ _ _)
    refine r_iload_n d_Mo_chance_50 rfl (?_ : WM _ 51 _ _ _ _)
    obtain ⟨h17, h⟩ := h
    obtain ⟨h18, h⟩ := h
    refine r_iald (k := 52) (n := 98) (by decide) rfl d_Mo_chance_51 h17 h18 (y := (σ 52 x3)) rfl (?_ : WM _ 52 _ _ _ _)
    refine r_callV (ν := M_Mo_caughtBy) (k := 35) [vI (σ 52 x3)] ok_M_Mo_caughtBy okv_M_Mo_caughtBy (by decide) rfl rfl rfl (qm_7 (i := 49) rfl rfl) np_M_Mo_caughtBy rfl (by decide) (Nat.le_of_ble_eq_true rfl) rfl d_Mo_chance_52 (CI.k h (fun v20 σ19 h => (?_ : WM _ 55 _ _ _ _)))
    refine r_if_le 66 d_Mo_chance_55 rfl ⟨fun c21 => (?_ : WM _ 66 _ _ _ _), fun c21 => (?_ : WM _ 58 _ _ _ _)⟩
    · replace h := h.1 c21
      refine r_iconst d_Mo_chance_66 (by decide) (?_ : WM _ 67 _ _ _ _)
      obtain ⟨h22, h⟩ := h
      refine r_iadd d_Mo_chance_67 h22 (?_ : WM _ 68 _ _ _ _)
      refine r_istore_n (ls' := [(2, vI (x2 + 0)), (0, vR 35), (1, vI x1), (3, vI x3)]) d_Mo_chance_68 rfl (by decide) rfl (?_ : WM _ 69 _ _ _ _)
      obtain ⟨h23, h⟩ := h
      refine r_iinc (ls' := [(3, vI (x3 + 1)), (2, vI (x2 + 0)), (0, vR 35), (1, vI x1)]) d_Mo_chance_69 rfl h23 (by decide) rfl (?_ : WM _ 72 _ _ _ _)
      refine r_goto 36 d_Mo_chance_72 rfl ?_
      refine r_pick (ls' := [(0, vR 35), (1, vI x1), (2, vI (x2 + 0)), (3, vI (x3 + 1))]) [2, 3, 1, 0] rfl ?_
      exact h
    · replace h := h.2 c21
      refine r_aload_n d_Mo_chance_58 rfl (?_ : WM _ 59 _ _ _ _)
      refine r_iload_n d_Mo_chance_59 rfl (?_ : WM _ 60 _ _ _ _)
      refine r_callV (ν := M_Mo_turnLong) (k := 35) [vI x3] ok_M_Mo_turnLong okv_M_Mo_turnLong (by decide) rfl rfl rfl (qm_7 (i := 53) rfl rfl) np_M_Mo_turnLong rfl (by decide) (Nat.le_of_ble_eq_true rfl) rfl d_Mo_chance_60 (CI.k h (fun v25 σ24 h => (?_ : WM _ 63 _ _ _ _)))
      refine r_goto 67 d_Mo_chance_63 rfl ?_
      obtain ⟨h26, h⟩ := h
      refine r_iadd d_Mo_chance_67 h26 (?_ : WM _ 68 _ _ _ _)
      refine r_istore_n (ls' := [(2, vI (x2 + v25)), (0, vR 35), (1, vI x1), (3, vI x3)]) d_Mo_chance_68 rfl (by decide) rfl (?_ : WM _ 69 _ _ _ _)
      obtain ⟨h27, h⟩ := h
      refine r_iinc (ls' := [(3, vI (x3 + 1)), (2, vI (x2 + v25)), (0, vR 35), (1, vI x1)]) d_Mo_chance_69 rfl h27 (by decide) rfl (?_ : WM _ 72 _ _ _ _)
      refine r_goto 36 d_Mo_chance_72 rfl ?_
      refine r_pick (ls' := [(0, vR 35), (1, vI x1), (2, vI (x2 + v25)), (3, vI (x3 + 1))]) [2, 3, 1, 0] rfl ?_
      exact h
set_option maxRecDepth 20000 in
theorem e_Mo_were {K : Int → St → Prop} {σ : St} (x1 : Int) (x2 : Int) (x3 : Int) (h : CI M_Mo_isIn [vL x3, vL 0, vL 3] (ups σ 35 0 0) (fun v2 σ1 => (¬ v2 = 0 → CI M_Mo_isIn [vL x1, vL 1, vL 9999999] σ1 (fun v5 σ4 => (v5 = 0 → K (-3) σ4) ∧ (¬ v5 = 0 → CI M_Mo_isIn [vL x2, vL 1, vL x1] σ4 (fun v8 σ7 => (¬ v8 = 0 → CV M_Mo_laysHits [vR 35] σ7 (fun σ10 => WM M_Mo_were 62 [(0, vR 35), (1, vI x1), (2, vI x2), (3, vI x3), (4, vI (σ10 35 9)), (5, vI 0), (6, vI 0)] [] σ10 (QI K))) ∧ (v8 = 0 → K (-3) σ7))))) ∧ (v2 = 0 → K (-2) σ1))) : CI M_Mo_were [vR 35, vI x1, vI x2, vI x3] σ K := by
  refine Con.of ok_M_Mo_were (ls := [(0, vR 35), (1, vI x1), (2, vI x2), (3, vI x3)]) rfl (Nat.le_of_ble_eq_true rfl) ?_
  refine r_aload_n d_Mo_were_0 rfl (?_ : WM _ 1 _ _ _ _)
  refine r_iconst d_Mo_were_1 (by decide) (?_ : WM _ 2 _ _ _ _)
  refine r_put (k := 35) (j := 0) 0 (by decide) rfl clk_11 (by decide) (qm_5 (i := 36) rfl rfl) rfl rfl rfl tyX11_ok rfl nmX11 d_Mo_were_2 (?_ : WM _ 5 _ _ _ _)
  refine r_iload_n d_Mo_were_5 rfl (?_ : WM _ 6 _ _ _ _)
  refine r_i2l d_Mo_were_6 (?_ : WM _ 7 _ _ _ _)
  refine r_lconst 0 d_Mo_were_7 rfl (by decide) (?_ : WM _ 8 _ _ _ _)
  refine r_ldc2 3 d_Mo_were_8 (qm_6 (i := 226) rfl rfl) (by decide) (by decide) (?_ : WM _ 11 _ _ _ _)
  refine r_callS (ν := M_Mo_isIn) [vL x3, vL 0, vL 3] ok_M_Mo_isIn oks_M_Mo_isIn (qm_5 (i := 153) rfl rfl) np_M_Mo_isIn rfl (by decide) (Nat.le_of_ble_eq_true rfl) rfl d_Mo_were_11 (CI.k h (fun v2 σ1 h => (?_ : WM _ 14 _ _ _ _)))
  refine r_if_ne 20 d_Mo_were_14 rfl ⟨fun c3 => (?_ : WM _ 20 _ _ _ _), fun c3 => (?_ : WM _ 17 _ _ _ _)⟩
  · replace h := h.1 c3
    refine r_iload_n d_Mo_were_20 rfl (?_ : WM _ 21 _ _ _ _)
    refine r_i2l d_Mo_were_21 (?_ : WM _ 22 _ _ _ _)
    refine r_lconst 1 d_Mo_were_22 rfl (by decide) (?_ : WM _ 23 _ _ _ _)
    refine r_ldc2 9999999 d_Mo_were_23 (qm_6 (i := 180) rfl rfl) (by decide) (by decide) (?_ : WM _ 26 _ _ _ _)
    refine r_callS (ν := M_Mo_isIn) [vL x1, vL 1, vL 9999999] ok_M_Mo_isIn oks_M_Mo_isIn (qm_5 (i := 153) rfl rfl) np_M_Mo_isIn rfl (by decide) (Nat.le_of_ble_eq_true rfl) rfl d_Mo_were_26 (CI.k h (fun v5 σ4 h => (?_ : WM _ 29 _ _ _ _)))
    refine r_if_eq 43 d_Mo_were_29 rfl ⟨fun c6 => (?_ : WM _ 43 _ _ _ _), fun c6 => (?_ : WM _ 32 _ _ _ _)⟩
    · replace h := h.1 c6
      refine r_bipush d_Mo_were_43 (by decide) (by decide) (?_ : WM _ 45 _ _ _ _)
      exact r_ireturn rfl d_Mo_were_45 h
    · replace h := h.2 c6
      refine r_iload_n d_Mo_were_32 rfl (?_ : WM _ 33 _ _ _ _)
      refine r_i2l d_Mo_were_33 (?_ : WM _ 34 _ _ _ _)
      refine r_lconst 1 d_Mo_were_34 rfl (by decide) (?_ : WM _ 35 _ _ _ _)
      refine r_iload_n d_Mo_were_35 rfl (?_ : WM _ 36 _ _ _ _)
      refine r_i2l d_Mo_were_36 (?_ : WM _ 37 _ _ _ _)
      refine r_callS (ν := M_Mo_isIn) [vL x2, vL 1, vL x1] ok_M_Mo_isIn oks_M_Mo_isIn (qm_5 (i := 153) rfl rfl) np_M_Mo_isIn rfl (by decide) (Nat.le_of_ble_eq_true rfl) rfl d_Mo_were_37 (CI.k h (fun v8 σ7 h => (?_ : WM _ 40 _ _ _ _)))
      refine r_if_ne 46 d_Mo_were_40 rfl ⟨fun c9 => (?_ : WM _ 46 _ _ _ _), fun c9 => (?_ : WM _ 43 _ _ _ _)⟩
      · replace h := h.1 c9
        refine r_aload_n d_Mo_were_46 rfl (?_ : WM _ 47 _ _ _ _)
        refine r_callV (ν := M_Mo_laysHits) (k := 35) [] ok_M_Mo_laysHits okv_M_Mo_laysHits (by decide) rfl rfl rfl (qm_6 (i := 89) rfl rfl) np_M_Mo_laysHits rfl (by decide) (Nat.le_of_ble_eq_true rfl) rfl d_Mo_were_47 (CV.k h (fun σ10 h => (?_ : WM _ 50 _ _ _ _)))
        refine r_aload_n d_Mo_were_50 rfl (?_ : WM _ 51 _ _ _ _)
        refine r_getI (k := 35) (j := 9) 9 (by decide) rfl clk_11 (by decide) (qm_5 (i := 45) rfl rfl) rfl rfl d_Mo_were_51 (y := (σ10 35 9)) rfl (?_ : WM _ 54 _ _ _ _)
        refine r_istore (ls' := [(4, vI (σ10 35 9)), (0, vR 35), (1, vI x1), (2, vI x2), (3, vI x3)]) d_Mo_were_54 (by decide) rfl (?_ : WM _ 56 _ _ _ _)
        refine r_iconst d_Mo_were_56 (by decide) (?_ : WM _ 57 _ _ _ _)
        refine r_istore (ls' := [(5, vI 0), (4, vI (σ10 35 9)), (0, vR 35), (1, vI x1), (2, vI x2), (3, vI x3)]) d_Mo_were_57 (by decide) rfl (?_ : WM _ 59 _ _ _ _)
        refine r_iconst d_Mo_were_59 (by decide) (?_ : WM _ 60 _ _ _ _)
        refine r_istore (ls' := [(6, vI 0), (5, vI 0), (4, vI (σ10 35 9)), (0, vR 35), (1, vI x1), (2, vI x2), (3, vI x3)]) d_Mo_were_60 (by decide) rfl (?_ : WM _ 62 _ _ _ _)
        refine r_pick (ls' := [(0, vR 35), (1, vI x1), (2, vI x2), (3, vI x3), (4, vI (σ10 35 9)), (5, vI 0), (6, vI 0)]) [3, 4, 5, 6, 2, 1, 0] rfl ?_
        exact h
      · replace h := h.2 c9
        refine r_bipush d_Mo_were_43 (by decide) (by decide) (?_ : WM _ 45 _ _ _ _)
        exact r_ireturn rfl d_Mo_were_45 h
  · replace h := h.2 c3
    refine r_bipush d_Mo_were_17 (by decide) (by decide) (?_ : WM _ 19 _ _ _ _)
    exact r_ireturn rfl d_Mo_were_19 h
set_option maxRecDepth 20000 in
theorem l_Mo_were_1 {K : Int → St → Prop} {σ : St} (x1 : Int) (x2 : Int) (x3 : Int) (x4 : Int) (x5 : Int) (x6 : Int) (h : ((σ 35 6) ≤ x6 → CV M_Mo_laysRest [vR 35, vI x1] (ups σ 35 9 x1) (fun σ13 => WM M_Mo_were 103 [(0, vR 35), (2, vI x2), (3, vI x3), (4, vI x4), (5, vI x5), (6, vI 0)] [] σ13 (QI K))) ∧ (¬ (σ 35 6) ≤ x6 → CI M_Mo_isDrawn [vR 35, vI x6] σ (fun v16 σ15 => (0 ≤ x6) ∧ (x6 < 48) ∧ (v16 = 0 ∨ v16 = 1) ∧ (inR (x6 + 1)) ∧ WM M_Mo_were 62 [(0, vR 35), (1, vI x1), (2, vI x2), (3, vI x3), (4, vI x4), (5, vI x5), (6, vI (x6 + 1))] [] (ups σ15 53 x6 v16) (QI K)))) : WM M_Mo_were 62 [(0, vR 35), (1, vI x1), (2, vI x2), (3, vI x3), (4, vI x4), (5, vI x5), (6, vI x6)] [] σ (QI K) := by
  refine r_iload d_Mo_were_62 rfl (?_ : WM _ 64 _ _ _ _)
  refine r_aload_n d_Mo_were_64 rfl (?_ : WM _ 65 _ _ _ _)
  refine r_getI (k := 35) (j := 6) 6 (by decide) rfl clk_11 (by decide) (qm_5 (i := 42) rfl rfl) rfl rfl d_Mo_were_65 (y := (σ 35 6)) rfl (?_ : WM _ 68 _ _ _ _)
  refine r_icmp_ge 90 d_Mo_were_68 rfl ⟨fun c12 => (?_ : WM _ 90 _ _ _ _), fun c12 => (?_ : WM _ 71 _ _ _ _)⟩
  · replace h := h.1 c12
    refine r_aload_n d_Mo_were_90 rfl (?_ : WM _ 91 _ _ _ _)
    refine r_iload_n d_Mo_were_91 rfl (?_ : WM _ 92 _ _ _ _)
    refine r_put (k := 35) (j := 9) 9 (by decide) rfl clk_11 (by decide) (qm_5 (i := 45) rfl rfl) rfl rfl rfl tyX11_ok rfl nmX11 d_Mo_were_92 (?_ : WM _ 95 _ _ _ _)
    refine r_aload_n d_Mo_were_95 rfl (?_ : WM _ 96 _ _ _ _)
    refine r_iload_n d_Mo_were_96 rfl (?_ : WM _ 97 _ _ _ _)
    refine r_callV (ν := M_Mo_laysRest) (k := 35) [vI x1] ok_M_Mo_laysRest okv_M_Mo_laysRest (by decide) rfl rfl rfl (qm_6 (i := 93) rfl rfl) np_M_Mo_laysRest rfl (by decide) (Nat.le_of_ble_eq_true rfl) rfl d_Mo_were_97 (CV.k h (fun σ13 h => (?_ : WM _ 100 _ _ _ _)))
    refine r_iconst d_Mo_were_100 (by decide) (?_ : WM _ 101 _ _ _ _)
    refine r_istore (ls' := [(6, vI 0), (0, vR 35), (1, vI x1), (2, vI x2), (3, vI x3), (4, vI x4), (5, vI x5)]) d_Mo_were_101 (by decide) rfl (?_ : WM _ 103 _ _ _ _)
    refine r_pick (ls' := [(0, vR 35), (2, vI x2), (3, vI x3), (4, vI x4), (5, vI x5), (6, vI 0)]) [1, 3, 4, 5, 6, 0] rfl ?_
    exact h
  · replace h := h.2 c12
    refine r_aload_n d_Mo_were_71 rfl (?_ : WM _ 72 _ _ _ _)
    refine r_getR (k := 35) (j := 35) (q := 53) (by decide) rfl clk_11 (by decide) (qm_5 (i := 71) rfl rfl) rfl d_Mo_were_72 (?_ : WM _ 75 _ _ _ _)
    refine r_iload d_Mo_were_75 rfl (?_ : WM _ 77 _ _ _ _)
    refine r_aload_n d_Mo_were_77 rfl (?_ : WM _ 78 _ _ _ _)
    refine r_iload d_Mo_were_78 rfl (?_ : WM _ 80 _ _ _ _)
    refine r_callV (ν := M_Mo_isDrawn) (k := 35) [vI x6] ok_M_Mo_isDrawn okv_M_Mo_isDrawn (by decide) rfl rfl rfl (qm_6 (i := 133) rfl rfl) np_M_Mo_isDrawn rfl (by decide) (Nat.le_of_ble_eq_true rfl) rfl d_Mo_were_80 (CI.k h (fun v16 σ15 h => (?_ : WM _ 83 _ _ _ _)))
    obtain ⟨h17, h⟩ := h
    obtain ⟨h18, h⟩ := h
    obtain ⟨h19, h⟩ := h
    refine r_zast (k := 53) (n := 48) (by decide) rfl d_Mo_were_83 h17 h18 h19 (?_ : WM _ 84 _ _ _ _)
    obtain ⟨h20, h⟩ := h
    refine r_iinc (ls' := [(6, vI (x6 + 1)), (0, vR 35), (1, vI x1), (2, vI x2), (3, vI x3), (4, vI x4), (5, vI x5)]) d_Mo_were_84 rfl h20 (by decide) rfl (?_ : WM _ 87 _ _ _ _)
    refine r_goto 62 d_Mo_were_87 rfl ?_
    refine r_pick (ls' := [(0, vR 35), (1, vI x1), (2, vI x2), (3, vI x3), (4, vI x4), (5, vI x5), (6, vI (x6 + 1))]) [1, 2, 3, 4, 5, 6, 0] rfl ?_
    exact h
set_option maxRecDepth 20000 in
theorem l_Mo_were_2 {K : Int → St → Prop} {σ : St} (x2 : Int) (x3 : Int) (x4 : Int) (x5 : Int) (x6 : Int) (h : ((σ 35 6) ≤ x6 → (¬ x3 = 1 → K x5 (ups σ 35 9 x4)) ∧ (x3 = 1 → K (σ 35 20) (ups σ 35 9 x4))) ∧ (¬ (σ 35 6) ≤ x6 → CI M_Mo_isCertain [vR 35, vI x6] σ (fun v24 σ23 => (¬ v24 = 0 → (¬ x3 = 0 → WM M_Mo_were 161 [(0, vR 35), (2, vI x2), (3, vI x3), (4, vI x4), (5, vI x5), (6, vI x6), (7, vI 1)] [] σ23 (QI K)) ∧ (x3 = 0 → CI M_Mo_isCertain [vR 35, vI x6] σ23 (fun v28 σ27 => (v28 = 0 → (inR (x5 + 0)) ∧ WM M_Mo_were 161 [(0, vR 35), (2, vI x2), (3, vI x3), (4, vI x4), (5, vI (x5 + 0)), (6, vI x6), (7, vI 1)] [] σ27 (QI K)) ∧ (¬ v28 = 0 → (inR (x5 + 1)) ∧ WM M_Mo_were 161 [(0, vR 35), (2, vI x2), (3, vI x3), (4, vI x4), (5, vI (x5 + 1)), (6, vI x6), (7, vI 1)] [] σ27 (QI K))))) ∧ (v24 = 0 → CI M_Mo_catches [vR 35, vI x2, vI x6] σ23 (fun v33 σ32 => (v33 = 0 → (¬ x3 = 0 → WM M_Mo_were 161 [(0, vR 35), (2, vI x2), (3, vI x3), (4, vI x4), (5, vI x5), (6, vI x6), (7, vI 0)] [] σ32 (QI K)) ∧ (x3 = 0 → CI M_Mo_isCertain [vR 35, vI x6] σ32 (fun v37 σ36 => (v37 = 0 → (inR (x5 + 0)) ∧ WM M_Mo_were 161 [(0, vR 35), (2, vI x2), (3, vI x3), (4, vI x4), (5, vI (x5 + 0)), (6, vI x6), (7, vI 0)] [] σ36 (QI K)) ∧ (¬ v37 = 0 → (inR (x5 + 1)) ∧ WM M_Mo_were 161 [(0, vR 35), (2, vI x2), (3, vI x3), (4, vI x4), (5, vI (x5 + 1)), (6, vI x6), (7, vI 0)] [] σ36 (QI K))))) ∧ (¬ v33 = 0 → (¬ x3 = 0 → WM M_Mo_were 161 [(0, vR 35), (2, vI x2), (3, vI x3), (4, vI x4), (5, vI x5), (6, vI x6), (7, vI 1)] [] σ32 (QI K)) ∧ (x3 = 0 → CI M_Mo_isCertain [vR 35, vI x6] σ32 (fun v43 σ42 => (v43 = 0 → (inR (x5 + 0)) ∧ WM M_Mo_were 161 [(0, vR 35), (2, vI x2), (3, vI x3), (4, vI x4), (5, vI (x5 + 0)), (6, vI x6), (7, vI 1)] [] σ42 (QI K)) ∧ (¬ v43 = 0 → (inR (x5 + 1)) ∧ WM M_Mo_were 161 [(0, vR 35), (2, vI x2), (3, vI x3), (4, vI x4), (5, vI (x5 + 1)), (6, vI x6), (7, vI 1)] [] σ42 (QI K)))))))))) : WM M_Mo_were 103 [(0, vR 35), (2, vI x2), (3, vI x3), (4, vI x4), (5, vI x5), (6, vI x6)] [] σ (QI K) := by
  refine r_iload d_Mo_were_103 rfl (?_ : WM _ 105 _ _ _ _)
  refine r_aload_n d_Mo_were_105 rfl (?_ : WM _ 106 _ _ _ _)
  refine r_getI (k := 35) (j := 6) 6 (by decide) rfl clk_11 (by decide) (qm_5 (i := 42) rfl rfl) rfl rfl d_Mo_were_106 (y := (σ 35 6)) rfl (?_ : WM _ 109 _ _ _ _)
  refine r_icmp_ge 222 d_Mo_were_109 rfl ⟨fun c21 => (?_ : WM _ 222 _ _ _ _), fun c21 => (?_ : WM _ 112 _ _ _ _)⟩
  · replace h := h.1 c21
    refine r_aload_n d_Mo_were_222 rfl (?_ : WM _ 223 _ _ _ _)
    refine r_iload d_Mo_were_223 rfl (?_ : WM _ 225 _ _ _ _)
    refine r_put (k := 35) (j := 9) 9 (by decide) rfl clk_11 (by decide) (qm_5 (i := 45) rfl rfl) rfl rfl rfl tyX11_ok rfl nmX11 d_Mo_were_225 (?_ : WM _ 228 _ _ _ _)
    refine r_iload_n d_Mo_were_228 rfl (?_ : WM _ 229 _ _ _ _)
    refine r_iconst d_Mo_were_229 (by decide) (?_ : WM _ 230 _ _ _ _)
    refine r_icmp_ne 240 d_Mo_were_230 rfl ⟨fun c22 => (?_ : WM _ 240 _ _ _ _), fun c22 => (?_ : WM _ 233 _ _ _ _)⟩
    · replace h := h.1 c22
      refine r_iload d_Mo_were_240 rfl (?_ : WM _ 242 _ _ _ _)
      exact r_ireturn rfl d_Mo_were_242 h
    · replace h := h.2 c22
      refine r_aload_n d_Mo_were_233 rfl (?_ : WM _ 234 _ _ _ _)
      refine r_getI (k := 35) (j := 20) 20 (by decide) rfl clk_11 (by decide) (qm_5 (i := 56) rfl rfl) rfl rfl d_Mo_were_234 (y := (σ 35 20)) (ups_f (by decide)) (?_ : WM _ 237 _ _ _ _)
      refine r_goto 242 d_Mo_were_237 rfl ?_
      exact r_ireturn rfl d_Mo_were_242 h
  · replace h := h.2 c21
    refine r_aload_n d_Mo_were_112 rfl (?_ : WM _ 113 _ _ _ _)
    refine r_iload d_Mo_were_113 rfl (?_ : WM _ 115 _ _ _ _)
    refine r_callV (ν := M_Mo_isCertain) (k := 35) [vI x6] ok_M_Mo_isCertain okv_M_Mo_isCertain (by decide) rfl rfl rfl (qm_6 (i := 27) rfl rfl) np_M_Mo_isCertain rfl (by decide) (Nat.le_of_ble_eq_true rfl) rfl d_Mo_were_115 (CI.k h (fun v24 σ23 h => (?_ : WM _ 118 _ _ _ _)))
    refine r_if_ne 131 d_Mo_were_118 rfl ⟨fun c25 => (?_ : WM _ 131 _ _ _ _), fun c25 => (?_ : WM _ 121 _ _ _ _)⟩
    · replace h := h.1 c25
      refine r_iconst d_Mo_were_131 (by decide) (?_ : WM _ 132 _ _ _ _)
      refine r_goto 136 d_Mo_were_132 rfl ?_
      refine r_istore (ls' := [(7, vI 1), (0, vR 35), (2, vI x2), (3, vI x3), (4, vI x4), (5, vI x5), (6, vI x6)]) d_Mo_were_136 (by decide) rfl (?_ : WM _ 138 _ _ _ _)
      refine r_iload_n d_Mo_were_138 rfl (?_ : WM _ 139 _ _ _ _)
      refine r_if_ne 161 d_Mo_were_139 rfl ⟨fun c26 => (?_ : WM _ 161 _ _ _ _), fun c26 => (?_ : WM _ 142 _ _ _ _)⟩
      · replace h := h.1 c26
        refine r_pick (ls' := [(0, vR 35), (2, vI x2), (3, vI x3), (4, vI x4), (5, vI x5), (6, vI x6), (7, vI 1)]) [1, 2, 3, 4, 5, 6, 0] rfl ?_
        exact h
      · replace h := h.2 c26
        refine r_iload d_Mo_were_142 rfl (?_ : WM _ 144 _ _ _ _)
        refine r_aload_n d_Mo_were_144 rfl (?_ : WM _ 145 _ _ _ _)
        refine r_iload d_Mo_were_145 rfl (?_ : WM _ 147 _ _ _ _)
        refine r_callV (ν := M_Mo_isCertain) (k := 35) [vI x6] ok_M_Mo_isCertain okv_M_Mo_isCertain (by decide) rfl rfl rfl (qm_6 (i := 27) rfl rfl) np_M_Mo_isCertain rfl (by decide) (Nat.le_of_ble_eq_true rfl) rfl d_Mo_were_147 (CI.k h (fun v28 σ27 h => (?_ : WM _ 150 _ _ _ _)))
        refine r_if_eq 157 d_Mo_were_150 rfl ⟨fun c29 => (?_ : WM _ 157 _ _ _ _), fun c29 => (?_ : WM _ 153 _ _ _ _)⟩
        · replace h := h.1 c29
          refine r_iconst d_Mo_were_157 (by decide) (?_ : WM _ 158 _ _ _ _)
          obtain ⟨h30, h⟩ := h
          refine r_iadd d_Mo_were_158 h30 (?_ : WM _ 159 _ _ _ _)
          refine r_istore (ls' := [(5, vI (x5 + 0)), (7, vI 1), (0, vR 35), (2, vI x2), (3, vI x3), (4, vI x4), (6, vI x6)]) d_Mo_were_159 (by decide) rfl (?_ : WM _ 161 _ _ _ _)
          refine r_pick (ls' := [(0, vR 35), (2, vI x2), (3, vI x3), (4, vI x4), (5, vI (x5 + 0)), (6, vI x6), (7, vI 1)]) [2, 3, 4, 5, 0, 6, 1] rfl ?_
          exact h
        · replace h := h.2 c29
          refine r_iconst d_Mo_were_153 (by decide) (?_ : WM _ 154 _ _ _ _)
          refine r_goto 158 d_Mo_were_154 rfl ?_
          obtain ⟨h31, h⟩ := h
          refine r_iadd d_Mo_were_158 h31 (?_ : WM _ 159 _ _ _ _)
          refine r_istore (ls' := [(5, vI (x5 + 1)), (7, vI 1), (0, vR 35), (2, vI x2), (3, vI x3), (4, vI x4), (6, vI x6)]) d_Mo_were_159 (by decide) rfl (?_ : WM _ 161 _ _ _ _)
          refine r_pick (ls' := [(0, vR 35), (2, vI x2), (3, vI x3), (4, vI x4), (5, vI (x5 + 1)), (6, vI x6), (7, vI 1)]) [2, 3, 4, 5, 0, 6, 1] rfl ?_
          exact h
    · replace h := h.2 c25
      refine r_aload_n d_Mo_were_121 rfl (?_ : WM _ 122 _ _ _ _)
      refine r_iload_n d_Mo_were_122 rfl (?_ : WM _ 123 _ _ _ _)
      refine r_iload d_Mo_were_123 rfl (?_ : WM _ 125 _ _ _ _)
      refine r_callV (ν := M_Mo_catches) (k := 35) [vI x2, vI x6] ok_M_Mo_catches okv_M_Mo_catches (by decide) rfl rfl rfl (qm_7 (i := 28) rfl rfl) np_M_Mo_catches rfl (by decide) (Nat.le_of_ble_eq_true rfl) rfl d_Mo_were_125 (CI.k h (fun v33 σ32 h => (?_ : WM _ 128 _ _ _ _)))
      refine r_if_eq 135 d_Mo_were_128 rfl ⟨fun c34 => (?_ : WM _ 135 _ _ _ _), fun c34 => (?_ : WM _ 131 _ _ _ _)⟩
      · replace h := h.1 c34
        refine r_iconst d_Mo_were_135 (by decide) (?_ : WM _ 136 _ _ _ _)
        refine r_istore (ls' := [(7, vI 0), (0, vR 35), (2, vI x2), (3, vI x3), (4, vI x4), (5, vI x5), (6, vI x6)]) d_Mo_were_136 (by decide) rfl (?_ : WM _ 138 _ _ _ _)
        refine r_iload_n d_Mo_were_138 rfl (?_ : WM _ 139 _ _ _ _)
        refine r_if_ne 161 d_Mo_were_139 rfl ⟨fun c35 => (?_ : WM _ 161 _ _ _ _), fun c35 => (?_ : WM _ 142 _ _ _ _)⟩
        · replace h := h.1 c35
          refine r_pick (ls' := [(0, vR 35), (2, vI x2), (3, vI x3), (4, vI x4), (5, vI x5), (6, vI x6), (7, vI 0)]) [1, 2, 3, 4, 5, 6, 0] rfl ?_
          exact h
        · replace h := h.2 c35
          refine r_iload d_Mo_were_142 rfl (?_ : WM _ 144 _ _ _ _)
          refine r_aload_n d_Mo_were_144 rfl (?_ : WM _ 145 _ _ _ _)
          refine r_iload d_Mo_were_145 rfl (?_ : WM _ 147 _ _ _ _)
          refine r_callV (ν := M_Mo_isCertain) (k := 35) [vI x6] ok_M_Mo_isCertain okv_M_Mo_isCertain (by decide) rfl rfl rfl (qm_6 (i := 27) rfl rfl) np_M_Mo_isCertain rfl (by decide) (Nat.le_of_ble_eq_true rfl) rfl d_Mo_were_147 (CI.k h (fun v37 σ36 h => (?_ : WM _ 150 _ _ _ _)))
          refine r_if_eq 157 d_Mo_were_150 rfl ⟨fun c38 => (?_ : WM _ 157 _ _ _ _), fun c38 => (?_ : WM _ 153 _ _ _ _)⟩
          · replace h := h.1 c38
            refine r_iconst d_Mo_were_157 (by decide) (?_ : WM _ 158 _ _ _ _)
            obtain ⟨h39, h⟩ := h
            refine r_iadd d_Mo_were_158 h39 (?_ : WM _ 159 _ _ _ _)
            refine r_istore (ls' := [(5, vI (x5 + 0)), (7, vI 0), (0, vR 35), (2, vI x2), (3, vI x3), (4, vI x4), (6, vI x6)]) d_Mo_were_159 (by decide) rfl (?_ : WM _ 161 _ _ _ _)
            refine r_pick (ls' := [(0, vR 35), (2, vI x2), (3, vI x3), (4, vI x4), (5, vI (x5 + 0)), (6, vI x6), (7, vI 0)]) [2, 3, 4, 5, 0, 6, 1] rfl ?_
            exact h
          · replace h := h.2 c38
            refine r_iconst d_Mo_were_153 (by decide) (?_ : WM _ 154 _ _ _ _)
            refine r_goto 158 d_Mo_were_154 rfl ?_
            obtain ⟨h40, h⟩ := h
            refine r_iadd d_Mo_were_158 h40 (?_ : WM _ 159 _ _ _ _)
            refine r_istore (ls' := [(5, vI (x5 + 1)), (7, vI 0), (0, vR 35), (2, vI x2), (3, vI x3), (4, vI x4), (6, vI x6)]) d_Mo_were_159 (by decide) rfl (?_ : WM _ 161 _ _ _ _)
            refine r_pick (ls' := [(0, vR 35), (2, vI x2), (3, vI x3), (4, vI x4), (5, vI (x5 + 1)), (6, vI x6), (7, vI 0)]) [2, 3, 4, 5, 0, 6, 1] rfl ?_
            exact h
      · replace h := h.2 c34
        refine r_iconst d_Mo_were_131 (by decide) (?_ : WM _ 132 _ _ _ _)
        refine r_goto 136 d_Mo_were_132 rfl ?_
        refine r_istore (ls' := [(7, vI 1), (0, vR 35), (2, vI x2), (3, vI x3), (4, vI x4), (5, vI x5), (6, vI x6)]) d_Mo_were_136 (by decide) rfl (?_ : WM _ 138 _ _ _ _)
        refine r_iload_n d_Mo_were_138 rfl (?_ : WM _ 139 _ _ _ _)
        refine r_if_ne 161 d_Mo_were_139 rfl ⟨fun c41 => (?_ : WM _ 161 _ _ _ _), fun c41 => (?_ : WM _ 142 _ _ _ _)⟩
        · replace h := h.1 c41
          refine r_pick (ls' := [(0, vR 35), (2, vI x2), (3, vI x3), (4, vI x4), (5, vI x5), (6, vI x6), (7, vI 1)]) [1, 2, 3, 4, 5, 6, 0] rfl ?_
          exact h
        · replace h := h.2 c41
          refine r_iload d_Mo_were_142 rfl (?_ : WM _ 144 _ _ _ _)
          refine r_aload_n d_Mo_were_144 rfl (?_ : WM _ 145 _ _ _ _)
          refine r_iload d_Mo_were_145 rfl (?_ : WM _ 147 _ _ _ _)
          refine r_callV (ν := M_Mo_isCertain) (k := 35) [vI x6] ok_M_Mo_isCertain okv_M_Mo_isCertain (by decide) rfl rfl rfl (qm_6 (i := 27) rfl rfl) np_M_Mo_isCertain rfl (by decide) (Nat.le_of_ble_eq_true rfl) rfl d_Mo_were_147 (CI.k h (fun v43 σ42 h => (?_ : WM _ 150 _ _ _ _)))
          refine r_if_eq 157 d_Mo_were_150 rfl ⟨fun c44 => (?_ : WM _ 157 _ _ _ _), fun c44 => (?_ : WM _ 153 _ _ _ _)⟩
          · replace h := h.1 c44
            refine r_iconst d_Mo_were_157 (by decide) (?_ : WM _ 158 _ _ _ _)
            obtain ⟨h45, h⟩ := h
            refine r_iadd d_Mo_were_158 h45 (?_ : WM _ 159 _ _ _ _)
            refine r_istore (ls' := [(5, vI (x5 + 0)), (7, vI 1), (0, vR 35), (2, vI x2), (3, vI x3), (4, vI x4), (6, vI x6)]) d_Mo_were_159 (by decide) rfl (?_ : WM _ 161 _ _ _ _)
            refine r_pick (ls' := [(0, vR 35), (2, vI x2), (3, vI x3), (4, vI x4), (5, vI (x5 + 0)), (6, vI x6), (7, vI 1)]) [2, 3, 4, 5, 0, 6, 1] rfl ?_
            exact h
          · replace h := h.2 c44
            refine r_iconst d_Mo_were_153 (by decide) (?_ : WM _ 154 _ _ _ _)
            refine r_goto 158 d_Mo_were_154 rfl ?_
            obtain ⟨h46, h⟩ := h
            refine r_iadd d_Mo_were_158 h46 (?_ : WM _ 159 _ _ _ _)
            refine r_istore (ls' := [(5, vI (x5 + 1)), (7, vI 1), (0, vR 35), (2, vI x2), (3, vI x3), (4, vI x4), (6, vI x6)]) d_Mo_were_159 (by decide) rfl (?_ : WM _ 161 _ _ _ _)
            refine r_pick (ls' := [(0, vR 35), (2, vI x2), (3, vI x3), (4, vI x4), (5, vI (x5 + 1)), (6, vI x6), (7, vI 1)]) [2, 3, 4, 5, 0, 6, 1] rfl ?_
            exact h
set_option maxRecDepth 20000 in
theorem l_Mo_were_3 {K : Int → St → Prop} {σ : St} (x2 : Int) (x3 : Int) (x4 : Int) (x5 : Int) (x6 : Int) (x7 : Int) (h : (¬ x3 = 2 → WM M_Mo_were 186 [(0, vR 35), (2, vI x2), (3, vI x3), (4, vI x4), (5, vI x5), (6, vI x6), (7, vI x7)] [] σ (QI K)) ∧ (x3 = 2 → CI M_Mo_catches [vR 35, vI x2, vI x6] σ (fun v49 σ48 => (v49 = 0 → (inR (x5 + 0)) ∧ WM M_Mo_were 186 [(0, vR 35), (2, vI x2), (3, vI x3), (4, vI x4), (5, vI (x5 + 0)), (6, vI x6), (7, vI x7)] [] σ48 (QI K)) ∧ (¬ v49 = 0 → (inR (x5 + 1)) ∧ WM M_Mo_were 186 [(0, vR 35), (2, vI x2), (3, vI x3), (4, vI x4), (5, vI (x5 + 1)), (6, vI x6), (7, vI x7)] [] σ48 (QI K))))) : WM M_Mo_were 161 [(0, vR 35), (2, vI x2), (3, vI x3), (4, vI x4), (5, vI x5), (6, vI x6), (7, vI x7)] [] σ (QI K) := by
  refine r_iload_n d_Mo_were_161 rfl (?_ : WM _ 162 _ _ _ _)
  refine r_iconst d_Mo_were_162 (by decide) (?_ : WM _ 163 _ _ _ _)
  refine r_icmp_ne 186 d_Mo_were_163 rfl ⟨fun c47 => (?_ : WM _ 186 _ _ _ _), fun c47 => (?_ : WM _ 166 _ _ _ _)⟩
  · replace h := h.1 c47
    exact h
  · replace h := h.2 c47
    refine r_iload d_Mo_were_166 rfl (?_ : WM _ 168 _ _ _ _)
    refine r_aload_n d_Mo_were_168 rfl (?_ : WM _ 169 _ _ _ _)
    refine r_iload_n d_Mo_were_169 rfl (?_ : WM _ 170 _ _ _ _)
    refine r_iload d_Mo_were_170 rfl (?_ : WM _ 172 _ _ _ _)
    refine r_callV (ν := M_Mo_catches) (k := 35) [vI x2, vI x6] ok_M_Mo_catches okv_M_Mo_catches (by decide) rfl rfl rfl (qm_7 (i := 28) rfl rfl) np_M_Mo_catches rfl (by decide) (Nat.le_of_ble_eq_true rfl) rfl d_Mo_were_172 (CI.k h (fun v49 σ48 h => (?_ : WM _ 175 _ _ _ _)))
    refine r_if_eq 182 d_Mo_were_175 rfl ⟨fun c50 => (?_ : WM _ 182 _ _ _ _), fun c50 => (?_ : WM _ 178 _ _ _ _)⟩
    · replace h := h.1 c50
      refine r_iconst d_Mo_were_182 (by decide) (?_ : WM _ 183 _ _ _ _)
      obtain ⟨h51, h⟩ := h
      refine r_iadd d_Mo_were_183 h51 (?_ : WM _ 184 _ _ _ _)
      refine r_istore (ls' := [(5, vI (x5 + 0)), (0, vR 35), (2, vI x2), (3, vI x3), (4, vI x4), (6, vI x6), (7, vI x7)]) d_Mo_were_184 (by decide) rfl (?_ : WM _ 186 _ _ _ _)
      refine r_pick (ls' := [(0, vR 35), (2, vI x2), (3, vI x3), (4, vI x4), (5, vI (x5 + 0)), (6, vI x6), (7, vI x7)]) [1, 2, 3, 4, 0, 5, 6] rfl ?_
      exact h
    · replace h := h.2 c50
      refine r_iconst d_Mo_were_178 (by decide) (?_ : WM _ 179 _ _ _ _)
      refine r_goto 183 d_Mo_were_179 rfl ?_
      obtain ⟨h52, h⟩ := h
      refine r_iadd d_Mo_were_183 h52 (?_ : WM _ 184 _ _ _ _)
      refine r_istore (ls' := [(5, vI (x5 + 1)), (0, vR 35), (2, vI x2), (3, vI x3), (4, vI x4), (6, vI x6), (7, vI x7)]) d_Mo_were_184 (by decide) rfl (?_ : WM _ 186 _ _ _ _)
      refine r_pick (ls' := [(0, vR 35), (2, vI x2), (3, vI x3), (4, vI x4), (5, vI (x5 + 1)), (6, vI x6), (7, vI x7)]) [1, 2, 3, 4, 0, 5, 6] rfl ?_
      exact h
set_option maxRecDepth 20000 in
theorem l_Mo_were_4 {K : Int → St → Prop} {σ : St} (x2 : Int) (x3 : Int) (x4 : Int) (x5 : Int) (x6 : Int) (x7 : Int) (h : (¬ x3 = 3 → (inR (x6 + 1)) ∧ WM M_Mo_were 103 [(0, vR 35), (2, vI x2), (3, vI x3), (4, vI x4), (5, vI x5), (6, vI (x6 + 1))] [] σ (QI K)) ∧ (x3 = 3 → (0 ≤ x6) ∧ (x6 < 48) ∧ ((σ 53 x6) = 0 → (inR (x5 + 0)) ∧ (inR (x6 + 1)) ∧ WM M_Mo_were 103 [(0, vR 35), (2, vI x2), (3, vI x3), (4, vI x4), (5, vI (x5 + 0)), (6, vI (x6 + 1))] [] σ (QI K)) ∧ (¬ (σ 53 x6) = 0 → (x7 = 0 → (inR (x5 + 0)) ∧ (inR (x6 + 1)) ∧ WM M_Mo_were 103 [(0, vR 35), (2, vI x2), (3, vI x3), (4, vI x4), (5, vI (x5 + 0)), (6, vI (x6 + 1))] [] σ (QI K)) ∧ (¬ x7 = 0 → (inR (x5 + 1)) ∧ (inR (x6 + 1)) ∧ WM M_Mo_were 103 [(0, vR 35), (2, vI x2), (3, vI x3), (4, vI x4), (5, vI (x5 + 1)), (6, vI (x6 + 1))] [] σ (QI K))))) : WM M_Mo_were 186 [(0, vR 35), (2, vI x2), (3, vI x3), (4, vI x4), (5, vI x5), (6, vI x6), (7, vI x7)] [] σ (QI K) := by
  refine r_iload_n d_Mo_were_186 rfl (?_ : WM _ 187 _ _ _ _)
  refine r_iconst d_Mo_were_187 (by decide) (?_ : WM _ 188 _ _ _ _)
  refine r_icmp_ne 216 d_Mo_were_188 rfl ⟨fun c53 => (?_ : WM _ 216 _ _ _ _), fun c53 => (?_ : WM _ 191 _ _ _ _)⟩
  · replace h := h.1 c53
    obtain ⟨h54, h⟩ := h
    refine r_iinc (ls' := [(6, vI (x6 + 1)), (0, vR 35), (2, vI x2), (3, vI x3), (4, vI x4), (5, vI x5), (7, vI x7)]) d_Mo_were_216 rfl h54 (by decide) rfl (?_ : WM _ 219 _ _ _ _)
    refine r_goto 103 d_Mo_were_219 rfl ?_
    refine r_pick (ls' := [(0, vR 35), (2, vI x2), (3, vI x3), (4, vI x4), (5, vI x5), (6, vI (x6 + 1))]) [1, 2, 3, 4, 5, 0] rfl ?_
    exact h
  · replace h := h.2 c53
    refine r_iload d_Mo_were_191 rfl (?_ : WM _ 193 _ _ _ _)
    refine r_aload_n d_Mo_were_193 rfl (?_ : WM _ 194 _ _ _ _)
    refine r_getR (k := 35) (j := 35) (q := 53) (by decide) rfl clk_11 (by decide) (qm_5 (i := 71) rfl rfl) rfl d_Mo_were_194 (?_ : WM _ 197 _ _ _ _)
    refine r_iload d_Mo_were_197 rfl (?_ : WM _ 199 _ _ _ _)
    obtain ⟨h55, h⟩ := h
    obtain ⟨h56, h⟩ := h
    refine r_zald (k := 53) (n := 48) (by decide) rfl d_Mo_were_199 h55 h56 (y := (σ 53 x6)) rfl (?_ : WM _ 200 _ _ _ _)
    refine r_if_eq 212 d_Mo_were_200 rfl ⟨fun c57 => (?_ : WM _ 212 _ _ _ _), fun c57 => (?_ : WM _ 203 _ _ _ _)⟩
    · replace h := h.1 c57
      refine r_iconst d_Mo_were_212 (by decide) (?_ : WM _ 213 _ _ _ _)
      obtain ⟨h58, h⟩ := h
      refine r_iadd d_Mo_were_213 h58 (?_ : WM _ 214 _ _ _ _)
      refine r_istore (ls' := [(5, vI (x5 + 0)), (0, vR 35), (2, vI x2), (3, vI x3), (4, vI x4), (6, vI x6), (7, vI x7)]) d_Mo_were_214 (by decide) rfl (?_ : WM _ 216 _ _ _ _)
      obtain ⟨h59, h⟩ := h
      refine r_iinc (ls' := [(6, vI (x6 + 1)), (5, vI (x5 + 0)), (0, vR 35), (2, vI x2), (3, vI x3), (4, vI x4), (7, vI x7)]) d_Mo_were_216 rfl h59 (by decide) rfl (?_ : WM _ 219 _ _ _ _)
      refine r_goto 103 d_Mo_were_219 rfl ?_
      refine r_pick (ls' := [(0, vR 35), (2, vI x2), (3, vI x3), (4, vI x4), (5, vI (x5 + 0)), (6, vI (x6 + 1))]) [2, 3, 4, 5, 1, 0] rfl ?_
      exact h
    · replace h := h.2 c57
      refine r_iload d_Mo_were_203 rfl (?_ : WM _ 205 _ _ _ _)
      refine r_if_eq 212 d_Mo_were_205 rfl ⟨fun c60 => (?_ : WM _ 212 _ _ _ _), fun c60 => (?_ : WM _ 208 _ _ _ _)⟩
      · replace h := h.1 c60
        refine r_iconst d_Mo_were_212 (by decide) (?_ : WM _ 213 _ _ _ _)
        obtain ⟨h61, h⟩ := h
        refine r_iadd d_Mo_were_213 h61 (?_ : WM _ 214 _ _ _ _)
        refine r_istore (ls' := [(5, vI (x5 + 0)), (0, vR 35), (2, vI x2), (3, vI x3), (4, vI x4), (6, vI x6), (7, vI x7)]) d_Mo_were_214 (by decide) rfl (?_ : WM _ 216 _ _ _ _)
        obtain ⟨h62, h⟩ := h
        refine r_iinc (ls' := [(6, vI (x6 + 1)), (5, vI (x5 + 0)), (0, vR 35), (2, vI x2), (3, vI x3), (4, vI x4), (7, vI x7)]) d_Mo_were_216 rfl h62 (by decide) rfl (?_ : WM _ 219 _ _ _ _)
        refine r_goto 103 d_Mo_were_219 rfl ?_
        refine r_pick (ls' := [(0, vR 35), (2, vI x2), (3, vI x3), (4, vI x4), (5, vI (x5 + 0)), (6, vI (x6 + 1))]) [2, 3, 4, 5, 1, 0] rfl ?_
        exact h
      · replace h := h.2 c60
        refine r_iconst d_Mo_were_208 (by decide) (?_ : WM _ 209 _ _ _ _)
        refine r_goto 213 d_Mo_were_209 rfl ?_
        obtain ⟨h63, h⟩ := h
        refine r_iadd d_Mo_were_213 h63 (?_ : WM _ 214 _ _ _ _)
        refine r_istore (ls' := [(5, vI (x5 + 1)), (0, vR 35), (2, vI x2), (3, vI x3), (4, vI x4), (6, vI x6), (7, vI x7)]) d_Mo_were_214 (by decide) rfl (?_ : WM _ 216 _ _ _ _)
        obtain ⟨h64, h⟩ := h
        refine r_iinc (ls' := [(6, vI (x6 + 1)), (5, vI (x5 + 1)), (0, vR 35), (2, vI x2), (3, vI x3), (4, vI x4), (7, vI x7)]) d_Mo_were_216 rfl h64 (by decide) rfl (?_ : WM _ 219 _ _ _ _)
        refine r_goto 103 d_Mo_were_219 rfl ?_
        refine r_pick (ls' := [(0, vR 35), (2, vI x2), (3, vI x3), (4, vI x4), (5, vI (x5 + 1)), (6, vI (x6 + 1))]) [2, 3, 4, 5, 1, 0] rfl ?_
        exact h
set_option maxRecDepth 20000 in
theorem e_Mo_both {K : Int → St → Prop} {σ : St} (x1 : Int) (x2 : Int) (h : CV M_Mo_laysRest [vR 35, vI (σ 35 9)] (ups σ 35 0 0) (fun σ1 => CI M_Mo_isItem [vR 35, vI x1] σ1 (fun v4 σ3 => (v4 = 0 → K (-2) σ3) ∧ (¬ v4 = 0 → CI M_Mo_isItem [vR 35, vI x2] σ3 (fun v7 σ6 => (v7 = 0 → K (-2) σ6) ∧ (¬ v7 = 0 → (0 ≤ x1) ∧ (x1 < 48) ∧ ((σ6 44 x1) = 0 → K (-2) σ6) ∧ (¬ (σ6 44 x1) = 0 → (0 ≤ x2) ∧ (x2 < 48) ∧ (¬ (σ6 44 x2) = 0 → (¬ (σ6 35 9) = 0 → CV M_Mo_laysTurns [vR 35] σ6 (fun σ16 => WM M_Mo_both 69 [(0, vR 35), (1, vI x1), (2, vI x2), (3, vI 0), (4, vI 0)] [] σ16 (QI K))) ∧ ((σ6 35 9) = 0 → K (-5) σ6)) ∧ ((σ6 44 x2) = 0 → K (-2) σ6)))))))) : CI M_Mo_both [vR 35, vI x1, vI x2] σ K := by
  refine Con.of ok_M_Mo_both (ls := [(0, vR 35), (1, vI x1), (2, vI x2)]) rfl (Nat.le_of_ble_eq_true rfl) ?_
  refine r_aload_n d_Mo_both_0 rfl (?_ : WM _ 1 _ _ _ _)
  refine r_iconst d_Mo_both_1 (by decide) (?_ : WM _ 2 _ _ _ _)
  refine r_put (k := 35) (j := 0) 0 (by decide) rfl clk_11 (by decide) (qm_5 (i := 36) rfl rfl) rfl rfl rfl tyX11_ok rfl nmX11 d_Mo_both_2 (?_ : WM _ 5 _ _ _ _)
  refine r_aload_n d_Mo_both_5 rfl (?_ : WM _ 6 _ _ _ _)
  refine r_aload_n d_Mo_both_6 rfl (?_ : WM _ 7 _ _ _ _)
  refine r_getI (k := 35) (j := 9) 9 (by decide) rfl clk_11 (by decide) (qm_5 (i := 45) rfl rfl) rfl rfl d_Mo_both_7 (y := (σ 35 9)) (ups_f (by decide)) (?_ : WM _ 10 _ _ _ _)
  refine r_callV (ν := M_Mo_laysRest) (k := 35) [vI (σ 35 9)] ok_M_Mo_laysRest okv_M_Mo_laysRest (by decide) rfl rfl rfl (qm_6 (i := 93) rfl rfl) np_M_Mo_laysRest rfl (by decide) (Nat.le_of_ble_eq_true rfl) rfl d_Mo_both_10 (CV.k h (fun σ1 h => (?_ : WM _ 13 _ _ _ _)))
  refine r_aload_n d_Mo_both_13 rfl (?_ : WM _ 14 _ _ _ _)
  refine r_iload_n d_Mo_both_14 rfl (?_ : WM _ 15 _ _ _ _)
  refine r_callV (ν := M_Mo_isItem) (k := 35) [vI x1] ok_M_Mo_isItem okv_M_Mo_isItem (by decide) rfl rfl rfl (qm_5 (i := 229) rfl rfl) np_M_Mo_isItem rfl (by decide) (Nat.le_of_ble_eq_true rfl) rfl d_Mo_both_15 (CI.k h (fun v4 σ3 h => (?_ : WM _ 18 _ _ _ _)))
  refine r_if_eq 47 d_Mo_both_18 rfl ⟨fun c5 => (?_ : WM _ 47 _ _ _ _), fun c5 => (?_ : WM _ 21 _ _ _ _)⟩
  · replace h := h.1 c5
    refine r_bipush d_Mo_both_47 (by decide) (by decide) (?_ : WM _ 49 _ _ _ _)
    exact r_ireturn rfl d_Mo_both_49 h
  · replace h := h.2 c5
    refine r_aload_n d_Mo_both_21 rfl (?_ : WM _ 22 _ _ _ _)
    refine r_iload_n d_Mo_both_22 rfl (?_ : WM _ 23 _ _ _ _)
    refine r_callV (ν := M_Mo_isItem) (k := 35) [vI x2] ok_M_Mo_isItem okv_M_Mo_isItem (by decide) rfl rfl rfl (qm_5 (i := 229) rfl rfl) np_M_Mo_isItem rfl (by decide) (Nat.le_of_ble_eq_true rfl) rfl d_Mo_both_23 (CI.k h (fun v7 σ6 h => (?_ : WM _ 26 _ _ _ _)))
    refine r_if_eq 47 d_Mo_both_26 rfl ⟨fun c8 => (?_ : WM _ 47 _ _ _ _), fun c8 => (?_ : WM _ 29 _ _ _ _)⟩
    · replace h := h.1 c8
      refine r_bipush d_Mo_both_47 (by decide) (by decide) (?_ : WM _ 49 _ _ _ _)
      exact r_ireturn rfl d_Mo_both_49 h
    · replace h := h.2 c8
      refine r_aload_n d_Mo_both_29 rfl (?_ : WM _ 30 _ _ _ _)
      refine r_getR (k := 35) (j := 19) (q := 44) (by decide) rfl clk_11 (by decide) (qm_5 (i := 55) rfl rfl) rfl d_Mo_both_30 (?_ : WM _ 33 _ _ _ _)
      refine r_iload_n d_Mo_both_33 rfl (?_ : WM _ 34 _ _ _ _)
      obtain ⟨h9, h⟩ := h
      obtain ⟨h10, h⟩ := h
      refine r_iald (k := 44) (n := 48) (by decide) rfl d_Mo_both_34 h9 h10 (y := (σ6 44 x1)) rfl (?_ : WM _ 35 _ _ _ _)
      refine r_if_eq 47 d_Mo_both_35 rfl ⟨fun c11 => (?_ : WM _ 47 _ _ _ _), fun c11 => (?_ : WM _ 38 _ _ _ _)⟩
      · replace h := h.1 c11
        refine r_bipush d_Mo_both_47 (by decide) (by decide) (?_ : WM _ 49 _ _ _ _)
        exact r_ireturn rfl d_Mo_both_49 h
      · replace h := h.2 c11
        refine r_aload_n d_Mo_both_38 rfl (?_ : WM _ 39 _ _ _ _)
        refine r_getR (k := 35) (j := 19) (q := 44) (by decide) rfl clk_11 (by decide) (qm_5 (i := 55) rfl rfl) rfl d_Mo_both_39 (?_ : WM _ 42 _ _ _ _)
        refine r_iload_n d_Mo_both_42 rfl (?_ : WM _ 43 _ _ _ _)
        obtain ⟨h12, h⟩ := h
        obtain ⟨h13, h⟩ := h
        refine r_iald (k := 44) (n := 48) (by decide) rfl d_Mo_both_43 h12 h13 (y := (σ6 44 x2)) rfl (?_ : WM _ 44 _ _ _ _)
        refine r_if_ne 50 d_Mo_both_44 rfl ⟨fun c14 => (?_ : WM _ 50 _ _ _ _), fun c14 => (?_ : WM _ 47 _ _ _ _)⟩
        · replace h := h.1 c14
          refine r_aload_n d_Mo_both_50 rfl (?_ : WM _ 51 _ _ _ _)
          refine r_getI (k := 35) (j := 9) 9 (by decide) rfl clk_11 (by decide) (qm_5 (i := 45) rfl rfl) rfl rfl d_Mo_both_51 (y := (σ6 35 9)) rfl (?_ : WM _ 54 _ _ _ _)
          refine r_if_ne 60 d_Mo_both_54 rfl ⟨fun c15 => (?_ : WM _ 60 _ _ _ _), fun c15 => (?_ : WM _ 57 _ _ _ _)⟩
          · replace h := h.1 c15
            refine r_aload_n d_Mo_both_60 rfl (?_ : WM _ 61 _ _ _ _)
            refine r_callV (ν := M_Mo_laysTurns) (k := 35) [] ok_M_Mo_laysTurns okv_M_Mo_laysTurns (by decide) rfl rfl rfl (qm_7 (i := 41) rfl rfl) np_M_Mo_laysTurns rfl (by decide) (Nat.le_of_ble_eq_true rfl) rfl d_Mo_both_61 (CV.k h (fun σ16 h => (?_ : WM _ 64 _ _ _ _)))
            refine r_iconst d_Mo_both_64 (by decide) (?_ : WM _ 65 _ _ _ _)
            refine r_istore_n (ls' := [(3, vI 0), (0, vR 35), (1, vI x1), (2, vI x2)]) d_Mo_both_65 rfl (by decide) rfl (?_ : WM _ 66 _ _ _ _)
            refine r_iconst d_Mo_both_66 (by decide) (?_ : WM _ 67 _ _ _ _)
            refine r_istore (ls' := [(4, vI 0), (3, vI 0), (0, vR 35), (1, vI x1), (2, vI x2)]) d_Mo_both_67 (by decide) rfl (?_ : WM _ 69 _ _ _ _)
            refine r_pick (ls' := [(0, vR 35), (1, vI x1), (2, vI x2), (3, vI 0), (4, vI 0)]) [2, 3, 4, 1, 0] rfl ?_
            exact h
          · replace h := h.2 c15
            refine r_bipush d_Mo_both_57 (by decide) (by decide) (?_ : WM _ 59 _ _ _ _)
            exact r_ireturn rfl d_Mo_both_59 h
        · replace h := h.2 c14
          refine r_bipush d_Mo_both_47 (by decide) (by decide) (?_ : WM _ 49 _ _ _ _)
          exact r_ireturn rfl d_Mo_both_49 h
set_option maxRecDepth 20000 in
theorem l_Mo_both_1 {K : Int → St → Prop} {σ : St} (x1 : Int) (x2 : Int) (x3 : Int) (x4 : Int) (h : ((σ 35 34) ≤ x4 → K x3 σ) ∧ (¬ (σ 35 34) ≤ x4 → (0 ≤ x4) ∧ (x4 < 98) ∧ CI M_Mo_catches [vR 35, vI (σ 52 x4), vI x1] σ (fun v22 σ21 => (v22 = 0 → (inR (x3 + 0)) ∧ (inR (x4 + 1)) ∧ WM M_Mo_both 69 [(0, vR 35), (1, vI x1), (2, vI x2), (3, vI (x3 + 0)), (4, vI (x4 + 1))] [] σ21 (QI K)) ∧ (¬ v22 = 0 → CI M_Mo_catches [vR 35, vI (σ21 52 x4), vI x2] σ21 (fun v27 σ26 => (v27 = 0 → (inR (x3 + 0)) ∧ (inR (x4 + 1)) ∧ WM M_Mo_both 69 [(0, vR 35), (1, vI x1), (2, vI x2), (3, vI (x3 + 0)), (4, vI (x4 + 1))] [] σ26 (QI K)) ∧ (¬ v27 = 0 → CI M_Mo_turnLong [vR 35, vI x4] σ26 (fun v32 σ31 => (inR (x3 + v32)) ∧ (inR (x4 + 1)) ∧ WM M_Mo_both 69 [(0, vR 35), (1, vI x1), (2, vI x2), (3, vI (x3 + v32)), (4, vI (x4 + 1))] [] σ31 (QI K)))))))) : WM M_Mo_both 69 [(0, vR 35), (1, vI x1), (2, vI x2), (3, vI x3), (4, vI x4)] [] σ (QI K) := by
  refine r_iload d_Mo_both_69 rfl (?_ : WM _ 71 _ _ _ _)
  refine r_aload_n d_Mo_both_71 rfl (?_ : WM _ 72 _ _ _ _)
  refine r_getI (k := 35) (j := 34) 34 (by decide) rfl clk_11 (by decide) (qm_5 (i := 70) rfl rfl) rfl rfl d_Mo_both_72 (y := (σ 35 34)) rfl (?_ : WM _ 75 _ _ _ _)
  refine r_icmp_ge 127 d_Mo_both_75 rfl ⟨fun c18 => (?_ : WM _ 127 _ _ _ _), fun c18 => (?_ : WM _ 78 _ _ _ _)⟩
  · replace h := h.1 c18
    refine r_iload_n d_Mo_both_127 rfl (?_ : WM _ 128 _ _ _ _)
    exact r_ireturn rfl d_Mo_both_128 h
  · replace h := h.2 c18
    refine r_iload_n d_Mo_both_78 rfl (?_ : WM _ 79 _ _ _ _)
    refine r_aload_n d_Mo_both_79 rfl (?_ : WM _ 80 _ _ _ _)
    refine r_aload_n d_Mo_both_80 rfl (?_ : WM _ 81 _ _ _ _)
    refine r_getR (k := 35) (j := 33) (q := 52) (by decide) rfl clk_11 (by decide) (qm_5 (i := 69) rfl rfl) rfl d_Mo_both_81 (?_ : WM _ 84 _ _ _ _)
    refine r_iload d_Mo_both_84 rfl (?_ : WM _ 86 _ _ _ _)
    obtain ⟨h19, h⟩ := h
    obtain ⟨h20, h⟩ := h
    refine r_iald (k := 52) (n := 98) (by decide) rfl d_Mo_both_86 h19 h20 (y := (σ 52 x4)) rfl (?_ : WM _ 87 _ _ _ _)
    refine r_iload_n d_Mo_both_87 rfl (?_ : WM _ 88 _ _ _ _)
    refine r_callV (ν := M_Mo_catches) (k := 35) [vI (σ 52 x4), vI x1] ok_M_Mo_catches okv_M_Mo_catches (by decide) rfl rfl rfl (qm_7 (i := 28) rfl rfl) np_M_Mo_catches rfl (by decide) (Nat.le_of_ble_eq_true rfl) rfl d_Mo_both_88 (CI.k h (fun v22 σ21 h => (?_ : WM _ 91 _ _ _ _)))
    refine r_if_eq 118 d_Mo_both_91 rfl ⟨fun c23 => (?_ : WM _ 118 _ _ _ _), fun c23 => (?_ : WM _ 94 _ _ _ _)⟩
    · replace h := h.1 c23
      refine r_iconst d_Mo_both_118 (by decide) (?_ : WM _ 119 _ _ _ _)
      obtain ⟨h24, h⟩ := h
      refine r_iadd d_Mo_both_119 h24 (?_ : WM _ 120 _ _ _ _)
      refine r_istore_n (ls' := [(3, vI (x3 + 0)), (0, vR 35), (1, vI x1), (2, vI x2), (4, vI x4)]) d_Mo_both_120 rfl (by decide) rfl (?_ : WM _ 121 _ _ _ _)
      obtain ⟨h25, h⟩ := h
      refine r_iinc (ls' := [(4, vI (x4 + 1)), (3, vI (x3 + 0)), (0, vR 35), (1, vI x1), (2, vI x2)]) d_Mo_both_121 rfl h25 (by decide) rfl (?_ : WM _ 124 _ _ _ _)
      refine r_goto 69 d_Mo_both_124 rfl ?_
      refine r_pick (ls' := [(0, vR 35), (1, vI x1), (2, vI x2), (3, vI (x3 + 0)), (4, vI (x4 + 1))]) [2, 3, 4, 1, 0] rfl ?_
      exact h
    · replace h := h.2 c23
      refine r_aload_n d_Mo_both_94 rfl (?_ : WM _ 95 _ _ _ _)
      refine r_aload_n d_Mo_both_95 rfl (?_ : WM _ 96 _ _ _ _)
      refine r_getR (k := 35) (j := 33) (q := 52) (by decide) rfl clk_11 (by decide) (qm_5 (i := 69) rfl rfl) rfl d_Mo_both_96 (?_ : WM _ 99 _ _ _ _)
      refine r_iload d_Mo_both_99 rfl (?_ : WM _ 101 _ _ _ _)
      refine r_iald (k := 52) (n := 98) (by decide) rfl d_Mo_both_101 h19 h20 (y := (σ21 52 x4)) rfl (?_ : WM _ 102 _ _ _ _)
      refine r_iload_n d_Mo_both_102 rfl (?_ : WM _ 103 _ _ _ _)
      refine r_callV (ν := M_Mo_catches) (k := 35) [vI (σ21 52 x4), vI x2] ok_M_Mo_catches okv_M_Mo_catches (by decide) rfl rfl rfl (qm_7 (i := 28) rfl rfl) np_M_Mo_catches rfl (by decide) (Nat.le_of_ble_eq_true rfl) rfl d_Mo_both_103 (CI.k h (fun v27 σ26 h => (?_ : WM _ 106 _ _ _ _)))
      refine r_if_eq 118 d_Mo_both_106 rfl ⟨fun c28 => (?_ : WM _ 118 _ _ _ _), fun c28 => (?_ : WM _ 109 _ _ _ _)⟩
      · replace h := h.1 c28
        refine r_iconst d_Mo_both_118 (by decide) (?_ : WM _ 119 _ _ _ _)
        obtain ⟨h29, h⟩ := h
        refine r_iadd d_Mo_both_119 h29 (?_ : WM _ 120 _ _ _ _)
        refine r_istore_n (ls' := [(3, vI (x3 + 0)), (0, vR 35), (1, vI x1), (2, vI x2), (4, vI x4)]) d_Mo_both_120 rfl (by decide) rfl (?_ : WM _ 121 _ _ _ _)
        obtain ⟨h30, h⟩ := h
        refine r_iinc (ls' := [(4, vI (x4 + 1)), (3, vI (x3 + 0)), (0, vR 35), (1, vI x1), (2, vI x2)]) d_Mo_both_121 rfl h30 (by decide) rfl (?_ : WM _ 124 _ _ _ _)
        refine r_goto 69 d_Mo_both_124 rfl ?_
        refine r_pick (ls' := [(0, vR 35), (1, vI x1), (2, vI x2), (3, vI (x3 + 0)), (4, vI (x4 + 1))]) [2, 3, 4, 1, 0] rfl ?_
        exact h
      · replace h := h.2 c28
        refine r_aload_n d_Mo_both_109 rfl (?_ : WM _ 110 _ _ _ _)
        refine r_iload d_Mo_both_110 rfl (?_ : WM _ 112 _ _ _ _)
        refine r_callV (ν := M_Mo_turnLong) (k := 35) [vI x4] ok_M_Mo_turnLong okv_M_Mo_turnLong (by decide) rfl rfl rfl (qm_7 (i := 53) rfl rfl) np_M_Mo_turnLong rfl (by decide) (Nat.le_of_ble_eq_true rfl) rfl d_Mo_both_112 (CI.k h (fun v32 σ31 h => (?_ : WM _ 115 _ _ _ _)))
        refine r_goto 119 d_Mo_both_115 rfl ?_
        obtain ⟨h33, h⟩ := h
        refine r_iadd d_Mo_both_119 h33 (?_ : WM _ 120 _ _ _ _)
        refine r_istore_n (ls' := [(3, vI (x3 + v32)), (0, vR 35), (1, vI x1), (2, vI x2), (4, vI x4)]) d_Mo_both_120 rfl (by decide) rfl (?_ : WM _ 121 _ _ _ _)
        obtain ⟨h34, h⟩ := h
        refine r_iinc (ls' := [(4, vI (x4 + 1)), (3, vI (x3 + v32)), (0, vR 35), (1, vI x1), (2, vI x2)]) d_Mo_both_121 rfl h34 (by decide) rfl (?_ : WM _ 124 _ _ _ _)
        refine r_goto 69 d_Mo_both_124 rfl ?_
        refine r_pick (ls' := [(0, vR 35), (1, vI x1), (2, vI x2), (3, vI (x3 + v32)), (4, vI (x4 + 1))]) [2, 3, 4, 1, 0] rfl ?_
        exact h
set_option maxRecDepth 20000 in
theorem e_Mo_count {K : Int → St → Prop} {σ : St} (x1 : Int) (h : CV M_Mo_laysHits [vR 35] (ups σ 35 0 0) (fun σ1 => CI M_Mo_isIn [vL x1, vL 10, vL 14] σ1 (fun v4 σ3 => (v4 = 0 → (x1 = 0 → K (σ3 35 6) σ3) ∧ (x1 = 1 → CI M_Mo_allCoins [vR 35] σ3 (fun v7 σ6 => K v7 σ6)) ∧ (x1 = 2 → K (σ3 35 20) σ3) ∧ (x1 = 3 → K (σ3 35 9) σ3) ∧ (x1 = 4 → K (σ3 35 10) σ3) ∧ (x1 = 5 → K (σ3 35 25) σ3) ∧ (x1 = 6 → CI M_Mo_manyOf [vR 35, vI x1] σ3 (fun v9 σ8 => K v9 σ8)) ∧ (x1 = 7 → K (σ3 35 13) σ3) ∧ (x1 = 8 → CI M_Mo_manyOf [vR 35, vI x1] σ3 (fun v11 σ10 => K v11 σ10)) ∧ (x1 = 9 → K (σ3 35 11) σ3) ∧ (x1 < 0 ∨ 9 < x1 → K (-1) σ3)) ∧ (¬ v4 = 0 → (inR (x1 - 10)) ∧ (0 ≤ (x1 - 10)) ∧ ((x1 - 10) < 5) ∧ K (σ3 36 (x1 - 10)) σ3)))) : CI M_Mo_count [vR 35, vI x1] σ K := by
  refine Con.of ok_M_Mo_count (ls := [(0, vR 35), (1, vI x1)]) rfl (Nat.le_of_ble_eq_true rfl) ?_
  refine r_aload_n d_Mo_count_0 rfl (?_ : WM _ 1 _ _ _ _)
  refine r_iconst d_Mo_count_1 (by decide) (?_ : WM _ 2 _ _ _ _)
  refine r_put (k := 35) (j := 0) 0 (by decide) rfl clk_11 (by decide) (qm_5 (i := 36) rfl rfl) rfl rfl rfl tyX11_ok rfl nmX11 d_Mo_count_2 (?_ : WM _ 5 _ _ _ _)
  refine r_aload_n d_Mo_count_5 rfl (?_ : WM _ 6 _ _ _ _)
  refine r_callV (ν := M_Mo_laysHits) (k := 35) [] ok_M_Mo_laysHits okv_M_Mo_laysHits (by decide) rfl rfl rfl (qm_6 (i := 89) rfl rfl) np_M_Mo_laysHits rfl (by decide) (Nat.le_of_ble_eq_true rfl) rfl d_Mo_count_6 (CV.k h (fun σ1 h => (?_ : WM _ 9 _ _ _ _)))
  refine r_iload_n d_Mo_count_9 rfl (?_ : WM _ 10 _ _ _ _)
  refine r_i2l d_Mo_count_10 (?_ : WM _ 11 _ _ _ _)
  refine r_ldc2 10 d_Mo_count_11 (qm_7 (i := 80) rfl rfl) (by decide) (by decide) (?_ : WM _ 14 _ _ _ _)
  refine r_ldc2 14 d_Mo_count_14 (qm_7 (i := 81) rfl rfl) (by decide) (by decide) (?_ : WM _ 17 _ _ _ _)
  refine r_callS (ν := M_Mo_isIn) [vL x1, vL 10, vL 14] ok_M_Mo_isIn oks_M_Mo_isIn (qm_5 (i := 153) rfl rfl) np_M_Mo_isIn rfl (by decide) (Nat.le_of_ble_eq_true rfl) rfl d_Mo_count_17 (CI.k h (fun v4 σ3 h => (?_ : WM _ 20 _ _ _ _)))
  refine r_if_eq 33 d_Mo_count_20 rfl ⟨fun c5 => (?_ : WM _ 33 _ _ _ _), fun c5 => (?_ : WM _ 23 _ _ _ _)⟩
  · replace h := h.1 c5
    refine r_iload_n d_Mo_count_33 rfl (?_ : WM _ 34 _ _ _ _)
    have hsw : (x1 = 0) ∨ (x1 = 1) ∨ (x1 = 2) ∨ (x1 = 3) ∨ (x1 = 4) ∨ (x1 = 5) ∨ (x1 = 6) ∨ (x1 = 7) ∨ (x1 = 8) ∨ (x1 = 9) ∨ (x1 < 0 ∨ 9 < x1) := by omega
    rcases hsw with hc | hc | hc | hc | hc | hc | hc | hc | hc | hc | hc
    · replace h := h.1 hc
      refine r_tswIn 88 d_Mo_count_34 (by omega) (by omega) (by rw [hc]; rfl) rfl ?_
      refine r_aload_n d_Mo_count_88 rfl (?_ : WM _ 89 _ _ _ _)
      refine r_getI (k := 35) (j := 6) 6 (by decide) rfl clk_11 (by decide) (qm_5 (i := 42) rfl rfl) rfl rfl d_Mo_count_89 (y := (σ3 35 6)) rfl (?_ : WM _ 92 _ _ _ _)
      exact r_ireturn rfl d_Mo_count_92 h
    · replace h := h.2.1 hc
      refine r_tswIn 93 d_Mo_count_34 (by omega) (by omega) (by rw [hc]; rfl) rfl ?_
      refine r_aload_n d_Mo_count_93 rfl (?_ : WM _ 94 _ _ _ _)
      refine r_callV (ν := M_Mo_allCoins) (k := 35) [] ok_M_Mo_allCoins okv_M_Mo_allCoins (by decide) rfl rfl rfl (qm_6 (i := 42) rfl rfl) np_M_Mo_allCoins rfl (by decide) (Nat.le_of_ble_eq_true rfl) rfl d_Mo_count_94 (CI.k h (fun v7 σ6 h => (?_ : WM _ 97 _ _ _ _)))
      exact r_ireturn rfl d_Mo_count_97 h
    · replace h := h.2.2.1 hc
      refine r_tswIn 98 d_Mo_count_34 (by omega) (by omega) (by rw [hc]; rfl) rfl ?_
      refine r_aload_n d_Mo_count_98 rfl (?_ : WM _ 99 _ _ _ _)
      refine r_getI (k := 35) (j := 20) 20 (by decide) rfl clk_11 (by decide) (qm_5 (i := 56) rfl rfl) rfl rfl d_Mo_count_99 (y := (σ3 35 20)) rfl (?_ : WM _ 102 _ _ _ _)
      exact r_ireturn rfl d_Mo_count_102 h
    · replace h := h.2.2.2.1 hc
      refine r_tswIn 103 d_Mo_count_34 (by omega) (by omega) (by rw [hc]; rfl) rfl ?_
      refine r_aload_n d_Mo_count_103 rfl (?_ : WM _ 104 _ _ _ _)
      refine r_getI (k := 35) (j := 9) 9 (by decide) rfl clk_11 (by decide) (qm_5 (i := 45) rfl rfl) rfl rfl d_Mo_count_104 (y := (σ3 35 9)) rfl (?_ : WM _ 107 _ _ _ _)
      exact r_ireturn rfl d_Mo_count_107 h
    · replace h := h.2.2.2.2.1 hc
      refine r_tswIn 108 d_Mo_count_34 (by omega) (by omega) (by rw [hc]; rfl) rfl ?_
      refine r_aload_n d_Mo_count_108 rfl (?_ : WM _ 109 _ _ _ _)
      refine r_getI (k := 35) (j := 10) 10 (by decide) rfl clk_11 (by decide) (qm_5 (i := 46) rfl rfl) rfl rfl d_Mo_count_109 (y := (σ3 35 10)) rfl (?_ : WM _ 112 _ _ _ _)
      exact r_ireturn rfl d_Mo_count_112 h
    · replace h := h.2.2.2.2.2.1 hc
      refine r_tswIn 113 d_Mo_count_34 (by omega) (by omega) (by rw [hc]; rfl) rfl ?_
      refine r_aload_n d_Mo_count_113 rfl (?_ : WM _ 114 _ _ _ _)
      refine r_getI (k := 35) (j := 25) 25 (by decide) rfl clk_11 (by decide) (qm_5 (i := 61) rfl rfl) rfl rfl d_Mo_count_114 (y := (σ3 35 25)) rfl (?_ : WM _ 117 _ _ _ _)
      exact r_ireturn rfl d_Mo_count_117 h
    · replace h := h.2.2.2.2.2.2.1 hc
      refine r_tswIn 118 d_Mo_count_34 (by omega) (by omega) (by rw [hc]; rfl) rfl ?_
      refine r_aload_n d_Mo_count_118 rfl (?_ : WM _ 119 _ _ _ _)
      refine r_iload_n d_Mo_count_119 rfl (?_ : WM _ 120 _ _ _ _)
      refine r_callV (ν := M_Mo_manyOf) (k := 35) [vI x1] ok_M_Mo_manyOf okv_M_Mo_manyOf (by decide) rfl rfl rfl (qm_7 (i := 82) rfl rfl) np_M_Mo_manyOf rfl (by decide) (Nat.le_of_ble_eq_true rfl) rfl d_Mo_count_120 (CI.k h (fun v9 σ8 h => (?_ : WM _ 123 _ _ _ _)))
      exact r_ireturn rfl d_Mo_count_123 h
    · replace h := h.2.2.2.2.2.2.2.1 hc
      refine r_tswIn 124 d_Mo_count_34 (by omega) (by omega) (by rw [hc]; rfl) rfl ?_
      refine r_aload_n d_Mo_count_124 rfl (?_ : WM _ 125 _ _ _ _)
      refine r_getI (k := 35) (j := 13) 13 (by decide) rfl clk_11 (by decide) (qm_5 (i := 49) rfl rfl) rfl rfl d_Mo_count_125 (y := (σ3 35 13)) rfl (?_ : WM _ 128 _ _ _ _)
      exact r_ireturn rfl d_Mo_count_128 h
    · replace h := h.2.2.2.2.2.2.2.2.1 hc
      refine r_tswIn 118 d_Mo_count_34 (by omega) (by omega) (by rw [hc]; rfl) rfl ?_
      refine r_aload_n d_Mo_count_118 rfl (?_ : WM _ 119 _ _ _ _)
      refine r_iload_n d_Mo_count_119 rfl (?_ : WM _ 120 _ _ _ _)
      refine r_callV (ν := M_Mo_manyOf) (k := 35) [vI x1] ok_M_Mo_manyOf okv_M_Mo_manyOf (by decide) rfl rfl rfl (qm_7 (i := 82) rfl rfl) np_M_Mo_manyOf rfl (by decide) (Nat.le_of_ble_eq_true rfl) rfl d_Mo_count_120 (CI.k h (fun v11 σ10 h => (?_ : WM _ 123 _ _ _ _)))
      exact r_ireturn rfl d_Mo_count_123 h
    · replace h := h.2.2.2.2.2.2.2.2.2.1 hc
      refine r_tswIn 129 d_Mo_count_34 (by omega) (by omega) (by rw [hc]; rfl) rfl ?_
      refine r_aload_n d_Mo_count_129 rfl (?_ : WM _ 130 _ _ _ _)
      refine r_getI (k := 35) (j := 11) 11 (by decide) rfl clk_11 (by decide) (qm_5 (i := 47) rfl rfl) rfl rfl d_Mo_count_130 (y := (σ3 35 11)) rfl (?_ : WM _ 133 _ _ _ _)
      exact r_ireturn rfl d_Mo_count_133 h
    · replace h := h.2.2.2.2.2.2.2.2.2.2 hc
      refine r_tswOut 134 d_Mo_count_34 hc rfl ?_
      refine r_iconst d_Mo_count_134 (by decide) (?_ : WM _ 135 _ _ _ _)
      exact r_ireturn rfl d_Mo_count_135 h
  · replace h := h.2 c5
    refine r_aload_n d_Mo_count_23 rfl (?_ : WM _ 24 _ _ _ _)
    refine r_getR (k := 35) (j := 1) (q := 36) (by decide) rfl clk_11 (by decide) (qm_5 (i := 37) rfl rfl) rfl d_Mo_count_24 (?_ : WM _ 27 _ _ _ _)
    refine r_iload_n d_Mo_count_27 rfl (?_ : WM _ 28 _ _ _ _)
    refine r_bipush d_Mo_count_28 (by decide) (by decide) (?_ : WM _ 30 _ _ _ _)
    obtain ⟨h12, h⟩ := h
    refine r_isub d_Mo_count_30 h12 (?_ : WM _ 31 _ _ _ _)
    obtain ⟨h13, h⟩ := h
    obtain ⟨h14, h⟩ := h
    refine r_iald (k := 36) (n := 5) (by decide) rfl d_Mo_count_31 h13 h14 (y := (σ3 36 (x1 - 10))) rfl (?_ : WM _ 32 _ _ _ _)
    exact r_ireturn rfl d_Mo_count_32 h
set_option maxRecDepth 20000 in
theorem e_Mo_isIn {K : Int → St → Prop} {σ : St} (x0 : Int) (x2 : Int) (x4 : Int) (h : ((lcq x0 x2) < 0 → K 0 σ) ∧ (¬ (lcq x0 x2) < 0 → (0 < (lcq x0 x4) → K 0 σ) ∧ (¬ 0 < (lcq x0 x4) → K 1 σ))) : CI M_Mo_isIn [vL x0, vL x2, vL x4] σ K := by
  refine Con.of ok_M_Mo_isIn (ls := [(0, vL x0), (2, vL x2), (4, vL x4)]) rfl (Nat.le_of_ble_eq_true rfl) ?_
  refine r_lload_n d_Mo_isIn_0 rfl (?_ : WM _ 1 _ _ _ _)
  refine r_lload_n d_Mo_isIn_1 rfl (?_ : WM _ 2 _ _ _ _)
  refine r_lcmp d_Mo_isIn_2 (?_ : WM _ 3 _ _ _ _)
  refine r_if_lt 17 d_Mo_isIn_3 rfl ⟨fun c1 => (?_ : WM _ 17 _ _ _ _), fun c1 => (?_ : WM _ 6 _ _ _ _)⟩
  · replace h := h.1 c1
    refine r_iconst d_Mo_isIn_17 (by decide) (?_ : WM _ 18 _ _ _ _)
    exact r_zreturn rfl d_Mo_isIn_18 (by decide) h
  · replace h := h.2 c1
    refine r_lload_n d_Mo_isIn_6 rfl (?_ : WM _ 7 _ _ _ _)
    refine r_lload d_Mo_isIn_7 rfl (?_ : WM _ 9 _ _ _ _)
    refine r_lcmp d_Mo_isIn_9 (?_ : WM _ 10 _ _ _ _)
    refine r_if_gt 17 d_Mo_isIn_10 rfl ⟨fun c2 => (?_ : WM _ 17 _ _ _ _), fun c2 => (?_ : WM _ 13 _ _ _ _)⟩
    · replace h := h.1 c2
      refine r_iconst d_Mo_isIn_17 (by decide) (?_ : WM _ 18 _ _ _ _)
      exact r_zreturn rfl d_Mo_isIn_18 (by decide) h
    · replace h := h.2 c2
      refine r_iconst d_Mo_isIn_13 (by decide) (?_ : WM _ 14 _ _ _ _)
      refine r_goto 18 d_Mo_isIn_14 rfl ?_
      exact r_zreturn rfl d_Mo_isIn_18 (by decide) h
set_option maxRecDepth 20000 in
theorem e_Mo_blanks {K : St → Prop} {σ : St}  (h : WM M_Mo_blanks 0 [(0, vR 35)] [] σ (QV K)) : CV M_Mo_blanks [vR 35] σ K := by
  refine Con.of ok_M_Mo_blanks (ls := [(0, vR 35)]) rfl (Nat.le_of_ble_eq_true rfl) ?_
  exact h
set_option maxRecDepth 20000 in
theorem l_Mo_blanks_1 {K : St → Prop} {σ : St}  (h : CI M_Mo_peek [vR 35] σ (fun v2 σ1 => (¬ v2 = 32 → K σ1) ∧ (v2 = 32 → (inR ((σ1 35 15) + 1)) ∧ WM M_Mo_blanks 0 [(0, vR 35)] [] (ups σ1 35 15 ((σ1 35 15) + 1)) (QV K)))) : WM M_Mo_blanks 0 [(0, vR 35)] [] σ (QV K) := by
  refine r_aload_n d_Mo_blanks_0 rfl (?_ : WM _ 1 _ _ _ _)
  refine r_callV (ν := M_Mo_peek) (k := 35) [] ok_M_Mo_peek okv_M_Mo_peek (by decide) rfl rfl rfl (qm_5 (i := 160) rfl rfl) np_M_Mo_peek rfl (by decide) (Nat.le_of_ble_eq_true rfl) rfl d_Mo_blanks_1 (CI.k h (fun v2 σ1 h => (?_ : WM _ 4 _ _ _ _)))
  refine r_bipush d_Mo_blanks_4 (by decide) (by decide) (?_ : WM _ 6 _ _ _ _)
  refine r_icmp_ne 22 d_Mo_blanks_6 rfl ⟨fun c3 => (?_ : WM _ 22 _ _ _ _), fun c3 => (?_ : WM _ 9 _ _ _ _)⟩
  · replace h := h.1 c3
    exact r_return rfl d_Mo_blanks_22 h
  · replace h := h.2 c3
    refine r_aload_n d_Mo_blanks_9 rfl (?_ : WM _ 10 _ _ _ _)
    refine r_dup d_Mo_blanks_10 rfl (?_ : WM _ 11 _ _ _ _)
    refine r_getI (k := 35) (j := 15) 15 (by decide) rfl clk_11 (by decide) (qm_5 (i := 51) rfl rfl) rfl rfl d_Mo_blanks_11 (y := (σ1 35 15)) rfl (?_ : WM _ 14 _ _ _ _)
    refine r_iconst d_Mo_blanks_14 (by decide) (?_ : WM _ 15 _ _ _ _)
    obtain ⟨h4, h⟩ := h
    refine r_iadd d_Mo_blanks_15 h4 (?_ : WM _ 16 _ _ _ _)
    refine r_put (k := 35) (j := 15) 15 (by decide) rfl clk_11 (by decide) (qm_5 (i := 51) rfl rfl) rfl rfl rfl tyX11_ok rfl nmX11 d_Mo_blanks_16 (?_ : WM _ 19 _ _ _ _)
    refine r_goto 0 d_Mo_blanks_19 rfl ?_
    exact h
set_option maxRecDepth 20000 in
theorem e_Mo_peek {K : Int → St → Prop} {σ : St}  (h : ((σ 35 14) ≤ (σ 35 15) → K (-1) σ) ∧ (¬ (σ 35 14) ≤ (σ 35 15) → (0 ≤ (σ 35 15)) ∧ ((σ 35 15) < 900) ∧ K ((σ 42 (σ 35 15)) % 256) σ)) : CI M_Mo_peek [vR 35] σ K := by
  refine Con.of ok_M_Mo_peek (ls := [(0, vR 35)]) rfl (Nat.le_of_ble_eq_true rfl) ?_
  refine r_aload_n d_Mo_peek_0 rfl (?_ : WM _ 1 _ _ _ _)
  refine r_getI (k := 35) (j := 15) 15 (by decide) rfl clk_11 (by decide) (qm_5 (i := 51) rfl rfl) rfl rfl d_Mo_peek_1 (y := (σ 35 15)) rfl (?_ : WM _ 4 _ _ _ _)
  refine r_aload_n d_Mo_peek_4 rfl (?_ : WM _ 5 _ _ _ _)
  refine r_getI (k := 35) (j := 14) 14 (by decide) rfl clk_11 (by decide) (qm_5 (i := 50) rfl rfl) rfl rfl d_Mo_peek_5 (y := (σ 35 14)) rfl (?_ : WM _ 8 _ _ _ _)
  refine r_icmp_ge 27 d_Mo_peek_8 rfl ⟨fun c1 => (?_ : WM _ 27 _ _ _ _), fun c1 => (?_ : WM _ 11 _ _ _ _)⟩
  · replace h := h.1 c1
    refine r_iconst d_Mo_peek_27 (by decide) (?_ : WM _ 28 _ _ _ _)
    exact r_ireturn rfl d_Mo_peek_28 h
  · replace h := h.2 c1
    refine r_aload_n d_Mo_peek_11 rfl (?_ : WM _ 12 _ _ _ _)
    refine r_getR (k := 35) (j := 12) (q := 42) (by decide) rfl clk_11 (by decide) (qm_5 (i := 48) rfl rfl) rfl d_Mo_peek_12 (?_ : WM _ 15 _ _ _ _)
    refine r_aload_n d_Mo_peek_15 rfl (?_ : WM _ 16 _ _ _ _)
    refine r_getI (k := 35) (j := 15) 15 (by decide) rfl clk_11 (by decide) (qm_5 (i := 51) rfl rfl) rfl rfl d_Mo_peek_16 (y := (σ 35 15)) rfl (?_ : WM _ 19 _ _ _ _)
    obtain ⟨h2, h⟩ := h
    obtain ⟨h3, h⟩ := h
    refine r_bald (k := 42) (n := 900) (by decide) rfl d_Mo_peek_19 h2 h3 (y := (σ 42 (σ 35 15))) rfl (?_ : WM _ 20 _ _ _ _)
    refine r_sipush d_Mo_peek_20 (by decide) (by decide) (?_ : WM _ 23 _ _ _ _)
    refine r_iand255 d_Mo_peek_23 (?_ : WM _ 24 _ _ _ _)
    refine r_goto 28 d_Mo_peek_24 rfl ?_
    exact r_ireturn rfl d_Mo_peek_28 h
set_option maxRecDepth 20000 in
theorem e_Mo_line {K : St → Prop} {σ : St}  (h : WM M_Mo_line 5 [(0, vR 35), (1, vI (σ 35 15))] [] σ (QV K)) : CV M_Mo_line [vR 35] σ K := by
  refine Con.of ok_M_Mo_line (ls := [(0, vR 35)]) rfl (Nat.le_of_ble_eq_true rfl) ?_
  refine r_aload_n d_Mo_line_0 rfl (?_ : WM _ 1 _ _ _ _)
  refine r_getI (k := 35) (j := 15) 15 (by decide) rfl clk_11 (by decide) (qm_5 (i := 51) rfl rfl) rfl rfl d_Mo_line_1 (y := (σ 35 15)) rfl (?_ : WM _ 4 _ _ _ _)
  refine r_istore_n (ls' := [(1, vI (σ 35 15)), (0, vR 35)]) d_Mo_line_4 rfl (by decide) rfl (?_ : WM _ 5 _ _ _ _)
  refine r_pick (ls' := [(0, vR 35), (1, vI (σ 35 15))]) [1, 0] rfl ?_
  exact h
set_option maxRecDepth 20000 in
theorem l_Mo_line_1 {K : St → Prop} {σ : St} (x1 : Int) (h : CI M_Mo_isLetter [vR 35] σ (fun v2 σ1 => (v2 = 0 → CI M_Mo_isWord [vR 35, vI x1, vI 0, vI 4] σ1 (fun v5 σ4 => (v5 = 0 → CI M_Mo_isWord [vR 35, vI x1, vI 4, vI 9] σ4 (fun v8 σ7 => (v8 = 0 → CV M_Mo_fails [vR 35, vI 1, vI x1] σ7 (fun σ10 => (¬ (σ10 35 16) = 0 → K σ10) ∧ ((σ10 35 16) = 0 → CI M_Mo_passesSign [vR 35, vI 59] σ10 (fun v14 σ13 => (¬ v14 = 0 → K σ13) ∧ (v14 = 0 → CV M_Mo_fails [vR 35, vI 1, vI (σ13 35 15)] σ13 (fun σ16 => K σ16)))))) ∧ (¬ v8 = 0 → CV M_Mo_auditLine [vR 35, vI x1] σ7 (fun σ18 => (¬ (σ18 35 16) = 0 → K σ18) ∧ ((σ18 35 16) = 0 → CI M_Mo_passesSign [vR 35, vI 59] σ18 (fun v22 σ21 => (¬ v22 = 0 → K σ21) ∧ (v22 = 0 → CV M_Mo_fails [vR 35, vI 1, vI (σ21 35 15)] σ21 (fun σ24 => K σ24)))))))) ∧ (¬ v5 = 0 → CV M_Mo_itemLine [vR 35, vI x1] σ4 (fun σ26 => (¬ (σ26 35 16) = 0 → K σ26) ∧ ((σ26 35 16) = 0 → CI M_Mo_passesSign [vR 35, vI 59] σ26 (fun v30 σ29 => (¬ v30 = 0 → K σ29) ∧ (v30 = 0 → CV M_Mo_fails [vR 35, vI 1, vI (σ29 35 15)] σ29 (fun σ32 => K σ32)))))))) ∧ (¬ v2 = 0 → (inR ((σ1 35 15) + 1)) ∧ WM M_Mo_line 5 [(0, vR 35), (1, vI x1)] [] (ups σ1 35 15 ((σ1 35 15) + 1)) (QV K)))) : WM M_Mo_line 5 [(0, vR 35), (1, vI x1)] [] σ (QV K) := by
  refine r_aload_n d_Mo_line_5 rfl (?_ : WM _ 6 _ _ _ _)
  refine r_callV (ν := M_Mo_isLetter) (k := 35) [] ok_M_Mo_isLetter okv_M_Mo_isLetter (by decide) rfl rfl rfl (qm_5 (i := 168) rfl rfl) np_M_Mo_isLetter rfl (by decide) (Nat.le_of_ble_eq_true rfl) rfl d_Mo_line_6 (CI.k h (fun v2 σ1 h => (?_ : WM _ 9 _ _ _ _)))
  refine r_if_eq 25 d_Mo_line_9 rfl ⟨fun c3 => (?_ : WM _ 25 _ _ _ _), fun c3 => (?_ : WM _ 12 _ _ _ _)⟩
  · replace h := h.1 c3
    refine r_aload_n d_Mo_line_25 rfl (?_ : WM _ 26 _ _ _ _)
    refine r_iload_n d_Mo_line_26 rfl (?_ : WM _ 27 _ _ _ _)
    refine r_iconst d_Mo_line_27 (by decide) (?_ : WM _ 28 _ _ _ _)
    refine r_iconst d_Mo_line_28 (by decide) (?_ : WM _ 29 _ _ _ _)
    refine r_callV (ν := M_Mo_isWord) (k := 35) [vI x1, vI 0, vI 4] ok_M_Mo_isWord okv_M_Mo_isWord (by decide) rfl rfl rfl (qm_5 (i := 174) rfl rfl) np_M_Mo_isWord rfl (by decide) (Nat.le_of_ble_eq_true rfl) rfl d_Mo_line_29 (CI.k h (fun v5 σ4 h => (?_ : WM _ 32 _ _ _ _)))
    refine r_if_eq 43 d_Mo_line_32 rfl ⟨fun c6 => (?_ : WM _ 43 _ _ _ _), fun c6 => (?_ : WM _ 35 _ _ _ _)⟩
    · replace h := h.1 c6
      refine r_aload_n d_Mo_line_43 rfl (?_ : WM _ 44 _ _ _ _)
      refine r_iload_n d_Mo_line_44 rfl (?_ : WM _ 45 _ _ _ _)
      refine r_iconst d_Mo_line_45 (by decide) (?_ : WM _ 46 _ _ _ _)
      refine r_bipush d_Mo_line_46 (by decide) (by decide) (?_ : WM _ 48 _ _ _ _)
      refine r_callV (ν := M_Mo_isWord) (k := 35) [vI x1, vI 4, vI 9] ok_M_Mo_isWord okv_M_Mo_isWord (by decide) rfl rfl rfl (qm_5 (i := 174) rfl rfl) np_M_Mo_isWord rfl (by decide) (Nat.le_of_ble_eq_true rfl) rfl d_Mo_line_48 (CI.k h (fun v8 σ7 h => (?_ : WM _ 51 _ _ _ _)))
      refine r_if_eq 62 d_Mo_line_51 rfl ⟨fun c9 => (?_ : WM _ 62 _ _ _ _), fun c9 => (?_ : WM _ 54 _ _ _ _)⟩
      · replace h := h.1 c9
        refine r_aload_n d_Mo_line_62 rfl (?_ : WM _ 63 _ _ _ _)
        refine r_iconst d_Mo_line_63 (by decide) (?_ : WM _ 64 _ _ _ _)
        refine r_iload_n d_Mo_line_64 rfl (?_ : WM _ 65 _ _ _ _)
        refine r_callV (ν := M_Mo_fails) (k := 35) [vI 1, vI x1] ok_M_Mo_fails okv_M_Mo_fails (by decide) rfl rfl rfl (qm_5 (i := 192) rfl rfl) np_M_Mo_fails rfl (by decide) (Nat.le_of_ble_eq_true rfl) rfl d_Mo_line_65 (CV.k h (fun σ10 h => (?_ : WM _ 68 _ _ _ _)))
        refine r_aload_n d_Mo_line_68 rfl (?_ : WM _ 69 _ _ _ _)
        refine r_getI (k := 35) (j := 16) 16 (by decide) rfl clk_11 (by decide) (qm_5 (i := 52) rfl rfl) rfl rfl d_Mo_line_69 (y := (σ10 35 16)) rfl (?_ : WM _ 72 _ _ _ _)
        refine r_if_ne 93 d_Mo_line_72 rfl ⟨fun c12 => (?_ : WM _ 93 _ _ _ _), fun c12 => (?_ : WM _ 75 _ _ _ _)⟩
        · replace h := h.1 c12
          exact r_return rfl d_Mo_line_93 h
        · replace h := h.2 c12
          refine r_aload_n d_Mo_line_75 rfl (?_ : WM _ 76 _ _ _ _)
          refine r_bipush d_Mo_line_76 (by decide) (by decide) (?_ : WM _ 78 _ _ _ _)
          refine r_callV (ν := M_Mo_passesSign) (k := 35) [vI 59] ok_M_Mo_passesSign okv_M_Mo_passesSign (by decide) rfl rfl rfl (qm_5 (i := 196) rfl rfl) np_M_Mo_passesSign rfl (by decide) (Nat.le_of_ble_eq_true rfl) rfl d_Mo_line_78 (CI.k h (fun v14 σ13 h => (?_ : WM _ 81 _ _ _ _)))
          refine r_if_ne 93 d_Mo_line_81 rfl ⟨fun c15 => (?_ : WM _ 93 _ _ _ _), fun c15 => (?_ : WM _ 84 _ _ _ _)⟩
          · replace h := h.1 c15
            exact r_return rfl d_Mo_line_93 h
          · replace h := h.2 c15
            refine r_aload_n d_Mo_line_84 rfl (?_ : WM _ 85 _ _ _ _)
            refine r_iconst d_Mo_line_85 (by decide) (?_ : WM _ 86 _ _ _ _)
            refine r_aload_n d_Mo_line_86 rfl (?_ : WM _ 87 _ _ _ _)
            refine r_getI (k := 35) (j := 15) 15 (by decide) rfl clk_11 (by decide) (qm_5 (i := 51) rfl rfl) rfl rfl d_Mo_line_87 (y := (σ13 35 15)) rfl (?_ : WM _ 90 _ _ _ _)
            refine r_callV (ν := M_Mo_fails) (k := 35) [vI 1, vI (σ13 35 15)] ok_M_Mo_fails okv_M_Mo_fails (by decide) rfl rfl rfl (qm_5 (i := 192) rfl rfl) np_M_Mo_fails rfl (by decide) (Nat.le_of_ble_eq_true rfl) rfl d_Mo_line_90 (CV.k h (fun σ16 h => (?_ : WM _ 93 _ _ _ _)))
            exact r_return rfl d_Mo_line_93 h
      · replace h := h.2 c9
        refine r_aload_n d_Mo_line_54 rfl (?_ : WM _ 55 _ _ _ _)
        refine r_iload_n d_Mo_line_55 rfl (?_ : WM _ 56 _ _ _ _)
        refine r_callV (ν := M_Mo_auditLine) (k := 35) [vI x1] ok_M_Mo_auditLine okv_M_Mo_auditLine (by decide) rfl rfl rfl (qm_5 (i := 204) rfl rfl) np_M_Mo_auditLine rfl (by decide) (Nat.le_of_ble_eq_true rfl) rfl d_Mo_line_56 (CV.k h (fun σ18 h => (?_ : WM _ 59 _ _ _ _)))
        refine r_goto 68 d_Mo_line_59 rfl ?_
        refine r_aload_n d_Mo_line_68 rfl (?_ : WM _ 69 _ _ _ _)
        refine r_getI (k := 35) (j := 16) 16 (by decide) rfl clk_11 (by decide) (qm_5 (i := 52) rfl rfl) rfl rfl d_Mo_line_69 (y := (σ18 35 16)) rfl (?_ : WM _ 72 _ _ _ _)
        refine r_if_ne 93 d_Mo_line_72 rfl ⟨fun c20 => (?_ : WM _ 93 _ _ _ _), fun c20 => (?_ : WM _ 75 _ _ _ _)⟩
        · replace h := h.1 c20
          exact r_return rfl d_Mo_line_93 h
        · replace h := h.2 c20
          refine r_aload_n d_Mo_line_75 rfl (?_ : WM _ 76 _ _ _ _)
          refine r_bipush d_Mo_line_76 (by decide) (by decide) (?_ : WM _ 78 _ _ _ _)
          refine r_callV (ν := M_Mo_passesSign) (k := 35) [vI 59] ok_M_Mo_passesSign okv_M_Mo_passesSign (by decide) rfl rfl rfl (qm_5 (i := 196) rfl rfl) np_M_Mo_passesSign rfl (by decide) (Nat.le_of_ble_eq_true rfl) rfl d_Mo_line_78 (CI.k h (fun v22 σ21 h => (?_ : WM _ 81 _ _ _ _)))
          refine r_if_ne 93 d_Mo_line_81 rfl ⟨fun c23 => (?_ : WM _ 93 _ _ _ _), fun c23 => (?_ : WM _ 84 _ _ _ _)⟩
          · replace h := h.1 c23
            exact r_return rfl d_Mo_line_93 h
          · replace h := h.2 c23
            refine r_aload_n d_Mo_line_84 rfl (?_ : WM _ 85 _ _ _ _)
            refine r_iconst d_Mo_line_85 (by decide) (?_ : WM _ 86 _ _ _ _)
            refine r_aload_n d_Mo_line_86 rfl (?_ : WM _ 87 _ _ _ _)
            refine r_getI (k := 35) (j := 15) 15 (by decide) rfl clk_11 (by decide) (qm_5 (i := 51) rfl rfl) rfl rfl d_Mo_line_87 (y := (σ21 35 15)) rfl (?_ : WM _ 90 _ _ _ _)
            refine r_callV (ν := M_Mo_fails) (k := 35) [vI 1, vI (σ21 35 15)] ok_M_Mo_fails okv_M_Mo_fails (by decide) rfl rfl rfl (qm_5 (i := 192) rfl rfl) np_M_Mo_fails rfl (by decide) (Nat.le_of_ble_eq_true rfl) rfl d_Mo_line_90 (CV.k h (fun σ24 h => (?_ : WM _ 93 _ _ _ _)))
            exact r_return rfl d_Mo_line_93 h
    · replace h := h.2 c6
      refine r_aload_n d_Mo_line_35 rfl (?_ : WM _ 36 _ _ _ _)
      refine r_iload_n d_Mo_line_36 rfl (?_ : WM _ 37 _ _ _ _)
      refine r_callV (ν := M_Mo_itemLine) (k := 35) [vI x1] ok_M_Mo_itemLine okv_M_Mo_itemLine (by decide) rfl rfl rfl (qm_5 (i := 178) rfl rfl) np_M_Mo_itemLine rfl (by decide) (Nat.le_of_ble_eq_true rfl) rfl d_Mo_line_37 (CV.k h (fun σ26 h => (?_ : WM _ 40 _ _ _ _)))
      refine r_goto 68 d_Mo_line_40 rfl ?_
      refine r_aload_n d_Mo_line_68 rfl (?_ : WM _ 69 _ _ _ _)
      refine r_getI (k := 35) (j := 16) 16 (by decide) rfl clk_11 (by decide) (qm_5 (i := 52) rfl rfl) rfl rfl d_Mo_line_69 (y := (σ26 35 16)) rfl (?_ : WM _ 72 _ _ _ _)
      refine r_if_ne 93 d_Mo_line_72 rfl ⟨fun c28 => (?_ : WM _ 93 _ _ _ _), fun c28 => (?_ : WM _ 75 _ _ _ _)⟩
      · replace h := h.1 c28
        exact r_return rfl d_Mo_line_93 h
      · replace h := h.2 c28
        refine r_aload_n d_Mo_line_75 rfl (?_ : WM _ 76 _ _ _ _)
        refine r_bipush d_Mo_line_76 (by decide) (by decide) (?_ : WM _ 78 _ _ _ _)
        refine r_callV (ν := M_Mo_passesSign) (k := 35) [vI 59] ok_M_Mo_passesSign okv_M_Mo_passesSign (by decide) rfl rfl rfl (qm_5 (i := 196) rfl rfl) np_M_Mo_passesSign rfl (by decide) (Nat.le_of_ble_eq_true rfl) rfl d_Mo_line_78 (CI.k h (fun v30 σ29 h => (?_ : WM _ 81 _ _ _ _)))
        refine r_if_ne 93 d_Mo_line_81 rfl ⟨fun c31 => (?_ : WM _ 93 _ _ _ _), fun c31 => (?_ : WM _ 84 _ _ _ _)⟩
        · replace h := h.1 c31
          exact r_return rfl d_Mo_line_93 h
        · replace h := h.2 c31
          refine r_aload_n d_Mo_line_84 rfl (?_ : WM _ 85 _ _ _ _)
          refine r_iconst d_Mo_line_85 (by decide) (?_ : WM _ 86 _ _ _ _)
          refine r_aload_n d_Mo_line_86 rfl (?_ : WM _ 87 _ _ _ _)
          refine r_getI (k := 35) (j := 15) 15 (by decide) rfl clk_11 (by decide) (qm_5 (i := 51) rfl rfl) rfl rfl d_Mo_line_87 (y := (σ29 35 15)) rfl (?_ : WM _ 90 _ _ _ _)
          refine r_callV (ν := M_Mo_fails) (k := 35) [vI 1, vI (σ29 35 15)] ok_M_Mo_fails okv_M_Mo_fails (by decide) rfl rfl rfl (qm_5 (i := 192) rfl rfl) np_M_Mo_fails rfl (by decide) (Nat.le_of_ble_eq_true rfl) rfl d_Mo_line_90 (CV.k h (fun σ32 h => (?_ : WM _ 93 _ _ _ _)))
          exact r_return rfl d_Mo_line_93 h
  · replace h := h.2 c3
    refine r_aload_n d_Mo_line_12 rfl (?_ : WM _ 13 _ _ _ _)
    refine r_dup d_Mo_line_13 rfl (?_ : WM _ 14 _ _ _ _)
    refine r_getI (k := 35) (j := 15) 15 (by decide) rfl clk_11 (by decide) (qm_5 (i := 51) rfl rfl) rfl rfl d_Mo_line_14 (y := (σ1 35 15)) rfl (?_ : WM _ 17 _ _ _ _)
    refine r_iconst d_Mo_line_17 (by decide) (?_ : WM _ 18 _ _ _ _)
    obtain ⟨h34, h⟩ := h
    refine r_iadd d_Mo_line_18 h34 (?_ : WM _ 19 _ _ _ _)
    refine r_put (k := 35) (j := 15) 15 (by decide) rfl clk_11 (by decide) (qm_5 (i := 51) rfl rfl) rfl rfl rfl tyX11_ok rfl nmX11 d_Mo_line_19 (?_ : WM _ 22 _ _ _ _)
    refine r_goto 5 d_Mo_line_22 rfl ?_
    exact h
set_option maxRecDepth 20000 in
theorem e_Mo_placeIn_39 {K : Int → St → Prop} {σ : St} (x1 : Int) (x2 : Int) (x3 : Int) (h : WM M_Mo_placeIn 3 [(0, vR 39), (1, vI x1), (2, vI x2), (3, vI x3), (4, vI 0)] [] σ (QI K)) : CI M_Mo_placeIn [vR 39, vI x1, vI x2, vI x3] σ K := by
  refine Con.of ok_M_Mo_placeIn (ls := [(0, vR 39), (1, vI x1), (2, vI x2), (3, vI x3)]) rfl (Nat.le_of_ble_eq_true rfl) ?_
  refine r_iconst d_Mo_placeIn_0 (by decide) (?_ : WM _ 1 _ _ _ _)
  refine r_istore (ls' := [(4, vI 0), (0, vR 39), (1, vI x1), (2, vI x2), (3, vI x3)]) d_Mo_placeIn_1 (by decide) rfl (?_ : WM _ 3 _ _ _ _)
  refine r_pick (ls' := [(0, vR 39), (1, vI x1), (2, vI x2), (3, vI x3), (4, vI 0)]) [1, 2, 3, 4, 0] rfl ?_
  exact h
set_option maxRecDepth 20000 in
theorem l_Mo_placeIn_39_1 {K : Int → St → Prop} {σ : St} (x1 : Int) (x2 : Int) (x3 : Int) (x4 : Int) (h : (x1 ≤ x4 → K (-1) σ) ∧ (¬ x1 ≤ x4 → (inR (4 * x4)) ∧ (inR ((4 * x4) + 0)) ∧ (0 ≤ ((4 * x4) + 0)) ∧ (((4 * x4) + 0) < 192) ∧ (¬ (σ 39 ((4 * x4) + 0)) = x2 → (inR (x4 + 1)) ∧ WM M_Mo_placeIn 3 [(0, vR 39), (1, vI x1), (2, vI x2), (3, vI x3), (4, vI (x4 + 1))] [] σ (QI K)) ∧ ((σ 39 ((4 * x4) + 0)) = x2 → (inR ((4 * x4) + 1)) ∧ (0 ≤ ((4 * x4) + 1)) ∧ (((4 * x4) + 1) < 192) ∧ (¬ (σ 39 ((4 * x4) + 1)) = x3 → (inR (x4 + 1)) ∧ WM M_Mo_placeIn 3 [(0, vR 39), (1, vI x1), (2, vI x2), (3, vI x3), (4, vI (x4 + 1))] [] σ (QI K)) ∧ ((σ 39 ((4 * x4) + 1)) = x3 → K x4 σ)))) : WM M_Mo_placeIn 3 [(0, vR 39), (1, vI x1), (2, vI x2), (3, vI x3), (4, vI x4)] [] σ (QI K) := by
  refine r_iload d_Mo_placeIn_3 rfl (?_ : WM _ 5 _ _ _ _)
  refine r_iload_n d_Mo_placeIn_5 rfl (?_ : WM _ 6 _ _ _ _)
  refine r_icmp_ge 42 d_Mo_placeIn_6 rfl ⟨fun c1 => (?_ : WM _ 42 _ _ _ _), fun c1 => (?_ : WM _ 9 _ _ _ _)⟩
  · replace h := h.1 c1
    refine r_iconst d_Mo_placeIn_42 (by decide) (?_ : WM _ 43 _ _ _ _)
    exact r_ireturn rfl d_Mo_placeIn_43 h
  · replace h := h.2 c1
    refine r_aload_n d_Mo_placeIn_9 rfl (?_ : WM _ 10 _ _ _ _)
    refine r_iconst d_Mo_placeIn_10 (by decide) (?_ : WM _ 11 _ _ _ _)
    refine r_iload d_Mo_placeIn_11 rfl (?_ : WM _ 13 _ _ _ _)
    obtain ⟨h2, h⟩ := h
    refine r_imul d_Mo_placeIn_13 h2 (?_ : WM _ 14 _ _ _ _)
    refine r_iconst d_Mo_placeIn_14 (by decide) (?_ : WM _ 15 _ _ _ _)
    obtain ⟨h3, h⟩ := h
    refine r_iadd d_Mo_placeIn_15 h3 (?_ : WM _ 16 _ _ _ _)
    obtain ⟨h4, h⟩ := h
    obtain ⟨h5, h⟩ := h
    refine r_iald (k := 39) (n := 192) (by decide) rfl d_Mo_placeIn_16 h4 h5 (y := (σ 39 ((4 * x4) + 0))) rfl (?_ : WM _ 17 _ _ _ _)
    refine r_iload_n d_Mo_placeIn_17 rfl (?_ : WM _ 18 _ _ _ _)
    refine r_icmp_ne 36 d_Mo_placeIn_18 rfl ⟨fun c6 => (?_ : WM _ 36 _ _ _ _), fun c6 => (?_ : WM _ 21 _ _ _ _)⟩
    · replace h := h.1 c6
      obtain ⟨h7, h⟩ := h
      refine r_iinc (ls' := [(4, vI (x4 + 1)), (0, vR 39), (1, vI x1), (2, vI x2), (3, vI x3)]) d_Mo_placeIn_36 rfl h7 (by decide) rfl (?_ : WM _ 39 _ _ _ _)
      refine r_goto 3 d_Mo_placeIn_39 rfl ?_
      refine r_pick (ls' := [(0, vR 39), (1, vI x1), (2, vI x2), (3, vI x3), (4, vI (x4 + 1))]) [1, 2, 3, 4, 0] rfl ?_
      exact h
    · replace h := h.2 c6
      refine r_aload_n d_Mo_placeIn_21 rfl (?_ : WM _ 22 _ _ _ _)
      refine r_iconst d_Mo_placeIn_22 (by decide) (?_ : WM _ 23 _ _ _ _)
      refine r_iload d_Mo_placeIn_23 rfl (?_ : WM _ 25 _ _ _ _)
      refine r_imul d_Mo_placeIn_25 h2 (?_ : WM _ 26 _ _ _ _)
      refine r_iconst d_Mo_placeIn_26 (by decide) (?_ : WM _ 27 _ _ _ _)
      obtain ⟨h8, h⟩ := h
      refine r_iadd d_Mo_placeIn_27 h8 (?_ : WM _ 28 _ _ _ _)
      obtain ⟨h9, h⟩ := h
      obtain ⟨h10, h⟩ := h
      refine r_iald (k := 39) (n := 192) (by decide) rfl d_Mo_placeIn_28 h9 h10 (y := (σ 39 ((4 * x4) + 1))) rfl (?_ : WM _ 29 _ _ _ _)
      refine r_iload_n d_Mo_placeIn_29 rfl (?_ : WM _ 30 _ _ _ _)
      refine r_icmp_ne 36 d_Mo_placeIn_30 rfl ⟨fun c11 => (?_ : WM _ 36 _ _ _ _), fun c11 => (?_ : WM _ 33 _ _ _ _)⟩
      · replace h := h.1 c11
        obtain ⟨h12, h⟩ := h
        refine r_iinc (ls' := [(4, vI (x4 + 1)), (0, vR 39), (1, vI x1), (2, vI x2), (3, vI x3)]) d_Mo_placeIn_36 rfl h12 (by decide) rfl (?_ : WM _ 39 _ _ _ _)
        refine r_goto 3 d_Mo_placeIn_39 rfl ?_
        refine r_pick (ls' := [(0, vR 39), (1, vI x1), (2, vI x2), (3, vI x3), (4, vI (x4 + 1))]) [1, 2, 3, 4, 0] rfl ?_
        exact h
      · replace h := h.2 c11
        refine r_iload d_Mo_placeIn_33 rfl (?_ : WM _ 35 _ _ _ _)
        exact r_ireturn rfl d_Mo_placeIn_35 h
set_option maxRecDepth 20000 in
theorem e_Mo_isItem {K : Int → St → Prop} {σ : St} (x1 : Int) (h : (inR ((σ 35 6) - 1)) ∧ CI M_Mo_isIn [vL x1, vL 0, vL ((σ 35 6) - 1)] σ (fun v3 σ2 => (v3 = 0 ∨ v3 = 1) ∧ K v3 σ2)) : CI M_Mo_isItem [vR 35, vI x1] σ K := by
  refine Con.of ok_M_Mo_isItem (ls := [(0, vR 35), (1, vI x1)]) rfl (Nat.le_of_ble_eq_true rfl) ?_
  refine r_iload_n d_Mo_isItem_0 rfl (?_ : WM _ 1 _ _ _ _)
  refine r_i2l d_Mo_isItem_1 (?_ : WM _ 2 _ _ _ _)
  refine r_lconst 0 d_Mo_isItem_2 rfl (by decide) (?_ : WM _ 3 _ _ _ _)
  refine r_aload_n d_Mo_isItem_3 rfl (?_ : WM _ 4 _ _ _ _)
  refine r_getI (k := 35) (j := 6) 6 (by decide) rfl clk_11 (by decide) (qm_5 (i := 42) rfl rfl) rfl rfl d_Mo_isItem_4 (y := (σ 35 6)) rfl (?_ : WM _ 7 _ _ _ _)
  refine r_iconst d_Mo_isItem_7 (by decide) (?_ : WM _ 8 _ _ _ _)
  obtain ⟨h1, h⟩ := h
  refine r_isub d_Mo_isItem_8 h1 (?_ : WM _ 9 _ _ _ _)
  refine r_i2l d_Mo_isItem_9 (?_ : WM _ 10 _ _ _ _)
  refine r_callS (ν := M_Mo_isIn) [vL x1, vL 0, vL ((σ 35 6) - 1)] ok_M_Mo_isIn oks_M_Mo_isIn (qm_5 (i := 153) rfl rfl) np_M_Mo_isIn rfl (by decide) (Nat.le_of_ble_eq_true rfl) rfl d_Mo_isItem_10 (CI.k h (fun v3 σ2 h => (?_ : WM _ 13 _ _ _ _)))
  obtain ⟨h4, h⟩ := h
  exact r_zreturn rfl d_Mo_isItem_13 h4 h
set_option maxRecDepth 20000 in
theorem e_Mo_book {K : Int → St → Prop} {σ : St} (x1 : Int) (h : (inR (4 * x1)) ∧ (inR ((4 * x1) + 2)) ∧ (0 ≤ ((4 * x1) + 2)) ∧ (((4 * x1) + 2) < 192) ∧ K (σ 39 ((4 * x1) + 2)) σ) : CI M_Mo_book [vR 35, vI x1] σ K := by
  refine Con.of ok_M_Mo_book (ls := [(0, vR 35), (1, vI x1)]) rfl (Nat.le_of_ble_eq_true rfl) ?_
  refine r_aload_n d_Mo_book_0 rfl (?_ : WM _ 1 _ _ _ _)
  refine r_getR (k := 35) (j := 4) (q := 39) (by decide) rfl clk_11 (by decide) (qm_5 (i := 40) rfl rfl) rfl d_Mo_book_1 (?_ : WM _ 4 _ _ _ _)
  refine r_iconst d_Mo_book_4 (by decide) (?_ : WM _ 5 _ _ _ _)
  refine r_iload_n d_Mo_book_5 rfl (?_ : WM _ 6 _ _ _ _)
  obtain ⟨h1, h⟩ := h
  refine r_imul d_Mo_book_6 h1 (?_ : WM _ 7 _ _ _ _)
  refine r_iconst d_Mo_book_7 (by decide) (?_ : WM _ 8 _ _ _ _)
  obtain ⟨h2, h⟩ := h
  refine r_iadd d_Mo_book_8 h2 (?_ : WM _ 9 _ _ _ _)
  obtain ⟨h3, h⟩ := h
  obtain ⟨h4, h⟩ := h
  refine r_iald (k := 39) (n := 192) (by decide) rfl d_Mo_book_9 h3 h4 (y := (σ 39 ((4 * x1) + 2))) rfl (?_ : WM _ 10 _ _ _ _)
  exact r_ireturn rfl d_Mo_book_10 h
set_option maxRecDepth 20000 in
theorem e_Mo_isAudit {K : Int → St → Prop} {σ : St} (x1 : Int) (x2 : Int) (h : CI M_Mo_book [vR 35, vI x1] σ (fun v2 σ1 => (inL (2 * v2)) ∧ CI M_Mo_isIn [vL x2, vL 0, vL (2 * v2)] σ1 (fun v5 σ4 => (v5 = 0 ∨ v5 = 1) ∧ K v5 σ4))) : CI M_Mo_isAudit [vR 35, vI x1, vI x2] σ K := by
  refine Con.of ok_M_Mo_isAudit (ls := [(0, vR 35), (1, vI x1), (2, vI x2)]) rfl (Nat.le_of_ble_eq_true rfl) ?_
  refine r_iload_n d_Mo_isAudit_0 rfl (?_ : WM _ 1 _ _ _ _)
  refine r_i2l d_Mo_isAudit_1 (?_ : WM _ 2 _ _ _ _)
  refine r_lconst 0 d_Mo_isAudit_2 rfl (by decide) (?_ : WM _ 3 _ _ _ _)
  refine r_ldc2 2 d_Mo_isAudit_3 (qm_6 (i := 6) rfl rfl) (by decide) (by decide) (?_ : WM _ 6 _ _ _ _)
  refine r_aload_n d_Mo_isAudit_6 rfl (?_ : WM _ 7 _ _ _ _)
  refine r_iload_n d_Mo_isAudit_7 rfl (?_ : WM _ 8 _ _ _ _)
  refine r_callV (ν := M_Mo_book) (k := 35) [vI x1] ok_M_Mo_book okv_M_Mo_book (by decide) rfl rfl rfl (qm_5 (i := 234) rfl rfl) np_M_Mo_book rfl (by decide) (Nat.le_of_ble_eq_true rfl) rfl d_Mo_isAudit_8 (CI.k h (fun v2 σ1 h => (?_ : WM _ 11 _ _ _ _)))
  refine r_i2l d_Mo_isAudit_11 (?_ : WM _ 12 _ _ _ _)
  obtain ⟨h3, h⟩ := h
  refine r_lmul d_Mo_isAudit_12 h3 (?_ : WM _ 13 _ _ _ _)
  refine r_callS (ν := M_Mo_isIn) [vL x2, vL 0, vL (2 * v2)] ok_M_Mo_isIn oks_M_Mo_isIn (qm_5 (i := 153) rfl rfl) np_M_Mo_isIn rfl (by decide) (Nat.le_of_ble_eq_true rfl) rfl d_Mo_isAudit_13 (CI.k h (fun v5 σ4 h => (?_ : WM _ 16 _ _ _ _)))
  obtain ⟨h6, h⟩ := h
  exact r_zreturn rfl d_Mo_isAudit_16 h6 h
set_option maxRecDepth 20000 in
theorem e_Mo_coinsOf {K : Int → St → Prop} {σ : St} (x1 : Int) (h : CI M_Mo_book [vR 35, vI x1] σ (fun v2 σ1 => (v2 ≤ 0 → K 0 σ1) ∧ (¬ v2 ≤ 0 → CI M_Mo_book [vR 35, vI x1] σ1 (fun v5 σ4 => K v5 σ4)))) : CI M_Mo_coinsOf [vR 35, vI x1] σ K := by
  refine Con.of ok_M_Mo_coinsOf (ls := [(0, vR 35), (1, vI x1)]) rfl (Nat.le_of_ble_eq_true rfl) ?_
  refine r_aload_n d_Mo_coinsOf_0 rfl (?_ : WM _ 1 _ _ _ _)
  refine r_iload_n d_Mo_coinsOf_1 rfl (?_ : WM _ 2 _ _ _ _)
  refine r_callV (ν := M_Mo_book) (k := 35) [vI x1] ok_M_Mo_book okv_M_Mo_book (by decide) rfl rfl rfl (qm_5 (i := 234) rfl rfl) np_M_Mo_book rfl (by decide) (Nat.le_of_ble_eq_true rfl) rfl d_Mo_coinsOf_2 (CI.k h (fun v2 σ1 h => (?_ : WM _ 5 _ _ _ _)))
  refine r_if_le 16 d_Mo_coinsOf_5 rfl ⟨fun c3 => (?_ : WM _ 16 _ _ _ _), fun c3 => (?_ : WM _ 8 _ _ _ _)⟩
  · replace h := h.1 c3
    refine r_iconst d_Mo_coinsOf_16 (by decide) (?_ : WM _ 17 _ _ _ _)
    exact r_ireturn rfl d_Mo_coinsOf_17 h
  · replace h := h.2 c3
    refine r_aload_n d_Mo_coinsOf_8 rfl (?_ : WM _ 9 _ _ _ _)
    refine r_iload_n d_Mo_coinsOf_9 rfl (?_ : WM _ 10 _ _ _ _)
    refine r_callV (ν := M_Mo_book) (k := 35) [vI x1] ok_M_Mo_book okv_M_Mo_book (by decide) rfl rfl rfl (qm_5 (i := 234) rfl rfl) np_M_Mo_book rfl (by decide) (Nat.le_of_ble_eq_true rfl) rfl d_Mo_coinsOf_10 (CI.k h (fun v5 σ4 h => (?_ : WM _ 13 _ _ _ _)))
    refine r_goto 17 d_Mo_coinsOf_13 rfl ?_
    exact r_ireturn rfl d_Mo_coinsOf_17 h
set_option maxRecDepth 20000 in
theorem e_Mo_audited {K : Int → St → Prop} {σ : St} (x1 : Int) (h : (inR (4 * x1)) ∧ (inR ((4 * x1) + 3)) ∧ (0 ≤ ((4 * x1) + 3)) ∧ (((4 * x1) + 3) < 192) ∧ K (σ 39 ((4 * x1) + 3)) σ) : CI M_Mo_audited [vR 35, vI x1] σ K := by
  refine Con.of ok_M_Mo_audited (ls := [(0, vR 35), (1, vI x1)]) rfl (Nat.le_of_ble_eq_true rfl) ?_
  refine r_aload_n d_Mo_audited_0 rfl (?_ : WM _ 1 _ _ _ _)
  refine r_getR (k := 35) (j := 4) (q := 39) (by decide) rfl clk_11 (by decide) (qm_5 (i := 40) rfl rfl) rfl d_Mo_audited_1 (?_ : WM _ 4 _ _ _ _)
  refine r_iconst d_Mo_audited_4 (by decide) (?_ : WM _ 5 _ _ _ _)
  refine r_iload_n d_Mo_audited_5 rfl (?_ : WM _ 6 _ _ _ _)
  obtain ⟨h1, h⟩ := h
  refine r_imul d_Mo_audited_6 h1 (?_ : WM _ 7 _ _ _ _)
  refine r_iconst d_Mo_audited_7 (by decide) (?_ : WM _ 8 _ _ _ _)
  obtain ⟨h2, h⟩ := h
  refine r_iadd d_Mo_audited_8 h2 (?_ : WM _ 9 _ _ _ _)
  obtain ⟨h3, h⟩ := h
  obtain ⟨h4, h⟩ := h
  refine r_iald (k := 39) (n := 192) (by decide) rfl d_Mo_audited_9 h3 h4 (y := (σ 39 ((4 * x1) + 3))) rfl (?_ : WM _ 10 _ _ _ _)
  exact r_ireturn rfl d_Mo_audited_10 h
set_option maxRecDepth 20000 in
theorem e_Mo_certainMany {K : Int → St → Prop} {σ : St}  (h : WM M_Mo_certainMany 4 [(0, vR 35), (1, vI 0), (2, vI 0)] [] σ (QI K)) : CI M_Mo_certainMany [vR 35] σ K := by
  refine Con.of ok_M_Mo_certainMany (ls := [(0, vR 35)]) rfl (Nat.le_of_ble_eq_true rfl) ?_
  refine r_iconst d_Mo_certainMany_0 (by decide) (?_ : WM _ 1 _ _ _ _)
  refine r_istore_n (ls' := [(1, vI 0), (0, vR 35)]) d_Mo_certainMany_1 rfl (by decide) rfl (?_ : WM _ 2 _ _ _ _)
  refine r_iconst d_Mo_certainMany_2 (by decide) (?_ : WM _ 3 _ _ _ _)
  refine r_istore_n (ls' := [(2, vI 0), (1, vI 0), (0, vR 35)]) d_Mo_certainMany_3 rfl (by decide) rfl (?_ : WM _ 4 _ _ _ _)
  refine r_pick (ls' := [(0, vR 35), (1, vI 0), (2, vI 0)]) [2, 1, 0] rfl ?_
  exact h
set_option maxRecDepth 20000 in
theorem l_Mo_certainMany_1 {K : Int → St → Prop} {σ : St} (x1 : Int) (x2 : Int) (h : ((σ 35 6) ≤ x2 → K x1 σ) ∧ (¬ (σ 35 6) ≤ x2 → CI M_Mo_isCertain [vR 35, vI x2] σ (fun v3 σ2 => (v3 = 0 → (inR (x1 + 0)) ∧ (inR (x2 + 1)) ∧ WM M_Mo_certainMany 4 [(0, vR 35), (1, vI (x1 + 0)), (2, vI (x2 + 1))] [] σ2 (QI K)) ∧ (¬ v3 = 0 → (inR (x1 + 1)) ∧ (inR (x2 + 1)) ∧ WM M_Mo_certainMany 4 [(0, vR 35), (1, vI (x1 + 1)), (2, vI (x2 + 1))] [] σ2 (QI K))))) : WM M_Mo_certainMany 4 [(0, vR 35), (1, vI x1), (2, vI x2)] [] σ (QI K) := by
  refine r_iload_n d_Mo_certainMany_4 rfl (?_ : WM _ 5 _ _ _ _)
  refine r_aload_n d_Mo_certainMany_5 rfl (?_ : WM _ 6 _ _ _ _)
  refine r_getI (k := 35) (j := 6) 6 (by decide) rfl clk_11 (by decide) (qm_5 (i := 42) rfl rfl) rfl rfl d_Mo_certainMany_6 (y := (σ 35 6)) rfl (?_ : WM _ 9 _ _ _ _)
  refine r_icmp_ge 34 d_Mo_certainMany_9 rfl ⟨fun c1 => (?_ : WM _ 34 _ _ _ _), fun c1 => (?_ : WM _ 12 _ _ _ _)⟩
  · replace h := h.1 c1
    refine r_iload_n d_Mo_certainMany_34 rfl (?_ : WM _ 35 _ _ _ _)
    exact r_ireturn rfl d_Mo_certainMany_35 h
  · replace h := h.2 c1
    refine r_iload_n d_Mo_certainMany_12 rfl (?_ : WM _ 13 _ _ _ _)
    refine r_aload_n d_Mo_certainMany_13 rfl (?_ : WM _ 14 _ _ _ _)
    refine r_iload_n d_Mo_certainMany_14 rfl (?_ : WM _ 15 _ _ _ _)
    refine r_callV (ν := M_Mo_isCertain) (k := 35) [vI x2] ok_M_Mo_isCertain okv_M_Mo_isCertain (by decide) rfl rfl rfl (qm_6 (i := 27) rfl rfl) np_M_Mo_isCertain rfl (by decide) (Nat.le_of_ble_eq_true rfl) rfl d_Mo_certainMany_15 (CI.k h (fun v3 σ2 h => (?_ : WM _ 18 _ _ _ _)))
    refine r_if_eq 25 d_Mo_certainMany_18 rfl ⟨fun c4 => (?_ : WM _ 25 _ _ _ _), fun c4 => (?_ : WM _ 21 _ _ _ _)⟩
    · replace h := h.1 c4
      refine r_iconst d_Mo_certainMany_25 (by decide) (?_ : WM _ 26 _ _ _ _)
      obtain ⟨h5, h⟩ := h
      refine r_iadd d_Mo_certainMany_26 h5 (?_ : WM _ 27 _ _ _ _)
      refine r_istore_n (ls' := [(1, vI (x1 + 0)), (0, vR 35), (2, vI x2)]) d_Mo_certainMany_27 rfl (by decide) rfl (?_ : WM _ 28 _ _ _ _)
      obtain ⟨h6, h⟩ := h
      refine r_iinc (ls' := [(2, vI (x2 + 1)), (1, vI (x1 + 0)), (0, vR 35)]) d_Mo_certainMany_28 rfl h6 (by decide) rfl (?_ : WM _ 31 _ _ _ _)
      refine r_goto 4 d_Mo_certainMany_31 rfl ?_
      refine r_pick (ls' := [(0, vR 35), (1, vI (x1 + 0)), (2, vI (x2 + 1))]) [2, 1, 0] rfl ?_
      exact h
    · replace h := h.2 c4
      refine r_iconst d_Mo_certainMany_21 (by decide) (?_ : WM _ 22 _ _ _ _)
      refine r_goto 26 d_Mo_certainMany_22 rfl ?_
      obtain ⟨h7, h⟩ := h
      refine r_iadd d_Mo_certainMany_26 h7 (?_ : WM _ 27 _ _ _ _)
      refine r_istore_n (ls' := [(1, vI (x1 + 1)), (0, vR 35), (2, vI x2)]) d_Mo_certainMany_27 rfl (by decide) rfl (?_ : WM _ 28 _ _ _ _)
      obtain ⟨h8, h⟩ := h
      refine r_iinc (ls' := [(2, vI (x2 + 1)), (1, vI (x1 + 1)), (0, vR 35)]) d_Mo_certainMany_28 rfl h8 (by decide) rfl (?_ : WM _ 31 _ _ _ _)
      refine r_goto 4 d_Mo_certainMany_31 rfl ?_
      refine r_pick (ls' := [(0, vR 35), (1, vI (x1 + 1)), (2, vI (x2 + 1))]) [2, 1, 0] rfl ?_
      exact h
set_option maxRecDepth 20000 in
theorem e_Mo_sizeBy {K : Int → St → Prop} {σ : St} (x1 : Int) (x2 : Int) (h : CI M_Mo_allCoins [vR 35] σ (fun v2 σ1 => WM M_Mo_sizeBy 9 [(0, vR 35), (1, vI x1), (2, vI x2), (3, vL v2), (5, vI 1)] [] σ1 (QI K))) : CI M_Mo_sizeBy [vR 35, vI x1, vI x2] σ K := by
  refine Con.of ok_M_Mo_sizeBy (ls := [(0, vR 35), (1, vI x1), (2, vI x2)]) rfl (Nat.le_of_ble_eq_true rfl) ?_
  refine r_aload_n d_Mo_sizeBy_0 rfl (?_ : WM _ 1 _ _ _ _)
  refine r_callV (ν := M_Mo_allCoins) (k := 35) [] ok_M_Mo_allCoins okv_M_Mo_allCoins (by decide) rfl rfl rfl (qm_6 (i := 42) rfl rfl) np_M_Mo_allCoins rfl (by decide) (Nat.le_of_ble_eq_true rfl) rfl d_Mo_sizeBy_1 (CI.k h (fun v2 σ1 h => (?_ : WM _ 4 _ _ _ _)))
  refine r_i2l d_Mo_sizeBy_4 (?_ : WM _ 5 _ _ _ _)
  refine r_lstore_n (ls' := [(3, vL v2), (0, vR 35), (1, vI x1), (2, vI x2)]) d_Mo_sizeBy_5 rfl (by decide) rfl (?_ : WM _ 6 _ _ _ _)
  refine r_iconst d_Mo_sizeBy_6 (by decide) (?_ : WM _ 7 _ _ _ _)
  refine r_istore (ls' := [(5, vI 1), (3, vL v2), (0, vR 35), (1, vI x1), (2, vI x2)]) d_Mo_sizeBy_7 (by decide) rfl (?_ : WM _ 9 _ _ _ _)
  refine r_pick (ls' := [(0, vR 35), (1, vI x1), (2, vI x2), (3, vL v2), (5, vI 1)]) [2, 3, 4, 1, 0] rfl ?_
  exact h
set_option maxRecDepth 20000 in
theorem l_Mo_sizeBy_1 {K : Int → St → Prop} {σ : St} (x1 : Int) (x2 : Int) (x3 : Int) (x5 : Int) (h : (400 < x5 → K (-1) σ) ∧ (¬ 400 < x5 → CI M_Mo_upperOf [vR 35, vI x5, vI x2] σ (fun v5 σ4 => (inL (x3 * v5)) ∧ (0 ≤ (x3 * v5)) ∧ (0 < (lcq ((x3 * v5) / 1000000) x1) → (inR (x5 + 1)) ∧ WM M_Mo_sizeBy 9 [(0, vR 35), (1, vI x1), (2, vI x2), (3, vL x3), (5, vI (x5 + 1))] [] σ4 (QI K)) ∧ (¬ 0 < (lcq ((x3 * v5) / 1000000) x1) → K x5 σ4)))) : WM M_Mo_sizeBy 9 [(0, vR 35), (1, vI x1), (2, vI x2), (3, vL x3), (5, vI x5)] [] σ (QI K) := by
  refine r_iload d_Mo_sizeBy_9 rfl (?_ : WM _ 11 _ _ _ _)
  refine r_sipush d_Mo_sizeBy_11 (by decide) (by decide) (?_ : WM _ 14 _ _ _ _)
  refine r_icmp_gt 46 d_Mo_sizeBy_14 rfl ⟨fun c3 => (?_ : WM _ 46 _ _ _ _), fun c3 => (?_ : WM _ 17 _ _ _ _)⟩
  · replace h := h.1 c3
    refine r_iconst d_Mo_sizeBy_46 (by decide) (?_ : WM _ 47 _ _ _ _)
    exact r_ireturn rfl d_Mo_sizeBy_47 h
  · replace h := h.2 c3
    refine r_lload_n d_Mo_sizeBy_17 rfl (?_ : WM _ 18 _ _ _ _)
    refine r_aload_n d_Mo_sizeBy_18 rfl (?_ : WM _ 19 _ _ _ _)
    refine r_iload d_Mo_sizeBy_19 rfl (?_ : WM _ 21 _ _ _ _)
    refine r_iload_n d_Mo_sizeBy_21 rfl (?_ : WM _ 22 _ _ _ _)
    refine r_callV (ν := M_Mo_upperOf) (k := 35) [vI x5, vI x2] ok_M_Mo_upperOf okv_M_Mo_upperOf (by decide) rfl rfl rfl (qm_6 (i := 46) rfl rfl) np_M_Mo_upperOf rfl (by decide) (Nat.le_of_ble_eq_true rfl) rfl d_Mo_sizeBy_22 (CI.k h (fun v5 σ4 h => (?_ : WM _ 25 _ _ _ _)))
    refine r_i2l d_Mo_sizeBy_25 (?_ : WM _ 26 _ _ _ _)
    obtain ⟨h6, h⟩ := h
    refine r_lmul d_Mo_sizeBy_26 h6 (?_ : WM _ 27 _ _ _ _)
    refine r_ldc2 1000000 d_Mo_sizeBy_27 (qm_6 (i := 60) rfl rfl) (by decide) (by decide) (?_ : WM _ 30 _ _ _ _)
    obtain ⟨h7, h⟩ := h
    refine r_ldivn d_Mo_sizeBy_30 h7 (by decide) (?_ : WM _ 31 _ _ _ _)
    refine r_iload_n d_Mo_sizeBy_31 rfl (?_ : WM _ 32 _ _ _ _)
    refine r_i2l d_Mo_sizeBy_32 (?_ : WM _ 33 _ _ _ _)
    refine r_lcmp d_Mo_sizeBy_33 (?_ : WM _ 34 _ _ _ _)
    refine r_if_gt 40 d_Mo_sizeBy_34 rfl ⟨fun c8 => (?_ : WM _ 40 _ _ _ _), fun c8 => (?_ : WM _ 37 _ _ _ _)⟩
    · replace h := h.1 c8
      obtain ⟨h9, h⟩ := h
      refine r_iinc (ls' := [(5, vI (x5 + 1)), (0, vR 35), (1, vI x1), (2, vI x2), (3, vL x3)]) d_Mo_sizeBy_40 rfl h9 (by decide) rfl (?_ : WM _ 43 _ _ _ _)
      refine r_goto 9 d_Mo_sizeBy_43 rfl ?_
      refine r_pick (ls' := [(0, vR 35), (1, vI x1), (2, vI x2), (3, vL x3), (5, vI (x5 + 1))]) [1, 2, 3, 4, 0] rfl ?_
      exact h
    · replace h := h.2 c8
      refine r_iload d_Mo_sizeBy_37 rfl (?_ : WM _ 39 _ _ _ _)
      exact r_ireturn rfl d_Mo_sizeBy_39 h
set_option maxRecDepth 20000 in
theorem e_Mo_allCoins {K : Int → St → Prop} {σ : St}  (h : WM M_Mo_allCoins 4 [(0, vR 35), (1, vI 0), (2, vI 0)] [] σ (QI K)) : CI M_Mo_allCoins [vR 35] σ K := by
  refine Con.of ok_M_Mo_allCoins (ls := [(0, vR 35)]) rfl (Nat.le_of_ble_eq_true rfl) ?_
  refine r_iconst d_Mo_allCoins_0 (by decide) (?_ : WM _ 1 _ _ _ _)
  refine r_istore_n (ls' := [(1, vI 0), (0, vR 35)]) d_Mo_allCoins_1 rfl (by decide) rfl (?_ : WM _ 2 _ _ _ _)
  refine r_iconst d_Mo_allCoins_2 (by decide) (?_ : WM _ 3 _ _ _ _)
  refine r_istore_n (ls' := [(2, vI 0), (1, vI 0), (0, vR 35)]) d_Mo_allCoins_3 rfl (by decide) rfl (?_ : WM _ 4 _ _ _ _)
  refine r_pick (ls' := [(0, vR 35), (1, vI 0), (2, vI 0)]) [2, 1, 0] rfl ?_
  exact h
set_option maxRecDepth 20000 in
theorem l_Mo_allCoins_1 {K : Int → St → Prop} {σ : St} (x1 : Int) (x2 : Int) (h : ((σ 35 6) ≤ x2 → K x1 σ) ∧ (¬ (σ 35 6) ≤ x2 → CI M_Mo_coinsOf [vR 35, vI x2] σ (fun v3 σ2 => (inR (x1 + v3)) ∧ (inR (x2 + 1)) ∧ WM M_Mo_allCoins 4 [(0, vR 35), (1, vI (x1 + v3)), (2, vI (x2 + 1))] [] σ2 (QI K)))) : WM M_Mo_allCoins 4 [(0, vR 35), (1, vI x1), (2, vI x2)] [] σ (QI K) := by
  refine r_iload_n d_Mo_allCoins_4 rfl (?_ : WM _ 5 _ _ _ _)
  refine r_aload_n d_Mo_allCoins_5 rfl (?_ : WM _ 6 _ _ _ _)
  refine r_getI (k := 35) (j := 6) 6 (by decide) rfl clk_11 (by decide) (qm_5 (i := 42) rfl rfl) rfl rfl d_Mo_allCoins_6 (y := (σ 35 6)) rfl (?_ : WM _ 9 _ _ _ _)
  refine r_icmp_ge 26 d_Mo_allCoins_9 rfl ⟨fun c1 => (?_ : WM _ 26 _ _ _ _), fun c1 => (?_ : WM _ 12 _ _ _ _)⟩
  · replace h := h.1 c1
    refine r_iload_n d_Mo_allCoins_26 rfl (?_ : WM _ 27 _ _ _ _)
    exact r_ireturn rfl d_Mo_allCoins_27 h
  · replace h := h.2 c1
    refine r_iload_n d_Mo_allCoins_12 rfl (?_ : WM _ 13 _ _ _ _)
    refine r_aload_n d_Mo_allCoins_13 rfl (?_ : WM _ 14 _ _ _ _)
    refine r_iload_n d_Mo_allCoins_14 rfl (?_ : WM _ 15 _ _ _ _)
    refine r_callV (ν := M_Mo_coinsOf) (k := 35) [vI x2] ok_M_Mo_coinsOf okv_M_Mo_coinsOf (by decide) rfl rfl rfl (qm_6 (i := 7) rfl rfl) np_M_Mo_coinsOf rfl (by decide) (Nat.le_of_ble_eq_true rfl) rfl d_Mo_allCoins_15 (CI.k h (fun v3 σ2 h => (?_ : WM _ 18 _ _ _ _)))
    obtain ⟨h4, h⟩ := h
    refine r_iadd d_Mo_allCoins_18 h4 (?_ : WM _ 19 _ _ _ _)
    refine r_istore_n (ls' := [(1, vI (x1 + v3)), (0, vR 35), (2, vI x2)]) d_Mo_allCoins_19 rfl (by decide) rfl (?_ : WM _ 20 _ _ _ _)
    obtain ⟨h5, h⟩ := h
    refine r_iinc (ls' := [(2, vI (x2 + 1)), (1, vI (x1 + v3)), (0, vR 35)]) d_Mo_allCoins_20 rfl h5 (by decide) rfl (?_ : WM _ 23 _ _ _ _)
    refine r_goto 4 d_Mo_allCoins_23 rfl ?_
    refine r_pick (ls' := [(0, vR 35), (1, vI (x1 + v3)), (2, vI (x2 + 1))]) [2, 1, 0] rfl ?_
    exact h
set_option maxRecDepth 20000 in
theorem e_Mo_drawnStart {K : Int → St → Prop} {σ : St}  (h : WM M_Mo_drawnStart 2 [(0, vR 35), (1, vI 0)] [] σ (QI K)) : CI M_Mo_drawnStart [vR 35] σ K := by
  refine Con.of ok_M_Mo_drawnStart (ls := [(0, vR 35)]) rfl (Nat.le_of_ble_eq_true rfl) ?_
  refine r_iconst d_Mo_drawnStart_0 (by decide) (?_ : WM _ 1 _ _ _ _)
  refine r_istore_n (ls' := [(1, vI 0), (0, vR 35)]) d_Mo_drawnStart_1 rfl (by decide) rfl (?_ : WM _ 2 _ _ _ _)
  refine r_pick (ls' := [(0, vR 35), (1, vI 0)]) [1, 0] rfl ?_
  exact h
set_option maxRecDepth 20000 in
theorem l_Mo_drawnStart_1 {K : Int → St → Prop} {σ : St} (x1 : Int) (h : (50 ≤ x1 → WM M_Mo_drawnStart 60 [(0, vR 35), (1, vI 1)] [] σ (QI K)) ∧ (¬ 50 ≤ x1 → (inL (1103 * (σ 35 11))) ∧ (inL ((1103 * (σ 35 11)) + 12345)) ∧ (0 ≤ ((1103 * (σ 35 11)) + 12345)) ∧ (inR (((1103 * (σ 35 11)) + 12345) % 1000003)) ∧ (0 ≤ (((1103 * (σ 35 11)) + 12345) % 1000003)) ∧ (0 < (σ 35 9)) ∧ (inR (((((1103 * (σ 35 11)) + 12345) % 1000003) % (σ 35 9)) + 1)) ∧ CI M_Mo_isStart [vR 35, vI (((((1103 * (σ 35 11)) + 12345) % 1000003) % (σ 35 9)) + 1)] (ups σ 35 11 (((1103 * (σ 35 11)) + 12345) % 1000003)) (fun v10 σ9 => (¬ v10 = 0 → (inR (x1 + 1)) ∧ WM M_Mo_drawnStart 2 [(0, vR 35), (1, vI (x1 + 1))] [] σ9 (QI K)) ∧ (v10 = 0 → K (((((1103 * (σ 35 11)) + 12345) % 1000003) % (σ 35 9)) + 1) σ9)))) : WM M_Mo_drawnStart 2 [(0, vR 35), (1, vI x1)] [] σ (QI K) := by
  refine r_iload_n d_Mo_drawnStart_2 rfl (?_ : WM _ 3 _ _ _ _)
  refine r_bipush d_Mo_drawnStart_3 (by decide) (by decide) (?_ : WM _ 5 _ _ _ _)
  refine r_icmp_ge 58 d_Mo_drawnStart_5 rfl ⟨fun c1 => (?_ : WM _ 58 _ _ _ _), fun c1 => (?_ : WM _ 8 _ _ _ _)⟩
  · replace h := h.1 c1
    refine r_iconst d_Mo_drawnStart_58 (by decide) (?_ : WM _ 59 _ _ _ _)
    refine r_istore_n (ls' := [(1, vI 1), (0, vR 35)]) d_Mo_drawnStart_59 rfl (by decide) rfl (?_ : WM _ 60 _ _ _ _)
    refine r_pick (ls' := [(0, vR 35), (1, vI 1)]) [1, 0] rfl ?_
    exact h
  · replace h := h.2 c1
    refine r_aload_n d_Mo_drawnStart_8 rfl (?_ : WM _ 9 _ _ _ _)
    refine r_ldc2 1103 d_Mo_drawnStart_9 (qm_6 (i := 69) rfl rfl) (by decide) (by decide) (?_ : WM _ 12 _ _ _ _)
    refine r_aload_n d_Mo_drawnStart_12 rfl (?_ : WM _ 13 _ _ _ _)
    refine r_getI (k := 35) (j := 11) 11 (by decide) rfl clk_11 (by decide) (qm_5 (i := 47) rfl rfl) rfl rfl d_Mo_drawnStart_13 (y := (σ 35 11)) rfl (?_ : WM _ 16 _ _ _ _)
    refine r_i2l d_Mo_drawnStart_16 (?_ : WM _ 17 _ _ _ _)
    obtain ⟨h2, h⟩ := h
    refine r_lmul d_Mo_drawnStart_17 h2 (?_ : WM _ 18 _ _ _ _)
    refine r_ldc2 12345 d_Mo_drawnStart_18 (qm_6 (i := 70) rfl rfl) (by decide) (by decide) (?_ : WM _ 21 _ _ _ _)
    obtain ⟨h3, h⟩ := h
    refine r_ladd d_Mo_drawnStart_21 h3 (?_ : WM _ 22 _ _ _ _)
    refine r_ldc2 1000003 d_Mo_drawnStart_22 (qm_6 (i := 71) rfl rfl) (by decide) (by decide) (?_ : WM _ 25 _ _ _ _)
    obtain ⟨h4, h⟩ := h
    refine r_lremn d_Mo_drawnStart_25 h4 (by decide) (?_ : WM _ 26 _ _ _ _)
    obtain ⟨h5, h⟩ := h
    refine r_l2i d_Mo_drawnStart_26 h5 (?_ : WM _ 27 _ _ _ _)
    refine r_put (k := 35) (j := 11) 11 (by decide) rfl clk_11 (by decide) (qm_5 (i := 47) rfl rfl) rfl rfl rfl tyX11_ok rfl nmX11 d_Mo_drawnStart_27 (?_ : WM _ 30 _ _ _ _)
    refine r_aload_n d_Mo_drawnStart_30 rfl (?_ : WM _ 31 _ _ _ _)
    refine r_getI (k := 35) (j := 11) 11 (by decide) rfl clk_11 (by decide) (qm_5 (i := 47) rfl rfl) rfl rfl d_Mo_drawnStart_31 (y := (((1103 * (σ 35 11)) + 12345) % 1000003)) (ups_s) (?_ : WM _ 34 _ _ _ _)
    refine r_aload_n d_Mo_drawnStart_34 rfl (?_ : WM _ 35 _ _ _ _)
    refine r_getI (k := 35) (j := 9) 9 (by decide) rfl clk_11 (by decide) (qm_5 (i := 45) rfl rfl) rfl rfl d_Mo_drawnStart_35 (y := (σ 35 9)) (ups_f (by decide)) (?_ : WM _ 38 _ _ _ _)
    obtain ⟨h6, h⟩ := h
    obtain ⟨h7, h⟩ := h
    refine r_iremn d_Mo_drawnStart_38 h6 h7 (?_ : WM _ 39 _ _ _ _)
    refine r_iconst d_Mo_drawnStart_39 (by decide) (?_ : WM _ 40 _ _ _ _)
    obtain ⟨h8, h⟩ := h
    refine r_iadd d_Mo_drawnStart_40 h8 (?_ : WM _ 41 _ _ _ _)
    refine r_istore_n (ls' := [(2, vI (((((1103 * (σ 35 11)) + 12345) % 1000003) % (σ 35 9)) + 1)), (0, vR 35), (1, vI x1)]) d_Mo_drawnStart_41 rfl (by decide) rfl (?_ : WM _ 42 _ _ _ _)
    refine r_aload_n d_Mo_drawnStart_42 rfl (?_ : WM _ 43 _ _ _ _)
    refine r_iload_n d_Mo_drawnStart_43 rfl (?_ : WM _ 44 _ _ _ _)
    refine r_callV (ν := M_Mo_isStart) (k := 35) [vI (((((1103 * (σ 35 11)) + 12345) % 1000003) % (σ 35 9)) + 1)] ok_M_Mo_isStart okv_M_Mo_isStart (by decide) rfl rfl rfl (qm_6 (i := 72) rfl rfl) np_M_Mo_isStart rfl (by decide) (Nat.le_of_ble_eq_true rfl) rfl d_Mo_drawnStart_44 (CI.k h (fun v10 σ9 h => (?_ : WM _ 47 _ _ _ _)))
    refine r_if_ne 52 d_Mo_drawnStart_47 rfl ⟨fun c11 => (?_ : WM _ 52 _ _ _ _), fun c11 => (?_ : WM _ 50 _ _ _ _)⟩
    · replace h := h.1 c11
      obtain ⟨h12, h⟩ := h
      refine r_iinc (ls' := [(1, vI (x1 + 1)), (2, vI (((((1103 * (σ 35 11)) + 12345) % 1000003) % (σ 35 9)) + 1)), (0, vR 35)]) d_Mo_drawnStart_52 rfl h12 (by decide) rfl (?_ : WM _ 55 _ _ _ _)
      refine r_goto 2 d_Mo_drawnStart_55 rfl ?_
      refine r_pick (ls' := [(0, vR 35), (1, vI (x1 + 1))]) [2, 0] rfl ?_
      exact h
    · replace h := h.2 c11
      refine r_iload_n d_Mo_drawnStart_50 rfl (?_ : WM _ 51 _ _ _ _)
      exact r_ireturn rfl d_Mo_drawnStart_51 h
set_option maxRecDepth 20000 in
theorem l_Mo_drawnStart_2 {K : Int → St → Prop} {σ : St} (x1 : Int) (h : CI M_Mo_isStart [vR 35, vI x1] σ (fun v14 σ13 => (v14 = 0 → K x1 σ13) ∧ (¬ v14 = 0 → (inR (x1 + 1)) ∧ WM M_Mo_drawnStart 60 [(0, vR 35), (1, vI (x1 + 1))] [] σ13 (QI K)))) : WM M_Mo_drawnStart 60 [(0, vR 35), (1, vI x1)] [] σ (QI K) := by
  refine r_aload_n d_Mo_drawnStart_60 rfl (?_ : WM _ 61 _ _ _ _)
  refine r_iload_n d_Mo_drawnStart_61 rfl (?_ : WM _ 62 _ _ _ _)
  refine r_callV (ν := M_Mo_isStart) (k := 35) [vI x1] ok_M_Mo_isStart okv_M_Mo_isStart (by decide) rfl rfl rfl (qm_6 (i := 72) rfl rfl) np_M_Mo_isStart rfl (by decide) (Nat.le_of_ble_eq_true rfl) rfl d_Mo_drawnStart_62 (CI.k h (fun v14 σ13 h => (?_ : WM _ 65 _ _ _ _)))
  refine r_if_eq 74 d_Mo_drawnStart_65 rfl ⟨fun c15 => (?_ : WM _ 74 _ _ _ _), fun c15 => (?_ : WM _ 68 _ _ _ _)⟩
  · replace h := h.1 c15
    refine r_iload_n d_Mo_drawnStart_74 rfl (?_ : WM _ 75 _ _ _ _)
    exact r_ireturn rfl d_Mo_drawnStart_75 h
  · replace h := h.2 c15
    obtain ⟨h16, h⟩ := h
    refine r_iinc (ls' := [(1, vI (x1 + 1)), (0, vR 35)]) d_Mo_drawnStart_68 rfl h16 (by decide) rfl (?_ : WM _ 71 _ _ _ _)
    refine r_goto 60 d_Mo_drawnStart_71 rfl ?_
    refine r_pick (ls' := [(0, vR 35), (1, vI (x1 + 1))]) [1, 0] rfl ?_
    exact h
set_option maxRecDepth 20000 in
theorem e_Mo_laysHits {K : St → Prop} {σ : St}  (h : CV M_Mo_laysRest [vR 35, vI (σ 35 9)] σ (fun σ1 => WM M_Mo_laysHits 15 [(0, vR 35), (1, vI 0)] [] (ups σ1 35 25 0) (QV K))) : CV M_Mo_laysHits [vR 35] σ K := by
  refine Con.of ok_M_Mo_laysHits (ls := [(0, vR 35)]) rfl (Nat.le_of_ble_eq_true rfl) ?_
  refine r_aload_n d_Mo_laysHits_0 rfl (?_ : WM _ 1 _ _ _ _)
  refine r_aload_n d_Mo_laysHits_1 rfl (?_ : WM _ 2 _ _ _ _)
  refine r_getI (k := 35) (j := 9) 9 (by decide) rfl clk_11 (by decide) (qm_5 (i := 45) rfl rfl) rfl rfl d_Mo_laysHits_2 (y := (σ 35 9)) rfl (?_ : WM _ 5 _ _ _ _)
  refine r_callV (ν := M_Mo_laysRest) (k := 35) [vI (σ 35 9)] ok_M_Mo_laysRest okv_M_Mo_laysRest (by decide) rfl rfl rfl (qm_6 (i := 93) rfl rfl) np_M_Mo_laysRest rfl (by decide) (Nat.le_of_ble_eq_true rfl) rfl d_Mo_laysHits_5 (CV.k h (fun σ1 h => (?_ : WM _ 8 _ _ _ _)))
  refine r_aload_n d_Mo_laysHits_8 rfl (?_ : WM _ 9 _ _ _ _)
  refine r_iconst d_Mo_laysHits_9 (by decide) (?_ : WM _ 10 _ _ _ _)
  refine r_put (k := 35) (j := 25) 25 (by decide) rfl clk_11 (by decide) (qm_5 (i := 61) rfl rfl) rfl rfl rfl tyX11_ok rfl nmX11 d_Mo_laysHits_10 (?_ : WM _ 13 _ _ _ _)
  refine r_iconst d_Mo_laysHits_13 (by decide) (?_ : WM _ 14 _ _ _ _)
  refine r_istore_n (ls' := [(1, vI 0), (0, vR 35)]) d_Mo_laysHits_14 rfl (by decide) rfl (?_ : WM _ 15 _ _ _ _)
  refine r_pick (ls' := [(0, vR 35), (1, vI 0)]) [1, 0] rfl ?_
  exact h
set_option maxRecDepth 20000 in
theorem l_Mo_laysHits_1 {K : St → Prop} {σ : St} (x1 : Int) (h : ((σ 35 6) ≤ x1 → WM M_Mo_laysHits 38 [(0, vR 35), (1, vI 0)] [] σ (QV K)) ∧ (¬ (σ 35 6) ≤ x1 → (0 ≤ x1) ∧ (x1 < 48) ∧ (inR (x1 + 1)) ∧ WM M_Mo_laysHits 15 [(0, vR 35), (1, vI (x1 + 1))] [] (ups σ 48 x1 0) (QV K))) : WM M_Mo_laysHits 15 [(0, vR 35), (1, vI x1)] [] σ (QV K) := by
  refine r_iload_n d_Mo_laysHits_15 rfl (?_ : WM _ 16 _ _ _ _)
  refine r_aload_n d_Mo_laysHits_16 rfl (?_ : WM _ 17 _ _ _ _)
  refine r_getI (k := 35) (j := 6) 6 (by decide) rfl clk_11 (by decide) (qm_5 (i := 42) rfl rfl) rfl rfl d_Mo_laysHits_17 (y := (σ 35 6)) rfl (?_ : WM _ 20 _ _ _ _)
  refine r_icmp_ge 36 d_Mo_laysHits_20 rfl ⟨fun c3 => (?_ : WM _ 36 _ _ _ _), fun c3 => (?_ : WM _ 23 _ _ _ _)⟩
  · replace h := h.1 c3
    refine r_iconst d_Mo_laysHits_36 (by decide) (?_ : WM _ 37 _ _ _ _)
    refine r_istore_n (ls' := [(1, vI 0), (0, vR 35)]) d_Mo_laysHits_37 rfl (by decide) rfl (?_ : WM _ 38 _ _ _ _)
    refine r_pick (ls' := [(0, vR 35), (1, vI 0)]) [1, 0] rfl ?_
    exact h
  · replace h := h.2 c3
    refine r_aload_n d_Mo_laysHits_23 rfl (?_ : WM _ 24 _ _ _ _)
    refine r_getR (k := 35) (j := 24) (q := 48) (by decide) rfl clk_11 (by decide) (qm_5 (i := 60) rfl rfl) rfl d_Mo_laysHits_24 (?_ : WM _ 27 _ _ _ _)
    refine r_iload_n d_Mo_laysHits_27 rfl (?_ : WM _ 28 _ _ _ _)
    refine r_iconst d_Mo_laysHits_28 (by decide) (?_ : WM _ 29 _ _ _ _)
    obtain ⟨h4, h⟩ := h
    obtain ⟨h5, h⟩ := h
    refine r_iast (k := 48) (n := 48) (by decide) rfl d_Mo_laysHits_29 h4 h5 (?_ : WM _ 30 _ _ _ _)
    obtain ⟨h6, h⟩ := h
    refine r_iinc (ls' := [(1, vI (x1 + 1)), (0, vR 35)]) d_Mo_laysHits_30 rfl h6 (by decide) rfl (?_ : WM _ 33 _ _ _ _)
    refine r_goto 15 d_Mo_laysHits_33 rfl ?_
    refine r_pick (ls' := [(0, vR 35), (1, vI (x1 + 1))]) [1, 0] rfl ?_
    exact h
set_option maxRecDepth 20000 in
theorem l_Mo_laysHits_2 {K : St → Prop} {σ : St} (x1 : Int) (h : ((σ 35 10) ≤ x1 → K σ) ∧ (¬ (σ 35 10) ≤ x1 → (0 ≤ x1) ∧ (x1 < 5) ∧ WM M_Mo_laysHits 53 [(0, vR 35), (1, vI x1), (2, vI (σ 41 x1))] [] σ (QV K))) : WM M_Mo_laysHits 38 [(0, vR 35), (1, vI x1)] [] σ (QV K) := by
  refine r_iload_n d_Mo_laysHits_38 rfl (?_ : WM _ 39 _ _ _ _)
  refine r_aload_n d_Mo_laysHits_39 rfl (?_ : WM _ 40 _ _ _ _)
  refine r_getI (k := 35) (j := 10) 10 (by decide) rfl clk_11 (by decide) (qm_5 (i := 46) rfl rfl) rfl rfl d_Mo_laysHits_40 (y := (σ 35 10)) rfl (?_ : WM _ 43 _ _ _ _)
  refine r_icmp_ge 133 d_Mo_laysHits_43 rfl ⟨fun c7 => (?_ : WM _ 133 _ _ _ _), fun c7 => (?_ : WM _ 46 _ _ _ _)⟩
  · replace h := h.1 c7
    exact r_return rfl d_Mo_laysHits_133 h
  · replace h := h.2 c7
    refine r_aload_n d_Mo_laysHits_46 rfl (?_ : WM _ 47 _ _ _ _)
    refine r_getR (k := 35) (j := 8) (q := 41) (by decide) rfl clk_11 (by decide) (qm_5 (i := 44) rfl rfl) rfl d_Mo_laysHits_47 (?_ : WM _ 50 _ _ _ _)
    refine r_iload_n d_Mo_laysHits_50 rfl (?_ : WM _ 51 _ _ _ _)
    obtain ⟨h8, h⟩ := h
    obtain ⟨h9, h⟩ := h
    refine r_iald (k := 41) (n := 5) (by decide) rfl d_Mo_laysHits_51 h8 h9 (y := (σ 41 x1)) rfl (?_ : WM _ 52 _ _ _ _)
    refine r_istore_n (ls' := [(2, vI (σ 41 x1)), (0, vR 35), (1, vI x1)]) d_Mo_laysHits_52 rfl (by decide) rfl (?_ : WM _ 53 _ _ _ _)
    refine r_pick (ls' := [(0, vR 35), (1, vI x1), (2, vI (σ 41 x1))]) [1, 2, 0] rfl ?_
    exact h
set_option maxRecDepth 20000 in
theorem l_Mo_laysHits_3 {K : St → Prop} {σ : St} (x1 : Int) (x2 : Int) (h : ((σ 35 20) < x2 → (inR (x1 + 1)) ∧ WM M_Mo_laysHits 38 [(0, vR 35), (1, vI (x1 + 1))] [] σ (QV K)) ∧ (¬ (σ 35 20) < x2 → CI M_Mo_ownerOf [vR 35, vI x2] σ (fun v13 σ12 => (0 ≤ (σ12 35 25)) ∧ ((σ12 35 25) < 240) ∧ (inR ((σ12 35 25) + 1)) ∧ (0 ≤ v13) ∧ (v13 < 48) ∧ (inR ((σ12 48 v13) + 1)) ∧ (inR (x2 + (σ12 35 9))) ∧ WM M_Mo_laysHits 53 [(0, vR 35), (1, vI x1), (2, vI (x2 + (σ12 35 9)))] [] (ups (ups (ups (ups (ups σ12 45 (σ12 35 25) v13) 46 (σ12 35 25) x2) 47 (σ12 35 25) x1) 35 25 ((σ12 35 25) + 1)) 48 v13 ((σ12 48 v13) + 1)) (QV K)))) : WM M_Mo_laysHits 53 [(0, vR 35), (1, vI x1), (2, vI x2)] [] σ (QV K) := by
  refine r_iload_n d_Mo_laysHits_53 rfl (?_ : WM _ 54 _ _ _ _)
  refine r_aload_n d_Mo_laysHits_54 rfl (?_ : WM _ 55 _ _ _ _)
  refine r_getI (k := 35) (j := 20) 20 (by decide) rfl clk_11 (by decide) (qm_5 (i := 56) rfl rfl) rfl rfl d_Mo_laysHits_55 (y := (σ 35 20)) rfl (?_ : WM _ 58 _ _ _ _)
  refine r_icmp_gt 127 d_Mo_laysHits_58 rfl ⟨fun c10 => (?_ : WM _ 127 _ _ _ _), fun c10 => (?_ : WM _ 61 _ _ _ _)⟩
  · replace h := h.1 c10
    obtain ⟨h11, h⟩ := h
    refine r_iinc (ls' := [(1, vI (x1 + 1)), (0, vR 35), (2, vI x2)]) d_Mo_laysHits_127 rfl h11 (by decide) rfl (?_ : WM _ 130 _ _ _ _)
    refine r_goto 38 d_Mo_laysHits_130 rfl ?_
    refine r_pick (ls' := [(0, vR 35), (1, vI (x1 + 1))]) [1, 0] rfl ?_
    exact h
  · replace h := h.2 c10
    refine r_aload_n d_Mo_laysHits_61 rfl (?_ : WM _ 62 _ _ _ _)
    refine r_iload_n d_Mo_laysHits_62 rfl (?_ : WM _ 63 _ _ _ _)
    refine r_callV (ν := M_Mo_ownerOf) (k := 35) [vI x2] ok_M_Mo_ownerOf okv_M_Mo_ownerOf (by decide) rfl rfl rfl (qm_6 (i := 97) rfl rfl) np_M_Mo_ownerOf rfl (by decide) (Nat.le_of_ble_eq_true rfl) rfl d_Mo_laysHits_63 (CI.k h (fun v13 σ12 h => (?_ : WM _ 66 _ _ _ _)))
    refine r_istore_n (ls' := [(3, vI v13), (0, vR 35), (1, vI x1), (2, vI x2)]) d_Mo_laysHits_66 rfl (by decide) rfl (?_ : WM _ 67 _ _ _ _)
    refine r_aload_n d_Mo_laysHits_67 rfl (?_ : WM _ 68 _ _ _ _)
    refine r_getR (k := 35) (j := 21) (q := 45) (by decide) rfl clk_11 (by decide) (qm_5 (i := 57) rfl rfl) rfl d_Mo_laysHits_68 (?_ : WM _ 71 _ _ _ _)
    refine r_aload_n d_Mo_laysHits_71 rfl (?_ : WM _ 72 _ _ _ _)
    refine r_getI (k := 35) (j := 25) 25 (by decide) rfl clk_11 (by decide) (qm_5 (i := 61) rfl rfl) rfl rfl d_Mo_laysHits_72 (y := (σ12 35 25)) rfl (?_ : WM _ 75 _ _ _ _)
    refine r_iload_n d_Mo_laysHits_75 rfl (?_ : WM _ 76 _ _ _ _)
    obtain ⟨h14, h⟩ := h
    obtain ⟨h15, h⟩ := h
    refine r_iast (k := 45) (n := 240) (by decide) rfl d_Mo_laysHits_76 h14 h15 (?_ : WM _ 77 _ _ _ _)
    refine r_aload_n d_Mo_laysHits_77 rfl (?_ : WM _ 78 _ _ _ _)
    refine r_getR (k := 35) (j := 22) (q := 46) (by decide) rfl clk_11 (by decide) (qm_5 (i := 58) rfl rfl) rfl d_Mo_laysHits_78 (?_ : WM _ 81 _ _ _ _)
    refine r_aload_n d_Mo_laysHits_81 rfl (?_ : WM _ 82 _ _ _ _)
    refine r_getI (k := 35) (j := 25) 25 (by decide) rfl clk_11 (by decide) (qm_5 (i := 61) rfl rfl) rfl rfl d_Mo_laysHits_82 (y := (σ12 35 25)) (ups_c (by decide)) (?_ : WM _ 85 _ _ _ _)
    refine r_iload_n d_Mo_laysHits_85 rfl (?_ : WM _ 86 _ _ _ _)
    refine r_iast (k := 46) (n := 240) (by decide) rfl d_Mo_laysHits_86 h14 h15 (?_ : WM _ 87 _ _ _ _)
    refine r_aload_n d_Mo_laysHits_87 rfl (?_ : WM _ 88 _ _ _ _)
    refine r_getR (k := 35) (j := 23) (q := 47) (by decide) rfl clk_11 (by decide) (qm_5 (i := 59) rfl rfl) rfl d_Mo_laysHits_88 (?_ : WM _ 91 _ _ _ _)
    refine r_aload_n d_Mo_laysHits_91 rfl (?_ : WM _ 92 _ _ _ _)
    refine r_getI (k := 35) (j := 25) 25 (by decide) rfl clk_11 (by decide) (qm_5 (i := 61) rfl rfl) rfl rfl d_Mo_laysHits_92 (y := (σ12 35 25)) ((ups_c (by decide)).trans (ups_c (by decide))) (?_ : WM _ 95 _ _ _ _)
    refine r_iload_n d_Mo_laysHits_95 rfl (?_ : WM _ 96 _ _ _ _)
    refine r_iast (k := 47) (n := 240) (by decide) rfl d_Mo_laysHits_96 h14 h15 (?_ : WM _ 97 _ _ _ _)
    refine r_aload_n d_Mo_laysHits_97 rfl (?_ : WM _ 98 _ _ _ _)
    refine r_dup d_Mo_laysHits_98 rfl (?_ : WM _ 99 _ _ _ _)
    refine r_getI (k := 35) (j := 25) 25 (by decide) rfl clk_11 (by decide) (qm_5 (i := 61) rfl rfl) rfl rfl d_Mo_laysHits_99 (y := (σ12 35 25)) ((ups_c (by decide)).trans ((ups_c (by decide)).trans (ups_c (by decide)))) (?_ : WM _ 102 _ _ _ _)
    refine r_iconst d_Mo_laysHits_102 (by decide) (?_ : WM _ 103 _ _ _ _)
    obtain ⟨h16, h⟩ := h
    refine r_iadd d_Mo_laysHits_103 h16 (?_ : WM _ 104 _ _ _ _)
    refine r_put (k := 35) (j := 25) 25 (by decide) rfl clk_11 (by decide) (qm_5 (i := 61) rfl rfl) rfl rfl rfl tyX11_ok rfl nmX11 d_Mo_laysHits_104 (?_ : WM _ 107 _ _ _ _)
    refine r_aload_n d_Mo_laysHits_107 rfl (?_ : WM _ 108 _ _ _ _)
    refine r_getR (k := 35) (j := 24) (q := 48) (by decide) rfl clk_11 (by decide) (qm_5 (i := 60) rfl rfl) rfl d_Mo_laysHits_108 (?_ : WM _ 111 _ _ _ _)
    refine r_iload_n d_Mo_laysHits_111 rfl (?_ : WM _ 112 _ _ _ _)
    refine r_dup2 d_Mo_laysHits_112 rfl rfl (?_ : WM _ 113 _ _ _ _)
    obtain ⟨h17, h⟩ := h
    obtain ⟨h18, h⟩ := h
    refine r_iald (k := 48) (n := 48) (by decide) rfl d_Mo_laysHits_113 h17 h18 (y := (σ12 48 v13)) ((ups_c (by decide)).trans ((ups_c (by decide)).trans ((ups_c (by decide)).trans (ups_c (by decide))))) (?_ : WM _ 114 _ _ _ _)
    refine r_iconst d_Mo_laysHits_114 (by decide) (?_ : WM _ 115 _ _ _ _)
    obtain ⟨h19, h⟩ := h
    refine r_iadd d_Mo_laysHits_115 h19 (?_ : WM _ 116 _ _ _ _)
    refine r_iast (k := 48) (n := 48) (by decide) rfl d_Mo_laysHits_116 h17 h18 (?_ : WM _ 117 _ _ _ _)
    refine r_iload_n d_Mo_laysHits_117 rfl (?_ : WM _ 118 _ _ _ _)
    refine r_aload_n d_Mo_laysHits_118 rfl (?_ : WM _ 119 _ _ _ _)
    refine r_getI (k := 35) (j := 9) 9 (by decide) rfl clk_11 (by decide) (qm_5 (i := 45) rfl rfl) rfl rfl d_Mo_laysHits_119 (y := (σ12 35 9)) ((ups_c (by decide)).trans ((ups_f (by decide)).trans ((ups_c (by decide)).trans ((ups_c (by decide)).trans (ups_c (by decide)))))) (?_ : WM _ 122 _ _ _ _)
    obtain ⟨h20, h⟩ := h
    refine r_iadd d_Mo_laysHits_122 h20 (?_ : WM _ 123 _ _ _ _)
    refine r_istore_n (ls' := [(2, vI (x2 + (σ12 35 9))), (3, vI v13), (0, vR 35), (1, vI x1)]) d_Mo_laysHits_123 rfl (by decide) rfl (?_ : WM _ 124 _ _ _ _)
    refine r_goto 53 d_Mo_laysHits_124 rfl ?_
    refine r_pick (ls' := [(0, vR 35), (1, vI x1), (2, vI (x2 + (σ12 35 9)))]) [2, 3, 0] rfl ?_
    exact h
