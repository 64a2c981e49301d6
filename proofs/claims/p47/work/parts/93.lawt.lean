-- the law, from where the class stands made (printed by wip/gen/gen_dout.py)
def M_Cl_law : Md := (⟨"CoinSamplerLaw", "law", "([I)Z"⟩, code, 6, some .boolean, 11, 307)
theorem d_Cl_law_8 : decode code 8 = .ok (.new 28, 3) := by decide +kernel
theorem d_Cl_law_11 : decode code 11 = .ok (.dup, 1) := by decide +kernel
theorem d_Cl_law_12 : decode code 12 = .ok (.invokespecial 199, 3) := by decide +kernel
theorem d_Cl_law_15 : decode code 15 = .ok (.astore_n 2, 1) := by decide +kernel
theorem d_Cl_law_16 : decode code 16 = .ok (.iconst 1, 1) := by decide +kernel
theorem d_Cl_law_17 : decode code 17 = .ok (.newarray .int, 2) := by decide +kernel
theorem d_Cl_law_19 : decode code 19 = .ok (.dup, 1) := by decide +kernel
theorem d_Cl_law_20 : decode code 20 = .ok (.iconst 0, 1) := by decide +kernel
theorem d_Cl_law_21 : decode code 21 = .ok (.aload_n 0, 1) := by decide +kernel
theorem d_Cl_law_22 : decode code 22 = .ok (.iconst 0, 1) := by decide +kernel
theorem d_Cl_law_23 : decode code 23 = .ok (.invokestatic 200, 3) := by decide +kernel
theorem d_Cl_law_26 : decode code 26 = .ok (.iastore, 1) := by decide +kernel
theorem d_Cl_law_27 : decode code 27 = .ok (.astore_n 3, 1) := by decide +kernel
theorem d_Cl_law_28 : decode code 28 = .ok (.iconst 1, 1) := by decide +kernel
theorem d_Cl_law_29 : decode code 29 = .ok (.istore 4, 2) := by decide +kernel
theorem d_Cl_law_31 : decode code 31 = .ok (.iload 4, 2) := by decide +kernel
theorem d_Cl_law_33 : decode code 33 = .ok (.aload_n 0, 1) := by decide +kernel
theorem d_Cl_law_34 : decode code 34 = .ok (.arraylength, 1) := by decide +kernel
theorem d_Cl_law_35 : decode code 35 = .ok (.if_icmp .ge 127, 3) := by decide +kernel
theorem d_Cl_law_38 : decode code 38 = .ok (.iload 4, 2) := by decide +kernel
theorem d_Cl_law_40 : decode code 40 = .ok (.bipush 26, 2) := by decide +kernel
theorem d_Cl_law_42 : decode code 42 = .ok (.if_icmp .ge 120, 3) := by decide +kernel
theorem d_Cl_law_45 : decode code 45 = .ok (.aload_n 3, 1) := by decide +kernel
theorem d_Cl_law_46 : decode code 46 = .ok (.iconst 0, 1) := by decide +kernel
theorem d_Cl_law_47 : decode code 47 = .ok (.dup2, 1) := by decide +kernel
theorem d_Cl_law_48 : decode code 48 = .ok (.iaload, 1) := by decide +kernel
theorem d_Cl_law_49 : decode code 49 = .ok (.aload_n 0, 1) := by decide +kernel
theorem d_Cl_law_50 : decode code 50 = .ok (.iload 4, 2) := by decide +kernel
theorem d_Cl_law_52 : decode code 52 = .ok (.iaload, 1) := by decide +kernel
theorem d_Cl_law_53 : decode code 53 = .ok (.ixor, 1) := by decide +kernel
theorem d_Cl_law_54 : decode code 54 = .ok (.iastore, 1) := by decide +kernel
theorem d_Cl_law_55 : decode code 55 = .ok (.aload_n 1, 1) := by decide +kernel
theorem d_Cl_law_56 : decode code 56 = .ok (.aload_n 2, 1) := by decide +kernel
theorem d_Cl_law_57 : decode code 57 = .ok (.aload_n 3, 1) := by decide +kernel
theorem d_Cl_law_58 : decode code 58 = .ok (.iload 4, 2) := by decide +kernel
theorem d_Cl_law_60 : decode code 60 = .ok (.iconst 1, 1) := by decide +kernel
theorem d_Cl_law_61 : decode code 61 = .ok (.if_icmp .ne 7, 3) := by decide +kernel
theorem d_Cl_law_64 : decode code 64 = .ok (.iconst 0, 1) := by decide +kernel
theorem d_Cl_law_65 : decode code 65 = .ok (.goto 24, 3) := by decide +kernel
theorem d_Cl_law_68 : decode code 68 = .ok (.iload 4, 2) := by decide +kernel
theorem d_Cl_law_70 : decode code 70 = .ok (.iconst 2, 1) := by decide +kernel
theorem d_Cl_law_71 : decode code 71 = .ok (.if_icmp .ne 8, 3) := by decide +kernel
theorem d_Cl_law_74 : decode code 74 = .ok (.bipush 11, 2) := by decide +kernel
theorem d_Cl_law_76 : decode code 76 = .ok (.goto 13, 3) := by decide +kernel
theorem d_Cl_law_79 : decode code 79 = .ok (.aload_n 0, 1) := by decide +kernel
theorem d_Cl_law_80 : decode code 80 = .ok (.iload 4, 2) := by decide +kernel
theorem d_Cl_law_82 : decode code 82 = .ok (.iaload, 1) := by decide +kernel
theorem d_Cl_law_83 : decode code 83 = .ok (.ldc 203, 2) := by decide +kernel
theorem d_Cl_law_85 : decode code 85 = .ok (.iand, 1) := by decide +kernel
theorem d_Cl_law_86 : decode code 86 = .ok (.bipush 19, 2) := by decide +kernel
theorem d_Cl_law_88 : decode code 88 = .ok (.irem, 1) := by decide +kernel
theorem d_Cl_law_89 : decode code 89 = .ok (.invokestatic 204, 3) := by decide +kernel
theorem d_Cl_law_92 : decode code 92 = .ok (.ifCond .ne 5, 3) := by decide +kernel
theorem d_Cl_law_95 : decode code 95 = .ok (.iconst 0, 1) := by decide +kernel
theorem d_Cl_law_96 : decode code 96 = .ok (.ireturn, 1) := by decide +kernel
theorem d_Cl_law_97 : decode code 97 = .ok (.aload_n 2, 1) := by decide +kernel
theorem d_Cl_law_98 : decode code 98 = .ok (.invokevirtual 208, 3) := by decide +kernel
theorem d_Cl_law_101 : decode code 101 = .ok (.astore 5, 2) := by decide +kernel
theorem d_Cl_law_103 : decode code 103 = .ok (.aload_n 1, 1) := by decide +kernel
theorem d_Cl_law_104 : decode code 104 = .ok (.aload_n 2, 1) := by decide +kernel
theorem d_Cl_law_105 : decode code 105 = .ok (.aload 5, 2) := by decide +kernel
theorem d_Cl_law_107 : decode code 107 = .ok (.invokestatic 212, 3) := by decide +kernel
theorem d_Cl_law_110 : decode code 110 = .ok (.ifCond .eq 44, 3) := by decide +kernel
theorem d_Cl_law_113 : decode code 113 = .ok (.aload_n 1, 1) := by decide +kernel
theorem d_Cl_law_114 : decode code 114 = .ok (.aload_n 2, 1) := by decide +kernel
theorem d_Cl_law_115 : decode code 115 = .ok (.aload 5, 2) := by decide +kernel
theorem d_Cl_law_117 : decode code 117 = .ok (.aload_n 3, 1) := by decide +kernel
theorem d_Cl_law_118 : decode code 118 = .ok (.invokestatic 215, 3) := by decide +kernel
theorem d_Cl_law_121 : decode code 121 = .ok (.ifCond .eq 33, 3) := by decide +kernel
theorem d_Cl_law_124 : decode code 124 = .ok (.aload_n 1, 1) := by decide +kernel
theorem d_Cl_law_125 : decode code 125 = .ok (.aload_n 2, 1) := by decide +kernel
theorem d_Cl_law_126 : decode code 126 = .ok (.aload 5, 2) := by decide +kernel
theorem d_Cl_law_128 : decode code 128 = .ok (.invokestatic 219, 3) := by decide +kernel
theorem d_Cl_law_131 : decode code 131 = .ok (.ifCond .eq 23, 3) := by decide +kernel
theorem d_Cl_law_134 : decode code 134 = .ok (.aload_n 1, 1) := by decide +kernel
theorem d_Cl_law_135 : decode code 135 = .ok (.aload_n 2, 1) := by decide +kernel
theorem d_Cl_law_136 : decode code 136 = .ok (.aload 5, 2) := by decide +kernel
theorem d_Cl_law_138 : decode code 138 = .ok (.invokestatic 222, 3) := by decide +kernel
theorem d_Cl_law_141 : decode code 141 = .ok (.ifCond .eq 13, 3) := by decide +kernel
theorem d_Cl_law_144 : decode code 144 = .ok (.aload_n 1, 1) := by decide +kernel
theorem d_Cl_law_145 : decode code 145 = .ok (.aload_n 2, 1) := by decide +kernel
theorem d_Cl_law_146 : decode code 146 = .ok (.aload 5, 2) := by decide +kernel
theorem d_Cl_law_148 : decode code 148 = .ok (.invokestatic 225, 3) := by decide +kernel
theorem d_Cl_law_151 : decode code 151 = .ok (.ifCond .ne 5, 3) := by decide +kernel
theorem d_Cl_law_154 : decode code 154 = .ok (.iconst 0, 1) := by decide +kernel
theorem d_Cl_law_155 : decode code 155 = .ok (.ireturn, 1) := by decide +kernel
theorem d_Cl_law_156 : decode code 156 = .ok (.iinc 4 1, 3) := by decide +kernel
theorem d_Cl_law_159 : decode code 159 = .ok (.goto (-128), 3) := by decide +kernel
theorem d_Cl_law_162 : decode code 162 = .ok (.iconst 1, 1) := by decide +kernel
theorem d_Cl_law_163 : decode code 163 = .ok (.ireturn, 1) := by decide +kernel
set_option maxRecDepth 20000 in
theorem l_Cl_law_1 {G : Gq} {K : Int → Wd → Prop} {w : Wd} {rc rs : Nat} (x0 : Nat) (h : (1 ≤ rc) ∧ (7 ≤ rs) ∧ ∀ q3 : Nat, Fr G w q3 → (∃ c5 s6 : Nat, c5 ≤ (rc - 1) ∧ s6 ≤ (rs - 7) ∧ (DV G M_Bo_init [vA q3] (uN w q3 (kO 11)) c5 s6 (fun w9 => (1 ≤ ((rc - 1) - c5)) ∧ (1 ≤ ((rs - 7) - s6)) ∧ ∀ q13 : Nat, Fr G w9 q13 → (DI G M_Cl_cell [vA x0, vI 0] (uN w9 q13 (kA 0 1)) 0 0 (fun v16 w15 => (0 < (1 : Int)) ∧ WD G M_Cl_law 31 [(0, vA x0), (1, vR 0), (2, vA q3), (3, vA q13), (4, vI 1)] [] (uI w15 q13 0 v16) (((rc - 1) - c5) - 1) (((rs - 7) - s6) - 1) (yI K))))))) : WD G M_Cl_law 8 [(0, vA x0), (1, vR 0)] [] w rc rs (yI K) := by
  obtain ⟨h1, h⟩ := h
  obtain ⟨h2, h⟩ := h
  refine x_new d_Cl_law_8 clk_11 tyX11_ok (qm_2 (i := 119) rfl rfl) (qm_2 (i := 120) rfl rfl) (qm_1 (i := 12) rfl rfl) hfd_11 h1 h2 (fun q3 fq3 => (?_ : WD _ _ 11 _ _ _ _ _ _))
  replace h := h q3 fq3
  have k4 : Ow (uN w q3 (kO 11)) q3 (kO 11) := Ow.nw
  refine x_dup d_Cl_law_11 rfl (?_ : WD _ _ 12 _ _ _ _ _ _)
  obtain ⟨c5, s6, h7, h8, h⟩ := h
  refine x_callIN (ν := M_Bo_init) "CoinSamplerLaw" [] ok_M_Bo_init oki_M_Bo_init rfl rfl (by decide) np_M_Bo_init rfl ⟨Nat.le_of_ble_eq_true rfl, Nat.le_of_ble_eq_true rfl⟩ (Nat.le_of_ble_eq_true rfl) rfl d_Cl_law_12 h7 h8 (DV.k h (fun w9 gw9 h => (?_ : WD _ _ 15 _ _ _ _ _ _)))
  refine x_astore_nP (some q3) (ls' := [(2, vA q3), (0, vA x0), (1, vR 0)]) d_Cl_law_15 rfl (by decide) rfl (?_ : WD _ _ 16 _ _ _ _ _ _)
  refine x_iconst d_Cl_law_16 (by decide) (?_ : WD _ _ 17 _ _ _ _ _ _)
  obtain ⟨h11, h⟩ := h
  obtain ⟨h12, h⟩ := h
  refine x_newa (t := 0) 1 rfl d_Cl_law_17 rfl (qm_1 (i := 107) rfl rfl) (fun _ => rfl) (fun _ _ => rfl) (fun _ => rfl) (by decide) (by decide) h11 h12 (fun q13 fq13 => (?_ : WD _ _ 19 _ _ _ _ _ _))
  replace h := h q13 fq13
  have k14 : Ow (uN w9 q13 (kA 0 1)) q13 (kA 0 1) := Ow.nw
  refine x_dup d_Cl_law_19 rfl (?_ : WD _ _ 20 _ _ _ _ _ _)
  refine x_iconst d_Cl_law_20 (by decide) (?_ : WD _ _ 21 _ _ _ _ _ _)
  refine x_aload_nP (some x0) d_Cl_law_21 rfl (?_ : WD _ _ 22 _ _ _ _ _ _)
  refine x_iconst d_Cl_law_22 (by decide) (?_ : WD _ _ 23 _ _ _ _ _ _)
  refine x_callS (ν := M_Cl_cell) [vA x0, vI 0] ok_M_Cl_cell oks_M_Cl_cell (qm_3 (i := 172) rfl rfl) np_M_Cl_cell rfl ⟨Nat.le_of_ble_eq_true rfl, Nat.le_of_ble_eq_true rfl⟩ (Nat.le_of_ble_eq_true rfl) rfl d_Cl_law_23 (Nat.zero_le _) (Nat.zero_le _) (DI.k h (fun v16 w15 gw15 h => (?_ : WD _ _ 26 _ _ _ _ _ _)))
  obtain ⟨h17, h⟩ := h
  refine x_iast (k14.q gw15.k) d_Cl_law_26 (by decide) h17 (?_ : WD _ _ 27 _ _ _ _ _ _)
  refine x_astore_nP (some q13) (ls' := [(3, vA q13), (2, vA q3), (0, vA x0), (1, vR 0)]) d_Cl_law_27 rfl (by decide) rfl (?_ : WD _ _ 28 _ _ _ _ _ _)
  refine x_iconst d_Cl_law_28 (by decide) (?_ : WD _ _ 29 _ _ _ _ _ _)
  refine x_istore (ls' := [(4, vI 1), (3, vA q13), (2, vA q3), (0, vA x0), (1, vR 0)]) d_Cl_law_29 (by decide) rfl (?_ : WD _ _ 31 _ _ _ _ _ _)
  refine x_pick (ls' := [(0, vA x0), (1, vR 0), (2, vA q3), (3, vA q13), (4, vI 1)]) [3, 4, 2, 1, 0] rfl ?_
  exact h
set_option maxRecDepth 20000 in
theorem l_Cl_law_2 {G : Gq} {K : Int → Wd → Prop} {w : Wd} {rc rs : Nat} (x0 : Nat) (x2 : Nat) (x3 : Nat) (x4 : Int) (h : ∃ n18 : Nat, ((Is G w x0 (kA 0 n18)) ∧ (inR (n18 : Int)) ∧ ((n18 : Int) ≤ x4 → K 1 w) ∧ (¬ (n18 : Int) ≤ x4 → (26 ≤ x4 → K 1 w) ∧ (¬ 26 ≤ x4 → ∃ n23 : Nat, ((Is G w x3 (kA 0 n23)) ∧ (0 < (n23 : Int)) ∧ (0 ≤ x4) ∧ (x4 < (n18 : Int)) ∧ (Ow w x3 (kA 0 n23)) ∧ (¬ x4 = 1 → (¬ x4 = 2 → (0 ≤ (iandq (wI (uI w x3 0 (ixorq (wI w x3 0) (wI w x0 x4))) x0 x4) 2147483647)) ∧ WD G M_Cl_law 89 [(0, vA x0), (1, vR 0), (2, vA x2), (3, vA x3), (4, vI x4)] [vI ((iandq (wI (uI w x3 0 (ixorq (wI w x3 0) (wI w x0 x4))) x0 x4) 2147483647) % 19), vA x3, vA x2, vR 0] (uI w x3 0 (ixorq (wI w x3 0) (wI w x0 x4))) rc rs (yI K)) ∧ (x4 = 2 → WD G M_Cl_law 89 [(0, vA x0), (1, vR 0), (2, vA x2), (3, vA x3), (4, vI x4)] [vI 11, vA x3, vA x2, vR 0] (uI w x3 0 (ixorq (wI w x3 0) (wI w x0 x4))) rc rs (yI K))) ∧ (x4 = 1 → WD G M_Cl_law 89 [(0, vA x0), (1, vR 0), (2, vA x2), (3, vA x3), (4, vI x4)] [vI 0, vA x3, vA x2, vR 0] (uI w x3 0 (ixorq (wI w x3 0) (wI w x0 x4))) rc rs (yI K))))))) : WD G M_Cl_law 31 [(0, vA x0), (1, vR 0), (2, vA x2), (3, vA x3), (4, vI x4)] [] w rc rs (yI K) := by
  refine x_iload d_Cl_law_31 rfl (?_ : WD _ _ 33 _ _ _ _ _ _)
  refine x_aload_nP (some x0) d_Cl_law_33 rfl (?_ : WD _ _ 34 _ _ _ _ _ _)
  obtain ⟨n18, h⟩ := h
  obtain ⟨k19, h⟩ := h
  obtain ⟨h20, h⟩ := h
  refine x_alenA k19 (fun _ => rfl) h20 d_Cl_law_34 (?_ : WD _ _ 35 _ _ _ _ _ _)
  refine x_icmp_ge 162 d_Cl_law_35 rfl ⟨fun c21 => (?_ : WD _ _ 162 _ _ _ _ _ _), fun c21 => (?_ : WD _ _ 38 _ _ _ _ _ _)⟩
  · replace h := h.1 c21
    refine x_iconst d_Cl_law_162 (by decide) (?_ : WD _ _ 163 _ _ _ _ _ _)
    exact x_zreturn rfl d_Cl_law_163 (by decide) h
  · replace h := h.2 c21
    refine x_iload d_Cl_law_38 rfl (?_ : WD _ _ 40 _ _ _ _ _ _)
    refine x_bipush d_Cl_law_40 (by decide) (by decide) (?_ : WD _ _ 42 _ _ _ _ _ _)
    refine x_icmp_ge 162 d_Cl_law_42 rfl ⟨fun c22 => (?_ : WD _ _ 162 _ _ _ _ _ _), fun c22 => (?_ : WD _ _ 45 _ _ _ _ _ _)⟩
    · replace h := h.1 c22
      refine x_iconst d_Cl_law_162 (by decide) (?_ : WD _ _ 163 _ _ _ _ _ _)
      exact x_zreturn rfl d_Cl_law_163 (by decide) h
    · replace h := h.2 c22
      refine x_aload_nP (some x3) d_Cl_law_45 rfl (?_ : WD _ _ 46 _ _ _ _ _ _)
      refine x_iconst d_Cl_law_46 (by decide) (?_ : WD _ _ 47 _ _ _ _ _ _)
      refine x_dup2 d_Cl_law_47 rfl rfl (?_ : WD _ _ 48 _ _ _ _ _ _)
      obtain ⟨n23, h⟩ := h
      obtain ⟨k24, h⟩ := h
      obtain ⟨h25, h⟩ := h
      refine x_iald k24 d_Cl_law_48 (by decide) h25 (y := (wI w x3 0)) rfl (?_ : WD _ _ 49 _ _ _ _ _ _)
      refine x_aload_nP (some x0) d_Cl_law_49 rfl (?_ : WD _ _ 50 _ _ _ _ _ _)
      refine x_iload d_Cl_law_50 rfl (?_ : WD _ _ 52 _ _ _ _ _ _)
      obtain ⟨h26, h⟩ := h
      obtain ⟨h27, h⟩ := h
      refine x_iald k19 d_Cl_law_52 h26 h27 (y := (wI w x0 x4)) rfl (?_ : WD _ _ 53 _ _ _ _ _ _)
      refine x_ixorq d_Cl_law_53 (?_ : WD _ _ 54 _ _ _ _ _ _)
      obtain ⟨k28, h⟩ := h
      refine x_iast k28 d_Cl_law_54 (by decide) h25 (?_ : WD _ _ 55 _ _ _ _ _ _)
      refine x_aload_n d_Cl_law_55 rfl (?_ : WD _ _ 56 _ _ _ _ _ _)
      refine x_aload_nP (some x2) d_Cl_law_56 rfl (?_ : WD _ _ 57 _ _ _ _ _ _)
      refine x_aload_nP (some x3) d_Cl_law_57 rfl (?_ : WD _ _ 58 _ _ _ _ _ _)
      refine x_iload d_Cl_law_58 rfl (?_ : WD _ _ 60 _ _ _ _ _ _)
      refine x_iconst d_Cl_law_60 (by decide) (?_ : WD _ _ 61 _ _ _ _ _ _)
      refine x_icmp_ne 68 d_Cl_law_61 rfl ⟨fun c29 => (?_ : WD _ _ 68 _ _ _ _ _ _), fun c29 => (?_ : WD _ _ 64 _ _ _ _ _ _)⟩
      · replace h := h.1 c29
        refine x_iload d_Cl_law_68 rfl (?_ : WD _ _ 70 _ _ _ _ _ _)
        refine x_iconst d_Cl_law_70 (by decide) (?_ : WD _ _ 71 _ _ _ _ _ _)
        refine x_icmp_ne 79 d_Cl_law_71 rfl ⟨fun c30 => (?_ : WD _ _ 79 _ _ _ _ _ _), fun c30 => (?_ : WD _ _ 74 _ _ _ _ _ _)⟩
        · replace h := h.1 c30
          refine x_aload_nP (some x0) d_Cl_law_79 rfl (?_ : WD _ _ 80 _ _ _ _ _ _)
          refine x_iload d_Cl_law_80 rfl (?_ : WD _ _ 82 _ _ _ _ _ _)
          refine x_iald k19 d_Cl_law_82 h26 h27 (y := (wI (uI w x3 0 (ixorq (wI w x3 0) (wI w x0 x4))) x0 x4)) rfl (?_ : WD _ _ 83 _ _ _ _ _ _)
          refine x_ldc 2147483647 d_Cl_law_83 (qm_10 (i := 171) rfl rfl) (by decide) (by decide) (?_ : WD _ _ 85 _ _ _ _ _ _)
          refine x_iandq d_Cl_law_85 (?_ : WD _ _ 86 _ _ _ _ _ _)
          refine x_bipush d_Cl_law_86 (by decide) (by decide) (?_ : WD _ _ 88 _ _ _ _ _ _)
          obtain ⟨h31, h⟩ := h
          refine x_iremn d_Cl_law_88 h31 (by decide) (?_ : WD _ _ 89 _ _ _ _ _ _)
          exact h
        · replace h := h.2 c30
          refine x_bipush d_Cl_law_74 (by decide) (by decide) (?_ : WD _ _ 76 _ _ _ _ _ _)
          refine x_goto 89 d_Cl_law_76 rfl ?_
          exact h
      · replace h := h.2 c29
        refine x_iconst d_Cl_law_64 (by decide) (?_ : WD _ _ 65 _ _ _ _ _ _)
        refine x_goto 89 d_Cl_law_65 rfl ?_
        exact h
set_option maxRecDepth 20000 in
theorem l_Cl_law_3 {G : Gq} {K : Int → Wd → Prop} {w : Wd} {rc rs : Nat} (x0 : Nat) (x2 : Nat) (x3 : Nat) (x4 : Int) (y0 : Int) (y1 : Nat) (y2 : Nat) (h : ∃ c32 s33 : Nat, c32 ≤ rc ∧ s33 ≤ rs ∧ (DI G M_Cl_act [vR 0, vA y2, vA y1, vI y0] w c32 s33 (fun v37 w36 => (¬ v37 = 0 → WD G M_Cl_law 97 [(0, vA x0), (1, vR 0), (2, vA x2), (3, vA x3), (4, vI x4)] [] w36 (rc - c32) (rs - s33) (yI K)) ∧ (v37 = 0 → K 0 w36)))) : WD G M_Cl_law 89 [(0, vA x0), (1, vR 0), (2, vA x2), (3, vA x3), (4, vI x4)] [vI y0, vA y1, vA y2, vR 0] w rc rs (yI K) := by
  obtain ⟨c32, s33, h34, h35, h⟩ := h
  refine x_callS (ν := M_Cl_act) [vR 0, vA y2, vA y1, vI y0] ok_M_Cl_act oks_M_Cl_act (qm_3 (i := 175) rfl rfl) np_M_Cl_act rfl ⟨Nat.le_of_ble_eq_true rfl, Nat.le_of_ble_eq_true rfl⟩ (Nat.le_of_ble_eq_true rfl) rfl d_Cl_law_89 h34 h35 (DI.k h (fun v37 w36 gw36 h => (?_ : WD _ _ 92 _ _ _ _ _ _)))
  refine x_if_ne 97 d_Cl_law_92 rfl ⟨fun c38 => (?_ : WD _ _ 97 _ _ _ _ _ _), fun c38 => (?_ : WD _ _ 95 _ _ _ _ _ _)⟩
  · replace h := h.1 c38
    exact h
  · replace h := h.2 c38
    refine x_iconst d_Cl_law_95 (by decide) (?_ : WD _ _ 96 _ _ _ _ _ _)
    exact x_zreturn rfl d_Cl_law_96 (by decide) h
set_option maxRecDepth 20000 in
theorem l_Cl_law_4 {G : Gq} {K : Int → Wd → Prop} {w : Wd} {rc rs : Nat} (x0 : Nat) (x2 : Nat) (x3 : Nat) (x4 : Int) (h : ∃ c39 s40 : Nat, c39 ≤ rc ∧ s40 ≤ rs ∧ ((Is G w x2 (kO 11)) ∧ DP G M_Bo_hits [vA x2] w c39 s40 (fun v45 w44 => ∃ a46 : Nat, v45 = some a46 ∧ (∃ c48 s49 : Nat, c48 ≤ (rc - c39) ∧ s49 ≤ (rs - s40) ∧ (DI G M_Cl_items [vR 0, vA x2, vA a46] w44 c48 s49 (fun v53 w52 => (v53 = 0 → K 0 w52) ∧ (¬ v53 = 0 → ∃ c55 s56 : Nat, c55 ≤ ((rc - c39) - c48) ∧ s56 ≤ ((rs - s40) - s49) ∧ (DI G M_Cl_walk [vR 0, vA x2, vA a46, vA x3] w52 c55 s56 (fun v60 w59 => (v60 = 0 → K 0 w59) ∧ (¬ v60 = 0 → ∃ c62 s63 : Nat, c62 ≤ (((rc - c39) - c48) - c55) ∧ s63 ≤ (((rs - s40) - s49) - s56) ∧ (DI G M_Cl_lists [vR 0, vA x2, vA a46] w59 c62 s63 (fun v67 w66 => (v67 = 0 → K 0 w66) ∧ (¬ v67 = 0 → ∃ c69 s70 : Nat, c69 ≤ ((((rc - c39) - c48) - c55) - c62) ∧ s70 ≤ ((((rs - s40) - s49) - s56) - s63) ∧ (DI G M_Cl_makes [vR 0, vA x2, vA a46] w66 c69 s70 (fun v74 w73 => (v74 = 0 → K 0 w73) ∧ (¬ v74 = 0 → ∃ c76 s77 : Nat, c76 ≤ (((((rc - c39) - c48) - c55) - c62) - c69) ∧ s77 ≤ (((((rs - s40) - s49) - s56) - s63) - s70) ∧ (DI G M_Cl_counts [vR 0, vA x2, vA a46] w73 c76 s77 (fun v81 w80 => (¬ v81 = 0 → (inR (x4 + 1)) ∧ WD G M_Cl_law 31 [(0, vA x0), (1, vR 0), (2, vA x2), (3, vA x3), (4, vI (x4 + 1))] [] w80 ((((((rc - c39) - c48) - c55) - c62) - c69) - c76) ((((((rs - s40) - s49) - s56) - s63) - s70) - s77) (yI K)) ∧ (v81 = 0 → K 0 w80))))))))))))))))))) : WD G M_Cl_law 97 [(0, vA x0), (1, vR 0), (2, vA x2), (3, vA x3), (4, vI x4)] [] w rc rs (yI K) := by
  refine x_aload_nP (some x2) d_Cl_law_97 rfl (?_ : WD _ _ 98 _ _ _ _ _ _)
  obtain ⟨c39, s40, h41, h42, h⟩ := h
  obtain ⟨k43, h⟩ := h
  refine x_callV (ν := M_Bo_hits) [] ok_M_Bo_hits okv_M_Bo_hits k43 rfl rfl (qm_2 (i := 182) rfl rfl) np_M_Bo_hits rfl ⟨Nat.le_of_ble_eq_true rfl, Nat.le_of_ble_eq_true rfl⟩ (Nat.le_of_ble_eq_true rfl) rfl d_Cl_law_98 h41 h42 (DP.k h (fun v45 w44 gw44 h => (?_ : WD _ _ 101 _ _ _ _ _ _)))
  refine x_astoreP v45 (ls' := [(5, vP v45), (0, vA x0), (1, vR 0), (2, vA x2), (3, vA x3), (4, vI x4)]) d_Cl_law_101 (by decide) rfl (?_ : WD _ _ 103 _ _ _ _ _ _)
  refine x_aload_n d_Cl_law_103 rfl (?_ : WD _ _ 104 _ _ _ _ _ _)
  refine x_aload_nP (some x2) d_Cl_law_104 rfl (?_ : WD _ _ 105 _ _ _ _ _ _)
  refine x_aloadP v45 d_Cl_law_105 rfl (?_ : WD _ _ 107 _ _ _ _ _ _)
  obtain ⟨a46, e47, h⟩ := h
  rw [e47]
  obtain ⟨c48, s49, h50, h51, h⟩ := h
  refine x_callS (ν := M_Cl_items) [vR 0, vA x2, vA a46] ok_M_Cl_items oks_M_Cl_items (qm_6 (i := 108) rfl rfl) np_M_Cl_items rfl ⟨Nat.le_of_ble_eq_true rfl, Nat.le_of_ble_eq_true rfl⟩ (Nat.le_of_ble_eq_true rfl) rfl d_Cl_law_107 h50 h51 (DI.k h (fun v53 w52 gw52 h => (?_ : WD _ _ 110 _ _ _ _ _ _)))
  refine x_if_eq 154 d_Cl_law_110 rfl ⟨fun c54 => (?_ : WD _ _ 154 _ _ _ _ _ _), fun c54 => (?_ : WD _ _ 113 _ _ _ _ _ _)⟩
  · replace h := h.1 c54
    refine x_iconst d_Cl_law_154 (by decide) (?_ : WD _ _ 155 _ _ _ _ _ _)
    exact x_zreturn rfl d_Cl_law_155 (by decide) h
  · replace h := h.2 c54
    refine x_aload_n d_Cl_law_113 rfl (?_ : WD _ _ 114 _ _ _ _ _ _)
    refine x_aload_nP (some x2) d_Cl_law_114 rfl (?_ : WD _ _ 115 _ _ _ _ _ _)
    refine x_aloadP (some a46) d_Cl_law_115 rfl (?_ : WD _ _ 117 _ _ _ _ _ _)
    refine x_aload_nP (some x3) d_Cl_law_117 rfl (?_ : WD _ _ 118 _ _ _ _ _ _)
    obtain ⟨c55, s56, h57, h58, h⟩ := h
    refine x_callS (ν := M_Cl_walk) [vR 0, vA x2, vA a46, vA x3] ok_M_Cl_walk oks_M_Cl_walk (qm_9 (i := 166) rfl rfl) np_M_Cl_walk rfl ⟨Nat.le_of_ble_eq_true rfl, Nat.le_of_ble_eq_true rfl⟩ (Nat.le_of_ble_eq_true rfl) rfl d_Cl_law_118 h57 h58 (DI.k h (fun v60 w59 gw59 h => (?_ : WD _ _ 121 _ _ _ _ _ _)))
    refine x_if_eq 154 d_Cl_law_121 rfl ⟨fun c61 => (?_ : WD _ _ 154 _ _ _ _ _ _), fun c61 => (?_ : WD _ _ 124 _ _ _ _ _ _)⟩
    · replace h := h.1 c61
      refine x_iconst d_Cl_law_154 (by decide) (?_ : WD _ _ 155 _ _ _ _ _ _)
      exact x_zreturn rfl d_Cl_law_155 (by decide) h
    · replace h := h.2 c61
      refine x_aload_n d_Cl_law_124 rfl (?_ : WD _ _ 125 _ _ _ _ _ _)
      refine x_aload_nP (some x2) d_Cl_law_125 rfl (?_ : WD _ _ 126 _ _ _ _ _ _)
      refine x_aloadP (some a46) d_Cl_law_126 rfl (?_ : WD _ _ 128 _ _ _ _ _ _)
      obtain ⟨c62, s63, h64, h65, h⟩ := h
      refine x_callS (ν := M_Cl_lists) [vR 0, vA x2, vA a46] ok_M_Cl_lists oks_M_Cl_lists (qm_9 (i := 192) rfl rfl) np_M_Cl_lists rfl ⟨Nat.le_of_ble_eq_true rfl, Nat.le_of_ble_eq_true rfl⟩ (Nat.le_of_ble_eq_true rfl) rfl d_Cl_law_128 h64 h65 (DI.k h (fun v67 w66 gw66 h => (?_ : WD _ _ 131 _ _ _ _ _ _)))
      refine x_if_eq 154 d_Cl_law_131 rfl ⟨fun c68 => (?_ : WD _ _ 154 _ _ _ _ _ _), fun c68 => (?_ : WD _ _ 134 _ _ _ _ _ _)⟩
      · replace h := h.1 c68
        refine x_iconst d_Cl_law_154 (by decide) (?_ : WD _ _ 155 _ _ _ _ _ _)
        exact x_zreturn rfl d_Cl_law_155 (by decide) h
      · replace h := h.2 c68
        refine x_aload_n d_Cl_law_134 rfl (?_ : WD _ _ 135 _ _ _ _ _ _)
        refine x_aload_nP (some x2) d_Cl_law_135 rfl (?_ : WD _ _ 136 _ _ _ _ _ _)
        refine x_aloadP (some a46) d_Cl_law_136 rfl (?_ : WD _ _ 138 _ _ _ _ _ _)
        obtain ⟨c69, s70, h71, h72, h⟩ := h
        refine x_callS (ν := M_Cl_makes) [vR 0, vA x2, vA a46] ok_M_Cl_makes oks_M_Cl_makes (qm_10 (i := 18) rfl rfl) np_M_Cl_makes rfl ⟨Nat.le_of_ble_eq_true rfl, Nat.le_of_ble_eq_true rfl⟩ (Nat.le_of_ble_eq_true rfl) rfl d_Cl_law_138 h71 h72 (DI.k h (fun v74 w73 gw73 h => (?_ : WD _ _ 141 _ _ _ _ _ _)))
        refine x_if_eq 154 d_Cl_law_141 rfl ⟨fun c75 => (?_ : WD _ _ 154 _ _ _ _ _ _), fun c75 => (?_ : WD _ _ 144 _ _ _ _ _ _)⟩
        · replace h := h.1 c75
          refine x_iconst d_Cl_law_154 (by decide) (?_ : WD _ _ 155 _ _ _ _ _ _)
          exact x_zreturn rfl d_Cl_law_155 (by decide) h
        · replace h := h.2 c75
          refine x_aload_n d_Cl_law_144 rfl (?_ : WD _ _ 145 _ _ _ _ _ _)
          refine x_aload_nP (some x2) d_Cl_law_145 rfl (?_ : WD _ _ 146 _ _ _ _ _ _)
          refine x_aloadP (some a46) d_Cl_law_146 rfl (?_ : WD _ _ 148 _ _ _ _ _ _)
          obtain ⟨c76, s77, h78, h79, h⟩ := h
          refine x_callS (ν := M_Cl_counts) [vR 0, vA x2, vA a46] ok_M_Cl_counts oks_M_Cl_counts (qm_10 (i := 155) rfl rfl) np_M_Cl_counts rfl ⟨Nat.le_of_ble_eq_true rfl, Nat.le_of_ble_eq_true rfl⟩ (Nat.le_of_ble_eq_true rfl) rfl d_Cl_law_148 h78 h79 (DI.k h (fun v81 w80 gw80 h => (?_ : WD _ _ 151 _ _ _ _ _ _)))
          refine x_if_ne 156 d_Cl_law_151 rfl ⟨fun c82 => (?_ : WD _ _ 156 _ _ _ _ _ _), fun c82 => (?_ : WD _ _ 154 _ _ _ _ _ _)⟩
          · replace h := h.1 c82
            obtain ⟨h83, h⟩ := h
            refine x_iinc (ls' := [(4, vI (x4 + 1)), (5, vA a46), (0, vA x0), (1, vR 0), (2, vA x2), (3, vA x3)]) d_Cl_law_156 rfl h83 (by decide) rfl (?_ : WD _ _ 159 _ _ _ _ _ _)
            refine x_goto 31 d_Cl_law_159 rfl ?_
            refine x_pick (ls' := [(0, vA x0), (1, vR 0), (2, vA x2), (3, vA x3), (4, vI (x4 + 1))]) [2, 3, 4, 5, 0] rfl ?_
            exact h
          · replace h := h.2 c82
            refine x_iconst d_Cl_law_154 (by decide) (?_ : WD _ _ 155 _ _ _ _ _ _)
            exact x_zreturn rfl d_Cl_law_155 (by decide) h
