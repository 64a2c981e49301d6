-- what each stretch of a method asks (printed by wip/gen/gen_dout.py)
set_option maxRecDepth 20000 in
theorem e_Cl_act {G : Gq} {K : Int → Wd → Prop} {w : Wd} {mc ms : Nat} (x1 : Nat) (x2 : Nat) (x3 : Int) (h : (Is G w x1 (kO 11)) ∧ ∃ a2 : Nat, (wR w x1 0) = some a2 ∧ ((Is G w a2 (kO 14)) ∧ DI G M_Al_size [vA a2] w 0 0 (fun v6 w5 => DI G M_Cl_draw [vA x2, vI 20] w5 0 0 (fun v8 w7 => (¬ v8 = 0 → (¬ v6 = 0 → DI G M_Cl_draw [vA x2, vI v6] w7 0 0 (fun v12 w11 => WD G M_Cl_act 38 [(0, vR 0), (1, vA x1), (2, vA x2), (3, vI x3), (4, vI v6)] [vI v12] w11 mc ms (yI K))) ∧ (v6 = 0 → WD G M_Cl_act 38 [(0, vR 0), (1, vA x1), (2, vA x2), (3, vI x3), (4, vI v6)] [vI 0] w7 mc ms (yI K))) ∧ (v8 = 0 → WD G M_Cl_act 38 [(0, vR 0), (1, vA x1), (2, vA x2), (3, vI x3), (4, vI v6)] [vI v6] w7 mc ms (yI K)))))) : DI G M_Cl_act [vR 0, vA x1, vA x2, vI x3] w mc ms K := by
  refine DC.of ok_M_Cl_act (ls := [(0, vR 0), (1, vA x1), (2, vA x2), (3, vI x3)]) rfl (Nat.le_of_ble_eq_true rfl) ?_
  refine x_aload_nP (some x1) d_Cl_act_0 rfl (?_ : WD _ _ 1 _ _ _ _ _ _)
  obtain ⟨k1, h⟩ := h
  refine x_getP (ref := "CoinSamplerLaw$Books") (j := 0) 0 k1 clk_11 (by decide) (qm_2 (i := 156) rfl rfl) (Or.inl rfl) rfl rfl d_Cl_act_1 (y := (wR w x1 0)) rfl (?_ : WD _ _ 4 _ _ _ _ _ _)
  obtain ⟨a2, e3, h⟩ := h
  rw [e3]
  obtain ⟨k4, h⟩ := h
  refine x_callV (ν := M_Al_size) [] ok_M_Al_size okv_M_Al_size k4 rfl rfl (qm_3 (i := 178) rfl rfl) np_M_Al_size rfl ⟨Nat.le_of_ble_eq_true rfl, Nat.le_of_ble_eq_true rfl⟩ (Nat.le_of_ble_eq_true rfl) rfl d_Cl_act_4 (Nat.zero_le _) (Nat.zero_le _) (DI.k h (fun v6 w5 gw5 h => (?_ : WD _ _ 7 _ _ _ _ _ _)))
  refine x_istore (ls' := [(4, vI v6), (0, vR 0), (1, vA x1), (2, vA x2), (3, vI x3)]) d_Cl_act_7 (by decide) rfl (?_ : WD _ _ 9 _ _ _ _ _ _)
  refine x_aload_nP (some x2) d_Cl_act_9 rfl (?_ : WD _ _ 10 _ _ _ _ _ _)
  refine x_bipush d_Cl_act_10 (by decide) (by decide) (?_ : WD _ _ 12 _ _ _ _ _ _)
  refine x_callS (ν := M_Cl_draw) [vA x2, vI 20] ok_M_Cl_draw oks_M_Cl_draw (qm_3 (i := 179) rfl rfl) np_M_Cl_draw rfl ⟨Nat.le_of_ble_eq_true rfl, Nat.le_of_ble_eq_true rfl⟩ (Nat.le_of_ble_eq_true rfl) rfl d_Cl_act_12 (Nat.zero_le _) (Nat.zero_le _) (DI.k h (fun v8 w7 gw7 h => (?_ : WD _ _ 15 _ _ _ _ _ _)))
  refine x_if_ne 23 d_Cl_act_15 rfl ⟨fun c9 => (?_ : WD _ _ 23 _ _ _ _ _ _), fun c9 => (?_ : WD _ _ 18 _ _ _ _ _ _)⟩
  · replace h := h.1 c9
    refine x_iload d_Cl_act_23 rfl (?_ : WD _ _ 25 _ _ _ _ _ _)
    refine x_if_ne 32 d_Cl_act_25 rfl ⟨fun c10 => (?_ : WD _ _ 32 _ _ _ _ _ _), fun c10 => (?_ : WD _ _ 28 _ _ _ _ _ _)⟩
    · replace h := h.1 c10
      refine x_aload_nP (some x2) d_Cl_act_32 rfl (?_ : WD _ _ 33 _ _ _ _ _ _)
      refine x_iload d_Cl_act_33 rfl (?_ : WD _ _ 35 _ _ _ _ _ _)
      refine x_callS (ν := M_Cl_draw) [vA x2, vI v6] ok_M_Cl_draw oks_M_Cl_draw (qm_3 (i := 179) rfl rfl) np_M_Cl_draw rfl ⟨Nat.le_of_ble_eq_true rfl, Nat.le_of_ble_eq_true rfl⟩ (Nat.le_of_ble_eq_true rfl) rfl d_Cl_act_35 (Nat.zero_le _) (Nat.zero_le _) (DI.k h (fun v12 w11 gw11 h => (?_ : WD _ _ 38 _ _ _ _ _ _)))
      refine x_pick (ls' := [(0, vR 0), (1, vA x1), (2, vA x2), (3, vI x3), (4, vI v6)]) [1, 2, 3, 4, 0] rfl ?_
      exact h
    · replace h := h.2 c10
      refine x_iconst d_Cl_act_28 (by decide) (?_ : WD _ _ 29 _ _ _ _ _ _)
      refine x_goto 38 d_Cl_act_29 rfl ?_
      refine x_pick (ls' := [(0, vR 0), (1, vA x1), (2, vA x2), (3, vI x3), (4, vI v6)]) [1, 2, 3, 4, 0] rfl ?_
      exact h
  · replace h := h.2 c9
    refine x_iload d_Cl_act_18 rfl (?_ : WD _ _ 20 _ _ _ _ _ _)
    refine x_goto 38 d_Cl_act_20 rfl ?_
    refine x_pick (ls' := [(0, vR 0), (1, vA x1), (2, vA x2), (3, vI x3), (4, vI v6)]) [1, 2, 3, 4, 0] rfl ?_
    exact h
set_option maxRecDepth 20000 in
theorem l_Cl_act_1 {G : Gq} {K : Int → Wd → Prop} {w : Wd} {rc rs : Nat} (x1 : Nat) (x2 : Nat) (x3 : Int) (x4 : Int) (y0 : Int) (h : (x4 ≤ y0 → WD G M_Cl_act 63 [(0, vR 0), (1, vA x1), (2, vA x2), (3, vI x3), (4, vI x4), (5, vI y0)] [vP none] w rc rs (yI K)) ∧ (¬ x4 ≤ y0 → (Is G w x1 (kO 11)) ∧ ∃ a15 : Nat, (wR w x1 0) = some a15 ∧ ((Is G w a15 (kO 14)) ∧ DP G M_Al_get [vA a15, vI y0] w 0 0 (fun v19 w18 => ∃ a20 : Nat, v19 = some a20 ∧ ((Is G w18 a20 (kO 13)) ∧ WD G M_Cl_act 63 [(0, vR 0), (1, vA x1), (2, vA x2), (3, vI x3), (4, vI x4), (5, vI y0)] [vP (some a20)] w18 rc rs (yI K)))))) : WD G M_Cl_act 38 [(0, vR 0), (1, vA x1), (2, vA x2), (3, vI x3), (4, vI x4)] [vI y0] w rc rs (yI K) := by
  refine x_istore (ls' := [(5, vI y0), (0, vR 0), (1, vA x1), (2, vA x2), (3, vI x3), (4, vI x4)]) d_Cl_act_38 (by decide) rfl (?_ : WD _ _ 40 _ _ _ _ _ _)
  refine x_iload d_Cl_act_40 rfl (?_ : WD _ _ 42 _ _ _ _ _ _)
  refine x_iload d_Cl_act_42 rfl (?_ : WD _ _ 44 _ _ _ _ _ _)
  refine x_icmp_ge 62 d_Cl_act_44 rfl ⟨fun c13 => (?_ : WD _ _ 62 _ _ _ _ _ _), fun c13 => (?_ : WD _ _ 47 _ _ _ _ _ _)⟩
  · replace h := h.1 c13
    refine x_null d_Cl_act_62 (?_ : WD _ _ 63 _ _ _ _ _ _)
    refine x_pick (ls' := [(0, vR 0), (1, vA x1), (2, vA x2), (3, vI x3), (4, vI x4), (5, vI y0)]) [1, 2, 3, 4, 5, 0] rfl ?_
    exact h
  · replace h := h.2 c13
    refine x_aload_nP (some x1) d_Cl_act_47 rfl (?_ : WD _ _ 48 _ _ _ _ _ _)
    obtain ⟨k14, h⟩ := h
    refine x_getP (ref := "CoinSamplerLaw$Books") (j := 0) 0 k14 clk_11 (by decide) (qm_2 (i := 156) rfl rfl) (Or.inl rfl) rfl rfl d_Cl_act_48 (y := (wR w x1 0)) rfl (?_ : WD _ _ 51 _ _ _ _ _ _)
    refine x_iload d_Cl_act_51 rfl (?_ : WD _ _ 53 _ _ _ _ _ _)
    obtain ⟨a15, e16, h⟩ := h
    rw [e16]
    obtain ⟨k17, h⟩ := h
    refine x_callV (ν := M_Al_get) [vI y0] ok_M_Al_get okv_M_Al_get k17 rfl rfl (qm_3 (i := 183) rfl rfl) np_M_Al_get rfl ⟨Nat.le_of_ble_eq_true rfl, Nat.le_of_ble_eq_true rfl⟩ (Nat.le_of_ble_eq_true rfl) rfl d_Cl_act_53 (Nat.zero_le _) (Nat.zero_le _) (DP.k h (fun v19 w18 gw18 h => (?_ : WD _ _ 56 _ _ _ _ _ _)))
    obtain ⟨a20, e21, h⟩ := h
    rw [e21]
    obtain ⟨k22, h⟩ := h
    refine x_cast k22 rfl (Or.inl rfl) (qm_3 (i := 184) rfl rfl) d_Cl_act_56 (?_ : WD _ _ 59 _ _ _ _ _ _)
    refine x_goto 63 d_Cl_act_59 rfl ?_
    refine x_pick (ls' := [(0, vR 0), (1, vA x1), (2, vA x2), (3, vI x3), (4, vI x4), (5, vI y0)]) [1, 2, 3, 4, 5, 0] rfl ?_
    exact h
set_option maxRecDepth 20000 in
theorem l_Cl_act_2 {G : Gq} {K : Int → Wd → Prop} {w : Wd} {rc rs : Nat} (x1 : Nat) (x2 : Nat) (x3 : Int) (x4 : Int) (x5 : Int) (y0 : Option Nat) (h : (¬ x3 = 0 → (x3 = 1 → WD G M_Cl_act 160 [(0, vR 0), (1, vA x1), (2, vA x2)] [] w rc rs (yI K)) ∧ (¬ x3 = 1 → (¬ x3 = 2 → (¬ x3 = 3 → (¬ x3 = 4 → (10 ≤ x3 → (¬ x3 = 10 → (¬ x3 = 11 → (¬ x3 = 12 → (¬ x3 = 13 → WD G M_Cl_act 1342 [(0, vR 0), (1, vA x1)] [] w rc rs (yI K)) ∧ (x3 = 13 → WD G M_Cl_act 1311 [(0, vR 0), (1, vA x1)] [] w rc rs (yI K))) ∧ (x3 = 12 → WD G M_Cl_act 1216 [(0, vR 0), (1, vA x1)] [] w rc rs (yI K))) ∧ (x3 = 11 → WD G M_Cl_act 1050 [(0, vR 0), (1, vA x1), (2, vA x2)] [] w rc rs (yI K))) ∧ (x3 = 10 → WD G M_Cl_act 999 [(0, vR 0), (5, vI x5), (7, vP y0)] [] w rc rs (yI K))) ∧ (¬ 10 ≤ x3 → WD G M_Cl_act 792 [(0, vR 0), (2, vA x2), (5, vI x5), (7, vP y0)] [] w rc rs (yI K))) ∧ (x3 = 4 → WD G M_Cl_act 677 [(0, vR 0), (1, vA x1), (2, vA x2), (5, vI x5), (7, vP y0)] [] w rc rs (yI K))) ∧ (x3 = 3 → WD G M_Cl_act 466 [(0, vR 0), (1, vA x1), (2, vA x2), (4, vI x4)] [] w rc rs (yI K))) ∧ (x3 = 2 → WD G M_Cl_act 160 [(0, vR 0), (1, vA x1), (2, vA x2)] [] w rc rs (yI K)))) ∧ (x3 = 0 → WD G M_Cl_act 69 [(0, vR 0), (1, vA x1), (2, vA x2)] [] w rc rs (yI K))) : WD G M_Cl_act 63 [(0, vR 0), (1, vA x1), (2, vA x2), (3, vI x3), (4, vI x4), (5, vI x5)] [vP y0] w rc rs (yI K) := by
  refine x_astoreP y0 (ls' := [(7, vP y0), (0, vR 0), (1, vA x1), (2, vA x2), (3, vI x3), (4, vI x4), (5, vI x5)]) d_Cl_act_63 (by decide) rfl (?_ : WD _ _ 65 _ _ _ _ _ _)
  refine x_iload_n d_Cl_act_65 rfl (?_ : WD _ _ 66 _ _ _ _ _ _)
  refine x_if_ne 150 d_Cl_act_66 rfl ⟨fun c23 => (?_ : WD _ _ 150 _ _ _ _ _ _), fun c23 => (?_ : WD _ _ 69 _ _ _ _ _ _)⟩
  · replace h := h.1 c23
    refine x_iload_n d_Cl_act_150 rfl (?_ : WD _ _ 151 _ _ _ _ _ _)
    refine x_iconst d_Cl_act_151 (by decide) (?_ : WD _ _ 152 _ _ _ _ _ _)
    refine x_icmp_eq 160 d_Cl_act_152 rfl ⟨fun c24 => (?_ : WD _ _ 160 _ _ _ _ _ _), fun c24 => (?_ : WD _ _ 155 _ _ _ _ _ _)⟩
    · replace h := h.1 c24
      refine x_pick (ls' := [(0, vR 0), (1, vA x1), (2, vA x2)]) [1, 2, 3] rfl ?_
      exact h
    · replace h := h.2 c24
      refine x_iload_n d_Cl_act_155 rfl (?_ : WD _ _ 156 _ _ _ _ _ _)
      refine x_iconst d_Cl_act_156 (by decide) (?_ : WD _ _ 157 _ _ _ _ _ _)
      refine x_icmp_ne 461 d_Cl_act_157 rfl ⟨fun c25 => (?_ : WD _ _ 461 _ _ _ _ _ _), fun c25 => (?_ : WD _ _ 160 _ _ _ _ _ _)⟩
      · replace h := h.1 c25
        refine x_iload_n d_Cl_act_461 rfl (?_ : WD _ _ 462 _ _ _ _ _ _)
        refine x_iconst d_Cl_act_462 (by decide) (?_ : WD _ _ 463 _ _ _ _ _ _)
        refine x_icmp_ne 672 d_Cl_act_463 rfl ⟨fun c26 => (?_ : WD _ _ 672 _ _ _ _ _ _), fun c26 => (?_ : WD _ _ 466 _ _ _ _ _ _)⟩
        · replace h := h.1 c26
          refine x_iload_n d_Cl_act_672 rfl (?_ : WD _ _ 673 _ _ _ _ _ _)
          refine x_iconst d_Cl_act_673 (by decide) (?_ : WD _ _ 674 _ _ _ _ _ _)
          refine x_icmp_ne 786 d_Cl_act_674 rfl ⟨fun c27 => (?_ : WD _ _ 786 _ _ _ _ _ _), fun c27 => (?_ : WD _ _ 677 _ _ _ _ _ _)⟩
          · replace h := h.1 c27
            refine x_iload_n d_Cl_act_786 rfl (?_ : WD _ _ 787 _ _ _ _ _ _)
            refine x_bipush d_Cl_act_787 (by decide) (by decide) (?_ : WD _ _ 789 _ _ _ _ _ _)
            refine x_icmp_ge 993 d_Cl_act_789 rfl ⟨fun c28 => (?_ : WD _ _ 993 _ _ _ _ _ _), fun c28 => (?_ : WD _ _ 792 _ _ _ _ _ _)⟩
            · replace h := h.1 c28
              refine x_iload_n d_Cl_act_993 rfl (?_ : WD _ _ 994 _ _ _ _ _ _)
              refine x_bipush d_Cl_act_994 (by decide) (by decide) (?_ : WD _ _ 996 _ _ _ _ _ _)
              refine x_icmp_ne 1044 d_Cl_act_996 rfl ⟨fun c29 => (?_ : WD _ _ 1044 _ _ _ _ _ _), fun c29 => (?_ : WD _ _ 999 _ _ _ _ _ _)⟩
              · replace h := h.1 c29
                refine x_iload_n d_Cl_act_1044 rfl (?_ : WD _ _ 1045 _ _ _ _ _ _)
                refine x_bipush d_Cl_act_1045 (by decide) (by decide) (?_ : WD _ _ 1047 _ _ _ _ _ _)
                refine x_icmp_ne 1210 d_Cl_act_1047 rfl ⟨fun c30 => (?_ : WD _ _ 1210 _ _ _ _ _ _), fun c30 => (?_ : WD _ _ 1050 _ _ _ _ _ _)⟩
                · replace h := h.1 c30
                  refine x_iload_n d_Cl_act_1210 rfl (?_ : WD _ _ 1211 _ _ _ _ _ _)
                  refine x_bipush d_Cl_act_1211 (by decide) (by decide) (?_ : WD _ _ 1213 _ _ _ _ _ _)
                  refine x_icmp_ne 1305 d_Cl_act_1213 rfl ⟨fun c31 => (?_ : WD _ _ 1305 _ _ _ _ _ _), fun c31 => (?_ : WD _ _ 1216 _ _ _ _ _ _)⟩
                  · replace h := h.1 c31
                    refine x_iload_n d_Cl_act_1305 rfl (?_ : WD _ _ 1306 _ _ _ _ _ _)
                    refine x_bipush d_Cl_act_1306 (by decide) (by decide) (?_ : WD _ _ 1308 _ _ _ _ _ _)
                    refine x_icmp_ne 1342 d_Cl_act_1308 rfl ⟨fun c32 => (?_ : WD _ _ 1342 _ _ _ _ _ _), fun c32 => (?_ : WD _ _ 1311 _ _ _ _ _ _)⟩
                    · replace h := h.1 c32
                      refine x_pick (ls' := [(0, vR 0), (1, vA x1)]) [1, 2] rfl ?_
                      exact h
                    · replace h := h.2 c32
                      refine x_pick (ls' := [(0, vR 0), (1, vA x1)]) [1, 2] rfl ?_
                      exact h
                  · replace h := h.2 c31
                    refine x_pick (ls' := [(0, vR 0), (1, vA x1)]) [1, 2] rfl ?_
                    exact h
                · replace h := h.2 c30
                  refine x_pick (ls' := [(0, vR 0), (1, vA x1), (2, vA x2)]) [1, 2, 3] rfl ?_
                  exact h
              · replace h := h.2 c29
                refine x_pick (ls' := [(0, vR 0), (5, vI x5), (7, vP y0)]) [1, 6, 0] rfl ?_
                exact h
            · replace h := h.2 c28
              refine x_pick (ls' := [(0, vR 0), (2, vA x2), (5, vI x5), (7, vP y0)]) [1, 3, 6, 0] rfl ?_
              exact h
          · replace h := h.2 c27
            refine x_pick (ls' := [(0, vR 0), (1, vA x1), (2, vA x2), (5, vI x5), (7, vP y0)]) [1, 2, 3, 6, 0] rfl ?_
            exact h
        · replace h := h.2 c26
          refine x_pick (ls' := [(0, vR 0), (1, vA x1), (2, vA x2), (4, vI x4)]) [1, 2, 3, 5] rfl ?_
          exact h
      · replace h := h.2 c25
        refine x_pick (ls' := [(0, vR 0), (1, vA x1), (2, vA x2)]) [1, 2, 3] rfl ?_
        exact h
  · replace h := h.2 c23
    refine x_pick (ls' := [(0, vR 0), (1, vA x1), (2, vA x2)]) [1, 2, 3] rfl ?_
    exact h
set_option maxRecDepth 20000 in
theorem l_Cl_act_3 {G : Gq} {K : Int → Wd → Prop} {w : Wd} {rc rs : Nat} (x1 : Nat) (x2 : Nat) (h : ∃ c33 s34 : Nat, c33 ≤ rc ∧ s34 ≤ rs ∧ (DP G M_Cl_drawn [vA x1, vA x2] w c33 s34 (fun v38 w37 => CI M_Cs_text [vR 0, vI 901] (wS w37) (fun v39 σ40 => (¬ v39 = (-3) → K 0 (uS w37 σ40)) ∧ (v39 = (-3) → CI M_Cs_text [vR 0, vI (-1)] (wS (uS w37 σ40)) (fun v42 σ43 => (¬ v42 = (-3) → K 0 (uS (uS w37 σ40) σ43)) ∧ (v42 = (-3) → ∃ a45 : Nat, v38 = some a45 ∧ (∃ c47 s48 : Nat, c47 ≤ (rc - c33) ∧ s48 ≤ (rs - s34) ∧ (DI G M_Cl_feeds [vR 0, vA a45] (uS (uS w37 σ40) σ43) c47 s48 (fun v52 w51 => CI M_Cs_text [vR 0, vI v52] (wS w51) (fun v53 σ54 => (Is G (uS w51 σ54) x1 (kO 11)) ∧ ∃ a56 : Nat, (wR w51 x1 0) = some a56 ∧ ((Is G (uS w51 σ54) a56 (kO 14)) ∧ DI G M_Al_size [vA a56] (uS w51 σ54) 0 0 (fun v60 w59 => (¬ v53 = v60 → K 0 w59) ∧ (v53 = v60 → CI M_Cs_fault [vR 0, vI 0] (wS w59) (fun v62 σ63 => (¬ v62 = 0 → K 0 (uS w59 σ63)) ∧ (v62 = 0 → CI M_Cs_fault [vR 0, vI 1] (wS (uS w59 σ63)) (fun v65 σ66 => (¬ v65 = (-1) → K 0 (uS (uS w59 σ63) σ66)) ∧ (v65 = (-1) → CI M_Cs_fault [vR 0, vI 2] (wS (uS (uS w59 σ63) σ66)) (fun v68 σ69 => (¬ v68 = (-1) → K 0 (uS (uS (uS w59 σ63) σ66) σ69)) ∧ (v68 = (-1) → K 1 (uS (uS (uS w59 σ63) σ66) σ69))))))))))))))))))))) : WD G M_Cl_act 69 [(0, vR 0), (1, vA x1), (2, vA x2)] [] w rc rs (yI K) := by
  refine x_aload_nP (some x1) d_Cl_act_69 rfl (?_ : WD _ _ 70 _ _ _ _ _ _)
  refine x_aload_nP (some x2) d_Cl_act_70 rfl (?_ : WD _ _ 71 _ _ _ _ _ _)
  obtain ⟨c33, s34, h35, h36, h⟩ := h
  refine x_callS (ν := M_Cl_drawn) [vA x1, vA x2] ok_M_Cl_drawn oks_M_Cl_drawn (qm_3 (i := 185) rfl rfl) np_M_Cl_drawn rfl ⟨Nat.le_of_ble_eq_true rfl, Nat.le_of_ble_eq_true rfl⟩ (Nat.le_of_ble_eq_true rfl) rfl d_Cl_act_71 h35 h36 (DP.k h (fun v38 w37 gw37 h => (?_ : WD _ _ 74 _ _ _ _ _ _)))
  refine x_astoreP v38 (ls' := [(8, vP v38), (0, vR 0), (1, vA x1), (2, vA x2)]) d_Cl_act_74 (by decide) rfl (?_ : WD _ _ 76 _ _ _ _ _ _)
  refine x_aload_n d_Cl_act_76 rfl (?_ : WD _ _ 77 _ _ _ _ _ _)
  refine x_sipush d_Cl_act_77 (by decide) (by decide) (?_ : WD _ _ 80 _ _ _ _ _ _)
  refine x_callC (ν := M_Cs_text) (k := 0) [vI 901] ok_M_Cs_text okv_M_Cs_text (by decide) rfl rfl rfl (qm_4 (i := 237) rfl rfl) np_M_Cs_text rfl ⟨Nat.le_of_ble_eq_true rfl, Nat.le_of_ble_eq_true rfl⟩ (Nat.le_of_ble_eq_true rfl) rfl d_Cl_act_80 (CI.kd h (fun v39 σ40 h => (?_ : WD _ _ 83 _ _ _ _ _ _)))
  refine x_bipush d_Cl_act_83 (by decide) (by decide) (?_ : WD _ _ 85 _ _ _ _ _ _)
  refine x_icmp_ne 148 d_Cl_act_85 rfl ⟨fun c41 => (?_ : WD _ _ 148 _ _ _ _ _ _), fun c41 => (?_ : WD _ _ 88 _ _ _ _ _ _)⟩
  · replace h := h.1 c41
    refine x_iconst d_Cl_act_148 (by decide) (?_ : WD _ _ 149 _ _ _ _ _ _)
    exact x_zreturn rfl d_Cl_act_149 (by decide) h
  · replace h := h.2 c41
    refine x_aload_n d_Cl_act_88 rfl (?_ : WD _ _ 89 _ _ _ _ _ _)
    refine x_iconst d_Cl_act_89 (by decide) (?_ : WD _ _ 90 _ _ _ _ _ _)
    refine x_callC (ν := M_Cs_text) (k := 0) [vI (-1)] ok_M_Cs_text okv_M_Cs_text (by decide) rfl rfl rfl (qm_4 (i := 237) rfl rfl) np_M_Cs_text rfl ⟨Nat.le_of_ble_eq_true rfl, Nat.le_of_ble_eq_true rfl⟩ (Nat.le_of_ble_eq_true rfl) rfl d_Cl_act_90 (CI.kd h (fun v42 σ43 h => (?_ : WD _ _ 93 _ _ _ _ _ _)))
    refine x_bipush d_Cl_act_93 (by decide) (by decide) (?_ : WD _ _ 95 _ _ _ _ _ _)
    refine x_icmp_ne 148 d_Cl_act_95 rfl ⟨fun c44 => (?_ : WD _ _ 148 _ _ _ _ _ _), fun c44 => (?_ : WD _ _ 98 _ _ _ _ _ _)⟩
    · replace h := h.1 c44
      refine x_iconst d_Cl_act_148 (by decide) (?_ : WD _ _ 149 _ _ _ _ _ _)
      exact x_zreturn rfl d_Cl_act_149 (by decide) h
    · replace h := h.2 c44
      refine x_aload_n d_Cl_act_98 rfl (?_ : WD _ _ 99 _ _ _ _ _ _)
      refine x_aload_n d_Cl_act_99 rfl (?_ : WD _ _ 100 _ _ _ _ _ _)
      refine x_aloadP v38 d_Cl_act_100 rfl (?_ : WD _ _ 102 _ _ _ _ _ _)
      obtain ⟨a45, e46, h⟩ := h
      rw [e46]
      obtain ⟨c47, s48, h49, h50, h⟩ := h
      refine x_callS (ν := M_Cl_feeds) [vR 0, vA a45] ok_M_Cl_feeds oks_M_Cl_feeds (qm_5 (i := 112) rfl rfl) np_M_Cl_feeds rfl ⟨Nat.le_of_ble_eq_true rfl, Nat.le_of_ble_eq_true rfl⟩ (Nat.le_of_ble_eq_true rfl) rfl d_Cl_act_102 h49 h50 (DI.k h (fun v52 w51 gw51 h => (?_ : WD _ _ 105 _ _ _ _ _ _)))
      refine x_callC (ν := M_Cs_text) (k := 0) [vI v52] ok_M_Cs_text okv_M_Cs_text (by decide) rfl rfl rfl (qm_4 (i := 237) rfl rfl) np_M_Cs_text rfl ⟨Nat.le_of_ble_eq_true rfl, Nat.le_of_ble_eq_true rfl⟩ (Nat.le_of_ble_eq_true rfl) rfl d_Cl_act_105 (CI.kd h (fun v53 σ54 h => (?_ : WD _ _ 108 _ _ _ _ _ _)))
      refine x_aload_nP (some x1) d_Cl_act_108 rfl (?_ : WD _ _ 109 _ _ _ _ _ _)
      obtain ⟨k55, h⟩ := h
      refine x_getP (ref := "CoinSamplerLaw$Books") (j := 0) 0 k55 clk_11 (by decide) (qm_2 (i := 156) rfl rfl) (Or.inl rfl) rfl rfl d_Cl_act_109 (y := (wR w51 x1 0)) rfl (?_ : WD _ _ 112 _ _ _ _ _ _)
      obtain ⟨a56, e57, h⟩ := h
      rw [e57]
      obtain ⟨k58, h⟩ := h
      refine x_callV (ν := M_Al_size) [] ok_M_Al_size okv_M_Al_size k58 rfl rfl (qm_3 (i := 178) rfl rfl) np_M_Al_size rfl ⟨Nat.le_of_ble_eq_true rfl, Nat.le_of_ble_eq_true rfl⟩ (Nat.le_of_ble_eq_true rfl) rfl d_Cl_act_112 (Nat.zero_le _) (Nat.zero_le _) (DI.k h (fun v60 w59 gw59 h => (?_ : WD _ _ 115 _ _ _ _ _ _)))
      refine x_icmp_ne 148 d_Cl_act_115 rfl ⟨fun c61 => (?_ : WD _ _ 148 _ _ _ _ _ _), fun c61 => (?_ : WD _ _ 118 _ _ _ _ _ _)⟩
      · replace h := h.1 c61
        refine x_iconst d_Cl_act_148 (by decide) (?_ : WD _ _ 149 _ _ _ _ _ _)
        exact x_zreturn rfl d_Cl_act_149 (by decide) h
      · replace h := h.2 c61
        refine x_aload_n d_Cl_act_118 rfl (?_ : WD _ _ 119 _ _ _ _ _ _)
        refine x_iconst d_Cl_act_119 (by decide) (?_ : WD _ _ 120 _ _ _ _ _ _)
        refine x_callC (ν := M_Cs_fault) (k := 0) [vI 0] ok_M_Cs_fault okv_M_Cs_fault (by decide) rfl rfl rfl (qm_5 (i := 125) rfl rfl) np_M_Cs_fault rfl ⟨Nat.le_of_ble_eq_true rfl, Nat.le_of_ble_eq_true rfl⟩ (Nat.le_of_ble_eq_true rfl) rfl d_Cl_act_120 (CI.kd h (fun v62 σ63 h => (?_ : WD _ _ 123 _ _ _ _ _ _)))
        refine x_if_ne 148 d_Cl_act_123 rfl ⟨fun c64 => (?_ : WD _ _ 148 _ _ _ _ _ _), fun c64 => (?_ : WD _ _ 126 _ _ _ _ _ _)⟩
        · replace h := h.1 c64
          refine x_iconst d_Cl_act_148 (by decide) (?_ : WD _ _ 149 _ _ _ _ _ _)
          exact x_zreturn rfl d_Cl_act_149 (by decide) h
        · replace h := h.2 c64
          refine x_aload_n d_Cl_act_126 rfl (?_ : WD _ _ 127 _ _ _ _ _ _)
          refine x_iconst d_Cl_act_127 (by decide) (?_ : WD _ _ 128 _ _ _ _ _ _)
          refine x_callC (ν := M_Cs_fault) (k := 0) [vI 1] ok_M_Cs_fault okv_M_Cs_fault (by decide) rfl rfl rfl (qm_5 (i := 125) rfl rfl) np_M_Cs_fault rfl ⟨Nat.le_of_ble_eq_true rfl, Nat.le_of_ble_eq_true rfl⟩ (Nat.le_of_ble_eq_true rfl) rfl d_Cl_act_128 (CI.kd h (fun v65 σ66 h => (?_ : WD _ _ 131 _ _ _ _ _ _)))
          refine x_iconst d_Cl_act_131 (by decide) (?_ : WD _ _ 132 _ _ _ _ _ _)
          refine x_icmp_ne 148 d_Cl_act_132 rfl ⟨fun c67 => (?_ : WD _ _ 148 _ _ _ _ _ _), fun c67 => (?_ : WD _ _ 135 _ _ _ _ _ _)⟩
          · replace h := h.1 c67
            refine x_iconst d_Cl_act_148 (by decide) (?_ : WD _ _ 149 _ _ _ _ _ _)
            exact x_zreturn rfl d_Cl_act_149 (by decide) h
          · replace h := h.2 c67
            refine x_aload_n d_Cl_act_135 rfl (?_ : WD _ _ 136 _ _ _ _ _ _)
            refine x_iconst d_Cl_act_136 (by decide) (?_ : WD _ _ 137 _ _ _ _ _ _)
            refine x_callC (ν := M_Cs_fault) (k := 0) [vI 2] ok_M_Cs_fault okv_M_Cs_fault (by decide) rfl rfl rfl (qm_5 (i := 125) rfl rfl) np_M_Cs_fault rfl ⟨Nat.le_of_ble_eq_true rfl, Nat.le_of_ble_eq_true rfl⟩ (Nat.le_of_ble_eq_true rfl) rfl d_Cl_act_137 (CI.kd h (fun v68 σ69 h => (?_ : WD _ _ 140 _ _ _ _ _ _)))
            refine x_iconst d_Cl_act_140 (by decide) (?_ : WD _ _ 141 _ _ _ _ _ _)
            refine x_icmp_ne 148 d_Cl_act_141 rfl ⟨fun c70 => (?_ : WD _ _ 148 _ _ _ _ _ _), fun c70 => (?_ : WD _ _ 144 _ _ _ _ _ _)⟩
            · replace h := h.1 c70
              refine x_iconst d_Cl_act_148 (by decide) (?_ : WD _ _ 149 _ _ _ _ _ _)
              exact x_zreturn rfl d_Cl_act_149 (by decide) h
            · replace h := h.2 c70
              refine x_iconst d_Cl_act_144 (by decide) (?_ : WD _ _ 145 _ _ _ _ _ _)
              refine x_goto 149 d_Cl_act_145 rfl ?_
              exact x_zreturn rfl d_Cl_act_149 (by decide) h
set_option maxRecDepth 20000 in
theorem l_Cl_act_4 {G : Gq} {K : Int → Wd → Prop} {w : Wd} {rc rs : Nat} (x1 : Nat) (x2 : Nat) (h : DI G M_Cl_draw [vA x2, vI 6] w 0 0 (fun v72 w71 => (¬ v72 = 0 → (¬ v72 = 1 → (¬ v72 = 2 → (¬ v72 = 3 → DI G M_Cl_draw [vA x2, vI 40] w71 0 0 (fun v78 w77 => (¬ v78 = 0 → DI G M_Cl_draw [vA x2, vI 60] w77 0 0 (fun v81 w80 => (¬ v81 = 0 → DI G M_Cl_draw [vA x2, vI 900] w80 0 0 (fun v84 w83 => WD G M_Cl_act 278 [(0, vR 0), (1, vA x1), (8, vI v72)] [vI v84] w83 rc rs (yI K))) ∧ (v81 = 0 → WD G M_Cl_act 278 [(0, vR 0), (1, vA x1), (8, vI v72)] [vI 1000003] w80 rc rs (yI K)))) ∧ (v78 = 0 → WD G M_Cl_act 278 [(0, vR 0), (1, vA x1), (8, vI v72)] [vI 1000004] w77 rc rs (yI K)))) ∧ (v72 = 3 → DI G M_Cl_draw [vA x2, vI 3] w71 0 0 (fun v86 w85 => WD G M_Cl_act 278 [(0, vR 0), (1, vA x1), (8, vI v72)] [vI v86] w85 rc rs (yI K)))) ∧ (v72 = 2 → DI G M_Cl_draw [vA x2, vI 11] w71 0 0 (fun v88 w87 => WD G M_Cl_act 278 [(0, vR 0), (1, vA x1), (8, vI v72)] [vI v88] w87 rc rs (yI K)))) ∧ (v72 = 1 → DI G M_Cl_draw [vA x2, vI 502] w71 0 0 (fun v90 w89 => WD G M_Cl_act 278 [(0, vR 0), (1, vA x1), (8, vI v72)] [vI v90] w89 rc rs (yI K)))) ∧ (v72 = 0 → DI G M_Cl_draw [vA x2, vI 9] w71 0 0 (fun v92 w91 => (¬ v92 = 0 → DI G M_Cl_draw [vA x2, vI 6000] w91 0 0 (fun v95 w94 => (inR (1 + v95)) ∧ WD G M_Cl_act 278 [(0, vR 0), (1, vA x1), (8, vI v72)] [vI (1 + v95)] w94 rc rs (yI K))) ∧ (v92 = 0 → WD G M_Cl_act 278 [(0, vR 0), (1, vA x1), (8, vI v72)] [vI 0] w91 rc rs (yI K)))))) : WD G M_Cl_act 160 [(0, vR 0), (1, vA x1), (2, vA x2)] [] w rc rs (yI K) := by
  refine x_aload_nP (some x2) d_Cl_act_160 rfl (?_ : WD _ _ 161 _ _ _ _ _ _)
  refine x_bipush d_Cl_act_161 (by decide) (by decide) (?_ : WD _ _ 163 _ _ _ _ _ _)
  refine x_callS (ν := M_Cl_draw) [vA x2, vI 6] ok_M_Cl_draw oks_M_Cl_draw (qm_3 (i := 179) rfl rfl) np_M_Cl_draw rfl ⟨Nat.le_of_ble_eq_true rfl, Nat.le_of_ble_eq_true rfl⟩ (Nat.le_of_ble_eq_true rfl) rfl d_Cl_act_163 (Nat.zero_le _) (Nat.zero_le _) (DI.k h (fun v72 w71 gw71 h => (?_ : WD _ _ 166 _ _ _ _ _ _)))
  refine x_istore (ls' := [(8, vI v72), (0, vR 0), (1, vA x1), (2, vA x2)]) d_Cl_act_166 (by decide) rfl (?_ : WD _ _ 168 _ _ _ _ _ _)
  refine x_iload d_Cl_act_168 rfl (?_ : WD _ _ 170 _ _ _ _ _ _)
  refine x_if_ne 198 d_Cl_act_170 rfl ⟨fun c73 => (?_ : WD _ _ 198 _ _ _ _ _ _), fun c73 => (?_ : WD _ _ 173 _ _ _ _ _ _)⟩
  · replace h := h.1 c73
    refine x_iload d_Cl_act_198 rfl (?_ : WD _ _ 200 _ _ _ _ _ _)
    refine x_iconst d_Cl_act_200 (by decide) (?_ : WD _ _ 201 _ _ _ _ _ _)
    refine x_icmp_ne 214 d_Cl_act_201 rfl ⟨fun c74 => (?_ : WD _ _ 214 _ _ _ _ _ _), fun c74 => (?_ : WD _ _ 204 _ _ _ _ _ _)⟩
    · replace h := h.1 c74
      refine x_iload d_Cl_act_214 rfl (?_ : WD _ _ 216 _ _ _ _ _ _)
      refine x_iconst d_Cl_act_216 (by decide) (?_ : WD _ _ 217 _ _ _ _ _ _)
      refine x_icmp_ne 229 d_Cl_act_217 rfl ⟨fun c75 => (?_ : WD _ _ 229 _ _ _ _ _ _), fun c75 => (?_ : WD _ _ 220 _ _ _ _ _ _)⟩
      · replace h := h.1 c75
        refine x_iload d_Cl_act_229 rfl (?_ : WD _ _ 231 _ _ _ _ _ _)
        refine x_iconst d_Cl_act_231 (by decide) (?_ : WD _ _ 232 _ _ _ _ _ _)
        refine x_icmp_ne 243 d_Cl_act_232 rfl ⟨fun c76 => (?_ : WD _ _ 243 _ _ _ _ _ _), fun c76 => (?_ : WD _ _ 235 _ _ _ _ _ _)⟩
        · replace h := h.1 c76
          refine x_aload_nP (some x2) d_Cl_act_243 rfl (?_ : WD _ _ 244 _ _ _ _ _ _)
          refine x_bipush d_Cl_act_244 (by decide) (by decide) (?_ : WD _ _ 246 _ _ _ _ _ _)
          refine x_callS (ν := M_Cl_draw) [vA x2, vI 40] ok_M_Cl_draw oks_M_Cl_draw (qm_3 (i := 179) rfl rfl) np_M_Cl_draw rfl ⟨Nat.le_of_ble_eq_true rfl, Nat.le_of_ble_eq_true rfl⟩ (Nat.le_of_ble_eq_true rfl) rfl d_Cl_act_246 (Nat.zero_le _) (Nat.zero_le _) (DI.k h (fun v78 w77 gw77 h => (?_ : WD _ _ 249 _ _ _ _ _ _)))
          refine x_if_ne 257 d_Cl_act_249 rfl ⟨fun c79 => (?_ : WD _ _ 257 _ _ _ _ _ _), fun c79 => (?_ : WD _ _ 252 _ _ _ _ _ _)⟩
          · replace h := h.1 c79
            refine x_aload_nP (some x2) d_Cl_act_257 rfl (?_ : WD _ _ 258 _ _ _ _ _ _)
            refine x_bipush d_Cl_act_258 (by decide) (by decide) (?_ : WD _ _ 260 _ _ _ _ _ _)
            refine x_callS (ν := M_Cl_draw) [vA x2, vI 60] ok_M_Cl_draw oks_M_Cl_draw (qm_3 (i := 179) rfl rfl) np_M_Cl_draw rfl ⟨Nat.le_of_ble_eq_true rfl, Nat.le_of_ble_eq_true rfl⟩ (Nat.le_of_ble_eq_true rfl) rfl d_Cl_act_260 (Nat.zero_le _) (Nat.zero_le _) (DI.k h (fun v81 w80 gw80 h => (?_ : WD _ _ 263 _ _ _ _ _ _)))
            refine x_if_ne 271 d_Cl_act_263 rfl ⟨fun c82 => (?_ : WD _ _ 271 _ _ _ _ _ _), fun c82 => (?_ : WD _ _ 266 _ _ _ _ _ _)⟩
            · replace h := h.1 c82
              refine x_aload_nP (some x2) d_Cl_act_271 rfl (?_ : WD _ _ 272 _ _ _ _ _ _)
              refine x_sipush d_Cl_act_272 (by decide) (by decide) (?_ : WD _ _ 275 _ _ _ _ _ _)
              refine x_callS (ν := M_Cl_draw) [vA x2, vI 900] ok_M_Cl_draw oks_M_Cl_draw (qm_3 (i := 179) rfl rfl) np_M_Cl_draw rfl ⟨Nat.le_of_ble_eq_true rfl, Nat.le_of_ble_eq_true rfl⟩ (Nat.le_of_ble_eq_true rfl) rfl d_Cl_act_275 (Nat.zero_le _) (Nat.zero_le _) (DI.k h (fun v84 w83 gw83 h => (?_ : WD _ _ 278 _ _ _ _ _ _)))
              refine x_pick (ls' := [(0, vR 0), (1, vA x1), (8, vI v72)]) [1, 2, 0] rfl ?_
              exact h
            · replace h := h.2 c82
              refine x_ldc 1000003 d_Cl_act_266 (qm_5 (i := 130) rfl rfl) (by decide) (by decide) (?_ : WD _ _ 268 _ _ _ _ _ _)
              refine x_goto 278 d_Cl_act_268 rfl ?_
              refine x_pick (ls' := [(0, vR 0), (1, vA x1), (8, vI v72)]) [1, 2, 0] rfl ?_
              exact h
          · replace h := h.2 c79
            refine x_ldc 1000004 d_Cl_act_252 (qm_5 (i := 129) rfl rfl) (by decide) (by decide) (?_ : WD _ _ 254 _ _ _ _ _ _)
            refine x_goto 278 d_Cl_act_254 rfl ?_
            refine x_pick (ls' := [(0, vR 0), (1, vA x1), (8, vI v72)]) [1, 2, 0] rfl ?_
            exact h
        · replace h := h.2 c76
          refine x_aload_nP (some x2) d_Cl_act_235 rfl (?_ : WD _ _ 236 _ _ _ _ _ _)
          refine x_iconst d_Cl_act_236 (by decide) (?_ : WD _ _ 237 _ _ _ _ _ _)
          refine x_callS (ν := M_Cl_draw) [vA x2, vI 3] ok_M_Cl_draw oks_M_Cl_draw (qm_3 (i := 179) rfl rfl) np_M_Cl_draw rfl ⟨Nat.le_of_ble_eq_true rfl, Nat.le_of_ble_eq_true rfl⟩ (Nat.le_of_ble_eq_true rfl) rfl d_Cl_act_237 (Nat.zero_le _) (Nat.zero_le _) (DI.k h (fun v86 w85 gw85 h => (?_ : WD _ _ 240 _ _ _ _ _ _)))
          refine x_goto 278 d_Cl_act_240 rfl ?_
          refine x_pick (ls' := [(0, vR 0), (1, vA x1), (8, vI v72)]) [1, 2, 0] rfl ?_
          exact h
      · replace h := h.2 c75
        refine x_aload_nP (some x2) d_Cl_act_220 rfl (?_ : WD _ _ 221 _ _ _ _ _ _)
        refine x_bipush d_Cl_act_221 (by decide) (by decide) (?_ : WD _ _ 223 _ _ _ _ _ _)
        refine x_callS (ν := M_Cl_draw) [vA x2, vI 11] ok_M_Cl_draw oks_M_Cl_draw (qm_3 (i := 179) rfl rfl) np_M_Cl_draw rfl ⟨Nat.le_of_ble_eq_true rfl, Nat.le_of_ble_eq_true rfl⟩ (Nat.le_of_ble_eq_true rfl) rfl d_Cl_act_223 (Nat.zero_le _) (Nat.zero_le _) (DI.k h (fun v88 w87 gw87 h => (?_ : WD _ _ 226 _ _ _ _ _ _)))
        refine x_goto 278 d_Cl_act_226 rfl ?_
        refine x_pick (ls' := [(0, vR 0), (1, vA x1), (8, vI v72)]) [1, 2, 0] rfl ?_
        exact h
    · replace h := h.2 c74
      refine x_aload_nP (some x2) d_Cl_act_204 rfl (?_ : WD _ _ 205 _ _ _ _ _ _)
      refine x_sipush d_Cl_act_205 (by decide) (by decide) (?_ : WD _ _ 208 _ _ _ _ _ _)
      refine x_callS (ν := M_Cl_draw) [vA x2, vI 502] ok_M_Cl_draw oks_M_Cl_draw (qm_3 (i := 179) rfl rfl) np_M_Cl_draw rfl ⟨Nat.le_of_ble_eq_true rfl, Nat.le_of_ble_eq_true rfl⟩ (Nat.le_of_ble_eq_true rfl) rfl d_Cl_act_208 (Nat.zero_le _) (Nat.zero_le _) (DI.k h (fun v90 w89 gw89 h => (?_ : WD _ _ 211 _ _ _ _ _ _)))
      refine x_goto 278 d_Cl_act_211 rfl ?_
      refine x_pick (ls' := [(0, vR 0), (1, vA x1), (8, vI v72)]) [1, 2, 0] rfl ?_
      exact h
  · replace h := h.2 c73
    refine x_aload_nP (some x2) d_Cl_act_173 rfl (?_ : WD _ _ 174 _ _ _ _ _ _)
    refine x_bipush d_Cl_act_174 (by decide) (by decide) (?_ : WD _ _ 176 _ _ _ _ _ _)
    refine x_callS (ν := M_Cl_draw) [vA x2, vI 9] ok_M_Cl_draw oks_M_Cl_draw (qm_3 (i := 179) rfl rfl) np_M_Cl_draw rfl ⟨Nat.le_of_ble_eq_true rfl, Nat.le_of_ble_eq_true rfl⟩ (Nat.le_of_ble_eq_true rfl) rfl d_Cl_act_176 (Nat.zero_le _) (Nat.zero_le _) (DI.k h (fun v92 w91 gw91 h => (?_ : WD _ _ 179 _ _ _ _ _ _)))
    refine x_if_ne 186 d_Cl_act_179 rfl ⟨fun c93 => (?_ : WD _ _ 186 _ _ _ _ _ _), fun c93 => (?_ : WD _ _ 182 _ _ _ _ _ _)⟩
    · replace h := h.1 c93
      refine x_iconst d_Cl_act_186 (by decide) (?_ : WD _ _ 187 _ _ _ _ _ _)
      refine x_aload_nP (some x2) d_Cl_act_187 rfl (?_ : WD _ _ 188 _ _ _ _ _ _)
      refine x_sipush d_Cl_act_188 (by decide) (by decide) (?_ : WD _ _ 191 _ _ _ _ _ _)
      refine x_callS (ν := M_Cl_draw) [vA x2, vI 6000] ok_M_Cl_draw oks_M_Cl_draw (qm_3 (i := 179) rfl rfl) np_M_Cl_draw rfl ⟨Nat.le_of_ble_eq_true rfl, Nat.le_of_ble_eq_true rfl⟩ (Nat.le_of_ble_eq_true rfl) rfl d_Cl_act_191 (Nat.zero_le _) (Nat.zero_le _) (DI.k h (fun v95 w94 gw94 h => (?_ : WD _ _ 194 _ _ _ _ _ _)))
      obtain ⟨h96, h⟩ := h
      refine x_iadd d_Cl_act_194 h96 (?_ : WD _ _ 195 _ _ _ _ _ _)
      refine x_goto 278 d_Cl_act_195 rfl ?_
      refine x_pick (ls' := [(0, vR 0), (1, vA x1), (8, vI v72)]) [1, 2, 0] rfl ?_
      exact h
    · replace h := h.2 c93
      refine x_iconst d_Cl_act_182 (by decide) (?_ : WD _ _ 183 _ _ _ _ _ _)
      refine x_goto 278 d_Cl_act_183 rfl ?_
      refine x_pick (ls' := [(0, vR 0), (1, vA x1), (8, vI v72)]) [1, 2, 0] rfl ?_
      exact h
set_option maxRecDepth 20000 in
theorem l_Cl_act_9 {G : Gq} {K : Int → Wd → Prop} {w : Wd} {rc rs : Nat} (x1 : Nat) (x2 : Nat) (x4 : Int) (h : DI G M_Cl_draw [vA x2, vI 30] w 0 0 (fun v98 w97 => (¬ v98 = 0 → DI G M_Cl_draw [vA x2, vI 5] w97 0 0 (fun v101 w100 => WD G M_Cl_act 485 [(0, vR 0), (1, vA x1), (2, vA x2), (4, vI x4)] [vI v101] w100 rc rs (yI K))) ∧ (v98 = 0 → WD G M_Cl_act 485 [(0, vR 0), (1, vA x1), (2, vA x2), (4, vI x4)] [vI 100] w97 rc rs (yI K)))) : WD G M_Cl_act 466 [(0, vR 0), (1, vA x1), (2, vA x2), (4, vI x4)] [] w rc rs (yI K) := by
  refine x_aload_nP (some x2) d_Cl_act_466 rfl (?_ : WD _ _ 467 _ _ _ _ _ _)
  refine x_bipush d_Cl_act_467 (by decide) (by decide) (?_ : WD _ _ 469 _ _ _ _ _ _)
  refine x_callS (ν := M_Cl_draw) [vA x2, vI 30] ok_M_Cl_draw oks_M_Cl_draw (qm_3 (i := 179) rfl rfl) np_M_Cl_draw rfl ⟨Nat.le_of_ble_eq_true rfl, Nat.le_of_ble_eq_true rfl⟩ (Nat.le_of_ble_eq_true rfl) rfl d_Cl_act_469 (Nat.zero_le _) (Nat.zero_le _) (DI.k h (fun v98 w97 gw97 h => (?_ : WD _ _ 472 _ _ _ _ _ _)))
  refine x_if_ne 480 d_Cl_act_472 rfl ⟨fun c99 => (?_ : WD _ _ 480 _ _ _ _ _ _), fun c99 => (?_ : WD _ _ 475 _ _ _ _ _ _)⟩
  · replace h := h.1 c99
    refine x_aload_nP (some x2) d_Cl_act_480 rfl (?_ : WD _ _ 481 _ _ _ _ _ _)
    refine x_iconst d_Cl_act_481 (by decide) (?_ : WD _ _ 482 _ _ _ _ _ _)
    refine x_callS (ν := M_Cl_draw) [vA x2, vI 5] ok_M_Cl_draw oks_M_Cl_draw (qm_3 (i := 179) rfl rfl) np_M_Cl_draw rfl ⟨Nat.le_of_ble_eq_true rfl, Nat.le_of_ble_eq_true rfl⟩ (Nat.le_of_ble_eq_true rfl) rfl d_Cl_act_482 (Nat.zero_le _) (Nat.zero_le _) (DI.k h (fun v101 w100 gw100 h => (?_ : WD _ _ 485 _ _ _ _ _ _)))
    exact h
  · replace h := h.2 c99
    refine x_bipush d_Cl_act_475 (by decide) (by decide) (?_ : WD _ _ 477 _ _ _ _ _ _)
    refine x_goto 485 d_Cl_act_477 rfl ?_
    exact h
set_option maxRecDepth 20000 in
theorem l_Cl_act_15 {G : Gq} {K : Int → Wd → Prop} {w : Wd} {rc rs : Nat} (x1 : Nat) (x2 : Nat) (x5 : Int) (x7 : Option Nat) (h : DI G M_Cl_draw [vA x2, vI 25] w 0 0 (fun v103 w102 => (¬ v103 = 0 → DI G M_Cl_draw [vA x2, vI 300] w102 0 0 (fun v106 w105 => (inR (v106 - 30)) ∧ WD G M_Cl_act 701 [(0, vR 0), (1, vA x1), (5, vI x5), (7, vP x7)] [vI (v106 - 30)] w105 rc rs (yI K))) ∧ (v103 = 0 → WD G M_Cl_act 701 [(0, vR 0), (1, vA x1), (5, vI x5), (7, vP x7)] [vI (-100000)] w102 rc rs (yI K)))) : WD G M_Cl_act 677 [(0, vR 0), (1, vA x1), (2, vA x2), (5, vI x5), (7, vP x7)] [] w rc rs (yI K) := by
  refine x_aload_nP (some x2) d_Cl_act_677 rfl (?_ : WD _ _ 678 _ _ _ _ _ _)
  refine x_bipush d_Cl_act_678 (by decide) (by decide) (?_ : WD _ _ 680 _ _ _ _ _ _)
  refine x_callS (ν := M_Cl_draw) [vA x2, vI 25] ok_M_Cl_draw oks_M_Cl_draw (qm_3 (i := 179) rfl rfl) np_M_Cl_draw rfl ⟨Nat.le_of_ble_eq_true rfl, Nat.le_of_ble_eq_true rfl⟩ (Nat.le_of_ble_eq_true rfl) rfl d_Cl_act_680 (Nat.zero_le _) (Nat.zero_le _) (DI.k h (fun v103 w102 gw102 h => (?_ : WD _ _ 683 _ _ _ _ _ _)))
  refine x_if_ne 691 d_Cl_act_683 rfl ⟨fun c104 => (?_ : WD _ _ 691 _ _ _ _ _ _), fun c104 => (?_ : WD _ _ 686 _ _ _ _ _ _)⟩
  · replace h := h.1 c104
    refine x_aload_nP (some x2) d_Cl_act_691 rfl (?_ : WD _ _ 692 _ _ _ _ _ _)
    refine x_sipush d_Cl_act_692 (by decide) (by decide) (?_ : WD _ _ 695 _ _ _ _ _ _)
    refine x_callS (ν := M_Cl_draw) [vA x2, vI 300] ok_M_Cl_draw oks_M_Cl_draw (qm_3 (i := 179) rfl rfl) np_M_Cl_draw rfl ⟨Nat.le_of_ble_eq_true rfl, Nat.le_of_ble_eq_true rfl⟩ (Nat.le_of_ble_eq_true rfl) rfl d_Cl_act_695 (Nat.zero_le _) (Nat.zero_le _) (DI.k h (fun v106 w105 gw105 h => (?_ : WD _ _ 698 _ _ _ _ _ _)))
    refine x_bipush d_Cl_act_698 (by decide) (by decide) (?_ : WD _ _ 700 _ _ _ _ _ _)
    obtain ⟨h107, h⟩ := h
    refine x_isub d_Cl_act_700 h107 (?_ : WD _ _ 701 _ _ _ _ _ _)
    refine x_pick (ls' := [(0, vR 0), (1, vA x1), (5, vI x5), (7, vP x7)]) [0, 1, 3, 4] rfl ?_
    exact h
  · replace h := h.2 c104
    refine x_ldc (-100000) d_Cl_act_686 (qm_5 (i := 162) rfl rfl) (by decide) (by decide) (?_ : WD _ _ 688 _ _ _ _ _ _)
    refine x_goto 701 d_Cl_act_688 rfl ?_
    refine x_pick (ls' := [(0, vR 0), (1, vA x1), (5, vI x5), (7, vP x7)]) [0, 1, 3, 4] rfl ?_
    exact h
set_option maxRecDepth 20000 in
theorem l_Cl_act_18 {G : Gq} {K : Int → Wd → Prop} {w : Wd} {rc rs : Nat} (x2 : Nat) (x5 : Int) (x7 : Option Nat) (h : (x7 = none → DI G M_Cl_draw [vA x2, vI 3] w 0 0 (fun v111 w110 => (inR (v111 - 1)) ∧ WD G M_Cl_act 902 [(0, vR 0), (5, vI x5), (7, vP none)] [vI (v111 - 1)] w110 rc rs (yI K))) ∧ (∀ a108 : Nat, x7 = some a108 → (Is G w a108 (kO 13)) ∧ (1 ≤ (wI w a108 2) → DI G M_Cl_draw [vA x2, vI 25] w 0 0 (fun v116 w115 => (¬ v116 = 0 → DI G M_Cl_draw [vA x2, vI 4] w115 0 0 (fun v119 w118 => (¬ v119 = 0 → DI G M_Cl_draw [vA x2, vI 3] w118 0 0 (fun v122 w121 => (¬ v122 = 0 → (0 ≤ (wI w121 a108 2)) ∧ (inR (1 + ((wI w121 a108 2) / 2))) ∧ DI G M_Cl_draw [vA x2, vI (1 + ((wI w121 a108 2) / 2))] w121 0 0 (fun v127 w126 => (inR ((wI w121 a108 2) - v127)) ∧ WD G M_Cl_act 902 [(0, vR 0), (5, vI x5), (7, vP (some a108))] [vI ((wI w121 a108 2) - v127)] w126 rc rs (yI K))) ∧ (v122 = 0 → (0 ≤ (wI w121 a108 2)) ∧ (inR (1 + ((wI w121 a108 2) / 3))) ∧ DI G M_Cl_draw [vA x2, vI (1 + ((wI w121 a108 2) / 3))] w121 0 0 (fun v132 w131 => (inR ((wI w121 a108 2) + v132)) ∧ WD G M_Cl_act 902 [(0, vR 0), (5, vI x5), (7, vP (some a108))] [vI ((wI w121 a108 2) + v132)] w131 rc rs (yI K))))) ∧ (v119 = 0 → WD G M_Cl_act 902 [(0, vR 0), (5, vI x5), (7, vP (some a108))] [vI (wI w118 a108 2)] w118 rc rs (yI K)))) ∧ (v116 = 0 → (inR (2 * (wI w115 a108 2))) ∧ (inR ((2 * (wI w115 a108 2)) + 1)) ∧ WD G M_Cl_act 902 [(0, vR 0), (5, vI x5), (7, vP (some a108))] [vI ((2 * (wI w115 a108 2)) + 1)] w115 rc rs (yI K)))) ∧ (¬ 1 ≤ (wI w a108 2) → DI G M_Cl_draw [vA x2, vI 3] w 0 0 (fun v137 w136 => (inR (v137 - 1)) ∧ WD G M_Cl_act 902 [(0, vR 0), (5, vI x5), (7, vP (some a108))] [vI (v137 - 1)] w136 rc rs (yI K))))) : WD G M_Cl_act 792 [(0, vR 0), (2, vA x2), (5, vI x5), (7, vP x7)] [] w rc rs (yI K) := by
  refine x_aloadP x7 d_Cl_act_792 rfl (?_ : WD _ _ 794 _ _ _ _ _ _)
  refine x_ifnull 806 d_Cl_act_794 rfl ⟨fun e109 => (?_ : WD _ _ 806 _ _ _ _ _ _), fun a108 e109 => (?_ : WD _ _ 797 _ _ _ _ _ _)⟩
  · replace h := h.1 e109
    rw [e109]
    refine x_aload_nP (some x2) d_Cl_act_806 rfl (?_ : WD _ _ 807 _ _ _ _ _ _)
    refine x_iconst d_Cl_act_807 (by decide) (?_ : WD _ _ 808 _ _ _ _ _ _)
    refine x_callS (ν := M_Cl_draw) [vA x2, vI 3] ok_M_Cl_draw oks_M_Cl_draw (qm_3 (i := 179) rfl rfl) np_M_Cl_draw rfl ⟨Nat.le_of_ble_eq_true rfl, Nat.le_of_ble_eq_true rfl⟩ (Nat.le_of_ble_eq_true rfl) rfl d_Cl_act_808 (Nat.zero_le _) (Nat.zero_le _) (DI.k h (fun v111 w110 gw110 h => (?_ : WD _ _ 811 _ _ _ _ _ _)))
    refine x_iconst d_Cl_act_811 (by decide) (?_ : WD _ _ 812 _ _ _ _ _ _)
    obtain ⟨h112, h⟩ := h
    refine x_isub d_Cl_act_812 h112 (?_ : WD _ _ 813 _ _ _ _ _ _)
    refine x_goto 902 d_Cl_act_813 rfl ?_
    refine x_pick (ls' := [(0, vR 0), (5, vI x5), (7, vP none)]) [0, 2, 3] rfl ?_
    exact h
  · replace h := h.2 a108 e109
    rw [e109]
    refine x_aloadP (some a108) d_Cl_act_797 rfl (?_ : WD _ _ 799 _ _ _ _ _ _)
    obtain ⟨k113, h⟩ := h
    refine x_getI (ref := "CoinSamplerLaw$Item") (j := 2) 2 k113 clk_13 (by decide) (qm_4 (i := 157) rfl rfl) (Or.inl rfl) rfl rfl d_Cl_act_799 (y := (wI w a108 2)) rfl (?_ : WD _ _ 802 _ _ _ _ _ _)
    refine x_iconst d_Cl_act_802 (by decide) (?_ : WD _ _ 803 _ _ _ _ _ _)
    refine x_icmp_ge 816 d_Cl_act_803 rfl ⟨fun c114 => (?_ : WD _ _ 816 _ _ _ _ _ _), fun c114 => (?_ : WD _ _ 806 _ _ _ _ _ _)⟩
    · replace h := h.1 c114
      refine x_aload_nP (some x2) d_Cl_act_816 rfl (?_ : WD _ _ 817 _ _ _ _ _ _)
      refine x_bipush d_Cl_act_817 (by decide) (by decide) (?_ : WD _ _ 819 _ _ _ _ _ _)
      refine x_callS (ν := M_Cl_draw) [vA x2, vI 25] ok_M_Cl_draw oks_M_Cl_draw (qm_3 (i := 179) rfl rfl) np_M_Cl_draw rfl ⟨Nat.le_of_ble_eq_true rfl, Nat.le_of_ble_eq_true rfl⟩ (Nat.le_of_ble_eq_true rfl) rfl d_Cl_act_819 (Nat.zero_le _) (Nat.zero_le _) (DI.k h (fun v116 w115 gw115 h => (?_ : WD _ _ 822 _ _ _ _ _ _)))
      refine x_if_ne 837 d_Cl_act_822 rfl ⟨fun c117 => (?_ : WD _ _ 837 _ _ _ _ _ _), fun c117 => (?_ : WD _ _ 825 _ _ _ _ _ _)⟩
      · replace h := h.1 c117
        refine x_aload_nP (some x2) d_Cl_act_837 rfl (?_ : WD _ _ 838 _ _ _ _ _ _)
        refine x_iconst d_Cl_act_838 (by decide) (?_ : WD _ _ 839 _ _ _ _ _ _)
        refine x_callS (ν := M_Cl_draw) [vA x2, vI 4] ok_M_Cl_draw oks_M_Cl_draw (qm_3 (i := 179) rfl rfl) np_M_Cl_draw rfl ⟨Nat.le_of_ble_eq_true rfl, Nat.le_of_ble_eq_true rfl⟩ (Nat.le_of_ble_eq_true rfl) rfl d_Cl_act_839 (Nat.zero_le _) (Nat.zero_le _) (DI.k h (fun v119 w118 gw118 h => (?_ : WD _ _ 842 _ _ _ _ _ _)))
        refine x_if_ne 853 d_Cl_act_842 rfl ⟨fun c120 => (?_ : WD _ _ 853 _ _ _ _ _ _), fun c120 => (?_ : WD _ _ 845 _ _ _ _ _ _)⟩
        · replace h := h.1 c120
          refine x_aload_nP (some x2) d_Cl_act_853 rfl (?_ : WD _ _ 854 _ _ _ _ _ _)
          refine x_iconst d_Cl_act_854 (by decide) (?_ : WD _ _ 855 _ _ _ _ _ _)
          refine x_callS (ν := M_Cl_draw) [vA x2, vI 3] ok_M_Cl_draw oks_M_Cl_draw (qm_3 (i := 179) rfl rfl) np_M_Cl_draw rfl ⟨Nat.le_of_ble_eq_true rfl, Nat.le_of_ble_eq_true rfl⟩ (Nat.le_of_ble_eq_true rfl) rfl d_Cl_act_855 (Nat.zero_le _) (Nat.zero_le _) (DI.k h (fun v122 w121 gw121 h => (?_ : WD _ _ 858 _ _ _ _ _ _)))
          refine x_if_ne 883 d_Cl_act_858 rfl ⟨fun c123 => (?_ : WD _ _ 883 _ _ _ _ _ _), fun c123 => (?_ : WD _ _ 861 _ _ _ _ _ _)⟩
          · replace h := h.1 c123
            refine x_aloadP (some a108) d_Cl_act_883 rfl (?_ : WD _ _ 885 _ _ _ _ _ _)
            refine x_getI (ref := "CoinSamplerLaw$Item") (j := 2) 2 (((k113.q gw115.k).q gw118.k).q gw121.k) clk_13 (by decide) (qm_4 (i := 157) rfl rfl) (Or.inl rfl) rfl rfl d_Cl_act_885 (y := (wI w121 a108 2)) rfl (?_ : WD _ _ 888 _ _ _ _ _ _)
            refine x_aload_nP (some x2) d_Cl_act_888 rfl (?_ : WD _ _ 889 _ _ _ _ _ _)
            refine x_iconst d_Cl_act_889 (by decide) (?_ : WD _ _ 890 _ _ _ _ _ _)
            refine x_aloadP (some a108) d_Cl_act_890 rfl (?_ : WD _ _ 892 _ _ _ _ _ _)
            refine x_getI (ref := "CoinSamplerLaw$Item") (j := 2) 2 (((k113.q gw115.k).q gw118.k).q gw121.k) clk_13 (by decide) (qm_4 (i := 157) rfl rfl) (Or.inl rfl) rfl rfl d_Cl_act_892 (y := (wI w121 a108 2)) rfl (?_ : WD _ _ 895 _ _ _ _ _ _)
            refine x_iconst d_Cl_act_895 (by decide) (?_ : WD _ _ 896 _ _ _ _ _ _)
            obtain ⟨h124, h⟩ := h
            refine x_idivn d_Cl_act_896 h124 (by decide) (?_ : WD _ _ 897 _ _ _ _ _ _)
            obtain ⟨h125, h⟩ := h
            refine x_iadd d_Cl_act_897 h125 (?_ : WD _ _ 898 _ _ _ _ _ _)
            refine x_callS (ν := M_Cl_draw) [vA x2, vI (1 + ((wI w121 a108 2) / 2))] ok_M_Cl_draw oks_M_Cl_draw (qm_3 (i := 179) rfl rfl) np_M_Cl_draw rfl ⟨Nat.le_of_ble_eq_true rfl, Nat.le_of_ble_eq_true rfl⟩ (Nat.le_of_ble_eq_true rfl) rfl d_Cl_act_898 (Nat.zero_le _) (Nat.zero_le _) (DI.k h (fun v127 w126 gw126 h => (?_ : WD _ _ 901 _ _ _ _ _ _)))
            obtain ⟨h128, h⟩ := h
            refine x_isub d_Cl_act_901 h128 (?_ : WD _ _ 902 _ _ _ _ _ _)
            refine x_pick (ls' := [(0, vR 0), (5, vI x5), (7, vP (some a108))]) [0, 2, 3] rfl ?_
            exact h
          · replace h := h.2 c123
            refine x_aloadP (some a108) d_Cl_act_861 rfl (?_ : WD _ _ 863 _ _ _ _ _ _)
            refine x_getI (ref := "CoinSamplerLaw$Item") (j := 2) 2 (((k113.q gw115.k).q gw118.k).q gw121.k) clk_13 (by decide) (qm_4 (i := 157) rfl rfl) (Or.inl rfl) rfl rfl d_Cl_act_863 (y := (wI w121 a108 2)) rfl (?_ : WD _ _ 866 _ _ _ _ _ _)
            refine x_aload_nP (some x2) d_Cl_act_866 rfl (?_ : WD _ _ 867 _ _ _ _ _ _)
            refine x_iconst d_Cl_act_867 (by decide) (?_ : WD _ _ 868 _ _ _ _ _ _)
            refine x_aloadP (some a108) d_Cl_act_868 rfl (?_ : WD _ _ 870 _ _ _ _ _ _)
            refine x_getI (ref := "CoinSamplerLaw$Item") (j := 2) 2 (((k113.q gw115.k).q gw118.k).q gw121.k) clk_13 (by decide) (qm_4 (i := 157) rfl rfl) (Or.inl rfl) rfl rfl d_Cl_act_870 (y := (wI w121 a108 2)) rfl (?_ : WD _ _ 873 _ _ _ _ _ _)
            refine x_iconst d_Cl_act_873 (by decide) (?_ : WD _ _ 874 _ _ _ _ _ _)
            obtain ⟨h129, h⟩ := h
            refine x_idivn d_Cl_act_874 h129 (by decide) (?_ : WD _ _ 875 _ _ _ _ _ _)
            obtain ⟨h130, h⟩ := h
            refine x_iadd d_Cl_act_875 h130 (?_ : WD _ _ 876 _ _ _ _ _ _)
            refine x_callS (ν := M_Cl_draw) [vA x2, vI (1 + ((wI w121 a108 2) / 3))] ok_M_Cl_draw oks_M_Cl_draw (qm_3 (i := 179) rfl rfl) np_M_Cl_draw rfl ⟨Nat.le_of_ble_eq_true rfl, Nat.le_of_ble_eq_true rfl⟩ (Nat.le_of_ble_eq_true rfl) rfl d_Cl_act_876 (Nat.zero_le _) (Nat.zero_le _) (DI.k h (fun v132 w131 gw131 h => (?_ : WD _ _ 879 _ _ _ _ _ _)))
            obtain ⟨h133, h⟩ := h
            refine x_iadd d_Cl_act_879 h133 (?_ : WD _ _ 880 _ _ _ _ _ _)
            refine x_goto 902 d_Cl_act_880 rfl ?_
            refine x_pick (ls' := [(0, vR 0), (5, vI x5), (7, vP (some a108))]) [0, 2, 3] rfl ?_
            exact h
        · replace h := h.2 c120
          refine x_aloadP (some a108) d_Cl_act_845 rfl (?_ : WD _ _ 847 _ _ _ _ _ _)
          refine x_getI (ref := "CoinSamplerLaw$Item") (j := 2) 2 ((k113.q gw115.k).q gw118.k) clk_13 (by decide) (qm_4 (i := 157) rfl rfl) (Or.inl rfl) rfl rfl d_Cl_act_847 (y := (wI w118 a108 2)) rfl (?_ : WD _ _ 850 _ _ _ _ _ _)
          refine x_goto 902 d_Cl_act_850 rfl ?_
          refine x_pick (ls' := [(0, vR 0), (5, vI x5), (7, vP (some a108))]) [0, 2, 3] rfl ?_
          exact h
      · replace h := h.2 c117
        refine x_iconst d_Cl_act_825 (by decide) (?_ : WD _ _ 826 _ _ _ _ _ _)
        refine x_aloadP (some a108) d_Cl_act_826 rfl (?_ : WD _ _ 828 _ _ _ _ _ _)
        refine x_getI (ref := "CoinSamplerLaw$Item") (j := 2) 2 (k113.q gw115.k) clk_13 (by decide) (qm_4 (i := 157) rfl rfl) (Or.inl rfl) rfl rfl d_Cl_act_828 (y := (wI w115 a108 2)) rfl (?_ : WD _ _ 831 _ _ _ _ _ _)
        obtain ⟨h134, h⟩ := h
        refine x_imul d_Cl_act_831 h134 (?_ : WD _ _ 832 _ _ _ _ _ _)
        refine x_iconst d_Cl_act_832 (by decide) (?_ : WD _ _ 833 _ _ _ _ _ _)
        obtain ⟨h135, h⟩ := h
        refine x_iadd d_Cl_act_833 h135 (?_ : WD _ _ 834 _ _ _ _ _ _)
        refine x_goto 902 d_Cl_act_834 rfl ?_
        refine x_pick (ls' := [(0, vR 0), (5, vI x5), (7, vP (some a108))]) [0, 2, 3] rfl ?_
        exact h
    · replace h := h.2 c114
      refine x_aload_nP (some x2) d_Cl_act_806 rfl (?_ : WD _ _ 807 _ _ _ _ _ _)
      refine x_iconst d_Cl_act_807 (by decide) (?_ : WD _ _ 808 _ _ _ _ _ _)
      refine x_callS (ν := M_Cl_draw) [vA x2, vI 3] ok_M_Cl_draw oks_M_Cl_draw (qm_3 (i := 179) rfl rfl) np_M_Cl_draw rfl ⟨Nat.le_of_ble_eq_true rfl, Nat.le_of_ble_eq_true rfl⟩ (Nat.le_of_ble_eq_true rfl) rfl d_Cl_act_808 (Nat.zero_le _) (Nat.zero_le _) (DI.k h (fun v137 w136 gw136 h => (?_ : WD _ _ 811 _ _ _ _ _ _)))
      refine x_iconst d_Cl_act_811 (by decide) (?_ : WD _ _ 812 _ _ _ _ _ _)
      obtain ⟨h138, h⟩ := h
      refine x_isub d_Cl_act_812 h138 (?_ : WD _ _ 813 _ _ _ _ _ _)
      refine x_goto 902 d_Cl_act_813 rfl ?_
      refine x_pick (ls' := [(0, vR 0), (5, vI x5), (7, vP (some a108))]) [0, 2, 3] rfl ?_
      exact h
set_option maxRecDepth 20000 in
theorem l_Cl_act_22 {G : Gq} {K : Int → Wd → Prop} {w : Wd} {rc rs : Nat} (x5 : Int) (x7 : Option Nat) (h : (x7 = none → CI M_Cs_forget [vR 0, vI x5] (wS w) (fun v141 σ142 => (¬ v141 = (-2) → K 0 (uS w σ142)) ∧ (v141 = (-2) → K 1 (uS w σ142)))) ∧ (∀ a139 : Nat, x7 = some a139 → (Is G w a139 (kO 13)) ∧ (Ow w a139 (kO 13)) ∧ CI M_Cs_forget [vR 0, vI x5] (wS (uI w a139 3 (-1))) (fun v146 σ147 => (¬ v146 = (wI w a139 3) → K 0 (uS (uI w a139 3 (-1)) σ147)) ∧ (v146 = (wI w a139 3) → K 1 (uS (uI w a139 3 (-1)) σ147))))) : WD G M_Cl_act 999 [(0, vR 0), (5, vI x5), (7, vP x7)] [] w rc rs (yI K) := by
  refine x_aloadP x7 d_Cl_act_999 rfl (?_ : WD _ _ 1001 _ _ _ _ _ _)
  refine x_ifnonnull 1009 d_Cl_act_1001 rfl ⟨fun e140 => (?_ : WD _ _ 1004 _ _ _ _ _ _), fun a139 e140 => (?_ : WD _ _ 1009 _ _ _ _ _ _)⟩
  · replace h := h.1 e140
    rw [e140]
    refine x_bipush d_Cl_act_1004 (by decide) (by decide) (?_ : WD _ _ 1006 _ _ _ _ _ _)
    refine x_goto 1014 d_Cl_act_1006 rfl ?_
    refine x_istore (ls' := [(6, vI (-2)), (0, vR 0), (5, vI x5), (7, vP none)]) d_Cl_act_1014 (by decide) rfl (?_ : WD _ _ 1016 _ _ _ _ _ _)
    refine x_aloadP none d_Cl_act_1016 rfl (?_ : WD _ _ 1018 _ _ _ _ _ _)
    refine x_ifnull (r := none) 1027 d_Cl_act_1018 rfl ⟨fun _ => (?_ : WD _ _ 1027 _ _ _ _ _ _), fun _ hz => absurd hz (by simp)⟩
    refine x_aload_n d_Cl_act_1027 rfl (?_ : WD _ _ 1028 _ _ _ _ _ _)
    refine x_iload d_Cl_act_1028 rfl (?_ : WD _ _ 1030 _ _ _ _ _ _)
    refine x_callC (ν := M_Cs_forget) (k := 0) [vI x5] ok_M_Cs_forget okv_M_Cs_forget (by decide) rfl rfl rfl (qm_5 (i := 176) rfl rfl) np_M_Cs_forget rfl ⟨Nat.le_of_ble_eq_true rfl, Nat.le_of_ble_eq_true rfl⟩ (Nat.le_of_ble_eq_true rfl) rfl d_Cl_act_1030 (CI.kd h (fun v141 σ142 h => (?_ : WD _ _ 1033 _ _ _ _ _ _)))
    refine x_iload d_Cl_act_1033 rfl (?_ : WD _ _ 1035 _ _ _ _ _ _)
    refine x_icmp_ne 1042 d_Cl_act_1035 rfl ⟨fun c143 => (?_ : WD _ _ 1042 _ _ _ _ _ _), fun c143 => (?_ : WD _ _ 1038 _ _ _ _ _ _)⟩
    · replace h := h.1 c143
      refine x_iconst d_Cl_act_1042 (by decide) (?_ : WD _ _ 1043 _ _ _ _ _ _)
      exact x_zreturn rfl d_Cl_act_1043 (by decide) h
    · replace h := h.2 c143
      refine x_iconst d_Cl_act_1038 (by decide) (?_ : WD _ _ 1039 _ _ _ _ _ _)
      refine x_goto 1043 d_Cl_act_1039 rfl ?_
      exact x_zreturn rfl d_Cl_act_1043 (by decide) h
  · replace h := h.2 a139 e140
    rw [e140]
    refine x_aloadP (some a139) d_Cl_act_1009 rfl (?_ : WD _ _ 1011 _ _ _ _ _ _)
    obtain ⟨k144, h⟩ := h
    refine x_getI (ref := "CoinSamplerLaw$Item") (j := 3) 3 k144 clk_13 (by decide) (qm_4 (i := 159) rfl rfl) (Or.inl rfl) rfl rfl d_Cl_act_1011 (y := (wI w a139 3)) rfl (?_ : WD _ _ 1014 _ _ _ _ _ _)
    refine x_istore (ls' := [(6, vI (wI w a139 3)), (0, vR 0), (5, vI x5), (7, vA a139)]) d_Cl_act_1014 (by decide) rfl (?_ : WD _ _ 1016 _ _ _ _ _ _)
    refine x_aloadP (some a139) d_Cl_act_1016 rfl (?_ : WD _ _ 1018 _ _ _ _ _ _)
    refine x_ifnull (r := some a139) 1027 d_Cl_act_1018 rfl ⟨fun hz => absurd hz (by simp), fun _ _ => (?_ : WD _ _ 1021 _ _ _ _ _ _)⟩
    refine x_aloadP (some a139) d_Cl_act_1021 rfl (?_ : WD _ _ 1023 _ _ _ _ _ _)
    refine x_iconst d_Cl_act_1023 (by decide) (?_ : WD _ _ 1024 _ _ _ _ _ _)
    obtain ⟨k145, h⟩ := h
    refine x_putI (ref := "CoinSamplerLaw$Item") (j := 3) 3 k145 clk_13 (by decide) (qm_4 (i := 159) rfl rfl) (Or.inl rfl) (Or.inl rfl) tyX13_ok rfl nmX13 d_Cl_act_1024 rfl rfl (fun _ => rfl) rfl (?_ : WD _ _ 1027 _ _ _ _ _ _)
    refine x_aload_n d_Cl_act_1027 rfl (?_ : WD _ _ 1028 _ _ _ _ _ _)
    refine x_iload d_Cl_act_1028 rfl (?_ : WD _ _ 1030 _ _ _ _ _ _)
    refine x_callC (ν := M_Cs_forget) (k := 0) [vI x5] ok_M_Cs_forget okv_M_Cs_forget (by decide) rfl rfl rfl (qm_5 (i := 176) rfl rfl) np_M_Cs_forget rfl ⟨Nat.le_of_ble_eq_true rfl, Nat.le_of_ble_eq_true rfl⟩ (Nat.le_of_ble_eq_true rfl) rfl d_Cl_act_1030 (CI.kd h (fun v146 σ147 h => (?_ : WD _ _ 1033 _ _ _ _ _ _)))
    refine x_iload d_Cl_act_1033 rfl (?_ : WD _ _ 1035 _ _ _ _ _ _)
    refine x_icmp_ne 1042 d_Cl_act_1035 rfl ⟨fun c148 => (?_ : WD _ _ 1042 _ _ _ _ _ _), fun c148 => (?_ : WD _ _ 1038 _ _ _ _ _ _)⟩
    · replace h := h.1 c148
      refine x_iconst d_Cl_act_1042 (by decide) (?_ : WD _ _ 1043 _ _ _ _ _ _)
      exact x_zreturn rfl d_Cl_act_1043 (by decide) h
    · replace h := h.2 c148
      refine x_iconst d_Cl_act_1038 (by decide) (?_ : WD _ _ 1039 _ _ _ _ _ _)
      refine x_goto 1043 d_Cl_act_1039 rfl ?_
      exact x_zreturn rfl d_Cl_act_1043 (by decide) h
set_option maxRecDepth 20000 in
theorem l_Cl_act_23 {G : Gq} {K : Int → Wd → Prop} {w : Wd} {rc rs : Nat} (x1 : Nat) (x2 : Nat) (h : DI G M_Cl_draw [vA x2, vI 20] w 0 0 (fun v150 w149 => (¬ v150 = 0 → DI G M_Cl_draw [vA x2, vI 4] w149 0 0 (fun v153 w152 => (¬ v153 = 0 → DI G M_Cl_draw [vA x2, vI 400] w152 0 0 (fun v156 w155 => (inR (1 + v156)) ∧ WD G M_Cl_act 1091 [(0, vR 0), (1, vA x1)] [vI (1 + v156)] w155 rc rs (yI K))) ∧ (v153 = 0 → DI G M_Cl_draw [vA x2, vI 4] w152 0 0 (fun v159 w158 => (inR (1 + v159)) ∧ WD G M_Cl_act 1091 [(0, vR 0), (1, vA x1)] [vI (1 + v159)] w158 rc rs (yI K))))) ∧ (v150 = 0 → DI G M_Cl_draw [vA x2, vI 2] w149 0 0 (fun v162 w161 => (inR (100000 * v162)) ∧ WD G M_Cl_act 1091 [(0, vR 0), (1, vA x1)] [vI (100000 * v162)] w161 rc rs (yI K))))) : WD G M_Cl_act 1050 [(0, vR 0), (1, vA x1), (2, vA x2)] [] w rc rs (yI K) := by
  refine x_aload_nP (some x2) d_Cl_act_1050 rfl (?_ : WD _ _ 1051 _ _ _ _ _ _)
  refine x_bipush d_Cl_act_1051 (by decide) (by decide) (?_ : WD _ _ 1053 _ _ _ _ _ _)
  refine x_callS (ν := M_Cl_draw) [vA x2, vI 20] ok_M_Cl_draw oks_M_Cl_draw (qm_3 (i := 179) rfl rfl) np_M_Cl_draw rfl ⟨Nat.le_of_ble_eq_true rfl, Nat.le_of_ble_eq_true rfl⟩ (Nat.le_of_ble_eq_true rfl) rfl d_Cl_act_1053 (Nat.zero_le _) (Nat.zero_le _) (DI.k h (fun v150 w149 gw149 h => (?_ : WD _ _ 1056 _ _ _ _ _ _)))
  refine x_if_ne 1070 d_Cl_act_1056 rfl ⟨fun c151 => (?_ : WD _ _ 1070 _ _ _ _ _ _), fun c151 => (?_ : WD _ _ 1059 _ _ _ _ _ _)⟩
  · replace h := h.1 c151
    refine x_iconst d_Cl_act_1070 (by decide) (?_ : WD _ _ 1071 _ _ _ _ _ _)
    refine x_aload_nP (some x2) d_Cl_act_1071 rfl (?_ : WD _ _ 1072 _ _ _ _ _ _)
    refine x_aload_nP (some x2) d_Cl_act_1072 rfl (?_ : WD _ _ 1073 _ _ _ _ _ _)
    refine x_iconst d_Cl_act_1073 (by decide) (?_ : WD _ _ 1074 _ _ _ _ _ _)
    refine x_callS (ν := M_Cl_draw) [vA x2, vI 4] ok_M_Cl_draw oks_M_Cl_draw (qm_3 (i := 179) rfl rfl) np_M_Cl_draw rfl ⟨Nat.le_of_ble_eq_true rfl, Nat.le_of_ble_eq_true rfl⟩ (Nat.le_of_ble_eq_true rfl) rfl d_Cl_act_1074 (Nat.zero_le _) (Nat.zero_le _) (DI.k h (fun v153 w152 gw152 h => (?_ : WD _ _ 1077 _ _ _ _ _ _)))
    refine x_if_ne 1084 d_Cl_act_1077 rfl ⟨fun c154 => (?_ : WD _ _ 1084 _ _ _ _ _ _), fun c154 => (?_ : WD _ _ 1080 _ _ _ _ _ _)⟩
    · replace h := h.1 c154
      refine x_sipush d_Cl_act_1084 (by decide) (by decide) (?_ : WD _ _ 1087 _ _ _ _ _ _)
      refine x_callS (ν := M_Cl_draw) [vA x2, vI 400] ok_M_Cl_draw oks_M_Cl_draw (qm_3 (i := 179) rfl rfl) np_M_Cl_draw rfl ⟨Nat.le_of_ble_eq_true rfl, Nat.le_of_ble_eq_true rfl⟩ (Nat.le_of_ble_eq_true rfl) rfl d_Cl_act_1087 (Nat.zero_le _) (Nat.zero_le _) (DI.k h (fun v156 w155 gw155 h => (?_ : WD _ _ 1090 _ _ _ _ _ _)))
      obtain ⟨h157, h⟩ := h
      refine x_iadd d_Cl_act_1090 h157 (?_ : WD _ _ 1091 _ _ _ _ _ _)
      refine x_pick (ls' := [(0, vR 0), (1, vA x1)]) [0, 1] rfl ?_
      exact h
    · replace h := h.2 c154
      refine x_iconst d_Cl_act_1080 (by decide) (?_ : WD _ _ 1081 _ _ _ _ _ _)
      refine x_goto 1087 d_Cl_act_1081 rfl ?_
      refine x_callS (ν := M_Cl_draw) [vA x2, vI 4] ok_M_Cl_draw oks_M_Cl_draw (qm_3 (i := 179) rfl rfl) np_M_Cl_draw rfl ⟨Nat.le_of_ble_eq_true rfl, Nat.le_of_ble_eq_true rfl⟩ (Nat.le_of_ble_eq_true rfl) rfl d_Cl_act_1087 (Nat.zero_le _) (Nat.zero_le _) (DI.k h (fun v159 w158 gw158 h => (?_ : WD _ _ 1090 _ _ _ _ _ _)))
      obtain ⟨h160, h⟩ := h
      refine x_iadd d_Cl_act_1090 h160 (?_ : WD _ _ 1091 _ _ _ _ _ _)
      refine x_pick (ls' := [(0, vR 0), (1, vA x1)]) [0, 1] rfl ?_
      exact h
  · replace h := h.2 c151
    refine x_ldc 100000 d_Cl_act_1059 (qm_5 (i := 148) rfl rfl) (by decide) (by decide) (?_ : WD _ _ 1061 _ _ _ _ _ _)
    refine x_aload_nP (some x2) d_Cl_act_1061 rfl (?_ : WD _ _ 1062 _ _ _ _ _ _)
    refine x_iconst d_Cl_act_1062 (by decide) (?_ : WD _ _ 1063 _ _ _ _ _ _)
    refine x_callS (ν := M_Cl_draw) [vA x2, vI 2] ok_M_Cl_draw oks_M_Cl_draw (qm_3 (i := 179) rfl rfl) np_M_Cl_draw rfl ⟨Nat.le_of_ble_eq_true rfl, Nat.le_of_ble_eq_true rfl⟩ (Nat.le_of_ble_eq_true rfl) rfl d_Cl_act_1063 (Nat.zero_le _) (Nat.zero_le _) (DI.k h (fun v162 w161 gw161 h => (?_ : WD _ _ 1066 _ _ _ _ _ _)))
    obtain ⟨h163, h⟩ := h
    refine x_imul d_Cl_act_1066 h163 (?_ : WD _ _ 1067 _ _ _ _ _ _)
    refine x_goto 1091 d_Cl_act_1067 rfl ?_
    refine x_pick (ls' := [(0, vR 0), (1, vA x1)]) [0, 1] rfl ?_
    exact h
set_option maxRecDepth 20000 in
theorem l_Cl_act_27 {G : Gq} {K : Int → Wd → Prop} {w : Wd} {rc rs : Nat} (x1 : Nat) (h : (Is G w x1 (kO 11)) ∧ ∃ a165 : Nat, (wR w x1 2) = some a165 ∧ (∃ n167 : Nat, ((Is G w a165 (kA 0 n167)) ∧ (0 < (n167 : Int)) ∧ ∃ a170 : Nat, (wR w x1 2) = some a170 ∧ (∃ n172 : Nat, ((Is G w a170 (kA 0 n172)) ∧ (2 < (n172 : Int)) ∧ ∃ c175 s176 : Nat, c175 ≤ rc ∧ s176 ≤ rs ∧ (DI G M_Bo_size [vA x1, vI (wI w a165 0), vI (wI w a170 2)] w c175 s176 (fun v180 w179 => (0 ≤ v180 → ∃ c182 s183 : Nat, c182 ≤ (rc - c175) ∧ s183 ≤ (rs - s176) ∧ (DI G M_Bo_allCoins [vA x1] w179 c182 s183 (fun v187 w186 => (v187 = 0 → CI M_Cs_plan [vR 0] (wS w186) (fun v189 σ190 => (¬ v189 = (-5) → K 0 (uS w186 σ190)) ∧ (v189 = (-5) → K 1 (uS w186 σ190)))) ∧ (¬ v187 = 0 → ∃ a192 : Nat, (wR w186 x1 1) = some a192 ∧ ((Is G w186 a192 (kO 14)) ∧ DI G M_Al_isEmpty [vA a192] w186 0 0 (fun v196 w195 => (¬ v196 = 0 → (v180 ≤ 0 → CI M_Cs_plan [vR 0] (wS w195) (fun v199 σ200 => (¬ v199 = v180 → K 0 (uS w195 σ200)) ∧ (v199 = v180 → K 1 (uS w195 σ200)))) ∧ (¬ v180 ≤ 0 → ∃ c202 s203 : Nat, c202 ≤ ((rc - c175) - c182) ∧ s203 ≤ ((rs - s176) - s183) ∧ (DI G M_Bo_allCoins [vA x1] w195 c202 s203 (fun v207 w206 => (0 ≤ v207) ∧ (0 < v180) ∧ DI G M_Ma_max [vI 1, vI (v207 / v180)] w206 0 0 (fun v211 w210 => (Ow w210 x1 (kO 11)) ∧ CI M_Cs_plan [vR 0] (wS (uI w210 x1 3 v211)) (fun v213 σ214 => (¬ v213 = v180 → K 0 (uS (uI w210 x1 3 v211) σ214)) ∧ (v213 = v180 → K 1 (uS (uI w210 x1 3 v211) σ214)))))))) ∧ (v196 = 0 → CI M_Cs_plan [vR 0] (wS w195) (fun v216 σ217 => (¬ v216 = (-5) → K 0 (uS w195 σ217)) ∧ (v216 = (-5) → K 1 (uS w195 σ217)))))))))) ∧ (¬ 0 ≤ v180 → CI M_Cs_plan [vR 0] (wS w179) (fun v219 σ220 => (¬ v219 = (-4) → K 0 (uS w179 σ220)) ∧ (v219 = (-4) → K 1 (uS w179 σ220))))))))))) : WD G M_Cl_act 1216 [(0, vR 0), (1, vA x1)] [] w rc rs (yI K) := by
  refine x_aload_nP (some x1) d_Cl_act_1216 rfl (?_ : WD _ _ 1217 _ _ _ _ _ _)
  refine x_aload_nP (some x1) d_Cl_act_1217 rfl (?_ : WD _ _ 1218 _ _ _ _ _ _)
  obtain ⟨k164, h⟩ := h
  refine x_getP (ref := "CoinSamplerLaw$Books") (j := 2) 2 k164 clk_11 (by decide) (qm_2 (i := 160) rfl rfl) (Or.inl rfl) rfl rfl d_Cl_act_1218 (y := (wR w x1 2)) rfl (?_ : WD _ _ 1221 _ _ _ _ _ _)
  refine x_iconst d_Cl_act_1221 (by decide) (?_ : WD _ _ 1222 _ _ _ _ _ _)
  obtain ⟨a165, e166, h⟩ := h
  rw [e166]
  obtain ⟨n167, h⟩ := h
  obtain ⟨k168, h⟩ := h
  obtain ⟨h169, h⟩ := h
  refine x_iald k168 d_Cl_act_1222 (by decide) h169 (y := (wI w a165 0)) rfl (?_ : WD _ _ 1223 _ _ _ _ _ _)
  refine x_aload_nP (some x1) d_Cl_act_1223 rfl (?_ : WD _ _ 1224 _ _ _ _ _ _)
  refine x_getP (ref := "CoinSamplerLaw$Books") (j := 2) 2 k164 clk_11 (by decide) (qm_2 (i := 160) rfl rfl) (Or.inl rfl) rfl rfl d_Cl_act_1224 (y := (wR w x1 2)) rfl (?_ : WD _ _ 1227 _ _ _ _ _ _)
  refine x_iconst d_Cl_act_1227 (by decide) (?_ : WD _ _ 1228 _ _ _ _ _ _)
  obtain ⟨a170, e171, h⟩ := h
  rw [e171]
  obtain ⟨n172, h⟩ := h
  obtain ⟨k173, h⟩ := h
  obtain ⟨h174, h⟩ := h
  refine x_iald k173 d_Cl_act_1228 (by decide) h174 (y := (wI w a170 2)) rfl (?_ : WD _ _ 1229 _ _ _ _ _ _)
  obtain ⟨c175, s176, h177, h178, h⟩ := h
  refine x_callV (ν := M_Bo_size) [vI (wI w a165 0), vI (wI w a170 2)] ok_M_Bo_size okv_M_Bo_size k164 rfl rfl (qm_5 (i := 190) rfl rfl) np_M_Bo_size rfl ⟨Nat.le_of_ble_eq_true rfl, Nat.le_of_ble_eq_true rfl⟩ (Nat.le_of_ble_eq_true rfl) rfl d_Cl_act_1229 h177 h178 (DI.k h (fun v180 w179 gw179 h => (?_ : WD _ _ 1232 _ _ _ _ _ _)))
  refine x_istore (ls' := [(8, vI v180), (0, vR 0), (1, vA x1)]) d_Cl_act_1232 (by decide) rfl (?_ : WD _ _ 1234 _ _ _ _ _ _)
  refine x_iload d_Cl_act_1234 rfl (?_ : WD _ _ 1236 _ _ _ _ _ _)
  refine x_if_ge 1244 d_Cl_act_1236 rfl ⟨fun c181 => (?_ : WD _ _ 1244 _ _ _ _ _ _), fun c181 => (?_ : WD _ _ 1239 _ _ _ _ _ _)⟩
  · replace h := h.1 c181
    refine x_aload_nP (some x1) d_Cl_act_1244 rfl (?_ : WD _ _ 1245 _ _ _ _ _ _)
    obtain ⟨c182, s183, h184, h185, h⟩ := h
    refine x_callV (ν := M_Bo_allCoins) [] ok_M_Bo_allCoins okv_M_Bo_allCoins (k164.q gw179.k) rfl rfl (qm_5 (i := 205) rfl rfl) np_M_Bo_allCoins rfl ⟨Nat.le_of_ble_eq_true rfl, Nat.le_of_ble_eq_true rfl⟩ (Nat.le_of_ble_eq_true rfl) rfl d_Cl_act_1245 h184 h185 (DI.k h (fun v187 w186 gw186 h => (?_ : WD _ _ 1248 _ _ _ _ _ _)))
    refine x_if_eq 1261 d_Cl_act_1248 rfl ⟨fun c188 => (?_ : WD _ _ 1261 _ _ _ _ _ _), fun c188 => (?_ : WD _ _ 1251 _ _ _ _ _ _)⟩
    · replace h := h.1 c188
      refine x_bipush d_Cl_act_1261 (by decide) (by decide) (?_ : WD _ _ 1263 _ _ _ _ _ _)
      refine x_goto 1268 d_Cl_act_1263 rfl ?_
      refine x_istore (ls' := [(6, vI (-5)), (8, vI v180), (0, vR 0), (1, vA x1)]) d_Cl_act_1268 (by decide) rfl (?_ : WD _ _ 1270 _ _ _ _ _ _)
      refine x_iload d_Cl_act_1270 rfl (?_ : WD _ _ 1272 _ _ _ _ _ _)
      refine x_if_le 1290 d_Cl_act_1272 rfl ⟨fun hc => (?_ : WD _ _ 1290 _ _ _ _ _ _), fun hc => absurd hc (by decide)⟩
      refine x_aload_n d_Cl_act_1290 rfl (?_ : WD _ _ 1291 _ _ _ _ _ _)
      refine x_callC (ν := M_Cs_plan) (k := 0) [] ok_M_Cs_plan okv_M_Cs_plan (by decide) rfl rfl rfl (qm_5 (i := 207) rfl rfl) np_M_Cs_plan rfl ⟨Nat.le_of_ble_eq_true rfl, Nat.le_of_ble_eq_true rfl⟩ (Nat.le_of_ble_eq_true rfl) rfl d_Cl_act_1291 (CI.kd h (fun v189 σ190 h => (?_ : WD _ _ 1294 _ _ _ _ _ _)))
      refine x_iload d_Cl_act_1294 rfl (?_ : WD _ _ 1296 _ _ _ _ _ _)
      refine x_icmp_ne 1303 d_Cl_act_1296 rfl ⟨fun c191 => (?_ : WD _ _ 1303 _ _ _ _ _ _), fun c191 => (?_ : WD _ _ 1299 _ _ _ _ _ _)⟩
      · replace h := h.1 c191
        refine x_iconst d_Cl_act_1303 (by decide) (?_ : WD _ _ 1304 _ _ _ _ _ _)
        exact x_zreturn rfl d_Cl_act_1304 (by decide) h
      · replace h := h.2 c191
        refine x_iconst d_Cl_act_1299 (by decide) (?_ : WD _ _ 1300 _ _ _ _ _ _)
        refine x_goto 1304 d_Cl_act_1300 rfl ?_
        exact x_zreturn rfl d_Cl_act_1304 (by decide) h
    · replace h := h.2 c188
      refine x_aload_nP (some x1) d_Cl_act_1251 rfl (?_ : WD _ _ 1252 _ _ _ _ _ _)
      refine x_getP (ref := "CoinSamplerLaw$Books") (j := 1) 1 ((k164.q gw179.k).q gw186.k) clk_11 (by decide) (qm_2 (i := 158) rfl rfl) (Or.inl rfl) rfl rfl d_Cl_act_1252 (y := (wR w186 x1 1)) rfl (?_ : WD _ _ 1255 _ _ _ _ _ _)
      obtain ⟨a192, e193, h⟩ := h
      rw [e193]
      obtain ⟨k194, h⟩ := h
      refine x_callV (ν := M_Al_isEmpty) [] ok_M_Al_isEmpty okv_M_Al_isEmpty k194 rfl rfl (qm_3 (i := 230) rfl rfl) np_M_Al_isEmpty rfl ⟨Nat.le_of_ble_eq_true rfl, Nat.le_of_ble_eq_true rfl⟩ (Nat.le_of_ble_eq_true rfl) rfl d_Cl_act_1255 (Nat.zero_le _) (Nat.zero_le _) (DI.k h (fun v196 w195 gw195 h => (?_ : WD _ _ 1258 _ _ _ _ _ _)))
      refine x_if_ne 1266 d_Cl_act_1258 rfl ⟨fun c197 => (?_ : WD _ _ 1266 _ _ _ _ _ _), fun c197 => (?_ : WD _ _ 1261 _ _ _ _ _ _)⟩
      · replace h := h.1 c197
        refine x_iload d_Cl_act_1266 rfl (?_ : WD _ _ 1268 _ _ _ _ _ _)
        refine x_istore (ls' := [(6, vI v180), (8, vI v180), (0, vR 0), (1, vA x1)]) d_Cl_act_1268 (by decide) rfl (?_ : WD _ _ 1270 _ _ _ _ _ _)
        refine x_iload d_Cl_act_1270 rfl (?_ : WD _ _ 1272 _ _ _ _ _ _)
        refine x_if_le 1290 d_Cl_act_1272 rfl ⟨fun c198 => (?_ : WD _ _ 1290 _ _ _ _ _ _), fun c198 => (?_ : WD _ _ 1275 _ _ _ _ _ _)⟩
        · replace h := h.1 c198
          refine x_aload_n d_Cl_act_1290 rfl (?_ : WD _ _ 1291 _ _ _ _ _ _)
          refine x_callC (ν := M_Cs_plan) (k := 0) [] ok_M_Cs_plan okv_M_Cs_plan (by decide) rfl rfl rfl (qm_5 (i := 207) rfl rfl) np_M_Cs_plan rfl ⟨Nat.le_of_ble_eq_true rfl, Nat.le_of_ble_eq_true rfl⟩ (Nat.le_of_ble_eq_true rfl) rfl d_Cl_act_1291 (CI.kd h (fun v199 σ200 h => (?_ : WD _ _ 1294 _ _ _ _ _ _)))
          refine x_iload d_Cl_act_1294 rfl (?_ : WD _ _ 1296 _ _ _ _ _ _)
          refine x_icmp_ne 1303 d_Cl_act_1296 rfl ⟨fun c201 => (?_ : WD _ _ 1303 _ _ _ _ _ _), fun c201 => (?_ : WD _ _ 1299 _ _ _ _ _ _)⟩
          · replace h := h.1 c201
            refine x_iconst d_Cl_act_1303 (by decide) (?_ : WD _ _ 1304 _ _ _ _ _ _)
            exact x_zreturn rfl d_Cl_act_1304 (by decide) h
          · replace h := h.2 c201
            refine x_iconst d_Cl_act_1299 (by decide) (?_ : WD _ _ 1300 _ _ _ _ _ _)
            refine x_goto 1304 d_Cl_act_1300 rfl ?_
            exact x_zreturn rfl d_Cl_act_1304 (by decide) h
        · replace h := h.2 c198
          refine x_aload_nP (some x1) d_Cl_act_1275 rfl (?_ : WD _ _ 1276 _ _ _ _ _ _)
          refine x_iconst d_Cl_act_1276 (by decide) (?_ : WD _ _ 1277 _ _ _ _ _ _)
          refine x_aload_nP (some x1) d_Cl_act_1277 rfl (?_ : WD _ _ 1278 _ _ _ _ _ _)
          obtain ⟨c202, s203, h204, h205, h⟩ := h
          refine x_callV (ν := M_Bo_allCoins) [] ok_M_Bo_allCoins okv_M_Bo_allCoins (((k164.q gw179.k).q gw186.k).q gw195.k) rfl rfl (qm_5 (i := 205) rfl rfl) np_M_Bo_allCoins rfl ⟨Nat.le_of_ble_eq_true rfl, Nat.le_of_ble_eq_true rfl⟩ (Nat.le_of_ble_eq_true rfl) rfl d_Cl_act_1278 h204 h205 (DI.k h (fun v207 w206 gw206 h => (?_ : WD _ _ 1281 _ _ _ _ _ _)))
          refine x_iload d_Cl_act_1281 rfl (?_ : WD _ _ 1283 _ _ _ _ _ _)
          obtain ⟨h208, h⟩ := h
          obtain ⟨h209, h⟩ := h
          refine x_idivn d_Cl_act_1283 h208 h209 (?_ : WD _ _ 1284 _ _ _ _ _ _)
          refine x_callS (ν := M_Ma_max) [vI 1, vI (v207 / v180)] ok_M_Ma_max oks_M_Ma_max (qm_5 (i := 206) rfl rfl) np_M_Ma_max rfl ⟨Nat.le_of_ble_eq_true rfl, Nat.le_of_ble_eq_true rfl⟩ (Nat.le_of_ble_eq_true rfl) rfl d_Cl_act_1284 (Nat.zero_le _) (Nat.zero_le _) (DI.k h (fun v211 w210 gw210 h => (?_ : WD _ _ 1287 _ _ _ _ _ _)))
          obtain ⟨k212, h⟩ := h
          refine x_putI (ref := "CoinSamplerLaw$Books") (j := 3) 3 k212 clk_11 (by decide) (qm_2 (i := 162) rfl rfl) (Or.inl rfl) (Or.inl rfl) tyX11_ok rfl nmX11 d_Cl_act_1287 rfl rfl (fun _ => rfl) rfl (?_ : WD _ _ 1290 _ _ _ _ _ _)
          refine x_aload_n d_Cl_act_1290 rfl (?_ : WD _ _ 1291 _ _ _ _ _ _)
          refine x_callC (ν := M_Cs_plan) (k := 0) [] ok_M_Cs_plan okv_M_Cs_plan (by decide) rfl rfl rfl (qm_5 (i := 207) rfl rfl) np_M_Cs_plan rfl ⟨Nat.le_of_ble_eq_true rfl, Nat.le_of_ble_eq_true rfl⟩ (Nat.le_of_ble_eq_true rfl) rfl d_Cl_act_1291 (CI.kd h (fun v213 σ214 h => (?_ : WD _ _ 1294 _ _ _ _ _ _)))
          refine x_iload d_Cl_act_1294 rfl (?_ : WD _ _ 1296 _ _ _ _ _ _)
          refine x_icmp_ne 1303 d_Cl_act_1296 rfl ⟨fun c215 => (?_ : WD _ _ 1303 _ _ _ _ _ _), fun c215 => (?_ : WD _ _ 1299 _ _ _ _ _ _)⟩
          · replace h := h.1 c215
            refine x_iconst d_Cl_act_1303 (by decide) (?_ : WD _ _ 1304 _ _ _ _ _ _)
            exact x_zreturn rfl d_Cl_act_1304 (by decide) h
          · replace h := h.2 c215
            refine x_iconst d_Cl_act_1299 (by decide) (?_ : WD _ _ 1300 _ _ _ _ _ _)
            refine x_goto 1304 d_Cl_act_1300 rfl ?_
            exact x_zreturn rfl d_Cl_act_1304 (by decide) h
      · replace h := h.2 c197
        refine x_bipush d_Cl_act_1261 (by decide) (by decide) (?_ : WD _ _ 1263 _ _ _ _ _ _)
        refine x_goto 1268 d_Cl_act_1263 rfl ?_
        refine x_istore (ls' := [(6, vI (-5)), (8, vI v180), (0, vR 0), (1, vA x1)]) d_Cl_act_1268 (by decide) rfl (?_ : WD _ _ 1270 _ _ _ _ _ _)
        refine x_iload d_Cl_act_1270 rfl (?_ : WD _ _ 1272 _ _ _ _ _ _)
        refine x_if_le 1290 d_Cl_act_1272 rfl ⟨fun hc => (?_ : WD _ _ 1290 _ _ _ _ _ _), fun hc => absurd hc (by decide)⟩
        refine x_aload_n d_Cl_act_1290 rfl (?_ : WD _ _ 1291 _ _ _ _ _ _)
        refine x_callC (ν := M_Cs_plan) (k := 0) [] ok_M_Cs_plan okv_M_Cs_plan (by decide) rfl rfl rfl (qm_5 (i := 207) rfl rfl) np_M_Cs_plan rfl ⟨Nat.le_of_ble_eq_true rfl, Nat.le_of_ble_eq_true rfl⟩ (Nat.le_of_ble_eq_true rfl) rfl d_Cl_act_1291 (CI.kd h (fun v216 σ217 h => (?_ : WD _ _ 1294 _ _ _ _ _ _)))
        refine x_iload d_Cl_act_1294 rfl (?_ : WD _ _ 1296 _ _ _ _ _ _)
        refine x_icmp_ne 1303 d_Cl_act_1296 rfl ⟨fun c218 => (?_ : WD _ _ 1303 _ _ _ _ _ _), fun c218 => (?_ : WD _ _ 1299 _ _ _ _ _ _)⟩
        · replace h := h.1 c218
          refine x_iconst d_Cl_act_1303 (by decide) (?_ : WD _ _ 1304 _ _ _ _ _ _)
          exact x_zreturn rfl d_Cl_act_1304 (by decide) h
        · replace h := h.2 c218
          refine x_iconst d_Cl_act_1299 (by decide) (?_ : WD _ _ 1300 _ _ _ _ _ _)
          refine x_goto 1304 d_Cl_act_1300 rfl ?_
          exact x_zreturn rfl d_Cl_act_1304 (by decide) h
  · replace h := h.2 c181
    refine x_bipush d_Cl_act_1239 (by decide) (by decide) (?_ : WD _ _ 1241 _ _ _ _ _ _)
    refine x_goto 1268 d_Cl_act_1241 rfl ?_
    refine x_istore (ls' := [(6, vI (-4)), (8, vI v180), (0, vR 0), (1, vA x1)]) d_Cl_act_1268 (by decide) rfl (?_ : WD _ _ 1270 _ _ _ _ _ _)
    refine x_iload d_Cl_act_1270 rfl (?_ : WD _ _ 1272 _ _ _ _ _ _)
    refine x_if_le 1290 d_Cl_act_1272 rfl ⟨fun hc => (?_ : WD _ _ 1290 _ _ _ _ _ _), fun hc => absurd hc (by decide)⟩
    refine x_aload_n d_Cl_act_1290 rfl (?_ : WD _ _ 1291 _ _ _ _ _ _)
    refine x_callC (ν := M_Cs_plan) (k := 0) [] ok_M_Cs_plan okv_M_Cs_plan (by decide) rfl rfl rfl (qm_5 (i := 207) rfl rfl) np_M_Cs_plan rfl ⟨Nat.le_of_ble_eq_true rfl, Nat.le_of_ble_eq_true rfl⟩ (Nat.le_of_ble_eq_true rfl) rfl d_Cl_act_1291 (CI.kd h (fun v219 σ220 h => (?_ : WD _ _ 1294 _ _ _ _ _ _)))
    refine x_iload d_Cl_act_1294 rfl (?_ : WD _ _ 1296 _ _ _ _ _ _)
    refine x_icmp_ne 1303 d_Cl_act_1296 rfl ⟨fun c221 => (?_ : WD _ _ 1303 _ _ _ _ _ _), fun c221 => (?_ : WD _ _ 1299 _ _ _ _ _ _)⟩
    · replace h := h.1 c221
      refine x_iconst d_Cl_act_1303 (by decide) (?_ : WD _ _ 1304 _ _ _ _ _ _)
      exact x_zreturn rfl d_Cl_act_1304 (by decide) h
    · replace h := h.2 c221
      refine x_iconst d_Cl_act_1299 (by decide) (?_ : WD _ _ 1300 _ _ _ _ _ _)
      refine x_goto 1304 d_Cl_act_1300 rfl ?_
      exact x_zreturn rfl d_Cl_act_1304 (by decide) h
set_option maxRecDepth 20000 in
theorem l_Cl_act_28 {G : Gq} {K : Int → Wd → Prop} {w : Wd} {rc rs : Nat} (x1 : Nat) (h : (Is G w x1 (kO 11)) ∧ ∃ a223 : Nat, (wR w x1 1) = some a223 ∧ ((Is G w a223 (kO 14)) ∧ DI G M_Al_size [vA a223] w 0 0 (fun v227 w226 => ∃ a228 : Nat, (wR w226 x1 1) = some a228 ∧ ((Is G w226 a228 (kO 14)) ∧ DV G M_Al_clear [vA a228] w226 0 0 (fun w231 => CI M_Cs_clear [vR 0] (wS w231) (fun v233 σ234 => (¬ v233 = v227 → K 0 (uS w231 σ234)) ∧ (v233 = v227 → K 1 (uS w231 σ234)))))))) : WD G M_Cl_act 1311 [(0, vR 0), (1, vA x1)] [] w rc rs (yI K) := by
  refine x_aload_nP (some x1) d_Cl_act_1311 rfl (?_ : WD _ _ 1312 _ _ _ _ _ _)
  obtain ⟨k222, h⟩ := h
  refine x_getP (ref := "CoinSamplerLaw$Books") (j := 1) 1 k222 clk_11 (by decide) (qm_2 (i := 158) rfl rfl) (Or.inl rfl) rfl rfl d_Cl_act_1312 (y := (wR w x1 1)) rfl (?_ : WD _ _ 1315 _ _ _ _ _ _)
  obtain ⟨a223, e224, h⟩ := h
  rw [e224]
  obtain ⟨k225, h⟩ := h
  refine x_callV (ν := M_Al_size) [] ok_M_Al_size okv_M_Al_size k225 rfl rfl (qm_3 (i := 178) rfl rfl) np_M_Al_size rfl ⟨Nat.le_of_ble_eq_true rfl, Nat.le_of_ble_eq_true rfl⟩ (Nat.le_of_ble_eq_true rfl) rfl d_Cl_act_1315 (Nat.zero_le _) (Nat.zero_le _) (DI.k h (fun v227 w226 gw226 h => (?_ : WD _ _ 1318 _ _ _ _ _ _)))
  refine x_istore (ls' := [(6, vI v227), (0, vR 0), (1, vA x1)]) d_Cl_act_1318 (by decide) rfl (?_ : WD _ _ 1320 _ _ _ _ _ _)
  refine x_aload_nP (some x1) d_Cl_act_1320 rfl (?_ : WD _ _ 1321 _ _ _ _ _ _)
  refine x_getP (ref := "CoinSamplerLaw$Books") (j := 1) 1 (k222.q gw226.k) clk_11 (by decide) (qm_2 (i := 158) rfl rfl) (Or.inl rfl) rfl rfl d_Cl_act_1321 (y := (wR w226 x1 1)) rfl (?_ : WD _ _ 1324 _ _ _ _ _ _)
  obtain ⟨a228, e229, h⟩ := h
  rw [e229]
  obtain ⟨k230, h⟩ := h
  refine x_callV (ν := M_Al_clear) [] ok_M_Al_clear okv_M_Al_clear k230 rfl rfl (qm_3 (i := 219) rfl rfl) np_M_Al_clear rfl ⟨Nat.le_of_ble_eq_true rfl, Nat.le_of_ble_eq_true rfl⟩ (Nat.le_of_ble_eq_true rfl) rfl d_Cl_act_1324 (Nat.zero_le _) (Nat.zero_le _) (DV.k h (fun w231 gw231 h => (?_ : WD _ _ 1327 _ _ _ _ _ _)))
  refine x_aload_n d_Cl_act_1327 rfl (?_ : WD _ _ 1328 _ _ _ _ _ _)
  refine x_callC (ν := M_Cs_clear) (k := 0) [] ok_M_Cs_clear okv_M_Cs_clear (by decide) rfl rfl rfl (qm_5 (i := 233) rfl rfl) np_M_Cs_clear rfl ⟨Nat.le_of_ble_eq_true rfl, Nat.le_of_ble_eq_true rfl⟩ (Nat.le_of_ble_eq_true rfl) rfl d_Cl_act_1328 (CI.kd h (fun v233 σ234 h => (?_ : WD _ _ 1331 _ _ _ _ _ _)))
  refine x_iload d_Cl_act_1331 rfl (?_ : WD _ _ 1333 _ _ _ _ _ _)
  refine x_icmp_ne 1340 d_Cl_act_1333 rfl ⟨fun c235 => (?_ : WD _ _ 1340 _ _ _ _ _ _), fun c235 => (?_ : WD _ _ 1336 _ _ _ _ _ _)⟩
  · replace h := h.1 c235
    refine x_iconst d_Cl_act_1340 (by decide) (?_ : WD _ _ 1341 _ _ _ _ _ _)
    exact x_zreturn rfl d_Cl_act_1341 (by decide) h
  · replace h := h.2 c235
    refine x_iconst d_Cl_act_1336 (by decide) (?_ : WD _ _ 1337 _ _ _ _ _ _)
    refine x_goto 1341 d_Cl_act_1337 rfl ?_
    exact x_zreturn rfl d_Cl_act_1341 (by decide) h
set_option maxRecDepth 20000 in
theorem l_Cl_act_29 {G : Gq} {K : Int → Wd → Prop} {w : Wd} {rc rs : Nat} (x1 : Nat) (h : (Is G w x1 (kO 11)) ∧ (¬ (wI w x1 3) = 0 → ∃ a238 : Nat, (wR w x1 1) = some a238 ∧ ((Is G w a238 (kO 14)) ∧ DI G M_Al_size [vA a238] w 0 0 (fun v242 w241 => (v242 = 5 → WD G M_Cl_act 1388 [(0, vR 0)] [vI (-4)] w241 rc rs (yI K)) ∧ (¬ v242 = 5 → ∃ a244 : Nat, (wR w241 x1 1) = some a244 ∧ ((Is G w241 a244 (kO 14)) ∧ DI G M_Al_size [vA a244] w241 0 0 (fun v248 w247 => (v248 < (wI w247 x1 3) → ∃ c250 s251 : Nat, c250 ≤ rc ∧ s251 ≤ rs ∧ (DI G M_Bo_draws [vA x1] w247 c250 s251 (fun v255 w254 => WD G M_Cl_act 1388 [(0, vR 0)] [vI v255] w254 (rc - c250) (rs - s251) (yI K)))) ∧ (¬ v248 < (wI w247 x1 3) → WD G M_Cl_act 1388 [(0, vR 0)] [vI (-4)] w247 rc rs (yI K)))))))) ∧ ((wI w x1 3) = 0 → WD G M_Cl_act 1388 [(0, vR 0)] [vI (-5)] w rc rs (yI K))) : WD G M_Cl_act 1342 [(0, vR 0), (1, vA x1)] [] w rc rs (yI K) := by
  refine x_aload_nP (some x1) d_Cl_act_1342 rfl (?_ : WD _ _ 1343 _ _ _ _ _ _)
  obtain ⟨k236, h⟩ := h
  refine x_getI (ref := "CoinSamplerLaw$Books") (j := 3) 3 k236 clk_11 (by decide) (qm_2 (i := 162) rfl rfl) (Or.inl rfl) rfl rfl d_Cl_act_1343 (y := (wI w x1 3)) rfl (?_ : WD _ _ 1346 _ _ _ _ _ _)
  refine x_if_ne 1354 d_Cl_act_1346 rfl ⟨fun c237 => (?_ : WD _ _ 1354 _ _ _ _ _ _), fun c237 => (?_ : WD _ _ 1349 _ _ _ _ _ _)⟩
  · replace h := h.1 c237
    refine x_aload_nP (some x1) d_Cl_act_1354 rfl (?_ : WD _ _ 1355 _ _ _ _ _ _)
    refine x_getP (ref := "CoinSamplerLaw$Books") (j := 1) 1 k236 clk_11 (by decide) (qm_2 (i := 158) rfl rfl) (Or.inl rfl) rfl rfl d_Cl_act_1355 (y := (wR w x1 1)) rfl (?_ : WD _ _ 1358 _ _ _ _ _ _)
    obtain ⟨a238, e239, h⟩ := h
    rw [e239]
    obtain ⟨k240, h⟩ := h
    refine x_callV (ν := M_Al_size) [] ok_M_Al_size okv_M_Al_size k240 rfl rfl (qm_3 (i := 178) rfl rfl) np_M_Al_size rfl ⟨Nat.le_of_ble_eq_true rfl, Nat.le_of_ble_eq_true rfl⟩ (Nat.le_of_ble_eq_true rfl) rfl d_Cl_act_1358 (Nat.zero_le _) (Nat.zero_le _) (DI.k h (fun v242 w241 gw241 h => (?_ : WD _ _ 1361 _ _ _ _ _ _)))
    refine x_iconst d_Cl_act_1361 (by decide) (?_ : WD _ _ 1362 _ _ _ _ _ _)
    refine x_icmp_eq 1379 d_Cl_act_1362 rfl ⟨fun c243 => (?_ : WD _ _ 1379 _ _ _ _ _ _), fun c243 => (?_ : WD _ _ 1365 _ _ _ _ _ _)⟩
    · replace h := h.1 c243
      refine x_bipush d_Cl_act_1379 (by decide) (by decide) (?_ : WD _ _ 1381 _ _ _ _ _ _)
      refine x_goto 1388 d_Cl_act_1381 rfl ?_
      refine x_pick (ls' := [(0, vR 0)]) [0] rfl ?_
      exact h
    · replace h := h.2 c243
      refine x_aload_nP (some x1) d_Cl_act_1365 rfl (?_ : WD _ _ 1366 _ _ _ _ _ _)
      refine x_getP (ref := "CoinSamplerLaw$Books") (j := 1) 1 (k236.q gw241.k) clk_11 (by decide) (qm_2 (i := 158) rfl rfl) (Or.inl rfl) rfl rfl d_Cl_act_1366 (y := (wR w241 x1 1)) rfl (?_ : WD _ _ 1369 _ _ _ _ _ _)
      obtain ⟨a244, e245, h⟩ := h
      rw [e245]
      obtain ⟨k246, h⟩ := h
      refine x_callV (ν := M_Al_size) [] ok_M_Al_size okv_M_Al_size k246 rfl rfl (qm_3 (i := 178) rfl rfl) np_M_Al_size rfl ⟨Nat.le_of_ble_eq_true rfl, Nat.le_of_ble_eq_true rfl⟩ (Nat.le_of_ble_eq_true rfl) rfl d_Cl_act_1369 (Nat.zero_le _) (Nat.zero_le _) (DI.k h (fun v248 w247 gw247 h => (?_ : WD _ _ 1372 _ _ _ _ _ _)))
      refine x_aload_nP (some x1) d_Cl_act_1372 rfl (?_ : WD _ _ 1373 _ _ _ _ _ _)
      refine x_getI (ref := "CoinSamplerLaw$Books") (j := 3) 3 ((k236.q gw241.k).q gw247.k) clk_11 (by decide) (qm_2 (i := 162) rfl rfl) (Or.inl rfl) rfl rfl d_Cl_act_1373 (y := (wI w247 x1 3)) rfl (?_ : WD _ _ 1376 _ _ _ _ _ _)
      refine x_icmp_lt 1384 d_Cl_act_1376 rfl ⟨fun c249 => (?_ : WD _ _ 1384 _ _ _ _ _ _), fun c249 => (?_ : WD _ _ 1379 _ _ _ _ _ _)⟩
      · replace h := h.1 c249
        refine x_aload_nP (some x1) d_Cl_act_1384 rfl (?_ : WD _ _ 1385 _ _ _ _ _ _)
        obtain ⟨c250, s251, h252, h253, h⟩ := h
        refine x_callV (ν := M_Bo_draws) [] ok_M_Bo_draws okv_M_Bo_draws ((k236.q gw241.k).q gw247.k) rfl rfl (qm_5 (i := 237) rfl rfl) np_M_Bo_draws rfl ⟨Nat.le_of_ble_eq_true rfl, Nat.le_of_ble_eq_true rfl⟩ (Nat.le_of_ble_eq_true rfl) rfl d_Cl_act_1385 h252 h253 (DI.k h (fun v255 w254 gw254 h => (?_ : WD _ _ 1388 _ _ _ _ _ _)))
        refine x_pick (ls' := [(0, vR 0)]) [0] rfl ?_
        exact h
      · replace h := h.2 c249
        refine x_bipush d_Cl_act_1379 (by decide) (by decide) (?_ : WD _ _ 1381 _ _ _ _ _ _)
        refine x_goto 1388 d_Cl_act_1381 rfl ?_
        refine x_pick (ls' := [(0, vR 0)]) [0] rfl ?_
        exact h
  · replace h := h.2 c237
    refine x_bipush d_Cl_act_1349 (by decide) (by decide) (?_ : WD _ _ 1351 _ _ _ _ _ _)
    refine x_goto 1388 d_Cl_act_1351 rfl ?_
    refine x_pick (ls' := [(0, vR 0)]) [0] rfl ?_
    exact h
set_option maxRecDepth 20000 in
theorem l_Cl_act_5 {G : Gq} {K : Int → Wd → Prop} {w : Wd} {rc rs : Nat} (x1 : Nat) (x8 : Int) (y0 : Int) (h : (¬ x8 = 0 → (¬ x8 = 1 → (¬ x8 = 2 → (¬ x8 = 3 → (1000004 ≤ y0 → WD G M_Cl_act 378 [(0, vR 0), (1, vA x1), (8, vI x8), (9, vI y0)] [vI 0] w rc rs (yI K)) ∧ (¬ 1000004 ≤ y0 → WD G M_Cl_act 378 [(0, vR 0), (1, vA x1), (8, vI x8), (9, vI y0)] [vI 1] w rc rs (yI K))) ∧ (x8 = 3 → (2 ≤ y0 → WD G M_Cl_act 378 [(0, vR 0), (1, vA x1), (8, vI x8), (9, vI y0)] [vI 0] w rc rs (yI K)) ∧ (¬ 2 ≤ y0 → WD G M_Cl_act 378 [(0, vR 0), (1, vA x1), (8, vI x8), (9, vI y0)] [vI 1] w rc rs (yI K)))) ∧ (x8 = 2 → (10 ≤ y0 → WD G M_Cl_act 378 [(0, vR 0), (1, vA x1), (8, vI x8), (9, vI y0)] [vI 0] w rc rs (yI K)) ∧ (¬ 10 ≤ y0 → WD G M_Cl_act 378 [(0, vR 0), (1, vA x1), (8, vI x8), (9, vI y0)] [vI 1] w rc rs (yI K)))) ∧ (x8 = 1 → (y0 ≤ 0 → WD G M_Cl_act 378 [(0, vR 0), (1, vA x1), (8, vI x8), (9, vI y0)] [vI 0] w rc rs (yI K)) ∧ (¬ y0 ≤ 0 → (501 ≤ y0 → WD G M_Cl_act 378 [(0, vR 0), (1, vA x1), (8, vI x8), (9, vI y0)] [vI 0] w rc rs (yI K)) ∧ (¬ 501 ≤ y0 → WD G M_Cl_act 378 [(0, vR 0), (1, vA x1), (8, vI x8), (9, vI y0)] [vI 1] w rc rs (yI K))))) ∧ (x8 = 0 → (y0 ≤ 0 → WD G M_Cl_act 378 [(0, vR 0), (1, vA x1), (8, vI x8), (9, vI y0)] [vI 0] w rc rs (yI K)) ∧ (¬ y0 ≤ 0 → WD G M_Cl_act 378 [(0, vR 0), (1, vA x1), (8, vI x8), (9, vI y0)] [vI 1] w rc rs (yI K)))) : WD G M_Cl_act 278 [(0, vR 0), (1, vA x1), (8, vI x8)] [vI y0] w rc rs (yI K) := by
  refine x_istore (ls' := [(9, vI y0), (0, vR 0), (1, vA x1), (8, vI x8)]) d_Cl_act_278 (by decide) rfl (?_ : WD _ _ 280 _ _ _ _ _ _)
  refine x_iload d_Cl_act_280 rfl (?_ : WD _ _ 282 _ _ _ _ _ _)
  refine x_if_ne 298 d_Cl_act_282 rfl ⟨fun c256 => (?_ : WD _ _ 298 _ _ _ _ _ _), fun c256 => (?_ : WD _ _ 285 _ _ _ _ _ _)⟩
  · replace h := h.1 c256
    refine x_iload d_Cl_act_298 rfl (?_ : WD _ _ 300 _ _ _ _ _ _)
    refine x_iconst d_Cl_act_300 (by decide) (?_ : WD _ _ 301 _ _ _ _ _ _)
    refine x_icmp_ne 325 d_Cl_act_301 rfl ⟨fun c257 => (?_ : WD _ _ 325 _ _ _ _ _ _), fun c257 => (?_ : WD _ _ 304 _ _ _ _ _ _)⟩
    · replace h := h.1 c257
      refine x_iload d_Cl_act_325 rfl (?_ : WD _ _ 327 _ _ _ _ _ _)
      refine x_iconst d_Cl_act_327 (by decide) (?_ : WD _ _ 328 _ _ _ _ _ _)
      refine x_icmp_ne 346 d_Cl_act_328 rfl ⟨fun c258 => (?_ : WD _ _ 346 _ _ _ _ _ _), fun c258 => (?_ : WD _ _ 331 _ _ _ _ _ _)⟩
      · replace h := h.1 c258
        refine x_iload d_Cl_act_346 rfl (?_ : WD _ _ 348 _ _ _ _ _ _)
        refine x_iconst d_Cl_act_348 (by decide) (?_ : WD _ _ 349 _ _ _ _ _ _)
        refine x_icmp_ne 366 d_Cl_act_349 rfl ⟨fun c259 => (?_ : WD _ _ 366 _ _ _ _ _ _), fun c259 => (?_ : WD _ _ 352 _ _ _ _ _ _)⟩
        · replace h := h.1 c259
          refine x_iload d_Cl_act_366 rfl (?_ : WD _ _ 368 _ _ _ _ _ _)
          refine x_ldc 1000004 d_Cl_act_368 (qm_5 (i := 129) rfl rfl) (by decide) (by decide) (?_ : WD _ _ 370 _ _ _ _ _ _)
          refine x_icmp_ge 377 d_Cl_act_370 rfl ⟨fun c260 => (?_ : WD _ _ 377 _ _ _ _ _ _), fun c260 => (?_ : WD _ _ 373 _ _ _ _ _ _)⟩
          · replace h := h.1 c260
            refine x_iconst d_Cl_act_377 (by decide) (?_ : WD _ _ 378 _ _ _ _ _ _)
            refine x_pick (ls' := [(0, vR 0), (1, vA x1), (8, vI x8), (9, vI y0)]) [1, 2, 3, 0] rfl ?_
            exact h
          · replace h := h.2 c260
            refine x_iconst d_Cl_act_373 (by decide) (?_ : WD _ _ 374 _ _ _ _ _ _)
            refine x_goto 378 d_Cl_act_374 rfl ?_
            refine x_pick (ls' := [(0, vR 0), (1, vA x1), (8, vI x8), (9, vI y0)]) [1, 2, 3, 0] rfl ?_
            exact h
        · replace h := h.2 c259
          refine x_iload d_Cl_act_352 rfl (?_ : WD _ _ 354 _ _ _ _ _ _)
          refine x_iconst d_Cl_act_354 (by decide) (?_ : WD _ _ 355 _ _ _ _ _ _)
          refine x_icmp_ge 362 d_Cl_act_355 rfl ⟨fun c261 => (?_ : WD _ _ 362 _ _ _ _ _ _), fun c261 => (?_ : WD _ _ 358 _ _ _ _ _ _)⟩
          · replace h := h.1 c261
            refine x_iconst d_Cl_act_362 (by decide) (?_ : WD _ _ 363 _ _ _ _ _ _)
            refine x_goto 378 d_Cl_act_363 rfl ?_
            refine x_pick (ls' := [(0, vR 0), (1, vA x1), (8, vI x8), (9, vI y0)]) [1, 2, 3, 0] rfl ?_
            exact h
          · replace h := h.2 c261
            refine x_iconst d_Cl_act_358 (by decide) (?_ : WD _ _ 359 _ _ _ _ _ _)
            refine x_goto 378 d_Cl_act_359 rfl ?_
            refine x_pick (ls' := [(0, vR 0), (1, vA x1), (8, vI x8), (9, vI y0)]) [1, 2, 3, 0] rfl ?_
            exact h
      · replace h := h.2 c258
        refine x_iload d_Cl_act_331 rfl (?_ : WD _ _ 333 _ _ _ _ _ _)
        refine x_bipush d_Cl_act_333 (by decide) (by decide) (?_ : WD _ _ 335 _ _ _ _ _ _)
        refine x_icmp_ge 342 d_Cl_act_335 rfl ⟨fun c262 => (?_ : WD _ _ 342 _ _ _ _ _ _), fun c262 => (?_ : WD _ _ 338 _ _ _ _ _ _)⟩
        · replace h := h.1 c262
          refine x_iconst d_Cl_act_342 (by decide) (?_ : WD _ _ 343 _ _ _ _ _ _)
          refine x_goto 378 d_Cl_act_343 rfl ?_
          refine x_pick (ls' := [(0, vR 0), (1, vA x1), (8, vI x8), (9, vI y0)]) [1, 2, 3, 0] rfl ?_
          exact h
        · replace h := h.2 c262
          refine x_iconst d_Cl_act_338 (by decide) (?_ : WD _ _ 339 _ _ _ _ _ _)
          refine x_goto 378 d_Cl_act_339 rfl ?_
          refine x_pick (ls' := [(0, vR 0), (1, vA x1), (8, vI x8), (9, vI y0)]) [1, 2, 3, 0] rfl ?_
          exact h
    · replace h := h.2 c257
      refine x_iload d_Cl_act_304 rfl (?_ : WD _ _ 306 _ _ _ _ _ _)
      refine x_if_le 321 d_Cl_act_306 rfl ⟨fun c263 => (?_ : WD _ _ 321 _ _ _ _ _ _), fun c263 => (?_ : WD _ _ 309 _ _ _ _ _ _)⟩
      · replace h := h.1 c263
        refine x_iconst d_Cl_act_321 (by decide) (?_ : WD _ _ 322 _ _ _ _ _ _)
        refine x_goto 378 d_Cl_act_322 rfl ?_
        refine x_pick (ls' := [(0, vR 0), (1, vA x1), (8, vI x8), (9, vI y0)]) [1, 2, 3, 0] rfl ?_
        exact h
      · replace h := h.2 c263
        refine x_iload d_Cl_act_309 rfl (?_ : WD _ _ 311 _ _ _ _ _ _)
        refine x_sipush d_Cl_act_311 (by decide) (by decide) (?_ : WD _ _ 314 _ _ _ _ _ _)
        refine x_icmp_ge 321 d_Cl_act_314 rfl ⟨fun c264 => (?_ : WD _ _ 321 _ _ _ _ _ _), fun c264 => (?_ : WD _ _ 317 _ _ _ _ _ _)⟩
        · replace h := h.1 c264
          refine x_iconst d_Cl_act_321 (by decide) (?_ : WD _ _ 322 _ _ _ _ _ _)
          refine x_goto 378 d_Cl_act_322 rfl ?_
          refine x_pick (ls' := [(0, vR 0), (1, vA x1), (8, vI x8), (9, vI y0)]) [1, 2, 3, 0] rfl ?_
          exact h
        · replace h := h.2 c264
          refine x_iconst d_Cl_act_317 (by decide) (?_ : WD _ _ 318 _ _ _ _ _ _)
          refine x_goto 378 d_Cl_act_318 rfl ?_
          refine x_pick (ls' := [(0, vR 0), (1, vA x1), (8, vI x8), (9, vI y0)]) [1, 2, 3, 0] rfl ?_
          exact h
  · replace h := h.2 c256
    refine x_iload d_Cl_act_285 rfl (?_ : WD _ _ 287 _ _ _ _ _ _)
    refine x_if_le 294 d_Cl_act_287 rfl ⟨fun c265 => (?_ : WD _ _ 294 _ _ _ _ _ _), fun c265 => (?_ : WD _ _ 290 _ _ _ _ _ _)⟩
    · replace h := h.1 c265
      refine x_iconst d_Cl_act_294 (by decide) (?_ : WD _ _ 295 _ _ _ _ _ _)
      refine x_goto 378 d_Cl_act_295 rfl ?_
      refine x_pick (ls' := [(0, vR 0), (1, vA x1), (8, vI x8), (9, vI y0)]) [1, 2, 3, 0] rfl ?_
      exact h
    · replace h := h.2 c265
      refine x_iconst d_Cl_act_290 (by decide) (?_ : WD _ _ 291 _ _ _ _ _ _)
      refine x_goto 378 d_Cl_act_291 rfl ?_
      refine x_pick (ls' := [(0, vR 0), (1, vA x1), (8, vI x8), (9, vI y0)]) [1, 2, 3, 0] rfl ?_
      exact h
set_option maxRecDepth 20000 in
theorem l_Cl_act_10 {G : Gq} {K : Int → Wd → Prop} {w : Wd} {rc rs : Nat} (x1 : Nat) (x2 : Nat) (x4 : Int) (y0 : Int) (h : DI G M_Cl_draw [vA x2, vI 30] w 0 0 (fun v267 w266 => (¬ v267 = 0 → DI G M_Cl_draw [vA x2, vI 300] w266 0 0 (fun v270 w269 => WD G M_Cl_act 509 [(0, vR 0), (1, vA x1), (2, vA x2), (4, vI x4), (8, vI y0)] [vI v270] w269 rc rs (yI K))) ∧ (v267 = 0 → WD G M_Cl_act 509 [(0, vR 0), (1, vA x1), (2, vA x2), (4, vI x4), (8, vI y0)] [vI 10000] w266 rc rs (yI K)))) : WD G M_Cl_act 485 [(0, vR 0), (1, vA x1), (2, vA x2), (4, vI x4)] [vI y0] w rc rs (yI K) := by
  refine x_istore (ls' := [(8, vI y0), (0, vR 0), (1, vA x1), (2, vA x2), (4, vI x4)]) d_Cl_act_485 (by decide) rfl (?_ : WD _ _ 487 _ _ _ _ _ _)
  refine x_aload_nP (some x2) d_Cl_act_487 rfl (?_ : WD _ _ 488 _ _ _ _ _ _)
  refine x_bipush d_Cl_act_488 (by decide) (by decide) (?_ : WD _ _ 490 _ _ _ _ _ _)
  refine x_callS (ν := M_Cl_draw) [vA x2, vI 30] ok_M_Cl_draw oks_M_Cl_draw (qm_3 (i := 179) rfl rfl) np_M_Cl_draw rfl ⟨Nat.le_of_ble_eq_true rfl, Nat.le_of_ble_eq_true rfl⟩ (Nat.le_of_ble_eq_true rfl) rfl d_Cl_act_490 (Nat.zero_le _) (Nat.zero_le _) (DI.k h (fun v267 w266 gw266 h => (?_ : WD _ _ 493 _ _ _ _ _ _)))
  refine x_if_ne 502 d_Cl_act_493 rfl ⟨fun c268 => (?_ : WD _ _ 502 _ _ _ _ _ _), fun c268 => (?_ : WD _ _ 496 _ _ _ _ _ _)⟩
  · replace h := h.1 c268
    refine x_aload_nP (some x2) d_Cl_act_502 rfl (?_ : WD _ _ 503 _ _ _ _ _ _)
    refine x_sipush d_Cl_act_503 (by decide) (by decide) (?_ : WD _ _ 506 _ _ _ _ _ _)
    refine x_callS (ν := M_Cl_draw) [vA x2, vI 300] ok_M_Cl_draw oks_M_Cl_draw (qm_3 (i := 179) rfl rfl) np_M_Cl_draw rfl ⟨Nat.le_of_ble_eq_true rfl, Nat.le_of_ble_eq_true rfl⟩ (Nat.le_of_ble_eq_true rfl) rfl d_Cl_act_506 (Nat.zero_le _) (Nat.zero_le _) (DI.k h (fun v270 w269 gw269 h => (?_ : WD _ _ 509 _ _ _ _ _ _)))
    refine x_pick (ls' := [(0, vR 0), (1, vA x1), (2, vA x2), (4, vI x4), (8, vI y0)]) [1, 2, 3, 4, 0] rfl ?_
    exact h
  · replace h := h.2 c268
    refine x_sipush d_Cl_act_496 (by decide) (by decide) (?_ : WD _ _ 499 _ _ _ _ _ _)
    refine x_goto 509 d_Cl_act_499 rfl ?_
    refine x_pick (ls' := [(0, vR 0), (1, vA x1), (2, vA x2), (4, vI x4), (8, vI y0)]) [1, 2, 3, 4, 0] rfl ?_
    exact h
set_option maxRecDepth 20000 in
theorem l_Cl_act_16 {G : Gq} {K : Int → Wd → Prop} {w : Wd} {rc rs : Nat} (x1 : Nat) (x5 : Int) (x7 : Option Nat) (y0 : Int) (h : (x7 = none → WD G M_Cl_act 767 [(0, vR 0), (5, vI x5), (6, vI (-10000000)), (8, vI y0)] [] w rc rs (yI K)) ∧ (∀ a271 : Nat, x7 = some a271 → (y0 ≤ (-100000) → WD G M_Cl_act 767 [(0, vR 0), (5, vI x5), (6, vI (-10000000)), (8, vI y0)] [] w rc rs (yI K)) ∧ (¬ y0 ≤ (-100000) → (Is G w x1 (kO 11)) ∧ ∃ a275 : Nat, (wR w x1 1) = some a275 ∧ ((Is G w a275 (kO 14)) ∧ DI G M_Al_isEmpty [vA a275] w 0 0 (fun v279 w278 => (v279 = 0 → WD G M_Cl_act 767 [(0, vR 0), (5, vI x5), (6, vI (-10000000)), (8, vI y0)] [] w278 rc rs (yI K)) ∧ (¬ v279 = 0 → (Is G w278 a271 (kO 13)) ∧ (Ow w278 a271 (kO 13)) ∧ WD G M_Cl_act 767 [(0, vR 0), (5, vI x5), (6, vI (wI w278 a271 2)), (8, vI y0)] [] (uI (uI w278 a271 2 y0) a271 3 (-1)) rc rs (yI K))))))) : WD G M_Cl_act 701 [(0, vR 0), (1, vA x1), (5, vI x5), (7, vP x7)] [vI y0] w rc rs (yI K) := by
  refine x_istore (ls' := [(8, vI y0), (0, vR 0), (1, vA x1), (5, vI x5), (7, vP x7)]) d_Cl_act_701 (by decide) rfl (?_ : WD _ _ 703 _ _ _ _ _ _)
  refine x_aloadP x7 d_Cl_act_703 rfl (?_ : WD _ _ 705 _ _ _ _ _ _)
  refine x_ifnull 729 d_Cl_act_705 rfl ⟨fun e272 => (?_ : WD _ _ 729 _ _ _ _ _ _), fun a271 e272 => (?_ : WD _ _ 708 _ _ _ _ _ _)⟩
  · replace h := h.1 e272
    rw [e272]
    refine x_iconst d_Cl_act_729 (by decide) (?_ : WD _ _ 730 _ _ _ _ _ _)
    refine x_istore (ls' := [(9, vI 0), (8, vI y0), (0, vR 0), (1, vA x1), (5, vI x5), (7, vP none)]) d_Cl_act_730 (by decide) rfl (?_ : WD _ _ 732 _ _ _ _ _ _)
    refine x_iload d_Cl_act_732 rfl (?_ : WD _ _ 734 _ _ _ _ _ _)
    refine x_if_eq 745 d_Cl_act_734 rfl ⟨fun hc => (?_ : WD _ _ 745 _ _ _ _ _ _), fun hc => absurd rfl hc⟩
    refine x_ldc (-10000000) d_Cl_act_745 (qm_5 (i := 163) rfl rfl) (by decide) (by decide) (?_ : WD _ _ 747 _ _ _ _ _ _)
    refine x_istore (ls' := [(6, vI (-10000000)), (9, vI 0), (8, vI y0), (0, vR 0), (1, vA x1), (5, vI x5), (7, vP none)]) d_Cl_act_747 (by decide) rfl (?_ : WD _ _ 749 _ _ _ _ _ _)
    refine x_iload d_Cl_act_749 rfl (?_ : WD _ _ 751 _ _ _ _ _ _)
    refine x_if_eq 767 d_Cl_act_751 rfl ⟨fun hc => (?_ : WD _ _ 767 _ _ _ _ _ _), fun hc => absurd rfl hc⟩
    refine x_pick (ls' := [(0, vR 0), (5, vI x5), (6, vI (-10000000)), (8, vI y0)]) [3, 5, 0, 2] rfl ?_
    exact h
  · replace h := h.2 a271 e272
    rw [e272]
    refine x_iload d_Cl_act_708 rfl (?_ : WD _ _ 710 _ _ _ _ _ _)
    refine x_ldc (-100000) d_Cl_act_710 (qm_5 (i := 162) rfl rfl) (by decide) (by decide) (?_ : WD _ _ 712 _ _ _ _ _ _)
    refine x_icmp_le 729 d_Cl_act_712 rfl ⟨fun c273 => (?_ : WD _ _ 729 _ _ _ _ _ _), fun c273 => (?_ : WD _ _ 715 _ _ _ _ _ _)⟩
    · replace h := h.1 c273
      refine x_iconst d_Cl_act_729 (by decide) (?_ : WD _ _ 730 _ _ _ _ _ _)
      refine x_istore (ls' := [(9, vI 0), (8, vI y0), (0, vR 0), (1, vA x1), (5, vI x5), (7, vA a271)]) d_Cl_act_730 (by decide) rfl (?_ : WD _ _ 732 _ _ _ _ _ _)
      refine x_iload d_Cl_act_732 rfl (?_ : WD _ _ 734 _ _ _ _ _ _)
      refine x_if_eq 745 d_Cl_act_734 rfl ⟨fun hc => (?_ : WD _ _ 745 _ _ _ _ _ _), fun hc => absurd rfl hc⟩
      refine x_ldc (-10000000) d_Cl_act_745 (qm_5 (i := 163) rfl rfl) (by decide) (by decide) (?_ : WD _ _ 747 _ _ _ _ _ _)
      refine x_istore (ls' := [(6, vI (-10000000)), (9, vI 0), (8, vI y0), (0, vR 0), (1, vA x1), (5, vI x5), (7, vA a271)]) d_Cl_act_747 (by decide) rfl (?_ : WD _ _ 749 _ _ _ _ _ _)
      refine x_iload d_Cl_act_749 rfl (?_ : WD _ _ 751 _ _ _ _ _ _)
      refine x_if_eq 767 d_Cl_act_751 rfl ⟨fun hc => (?_ : WD _ _ 767 _ _ _ _ _ _), fun hc => absurd rfl hc⟩
      refine x_pick (ls' := [(0, vR 0), (5, vI x5), (6, vI (-10000000)), (8, vI y0)]) [3, 5, 0, 2] rfl ?_
      exact h
    · replace h := h.2 c273
      refine x_aload_nP (some x1) d_Cl_act_715 rfl (?_ : WD _ _ 716 _ _ _ _ _ _)
      obtain ⟨k274, h⟩ := h
      refine x_getP (ref := "CoinSamplerLaw$Books") (j := 1) 1 k274 clk_11 (by decide) (qm_2 (i := 158) rfl rfl) (Or.inl rfl) rfl rfl d_Cl_act_716 (y := (wR w x1 1)) rfl (?_ : WD _ _ 719 _ _ _ _ _ _)
      obtain ⟨a275, e276, h⟩ := h
      rw [e276]
      obtain ⟨k277, h⟩ := h
      refine x_callV (ν := M_Al_isEmpty) [] ok_M_Al_isEmpty okv_M_Al_isEmpty k277 rfl rfl (qm_3 (i := 230) rfl rfl) np_M_Al_isEmpty rfl ⟨Nat.le_of_ble_eq_true rfl, Nat.le_of_ble_eq_true rfl⟩ (Nat.le_of_ble_eq_true rfl) rfl d_Cl_act_719 (Nat.zero_le _) (Nat.zero_le _) (DI.k h (fun v279 w278 gw278 h => (?_ : WD _ _ 722 _ _ _ _ _ _)))
      refine x_if_eq 729 d_Cl_act_722 rfl ⟨fun c280 => (?_ : WD _ _ 729 _ _ _ _ _ _), fun c280 => (?_ : WD _ _ 725 _ _ _ _ _ _)⟩
      · replace h := h.1 c280
        refine x_iconst d_Cl_act_729 (by decide) (?_ : WD _ _ 730 _ _ _ _ _ _)
        refine x_istore (ls' := [(9, vI 0), (8, vI y0), (0, vR 0), (1, vA x1), (5, vI x5), (7, vA a271)]) d_Cl_act_730 (by decide) rfl (?_ : WD _ _ 732 _ _ _ _ _ _)
        refine x_iload d_Cl_act_732 rfl (?_ : WD _ _ 734 _ _ _ _ _ _)
        refine x_if_eq 745 d_Cl_act_734 rfl ⟨fun hc => (?_ : WD _ _ 745 _ _ _ _ _ _), fun hc => absurd rfl hc⟩
        refine x_ldc (-10000000) d_Cl_act_745 (qm_5 (i := 163) rfl rfl) (by decide) (by decide) (?_ : WD _ _ 747 _ _ _ _ _ _)
        refine x_istore (ls' := [(6, vI (-10000000)), (9, vI 0), (8, vI y0), (0, vR 0), (1, vA x1), (5, vI x5), (7, vA a271)]) d_Cl_act_747 (by decide) rfl (?_ : WD _ _ 749 _ _ _ _ _ _)
        refine x_iload d_Cl_act_749 rfl (?_ : WD _ _ 751 _ _ _ _ _ _)
        refine x_if_eq 767 d_Cl_act_751 rfl ⟨fun hc => (?_ : WD _ _ 767 _ _ _ _ _ _), fun hc => absurd rfl hc⟩
        refine x_pick (ls' := [(0, vR 0), (5, vI x5), (6, vI (-10000000)), (8, vI y0)]) [3, 5, 0, 2] rfl ?_
        exact h
      · replace h := h.2 c280
        refine x_iconst d_Cl_act_725 (by decide) (?_ : WD _ _ 726 _ _ _ _ _ _)
        refine x_goto 730 d_Cl_act_726 rfl ?_
        refine x_istore (ls' := [(9, vI 1), (8, vI y0), (0, vR 0), (1, vA x1), (5, vI x5), (7, vA a271)]) d_Cl_act_730 (by decide) rfl (?_ : WD _ _ 732 _ _ _ _ _ _)
        refine x_iload d_Cl_act_732 rfl (?_ : WD _ _ 734 _ _ _ _ _ _)
        refine x_if_eq 745 d_Cl_act_734 rfl ⟨fun hc => absurd hc (by decide), fun hc => (?_ : WD _ _ 737 _ _ _ _ _ _)⟩
        refine x_aloadP (some a271) d_Cl_act_737 rfl (?_ : WD _ _ 739 _ _ _ _ _ _)
        obtain ⟨k281, h⟩ := h
        refine x_getI (ref := "CoinSamplerLaw$Item") (j := 2) 2 k281 clk_13 (by decide) (qm_4 (i := 157) rfl rfl) (Or.inl rfl) rfl rfl d_Cl_act_739 (y := (wI w278 a271 2)) rfl (?_ : WD _ _ 742 _ _ _ _ _ _)
        refine x_goto 747 d_Cl_act_742 rfl ?_
        refine x_istore (ls' := [(6, vI (wI w278 a271 2)), (9, vI 1), (8, vI y0), (0, vR 0), (1, vA x1), (5, vI x5), (7, vA a271)]) d_Cl_act_747 (by decide) rfl (?_ : WD _ _ 749 _ _ _ _ _ _)
        refine x_iload d_Cl_act_749 rfl (?_ : WD _ _ 751 _ _ _ _ _ _)
        refine x_if_eq 767 d_Cl_act_751 rfl ⟨fun hc => absurd hc (by decide), fun hc => (?_ : WD _ _ 754 _ _ _ _ _ _)⟩
        refine x_aloadP (some a271) d_Cl_act_754 rfl (?_ : WD _ _ 756 _ _ _ _ _ _)
        refine x_iload d_Cl_act_756 rfl (?_ : WD _ _ 758 _ _ _ _ _ _)
        obtain ⟨k282, h⟩ := h
        refine x_putI (ref := "CoinSamplerLaw$Item") (j := 2) 2 k282 clk_13 (by decide) (qm_4 (i := 157) rfl rfl) (Or.inl rfl) (Or.inl rfl) tyX13_ok rfl nmX13 d_Cl_act_758 rfl rfl (fun _ => rfl) rfl (?_ : WD _ _ 761 _ _ _ _ _ _)
        refine x_aloadP (some a271) d_Cl_act_761 rfl (?_ : WD _ _ 763 _ _ _ _ _ _)
        refine x_iconst d_Cl_act_763 (by decide) (?_ : WD _ _ 764 _ _ _ _ _ _)
        refine x_putI (ref := "CoinSamplerLaw$Item") (j := 3) 3 k282 clk_13 (by decide) (qm_4 (i := 159) rfl rfl) (Or.inl rfl) (Or.inl rfl) tyX13_ok rfl nmX13 d_Cl_act_764 rfl rfl (fun _ => rfl) rfl (?_ : WD _ _ 767 _ _ _ _ _ _)
        refine x_pick (ls' := [(0, vR 0), (5, vI x5), (6, vI (wI w278 a271 2)), (8, vI y0)]) [3, 5, 0, 2] rfl ?_
        exact h
set_option maxRecDepth 20000 in
theorem l_Cl_act_19 {G : Gq} {K : Int → Wd → Prop} {w : Wd} {rc rs : Nat} (x5 : Int) (x7 : Option Nat) (y0 : Int) (h : (x7 = none → WD G M_Cl_act 954 [(0, vR 0), (5, vI x5), (7, vP none), (8, vI y0)] [vI (-2)] w rc rs (yI K)) ∧ (∀ a283 : Nat, x7 = some a283 → (y0 < 0 → WD G M_Cl_act 954 [(0, vR 0), (5, vI x5), (7, vP (some a283)), (8, vI y0)] [vI (-3)] w rc rs (yI K)) ∧ (¬ y0 < 0 → (Is G w a283 (kO 13)) ∧ (inR (2 * (wI w a283 2))) ∧ (y0 ≤ (2 * (wI w a283 2)) → (¬ (wI w a283 2) = 0 → WD G M_Cl_act 954 [(0, vR 0), (5, vI x5), (7, vP (some a283)), (8, vI y0)] [vI (wI w a283 3)] w rc rs (yI K)) ∧ ((wI w a283 2) = 0 → WD G M_Cl_act 954 [(0, vR 0), (5, vI x5), (7, vP (some a283)), (8, vI y0)] [vI (-5)] w rc rs (yI K))) ∧ (¬ y0 ≤ (2 * (wI w a283 2)) → WD G M_Cl_act 954 [(0, vR 0), (5, vI x5), (7, vP (some a283)), (8, vI y0)] [vI (-3)] w rc rs (yI K))))) : WD G M_Cl_act 902 [(0, vR 0), (5, vI x5), (7, vP x7)] [vI y0] w rc rs (yI K) := by
  refine x_istore (ls' := [(8, vI y0), (0, vR 0), (5, vI x5), (7, vP x7)]) d_Cl_act_902 (by decide) rfl (?_ : WD _ _ 904 _ _ _ _ _ _)
  refine x_aloadP x7 d_Cl_act_904 rfl (?_ : WD _ _ 906 _ _ _ _ _ _)
  refine x_ifnonnull 914 d_Cl_act_906 rfl ⟨fun e284 => (?_ : WD _ _ 909 _ _ _ _ _ _), fun a283 e284 => (?_ : WD _ _ 914 _ _ _ _ _ _)⟩
  · replace h := h.1 e284
    rw [e284]
    refine x_bipush d_Cl_act_909 (by decide) (by decide) (?_ : WD _ _ 911 _ _ _ _ _ _)
    refine x_goto 954 d_Cl_act_911 rfl ?_
    refine x_pick (ls' := [(0, vR 0), (5, vI x5), (7, vP none), (8, vI y0)]) [1, 2, 3, 0] rfl ?_
    exact h
  · replace h := h.2 a283 e284
    rw [e284]
    refine x_iload d_Cl_act_914 rfl (?_ : WD _ _ 916 _ _ _ _ _ _)
    refine x_if_lt 931 d_Cl_act_916 rfl ⟨fun c285 => (?_ : WD _ _ 931 _ _ _ _ _ _), fun c285 => (?_ : WD _ _ 919 _ _ _ _ _ _)⟩
    · replace h := h.1 c285
      refine x_bipush d_Cl_act_931 (by decide) (by decide) (?_ : WD _ _ 933 _ _ _ _ _ _)
      refine x_goto 954 d_Cl_act_933 rfl ?_
      refine x_pick (ls' := [(0, vR 0), (5, vI x5), (7, vP (some a283)), (8, vI y0)]) [1, 2, 3, 0] rfl ?_
      exact h
    · replace h := h.2 c285
      refine x_iload d_Cl_act_919 rfl (?_ : WD _ _ 921 _ _ _ _ _ _)
      refine x_iconst d_Cl_act_921 (by decide) (?_ : WD _ _ 922 _ _ _ _ _ _)
      refine x_aloadP (some a283) d_Cl_act_922 rfl (?_ : WD _ _ 924 _ _ _ _ _ _)
      obtain ⟨k286, h⟩ := h
      refine x_getI (ref := "CoinSamplerLaw$Item") (j := 2) 2 k286 clk_13 (by decide) (qm_4 (i := 157) rfl rfl) (Or.inl rfl) rfl rfl d_Cl_act_924 (y := (wI w a283 2)) rfl (?_ : WD _ _ 927 _ _ _ _ _ _)
      obtain ⟨h287, h⟩ := h
      refine x_imul d_Cl_act_927 h287 (?_ : WD _ _ 928 _ _ _ _ _ _)
      refine x_icmp_le 936 d_Cl_act_928 rfl ⟨fun c288 => (?_ : WD _ _ 936 _ _ _ _ _ _), fun c288 => (?_ : WD _ _ 931 _ _ _ _ _ _)⟩
      · replace h := h.1 c288
        refine x_aloadP (some a283) d_Cl_act_936 rfl (?_ : WD _ _ 938 _ _ _ _ _ _)
        refine x_getI (ref := "CoinSamplerLaw$Item") (j := 2) 2 k286 clk_13 (by decide) (qm_4 (i := 157) rfl rfl) (Or.inl rfl) rfl rfl d_Cl_act_938 (y := (wI w a283 2)) rfl (?_ : WD _ _ 941 _ _ _ _ _ _)
        refine x_if_ne 949 d_Cl_act_941 rfl ⟨fun c289 => (?_ : WD _ _ 949 _ _ _ _ _ _), fun c289 => (?_ : WD _ _ 944 _ _ _ _ _ _)⟩
        · replace h := h.1 c289
          refine x_aloadP (some a283) d_Cl_act_949 rfl (?_ : WD _ _ 951 _ _ _ _ _ _)
          refine x_getI (ref := "CoinSamplerLaw$Item") (j := 3) 3 k286 clk_13 (by decide) (qm_4 (i := 159) rfl rfl) (Or.inl rfl) rfl rfl d_Cl_act_951 (y := (wI w a283 3)) rfl (?_ : WD _ _ 954 _ _ _ _ _ _)
          refine x_pick (ls' := [(0, vR 0), (5, vI x5), (7, vP (some a283)), (8, vI y0)]) [1, 2, 3, 0] rfl ?_
          exact h
        · replace h := h.2 c289
          refine x_bipush d_Cl_act_944 (by decide) (by decide) (?_ : WD _ _ 946 _ _ _ _ _ _)
          refine x_goto 954 d_Cl_act_946 rfl ?_
          refine x_pick (ls' := [(0, vR 0), (5, vI x5), (7, vP (some a283)), (8, vI y0)]) [1, 2, 3, 0] rfl ?_
          exact h
      · replace h := h.2 c288
        refine x_bipush d_Cl_act_931 (by decide) (by decide) (?_ : WD _ _ 933 _ _ _ _ _ _)
        refine x_goto 954 d_Cl_act_933 rfl ?_
        refine x_pick (ls' := [(0, vR 0), (5, vI x5), (7, vP (some a283)), (8, vI y0)]) [1, 2, 3, 0] rfl ?_
        exact h
set_option maxRecDepth 20000 in
theorem l_Cl_act_24 {G : Gq} {K : Int → Wd → Prop} {w : Wd} {rc rs : Nat} (x1 : Nat) (y0 : Int) (h : (y0 < 1 → WD G M_Cl_act 1193 [(0, vR 0), (6, vI (-3)), (8, vI y0)] [] w rc rs (yI K)) ∧ (¬ y0 < 1 → (y0 ≤ 99999 → (Is G w x1 (kO 11)) ∧ ∃ a293 : Nat, (wR w x1 1) = some a293 ∧ ((Is G w a293 (kO 14)) ∧ DI G M_Al_isEmpty [vA a293] w 0 0 (fun v297 w296 => (¬ v297 = 0 → (Ow w296 x1 (kO 11)) ∧ ∃ a300 : Nat, (wR w296 x1 0) = some a300 ∧ (∃ c302 s303 : Nat, c302 ≤ rc ∧ s303 ≤ rs ∧ ((Is G (uI w296 x1 3 y0) a300 (kO 14)) ∧ DP G M_Al_iterator [vA a300] (uI w296 x1 3 y0) c302 s303 (fun v308 w307 => WD G M_Cl_act 1149 [(0, vR 0), (1, vA x1), (6, vI 0), (8, vI y0), (9, vP v308)] [] w307 (rc - c302) (rs - s303) (yI K))))) ∧ (v297 = 0 → WD G M_Cl_act 1193 [(0, vR 0), (6, vI (-5)), (8, vI y0)] [] w296 rc rs (yI K))))) ∧ (¬ y0 ≤ 99999 → WD G M_Cl_act 1193 [(0, vR 0), (6, vI (-3)), (8, vI y0)] [] w rc rs (yI K)))) : WD G M_Cl_act 1091 [(0, vR 0), (1, vA x1)] [vI y0] w rc rs (yI K) := by
  refine x_istore (ls' := [(8, vI y0), (0, vR 0), (1, vA x1)]) d_Cl_act_1091 (by decide) rfl (?_ : WD _ _ 1093 _ _ _ _ _ _)
  refine x_iload d_Cl_act_1093 rfl (?_ : WD _ _ 1095 _ _ _ _ _ _)
  refine x_iconst d_Cl_act_1095 (by decide) (?_ : WD _ _ 1096 _ _ _ _ _ _)
  refine x_icmp_lt 1106 d_Cl_act_1096 rfl ⟨fun c290 => (?_ : WD _ _ 1106 _ _ _ _ _ _), fun c290 => (?_ : WD _ _ 1099 _ _ _ _ _ _)⟩
  · replace h := h.1 c290
    refine x_bipush d_Cl_act_1106 (by decide) (by decide) (?_ : WD _ _ 1108 _ _ _ _ _ _)
    refine x_goto 1127 d_Cl_act_1108 rfl ?_
    refine x_istore (ls' := [(6, vI (-3)), (8, vI y0), (0, vR 0), (1, vA x1)]) d_Cl_act_1127 (by decide) rfl (?_ : WD _ _ 1129 _ _ _ _ _ _)
    refine x_iload d_Cl_act_1129 rfl (?_ : WD _ _ 1131 _ _ _ _ _ _)
    refine x_if_ne 1193 d_Cl_act_1131 rfl ⟨fun hc => (?_ : WD _ _ 1193 _ _ _ _ _ _), fun hc => absurd hc (by decide)⟩
    refine x_pick (ls' := [(0, vR 0), (6, vI (-3)), (8, vI y0)]) [2, 0, 1] rfl ?_
    exact h
  · replace h := h.2 c290
    refine x_iload d_Cl_act_1099 rfl (?_ : WD _ _ 1101 _ _ _ _ _ _)
    refine x_ldc 99999 d_Cl_act_1101 (qm_5 (i := 149) rfl rfl) (by decide) (by decide) (?_ : WD _ _ 1103 _ _ _ _ _ _)
    refine x_icmp_le 1111 d_Cl_act_1103 rfl ⟨fun c291 => (?_ : WD _ _ 1111 _ _ _ _ _ _), fun c291 => (?_ : WD _ _ 1106 _ _ _ _ _ _)⟩
    · replace h := h.1 c291
      refine x_aload_nP (some x1) d_Cl_act_1111 rfl (?_ : WD _ _ 1112 _ _ _ _ _ _)
      obtain ⟨k292, h⟩ := h
      refine x_getP (ref := "CoinSamplerLaw$Books") (j := 1) 1 k292 clk_11 (by decide) (qm_2 (i := 158) rfl rfl) (Or.inl rfl) rfl rfl d_Cl_act_1112 (y := (wR w x1 1)) rfl (?_ : WD _ _ 1115 _ _ _ _ _ _)
      obtain ⟨a293, e294, h⟩ := h
      rw [e294]
      obtain ⟨k295, h⟩ := h
      refine x_callV (ν := M_Al_isEmpty) [] ok_M_Al_isEmpty okv_M_Al_isEmpty k295 rfl rfl (qm_3 (i := 230) rfl rfl) np_M_Al_isEmpty rfl ⟨Nat.le_of_ble_eq_true rfl, Nat.le_of_ble_eq_true rfl⟩ (Nat.le_of_ble_eq_true rfl) rfl d_Cl_act_1115 (Nat.zero_le _) (Nat.zero_le _) (DI.k h (fun v297 w296 gw296 h => (?_ : WD _ _ 1118 _ _ _ _ _ _)))
      refine x_if_ne 1126 d_Cl_act_1118 rfl ⟨fun c298 => (?_ : WD _ _ 1126 _ _ _ _ _ _), fun c298 => (?_ : WD _ _ 1121 _ _ _ _ _ _)⟩
      · replace h := h.1 c298
        refine x_iconst d_Cl_act_1126 (by decide) (?_ : WD _ _ 1127 _ _ _ _ _ _)
        refine x_istore (ls' := [(6, vI 0), (8, vI y0), (0, vR 0), (1, vA x1)]) d_Cl_act_1127 (by decide) rfl (?_ : WD _ _ 1129 _ _ _ _ _ _)
        refine x_iload d_Cl_act_1129 rfl (?_ : WD _ _ 1131 _ _ _ _ _ _)
        refine x_if_ne 1193 d_Cl_act_1131 rfl ⟨fun hc => absurd rfl hc, fun hc => (?_ : WD _ _ 1134 _ _ _ _ _ _)⟩
        refine x_aload_nP (some x1) d_Cl_act_1134 rfl (?_ : WD _ _ 1135 _ _ _ _ _ _)
        refine x_iload d_Cl_act_1135 rfl (?_ : WD _ _ 1137 _ _ _ _ _ _)
        obtain ⟨k299, h⟩ := h
        refine x_putI (ref := "CoinSamplerLaw$Books") (j := 3) 3 k299 clk_11 (by decide) (qm_2 (i := 162) rfl rfl) (Or.inl rfl) (Or.inl rfl) tyX11_ok rfl nmX11 d_Cl_act_1137 rfl rfl (fun _ => rfl) rfl (?_ : WD _ _ 1140 _ _ _ _ _ _)
        refine x_aload_nP (some x1) d_Cl_act_1140 rfl (?_ : WD _ _ 1141 _ _ _ _ _ _)
        refine x_getP (ref := "CoinSamplerLaw$Books") (j := 0) 0 k299.is clk_11 (by decide) (qm_2 (i := 156) rfl rfl) (Or.inl rfl) rfl rfl d_Cl_act_1141 (y := (wR w296 x1 0)) rfl (?_ : WD _ _ 1144 _ _ _ _ _ _)
        obtain ⟨a300, e301, h⟩ := h
        rw [e301]
        obtain ⟨c302, s303, h304, h305, h⟩ := h
        obtain ⟨k306, h⟩ := h
        refine x_callV (ν := M_Al_iterator) [] ok_M_Al_iterator okv_M_Al_iterator k306 rfl rfl (qm_5 (i := 180) rfl rfl) np_M_Al_iterator rfl ⟨Nat.le_of_ble_eq_true rfl, Nat.le_of_ble_eq_true rfl⟩ (Nat.le_of_ble_eq_true rfl) rfl d_Cl_act_1144 h304 h305 (DP.k h (fun v308 w307 gw307 h => (?_ : WD _ _ 1147 _ _ _ _ _ _)))
        refine x_astoreP v308 (ls' := [(9, vP v308), (6, vI 0), (8, vI y0), (0, vR 0), (1, vA x1)]) d_Cl_act_1147 (by decide) rfl (?_ : WD _ _ 1149 _ _ _ _ _ _)
        refine x_pick (ls' := [(0, vR 0), (1, vA x1), (6, vI 0), (8, vI y0), (9, vP v308)]) [3, 4, 1, 2, 0] rfl ?_
        exact h
      · replace h := h.2 c298
        refine x_bipush d_Cl_act_1121 (by decide) (by decide) (?_ : WD _ _ 1123 _ _ _ _ _ _)
        refine x_goto 1127 d_Cl_act_1123 rfl ?_
        refine x_istore (ls' := [(6, vI (-5)), (8, vI y0), (0, vR 0), (1, vA x1)]) d_Cl_act_1127 (by decide) rfl (?_ : WD _ _ 1129 _ _ _ _ _ _)
        refine x_iload d_Cl_act_1129 rfl (?_ : WD _ _ 1131 _ _ _ _ _ _)
        refine x_if_ne 1193 d_Cl_act_1131 rfl ⟨fun hc => (?_ : WD _ _ 1193 _ _ _ _ _ _), fun hc => absurd hc (by decide)⟩
        refine x_pick (ls' := [(0, vR 0), (6, vI (-5)), (8, vI y0)]) [2, 0, 1] rfl ?_
        exact h
    · replace h := h.2 c291
      refine x_bipush d_Cl_act_1106 (by decide) (by decide) (?_ : WD _ _ 1108 _ _ _ _ _ _)
      refine x_goto 1127 d_Cl_act_1108 rfl ?_
      refine x_istore (ls' := [(6, vI (-3)), (8, vI y0), (0, vR 0), (1, vA x1)]) d_Cl_act_1127 (by decide) rfl (?_ : WD _ _ 1129 _ _ _ _ _ _)
      refine x_iload d_Cl_act_1129 rfl (?_ : WD _ _ 1131 _ _ _ _ _ _)
      refine x_if_ne 1193 d_Cl_act_1131 rfl ⟨fun hc => (?_ : WD _ _ 1193 _ _ _ _ _ _), fun hc => absurd hc (by decide)⟩
      refine x_pick (ls' := [(0, vR 0), (6, vI (-3)), (8, vI y0)]) [2, 0, 1] rfl ?_
      exact h
set_option maxRecDepth 20000 in
theorem l_Cl_act_30 {G : Gq} {K : Int → Wd → Prop} {w : Wd} {rc rs : Nat} (y0 : Int) (h : CI M_Cs_draw [vR 0] (wS w) (fun v309 σ310 => (¬ v309 = y0 → K 0 (uS w σ310)) ∧ (v309 = y0 → K 1 (uS w σ310)))) : WD G M_Cl_act 1388 [(0, vR 0)] [vI y0] w rc rs (yI K) := by
  refine x_istore (ls' := [(6, vI y0), (0, vR 0)]) d_Cl_act_1388 (by decide) rfl (?_ : WD _ _ 1390 _ _ _ _ _ _)
  refine x_aload_n d_Cl_act_1390 rfl (?_ : WD _ _ 1391 _ _ _ _ _ _)
  refine x_callC (ν := M_Cs_draw) (k := 0) [] ok_M_Cs_draw okv_M_Cs_draw (by decide) rfl rfl rfl (qm_6 (i := 69) rfl rfl) np_M_Cs_draw rfl ⟨Nat.le_of_ble_eq_true rfl, Nat.le_of_ble_eq_true rfl⟩ (Nat.le_of_ble_eq_true rfl) rfl d_Cl_act_1391 (CI.kd h (fun v309 σ310 h => (?_ : WD _ _ 1394 _ _ _ _ _ _)))
  refine x_iload d_Cl_act_1394 rfl (?_ : WD _ _ 1396 _ _ _ _ _ _)
  refine x_icmp_ne 1403 d_Cl_act_1396 rfl ⟨fun c311 => (?_ : WD _ _ 1403 _ _ _ _ _ _), fun c311 => (?_ : WD _ _ 1399 _ _ _ _ _ _)⟩
  · replace h := h.1 c311
    refine x_iconst d_Cl_act_1403 (by decide) (?_ : WD _ _ 1404 _ _ _ _ _ _)
    exact x_zreturn rfl d_Cl_act_1404 (by decide) h
  · replace h := h.2 c311
    refine x_iconst d_Cl_act_1399 (by decide) (?_ : WD _ _ 1400 _ _ _ _ _ _)
    refine x_goto 1404 d_Cl_act_1400 rfl ?_
    exact x_zreturn rfl d_Cl_act_1404 (by decide) h
set_option maxRecDepth 20000 in
theorem l_Cl_act_6 {G : Gq} {K : Int → Wd → Prop} {w : Wd} {rc rs : Nat} (x1 : Nat) (x8 : Int) (x9 : Int) (y0 : Int) (h : (¬ x8 = 5 → (y0 = 0 → WD G M_Cl_act 408 [(0, vR 0), (1, vA x1), (8, vI x8), (9, vI x9), (10, vI y0)] [vI (-3)] w rc rs (yI K)) ∧ (¬ y0 = 0 → (Is G w x1 (kO 11)) ∧ ∃ a315 : Nat, (wR w x1 2) = some a315 ∧ (∃ n317 : Nat, ((Is G w a315 (kA 0 n317)) ∧ (0 ≤ x8) ∧ (x8 < (n317 : Int)) ∧ WD G M_Cl_act 408 [(0, vR 0), (1, vA x1), (8, vI x8), (9, vI x9), (10, vI y0)] [vI (wI w a315 x8)] w rc rs (yI K))))) ∧ (x8 = 5 → WD G M_Cl_act 408 [(0, vR 0), (1, vA x1), (8, vI x8), (9, vI x9), (10, vI y0)] [vI (-2)] w rc rs (yI K))) : WD G M_Cl_act 378 [(0, vR 0), (1, vA x1), (8, vI x8), (9, vI x9)] [vI y0] w rc rs (yI K) := by
  refine x_istore (ls' := [(10, vI y0), (0, vR 0), (1, vA x1), (8, vI x8), (9, vI x9)]) d_Cl_act_378 (by decide) rfl (?_ : WD _ _ 380 _ _ _ _ _ _)
  refine x_iload d_Cl_act_380 rfl (?_ : WD _ _ 382 _ _ _ _ _ _)
  refine x_iconst d_Cl_act_382 (by decide) (?_ : WD _ _ 383 _ _ _ _ _ _)
  refine x_icmp_ne 391 d_Cl_act_383 rfl ⟨fun c312 => (?_ : WD _ _ 391 _ _ _ _ _ _), fun c312 => (?_ : WD _ _ 386 _ _ _ _ _ _)⟩
  · replace h := h.1 c312
    refine x_iload d_Cl_act_391 rfl (?_ : WD _ _ 393 _ _ _ _ _ _)
    refine x_if_eq 406 d_Cl_act_393 rfl ⟨fun c313 => (?_ : WD _ _ 406 _ _ _ _ _ _), fun c313 => (?_ : WD _ _ 396 _ _ _ _ _ _)⟩
    · replace h := h.1 c313
      refine x_bipush d_Cl_act_406 (by decide) (by decide) (?_ : WD _ _ 408 _ _ _ _ _ _)
      refine x_pick (ls' := [(0, vR 0), (1, vA x1), (8, vI x8), (9, vI x9), (10, vI y0)]) [1, 2, 3, 4, 0] rfl ?_
      exact h
    · replace h := h.2 c313
      refine x_aload_nP (some x1) d_Cl_act_396 rfl (?_ : WD _ _ 397 _ _ _ _ _ _)
      obtain ⟨k314, h⟩ := h
      refine x_getP (ref := "CoinSamplerLaw$Books") (j := 2) 2 k314 clk_11 (by decide) (qm_2 (i := 160) rfl rfl) (Or.inl rfl) rfl rfl d_Cl_act_397 (y := (wR w x1 2)) rfl (?_ : WD _ _ 400 _ _ _ _ _ _)
      refine x_iload d_Cl_act_400 rfl (?_ : WD _ _ 402 _ _ _ _ _ _)
      obtain ⟨a315, e316, h⟩ := h
      rw [e316]
      obtain ⟨n317, h⟩ := h
      obtain ⟨k318, h⟩ := h
      obtain ⟨h319, h⟩ := h
      obtain ⟨h320, h⟩ := h
      refine x_iald k318 d_Cl_act_402 h319 h320 (y := (wI w a315 x8)) rfl (?_ : WD _ _ 403 _ _ _ _ _ _)
      refine x_goto 408 d_Cl_act_403 rfl ?_
      refine x_pick (ls' := [(0, vR 0), (1, vA x1), (8, vI x8), (9, vI x9), (10, vI y0)]) [1, 2, 3, 4, 0] rfl ?_
      exact h
  · replace h := h.2 c312
    refine x_bipush d_Cl_act_386 (by decide) (by decide) (?_ : WD _ _ 388 _ _ _ _ _ _)
    refine x_goto 408 d_Cl_act_388 rfl ?_
    refine x_pick (ls' := [(0, vR 0), (1, vA x1), (8, vI x8), (9, vI x9), (10, vI y0)]) [1, 2, 3, 4, 0] rfl ?_
    exact h
set_option maxRecDepth 20000 in
theorem l_Cl_act_11 {G : Gq} {K : Int → Wd → Prop} {w : Wd} {rc rs : Nat} (x1 : Nat) (x2 : Nat) (x4 : Int) (x8 : Int) (y0 : Int) (h : DI G M_Cl_draw [vA x2, vI 30] w 0 0 (fun v322 w321 => (¬ v322 = 0 → DI G M_Cl_draw [vA x2, vI 200] w321 0 0 (fun v325 w324 => (inR (v325 - 20)) ∧ WD G M_Cl_act 535 [(0, vR 0), (1, vA x1), (4, vI x4), (8, vI x8), (9, vI y0)] [vI (v325 - 20)] w324 rc rs (yI K))) ∧ (v322 = 0 → WD G M_Cl_act 535 [(0, vR 0), (1, vA x1), (4, vI x4), (8, vI x8), (9, vI y0)] [vI 100000] w321 rc rs (yI K)))) : WD G M_Cl_act 509 [(0, vR 0), (1, vA x1), (2, vA x2), (4, vI x4), (8, vI x8)] [vI y0] w rc rs (yI K) := by
  refine x_istore (ls' := [(9, vI y0), (0, vR 0), (1, vA x1), (2, vA x2), (4, vI x4), (8, vI x8)]) d_Cl_act_509 (by decide) rfl (?_ : WD _ _ 511 _ _ _ _ _ _)
  refine x_aload_nP (some x2) d_Cl_act_511 rfl (?_ : WD _ _ 512 _ _ _ _ _ _)
  refine x_bipush d_Cl_act_512 (by decide) (by decide) (?_ : WD _ _ 514 _ _ _ _ _ _)
  refine x_callS (ν := M_Cl_draw) [vA x2, vI 30] ok_M_Cl_draw oks_M_Cl_draw (qm_3 (i := 179) rfl rfl) np_M_Cl_draw rfl ⟨Nat.le_of_ble_eq_true rfl, Nat.le_of_ble_eq_true rfl⟩ (Nat.le_of_ble_eq_true rfl) rfl d_Cl_act_514 (Nat.zero_le _) (Nat.zero_le _) (DI.k h (fun v322 w321 gw321 h => (?_ : WD _ _ 517 _ _ _ _ _ _)))
  refine x_if_ne 525 d_Cl_act_517 rfl ⟨fun c323 => (?_ : WD _ _ 525 _ _ _ _ _ _), fun c323 => (?_ : WD _ _ 520 _ _ _ _ _ _)⟩
  · replace h := h.1 c323
    refine x_aload_nP (some x2) d_Cl_act_525 rfl (?_ : WD _ _ 526 _ _ _ _ _ _)
    refine x_sipush d_Cl_act_526 (by decide) (by decide) (?_ : WD _ _ 529 _ _ _ _ _ _)
    refine x_callS (ν := M_Cl_draw) [vA x2, vI 200] ok_M_Cl_draw oks_M_Cl_draw (qm_3 (i := 179) rfl rfl) np_M_Cl_draw rfl ⟨Nat.le_of_ble_eq_true rfl, Nat.le_of_ble_eq_true rfl⟩ (Nat.le_of_ble_eq_true rfl) rfl d_Cl_act_529 (Nat.zero_le _) (Nat.zero_le _) (DI.k h (fun v325 w324 gw324 h => (?_ : WD _ _ 532 _ _ _ _ _ _)))
    refine x_bipush d_Cl_act_532 (by decide) (by decide) (?_ : WD _ _ 534 _ _ _ _ _ _)
    obtain ⟨h326, h⟩ := h
    refine x_isub d_Cl_act_534 h326 (?_ : WD _ _ 535 _ _ _ _ _ _)
    refine x_pick (ls' := [(0, vR 0), (1, vA x1), (4, vI x4), (8, vI x8), (9, vI y0)]) [1, 2, 4, 5, 0] rfl ?_
    exact h
  · replace h := h.2 c323
    refine x_ldc 100000 d_Cl_act_520 (qm_5 (i := 148) rfl rfl) (by decide) (by decide) (?_ : WD _ _ 522 _ _ _ _ _ _)
    refine x_goto 535 d_Cl_act_522 rfl ?_
    refine x_pick (ls' := [(0, vR 0), (1, vA x1), (4, vI x4), (8, vI x8), (9, vI y0)]) [1, 2, 4, 5, 0] rfl ?_
    exact h
set_option maxRecDepth 20000 in
theorem l_Cl_act_17 {G : Gq} {K : Int → Wd → Prop} {w : Wd} {rc rs : Nat} (x5 : Int) (x6 : Int) (x8 : Int) (h : CI M_Cs_post [vR 0, vI x5, vI x8] (wS w) (fun v327 σ328 => (¬ v327 = x6 → K 0 (uS w σ328)) ∧ (v327 = x6 → K 1 (uS w σ328)))) : WD G M_Cl_act 767 [(0, vR 0), (5, vI x5), (6, vI x6), (8, vI x8)] [] w rc rs (yI K) := by
  refine x_aload_n d_Cl_act_767 rfl (?_ : WD _ _ 768 _ _ _ _ _ _)
  refine x_iload d_Cl_act_768 rfl (?_ : WD _ _ 770 _ _ _ _ _ _)
  refine x_iload d_Cl_act_770 rfl (?_ : WD _ _ 772 _ _ _ _ _ _)
  refine x_callC (ν := M_Cs_post) (k := 0) [vI x5, vI x8] ok_M_Cs_post okv_M_Cs_post (by decide) rfl rfl rfl (qm_5 (i := 164) rfl rfl) np_M_Cs_post rfl ⟨Nat.le_of_ble_eq_true rfl, Nat.le_of_ble_eq_true rfl⟩ (Nat.le_of_ble_eq_true rfl) rfl d_Cl_act_772 (CI.kd h (fun v327 σ328 h => (?_ : WD _ _ 775 _ _ _ _ _ _)))
  refine x_iload d_Cl_act_775 rfl (?_ : WD _ _ 777 _ _ _ _ _ _)
  refine x_icmp_ne 784 d_Cl_act_777 rfl ⟨fun c329 => (?_ : WD _ _ 784 _ _ _ _ _ _), fun c329 => (?_ : WD _ _ 780 _ _ _ _ _ _)⟩
  · replace h := h.1 c329
    refine x_iconst d_Cl_act_784 (by decide) (?_ : WD _ _ 785 _ _ _ _ _ _)
    exact x_zreturn rfl d_Cl_act_785 (by decide) h
  · replace h := h.2 c329
    refine x_iconst d_Cl_act_780 (by decide) (?_ : WD _ _ 781 _ _ _ _ _ _)
    refine x_goto 785 d_Cl_act_781 rfl ?_
    exact x_zreturn rfl d_Cl_act_785 (by decide) h
set_option maxRecDepth 20000 in
theorem l_Cl_act_20 {G : Gq} {K : Int → Wd → Prop} {w : Wd} {rc rs : Nat} (x5 : Int) (x7 : Option Nat) (x8 : Int) (y0 : Int) (h : (y0 < (-1) → WD G M_Cl_act 974 [(0, vR 0), (5, vI x5), (6, vI y0), (8, vI x8)] [] w rc rs (yI K)) ∧ (¬ y0 < (-1) → (x7 = none → WD G M_Cl_act 974 [(0, vR 0), (5, vI x5), (6, vI y0), (8, vI x8)] [] w rc rs (yI K)) ∧ (∀ a331 : Nat, x7 = some a331 → (Ow w a331 (kO 13)) ∧ WD G M_Cl_act 974 [(0, vR 0), (5, vI x5), (6, vI y0), (8, vI x8)] [] (uI w a331 3 x8) rc rs (yI K)))) : WD G M_Cl_act 954 [(0, vR 0), (5, vI x5), (7, vP x7), (8, vI x8)] [vI y0] w rc rs (yI K) := by
  refine x_istore (ls' := [(6, vI y0), (0, vR 0), (5, vI x5), (7, vP x7), (8, vI x8)]) d_Cl_act_954 (by decide) rfl (?_ : WD _ _ 956 _ _ _ _ _ _)
  refine x_iload d_Cl_act_956 rfl (?_ : WD _ _ 958 _ _ _ _ _ _)
  refine x_iconst d_Cl_act_958 (by decide) (?_ : WD _ _ 959 _ _ _ _ _ _)
  refine x_icmp_lt 974 d_Cl_act_959 rfl ⟨fun c330 => (?_ : WD _ _ 974 _ _ _ _ _ _), fun c330 => (?_ : WD _ _ 962 _ _ _ _ _ _)⟩
  · replace h := h.1 c330
    refine x_pick (ls' := [(0, vR 0), (5, vI x5), (6, vI y0), (8, vI x8)]) [1, 2, 0, 4] rfl ?_
    exact h
  · replace h := h.2 c330
    refine x_aloadP x7 d_Cl_act_962 rfl (?_ : WD _ _ 964 _ _ _ _ _ _)
    refine x_ifnull 974 d_Cl_act_964 rfl ⟨fun e332 => (?_ : WD _ _ 974 _ _ _ _ _ _), fun a331 e332 => (?_ : WD _ _ 967 _ _ _ _ _ _)⟩
    · replace h := h.1 e332
      rw [e332]
      refine x_pick (ls' := [(0, vR 0), (5, vI x5), (6, vI y0), (8, vI x8)]) [1, 2, 0, 4] rfl ?_
      exact h
    · replace h := h.2 a331 e332
      rw [e332]
      refine x_aloadP (some a331) d_Cl_act_967 rfl (?_ : WD _ _ 969 _ _ _ _ _ _)
      refine x_iload d_Cl_act_969 rfl (?_ : WD _ _ 971 _ _ _ _ _ _)
      obtain ⟨k333, h⟩ := h
      refine x_putI (ref := "CoinSamplerLaw$Item") (j := 3) 3 k333 clk_13 (by decide) (qm_4 (i := 159) rfl rfl) (Or.inl rfl) (Or.inl rfl) tyX13_ok rfl nmX13 d_Cl_act_971 rfl rfl (fun _ => rfl) rfl (?_ : WD _ _ 974 _ _ _ _ _ _)
      refine x_pick (ls' := [(0, vR 0), (5, vI x5), (6, vI y0), (8, vI x8)]) [1, 2, 0, 4] rfl ?_
      exact h
set_option maxRecDepth 20000 in
theorem l_Cl_act_25 {G : Gq} {K : Int → Wd → Prop} {w : Wd} {rc rs : Nat} (x1 : Nat) (x6 : Int) (x8 : Int) (x9 : Option Nat) (h : ∃ a334 : Nat, x9 = some a334 ∧ ((Is G w a334 (kO 15)) ∧ DI G M_Ai_hasNext [vA a334] w 0 0 (fun v338 w337 => (v338 = 0 → WD G M_Cl_act 1193 [(0, vR 0), (6, vI x6), (8, vI x8)] [] w337 rc rs (yI K)) ∧ (¬ v338 = 0 → DP G M_Ai_next [vA a334] w337 0 0 (fun v341 w340 => ∃ a342 : Nat, v341 = some a342 ∧ ((Is G w340 a342 (kO 13)) ∧ (Is G w340 x1 (kO 11)) ∧ DI G M_Bo_certain [vA x1, vA a342] w340 0 0 (fun v347 w346 => (v347 = 0 → (inR (x6 + 0)) ∧ WD G M_Cl_act 1149 [(0, vR 0), (1, vA x1), (6, vI (x6 + 0)), (8, vI x8), (9, vP (some a334))] [] w346 rc rs (yI K)) ∧ (¬ v347 = 0 → (inR (x6 + 1)) ∧ WD G M_Cl_act 1149 [(0, vR 0), (1, vA x1), (6, vI (x6 + 1)), (8, vI x8), (9, vP (some a334))] [] w346 rc rs (yI K))))))))) : WD G M_Cl_act 1149 [(0, vR 0), (1, vA x1), (6, vI x6), (8, vI x8), (9, vP x9)] [] w rc rs (yI K) := by
  refine x_aloadP x9 d_Cl_act_1149 rfl (?_ : WD _ _ 1151 _ _ _ _ _ _)
  obtain ⟨a334, e335, h⟩ := h
  rw [e335]
  obtain ⟨k336, h⟩ := h
  refine x_callF (ν := M_Ai_hasNext) ⟨"java/util/Iterator", "hasNext", "()Z"⟩ [] ok_M_Ai_hasNext oki_M_Ai_hasNext k336 rfl (qm_2 (i := 226) rfl rfl) (by decide) (qm_5 (i := 182) rfl rfl) (show _ = some 0 from by decide +kernel) rfl ⟨Nat.le_of_ble_eq_true rfl, Nat.le_of_ble_eq_true rfl⟩ (Nat.le_of_ble_eq_true rfl) rfl d_Cl_act_1151 (Nat.zero_le _) (Nat.zero_le _) (DI.k h (fun v338 w337 gw337 h => (?_ : WD _ _ 1156 _ _ _ _ _ _)))
  refine x_if_eq 1193 d_Cl_act_1156 rfl ⟨fun c339 => (?_ : WD _ _ 1193 _ _ _ _ _ _), fun c339 => (?_ : WD _ _ 1159 _ _ _ _ _ _)⟩
  · replace h := h.1 c339
    refine x_pick (ls' := [(0, vR 0), (6, vI x6), (8, vI x8)]) [0, 2, 3] rfl ?_
    exact h
  · replace h := h.2 c339
    refine x_aloadP (some a334) d_Cl_act_1159 rfl (?_ : WD _ _ 1161 _ _ _ _ _ _)
    refine x_callF (ν := M_Ai_next) ⟨"java/util/Iterator", "next", "()Ljava/lang/Object;"⟩ [] ok_M_Ai_next oki_M_Ai_next (k336.q gw337.k) rfl (qm_3 (i := 7) rfl rfl) (by decide) (qm_5 (i := 184) rfl rfl) (show _ = some 0 from by decide +kernel) rfl ⟨Nat.le_of_ble_eq_true rfl, Nat.le_of_ble_eq_true rfl⟩ (Nat.le_of_ble_eq_true rfl) rfl d_Cl_act_1161 (Nat.zero_le _) (Nat.zero_le _) (DP.k h (fun v341 w340 gw340 h => (?_ : WD _ _ 1166 _ _ _ _ _ _)))
    obtain ⟨a342, e343, h⟩ := h
    rw [e343]
    obtain ⟨k344, h⟩ := h
    refine x_cast k344 rfl (Or.inl rfl) (qm_3 (i := 184) rfl rfl) d_Cl_act_1166 (?_ : WD _ _ 1169 _ _ _ _ _ _)
    refine x_astoreP (some a342) (ls' := [(10, vA a342), (0, vR 0), (1, vA x1), (6, vI x6), (8, vI x8), (9, vA a334)]) d_Cl_act_1169 (by decide) rfl (?_ : WD _ _ 1171 _ _ _ _ _ _)
    refine x_iload d_Cl_act_1171 rfl (?_ : WD _ _ 1173 _ _ _ _ _ _)
    refine x_aload_nP (some x1) d_Cl_act_1173 rfl (?_ : WD _ _ 1174 _ _ _ _ _ _)
    refine x_aloadP (some a342) d_Cl_act_1174 rfl (?_ : WD _ _ 1176 _ _ _ _ _ _)
    obtain ⟨k345, h⟩ := h
    refine x_callV (ν := M_Bo_certain) [vA a342] ok_M_Bo_certain okv_M_Bo_certain k345 rfl rfl (qm_5 (i := 185) rfl rfl) np_M_Bo_certain rfl ⟨Nat.le_of_ble_eq_true rfl, Nat.le_of_ble_eq_true rfl⟩ (Nat.le_of_ble_eq_true rfl) rfl d_Cl_act_1176 (Nat.zero_le _) (Nat.zero_le _) (DI.k h (fun v347 w346 gw346 h => (?_ : WD _ _ 1179 _ _ _ _ _ _)))
    refine x_if_eq 1186 d_Cl_act_1179 rfl ⟨fun c348 => (?_ : WD _ _ 1186 _ _ _ _ _ _), fun c348 => (?_ : WD _ _ 1182 _ _ _ _ _ _)⟩
    · replace h := h.1 c348
      refine x_iconst d_Cl_act_1186 (by decide) (?_ : WD _ _ 1187 _ _ _ _ _ _)
      obtain ⟨h349, h⟩ := h
      refine x_iadd d_Cl_act_1187 h349 (?_ : WD _ _ 1188 _ _ _ _ _ _)
      refine x_istore (ls' := [(6, vI (x6 + 0)), (10, vA a342), (0, vR 0), (1, vA x1), (8, vI x8), (9, vA a334)]) d_Cl_act_1188 (by decide) rfl (?_ : WD _ _ 1190 _ _ _ _ _ _)
      refine x_goto 1149 d_Cl_act_1190 rfl ?_
      refine x_pick (ls' := [(0, vR 0), (1, vA x1), (6, vI (x6 + 0)), (8, vI x8), (9, vP (some a334))]) [2, 3, 0, 4, 5] rfl ?_
      exact h
    · replace h := h.2 c348
      refine x_iconst d_Cl_act_1182 (by decide) (?_ : WD _ _ 1183 _ _ _ _ _ _)
      refine x_goto 1187 d_Cl_act_1183 rfl ?_
      obtain ⟨h350, h⟩ := h
      refine x_iadd d_Cl_act_1187 h350 (?_ : WD _ _ 1188 _ _ _ _ _ _)
      refine x_istore (ls' := [(6, vI (x6 + 1)), (10, vA a342), (0, vR 0), (1, vA x1), (8, vI x8), (9, vA a334)]) d_Cl_act_1188 (by decide) rfl (?_ : WD _ _ 1190 _ _ _ _ _ _)
      refine x_goto 1149 d_Cl_act_1190 rfl ?_
      refine x_pick (ls' := [(0, vR 0), (1, vA x1), (6, vI (x6 + 1)), (8, vI x8), (9, vP (some a334))]) [2, 3, 0, 4, 5] rfl ?_
      exact h
set_option maxRecDepth 20000 in
theorem l_Cl_act_26 {G : Gq} {K : Int → Wd → Prop} {w : Wd} {rc rs : Nat} (x6 : Int) (x8 : Int) (h : CI M_Cs_interval [vR 0, vI x8] (wS w) (fun v351 σ352 => (¬ v351 = x6 → K 0 (uS w σ352)) ∧ (v351 = x6 → K 1 (uS w σ352)))) : WD G M_Cl_act 1193 [(0, vR 0), (6, vI x6), (8, vI x8)] [] w rc rs (yI K) := by
  refine x_aload_n d_Cl_act_1193 rfl (?_ : WD _ _ 1194 _ _ _ _ _ _)
  refine x_iload d_Cl_act_1194 rfl (?_ : WD _ _ 1196 _ _ _ _ _ _)
  refine x_callC (ν := M_Cs_interval) (k := 0) [vI x8] ok_M_Cs_interval okv_M_Cs_interval (by decide) rfl rfl rfl (qm_5 (i := 186) rfl rfl) np_M_Cs_interval rfl ⟨Nat.le_of_ble_eq_true rfl, Nat.le_of_ble_eq_true rfl⟩ (Nat.le_of_ble_eq_true rfl) rfl d_Cl_act_1196 (CI.kd h (fun v351 σ352 h => (?_ : WD _ _ 1199 _ _ _ _ _ _)))
  refine x_iload d_Cl_act_1199 rfl (?_ : WD _ _ 1201 _ _ _ _ _ _)
  refine x_icmp_ne 1208 d_Cl_act_1201 rfl ⟨fun c353 => (?_ : WD _ _ 1208 _ _ _ _ _ _), fun c353 => (?_ : WD _ _ 1204 _ _ _ _ _ _)⟩
  · replace h := h.1 c353
    refine x_iconst d_Cl_act_1208 (by decide) (?_ : WD _ _ 1209 _ _ _ _ _ _)
    exact x_zreturn rfl d_Cl_act_1209 (by decide) h
  · replace h := h.2 c353
    refine x_iconst d_Cl_act_1204 (by decide) (?_ : WD _ _ 1205 _ _ _ _ _ _)
    refine x_goto 1209 d_Cl_act_1205 rfl ?_
    exact x_zreturn rfl d_Cl_act_1209 (by decide) h
set_option maxRecDepth 20000 in
theorem l_Cl_act_7 {G : Gq} {K : Int → Wd → Prop} {w : Wd} {rc rs : Nat} (x1 : Nat) (x8 : Int) (x9 : Int) (x10 : Int) (y0 : Int) (h : (5 ≤ x8 → WD G M_Cl_act 442 [(0, vR 0), (6, vI y0), (8, vI x8), (9, vI x9)] [] w rc rs (yI K)) ∧ (¬ 5 ≤ x8 → (x10 = 0 → WD G M_Cl_act 442 [(0, vR 0), (6, vI y0), (8, vI x8), (9, vI x9)] [] w rc rs (yI K)) ∧ (¬ x10 = 0 → (Is G w x1 (kO 11)) ∧ ∃ a357 : Nat, (wR w x1 2) = some a357 ∧ (∃ n359 : Nat, ((Ow w a357 (kA 0 n359)) ∧ (0 ≤ x8) ∧ (x8 < (n359 : Int)) ∧ (¬ x8 = 4 → WD G M_Cl_act 442 [(0, vR 0), (6, vI y0), (8, vI x8), (9, vI x9)] [] (uI w a357 x8 x9) rc rs (yI K)) ∧ (x8 = 4 → (Ow (uI w a357 x8 x9) x1 (kO 11)) ∧ WD G M_Cl_act 442 [(0, vR 0), (6, vI y0), (8, vI x8), (9, vI x9)] [] (uI (uI w a357 x8 x9) x1 4 x9) rc rs (yI K))))))) : WD G M_Cl_act 408 [(0, vR 0), (1, vA x1), (8, vI x8), (9, vI x9), (10, vI x10)] [vI y0] w rc rs (yI K) := by
  refine x_istore (ls' := [(6, vI y0), (0, vR 0), (1, vA x1), (8, vI x8), (9, vI x9), (10, vI x10)]) d_Cl_act_408 (by decide) rfl (?_ : WD _ _ 410 _ _ _ _ _ _)
  refine x_iload d_Cl_act_410 rfl (?_ : WD _ _ 412 _ _ _ _ _ _)
  refine x_iconst d_Cl_act_412 (by decide) (?_ : WD _ _ 413 _ _ _ _ _ _)
  refine x_icmp_ge 442 d_Cl_act_413 rfl ⟨fun c354 => (?_ : WD _ _ 442 _ _ _ _ _ _), fun c354 => (?_ : WD _ _ 416 _ _ _ _ _ _)⟩
  · replace h := h.1 c354
    refine x_pick (ls' := [(0, vR 0), (6, vI y0), (8, vI x8), (9, vI x9)]) [1, 0, 3, 4] rfl ?_
    exact h
  · replace h := h.2 c354
    refine x_iload d_Cl_act_416 rfl (?_ : WD _ _ 418 _ _ _ _ _ _)
    refine x_if_eq 442 d_Cl_act_418 rfl ⟨fun c355 => (?_ : WD _ _ 442 _ _ _ _ _ _), fun c355 => (?_ : WD _ _ 421 _ _ _ _ _ _)⟩
    · replace h := h.1 c355
      refine x_pick (ls' := [(0, vR 0), (6, vI y0), (8, vI x8), (9, vI x9)]) [1, 0, 3, 4] rfl ?_
      exact h
    · replace h := h.2 c355
      refine x_aload_nP (some x1) d_Cl_act_421 rfl (?_ : WD _ _ 422 _ _ _ _ _ _)
      obtain ⟨k356, h⟩ := h
      refine x_getP (ref := "CoinSamplerLaw$Books") (j := 2) 2 k356 clk_11 (by decide) (qm_2 (i := 160) rfl rfl) (Or.inl rfl) rfl rfl d_Cl_act_422 (y := (wR w x1 2)) rfl (?_ : WD _ _ 425 _ _ _ _ _ _)
      refine x_iload d_Cl_act_425 rfl (?_ : WD _ _ 427 _ _ _ _ _ _)
      refine x_iload d_Cl_act_427 rfl (?_ : WD _ _ 429 _ _ _ _ _ _)
      obtain ⟨a357, e358, h⟩ := h
      rw [e358]
      obtain ⟨n359, h⟩ := h
      obtain ⟨k360, h⟩ := h
      obtain ⟨h361, h⟩ := h
      obtain ⟨h362, h⟩ := h
      refine x_iast k360 d_Cl_act_429 h361 h362 (?_ : WD _ _ 430 _ _ _ _ _ _)
      refine x_iload d_Cl_act_430 rfl (?_ : WD _ _ 432 _ _ _ _ _ _)
      refine x_iconst d_Cl_act_432 (by decide) (?_ : WD _ _ 433 _ _ _ _ _ _)
      refine x_icmp_ne 442 d_Cl_act_433 rfl ⟨fun c363 => (?_ : WD _ _ 442 _ _ _ _ _ _), fun c363 => (?_ : WD _ _ 436 _ _ _ _ _ _)⟩
      · replace h := h.1 c363
        refine x_pick (ls' := [(0, vR 0), (6, vI y0), (8, vI x8), (9, vI x9)]) [1, 0, 3, 4] rfl ?_
        exact h
      · replace h := h.2 c363
        refine x_aload_nP (some x1) d_Cl_act_436 rfl (?_ : WD _ _ 437 _ _ _ _ _ _)
        refine x_iload d_Cl_act_437 rfl (?_ : WD _ _ 439 _ _ _ _ _ _)
        obtain ⟨k364, h⟩ := h
        refine x_putI (ref := "CoinSamplerLaw$Books") (j := 4) 4 k364 clk_11 (by decide) (qm_2 (i := 164) rfl rfl) (Or.inl rfl) (Or.inl rfl) tyX11_ok rfl nmX11 d_Cl_act_439 rfl rfl (fun _ => rfl) rfl (?_ : WD _ _ 442 _ _ _ _ _ _)
        refine x_pick (ls' := [(0, vR 0), (6, vI y0), (8, vI x8), (9, vI x9)]) [1, 0, 3, 4] rfl ?_
        exact h
set_option maxRecDepth 20000 in
theorem l_Cl_act_12 {G : Gq} {K : Int → Wd → Prop} {w : Wd} {rc rs : Nat} (x1 : Nat) (x4 : Int) (x8 : Int) (x9 : Int) (y0 : Int) (h : (99 < x8 → WD G M_Cl_act 604 [(0, vR 0), (1, vA x1), (8, vI x8), (9, vI x9), (10, vI y0)] [vI (-3)] w rc rs (yI K)) ∧ (¬ 99 < x8 → (9999 < x9 → WD G M_Cl_act 604 [(0, vR 0), (1, vA x1), (8, vI x8), (9, vI x9), (10, vI y0)] [vI (-3)] w rc rs (yI K)) ∧ (¬ 9999 < x9 → (y0 ≤ 99999 → (¬ x4 = 48 → (Is G w x1 (kO 11)) ∧ ∃ a370 : Nat, (wR w x1 1) = some a370 ∧ ((Is G w a370 (kO 14)) ∧ DI G M_Al_isEmpty [vA a370] w 0 0 (fun v374 w373 => (v374 = 0 → WD G M_Cl_act 604 [(0, vR 0), (1, vA x1), (8, vI x8), (9, vI x9), (10, vI y0)] [vI (-5)] w373 rc rs (yI K)) ∧ (¬ v374 = 0 → DI G M_Bo_find [vA x1, vI x8, vI x9] w373 0 0 (fun v377 w376 => (v377 < 0 → WD G M_Cl_act 604 [(0, vR 0), (1, vA x1), (8, vI x8), (9, vI x9), (10, vI y0)] [vI x4] w376 rc rs (yI K)) ∧ (¬ v377 < 0 → WD G M_Cl_act 604 [(0, vR 0), (1, vA x1), (8, vI x8), (9, vI x9), (10, vI y0)] [vI (-5)] w376 rc rs (yI K))))))) ∧ (x4 = 48 → WD G M_Cl_act 604 [(0, vR 0), (1, vA x1), (8, vI x8), (9, vI x9), (10, vI y0)] [vI (-4)] w rc rs (yI K))) ∧ (¬ y0 ≤ 99999 → WD G M_Cl_act 604 [(0, vR 0), (1, vA x1), (8, vI x8), (9, vI x9), (10, vI y0)] [vI (-3)] w rc rs (yI K))))) : WD G M_Cl_act 535 [(0, vR 0), (1, vA x1), (4, vI x4), (8, vI x8), (9, vI x9)] [vI y0] w rc rs (yI K) := by
  refine x_istore (ls' := [(10, vI y0), (0, vR 0), (1, vA x1), (4, vI x4), (8, vI x8), (9, vI x9)]) d_Cl_act_535 (by decide) rfl (?_ : WD _ _ 537 _ _ _ _ _ _)
  refine x_iload d_Cl_act_537 rfl (?_ : WD _ _ 539 _ _ _ _ _ _)
  refine x_bipush d_Cl_act_539 (by decide) (by decide) (?_ : WD _ _ 541 _ _ _ _ _ _)
  refine x_icmp_gt 559 d_Cl_act_541 rfl ⟨fun c365 => (?_ : WD _ _ 559 _ _ _ _ _ _), fun c365 => (?_ : WD _ _ 544 _ _ _ _ _ _)⟩
  · replace h := h.1 c365
    refine x_bipush d_Cl_act_559 (by decide) (by decide) (?_ : WD _ _ 561 _ _ _ _ _ _)
    refine x_goto 604 d_Cl_act_561 rfl ?_
    refine x_pick (ls' := [(0, vR 0), (1, vA x1), (8, vI x8), (9, vI x9), (10, vI y0)]) [1, 2, 4, 5, 0] rfl ?_
    exact h
  · replace h := h.2 c365
    refine x_iload d_Cl_act_544 rfl (?_ : WD _ _ 546 _ _ _ _ _ _)
    refine x_sipush d_Cl_act_546 (by decide) (by decide) (?_ : WD _ _ 549 _ _ _ _ _ _)
    refine x_icmp_gt 559 d_Cl_act_549 rfl ⟨fun c366 => (?_ : WD _ _ 559 _ _ _ _ _ _), fun c366 => (?_ : WD _ _ 552 _ _ _ _ _ _)⟩
    · replace h := h.1 c366
      refine x_bipush d_Cl_act_559 (by decide) (by decide) (?_ : WD _ _ 561 _ _ _ _ _ _)
      refine x_goto 604 d_Cl_act_561 rfl ?_
      refine x_pick (ls' := [(0, vR 0), (1, vA x1), (8, vI x8), (9, vI x9), (10, vI y0)]) [1, 2, 4, 5, 0] rfl ?_
      exact h
    · replace h := h.2 c366
      refine x_iload d_Cl_act_552 rfl (?_ : WD _ _ 554 _ _ _ _ _ _)
      refine x_ldc 99999 d_Cl_act_554 (qm_5 (i := 149) rfl rfl) (by decide) (by decide) (?_ : WD _ _ 556 _ _ _ _ _ _)
      refine x_icmp_le 564 d_Cl_act_556 rfl ⟨fun c367 => (?_ : WD _ _ 564 _ _ _ _ _ _), fun c367 => (?_ : WD _ _ 559 _ _ _ _ _ _)⟩
      · replace h := h.1 c367
        refine x_iload d_Cl_act_564 rfl (?_ : WD _ _ 566 _ _ _ _ _ _)
        refine x_bipush d_Cl_act_566 (by decide) (by decide) (?_ : WD _ _ 568 _ _ _ _ _ _)
        refine x_icmp_ne 576 d_Cl_act_568 rfl ⟨fun c368 => (?_ : WD _ _ 576 _ _ _ _ _ _), fun c368 => (?_ : WD _ _ 571 _ _ _ _ _ _)⟩
        · replace h := h.1 c368
          refine x_aload_nP (some x1) d_Cl_act_576 rfl (?_ : WD _ _ 577 _ _ _ _ _ _)
          obtain ⟨k369, h⟩ := h
          refine x_getP (ref := "CoinSamplerLaw$Books") (j := 1) 1 k369 clk_11 (by decide) (qm_2 (i := 158) rfl rfl) (Or.inl rfl) rfl rfl d_Cl_act_577 (y := (wR w x1 1)) rfl (?_ : WD _ _ 580 _ _ _ _ _ _)
          obtain ⟨a370, e371, h⟩ := h
          rw [e371]
          obtain ⟨k372, h⟩ := h
          refine x_callV (ν := M_Al_isEmpty) [] ok_M_Al_isEmpty okv_M_Al_isEmpty k372 rfl rfl (qm_3 (i := 230) rfl rfl) np_M_Al_isEmpty rfl ⟨Nat.le_of_ble_eq_true rfl, Nat.le_of_ble_eq_true rfl⟩ (Nat.le_of_ble_eq_true rfl) rfl d_Cl_act_580 (Nat.zero_le _) (Nat.zero_le _) (DI.k h (fun v374 w373 gw373 h => (?_ : WD _ _ 583 _ _ _ _ _ _)))
          refine x_if_eq 597 d_Cl_act_583 rfl ⟨fun c375 => (?_ : WD _ _ 597 _ _ _ _ _ _), fun c375 => (?_ : WD _ _ 586 _ _ _ _ _ _)⟩
          · replace h := h.1 c375
            refine x_bipush d_Cl_act_597 (by decide) (by decide) (?_ : WD _ _ 599 _ _ _ _ _ _)
            refine x_goto 604 d_Cl_act_599 rfl ?_
            refine x_pick (ls' := [(0, vR 0), (1, vA x1), (8, vI x8), (9, vI x9), (10, vI y0)]) [1, 2, 4, 5, 0] rfl ?_
            exact h
          · replace h := h.2 c375
            refine x_aload_nP (some x1) d_Cl_act_586 rfl (?_ : WD _ _ 587 _ _ _ _ _ _)
            refine x_iload d_Cl_act_587 rfl (?_ : WD _ _ 589 _ _ _ _ _ _)
            refine x_iload d_Cl_act_589 rfl (?_ : WD _ _ 591 _ _ _ _ _ _)
            refine x_callV (ν := M_Bo_find) [vI x8, vI x9] ok_M_Bo_find okv_M_Bo_find (k369.q gw373.k) rfl rfl (qm_4 (i := 169) rfl rfl) np_M_Bo_find rfl ⟨Nat.le_of_ble_eq_true rfl, Nat.le_of_ble_eq_true rfl⟩ (Nat.le_of_ble_eq_true rfl) rfl d_Cl_act_591 (Nat.zero_le _) (Nat.zero_le _) (DI.k h (fun v377 w376 gw376 h => (?_ : WD _ _ 594 _ _ _ _ _ _)))
            refine x_if_lt 602 d_Cl_act_594 rfl ⟨fun c378 => (?_ : WD _ _ 602 _ _ _ _ _ _), fun c378 => (?_ : WD _ _ 597 _ _ _ _ _ _)⟩
            · replace h := h.1 c378
              refine x_iload d_Cl_act_602 rfl (?_ : WD _ _ 604 _ _ _ _ _ _)
              refine x_pick (ls' := [(0, vR 0), (1, vA x1), (8, vI x8), (9, vI x9), (10, vI y0)]) [1, 2, 4, 5, 0] rfl ?_
              exact h
            · replace h := h.2 c378
              refine x_bipush d_Cl_act_597 (by decide) (by decide) (?_ : WD _ _ 599 _ _ _ _ _ _)
              refine x_goto 604 d_Cl_act_599 rfl ?_
              refine x_pick (ls' := [(0, vR 0), (1, vA x1), (8, vI x8), (9, vI x9), (10, vI y0)]) [1, 2, 4, 5, 0] rfl ?_
              exact h
        · replace h := h.2 c368
          refine x_bipush d_Cl_act_571 (by decide) (by decide) (?_ : WD _ _ 573 _ _ _ _ _ _)
          refine x_goto 604 d_Cl_act_573 rfl ?_
          refine x_pick (ls' := [(0, vR 0), (1, vA x1), (8, vI x8), (9, vI x9), (10, vI y0)]) [1, 2, 4, 5, 0] rfl ?_
          exact h
      · replace h := h.2 c367
        refine x_bipush d_Cl_act_559 (by decide) (by decide) (?_ : WD _ _ 561 _ _ _ _ _ _)
        refine x_goto 604 d_Cl_act_561 rfl ?_
        refine x_pick (ls' := [(0, vR 0), (1, vA x1), (8, vI x8), (9, vI x9), (10, vI y0)]) [1, 2, 4, 5, 0] rfl ?_
        exact h
set_option maxRecDepth 20000 in
theorem l_Cl_act_21 {G : Gq} {K : Int → Wd → Prop} {w : Wd} {rc rs : Nat} (x5 : Int) (x6 : Int) (x8 : Int) (h : CI M_Cs_audit [vR 0, vI x5, vI x8] (wS w) (fun v379 σ380 => (¬ v379 = x6 → K 0 (uS w σ380)) ∧ (v379 = x6 → K 1 (uS w σ380)))) : WD G M_Cl_act 974 [(0, vR 0), (5, vI x5), (6, vI x6), (8, vI x8)] [] w rc rs (yI K) := by
  refine x_aload_n d_Cl_act_974 rfl (?_ : WD _ _ 975 _ _ _ _ _ _)
  refine x_iload d_Cl_act_975 rfl (?_ : WD _ _ 977 _ _ _ _ _ _)
  refine x_iload d_Cl_act_977 rfl (?_ : WD _ _ 979 _ _ _ _ _ _)
  refine x_callC (ν := M_Cs_audit) (k := 0) [vI x5, vI x8] ok_M_Cs_audit okv_M_Cs_audit (by decide) rfl rfl rfl (qm_5 (i := 170) rfl rfl) np_M_Cs_audit rfl ⟨Nat.le_of_ble_eq_true rfl, Nat.le_of_ble_eq_true rfl⟩ (Nat.le_of_ble_eq_true rfl) rfl d_Cl_act_979 (CI.kd h (fun v379 σ380 h => (?_ : WD _ _ 982 _ _ _ _ _ _)))
  refine x_iload d_Cl_act_982 rfl (?_ : WD _ _ 984 _ _ _ _ _ _)
  refine x_icmp_ne 991 d_Cl_act_984 rfl ⟨fun c381 => (?_ : WD _ _ 991 _ _ _ _ _ _), fun c381 => (?_ : WD _ _ 987 _ _ _ _ _ _)⟩
  · replace h := h.1 c381
    refine x_iconst d_Cl_act_991 (by decide) (?_ : WD _ _ 992 _ _ _ _ _ _)
    exact x_zreturn rfl d_Cl_act_992 (by decide) h
  · replace h := h.2 c381
    refine x_iconst d_Cl_act_987 (by decide) (?_ : WD _ _ 988 _ _ _ _ _ _)
    refine x_goto 992 d_Cl_act_988 rfl ?_
    exact x_zreturn rfl d_Cl_act_992 (by decide) h
set_option maxRecDepth 20000 in
theorem l_Cl_act_8 {G : Gq} {K : Int → Wd → Prop} {w : Wd} {rc rs : Nat} (x6 : Int) (x8 : Int) (x9 : Int) (h : CI M_Cs_terms [vR 0, vI x8, vI x9] (wS w) (fun v382 σ383 => (¬ v382 = x6 → K 0 (uS w σ383)) ∧ (v382 = x6 → K 1 (uS w σ383)))) : WD G M_Cl_act 442 [(0, vR 0), (6, vI x6), (8, vI x8), (9, vI x9)] [] w rc rs (yI K) := by
  refine x_aload_n d_Cl_act_442 rfl (?_ : WD _ _ 443 _ _ _ _ _ _)
  refine x_iload d_Cl_act_443 rfl (?_ : WD _ _ 445 _ _ _ _ _ _)
  refine x_iload d_Cl_act_445 rfl (?_ : WD _ _ 447 _ _ _ _ _ _)
  refine x_callC (ν := M_Cs_terms) (k := 0) [vI x8, vI x9] ok_M_Cs_terms okv_M_Cs_terms (by decide) rfl rfl rfl (qm_5 (i := 131) rfl rfl) np_M_Cs_terms rfl ⟨Nat.le_of_ble_eq_true rfl, Nat.le_of_ble_eq_true rfl⟩ (Nat.le_of_ble_eq_true rfl) rfl d_Cl_act_447 (CI.kd h (fun v382 σ383 h => (?_ : WD _ _ 450 _ _ _ _ _ _)))
  refine x_iload d_Cl_act_450 rfl (?_ : WD _ _ 452 _ _ _ _ _ _)
  refine x_icmp_ne 459 d_Cl_act_452 rfl ⟨fun c384 => (?_ : WD _ _ 459 _ _ _ _ _ _), fun c384 => (?_ : WD _ _ 455 _ _ _ _ _ _)⟩
  · replace h := h.1 c384
    refine x_iconst d_Cl_act_459 (by decide) (?_ : WD _ _ 460 _ _ _ _ _ _)
    exact x_zreturn rfl d_Cl_act_460 (by decide) h
  · replace h := h.2 c384
    refine x_iconst d_Cl_act_455 (by decide) (?_ : WD _ _ 456 _ _ _ _ _ _)
    refine x_goto 460 d_Cl_act_456 rfl ?_
    exact x_zreturn rfl d_Cl_act_460 (by decide) h
set_option maxRecDepth 20000 in
theorem l_Cl_act_13 {G : Gq} {K : Int → Wd → Prop} {w : Wd} {rc rs : Nat} (x1 : Nat) (x8 : Int) (x9 : Int) (x10 : Int) (y0 : Int) (h : (y0 < 0 → WD G M_Cl_act 651 [(0, vR 0), (6, vI y0), (8, vI x8), (9, vI x9), (10, vI x10)] [] w rc rs (yI K)) ∧ (¬ y0 < 0 → (1 ≤ rc) ∧ (4 ≤ rs) ∧ ∀ q388 : Nat, Fr G w q388 → (DV G M_It_init [vA q388] (uN w q388 (kO 13)) 0 0 (fun w390 => (Is G (uI (uI (uI w390 q388 0 x8) q388 1 x9) q388 2 x10) x1 (kO 11)) ∧ ∃ a393 : Nat, (wR w390 x1 0) = some a393 ∧ (∃ c395 s396 : Nat, c395 ≤ (rc - 1) ∧ s396 ≤ (rs - 4) ∧ ((Is G (uI (uI (uI w390 q388 0 x8) q388 1 x9) q388 2 x10) a393 (kO 14)) ∧ DI G M_Al_add_9ea2d [vA a393, vA q388] (uI (uI (uI w390 q388 0 x8) q388 1 x9) q388 2 x10) c395 s396 (fun v401 w400 => WD G M_Cl_act 651 [(0, vR 0), (6, vI y0), (8, vI x8), (9, vI x9), (10, vI x10)] [] w400 ((rc - 1) - c395) ((rs - 4) - s396) (yI K)))))))) : WD G M_Cl_act 604 [(0, vR 0), (1, vA x1), (8, vI x8), (9, vI x9), (10, vI x10)] [vI y0] w rc rs (yI K) := by
  refine x_istore (ls' := [(6, vI y0), (0, vR 0), (1, vA x1), (8, vI x8), (9, vI x9), (10, vI x10)]) d_Cl_act_604 (by decide) rfl (?_ : WD _ _ 606 _ _ _ _ _ _)
  refine x_iload d_Cl_act_606 rfl (?_ : WD _ _ 608 _ _ _ _ _ _)
  refine x_if_lt 651 d_Cl_act_608 rfl ⟨fun c385 => (?_ : WD _ _ 651 _ _ _ _ _ _), fun c385 => (?_ : WD _ _ 611 _ _ _ _ _ _)⟩
  · replace h := h.1 c385
    refine x_pick (ls' := [(0, vR 0), (6, vI y0), (8, vI x8), (9, vI x9), (10, vI x10)]) [1, 0, 3, 4, 5] rfl ?_
    exact h
  · replace h := h.2 c385
    obtain ⟨h386, h⟩ := h
    obtain ⟨h387, h⟩ := h
    refine x_new d_Cl_act_611 clk_13 tyX13_ok (qm_3 (i := 184) rfl rfl) (qm_4 (i := 146) rfl rfl) (qm_1 (i := 29) rfl rfl) hfd_13 h386 h387 (fun q388 fq388 => (?_ : WD _ _ 614 _ _ _ _ _ _))
    replace h := h q388 fq388
    have k389 : Ow (uN w q388 (kO 13)) q388 (kO 13) := Ow.nw
    refine x_dup d_Cl_act_614 rfl (?_ : WD _ _ 615 _ _ _ _ _ _)
    refine x_callIN (ν := M_It_init) "CoinSamplerLaw" [] ok_M_It_init oki_M_It_init rfl rfl (by decide) np_M_It_init rfl ⟨Nat.le_of_ble_eq_true rfl, Nat.le_of_ble_eq_true rfl⟩ (Nat.le_of_ble_eq_true rfl) rfl d_Cl_act_615 (Nat.zero_le _) (Nat.zero_le _) (DV.k h (fun w390 gw390 h => (?_ : WD _ _ 618 _ _ _ _ _ _)))
    refine x_astoreP (some q388) (ls' := [(11, vA q388), (6, vI y0), (0, vR 0), (1, vA x1), (8, vI x8), (9, vI x9), (10, vI x10)]) d_Cl_act_618 (by decide) rfl (?_ : WD _ _ 620 _ _ _ _ _ _)
    refine x_aloadP (some q388) d_Cl_act_620 rfl (?_ : WD _ _ 622 _ _ _ _ _ _)
    refine x_iload d_Cl_act_622 rfl (?_ : WD _ _ 624 _ _ _ _ _ _)
    refine x_putI (ref := "CoinSamplerLaw$Item") (j := 0) 0 (k389.q gw390.k) clk_13 (by decide) (qm_4 (i := 151) rfl rfl) (Or.inl rfl) (Or.inl rfl) tyX13_ok rfl nmX13 d_Cl_act_624 rfl rfl (fun _ => rfl) rfl (?_ : WD _ _ 627 _ _ _ _ _ _)
    refine x_aloadP (some q388) d_Cl_act_627 rfl (?_ : WD _ _ 629 _ _ _ _ _ _)
    refine x_iload d_Cl_act_629 rfl (?_ : WD _ _ 631 _ _ _ _ _ _)
    refine x_putI (ref := "CoinSamplerLaw$Item") (j := 1) 1 (k389.q gw390.k) clk_13 (by decide) (qm_4 (i := 153) rfl rfl) (Or.inl rfl) (Or.inl rfl) tyX13_ok rfl nmX13 d_Cl_act_631 rfl rfl (fun _ => rfl) rfl (?_ : WD _ _ 634 _ _ _ _ _ _)
    refine x_aloadP (some q388) d_Cl_act_634 rfl (?_ : WD _ _ 636 _ _ _ _ _ _)
    refine x_iload d_Cl_act_636 rfl (?_ : WD _ _ 638 _ _ _ _ _ _)
    refine x_putI (ref := "CoinSamplerLaw$Item") (j := 2) 2 (k389.q gw390.k) clk_13 (by decide) (qm_4 (i := 157) rfl rfl) (Or.inl rfl) (Or.inl rfl) tyX13_ok rfl nmX13 d_Cl_act_638 rfl rfl (fun _ => rfl) rfl (?_ : WD _ _ 641 _ _ _ _ _ _)
    refine x_aload_nP (some x1) d_Cl_act_641 rfl (?_ : WD _ _ 642 _ _ _ _ _ _)
    obtain ⟨k392, h⟩ := h
    refine x_getP (ref := "CoinSamplerLaw$Books") (j := 0) 0 k392 clk_11 (by decide) (qm_2 (i := 156) rfl rfl) (Or.inl rfl) rfl rfl d_Cl_act_642 (y := (wR w390 x1 0)) rfl (?_ : WD _ _ 645 _ _ _ _ _ _)
    refine x_aloadP (some q388) d_Cl_act_645 rfl (?_ : WD _ _ 647 _ _ _ _ _ _)
    obtain ⟨a393, e394, h⟩ := h
    rw [e394]
    obtain ⟨c395, s396, h397, h398, h⟩ := h
    obtain ⟨k399, h⟩ := h
    refine x_callV (ν := M_Al_add_9ea2d) [vA q388] ok_M_Al_add_9ea2d okv_M_Al_add_9ea2d k399 rfl rfl (qm_4 (i := 181) rfl rfl) np_M_Al_add_9ea2d rfl ⟨Nat.le_of_ble_eq_true rfl, Nat.le_of_ble_eq_true rfl⟩ (Nat.le_of_ble_eq_true rfl) rfl d_Cl_act_647 h397 h398 (DI.k h (fun v401 w400 gw400 h => (?_ : WD _ _ 650 _ _ _ _ _ _)))
    refine x_pop d_Cl_act_650 rfl (?_ : WD _ _ 651 _ _ _ _ _ _)
    refine x_pick (ls' := [(0, vR 0), (6, vI y0), (8, vI x8), (9, vI x9), (10, vI x10)]) [2, 1, 4, 5, 6] rfl ?_
    exact h
set_option maxRecDepth 20000 in
theorem l_Cl_act_14 {G : Gq} {K : Int → Wd → Prop} {w : Wd} {rc rs : Nat} (x6 : Int) (x8 : Int) (x9 : Int) (x10 : Int) (h : CI M_Cs_add [vR 0, vI x8, vI x9, vI x10] (wS w) (fun v402 σ403 => (¬ v402 = x6 → K 0 (uS w σ403)) ∧ (v402 = x6 → K 1 (uS w σ403)))) : WD G M_Cl_act 651 [(0, vR 0), (6, vI x6), (8, vI x8), (9, vI x9), (10, vI x10)] [] w rc rs (yI K) := by
  refine x_aload_n d_Cl_act_651 rfl (?_ : WD _ _ 652 _ _ _ _ _ _)
  refine x_iload d_Cl_act_652 rfl (?_ : WD _ _ 654 _ _ _ _ _ _)
  refine x_iload d_Cl_act_654 rfl (?_ : WD _ _ 656 _ _ _ _ _ _)
  refine x_iload d_Cl_act_656 rfl (?_ : WD _ _ 658 _ _ _ _ _ _)
  refine x_callC (ν := M_Cs_add) (k := 0) [vI x8, vI x9, vI x10] ok_M_Cs_add okv_M_Cs_add (by decide) rfl rfl rfl (qm_5 (i := 150) rfl rfl) np_M_Cs_add rfl ⟨Nat.le_of_ble_eq_true rfl, Nat.le_of_ble_eq_true rfl⟩ (Nat.le_of_ble_eq_true rfl) rfl d_Cl_act_658 (CI.kd h (fun v402 σ403 h => (?_ : WD _ _ 661 _ _ _ _ _ _)))
  refine x_iload d_Cl_act_661 rfl (?_ : WD _ _ 663 _ _ _ _ _ _)
  refine x_icmp_ne 670 d_Cl_act_663 rfl ⟨fun c404 => (?_ : WD _ _ 670 _ _ _ _ _ _), fun c404 => (?_ : WD _ _ 666 _ _ _ _ _ _)⟩
  · replace h := h.1 c404
    refine x_iconst d_Cl_act_670 (by decide) (?_ : WD _ _ 671 _ _ _ _ _ _)
    exact x_zreturn rfl d_Cl_act_671 (by decide) h
  · replace h := h.2 c404
    refine x_iconst d_Cl_act_666 (by decide) (?_ : WD _ _ 667 _ _ _ _ _ _)
    refine x_goto 671 d_Cl_act_667 rfl ?_
    exact x_zreturn rfl d_Cl_act_671 (by decide) h
