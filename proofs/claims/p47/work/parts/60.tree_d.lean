-- what each stretch of a method asks (printed by wip/gen/gen_dout.py)
set_option maxRecDepth 20000 in
theorem e_Cl_act {G : Gq} {K : Int → Wd → Prop} {w : Wd} {mc ms : Nat} (x1 : Nat) (x2 : Nat) (x3 : Int) (h : (Is G w x1 (kO 11)) ∧ ∃ a2 : Nat, (wR w x1 0) = some a2 ∧ ((Is G w a2 (kO 14)) ∧ DI G M_Al_size [vA a2] w 0 0 (fun v6 w5 => DI G M_Cl_draw [vA x2, vI 20] w5 0 0 (fun v8 w7 => (¬ v8 = 0 → (¬ v6 = 0 → DI G M_Cl_draw [vA x2, vI v6] w7 0 0 (fun v12 w11 => WD G M_Cl_act 38 [(0, vR 0), (1, vA x1), (2, vA x2), (3, vI x3), (4, vI v6)] [vI v12] w11 mc ms (yI K))) ∧ (v6 = 0 → WD G M_Cl_act 38 [(0, vR 0), (1, vA x1), (2, vA x2), (3, vI x3), (4, vI v6)] [vI 0] w7 mc ms (yI K))) ∧ (v8 = 0 → WD G M_Cl_act 38 [(0, vR 0), (1, vA x1), (2, vA x2), (3, vI x3), (4, vI v6)] [vI v6] w7 mc ms (yI K)))))) : DI G M_Cl_act [vR 0, vA x1, vA x2, vI x3] w mc ms K := by
  refine DC.of ok_M_Cl_act (ls := [(0, vR 0), (1, vA x1), (2, vA x2), (3, vI x3)]) rfl (Nat.le_of_ble_eq_true rfl) ?_
  refine x_aload_nP (some x1) d_Cl_act_0 rfl (?_ : WD _ _ 1 _ _ _ _ _ _)
  obtain ⟨k1, h⟩ := h
  refine x_getP (ref := "CoinSamplerLaw$Books") (j := 0) 0 k1 clk_11 (by decide) (qm_2 (i := 156) rfl rfl) (Or.inl rfl) rfl rfl d_Cl_act_1 (y := (wR w x1 0)) rfl (?_ : WD _ _ 4 _ _ _ _ _ _)
  obtain ⟨a2, e3, h⟩ := h
  rw [e3]
  obtain ⟨k4, h⟩ := h
  refine x_callV (ν := M_Al_size) [] ok_M_Al_size okv_M_Al_size k4 rfl rfl (qm_3 (i := 178) rfl rfl) np_M_Al_size rfl ⟨Nat.le_of_ble_eq_true rfl, Nat.le_of_ble_eq_true rfl⟩ (Nat.le_of_ble_eq_true rfl) rfl d_Cl_act_4 (Nat.zero_le _) (Nat.zero_le _) (DI.k h (fun v6 w5 gw5 h => (?_ : WD _ _ 7 _ _ _ _ _ _)))
  refine x_istore (ls' := [(4, vI v6), (0, vR 0), (1, vA x1), (2, vA x2), (3, vI x3)]) d_Cl_act_7 (by decide) rfl (?_ : WD _ _ 9 _ _ _ _ _ _)
  refine x_aload_nP (some x2) d_Cl_act_9 rfl (?_ : WD _ _ 10 _ _ _ _ _ _)
  refine x_bipush d_Cl_act_10 (by decide) (by decide) (?_ : WD _ _ 12 _ _ _ _ _ _)
  refine x_callS (ν := M_Cl_draw) [vA x2, vI 20] ok_M_Cl_draw oks_M_Cl_draw (qm_3 (i := 179) rfl rfl) np_M_Cl_draw rfl ⟨Nat.le_of_ble_eq_true rfl, Nat.le_of_ble_eq_true rfl⟩ (Nat.le_of_ble_eq_true rfl) rfl d_Cl_act_12 (Nat.zero_le _) (Nat.zero_le _) (DI.k h (fun v8 w7 gw7 h => (?_ : WD _ _ 15 _ _ _ _ _ _)))
  refine x_if_ne 23 d_Cl_act_15 rfl ⟨fun c9 => (?_ : WD _ _ 23 _ _ _ _ _ _), fun c9 => (?_ : WD _ _ 18 _ _ _ _ _ _)⟩
  · replace h := h.1 c9
    refine x_iload d_Cl_act_23 rfl (?_ : WD _ _ 25 _ _ _ _ _ _)
    refine x_if_ne 32 d_Cl_act_25 rfl ⟨fun c10 => (?_ : WD _ _ 32 _ _ _ _ _ _), fun c10 => (?_ : WD _ _ 28 _ _ _ _ _ _)⟩
    · replace h := h.1 c10
      refine x_aload_nP (some x2) d_Cl_act_32 rfl (?_ : WD _ _ 33 _ _ _ _ _ _)
      refine x_iload d_Cl_act_33 rfl (?_ : WD _ _ 35 _ _ _ _ _ _)
      refine x_callS (ν := M_Cl_draw) [vA x2, vI v6] ok_M_Cl_draw oks_M_Cl_draw (qm_3 (i := 179) rfl rfl) np_M_Cl_draw rfl ⟨Nat.le_of_ble_eq_true rfl, Nat.le_of_ble_eq_true rfl⟩ (Nat.le_of_ble_eq_true rfl) rfl d_Cl_act_35 (Nat.zero_le _) (Nat.zero_le _) (DI.k h (fun v12 w11 gw11 h => (?_ : WD _ _ 38 _ _ _ _ _ _)))
      refine x_pick (ls' := [(0, vR 0), (1, vA x1), (2, vA x2), (3, vI x3), (4, vI v6)]) [1, 2, 3, 4, 0] rfl ?_
      exact h
    · replace h := h.2 c10
      refine x_iconst d_Cl_act_28 (by decide) (?_ : WD _ _ 29 _ _ _ _ _ _)
      refine x_goto 38 d_Cl_act_29 rfl ?_
      refine x_pick (ls' := [(0, vR 0), (1, vA x1), (2, vA x2), (3, vI x3), (4, vI v6)]) [1, 2, 3, 4, 0] rfl ?_
      exact h
  · replace h := h.2 c9
    refine x_iload d_Cl_act_18 rfl (?_ : WD _ _ 20 _ _ _ _ _ _)
    refine x_goto 38 d_Cl_act_20 rfl ?_
    refine x_pick (ls' := [(0, vR 0), (1, vA x1), (2, vA x2), (3, vI x3), (4, vI v6)]) [1, 2, 3, 4, 0] rfl ?_
    exact h
set_option maxRecDepth 20000 in
theorem l_Cl_act_1 {G : Gq} {K : Int → Wd → Prop} {w : Wd} {rc rs : Nat} (x1 : Nat) (x2 : Nat) (x3 : Int) (x4 : Int) (y0 : Int) (h : (x4 ≤ y0 → WD G M_Cl_act 63 [(0, vR 0), (1, vA x1), (2, vA x2), (3, vI x3), (4, vI x4), (5, vI y0)] [vP none] w rc rs (yI K)) ∧ (¬ x4 ≤ y0 → (Is G w x1 (kO 11)) ∧ ∃ a15 : Nat, (wR w x1 0) = some a15 ∧ ((Is G w a15 (kO 14)) ∧ DP G M_Al_get [vA a15, vI y0] w 0 0 (fun v19 w18 => ∃ a20 : Nat, v19 = some a20 ∧ ((Is G w18 a20 (kO 13)) ∧ WD G M_Cl_act 63 [(0, vR 0), (1, vA x1), (2, vA x2), (3, vI x3), (4, vI x4), (5, vI y0)] [vP (some a20)] w18 rc rs (yI K)))))) : WD G M_Cl_act 38 [(0, vR 0), (1, vA x1), (2, vA x2), (3, vI x3), (4, vI x4)] [vI y0] w rc rs (yI K) := by
  refine x_istore (ls' := [(5, vI y0), (0, vR 0), (1, vA x1), (2, vA x2), (3, vI x3), (4, vI x4)]) d_Cl_act_38 (by decide) rfl (?_ : WD _ _ 40 _ _ _ _ _ _)
  refine x_iload d_Cl_act_40 rfl (?_ : WD _ _ 42 _ _ _ _ _ _)
  refine x_iload d_Cl_act_42 rfl (?_ : WD _ _ 44 _ _ _ _ _ _)
  refine x_icmp_ge 62 d_Cl_act_44 rfl ⟨fun c13 => (?_ : WD _ _ 62 _ _ _ _ _ _), fun c13 => (?_ : WD _ _ 47 _ _ _ _ _ _)⟩
  · replace h := h.1 c13
    refine x_null d_Cl_act_62 (?_ : WD _ _ 63 _ _ _ _ _ _)
    refine x_pick (ls' := [(0, vR 0), (1, vA x1), (2, vA x2), (3, vI x3), (4, vI x4), (5, vI y0)]) [1, 2, 3, 4, 5, 0] rfl ?_
    exact h
  · replace h := h.2 c13
    refine x_aload_nP (some x1) d_Cl_act_47 rfl (?_ : WD _ _ 48 _ _ _ _ _ _)
    obtain ⟨k14, h⟩ := h
    refine x_getP (ref := "CoinSamplerLaw$Books") (j := 0) 0 k14 clk_11 (by decide) (qm_2 (i := 156) rfl rfl) (Or.inl rfl) rfl rfl d_Cl_act_48 (y := (wR w x1 0)) rfl (?_ : WD _ _ 51 _ _ _ _ _ _)
    refine x_iload d_Cl_act_51 rfl (?_ : WD _ _ 53 _ _ _ _ _ _)
    obtain ⟨a15, e16, h⟩ := h
    rw [e16]
    obtain ⟨k17, h⟩ := h
    refine x_callV (ν := M_Al_get) [vI y0] ok_M_Al_get okv_M_Al_get k17 rfl rfl (qm_3 (i := 183) rfl rfl) np_M_Al_get rfl ⟨Nat.le_of_ble_eq_true rfl, Nat.le_of_ble_eq_true rfl⟩ (Nat.le_of_ble_eq_true rfl) rfl d_Cl_act_53 (Nat.zero_le _) (Nat.zero_le _) (DP.k h (fun v19 w18 gw18 h => (?_ : WD _ _ 56 _ _ _ _ _ _)))
    obtain ⟨a20, e21, h⟩ := h
    rw [e21]
    obtain ⟨k22, h⟩ := h
    refine x_cast k22 rfl (Or.inl rfl) (qm_3 (i := 184) rfl rfl) d_Cl_act_56 (?_ : WD _ _ 59 _ _ _ _ _ _)
    refine x_goto 63 d_Cl_act_59 rfl ?_
    refine x_pick (ls' := [(0, vR 0), (1, vA x1), (2, vA x2), (3, vI x3), (4, vI x4), (5, vI y0)]) [1, 2, 3, 4, 5, 0] rfl ?_
    exact h
set_option maxRecDepth 20000 in
theorem l_Cl_act_2 {G : Gq} {K : Int → Wd → Prop} {w : Wd} {rc rs : Nat} (x1 : Nat) (x2 : Nat) (x3 : Int) (x4 : Int) (x5 : Int) (y0 : Option Nat) (h : (¬ x3 = 0 → (x3 = 1 → DI G M_Cl_draw [vA x2, vI 6] w 0 0 (fun v26 w25 => (¬ v26 = 0 → (¬ v26 = 1 → (¬ v26 = 2 → (¬ v26 = 3 → DI G M_Cl_draw [vA x2, vI 40] w25 0 0 (fun v32 w31 => (¬ v32 = 0 → DI G M_Cl_draw [vA x2, vI 60] w31 0 0 (fun v35 w34 => (¬ v35 = 0 → DI G M_Cl_draw [vA x2, vI 900] w34 0 0 (fun v38 w37 => WD G M_Cl_act 278 [(0, vR 0), (1, vA x1), (8, vI v26)] [vI v38] w37 rc rs (yI K))) ∧ (v35 = 0 → WD G M_Cl_act 278 [(0, vR 0), (1, vA x1), (8, vI v26)] [vI 1000003] w34 rc rs (yI K)))) ∧ (v32 = 0 → WD G M_Cl_act 278 [(0, vR 0), (1, vA x1), (8, vI v26)] [vI 1000004] w31 rc rs (yI K)))) ∧ (v26 = 3 → DI G M_Cl_draw [vA x2, vI 3] w25 0 0 (fun v40 w39 => WD G M_Cl_act 278 [(0, vR 0), (1, vA x1), (8, vI v26)] [vI v40] w39 rc rs (yI K)))) ∧ (v26 = 2 → DI G M_Cl_draw [vA x2, vI 11] w25 0 0 (fun v42 w41 => WD G M_Cl_act 278 [(0, vR 0), (1, vA x1), (8, vI v26)] [vI v42] w41 rc rs (yI K)))) ∧ (v26 = 1 → DI G M_Cl_draw [vA x2, vI 502] w25 0 0 (fun v44 w43 => WD G M_Cl_act 278 [(0, vR 0), (1, vA x1), (8, vI v26)] [vI v44] w43 rc rs (yI K)))) ∧ (v26 = 0 → DI G M_Cl_draw [vA x2, vI 9] w25 0 0 (fun v46 w45 => (¬ v46 = 0 → DI G M_Cl_draw [vA x2, vI 6000] w45 0 0 (fun v49 w48 => (inR (1 + v49)) ∧ WD G M_Cl_act 278 [(0, vR 0), (1, vA x1), (8, vI v26)] [vI (1 + v49)] w48 rc rs (yI K))) ∧ (v46 = 0 → WD G M_Cl_act 278 [(0, vR 0), (1, vA x1), (8, vI v26)] [vI 0] w45 rc rs (yI K)))))) ∧ (¬ x3 = 1 → (¬ x3 = 2 → (¬ x3 = 3 → (¬ x3 = 4 → (10 ≤ x3 → (¬ x3 = 10 → (¬ x3 = 11 → (¬ x3 = 12 → (¬ x3 = 13 → (Is G w x1 (kO 11)) ∧ (¬ (wI w x1 3) = 0 → ∃ a61 : Nat, (wR w x1 1) = some a61 ∧ ((Is G w a61 (kO 14)) ∧ DI G M_Al_size [vA a61] w 0 0 (fun v65 w64 => (v65 = 5 → CI M_Cs_draw [vR 0] (wS w64) (fun v67 σ68 => (¬ v67 = (-4) → K 0 (uS w64 σ68)) ∧ (v67 = (-4) → K 1 (uS w64 σ68)))) ∧ (¬ v65 = 5 → ∃ a70 : Nat, (wR w64 x1 1) = some a70 ∧ ((Is G w64 a70 (kO 14)) ∧ DI G M_Al_size [vA a70] w64 0 0 (fun v74 w73 => (v74 < (wI w73 x1 3) → ∃ c76 s77 : Nat, c76 ≤ rc ∧ s77 ≤ rs ∧ (DI G M_Bo_draws [vA x1] w73 c76 s77 (fun v81 w80 => CI M_Cs_draw [vR 0] (wS w80) (fun v82 σ83 => (¬ v82 = v81 → K 0 (uS w80 σ83)) ∧ (v82 = v81 → K 1 (uS w80 σ83)))))) ∧ (¬ v74 < (wI w73 x1 3) → CI M_Cs_draw [vR 0] (wS w73) (fun v85 σ86 => (¬ v85 = (-4) → K 0 (uS w73 σ86)) ∧ (v85 = (-4) → K 1 (uS w73 σ86)))))))))) ∧ ((wI w x1 3) = 0 → CI M_Cs_draw [vR 0] (wS w) (fun v88 σ89 => (¬ v88 = (-5) → K 0 (uS w σ89)) ∧ (v88 = (-5) → K 1 (uS w σ89))))) ∧ (x3 = 13 → (Is G w x1 (kO 11)) ∧ ∃ a92 : Nat, (wR w x1 1) = some a92 ∧ ((Is G w a92 (kO 14)) ∧ DI G M_Al_size [vA a92] w 0 0 (fun v96 w95 => ∃ a97 : Nat, (wR w95 x1 1) = some a97 ∧ ((Is G w95 a97 (kO 14)) ∧ DV G M_Al_clear [vA a97] w95 0 0 (fun w100 => CI M_Cs_clear [vR 0] (wS w100) (fun v102 σ103 => (¬ v102 = v96 → K 0 (uS w100 σ103)) ∧ (v102 = v96 → K 1 (uS w100 σ103))))))))) ∧ (x3 = 12 → (Is G w x1 (kO 11)) ∧ ∃ a106 : Nat, (wR w x1 2) = some a106 ∧ (∃ n108 : Nat, ((Is G w a106 (kA 0 n108)) ∧ (0 < (n108 : Int)) ∧ ∃ a111 : Nat, (wR w x1 2) = some a111 ∧ (∃ n113 : Nat, ((Is G w a111 (kA 0 n113)) ∧ (2 < (n113 : Int)) ∧ ∃ c116 s117 : Nat, c116 ≤ rc ∧ s117 ≤ rs ∧ (DI G M_Bo_size [vA x1, vI (wI w a106 0), vI (wI w a111 2)] w c116 s117 (fun v121 w120 => (0 ≤ v121 → ∃ c123 s124 : Nat, c123 ≤ (rc - c116) ∧ s124 ≤ (rs - s117) ∧ (DI G M_Bo_allCoins [vA x1] w120 c123 s124 (fun v128 w127 => (v128 = 0 → CI M_Cs_plan [vR 0] (wS w127) (fun v130 σ131 => (¬ v130 = (-5) → K 0 (uS w127 σ131)) ∧ (v130 = (-5) → K 1 (uS w127 σ131)))) ∧ (¬ v128 = 0 → ∃ a133 : Nat, (wR w127 x1 1) = some a133 ∧ ((Is G w127 a133 (kO 14)) ∧ DI G M_Al_isEmpty [vA a133] w127 0 0 (fun v137 w136 => (¬ v137 = 0 → (v121 ≤ 0 → CI M_Cs_plan [vR 0] (wS w136) (fun v140 σ141 => (¬ v140 = v121 → K 0 (uS w136 σ141)) ∧ (v140 = v121 → K 1 (uS w136 σ141)))) ∧ (¬ v121 ≤ 0 → ∃ c143 s144 : Nat, c143 ≤ ((rc - c116) - c123) ∧ s144 ≤ ((rs - s117) - s124) ∧ (DI G M_Bo_allCoins [vA x1] w136 c143 s144 (fun v148 w147 => (0 ≤ v148) ∧ (0 < v121) ∧ DI G M_Ma_max [vI 1, vI (v148 / v121)] w147 0 0 (fun v152 w151 => (Ow w151 x1 (kO 11)) ∧ CI M_Cs_plan [vR 0] (wS (uI w151 x1 3 v152)) (fun v154 σ155 => (¬ v154 = v121 → K 0 (uS (uI w151 x1 3 v152) σ155)) ∧ (v154 = v121 → K 1 (uS (uI w151 x1 3 v152) σ155)))))))) ∧ (v137 = 0 → CI M_Cs_plan [vR 0] (wS w136) (fun v157 σ158 => (¬ v157 = (-5) → K 0 (uS w136 σ158)) ∧ (v157 = (-5) → K 1 (uS w136 σ158)))))))))) ∧ (¬ 0 ≤ v121 → CI M_Cs_plan [vR 0] (wS w120) (fun v160 σ161 => (¬ v160 = (-4) → K 0 (uS w120 σ161)) ∧ (v160 = (-4) → K 1 (uS w120 σ161)))))))))))) ∧ (x3 = 11 → DI G M_Cl_draw [vA x2, vI 20] w 0 0 (fun v164 w163 => (¬ v164 = 0 → DI G M_Cl_draw [vA x2, vI 4] w163 0 0 (fun v167 w166 => (¬ v167 = 0 → DI G M_Cl_draw [vA x2, vI 400] w166 0 0 (fun v170 w169 => (inR (1 + v170)) ∧ ((1 + v170) < 1 → CI M_Cs_interval [vR 0, vI (1 + v170)] (wS w169) (fun v173 σ174 => (¬ v173 = (-3) → K 0 (uS w169 σ174)) ∧ (v173 = (-3) → K 1 (uS w169 σ174)))) ∧ (¬ (1 + v170) < 1 → ((1 + v170) ≤ 99999 → (Is G w169 x1 (kO 11)) ∧ ∃ a178 : Nat, (wR w169 x1 1) = some a178 ∧ ((Is G w169 a178 (kO 14)) ∧ DI G M_Al_isEmpty [vA a178] w169 0 0 (fun v182 w181 => (¬ v182 = 0 → (Ow w181 x1 (kO 11)) ∧ ∃ a185 : Nat, (wR w181 x1 0) = some a185 ∧ (∃ c187 s188 : Nat, c187 ≤ rc ∧ s188 ≤ rs ∧ ((Is G (uI w181 x1 3 (1 + v170)) a185 (kO 14)) ∧ DP G M_Al_iterator [vA a185] (uI w181 x1 3 (1 + v170)) c187 s188 (fun v193 w192 => WD G M_Cl_act 1149 [(0, vR 0), (1, vA x1), (6, vI 0), (8, vI (1 + v170)), (9, vP v193)] [] w192 (rc - c187) (rs - s188) (yI K))))) ∧ (v182 = 0 → CI M_Cs_interval [vR 0, vI (1 + v170)] (wS w181) (fun v194 σ195 => (¬ v194 = (-5) → K 0 (uS w181 σ195)) ∧ (v194 = (-5) → K 1 (uS w181 σ195))))))) ∧ (¬ (1 + v170) ≤ 99999 → CI M_Cs_interval [vR 0, vI (1 + v170)] (wS w169) (fun v197 σ198 => (¬ v197 = (-3) → K 0 (uS w169 σ198)) ∧ (v197 = (-3) → K 1 (uS w169 σ198))))))) ∧ (v167 = 0 → DI G M_Cl_draw [vA x2, vI 4] w166 0 0 (fun v201 w200 => (inR (1 + v201)) ∧ ((1 + v201) < 1 → CI M_Cs_interval [vR 0, vI (1 + v201)] (wS w200) (fun v204 σ205 => (¬ v204 = (-3) → K 0 (uS w200 σ205)) ∧ (v204 = (-3) → K 1 (uS w200 σ205)))) ∧ (¬ (1 + v201) < 1 → ((1 + v201) ≤ 99999 → (Is G w200 x1 (kO 11)) ∧ ∃ a209 : Nat, (wR w200 x1 1) = some a209 ∧ ((Is G w200 a209 (kO 14)) ∧ DI G M_Al_isEmpty [vA a209] w200 0 0 (fun v213 w212 => (¬ v213 = 0 → (Ow w212 x1 (kO 11)) ∧ ∃ a216 : Nat, (wR w212 x1 0) = some a216 ∧ (∃ c218 s219 : Nat, c218 ≤ rc ∧ s219 ≤ rs ∧ ((Is G (uI w212 x1 3 (1 + v201)) a216 (kO 14)) ∧ DP G M_Al_iterator [vA a216] (uI w212 x1 3 (1 + v201)) c218 s219 (fun v224 w223 => WD G M_Cl_act 1149 [(0, vR 0), (1, vA x1), (6, vI 0), (8, vI (1 + v201)), (9, vP v224)] [] w223 (rc - c218) (rs - s219) (yI K))))) ∧ (v213 = 0 → CI M_Cs_interval [vR 0, vI (1 + v201)] (wS w212) (fun v225 σ226 => (¬ v225 = (-5) → K 0 (uS w212 σ226)) ∧ (v225 = (-5) → K 1 (uS w212 σ226))))))) ∧ (¬ (1 + v201) ≤ 99999 → CI M_Cs_interval [vR 0, vI (1 + v201)] (wS w200) (fun v228 σ229 => (¬ v228 = (-3) → K 0 (uS w200 σ229)) ∧ (v228 = (-3) → K 1 (uS w200 σ229))))))))) ∧ (v164 = 0 → DI G M_Cl_draw [vA x2, vI 2] w163 0 0 (fun v232 w231 => (inR (100000 * v232)) ∧ ((100000 * v232) < 1 → CI M_Cs_interval [vR 0, vI (100000 * v232)] (wS w231) (fun v235 σ236 => (¬ v235 = (-3) → K 0 (uS w231 σ236)) ∧ (v235 = (-3) → K 1 (uS w231 σ236)))) ∧ (¬ (100000 * v232) < 1 → ((100000 * v232) ≤ 99999 → (Is G w231 x1 (kO 11)) ∧ ∃ a240 : Nat, (wR w231 x1 1) = some a240 ∧ ((Is G w231 a240 (kO 14)) ∧ DI G M_Al_isEmpty [vA a240] w231 0 0 (fun v244 w243 => (¬ v244 = 0 → (Ow w243 x1 (kO 11)) ∧ ∃ a247 : Nat, (wR w243 x1 0) = some a247 ∧ (∃ c249 s250 : Nat, c249 ≤ rc ∧ s250 ≤ rs ∧ ((Is G (uI w243 x1 3 (100000 * v232)) a247 (kO 14)) ∧ DP G M_Al_iterator [vA a247] (uI w243 x1 3 (100000 * v232)) c249 s250 (fun v255 w254 => WD G M_Cl_act 1149 [(0, vR 0), (1, vA x1), (6, vI 0), (8, vI (100000 * v232)), (9, vP v255)] [] w254 (rc - c249) (rs - s250) (yI K))))) ∧ (v244 = 0 → CI M_Cs_interval [vR 0, vI (100000 * v232)] (wS w243) (fun v256 σ257 => (¬ v256 = (-5) → K 0 (uS w243 σ257)) ∧ (v256 = (-5) → K 1 (uS w243 σ257))))))) ∧ (¬ (100000 * v232) ≤ 99999 → CI M_Cs_interval [vR 0, vI (100000 * v232)] (wS w231) (fun v259 σ260 => (¬ v259 = (-3) → K 0 (uS w231 σ260)) ∧ (v259 = (-3) → K 1 (uS w231 σ260)))))))))) ∧ (x3 = 10 → (y0 = none → CI M_Cs_forget [vR 0, vI x5] (wS w) (fun v264 σ265 => (¬ v264 = (-2) → K 0 (uS w σ265)) ∧ (v264 = (-2) → K 1 (uS w σ265)))) ∧ (∀ a262 : Nat, y0 = some a262 → (Is G w a262 (kO 13)) ∧ (Ow w a262 (kO 13)) ∧ CI M_Cs_forget [vR 0, vI x5] (wS (uI w a262 3 (-1))) (fun v269 σ270 => (¬ v269 = (wI w a262 3) → K 0 (uS (uI w a262 3 (-1)) σ270)) ∧ (v269 = (wI w a262 3) → K 1 (uS (uI w a262 3 (-1)) σ270)))))) ∧ (¬ 10 ≤ x3 → (y0 = none → DI G M_Cl_draw [vA x2, vI 3] w 0 0 (fun v275 w274 => (inR (v275 - 1)) ∧ CI M_Cs_audit [vR 0, vI x5, vI (v275 - 1)] (wS w274) (fun v277 σ278 => (¬ v277 = (-2) → K 0 (uS w274 σ278)) ∧ (v277 = (-2) → K 1 (uS w274 σ278))))) ∧ (∀ a272 : Nat, y0 = some a272 → (Is G w a272 (kO 13)) ∧ (1 ≤ (wI w a272 2) → DI G M_Cl_draw [vA x2, vI 25] w 0 0 (fun v283 w282 => (¬ v283 = 0 → DI G M_Cl_draw [vA x2, vI 4] w282 0 0 (fun v286 w285 => (¬ v286 = 0 → DI G M_Cl_draw [vA x2, vI 3] w285 0 0 (fun v289 w288 => (¬ v289 = 0 → (0 ≤ (wI w288 a272 2)) ∧ (inR (1 + ((wI w288 a272 2) / 2))) ∧ DI G M_Cl_draw [vA x2, vI (1 + ((wI w288 a272 2) / 2))] w288 0 0 (fun v294 w293 => (inR ((wI w288 a272 2) - v294)) ∧ (((wI w288 a272 2) - v294) < 0 → CI M_Cs_audit [vR 0, vI x5, vI ((wI w288 a272 2) - v294)] (wS w293) (fun v297 σ298 => (¬ v297 = (-3) → K 0 (uS w293 σ298)) ∧ (v297 = (-3) → K 1 (uS w293 σ298)))) ∧ (¬ ((wI w288 a272 2) - v294) < 0 → (inR (2 * (wI w293 a272 2))) ∧ (((wI w288 a272 2) - v294) ≤ (2 * (wI w293 a272 2)) → (¬ (wI w293 a272 2) = 0 → ((wI w293 a272 3) < (-1) → CI M_Cs_audit [vR 0, vI x5, vI ((wI w288 a272 2) - v294)] (wS w293) (fun v304 σ305 => (¬ v304 = (wI w293 a272 3) → K 0 (uS w293 σ305)) ∧ (v304 = (wI w293 a272 3) → K 1 (uS w293 σ305)))) ∧ (¬ (wI w293 a272 3) < (-1) → (Ow w293 a272 (kO 13)) ∧ CI M_Cs_audit [vR 0, vI x5, vI ((wI w288 a272 2) - v294)] (wS (uI w293 a272 3 ((wI w288 a272 2) - v294))) (fun v308 σ309 => (¬ v308 = (wI w293 a272 3) → K 0 (uS (uI w293 a272 3 ((wI w288 a272 2) - v294)) σ309)) ∧ (v308 = (wI w293 a272 3) → K 1 (uS (uI w293 a272 3 ((wI w288 a272 2) - v294)) σ309))))) ∧ ((wI w293 a272 2) = 0 → CI M_Cs_audit [vR 0, vI x5, vI ((wI w288 a272 2) - v294)] (wS w293) (fun v311 σ312 => (¬ v311 = (-5) → K 0 (uS w293 σ312)) ∧ (v311 = (-5) → K 1 (uS w293 σ312))))) ∧ (¬ ((wI w288 a272 2) - v294) ≤ (2 * (wI w293 a272 2)) → CI M_Cs_audit [vR 0, vI x5, vI ((wI w288 a272 2) - v294)] (wS w293) (fun v314 σ315 => (¬ v314 = (-3) → K 0 (uS w293 σ315)) ∧ (v314 = (-3) → K 1 (uS w293 σ315))))))) ∧ (v289 = 0 → (0 ≤ (wI w288 a272 2)) ∧ (inR (1 + ((wI w288 a272 2) / 3))) ∧ DI G M_Cl_draw [vA x2, vI (1 + ((wI w288 a272 2) / 3))] w288 0 0 (fun v320 w319 => (inR ((wI w288 a272 2) + v320)) ∧ (((wI w288 a272 2) + v320) < 0 → CI M_Cs_audit [vR 0, vI x5, vI ((wI w288 a272 2) + v320)] (wS w319) (fun v323 σ324 => (¬ v323 = (-3) → K 0 (uS w319 σ324)) ∧ (v323 = (-3) → K 1 (uS w319 σ324)))) ∧ (¬ ((wI w288 a272 2) + v320) < 0 → (inR (2 * (wI w319 a272 2))) ∧ (((wI w288 a272 2) + v320) ≤ (2 * (wI w319 a272 2)) → (¬ (wI w319 a272 2) = 0 → ((wI w319 a272 3) < (-1) → CI M_Cs_audit [vR 0, vI x5, vI ((wI w288 a272 2) + v320)] (wS w319) (fun v330 σ331 => (¬ v330 = (wI w319 a272 3) → K 0 (uS w319 σ331)) ∧ (v330 = (wI w319 a272 3) → K 1 (uS w319 σ331)))) ∧ (¬ (wI w319 a272 3) < (-1) → (Ow w319 a272 (kO 13)) ∧ CI M_Cs_audit [vR 0, vI x5, vI ((wI w288 a272 2) + v320)] (wS (uI w319 a272 3 ((wI w288 a272 2) + v320))) (fun v334 σ335 => (¬ v334 = (wI w319 a272 3) → K 0 (uS (uI w319 a272 3 ((wI w288 a272 2) + v320)) σ335)) ∧ (v334 = (wI w319 a272 3) → K 1 (uS (uI w319 a272 3 ((wI w288 a272 2) + v320)) σ335))))) ∧ ((wI w319 a272 2) = 0 → CI M_Cs_audit [vR 0, vI x5, vI ((wI w288 a272 2) + v320)] (wS w319) (fun v337 σ338 => (¬ v337 = (-5) → K 0 (uS w319 σ338)) ∧ (v337 = (-5) → K 1 (uS w319 σ338))))) ∧ (¬ ((wI w288 a272 2) + v320) ≤ (2 * (wI w319 a272 2)) → CI M_Cs_audit [vR 0, vI x5, vI ((wI w288 a272 2) + v320)] (wS w319) (fun v340 σ341 => (¬ v340 = (-3) → K 0 (uS w319 σ341)) ∧ (v340 = (-3) → K 1 (uS w319 σ341))))))))) ∧ (v286 = 0 → ((wI w285 a272 2) < 0 → CI M_Cs_audit [vR 0, vI x5, vI (wI w285 a272 2)] (wS w285) (fun v344 σ345 => (¬ v344 = (-3) → K 0 (uS w285 σ345)) ∧ (v344 = (-3) → K 1 (uS w285 σ345)))) ∧ (¬ (wI w285 a272 2) < 0 → (inR (2 * (wI w285 a272 2))) ∧ ((wI w285 a272 2) ≤ (2 * (wI w285 a272 2)) → (¬ (wI w285 a272 2) = 0 → ((wI w285 a272 3) < (-1) → CI M_Cs_audit [vR 0, vI x5, vI (wI w285 a272 2)] (wS w285) (fun v351 σ352 => (¬ v351 = (wI w285 a272 3) → K 0 (uS w285 σ352)) ∧ (v351 = (wI w285 a272 3) → K 1 (uS w285 σ352)))) ∧ (¬ (wI w285 a272 3) < (-1) → (Ow w285 a272 (kO 13)) ∧ CI M_Cs_audit [vR 0, vI x5, vI (wI w285 a272 2)] (wS (uI w285 a272 3 (wI w285 a272 2))) (fun v355 σ356 => (¬ v355 = (wI w285 a272 3) → K 0 (uS (uI w285 a272 3 (wI w285 a272 2)) σ356)) ∧ (v355 = (wI w285 a272 3) → K 1 (uS (uI w285 a272 3 (wI w285 a272 2)) σ356))))) ∧ ((wI w285 a272 2) = 0 → CI M_Cs_audit [vR 0, vI x5, vI (wI w285 a272 2)] (wS w285) (fun v358 σ359 => (¬ v358 = (-5) → K 0 (uS w285 σ359)) ∧ (v358 = (-5) → K 1 (uS w285 σ359))))) ∧ (¬ (wI w285 a272 2) ≤ (2 * (wI w285 a272 2)) → CI M_Cs_audit [vR 0, vI x5, vI (wI w285 a272 2)] (wS w285) (fun v361 σ362 => (¬ v361 = (-3) → K 0 (uS w285 σ362)) ∧ (v361 = (-3) → K 1 (uS w285 σ362)))))))) ∧ (v283 = 0 → (inR (2 * (wI w282 a272 2))) ∧ (inR ((2 * (wI w282 a272 2)) + 1)) ∧ (((2 * (wI w282 a272 2)) + 1) < 0 → CI M_Cs_audit [vR 0, vI x5, vI ((2 * (wI w282 a272 2)) + 1)] (wS w282) (fun v367 σ368 => (¬ v367 = (-3) → K 0 (uS w282 σ368)) ∧ (v367 = (-3) → K 1 (uS w282 σ368)))) ∧ (¬ ((2 * (wI w282 a272 2)) + 1) < 0 → (((2 * (wI w282 a272 2)) + 1) ≤ (2 * (wI w282 a272 2)) → (¬ (wI w282 a272 2) = 0 → ((wI w282 a272 3) < (-1) → CI M_Cs_audit [vR 0, vI x5, vI ((2 * (wI w282 a272 2)) + 1)] (wS w282) (fun v373 σ374 => (¬ v373 = (wI w282 a272 3) → K 0 (uS w282 σ374)) ∧ (v373 = (wI w282 a272 3) → K 1 (uS w282 σ374)))) ∧ (¬ (wI w282 a272 3) < (-1) → (Ow w282 a272 (kO 13)) ∧ CI M_Cs_audit [vR 0, vI x5, vI ((2 * (wI w282 a272 2)) + 1)] (wS (uI w282 a272 3 ((2 * (wI w282 a272 2)) + 1))) (fun v377 σ378 => (¬ v377 = (wI w282 a272 3) → K 0 (uS (uI w282 a272 3 ((2 * (wI w282 a272 2)) + 1)) σ378)) ∧ (v377 = (wI w282 a272 3) → K 1 (uS (uI w282 a272 3 ((2 * (wI w282 a272 2)) + 1)) σ378))))) ∧ ((wI w282 a272 2) = 0 → CI M_Cs_audit [vR 0, vI x5, vI ((2 * (wI w282 a272 2)) + 1)] (wS w282) (fun v380 σ381 => (¬ v380 = (-5) → K 0 (uS w282 σ381)) ∧ (v380 = (-5) → K 1 (uS w282 σ381))))) ∧ (¬ ((2 * (wI w282 a272 2)) + 1) ≤ (2 * (wI w282 a272 2)) → CI M_Cs_audit [vR 0, vI x5, vI ((2 * (wI w282 a272 2)) + 1)] (wS w282) (fun v383 σ384 => (¬ v383 = (-3) → K 0 (uS w282 σ384)) ∧ (v383 = (-3) → K 1 (uS w282 σ384)))))))) ∧ (¬ 1 ≤ (wI w a272 2) → DI G M_Cl_draw [vA x2, vI 3] w 0 0 (fun v387 w386 => (inR (v387 - 1)) ∧ ((v387 - 1) < 0 → CI M_Cs_audit [vR 0, vI x5, vI (v387 - 1)] (wS w386) (fun v390 σ391 => (¬ v390 = (-3) → K 0 (uS w386 σ391)) ∧ (v390 = (-3) → K 1 (uS w386 σ391)))) ∧ (¬ (v387 - 1) < 0 → (inR (2 * (wI w386 a272 2))) ∧ ((v387 - 1) ≤ (2 * (wI w386 a272 2)) → (¬ (wI w386 a272 2) = 0 → ((wI w386 a272 3) < (-1) → CI M_Cs_audit [vR 0, vI x5, vI (v387 - 1)] (wS w386) (fun v397 σ398 => (¬ v397 = (wI w386 a272 3) → K 0 (uS w386 σ398)) ∧ (v397 = (wI w386 a272 3) → K 1 (uS w386 σ398)))) ∧ (¬ (wI w386 a272 3) < (-1) → (Ow w386 a272 (kO 13)) ∧ CI M_Cs_audit [vR 0, vI x5, vI (v387 - 1)] (wS (uI w386 a272 3 (v387 - 1))) (fun v401 σ402 => (¬ v401 = (wI w386 a272 3) → K 0 (uS (uI w386 a272 3 (v387 - 1)) σ402)) ∧ (v401 = (wI w386 a272 3) → K 1 (uS (uI w386 a272 3 (v387 - 1)) σ402))))) ∧ ((wI w386 a272 2) = 0 → CI M_Cs_audit [vR 0, vI x5, vI (v387 - 1)] (wS w386) (fun v404 σ405 => (¬ v404 = (-5) → K 0 (uS w386 σ405)) ∧ (v404 = (-5) → K 1 (uS w386 σ405))))) ∧ (¬ (v387 - 1) ≤ (2 * (wI w386 a272 2)) → CI M_Cs_audit [vR 0, vI x5, vI (v387 - 1)] (wS w386) (fun v407 σ408 => (¬ v407 = (-3) → K 0 (uS w386 σ408)) ∧ (v407 = (-3) → K 1 (uS w386 σ408)))))))))) ∧ (x3 = 4 → DI G M_Cl_draw [vA x2, vI 25] w 0 0 (fun v411 w410 => (¬ v411 = 0 → DI G M_Cl_draw [vA x2, vI 300] w410 0 0 (fun v414 w413 => (inR (v414 - 30)) ∧ (y0 = none → CI M_Cs_post [vR 0, vI x5, vI (v414 - 30)] (wS w413) (fun v418 σ419 => (¬ v418 = (-10000000) → K 0 (uS w413 σ419)) ∧ (v418 = (-10000000) → K 1 (uS w413 σ419)))) ∧ (∀ a416 : Nat, y0 = some a416 → ((v414 - 30) ≤ (-100000) → CI M_Cs_post [vR 0, vI x5, vI (v414 - 30)] (wS w413) (fun v422 σ423 => (¬ v422 = (-10000000) → K 0 (uS w413 σ423)) ∧ (v422 = (-10000000) → K 1 (uS w413 σ423)))) ∧ (¬ (v414 - 30) ≤ (-100000) → (Is G w413 x1 (kO 11)) ∧ ∃ a426 : Nat, (wR w413 x1 1) = some a426 ∧ ((Is G w413 a426 (kO 14)) ∧ DI G M_Al_isEmpty [vA a426] w413 0 0 (fun v430 w429 => (v430 = 0 → CI M_Cs_post [vR 0, vI x5, vI (v414 - 30)] (wS w429) (fun v432 σ433 => (¬ v432 = (-10000000) → K 0 (uS w429 σ433)) ∧ (v432 = (-10000000) → K 1 (uS w429 σ433)))) ∧ (¬ v430 = 0 → (Is G w429 a416 (kO 13)) ∧ (Ow w429 a416 (kO 13)) ∧ CI M_Cs_post [vR 0, vI x5, vI (v414 - 30)] (wS (uI (uI w429 a416 2 (v414 - 30)) a416 3 (-1))) (fun v437 σ438 => (¬ v437 = (wI w429 a416 2) → K 0 (uS (uI (uI w429 a416 2 (v414 - 30)) a416 3 (-1)) σ438)) ∧ (v437 = (wI w429 a416 2) → K 1 (uS (uI (uI w429 a416 2 (v414 - 30)) a416 3 (-1)) σ438)))))))))) ∧ (v411 = 0 → (y0 = none → CI M_Cs_post [vR 0, vI x5, vI (-100000)] (wS w410) (fun v442 σ443 => (¬ v442 = (-10000000) → K 0 (uS w410 σ443)) ∧ (v442 = (-10000000) → K 1 (uS w410 σ443)))) ∧ (∀ a440 : Nat, y0 = some a440 → CI M_Cs_post [vR 0, vI x5, vI (-100000)] (wS w410) (fun v445 σ446 => (¬ v445 = (-10000000) → K 0 (uS w410 σ446)) ∧ (v445 = (-10000000) → K 1 (uS w410 σ446)))))))) ∧ (x3 = 3 → DI G M_Cl_draw [vA x2, vI 30] w 0 0 (fun v449 w448 => (¬ v449 = 0 → DI G M_Cl_draw [vA x2, vI 5] w448 0 0 (fun v452 w451 => WD G M_Cl_act 485 [(0, vR 0), (1, vA x1), (2, vA x2), (4, vI x4)] [vI v452] w451 rc rs (yI K))) ∧ (v449 = 0 → WD G M_Cl_act 485 [(0, vR 0), (1, vA x1), (2, vA x2), (4, vI x4)] [vI 100] w448 rc rs (yI K))))) ∧ (x3 = 2 → DI G M_Cl_draw [vA x2, vI 6] w 0 0 (fun v454 w453 => (¬ v454 = 0 → (¬ v454 = 1 → (¬ v454 = 2 → (¬ v454 = 3 → DI G M_Cl_draw [vA x2, vI 40] w453 0 0 (fun v460 w459 => (¬ v460 = 0 → DI G M_Cl_draw [vA x2, vI 60] w459 0 0 (fun v463 w462 => (¬ v463 = 0 → DI G M_Cl_draw [vA x2, vI 900] w462 0 0 (fun v466 w465 => WD G M_Cl_act 278 [(0, vR 0), (1, vA x1), (8, vI v454)] [vI v466] w465 rc rs (yI K))) ∧ (v463 = 0 → WD G M_Cl_act 278 [(0, vR 0), (1, vA x1), (8, vI v454)] [vI 1000003] w462 rc rs (yI K)))) ∧ (v460 = 0 → WD G M_Cl_act 278 [(0, vR 0), (1, vA x1), (8, vI v454)] [vI 1000004] w459 rc rs (yI K)))) ∧ (v454 = 3 → DI G M_Cl_draw [vA x2, vI 3] w453 0 0 (fun v468 w467 => WD G M_Cl_act 278 [(0, vR 0), (1, vA x1), (8, vI v454)] [vI v468] w467 rc rs (yI K)))) ∧ (v454 = 2 → DI G M_Cl_draw [vA x2, vI 11] w453 0 0 (fun v470 w469 => WD G M_Cl_act 278 [(0, vR 0), (1, vA x1), (8, vI v454)] [vI v470] w469 rc rs (yI K)))) ∧ (v454 = 1 → DI G M_Cl_draw [vA x2, vI 502] w453 0 0 (fun v472 w471 => WD G M_Cl_act 278 [(0, vR 0), (1, vA x1), (8, vI v454)] [vI v472] w471 rc rs (yI K)))) ∧ (v454 = 0 → DI G M_Cl_draw [vA x2, vI 9] w453 0 0 (fun v474 w473 => (¬ v474 = 0 → DI G M_Cl_draw [vA x2, vI 6000] w473 0 0 (fun v477 w476 => (inR (1 + v477)) ∧ WD G M_Cl_act 278 [(0, vR 0), (1, vA x1), (8, vI v454)] [vI (1 + v477)] w476 rc rs (yI K))) ∧ (v474 = 0 → WD G M_Cl_act 278 [(0, vR 0), (1, vA x1), (8, vI v454)] [vI 0] w473 rc rs (yI K)))))))) ∧ (x3 = 0 → ∃ c479 s480 : Nat, c479 ≤ rc ∧ s480 ≤ rs ∧ (DP G M_Cl_drawn [vA x1, vA x2] w c479 s480 (fun v484 w483 => CI M_Cs_text [vR 0, vI 901] (wS w483) (fun v485 σ486 => (¬ v485 = (-3) → K 0 (uS w483 σ486)) ∧ (v485 = (-3) → CI M_Cs_text [vR 0, vI (-1)] (wS (uS w483 σ486)) (fun v488 σ489 => (¬ v488 = (-3) → K 0 (uS (uS w483 σ486) σ489)) ∧ (v488 = (-3) → ∃ a491 : Nat, v484 = some a491 ∧ (∃ c493 s494 : Nat, c493 ≤ (rc - c479) ∧ s494 ≤ (rs - s480) ∧ (DI G M_Cl_feeds [vR 0, vA a491] (uS (uS w483 σ486) σ489) c493 s494 (fun v498 w497 => CI M_Cs_text [vR 0, vI v498] (wS w497) (fun v499 σ500 => (Is G (uS w497 σ500) x1 (kO 11)) ∧ ∃ a502 : Nat, (wR w497 x1 0) = some a502 ∧ ((Is G (uS w497 σ500) a502 (kO 14)) ∧ DI G M_Al_size [vA a502] (uS w497 σ500) 0 0 (fun v506 w505 => (¬ v499 = v506 → K 0 w505) ∧ (v499 = v506 → CI M_Cs_fault [vR 0, vI 0] (wS w505) (fun v508 σ509 => (¬ v508 = 0 → K 0 (uS w505 σ509)) ∧ (v508 = 0 → CI M_Cs_fault [vR 0, vI 1] (wS (uS w505 σ509)) (fun v511 σ512 => (¬ v511 = (-1) → K 0 (uS (uS w505 σ509) σ512)) ∧ (v511 = (-1) → CI M_Cs_fault [vR 0, vI 2] (wS (uS (uS w505 σ509) σ512)) (fun v514 σ515 => (¬ v514 = (-1) → K 0 (uS (uS (uS w505 σ509) σ512) σ515)) ∧ (v514 = (-1) → K 1 (uS (uS (uS w505 σ509) σ512) σ515)))))))))))))))))))))) : WD G M_Cl_act 63 [(0, vR 0), (1, vA x1), (2, vA x2), (3, vI x3), (4, vI x4), (5, vI x5)] [vP y0] w rc rs (yI K) := by
  refine x_astoreP y0 (ls' := [(7, vP y0), (0, vR 0), (1, vA x1), (2, vA x2), (3, vI x3), (4, vI x4), (5, vI x5)]) d_Cl_act_63 (by decide) rfl (?_ : WD _ _ 65 _ _ _ _ _ _)
  refine x_iload_n d_Cl_act_65 rfl (?_ : WD _ _ 66 _ _ _ _ _ _)
  refine x_if_ne 150 d_Cl_act_66 rfl ⟨fun c23 => (?_ : WD _ _ 150 _ _ _ _ _ _), fun c23 => (?_ : WD _ _ 69 _ _ _ _ _ _)⟩
  · replace h := h.1 c23
    refine x_iload_n d_Cl_act_150 rfl (?_ : WD _ _ 151 _ _ _ _ _ _)
    refine x_iconst d_Cl_act_151 (by decide) (?_ : WD _ _ 152 _ _ _ _ _ _)
    refine x_icmp_eq 160 d_Cl_act_152 rfl ⟨fun c24 => (?_ : WD _ _ 160 _ _ _ _ _ _), fun c24 => (?_ : WD _ _ 155 _ _ _ _ _ _)⟩
    · replace h := h.1 c24
      refine x_aload_nP (some x2) d_Cl_act_160 rfl (?_ : WD _ _ 161 _ _ _ _ _ _)
      refine x_bipush d_Cl_act_161 (by decide) (by decide) (?_ : WD _ _ 163 _ _ _ _ _ _)
      refine x_callS (ν := M_Cl_draw) [vA x2, vI 6] ok_M_Cl_draw oks_M_Cl_draw (qm_3 (i := 179) rfl rfl) np_M_Cl_draw rfl ⟨Nat.le_of_ble_eq_true rfl, Nat.le_of_ble_eq_true rfl⟩ (Nat.le_of_ble_eq_true rfl) rfl d_Cl_act_163 (Nat.zero_le _) (Nat.zero_le _) (DI.k h (fun v26 w25 gw25 h => (?_ : WD _ _ 166 _ _ _ _ _ _)))
      refine x_istore (ls' := [(8, vI v26), (7, vP y0), (0, vR 0), (1, vA x1), (2, vA x2), (3, vI x3), (4, vI x4), (5, vI x5)]) d_Cl_act_166 (by decide) rfl (?_ : WD _ _ 168 _ _ _ _ _ _)
      refine x_iload d_Cl_act_168 rfl (?_ : WD _ _ 170 _ _ _ _ _ _)
      refine x_if_ne 198 d_Cl_act_170 rfl ⟨fun c27 => (?_ : WD _ _ 198 _ _ _ _ _ _), fun c27 => (?_ : WD _ _ 173 _ _ _ _ _ _)⟩
      · replace h := h.1 c27
        refine x_iload d_Cl_act_198 rfl (?_ : WD _ _ 200 _ _ _ _ _ _)
        refine x_iconst d_Cl_act_200 (by decide) (?_ : WD _ _ 201 _ _ _ _ _ _)
        refine x_icmp_ne 214 d_Cl_act_201 rfl ⟨fun c28 => (?_ : WD _ _ 214 _ _ _ _ _ _), fun c28 => (?_ : WD _ _ 204 _ _ _ _ _ _)⟩
        · replace h := h.1 c28
          refine x_iload d_Cl_act_214 rfl (?_ : WD _ _ 216 _ _ _ _ _ _)
          refine x_iconst d_Cl_act_216 (by decide) (?_ : WD _ _ 217 _ _ _ _ _ _)
          refine x_icmp_ne 229 d_Cl_act_217 rfl ⟨fun c29 => (?_ : WD _ _ 229 _ _ _ _ _ _), fun c29 => (?_ : WD _ _ 220 _ _ _ _ _ _)⟩
          · replace h := h.1 c29
            refine x_iload d_Cl_act_229 rfl (?_ : WD _ _ 231 _ _ _ _ _ _)
            refine x_iconst d_Cl_act_231 (by decide) (?_ : WD _ _ 232 _ _ _ _ _ _)
            refine x_icmp_ne 243 d_Cl_act_232 rfl ⟨fun c30 => (?_ : WD _ _ 243 _ _ _ _ _ _), fun c30 => (?_ : WD _ _ 235 _ _ _ _ _ _)⟩
            · replace h := h.1 c30
              refine x_aload_nP (some x2) d_Cl_act_243 rfl (?_ : WD _ _ 244 _ _ _ _ _ _)
              refine x_bipush d_Cl_act_244 (by decide) (by decide) (?_ : WD _ _ 246 _ _ _ _ _ _)
              refine x_callS (ν := M_Cl_draw) [vA x2, vI 40] ok_M_Cl_draw oks_M_Cl_draw (qm_3 (i := 179) rfl rfl) np_M_Cl_draw rfl ⟨Nat.le_of_ble_eq_true rfl, Nat.le_of_ble_eq_true rfl⟩ (Nat.le_of_ble_eq_true rfl) rfl d_Cl_act_246 (Nat.zero_le _) (Nat.zero_le _) (DI.k h (fun v32 w31 gw31 h => (?_ : WD _ _ 249 _ _ _ _ _ _)))
              refine x_if_ne 257 d_Cl_act_249 rfl ⟨fun c33 => (?_ : WD _ _ 257 _ _ _ _ _ _), fun c33 => (?_ : WD _ _ 252 _ _ _ _ _ _)⟩
              · replace h := h.1 c33
                refine x_aload_nP (some x2) d_Cl_act_257 rfl (?_ : WD _ _ 258 _ _ _ _ _ _)
                refine x_bipush d_Cl_act_258 (by decide) (by decide) (?_ : WD _ _ 260 _ _ _ _ _ _)
                refine x_callS (ν := M_Cl_draw) [vA x2, vI 60] ok_M_Cl_draw oks_M_Cl_draw (qm_3 (i := 179) rfl rfl) np_M_Cl_draw rfl ⟨Nat.le_of_ble_eq_true rfl, Nat.le_of_ble_eq_true rfl⟩ (Nat.le_of_ble_eq_true rfl) rfl d_Cl_act_260 (Nat.zero_le _) (Nat.zero_le _) (DI.k h (fun v35 w34 gw34 h => (?_ : WD _ _ 263 _ _ _ _ _ _)))
                refine x_if_ne 271 d_Cl_act_263 rfl ⟨fun c36 => (?_ : WD _ _ 271 _ _ _ _ _ _), fun c36 => (?_ : WD _ _ 266 _ _ _ _ _ _)⟩
                · replace h := h.1 c36
                  refine x_aload_nP (some x2) d_Cl_act_271 rfl (?_ : WD _ _ 272 _ _ _ _ _ _)
                  refine x_sipush d_Cl_act_272 (by decide) (by decide) (?_ : WD _ _ 275 _ _ _ _ _ _)
                  refine x_callS (ν := M_Cl_draw) [vA x2, vI 900] ok_M_Cl_draw oks_M_Cl_draw (qm_3 (i := 179) rfl rfl) np_M_Cl_draw rfl ⟨Nat.le_of_ble_eq_true rfl, Nat.le_of_ble_eq_true rfl⟩ (Nat.le_of_ble_eq_true rfl) rfl d_Cl_act_275 (Nat.zero_le _) (Nat.zero_le _) (DI.k h (fun v38 w37 gw37 h => (?_ : WD _ _ 278 _ _ _ _ _ _)))
                  refine x_pick (ls' := [(0, vR 0), (1, vA x1), (8, vI v26)]) [2, 3, 0] rfl ?_
                  exact h
                · replace h := h.2 c36
                  refine x_ldc 1000003 d_Cl_act_266 (qm_5 (i := 130) rfl rfl) (by decide) (by decide) (?_ : WD _ _ 268 _ _ _ _ _ _)
                  refine x_goto 278 d_Cl_act_268 rfl ?_
                  refine x_pick (ls' := [(0, vR 0), (1, vA x1), (8, vI v26)]) [2, 3, 0] rfl ?_
                  exact h
              · replace h := h.2 c33
                refine x_ldc 1000004 d_Cl_act_252 (qm_5 (i := 129) rfl rfl) (by decide) (by decide) (?_ : WD _ _ 254 _ _ _ _ _ _)
                refine x_goto 278 d_Cl_act_254 rfl ?_
                refine x_pick (ls' := [(0, vR 0), (1, vA x1), (8, vI v26)]) [2, 3, 0] rfl ?_
                exact h
            · replace h := h.2 c30
              refine x_aload_nP (some x2) d_Cl_act_235 rfl (?_ : WD _ _ 236 _ _ _ _ _ _)
              refine x_iconst d_Cl_act_236 (by decide) (?_ : WD _ _ 237 _ _ _ _ _ _)
              refine x_callS (ν := M_Cl_draw) [vA x2, vI 3] ok_M_Cl_draw oks_M_Cl_draw (qm_3 (i := 179) rfl rfl) np_M_Cl_draw rfl ⟨Nat.le_of_ble_eq_true rfl, Nat.le_of_ble_eq_true rfl⟩ (Nat.le_of_ble_eq_true rfl) rfl d_Cl_act_237 (Nat.zero_le _) (Nat.zero_le _) (DI.k h (fun v40 w39 gw39 h => (?_ : WD _ _ 240 _ _ _ _ _ _)))
              refine x_goto 278 d_Cl_act_240 rfl ?_
              refine x_pick (ls' := [(0, vR 0), (1, vA x1), (8, vI v26)]) [2, 3, 0] rfl ?_
              exact h
          · replace h := h.2 c29
            refine x_aload_nP (some x2) d_Cl_act_220 rfl (?_ : WD _ _ 221 _ _ _ _ _ _)
            refine x_bipush d_Cl_act_221 (by decide) (by decide) (?_ : WD _ _ 223 _ _ _ _ _ _)
            refine x_callS (ν := M_Cl_draw) [vA x2, vI 11] ok_M_Cl_draw oks_M_Cl_draw (qm_3 (i := 179) rfl rfl) np_M_Cl_draw rfl ⟨Nat.le_of_ble_eq_true rfl, Nat.le_of_ble_eq_true rfl⟩ (Nat.le_of_ble_eq_true rfl) rfl d_Cl_act_223 (Nat.zero_le _) (Nat.zero_le _) (DI.k h (fun v42 w41 gw41 h => (?_ : WD _ _ 226 _ _ _ _ _ _)))
            refine x_goto 278 d_Cl_act_226 rfl ?_
            refine x_pick (ls' := [(0, vR 0), (1, vA x1), (8, vI v26)]) [2, 3, 0] rfl ?_
            exact h
        · replace h := h.2 c28
          refine x_aload_nP (some x2) d_Cl_act_204 rfl (?_ : WD _ _ 205 _ _ _ _ _ _)
          refine x_sipush d_Cl_act_205 (by decide) (by decide) (?_ : WD _ _ 208 _ _ _ _ _ _)
          refine x_callS (ν := M_Cl_draw) [vA x2, vI 502] ok_M_Cl_draw oks_M_Cl_draw (qm_3 (i := 179) rfl rfl) np_M_Cl_draw rfl ⟨Nat.le_of_ble_eq_true rfl, Nat.le_of_ble_eq_true rfl⟩ (Nat.le_of_ble_eq_true rfl) rfl d_Cl_act_208 (Nat.zero_le _) (Nat.zero_le _) (DI.k h (fun v44 w43 gw43 h => (?_ : WD _ _ 211 _ _ _ _ _ _)))
          refine x_goto 278 d_Cl_act_211 rfl ?_
          refine x_pick (ls' := [(0, vR 0), (1, vA x1), (8, vI v26)]) [2, 3, 0] rfl ?_
          exact h
      · replace h := h.2 c27
        refine x_aload_nP (some x2) d_Cl_act_173 rfl (?_ : WD _ _ 174 _ _ _ _ _ _)
        refine x_bipush d_Cl_act_174 (by decide) (by decide) (?_ : WD _ _ 176 _ _ _ _ _ _)
        refine x_callS (ν := M_Cl_draw) [vA x2, vI 9] ok_M_Cl_draw oks_M_Cl_draw (qm_3 (i := 179) rfl rfl) np_M_Cl_draw rfl ⟨Nat.le_of_ble_eq_true rfl, Nat.le_of_ble_eq_true rfl⟩ (Nat.le_of_ble_eq_true rfl) rfl d_Cl_act_176 (Nat.zero_le _) (Nat.zero_le _) (DI.k h (fun v46 w45 gw45 h => (?_ : WD _ _ 179 _ _ _ _ _ _)))
        refine x_if_ne 186 d_Cl_act_179 rfl ⟨fun c47 => (?_ : WD _ _ 186 _ _ _ _ _ _), fun c47 => (?_ : WD _ _ 182 _ _ _ _ _ _)⟩
        · replace h := h.1 c47
          refine x_iconst d_Cl_act_186 (by decide) (?_ : WD _ _ 187 _ _ _ _ _ _)
          refine x_aload_nP (some x2) d_Cl_act_187 rfl (?_ : WD _ _ 188 _ _ _ _ _ _)
          refine x_sipush d_Cl_act_188 (by decide) (by decide) (?_ : WD _ _ 191 _ _ _ _ _ _)
          refine x_callS (ν := M_Cl_draw) [vA x2, vI 6000] ok_M_Cl_draw oks_M_Cl_draw (qm_3 (i := 179) rfl rfl) np_M_Cl_draw rfl ⟨Nat.le_of_ble_eq_true rfl, Nat.le_of_ble_eq_true rfl⟩ (Nat.le_of_ble_eq_true rfl) rfl d_Cl_act_191 (Nat.zero_le _) (Nat.zero_le _) (DI.k h (fun v49 w48 gw48 h => (?_ : WD _ _ 194 _ _ _ _ _ _)))
          obtain ⟨h50, h⟩ := h
          refine x_iadd d_Cl_act_194 h50 (?_ : WD _ _ 195 _ _ _ _ _ _)
          refine x_goto 278 d_Cl_act_195 rfl ?_
          refine x_pick (ls' := [(0, vR 0), (1, vA x1), (8, vI v26)]) [2, 3, 0] rfl ?_
          exact h
        · replace h := h.2 c47
          refine x_iconst d_Cl_act_182 (by decide) (?_ : WD _ _ 183 _ _ _ _ _ _)
          refine x_goto 278 d_Cl_act_183 rfl ?_
          refine x_pick (ls' := [(0, vR 0), (1, vA x1), (8, vI v26)]) [2, 3, 0] rfl ?_
          exact h
    · replace h := h.2 c24
      refine x_iload_n d_Cl_act_155 rfl (?_ : WD _ _ 156 _ _ _ _ _ _)
      refine x_iconst d_Cl_act_156 (by decide) (?_ : WD _ _ 157 _ _ _ _ _ _)
      refine x_icmp_ne 461 d_Cl_act_157 rfl ⟨fun c51 => (?_ : WD _ _ 461 _ _ _ _ _ _), fun c51 => (?_ : WD _ _ 160 _ _ _ _ _ _)⟩
      · replace h := h.1 c51
        refine x_iload_n d_Cl_act_461 rfl (?_ : WD _ _ 462 _ _ _ _ _ _)
        refine x_iconst d_Cl_act_462 (by decide) (?_ : WD _ _ 463 _ _ _ _ _ _)
        refine x_icmp_ne 672 d_Cl_act_463 rfl ⟨fun c52 => (?_ : WD _ _ 672 _ _ _ _ _ _), fun c52 => (?_ : WD _ _ 466 _ _ _ _ _ _)⟩
        · replace h := h.1 c52
          refine x_iload_n d_Cl_act_672 rfl (?_ : WD _ _ 673 _ _ _ _ _ _)
          refine x_iconst d_Cl_act_673 (by decide) (?_ : WD _ _ 674 _ _ _ _ _ _)
          refine x_icmp_ne 786 d_Cl_act_674 rfl ⟨fun c53 => (?_ : WD _ _ 786 _ _ _ _ _ _), fun c53 => (?_ : WD _ _ 677 _ _ _ _ _ _)⟩
          · replace h := h.1 c53
            refine x_iload_n d_Cl_act_786 rfl (?_ : WD _ _ 787 _ _ _ _ _ _)
            refine x_bipush d_Cl_act_787 (by decide) (by decide) (?_ : WD _ _ 789 _ _ _ _ _ _)
            refine x_icmp_ge 993 d_Cl_act_789 rfl ⟨fun c54 => (?_ : WD _ _ 993 _ _ _ _ _ _), fun c54 => (?_ : WD _ _ 792 _ _ _ _ _ _)⟩
            · replace h := h.1 c54
              refine x_iload_n d_Cl_act_993 rfl (?_ : WD _ _ 994 _ _ _ _ _ _)
              refine x_bipush d_Cl_act_994 (by decide) (by decide) (?_ : WD _ _ 996 _ _ _ _ _ _)
              refine x_icmp_ne 1044 d_Cl_act_996 rfl ⟨fun c55 => (?_ : WD _ _ 1044 _ _ _ _ _ _), fun c55 => (?_ : WD _ _ 999 _ _ _ _ _ _)⟩
              · replace h := h.1 c55
                refine x_iload_n d_Cl_act_1044 rfl (?_ : WD _ _ 1045 _ _ _ _ _ _)
                refine x_bipush d_Cl_act_1045 (by decide) (by decide) (?_ : WD _ _ 1047 _ _ _ _ _ _)
                refine x_icmp_ne 1210 d_Cl_act_1047 rfl ⟨fun c56 => (?_ : WD _ _ 1210 _ _ _ _ _ _), fun c56 => (?_ : WD _ _ 1050 _ _ _ _ _ _)⟩
                · replace h := h.1 c56
                  refine x_iload_n d_Cl_act_1210 rfl (?_ : WD _ _ 1211 _ _ _ _ _ _)
                  refine x_bipush d_Cl_act_1211 (by decide) (by decide) (?_ : WD _ _ 1213 _ _ _ _ _ _)
                  refine x_icmp_ne 1305 d_Cl_act_1213 rfl ⟨fun c57 => (?_ : WD _ _ 1305 _ _ _ _ _ _), fun c57 => (?_ : WD _ _ 1216 _ _ _ _ _ _)⟩
                  · replace h := h.1 c57
                    refine x_iload_n d_Cl_act_1305 rfl (?_ : WD _ _ 1306 _ _ _ _ _ _)
                    refine x_bipush d_Cl_act_1306 (by decide) (by decide) (?_ : WD _ _ 1308 _ _ _ _ _ _)
                    refine x_icmp_ne 1342 d_Cl_act_1308 rfl ⟨fun c58 => (?_ : WD _ _ 1342 _ _ _ _ _ _), fun c58 => (?_ : WD _ _ 1311 _ _ _ _ _ _)⟩
                    · replace h := h.1 c58
                      refine x_aload_nP (some x1) d_Cl_act_1342 rfl (?_ : WD _ _ 1343 _ _ _ _ _ _)
                      obtain ⟨k59, h⟩ := h
                      refine x_getI (ref := "CoinSamplerLaw$Books") (j := 3) 3 k59 clk_11 (by decide) (qm_2 (i := 162) rfl rfl) (Or.inl rfl) rfl rfl d_Cl_act_1343 (y := (wI w x1 3)) rfl (?_ : WD _ _ 1346 _ _ _ _ _ _)
                      refine x_if_ne 1354 d_Cl_act_1346 rfl ⟨fun c60 => (?_ : WD _ _ 1354 _ _ _ _ _ _), fun c60 => (?_ : WD _ _ 1349 _ _ _ _ _ _)⟩
                      · replace h := h.1 c60
                        refine x_aload_nP (some x1) d_Cl_act_1354 rfl (?_ : WD _ _ 1355 _ _ _ _ _ _)
                        refine x_getP (ref := "CoinSamplerLaw$Books") (j := 1) 1 k59 clk_11 (by decide) (qm_2 (i := 158) rfl rfl) (Or.inl rfl) rfl rfl d_Cl_act_1355 (y := (wR w x1 1)) rfl (?_ : WD _ _ 1358 _ _ _ _ _ _)
                        obtain ⟨a61, e62, h⟩ := h
                        rw [e62]
                        obtain ⟨k63, h⟩ := h
                        refine x_callV (ν := M_Al_size) [] ok_M_Al_size okv_M_Al_size k63 rfl rfl (qm_3 (i := 178) rfl rfl) np_M_Al_size rfl ⟨Nat.le_of_ble_eq_true rfl, Nat.le_of_ble_eq_true rfl⟩ (Nat.le_of_ble_eq_true rfl) rfl d_Cl_act_1358 (Nat.zero_le _) (Nat.zero_le _) (DI.k h (fun v65 w64 gw64 h => (?_ : WD _ _ 1361 _ _ _ _ _ _)))
                        refine x_iconst d_Cl_act_1361 (by decide) (?_ : WD _ _ 1362 _ _ _ _ _ _)
                        refine x_icmp_eq 1379 d_Cl_act_1362 rfl ⟨fun c66 => (?_ : WD _ _ 1379 _ _ _ _ _ _), fun c66 => (?_ : WD _ _ 1365 _ _ _ _ _ _)⟩
                        · replace h := h.1 c66
                          refine x_bipush d_Cl_act_1379 (by decide) (by decide) (?_ : WD _ _ 1381 _ _ _ _ _ _)
                          refine x_goto 1388 d_Cl_act_1381 rfl ?_
                          refine x_istore (ls' := [(6, vI (-4)), (7, vP y0), (0, vR 0), (1, vA x1), (2, vA x2), (3, vI x3), (4, vI x4), (5, vI x5)]) d_Cl_act_1388 (by decide) rfl (?_ : WD _ _ 1390 _ _ _ _ _ _)
                          refine x_aload_n d_Cl_act_1390 rfl (?_ : WD _ _ 1391 _ _ _ _ _ _)
                          refine x_callC (ν := M_Cs_draw) (k := 0) [] ok_M_Cs_draw okv_M_Cs_draw (by decide) rfl rfl rfl (qm_6 (i := 69) rfl rfl) np_M_Cs_draw rfl ⟨Nat.le_of_ble_eq_true rfl, Nat.le_of_ble_eq_true rfl⟩ (Nat.le_of_ble_eq_true rfl) rfl d_Cl_act_1391 (CI.kd h (fun v67 σ68 h => (?_ : WD _ _ 1394 _ _ _ _ _ _)))
                          refine x_iload d_Cl_act_1394 rfl (?_ : WD _ _ 1396 _ _ _ _ _ _)
                          refine x_icmp_ne 1403 d_Cl_act_1396 rfl ⟨fun c69 => (?_ : WD _ _ 1403 _ _ _ _ _ _), fun c69 => (?_ : WD _ _ 1399 _ _ _ _ _ _)⟩
                          · replace h := h.1 c69
                            refine x_iconst d_Cl_act_1403 (by decide) (?_ : WD _ _ 1404 _ _ _ _ _ _)
                            exact x_zreturn rfl d_Cl_act_1404 (by decide) h
                          · replace h := h.2 c69
                            refine x_iconst d_Cl_act_1399 (by decide) (?_ : WD _ _ 1400 _ _ _ _ _ _)
                            refine x_goto 1404 d_Cl_act_1400 rfl ?_
                            exact x_zreturn rfl d_Cl_act_1404 (by decide) h
                        · replace h := h.2 c66
                          refine x_aload_nP (some x1) d_Cl_act_1365 rfl (?_ : WD _ _ 1366 _ _ _ _ _ _)
                          refine x_getP (ref := "CoinSamplerLaw$Books") (j := 1) 1 (k59.q gw64.k) clk_11 (by decide) (qm_2 (i := 158) rfl rfl) (Or.inl rfl) rfl rfl d_Cl_act_1366 (y := (wR w64 x1 1)) rfl (?_ : WD _ _ 1369 _ _ _ _ _ _)
                          obtain ⟨a70, e71, h⟩ := h
                          rw [e71]
                          obtain ⟨k72, h⟩ := h
                          refine x_callV (ν := M_Al_size) [] ok_M_Al_size okv_M_Al_size k72 rfl rfl (qm_3 (i := 178) rfl rfl) np_M_Al_size rfl ⟨Nat.le_of_ble_eq_true rfl, Nat.le_of_ble_eq_true rfl⟩ (Nat.le_of_ble_eq_true rfl) rfl d_Cl_act_1369 (Nat.zero_le _) (Nat.zero_le _) (DI.k h (fun v74 w73 gw73 h => (?_ : WD _ _ 1372 _ _ _ _ _ _)))
                          refine x_aload_nP (some x1) d_Cl_act_1372 rfl (?_ : WD _ _ 1373 _ _ _ _ _ _)
                          refine x_getI (ref := "CoinSamplerLaw$Books") (j := 3) 3 ((k59.q gw64.k).q gw73.k) clk_11 (by decide) (qm_2 (i := 162) rfl rfl) (Or.inl rfl) rfl rfl d_Cl_act_1373 (y := (wI w73 x1 3)) rfl (?_ : WD _ _ 1376 _ _ _ _ _ _)
                          refine x_icmp_lt 1384 d_Cl_act_1376 rfl ⟨fun c75 => (?_ : WD _ _ 1384 _ _ _ _ _ _), fun c75 => (?_ : WD _ _ 1379 _ _ _ _ _ _)⟩
                          · replace h := h.1 c75
                            refine x_aload_nP (some x1) d_Cl_act_1384 rfl (?_ : WD _ _ 1385 _ _ _ _ _ _)
                            obtain ⟨c76, s77, h78, h79, h⟩ := h
                            refine x_callV (ν := M_Bo_draws) [] ok_M_Bo_draws okv_M_Bo_draws ((k59.q gw64.k).q gw73.k) rfl rfl (qm_5 (i := 237) rfl rfl) np_M_Bo_draws rfl ⟨Nat.le_of_ble_eq_true rfl, Nat.le_of_ble_eq_true rfl⟩ (Nat.le_of_ble_eq_true rfl) rfl d_Cl_act_1385 h78 h79 (DI.k h (fun v81 w80 gw80 h => (?_ : WD _ _ 1388 _ _ _ _ _ _)))
                            refine x_istore (ls' := [(6, vI v81), (7, vP y0), (0, vR 0), (1, vA x1), (2, vA x2), (3, vI x3), (4, vI x4), (5, vI x5)]) d_Cl_act_1388 (by decide) rfl (?_ : WD _ _ 1390 _ _ _ _ _ _)
                            refine x_aload_n d_Cl_act_1390 rfl (?_ : WD _ _ 1391 _ _ _ _ _ _)
                            refine x_callC (ν := M_Cs_draw) (k := 0) [] ok_M_Cs_draw okv_M_Cs_draw (by decide) rfl rfl rfl (qm_6 (i := 69) rfl rfl) np_M_Cs_draw rfl ⟨Nat.le_of_ble_eq_true rfl, Nat.le_of_ble_eq_true rfl⟩ (Nat.le_of_ble_eq_true rfl) rfl d_Cl_act_1391 (CI.kd h (fun v82 σ83 h => (?_ : WD _ _ 1394 _ _ _ _ _ _)))
                            refine x_iload d_Cl_act_1394 rfl (?_ : WD _ _ 1396 _ _ _ _ _ _)
                            refine x_icmp_ne 1403 d_Cl_act_1396 rfl ⟨fun c84 => (?_ : WD _ _ 1403 _ _ _ _ _ _), fun c84 => (?_ : WD _ _ 1399 _ _ _ _ _ _)⟩
                            · replace h := h.1 c84
                              refine x_iconst d_Cl_act_1403 (by decide) (?_ : WD _ _ 1404 _ _ _ _ _ _)
                              exact x_zreturn rfl d_Cl_act_1404 (by decide) h
                            · replace h := h.2 c84
                              refine x_iconst d_Cl_act_1399 (by decide) (?_ : WD _ _ 1400 _ _ _ _ _ _)
                              refine x_goto 1404 d_Cl_act_1400 rfl ?_
                              exact x_zreturn rfl d_Cl_act_1404 (by decide) h
                          · replace h := h.2 c75
                            refine x_bipush d_Cl_act_1379 (by decide) (by decide) (?_ : WD _ _ 1381 _ _ _ _ _ _)
                            refine x_goto 1388 d_Cl_act_1381 rfl ?_
                            refine x_istore (ls' := [(6, vI (-4)), (7, vP y0), (0, vR 0), (1, vA x1), (2, vA x2), (3, vI x3), (4, vI x4), (5, vI x5)]) d_Cl_act_1388 (by decide) rfl (?_ : WD _ _ 1390 _ _ _ _ _ _)
                            refine x_aload_n d_Cl_act_1390 rfl (?_ : WD _ _ 1391 _ _ _ _ _ _)
                            refine x_callC (ν := M_Cs_draw) (k := 0) [] ok_M_Cs_draw okv_M_Cs_draw (by decide) rfl rfl rfl (qm_6 (i := 69) rfl rfl) np_M_Cs_draw rfl ⟨Nat.le_of_ble_eq_true rfl, Nat.le_of_ble_eq_true rfl⟩ (Nat.le_of_ble_eq_true rfl) rfl d_Cl_act_1391 (CI.kd h (fun v85 σ86 h => (?_ : WD _ _ 1394 _ _ _ _ _ _)))
                            refine x_iload d_Cl_act_1394 rfl (?_ : WD _ _ 1396 _ _ _ _ _ _)
                            refine x_icmp_ne 1403 d_Cl_act_1396 rfl ⟨fun c87 => (?_ : WD _ _ 1403 _ _ _ _ _ _), fun c87 => (?_ : WD _ _ 1399 _ _ _ _ _ _)⟩
                            · replace h := h.1 c87
                              refine x_iconst d_Cl_act_1403 (by decide) (?_ : WD _ _ 1404 _ _ _ _ _ _)
                              exact x_zreturn rfl d_Cl_act_1404 (by decide) h
                            · replace h := h.2 c87
                              refine x_iconst d_Cl_act_1399 (by decide) (?_ : WD _ _ 1400 _ _ _ _ _ _)
                              refine x_goto 1404 d_Cl_act_1400 rfl ?_
                              exact x_zreturn rfl d_Cl_act_1404 (by decide) h
                      · replace h := h.2 c60
                        refine x_bipush d_Cl_act_1349 (by decide) (by decide) (?_ : WD _ _ 1351 _ _ _ _ _ _)
                        refine x_goto 1388 d_Cl_act_1351 rfl ?_
                        refine x_istore (ls' := [(6, vI (-5)), (7, vP y0), (0, vR 0), (1, vA x1), (2, vA x2), (3, vI x3), (4, vI x4), (5, vI x5)]) d_Cl_act_1388 (by decide) rfl (?_ : WD _ _ 1390 _ _ _ _ _ _)
                        refine x_aload_n d_Cl_act_1390 rfl (?_ : WD _ _ 1391 _ _ _ _ _ _)
                        refine x_callC (ν := M_Cs_draw) (k := 0) [] ok_M_Cs_draw okv_M_Cs_draw (by decide) rfl rfl rfl (qm_6 (i := 69) rfl rfl) np_M_Cs_draw rfl ⟨Nat.le_of_ble_eq_true rfl, Nat.le_of_ble_eq_true rfl⟩ (Nat.le_of_ble_eq_true rfl) rfl d_Cl_act_1391 (CI.kd h (fun v88 σ89 h => (?_ : WD _ _ 1394 _ _ _ _ _ _)))
                        refine x_iload d_Cl_act_1394 rfl (?_ : WD _ _ 1396 _ _ _ _ _ _)
                        refine x_icmp_ne 1403 d_Cl_act_1396 rfl ⟨fun c90 => (?_ : WD _ _ 1403 _ _ _ _ _ _), fun c90 => (?_ : WD _ _ 1399 _ _ _ _ _ _)⟩
                        · replace h := h.1 c90
                          refine x_iconst d_Cl_act_1403 (by decide) (?_ : WD _ _ 1404 _ _ _ _ _ _)
                          exact x_zreturn rfl d_Cl_act_1404 (by decide) h
                        · replace h := h.2 c90
                          refine x_iconst d_Cl_act_1399 (by decide) (?_ : WD _ _ 1400 _ _ _ _ _ _)
                          refine x_goto 1404 d_Cl_act_1400 rfl ?_
                          exact x_zreturn rfl d_Cl_act_1404 (by decide) h
                    · replace h := h.2 c58
                      refine x_aload_nP (some x1) d_Cl_act_1311 rfl (?_ : WD _ _ 1312 _ _ _ _ _ _)
                      obtain ⟨k91, h⟩ := h
                      refine x_getP (ref := "CoinSamplerLaw$Books") (j := 1) 1 k91 clk_11 (by decide) (qm_2 (i := 158) rfl rfl) (Or.inl rfl) rfl rfl d_Cl_act_1312 (y := (wR w x1 1)) rfl (?_ : WD _ _ 1315 _ _ _ _ _ _)
                      obtain ⟨a92, e93, h⟩ := h
                      rw [e93]
                      obtain ⟨k94, h⟩ := h
                      refine x_callV (ν := M_Al_size) [] ok_M_Al_size okv_M_Al_size k94 rfl rfl (qm_3 (i := 178) rfl rfl) np_M_Al_size rfl ⟨Nat.le_of_ble_eq_true rfl, Nat.le_of_ble_eq_true rfl⟩ (Nat.le_of_ble_eq_true rfl) rfl d_Cl_act_1315 (Nat.zero_le _) (Nat.zero_le _) (DI.k h (fun v96 w95 gw95 h => (?_ : WD _ _ 1318 _ _ _ _ _ _)))
                      refine x_istore (ls' := [(6, vI v96), (7, vP y0), (0, vR 0), (1, vA x1), (2, vA x2), (3, vI x3), (4, vI x4), (5, vI x5)]) d_Cl_act_1318 (by decide) rfl (?_ : WD _ _ 1320 _ _ _ _ _ _)
                      refine x_aload_nP (some x1) d_Cl_act_1320 rfl (?_ : WD _ _ 1321 _ _ _ _ _ _)
                      refine x_getP (ref := "CoinSamplerLaw$Books") (j := 1) 1 (k91.q gw95.k) clk_11 (by decide) (qm_2 (i := 158) rfl rfl) (Or.inl rfl) rfl rfl d_Cl_act_1321 (y := (wR w95 x1 1)) rfl (?_ : WD _ _ 1324 _ _ _ _ _ _)
                      obtain ⟨a97, e98, h⟩ := h
                      rw [e98]
                      obtain ⟨k99, h⟩ := h
                      refine x_callV (ν := M_Al_clear) [] ok_M_Al_clear okv_M_Al_clear k99 rfl rfl (qm_3 (i := 219) rfl rfl) np_M_Al_clear rfl ⟨Nat.le_of_ble_eq_true rfl, Nat.le_of_ble_eq_true rfl⟩ (Nat.le_of_ble_eq_true rfl) rfl d_Cl_act_1324 (Nat.zero_le _) (Nat.zero_le _) (DV.k h (fun w100 gw100 h => (?_ : WD _ _ 1327 _ _ _ _ _ _)))
                      refine x_aload_n d_Cl_act_1327 rfl (?_ : WD _ _ 1328 _ _ _ _ _ _)
                      refine x_callC (ν := M_Cs_clear) (k := 0) [] ok_M_Cs_clear okv_M_Cs_clear (by decide) rfl rfl rfl (qm_5 (i := 233) rfl rfl) np_M_Cs_clear rfl ⟨Nat.le_of_ble_eq_true rfl, Nat.le_of_ble_eq_true rfl⟩ (Nat.le_of_ble_eq_true rfl) rfl d_Cl_act_1328 (CI.kd h (fun v102 σ103 h => (?_ : WD _ _ 1331 _ _ _ _ _ _)))
                      refine x_iload d_Cl_act_1331 rfl (?_ : WD _ _ 1333 _ _ _ _ _ _)
                      refine x_icmp_ne 1340 d_Cl_act_1333 rfl ⟨fun c104 => (?_ : WD _ _ 1340 _ _ _ _ _ _), fun c104 => (?_ : WD _ _ 1336 _ _ _ _ _ _)⟩
                      · replace h := h.1 c104
                        refine x_iconst d_Cl_act_1340 (by decide) (?_ : WD _ _ 1341 _ _ _ _ _ _)
                        exact x_zreturn rfl d_Cl_act_1341 (by decide) h
                      · replace h := h.2 c104
                        refine x_iconst d_Cl_act_1336 (by decide) (?_ : WD _ _ 1337 _ _ _ _ _ _)
                        refine x_goto 1341 d_Cl_act_1337 rfl ?_
                        exact x_zreturn rfl d_Cl_act_1341 (by decide) h
                  · replace h := h.2 c57
                    refine x_aload_nP (some x1) d_Cl_act_1216 rfl (?_ : WD _ _ 1217 _ _ _ _ _ _)
                    refine x_aload_nP (some x1) d_Cl_act_1217 rfl (?_ : WD _ _ 1218 _ _ _ _ _ _)
                    obtain ⟨k105, h⟩ := h
                    refine x_getP (ref := "CoinSamplerLaw$Books") (j := 2) 2 k105 clk_11 (by decide) (qm_2 (i := 160) rfl rfl) (Or.inl rfl) rfl rfl d_Cl_act_1218 (y := (wR w x1 2)) rfl (?_ : WD _ _ 1221 _ _ _ _ _ _)
                    refine x_iconst d_Cl_act_1221 (by decide) (?_ : WD _ _ 1222 _ _ _ _ _ _)
                    obtain ⟨a106, e107, h⟩ := h
                    rw [e107]
                    obtain ⟨n108, h⟩ := h
                    obtain ⟨k109, h⟩ := h
                    obtain ⟨h110, h⟩ := h
                    refine x_iald k109 d_Cl_act_1222 (by decide) h110 (y := (wI w a106 0)) rfl (?_ : WD _ _ 1223 _ _ _ _ _ _)
                    refine x_aload_nP (some x1) d_Cl_act_1223 rfl (?_ : WD _ _ 1224 _ _ _ _ _ _)
                    refine x_getP (ref := "CoinSamplerLaw$Books") (j := 2) 2 k105 clk_11 (by decide) (qm_2 (i := 160) rfl rfl) (Or.inl rfl) rfl rfl d_Cl_act_1224 (y := (wR w x1 2)) rfl (?_ : WD _ _ 1227 _ _ _ _ _ _)
                    refine x_iconst d_Cl_act_1227 (by decide) (?_ : WD _ _ 1228 _ _ _ _ _ _)
                    obtain ⟨a111, e112, h⟩ := h
                    rw [e112]
                    obtain ⟨n113, h⟩ := h
                    obtain ⟨k114, h⟩ := h
                    obtain ⟨h115, h⟩ := h
                    refine x_iald k114 d_Cl_act_1228 (by decide) h115 (y := (wI w a111 2)) rfl (?_ : WD _ _ 1229 _ _ _ _ _ _)
                    obtain ⟨c116, s117, h118, h119, h⟩ := h
                    refine x_callV (ν := M_Bo_size) [vI (wI w a106 0), vI (wI w a111 2)] ok_M_Bo_size okv_M_Bo_size k105 rfl rfl (qm_5 (i := 190) rfl rfl) np_M_Bo_size rfl ⟨Nat.le_of_ble_eq_true rfl, Nat.le_of_ble_eq_true rfl⟩ (Nat.le_of_ble_eq_true rfl) rfl d_Cl_act_1229 h118 h119 (DI.k h (fun v121 w120 gw120 h => (?_ : WD _ _ 1232 _ _ _ _ _ _)))
                    refine x_istore (ls' := [(8, vI v121), (7, vP y0), (0, vR 0), (1, vA x1), (2, vA x2), (3, vI x3), (4, vI x4), (5, vI x5)]) d_Cl_act_1232 (by decide) rfl (?_ : WD _ _ 1234 _ _ _ _ _ _)
                    refine x_iload d_Cl_act_1234 rfl (?_ : WD _ _ 1236 _ _ _ _ _ _)
                    refine x_if_ge 1244 d_Cl_act_1236 rfl ⟨fun c122 => (?_ : WD _ _ 1244 _ _ _ _ _ _), fun c122 => (?_ : WD _ _ 1239 _ _ _ _ _ _)⟩
                    · replace h := h.1 c122
                      refine x_aload_nP (some x1) d_Cl_act_1244 rfl (?_ : WD _ _ 1245 _ _ _ _ _ _)
                      obtain ⟨c123, s124, h125, h126, h⟩ := h
                      refine x_callV (ν := M_Bo_allCoins) [] ok_M_Bo_allCoins okv_M_Bo_allCoins (k105.q gw120.k) rfl rfl (qm_5 (i := 205) rfl rfl) np_M_Bo_allCoins rfl ⟨Nat.le_of_ble_eq_true rfl, Nat.le_of_ble_eq_true rfl⟩ (Nat.le_of_ble_eq_true rfl) rfl d_Cl_act_1245 h125 h126 (DI.k h (fun v128 w127 gw127 h => (?_ : WD _ _ 1248 _ _ _ _ _ _)))
                      refine x_if_eq 1261 d_Cl_act_1248 rfl ⟨fun c129 => (?_ : WD _ _ 1261 _ _ _ _ _ _), fun c129 => (?_ : WD _ _ 1251 _ _ _ _ _ _)⟩
                      · replace h := h.1 c129
                        refine x_bipush d_Cl_act_1261 (by decide) (by decide) (?_ : WD _ _ 1263 _ _ _ _ _ _)
                        refine x_goto 1268 d_Cl_act_1263 rfl ?_
                        refine x_istore (ls' := [(6, vI (-5)), (8, vI v121), (7, vP y0), (0, vR 0), (1, vA x1), (2, vA x2), (3, vI x3), (4, vI x4), (5, vI x5)]) d_Cl_act_1268 (by decide) rfl (?_ : WD _ _ 1270 _ _ _ _ _ _)
                        refine x_iload d_Cl_act_1270 rfl (?_ : WD _ _ 1272 _ _ _ _ _ _)
                        refine x_if_le 1290 d_Cl_act_1272 rfl ⟨fun hc => (?_ : WD _ _ 1290 _ _ _ _ _ _), fun hc => absurd hc (by decide)⟩
                        refine x_aload_n d_Cl_act_1290 rfl (?_ : WD _ _ 1291 _ _ _ _ _ _)
                        refine x_callC (ν := M_Cs_plan) (k := 0) [] ok_M_Cs_plan okv_M_Cs_plan (by decide) rfl rfl rfl (qm_5 (i := 207) rfl rfl) np_M_Cs_plan rfl ⟨Nat.le_of_ble_eq_true rfl, Nat.le_of_ble_eq_true rfl⟩ (Nat.le_of_ble_eq_true rfl) rfl d_Cl_act_1291 (CI.kd h (fun v130 σ131 h => (?_ : WD _ _ 1294 _ _ _ _ _ _)))
                        refine x_iload d_Cl_act_1294 rfl (?_ : WD _ _ 1296 _ _ _ _ _ _)
                        refine x_icmp_ne 1303 d_Cl_act_1296 rfl ⟨fun c132 => (?_ : WD _ _ 1303 _ _ _ _ _ _), fun c132 => (?_ : WD _ _ 1299 _ _ _ _ _ _)⟩
                        · replace h := h.1 c132
                          refine x_iconst d_Cl_act_1303 (by decide) (?_ : WD _ _ 1304 _ _ _ _ _ _)
                          exact x_zreturn rfl d_Cl_act_1304 (by decide) h
                        · replace h := h.2 c132
                          refine x_iconst d_Cl_act_1299 (by decide) (?_ : WD _ _ 1300 _ _ _ _ _ _)
                          refine x_goto 1304 d_Cl_act_1300 rfl ?_
                          exact x_zreturn rfl d_Cl_act_1304 (by decide) h
                      · replace h := h.2 c129
                        refine x_aload_nP (some x1) d_Cl_act_1251 rfl (?_ : WD _ _ 1252 _ _ _ _ _ _)
                        refine x_getP (ref := "CoinSamplerLaw$Books") (j := 1) 1 ((k105.q gw120.k).q gw127.k) clk_11 (by decide) (qm_2 (i := 158) rfl rfl) (Or.inl rfl) rfl rfl d_Cl_act_1252 (y := (wR w127 x1 1)) rfl (?_ : WD _ _ 1255 _ _ _ _ _ _)
                        obtain ⟨a133, e134, h⟩ := h
                        rw [e134]
                        obtain ⟨k135, h⟩ := h
                        refine x_callV (ν := M_Al_isEmpty) [] ok_M_Al_isEmpty okv_M_Al_isEmpty k135 rfl rfl (qm_3 (i := 230) rfl rfl) np_M_Al_isEmpty rfl ⟨Nat.le_of_ble_eq_true rfl, Nat.le_of_ble_eq_true rfl⟩ (Nat.le_of_ble_eq_true rfl) rfl d_Cl_act_1255 (Nat.zero_le _) (Nat.zero_le _) (DI.k h (fun v137 w136 gw136 h => (?_ : WD _ _ 1258 _ _ _ _ _ _)))
                        refine x_if_ne 1266 d_Cl_act_1258 rfl ⟨fun c138 => (?_ : WD _ _ 1266 _ _ _ _ _ _), fun c138 => (?_ : WD _ _ 1261 _ _ _ _ _ _)⟩
                        · replace h := h.1 c138
                          refine x_iload d_Cl_act_1266 rfl (?_ : WD _ _ 1268 _ _ _ _ _ _)
                          refine x_istore (ls' := [(6, vI v121), (8, vI v121), (7, vP y0), (0, vR 0), (1, vA x1), (2, vA x2), (3, vI x3), (4, vI x4), (5, vI x5)]) d_Cl_act_1268 (by decide) rfl (?_ : WD _ _ 1270 _ _ _ _ _ _)
                          refine x_iload d_Cl_act_1270 rfl (?_ : WD _ _ 1272 _ _ _ _ _ _)
                          refine x_if_le 1290 d_Cl_act_1272 rfl ⟨fun c139 => (?_ : WD _ _ 1290 _ _ _ _ _ _), fun c139 => (?_ : WD _ _ 1275 _ _ _ _ _ _)⟩
                          · replace h := h.1 c139
                            refine x_aload_n d_Cl_act_1290 rfl (?_ : WD _ _ 1291 _ _ _ _ _ _)
                            refine x_callC (ν := M_Cs_plan) (k := 0) [] ok_M_Cs_plan okv_M_Cs_plan (by decide) rfl rfl rfl (qm_5 (i := 207) rfl rfl) np_M_Cs_plan rfl ⟨Nat.le_of_ble_eq_true rfl, Nat.le_of_ble_eq_true rfl⟩ (Nat.le_of_ble_eq_true rfl) rfl d_Cl_act_1291 (CI.kd h (fun v140 σ141 h => (?_ : WD _ _ 1294 _ _ _ _ _ _)))
                            refine x_iload d_Cl_act_1294 rfl (?_ : WD _ _ 1296 _ _ _ _ _ _)
                            refine x_icmp_ne 1303 d_Cl_act_1296 rfl ⟨fun c142 => (?_ : WD _ _ 1303 _ _ _ _ _ _), fun c142 => (?_ : WD _ _ 1299 _ _ _ _ _ _)⟩
                            · replace h := h.1 c142
                              refine x_iconst d_Cl_act_1303 (by decide) (?_ : WD _ _ 1304 _ _ _ _ _ _)
                              exact x_zreturn rfl d_Cl_act_1304 (by decide) h
                            · replace h := h.2 c142
                              refine x_iconst d_Cl_act_1299 (by decide) (?_ : WD _ _ 1300 _ _ _ _ _ _)
                              refine x_goto 1304 d_Cl_act_1300 rfl ?_
                              exact x_zreturn rfl d_Cl_act_1304 (by decide) h
                          · replace h := h.2 c139
                            refine x_aload_nP (some x1) d_Cl_act_1275 rfl (?_ : WD _ _ 1276 _ _ _ _ _ _)
                            refine x_iconst d_Cl_act_1276 (by decide) (?_ : WD _ _ 1277 _ _ _ _ _ _)
                            refine x_aload_nP (some x1) d_Cl_act_1277 rfl (?_ : WD _ _ 1278 _ _ _ _ _ _)
                            obtain ⟨c143, s144, h145, h146, h⟩ := h
                            refine x_callV (ν := M_Bo_allCoins) [] ok_M_Bo_allCoins okv_M_Bo_allCoins (((k105.q gw120.k).q gw127.k).q gw136.k) rfl rfl (qm_5 (i := 205) rfl rfl) np_M_Bo_allCoins rfl ⟨Nat.le_of_ble_eq_true rfl, Nat.le_of_ble_eq_true rfl⟩ (Nat.le_of_ble_eq_true rfl) rfl d_Cl_act_1278 h145 h146 (DI.k h (fun v148 w147 gw147 h => (?_ : WD _ _ 1281 _ _ _ _ _ _)))
                            refine x_iload d_Cl_act_1281 rfl (?_ : WD _ _ 1283 _ _ _ _ _ _)
                            obtain ⟨h149, h⟩ := h
                            obtain ⟨h150, h⟩ := h
                            refine x_idivn d_Cl_act_1283 h149 h150 (?_ : WD _ _ 1284 _ _ _ _ _ _)
                            refine x_callS (ν := M_Ma_max) [vI 1, vI (v148 / v121)] ok_M_Ma_max oks_M_Ma_max (qm_5 (i := 206) rfl rfl) np_M_Ma_max rfl ⟨Nat.le_of_ble_eq_true rfl, Nat.le_of_ble_eq_true rfl⟩ (Nat.le_of_ble_eq_true rfl) rfl d_Cl_act_1284 (Nat.zero_le _) (Nat.zero_le _) (DI.k h (fun v152 w151 gw151 h => (?_ : WD _ _ 1287 _ _ _ _ _ _)))
                            obtain ⟨k153, h⟩ := h
                            refine x_putI (ref := "CoinSamplerLaw$Books") (j := 3) 3 k153 clk_11 (by decide) (qm_2 (i := 162) rfl rfl) (Or.inl rfl) (Or.inl rfl) tyX11_ok rfl nmX11 d_Cl_act_1287 rfl rfl (fun _ => rfl) rfl (?_ : WD _ _ 1290 _ _ _ _ _ _)
                            refine x_aload_n d_Cl_act_1290 rfl (?_ : WD _ _ 1291 _ _ _ _ _ _)
                            refine x_callC (ν := M_Cs_plan) (k := 0) [] ok_M_Cs_plan okv_M_Cs_plan (by decide) rfl rfl rfl (qm_5 (i := 207) rfl rfl) np_M_Cs_plan rfl ⟨Nat.le_of_ble_eq_true rfl, Nat.le_of_ble_eq_true rfl⟩ (Nat.le_of_ble_eq_true rfl) rfl d_Cl_act_1291 (CI.kd h (fun v154 σ155 h => (?_ : WD _ _ 1294 _ _ _ _ _ _)))
                            refine x_iload d_Cl_act_1294 rfl (?_ : WD _ _ 1296 _ _ _ _ _ _)
                            refine x_icmp_ne 1303 d_Cl_act_1296 rfl ⟨fun c156 => (?_ : WD _ _ 1303 _ _ _ _ _ _), fun c156 => (?_ : WD _ _ 1299 _ _ _ _ _ _)⟩
                            · replace h := h.1 c156
                              refine x_iconst d_Cl_act_1303 (by decide) (?_ : WD _ _ 1304 _ _ _ _ _ _)
                              exact x_zreturn rfl d_Cl_act_1304 (by decide) h
                            · replace h := h.2 c156
                              refine x_iconst d_Cl_act_1299 (by decide) (?_ : WD _ _ 1300 _ _ _ _ _ _)
                              refine x_goto 1304 d_Cl_act_1300 rfl ?_
                              exact x_zreturn rfl d_Cl_act_1304 (by decide) h
                        · replace h := h.2 c138
                          refine x_bipush d_Cl_act_1261 (by decide) (by decide) (?_ : WD _ _ 1263 _ _ _ _ _ _)
                          refine x_goto 1268 d_Cl_act_1263 rfl ?_
                          refine x_istore (ls' := [(6, vI (-5)), (8, vI v121), (7, vP y0), (0, vR 0), (1, vA x1), (2, vA x2), (3, vI x3), (4, vI x4), (5, vI x5)]) d_Cl_act_1268 (by decide) rfl (?_ : WD _ _ 1270 _ _ _ _ _ _)
                          refine x_iload d_Cl_act_1270 rfl (?_ : WD _ _ 1272 _ _ _ _ _ _)
                          refine x_if_le 1290 d_Cl_act_1272 rfl ⟨fun hc => (?_ : WD _ _ 1290 _ _ _ _ _ _), fun hc => absurd hc (by decide)⟩
                          refine x_aload_n d_Cl_act_1290 rfl (?_ : WD _ _ 1291 _ _ _ _ _ _)
                          refine x_callC (ν := M_Cs_plan) (k := 0) [] ok_M_Cs_plan okv_M_Cs_plan (by decide) rfl rfl rfl (qm_5 (i := 207) rfl rfl) np_M_Cs_plan rfl ⟨Nat.le_of_ble_eq_true rfl, Nat.le_of_ble_eq_true rfl⟩ (Nat.le_of_ble_eq_true rfl) rfl d_Cl_act_1291 (CI.kd h (fun v157 σ158 h => (?_ : WD _ _ 1294 _ _ _ _ _ _)))
                          refine x_iload d_Cl_act_1294 rfl (?_ : WD _ _ 1296 _ _ _ _ _ _)
                          refine x_icmp_ne 1303 d_Cl_act_1296 rfl ⟨fun c159 => (?_ : WD _ _ 1303 _ _ _ _ _ _), fun c159 => (?_ : WD _ _ 1299 _ _ _ _ _ _)⟩
                          · replace h := h.1 c159
                            refine x_iconst d_Cl_act_1303 (by decide) (?_ : WD _ _ 1304 _ _ _ _ _ _)
                            exact x_zreturn rfl d_Cl_act_1304 (by decide) h
                          · replace h := h.2 c159
                            refine x_iconst d_Cl_act_1299 (by decide) (?_ : WD _ _ 1300 _ _ _ _ _ _)
                            refine x_goto 1304 d_Cl_act_1300 rfl ?_
                            exact x_zreturn rfl d_Cl_act_1304 (by decide) h
                    · replace h := h.2 c122
                      refine x_bipush d_Cl_act_1239 (by decide) (by decide) (?_ : WD _ _ 1241 _ _ _ _ _ _)
                      refine x_goto 1268 d_Cl_act_1241 rfl ?_
                      refine x_istore (ls' := [(6, vI (-4)), (8, vI v121), (7, vP y0), (0, vR 0), (1, vA x1), (2, vA x2), (3, vI x3), (4, vI x4), (5, vI x5)]) d_Cl_act_1268 (by decide) rfl (?_ : WD _ _ 1270 _ _ _ _ _ _)
                      refine x_iload d_Cl_act_1270 rfl (?_ : WD _ _ 1272 _ _ _ _ _ _)
                      refine x_if_le 1290 d_Cl_act_1272 rfl ⟨fun hc => (?_ : WD _ _ 1290 _ _ _ _ _ _), fun hc => absurd hc (by decide)⟩
                      refine x_aload_n d_Cl_act_1290 rfl (?_ : WD _ _ 1291 _ _ _ _ _ _)
                      refine x_callC (ν := M_Cs_plan) (k := 0) [] ok_M_Cs_plan okv_M_Cs_plan (by decide) rfl rfl rfl (qm_5 (i := 207) rfl rfl) np_M_Cs_plan rfl ⟨Nat.le_of_ble_eq_true rfl, Nat.le_of_ble_eq_true rfl⟩ (Nat.le_of_ble_eq_true rfl) rfl d_Cl_act_1291 (CI.kd h (fun v160 σ161 h => (?_ : WD _ _ 1294 _ _ _ _ _ _)))
                      refine x_iload d_Cl_act_1294 rfl (?_ : WD _ _ 1296 _ _ _ _ _ _)
                      refine x_icmp_ne 1303 d_Cl_act_1296 rfl ⟨fun c162 => (?_ : WD _ _ 1303 _ _ _ _ _ _), fun c162 => (?_ : WD _ _ 1299 _ _ _ _ _ _)⟩
                      · replace h := h.1 c162
                        refine x_iconst d_Cl_act_1303 (by decide) (?_ : WD _ _ 1304 _ _ _ _ _ _)
                        exact x_zreturn rfl d_Cl_act_1304 (by decide) h
                      · replace h := h.2 c162
                        refine x_iconst d_Cl_act_1299 (by decide) (?_ : WD _ _ 1300 _ _ _ _ _ _)
                        refine x_goto 1304 d_Cl_act_1300 rfl ?_
                        exact x_zreturn rfl d_Cl_act_1304 (by decide) h
                · replace h := h.2 c56
                  refine x_aload_nP (some x2) d_Cl_act_1050 rfl (?_ : WD _ _ 1051 _ _ _ _ _ _)
                  refine x_bipush d_Cl_act_1051 (by decide) (by decide) (?_ : WD _ _ 1053 _ _ _ _ _ _)
                  refine x_callS (ν := M_Cl_draw) [vA x2, vI 20] ok_M_Cl_draw oks_M_Cl_draw (qm_3 (i := 179) rfl rfl) np_M_Cl_draw rfl ⟨Nat.le_of_ble_eq_true rfl, Nat.le_of_ble_eq_true rfl⟩ (Nat.le_of_ble_eq_true rfl) rfl d_Cl_act_1053 (Nat.zero_le _) (Nat.zero_le _) (DI.k h (fun v164 w163 gw163 h => (?_ : WD _ _ 1056 _ _ _ _ _ _)))
                  refine x_if_ne 1070 d_Cl_act_1056 rfl ⟨fun c165 => (?_ : WD _ _ 1070 _ _ _ _ _ _), fun c165 => (?_ : WD _ _ 1059 _ _ _ _ _ _)⟩
                  · replace h := h.1 c165
                    refine x_iconst d_Cl_act_1070 (by decide) (?_ : WD _ _ 1071 _ _ _ _ _ _)
                    refine x_aload_nP (some x2) d_Cl_act_1071 rfl (?_ : WD _ _ 1072 _ _ _ _ _ _)
                    refine x_aload_nP (some x2) d_Cl_act_1072 rfl (?_ : WD _ _ 1073 _ _ _ _ _ _)
                    refine x_iconst d_Cl_act_1073 (by decide) (?_ : WD _ _ 1074 _ _ _ _ _ _)
                    refine x_callS (ν := M_Cl_draw) [vA x2, vI 4] ok_M_Cl_draw oks_M_Cl_draw (qm_3 (i := 179) rfl rfl) np_M_Cl_draw rfl ⟨Nat.le_of_ble_eq_true rfl, Nat.le_of_ble_eq_true rfl⟩ (Nat.le_of_ble_eq_true rfl) rfl d_Cl_act_1074 (Nat.zero_le _) (Nat.zero_le _) (DI.k h (fun v167 w166 gw166 h => (?_ : WD _ _ 1077 _ _ _ _ _ _)))
                    refine x_if_ne 1084 d_Cl_act_1077 rfl ⟨fun c168 => (?_ : WD _ _ 1084 _ _ _ _ _ _), fun c168 => (?_ : WD _ _ 1080 _ _ _ _ _ _)⟩
                    · replace h := h.1 c168
                      refine x_sipush d_Cl_act_1084 (by decide) (by decide) (?_ : WD _ _ 1087 _ _ _ _ _ _)
                      refine x_callS (ν := M_Cl_draw) [vA x2, vI 400] ok_M_Cl_draw oks_M_Cl_draw (qm_3 (i := 179) rfl rfl) np_M_Cl_draw rfl ⟨Nat.le_of_ble_eq_true rfl, Nat.le_of_ble_eq_true rfl⟩ (Nat.le_of_ble_eq_true rfl) rfl d_Cl_act_1087 (Nat.zero_le _) (Nat.zero_le _) (DI.k h (fun v170 w169 gw169 h => (?_ : WD _ _ 1090 _ _ _ _ _ _)))
                      obtain ⟨h171, h⟩ := h
                      refine x_iadd d_Cl_act_1090 h171 (?_ : WD _ _ 1091 _ _ _ _ _ _)
                      refine x_istore (ls' := [(8, vI (1 + v170)), (7, vP y0), (0, vR 0), (1, vA x1), (2, vA x2), (3, vI x3), (4, vI x4), (5, vI x5)]) d_Cl_act_1091 (by decide) rfl (?_ : WD _ _ 1093 _ _ _ _ _ _)
                      refine x_iload d_Cl_act_1093 rfl (?_ : WD _ _ 1095 _ _ _ _ _ _)
                      refine x_iconst d_Cl_act_1095 (by decide) (?_ : WD _ _ 1096 _ _ _ _ _ _)
                      refine x_icmp_lt 1106 d_Cl_act_1096 rfl ⟨fun c172 => (?_ : WD _ _ 1106 _ _ _ _ _ _), fun c172 => (?_ : WD _ _ 1099 _ _ _ _ _ _)⟩
                      · replace h := h.1 c172
                        refine x_bipush d_Cl_act_1106 (by decide) (by decide) (?_ : WD _ _ 1108 _ _ _ _ _ _)
                        refine x_goto 1127 d_Cl_act_1108 rfl ?_
                        refine x_istore (ls' := [(6, vI (-3)), (8, vI (1 + v170)), (7, vP y0), (0, vR 0), (1, vA x1), (2, vA x2), (3, vI x3), (4, vI x4), (5, vI x5)]) d_Cl_act_1127 (by decide) rfl (?_ : WD _ _ 1129 _ _ _ _ _ _)
                        refine x_iload d_Cl_act_1129 rfl (?_ : WD _ _ 1131 _ _ _ _ _ _)
                        refine x_if_ne 1193 d_Cl_act_1131 rfl ⟨fun hc => (?_ : WD _ _ 1193 _ _ _ _ _ _), fun hc => absurd hc (by decide)⟩
                        refine x_aload_n d_Cl_act_1193 rfl (?_ : WD _ _ 1194 _ _ _ _ _ _)
                        refine x_iload d_Cl_act_1194 rfl (?_ : WD _ _ 1196 _ _ _ _ _ _)
                        refine x_callC (ν := M_Cs_interval) (k := 0) [vI (1 + v170)] ok_M_Cs_interval okv_M_Cs_interval (by decide) rfl rfl rfl (qm_5 (i := 186) rfl rfl) np_M_Cs_interval rfl ⟨Nat.le_of_ble_eq_true rfl, Nat.le_of_ble_eq_true rfl⟩ (Nat.le_of_ble_eq_true rfl) rfl d_Cl_act_1196 (CI.kd h (fun v173 σ174 h => (?_ : WD _ _ 1199 _ _ _ _ _ _)))
                        refine x_iload d_Cl_act_1199 rfl (?_ : WD _ _ 1201 _ _ _ _ _ _)
                        refine x_icmp_ne 1208 d_Cl_act_1201 rfl ⟨fun c175 => (?_ : WD _ _ 1208 _ _ _ _ _ _), fun c175 => (?_ : WD _ _ 1204 _ _ _ _ _ _)⟩
                        · replace h := h.1 c175
                          refine x_iconst d_Cl_act_1208 (by decide) (?_ : WD _ _ 1209 _ _ _ _ _ _)
                          exact x_zreturn rfl d_Cl_act_1209 (by decide) h
                        · replace h := h.2 c175
                          refine x_iconst d_Cl_act_1204 (by decide) (?_ : WD _ _ 1205 _ _ _ _ _ _)
                          refine x_goto 1209 d_Cl_act_1205 rfl ?_
                          exact x_zreturn rfl d_Cl_act_1209 (by decide) h
                      · replace h := h.2 c172
                        refine x_iload d_Cl_act_1099 rfl (?_ : WD _ _ 1101 _ _ _ _ _ _)
                        refine x_ldc 99999 d_Cl_act_1101 (qm_5 (i := 149) rfl rfl) (by decide) (by decide) (?_ : WD _ _ 1103 _ _ _ _ _ _)
                        refine x_icmp_le 1111 d_Cl_act_1103 rfl ⟨fun c176 => (?_ : WD _ _ 1111 _ _ _ _ _ _), fun c176 => (?_ : WD _ _ 1106 _ _ _ _ _ _)⟩
                        · replace h := h.1 c176
                          refine x_aload_nP (some x1) d_Cl_act_1111 rfl (?_ : WD _ _ 1112 _ _ _ _ _ _)
                          obtain ⟨k177, h⟩ := h
                          refine x_getP (ref := "CoinSamplerLaw$Books") (j := 1) 1 k177 clk_11 (by decide) (qm_2 (i := 158) rfl rfl) (Or.inl rfl) rfl rfl d_Cl_act_1112 (y := (wR w169 x1 1)) rfl (?_ : WD _ _ 1115 _ _ _ _ _ _)
                          obtain ⟨a178, e179, h⟩ := h
                          rw [e179]
                          obtain ⟨k180, h⟩ := h
                          refine x_callV (ν := M_Al_isEmpty) [] ok_M_Al_isEmpty okv_M_Al_isEmpty k180 rfl rfl (qm_3 (i := 230) rfl rfl) np_M_Al_isEmpty rfl ⟨Nat.le_of_ble_eq_true rfl, Nat.le_of_ble_eq_true rfl⟩ (Nat.le_of_ble_eq_true rfl) rfl d_Cl_act_1115 (Nat.zero_le _) (Nat.zero_le _) (DI.k h (fun v182 w181 gw181 h => (?_ : WD _ _ 1118 _ _ _ _ _ _)))
                          refine x_if_ne 1126 d_Cl_act_1118 rfl ⟨fun c183 => (?_ : WD _ _ 1126 _ _ _ _ _ _), fun c183 => (?_ : WD _ _ 1121 _ _ _ _ _ _)⟩
                          · replace h := h.1 c183
                            refine x_iconst d_Cl_act_1126 (by decide) (?_ : WD _ _ 1127 _ _ _ _ _ _)
                            refine x_istore (ls' := [(6, vI 0), (8, vI (1 + v170)), (7, vP y0), (0, vR 0), (1, vA x1), (2, vA x2), (3, vI x3), (4, vI x4), (5, vI x5)]) d_Cl_act_1127 (by decide) rfl (?_ : WD _ _ 1129 _ _ _ _ _ _)
                            refine x_iload d_Cl_act_1129 rfl (?_ : WD _ _ 1131 _ _ _ _ _ _)
                            refine x_if_ne 1193 d_Cl_act_1131 rfl ⟨fun hc => absurd rfl hc, fun hc => (?_ : WD _ _ 1134 _ _ _ _ _ _)⟩
                            refine x_aload_nP (some x1) d_Cl_act_1134 rfl (?_ : WD _ _ 1135 _ _ _ _ _ _)
                            refine x_iload d_Cl_act_1135 rfl (?_ : WD _ _ 1137 _ _ _ _ _ _)
                            obtain ⟨k184, h⟩ := h
                            refine x_putI (ref := "CoinSamplerLaw$Books") (j := 3) 3 k184 clk_11 (by decide) (qm_2 (i := 162) rfl rfl) (Or.inl rfl) (Or.inl rfl) tyX11_ok rfl nmX11 d_Cl_act_1137 rfl rfl (fun _ => rfl) rfl (?_ : WD _ _ 1140 _ _ _ _ _ _)
                            refine x_aload_nP (some x1) d_Cl_act_1140 rfl (?_ : WD _ _ 1141 _ _ _ _ _ _)
                            refine x_getP (ref := "CoinSamplerLaw$Books") (j := 0) 0 k184.is clk_11 (by decide) (qm_2 (i := 156) rfl rfl) (Or.inl rfl) rfl rfl d_Cl_act_1141 (y := (wR w181 x1 0)) rfl (?_ : WD _ _ 1144 _ _ _ _ _ _)
                            obtain ⟨a185, e186, h⟩ := h
                            rw [e186]
                            obtain ⟨c187, s188, h189, h190, h⟩ := h
                            obtain ⟨k191, h⟩ := h
                            refine x_callV (ν := M_Al_iterator) [] ok_M_Al_iterator okv_M_Al_iterator k191 rfl rfl (qm_5 (i := 180) rfl rfl) np_M_Al_iterator rfl ⟨Nat.le_of_ble_eq_true rfl, Nat.le_of_ble_eq_true rfl⟩ (Nat.le_of_ble_eq_true rfl) rfl d_Cl_act_1144 h189 h190 (DP.k h (fun v193 w192 gw192 h => (?_ : WD _ _ 1147 _ _ _ _ _ _)))
                            refine x_astoreP v193 (ls' := [(9, vP v193), (6, vI 0), (8, vI (1 + v170)), (7, vP y0), (0, vR 0), (1, vA x1), (2, vA x2), (3, vI x3), (4, vI x4), (5, vI x5)]) d_Cl_act_1147 (by decide) rfl (?_ : WD _ _ 1149 _ _ _ _ _ _)
                            refine x_pick (ls' := [(0, vR 0), (1, vA x1), (6, vI 0), (8, vI (1 + v170)), (9, vP v193)]) [4, 5, 1, 2, 0] rfl ?_
                            exact h
                          · replace h := h.2 c183
                            refine x_bipush d_Cl_act_1121 (by decide) (by decide) (?_ : WD _ _ 1123 _ _ _ _ _ _)
                            refine x_goto 1127 d_Cl_act_1123 rfl ?_
                            refine x_istore (ls' := [(6, vI (-5)), (8, vI (1 + v170)), (7, vP y0), (0, vR 0), (1, vA x1), (2, vA x2), (3, vI x3), (4, vI x4), (5, vI x5)]) d_Cl_act_1127 (by decide) rfl (?_ : WD _ _ 1129 _ _ _ _ _ _)
                            refine x_iload d_Cl_act_1129 rfl (?_ : WD _ _ 1131 _ _ _ _ _ _)
                            refine x_if_ne 1193 d_Cl_act_1131 rfl ⟨fun hc => (?_ : WD _ _ 1193 _ _ _ _ _ _), fun hc => absurd hc (by decide)⟩
                            refine x_aload_n d_Cl_act_1193 rfl (?_ : WD _ _ 1194 _ _ _ _ _ _)
                            refine x_iload d_Cl_act_1194 rfl (?_ : WD _ _ 1196 _ _ _ _ _ _)
                            refine x_callC (ν := M_Cs_interval) (k := 0) [vI (1 + v170)] ok_M_Cs_interval okv_M_Cs_interval (by decide) rfl rfl rfl (qm_5 (i := 186) rfl rfl) np_M_Cs_interval rfl ⟨Nat.le_of_ble_eq_true rfl, Nat.le_of_ble_eq_true rfl⟩ (Nat.le_of_ble_eq_true rfl) rfl d_Cl_act_1196 (CI.kd h (fun v194 σ195 h => (?_ : WD _ _ 1199 _ _ _ _ _ _)))
                            refine x_iload d_Cl_act_1199 rfl (?_ : WD _ _ 1201 _ _ _ _ _ _)
                            refine x_icmp_ne 1208 d_Cl_act_1201 rfl ⟨fun c196 => (?_ : WD _ _ 1208 _ _ _ _ _ _), fun c196 => (?_ : WD _ _ 1204 _ _ _ _ _ _)⟩
                            · replace h := h.1 c196
                              refine x_iconst d_Cl_act_1208 (by decide) (?_ : WD _ _ 1209 _ _ _ _ _ _)
                              exact x_zreturn rfl d_Cl_act_1209 (by decide) h
                            · replace h := h.2 c196
                              refine x_iconst d_Cl_act_1204 (by decide) (?_ : WD _ _ 1205 _ _ _ _ _ _)
                              refine x_goto 1209 d_Cl_act_1205 rfl ?_
                              exact x_zreturn rfl d_Cl_act_1209 (by decide) h
                        · replace h := h.2 c176
                          refine x_bipush d_Cl_act_1106 (by decide) (by decide) (?_ : WD _ _ 1108 _ _ _ _ _ _)
                          refine x_goto 1127 d_Cl_act_1108 rfl ?_
                          refine x_istore (ls' := [(6, vI (-3)), (8, vI (1 + v170)), (7, vP y0), (0, vR 0), (1, vA x1), (2, vA x2), (3, vI x3), (4, vI x4), (5, vI x5)]) d_Cl_act_1127 (by decide) rfl (?_ : WD _ _ 1129 _ _ _ _ _ _)
                          refine x_iload d_Cl_act_1129 rfl (?_ : WD _ _ 1131 _ _ _ _ _ _)
                          refine x_if_ne 1193 d_Cl_act_1131 rfl ⟨fun hc => (?_ : WD _ _ 1193 _ _ _ _ _ _), fun hc => absurd hc (by decide)⟩
                          refine x_aload_n d_Cl_act_1193 rfl (?_ : WD _ _ 1194 _ _ _ _ _ _)
                          refine x_iload d_Cl_act_1194 rfl (?_ : WD _ _ 1196 _ _ _ _ _ _)
                          refine x_callC (ν := M_Cs_interval) (k := 0) [vI (1 + v170)] ok_M_Cs_interval okv_M_Cs_interval (by decide) rfl rfl rfl (qm_5 (i := 186) rfl rfl) np_M_Cs_interval rfl ⟨Nat.le_of_ble_eq_true rfl, Nat.le_of_ble_eq_true rfl⟩ (Nat.le_of_ble_eq_true rfl) rfl d_Cl_act_1196 (CI.kd h (fun v197 σ198 h => (?_ : WD _ _ 1199 _ _ _ _ _ _)))
                          refine x_iload d_Cl_act_1199 rfl (?_ : WD _ _ 1201 _ _ _ _ _ _)
                          refine x_icmp_ne 1208 d_Cl_act_1201 rfl ⟨fun c199 => (?_ : WD _ _ 1208 _ _ _ _ _ _), fun c199 => (?_ : WD _ _ 1204 _ _ _ _ _ _)⟩
                          · replace h := h.1 c199
                            refine x_iconst d_Cl_act_1208 (by decide) (?_ : WD _ _ 1209 _ _ _ _ _ _)
                            exact x_zreturn rfl d_Cl_act_1209 (by decide) h
                          · replace h := h.2 c199
                            refine x_iconst d_Cl_act_1204 (by decide) (?_ : WD _ _ 1205 _ _ _ _ _ _)
                            refine x_goto 1209 d_Cl_act_1205 rfl ?_
                            exact x_zreturn rfl d_Cl_act_1209 (by decide) h
                    · replace h := h.2 c168
                      refine x_iconst d_Cl_act_1080 (by decide) (?_ : WD _ _ 1081 _ _ _ _ _ _)
                      refine x_goto 1087 d_Cl_act_1081 rfl ?_
                      refine x_callS (ν := M_Cl_draw) [vA x2, vI 4] ok_M_Cl_draw oks_M_Cl_draw (qm_3 (i := 179) rfl rfl) np_M_Cl_draw rfl ⟨Nat.le_of_ble_eq_true rfl, Nat.le_of_ble_eq_true rfl⟩ (Nat.le_of_ble_eq_true rfl) rfl d_Cl_act_1087 (Nat.zero_le _) (Nat.zero_le _) (DI.k h (fun v201 w200 gw200 h => (?_ : WD _ _ 1090 _ _ _ _ _ _)))
                      obtain ⟨h202, h⟩ := h
                      refine x_iadd d_Cl_act_1090 h202 (?_ : WD _ _ 1091 _ _ _ _ _ _)
                      refine x_istore (ls' := [(8, vI (1 + v201)), (7, vP y0), (0, vR 0), (1, vA x1), (2, vA x2), (3, vI x3), (4, vI x4), (5, vI x5)]) d_Cl_act_1091 (by decide) rfl (?_ : WD _ _ 1093 _ _ _ _ _ _)
                      refine x_iload d_Cl_act_1093 rfl (?_ : WD _ _ 1095 _ _ _ _ _ _)
                      refine x_iconst d_Cl_act_1095 (by decide) (?_ : WD _ _ 1096 _ _ _ _ _ _)
                      refine x_icmp_lt 1106 d_Cl_act_1096 rfl ⟨fun c203 => (?_ : WD _ _ 1106 _ _ _ _ _ _), fun c203 => (?_ : WD _ _ 1099 _ _ _ _ _ _)⟩
                      · replace h := h.1 c203
                        refine x_bipush d_Cl_act_1106 (by decide) (by decide) (?_ : WD _ _ 1108 _ _ _ _ _ _)
                        refine x_goto 1127 d_Cl_act_1108 rfl ?_
                        refine x_istore (ls' := [(6, vI (-3)), (8, vI (1 + v201)), (7, vP y0), (0, vR 0), (1, vA x1), (2, vA x2), (3, vI x3), (4, vI x4), (5, vI x5)]) d_Cl_act_1127 (by decide) rfl (?_ : WD _ _ 1129 _ _ _ _ _ _)
                        refine x_iload d_Cl_act_1129 rfl (?_ : WD _ _ 1131 _ _ _ _ _ _)
                        refine x_if_ne 1193 d_Cl_act_1131 rfl ⟨fun hc => (?_ : WD _ _ 1193 _ _ _ _ _ _), fun hc => absurd hc (by decide)⟩
                        refine x_aload_n d_Cl_act_1193 rfl (?_ : WD _ _ 1194 _ _ _ _ _ _)
                        refine x_iload d_Cl_act_1194 rfl (?_ : WD _ _ 1196 _ _ _ _ _ _)
                        refine x_callC (ν := M_Cs_interval) (k := 0) [vI (1 + v201)] ok_M_Cs_interval okv_M_Cs_interval (by decide) rfl rfl rfl (qm_5 (i := 186) rfl rfl) np_M_Cs_interval rfl ⟨Nat.le_of_ble_eq_true rfl, Nat.le_of_ble_eq_true rfl⟩ (Nat.le_of_ble_eq_true rfl) rfl d_Cl_act_1196 (CI.kd h (fun v204 σ205 h => (?_ : WD _ _ 1199 _ _ _ _ _ _)))
                        refine x_iload d_Cl_act_1199 rfl (?_ : WD _ _ 1201 _ _ _ _ _ _)
                        refine x_icmp_ne 1208 d_Cl_act_1201 rfl ⟨fun c206 => (?_ : WD _ _ 1208 _ _ _ _ _ _), fun c206 => (?_ : WD _ _ 1204 _ _ _ _ _ _)⟩
                        · replace h := h.1 c206
                          refine x_iconst d_Cl_act_1208 (by decide) (?_ : WD _ _ 1209 _ _ _ _ _ _)
                          exact x_zreturn rfl d_Cl_act_1209 (by decide) h
                        · replace h := h.2 c206
                          refine x_iconst d_Cl_act_1204 (by decide) (?_ : WD _ _ 1205 _ _ _ _ _ _)
                          refine x_goto 1209 d_Cl_act_1205 rfl ?_
                          exact x_zreturn rfl d_Cl_act_1209 (by decide) h
                      · replace h := h.2 c203
                        refine x_iload d_Cl_act_1099 rfl (?_ : WD _ _ 1101 _ _ _ _ _ _)
                        refine x_ldc 99999 d_Cl_act_1101 (qm_5 (i := 149) rfl rfl) (by decide) (by decide) (?_ : WD _ _ 1103 _ _ _ _ _ _)
                        refine x_icmp_le 1111 d_Cl_act_1103 rfl ⟨fun c207 => (?_ : WD _ _ 1111 _ _ _ _ _ _), fun c207 => (?_ : WD _ _ 1106 _ _ _ _ _ _)⟩
                        · replace h := h.1 c207
                          refine x_aload_nP (some x1) d_Cl_act_1111 rfl (?_ : WD _ _ 1112 _ _ _ _ _ _)
                          obtain ⟨k208, h⟩ := h
                          refine x_getP (ref := "CoinSamplerLaw$Books") (j := 1) 1 k208 clk_11 (by decide) (qm_2 (i := 158) rfl rfl) (Or.inl rfl) rfl rfl d_Cl_act_1112 (y := (wR w200 x1 1)) rfl (?_ : WD _ _ 1115 _ _ _ _ _ _)
                          obtain ⟨a209, e210, h⟩ := h
                          rw [e210]
                          obtain ⟨k211, h⟩ := h
                          refine x_callV (ν := M_Al_isEmpty) [] ok_M_Al_isEmpty okv_M_Al_isEmpty k211 rfl rfl (qm_3 (i := 230) rfl rfl) np_M_Al_isEmpty rfl ⟨Nat.le_of_ble_eq_true rfl, Nat.le_of_ble_eq_true rfl⟩ (Nat.le_of_ble_eq_true rfl) rfl d_Cl_act_1115 (Nat.zero_le _) (Nat.zero_le _) (DI.k h (fun v213 w212 gw212 h => (?_ : WD _ _ 1118 _ _ _ _ _ _)))
                          refine x_if_ne 1126 d_Cl_act_1118 rfl ⟨fun c214 => (?_ : WD _ _ 1126 _ _ _ _ _ _), fun c214 => (?_ : WD _ _ 1121 _ _ _ _ _ _)⟩
                          · replace h := h.1 c214
                            refine x_iconst d_Cl_act_1126 (by decide) (?_ : WD _ _ 1127 _ _ _ _ _ _)
                            refine x_istore (ls' := [(6, vI 0), (8, vI (1 + v201)), (7, vP y0), (0, vR 0), (1, vA x1), (2, vA x2), (3, vI x3), (4, vI x4), (5, vI x5)]) d_Cl_act_1127 (by decide) rfl (?_ : WD _ _ 1129 _ _ _ _ _ _)
                            refine x_iload d_Cl_act_1129 rfl (?_ : WD _ _ 1131 _ _ _ _ _ _)
                            refine x_if_ne 1193 d_Cl_act_1131 rfl ⟨fun hc => absurd rfl hc, fun hc => (?_ : WD _ _ 1134 _ _ _ _ _ _)⟩
                            refine x_aload_nP (some x1) d_Cl_act_1134 rfl (?_ : WD _ _ 1135 _ _ _ _ _ _)
                            refine x_iload d_Cl_act_1135 rfl (?_ : WD _ _ 1137 _ _ _ _ _ _)
                            obtain ⟨k215, h⟩ := h
                            refine x_putI (ref := "CoinSamplerLaw$Books") (j := 3) 3 k215 clk_11 (by decide) (qm_2 (i := 162) rfl rfl) (Or.inl rfl) (Or.inl rfl) tyX11_ok rfl nmX11 d_Cl_act_1137 rfl rfl (fun _ => rfl) rfl (?_ : WD _ _ 1140 _ _ _ _ _ _)
                            refine x_aload_nP (some x1) d_Cl_act_1140 rfl (?_ : WD _ _ 1141 _ _ _ _ _ _)
                            refine x_getP (ref := "CoinSamplerLaw$Books") (j := 0) 0 k215.is clk_11 (by decide) (qm_2 (i := 156) rfl rfl) (Or.inl rfl) rfl rfl d_Cl_act_1141 (y := (wR w212 x1 0)) rfl (?_ : WD _ _ 1144 _ _ _ _ _ _)
                            obtain ⟨a216, e217, h⟩ := h
                            rw [e217]
                            obtain ⟨c218, s219, h220, h221, h⟩ := h
                            obtain ⟨k222, h⟩ := h
                            refine x_callV (ν := M_Al_iterator) [] ok_M_Al_iterator okv_M_Al_iterator k222 rfl rfl (qm_5 (i := 180) rfl rfl) np_M_Al_iterator rfl ⟨Nat.le_of_ble_eq_true rfl, Nat.le_of_ble_eq_true rfl⟩ (Nat.le_of_ble_eq_true rfl) rfl d_Cl_act_1144 h220 h221 (DP.k h (fun v224 w223 gw223 h => (?_ : WD _ _ 1147 _ _ _ _ _ _)))
                            refine x_astoreP v224 (ls' := [(9, vP v224), (6, vI 0), (8, vI (1 + v201)), (7, vP y0), (0, vR 0), (1, vA x1), (2, vA x2), (3, vI x3), (4, vI x4), (5, vI x5)]) d_Cl_act_1147 (by decide) rfl (?_ : WD _ _ 1149 _ _ _ _ _ _)
                            refine x_pick (ls' := [(0, vR 0), (1, vA x1), (6, vI 0), (8, vI (1 + v201)), (9, vP v224)]) [4, 5, 1, 2, 0] rfl ?_
                            exact h
                          · replace h := h.2 c214
                            refine x_bipush d_Cl_act_1121 (by decide) (by decide) (?_ : WD _ _ 1123 _ _ _ _ _ _)
                            refine x_goto 1127 d_Cl_act_1123 rfl ?_
                            refine x_istore (ls' := [(6, vI (-5)), (8, vI (1 + v201)), (7, vP y0), (0, vR 0), (1, vA x1), (2, vA x2), (3, vI x3), (4, vI x4), (5, vI x5)]) d_Cl_act_1127 (by decide) rfl (?_ : WD _ _ 1129 _ _ _ _ _ _)
                            refine x_iload d_Cl_act_1129 rfl (?_ : WD _ _ 1131 _ _ _ _ _ _)
                            refine x_if_ne 1193 d_Cl_act_1131 rfl ⟨fun hc => (?_ : WD _ _ 1193 _ _ _ _ _ _), fun hc => absurd hc (by decide)⟩
                            refine x_aload_n d_Cl_act_1193 rfl (?_ : WD _ _ 1194 _ _ _ _ _ _)
                            refine x_iload d_Cl_act_1194 rfl (?_ : WD _ _ 1196 _ _ _ _ _ _)
                            refine x_callC (ν := M_Cs_interval) (k := 0) [vI (1 + v201)] ok_M_Cs_interval okv_M_Cs_interval (by decide) rfl rfl rfl (qm_5 (i := 186) rfl rfl) np_M_Cs_interval rfl ⟨Nat.le_of_ble_eq_true rfl, Nat.le_of_ble_eq_true rfl⟩ (Nat.le_of_ble_eq_true rfl) rfl d_Cl_act_1196 (CI.kd h (fun v225 σ226 h => (?_ : WD _ _ 1199 _ _ _ _ _ _)))
                            refine x_iload d_Cl_act_1199 rfl (?_ : WD _ _ 1201 _ _ _ _ _ _)
                            refine x_icmp_ne 1208 d_Cl_act_1201 rfl ⟨fun c227 => (?_ : WD _ _ 1208 _ _ _ _ _ _), fun c227 => (?_ : WD _ _ 1204 _ _ _ _ _ _)⟩
                            · replace h := h.1 c227
                              refine x_iconst d_Cl_act_1208 (by decide) (?_ : WD _ _ 1209 _ _ _ _ _ _)
                              exact x_zreturn rfl d_Cl_act_1209 (by decide) h
                            · replace h := h.2 c227
                              refine x_iconst d_Cl_act_1204 (by decide) (?_ : WD _ _ 1205 _ _ _ _ _ _)
                              refine x_goto 1209 d_Cl_act_1205 rfl ?_
                              exact x_zreturn rfl d_Cl_act_1209 (by decide) h
                        · replace h := h.2 c207
                          refine x_bipush d_Cl_act_1106 (by decide) (by decide) (?_ : WD _ _ 1108 _ _ _ _ _ _)
                          refine x_goto 1127 d_Cl_act_1108 rfl ?_
                          refine x_istore (ls' := [(6, vI (-3)), (8, vI (1 + v201)), (7, vP y0), (0, vR 0), (1, vA x1), (2, vA x2), (3, vI x3), (4, vI x4), (5, vI x5)]) d_Cl_act_1127 (by decide) rfl (?_ : WD _ _ 1129 _ _ _ _ _ _)
                          refine x_iload d_Cl_act_1129 rfl (?_ : WD _ _ 1131 _ _ _ _ _ _)
                          refine x_if_ne 1193 d_Cl_act_1131 rfl ⟨fun hc => (?_ : WD _ _ 1193 _ _ _ _ _ _), fun hc => absurd hc (by decide)⟩
                          refine x_aload_n d_Cl_act_1193 rfl (?_ : WD _ _ 1194 _ _ _ _ _ _)
                          refine x_iload d_Cl_act_1194 rfl (?_ : WD _ _ 1196 _ _ _ _ _ _)
                          refine x_callC (ν := M_Cs_interval) (k := 0) [vI (1 + v201)] ok_M_Cs_interval okv_M_Cs_interval (by decide) rfl rfl rfl (qm_5 (i := 186) rfl rfl) np_M_Cs_interval rfl ⟨Nat.le_of_ble_eq_true rfl, Nat.le_of_ble_eq_true rfl⟩ (Nat.le_of_ble_eq_true rfl) rfl d_Cl_act_1196 (CI.kd h (fun v228 σ229 h => (?_ : WD _ _ 1199 _ _ _ _ _ _)))
                          refine x_iload d_Cl_act_1199 rfl (?_ : WD _ _ 1201 _ _ _ _ _ _)
                          refine x_icmp_ne 1208 d_Cl_act_1201 rfl ⟨fun c230 => (?_ : WD _ _ 1208 _ _ _ _ _ _), fun c230 => (?_ : WD _ _ 1204 _ _ _ _ _ _)⟩
                          · replace h := h.1 c230
                            refine x_iconst d_Cl_act_1208 (by decide) (?_ : WD _ _ 1209 _ _ _ _ _ _)
                            exact x_zreturn rfl d_Cl_act_1209 (by decide) h
                          · replace h := h.2 c230
                            refine x_iconst d_Cl_act_1204 (by decide) (?_ : WD _ _ 1205 _ _ _ _ _ _)
                            refine x_goto 1209 d_Cl_act_1205 rfl ?_
                            exact x_zreturn rfl d_Cl_act_1209 (by decide) h
                  · replace h := h.2 c165
                    refine x_ldc 100000 d_Cl_act_1059 (qm_5 (i := 148) rfl rfl) (by decide) (by decide) (?_ : WD _ _ 1061 _ _ _ _ _ _)
                    refine x_aload_nP (some x2) d_Cl_act_1061 rfl (?_ : WD _ _ 1062 _ _ _ _ _ _)
                    refine x_iconst d_Cl_act_1062 (by decide) (?_ : WD _ _ 1063 _ _ _ _ _ _)
                    refine x_callS (ν := M_Cl_draw) [vA x2, vI 2] ok_M_Cl_draw oks_M_Cl_draw (qm_3 (i := 179) rfl rfl) np_M_Cl_draw rfl ⟨Nat.le_of_ble_eq_true rfl, Nat.le_of_ble_eq_true rfl⟩ (Nat.le_of_ble_eq_true rfl) rfl d_Cl_act_1063 (Nat.zero_le _) (Nat.zero_le _) (DI.k h (fun v232 w231 gw231 h => (?_ : WD _ _ 1066 _ _ _ _ _ _)))
                    obtain ⟨h233, h⟩ := h
                    refine x_imul d_Cl_act_1066 h233 (?_ : WD _ _ 1067 _ _ _ _ _ _)
                    refine x_goto 1091 d_Cl_act_1067 rfl ?_
                    refine x_istore (ls' := [(8, vI (100000 * v232)), (7, vP y0), (0, vR 0), (1, vA x1), (2, vA x2), (3, vI x3), (4, vI x4), (5, vI x5)]) d_Cl_act_1091 (by decide) rfl (?_ : WD _ _ 1093 _ _ _ _ _ _)
                    refine x_iload d_Cl_act_1093 rfl (?_ : WD _ _ 1095 _ _ _ _ _ _)
                    refine x_iconst d_Cl_act_1095 (by decide) (?_ : WD _ _ 1096 _ _ _ _ _ _)
                    refine x_icmp_lt 1106 d_Cl_act_1096 rfl ⟨fun c234 => (?_ : WD _ _ 1106 _ _ _ _ _ _), fun c234 => (?_ : WD _ _ 1099 _ _ _ _ _ _)⟩
                    · replace h := h.1 c234
                      refine x_bipush d_Cl_act_1106 (by decide) (by decide) (?_ : WD _ _ 1108 _ _ _ _ _ _)
                      refine x_goto 1127 d_Cl_act_1108 rfl ?_
                      refine x_istore (ls' := [(6, vI (-3)), (8, vI (100000 * v232)), (7, vP y0), (0, vR 0), (1, vA x1), (2, vA x2), (3, vI x3), (4, vI x4), (5, vI x5)]) d_Cl_act_1127 (by decide) rfl (?_ : WD _ _ 1129 _ _ _ _ _ _)
                      refine x_iload d_Cl_act_1129 rfl (?_ : WD _ _ 1131 _ _ _ _ _ _)
                      refine x_if_ne 1193 d_Cl_act_1131 rfl ⟨fun hc => (?_ : WD _ _ 1193 _ _ _ _ _ _), fun hc => absurd hc (by decide)⟩
                      refine x_aload_n d_Cl_act_1193 rfl (?_ : WD _ _ 1194 _ _ _ _ _ _)
                      refine x_iload d_Cl_act_1194 rfl (?_ : WD _ _ 1196 _ _ _ _ _ _)
                      refine x_callC (ν := M_Cs_interval) (k := 0) [vI (100000 * v232)] ok_M_Cs_interval okv_M_Cs_interval (by decide) rfl rfl rfl (qm_5 (i := 186) rfl rfl) np_M_Cs_interval rfl ⟨Nat.le_of_ble_eq_true rfl, Nat.le_of_ble_eq_true rfl⟩ (Nat.le_of_ble_eq_true rfl) rfl d_Cl_act_1196 (CI.kd h (fun v235 σ236 h => (?_ : WD _ _ 1199 _ _ _ _ _ _)))
                      refine x_iload d_Cl_act_1199 rfl (?_ : WD _ _ 1201 _ _ _ _ _ _)
                      refine x_icmp_ne 1208 d_Cl_act_1201 rfl ⟨fun c237 => (?_ : WD _ _ 1208 _ _ _ _ _ _), fun c237 => (?_ : WD _ _ 1204 _ _ _ _ _ _)⟩
                      · replace h := h.1 c237
                        refine x_iconst d_Cl_act_1208 (by decide) (?_ : WD _ _ 1209 _ _ _ _ _ _)
                        exact x_zreturn rfl d_Cl_act_1209 (by decide) h
                      · replace h := h.2 c237
                        refine x_iconst d_Cl_act_1204 (by decide) (?_ : WD _ _ 1205 _ _ _ _ _ _)
                        refine x_goto 1209 d_Cl_act_1205 rfl ?_
                        exact x_zreturn rfl d_Cl_act_1209 (by decide) h
                    · replace h := h.2 c234
                      refine x_iload d_Cl_act_1099 rfl (?_ : WD _ _ 1101 _ _ _ _ _ _)
                      refine x_ldc 99999 d_Cl_act_1101 (qm_5 (i := 149) rfl rfl) (by decide) (by decide) (?_ : WD _ _ 1103 _ _ _ _ _ _)
                      refine x_icmp_le 1111 d_Cl_act_1103 rfl ⟨fun c238 => (?_ : WD _ _ 1111 _ _ _ _ _ _), fun c238 => (?_ : WD _ _ 1106 _ _ _ _ _ _)⟩
                      · replace h := h.1 c238
                        refine x_aload_nP (some x1) d_Cl_act_1111 rfl (?_ : WD _ _ 1112 _ _ _ _ _ _)
                        obtain ⟨k239, h⟩ := h
                        refine x_getP (ref := "CoinSamplerLaw$Books") (j := 1) 1 k239 clk_11 (by decide) (qm_2 (i := 158) rfl rfl) (Or.inl rfl) rfl rfl d_Cl_act_1112 (y := (wR w231 x1 1)) rfl (?_ : WD _ _ 1115 _ _ _ _ _ _)
                        obtain ⟨a240, e241, h⟩ := h
                        rw [e241]
                        obtain ⟨k242, h⟩ := h
                        refine x_callV (ν := M_Al_isEmpty) [] ok_M_Al_isEmpty okv_M_Al_isEmpty k242 rfl rfl (qm_3 (i := 230) rfl rfl) np_M_Al_isEmpty rfl ⟨Nat.le_of_ble_eq_true rfl, Nat.le_of_ble_eq_true rfl⟩ (Nat.le_of_ble_eq_true rfl) rfl d_Cl_act_1115 (Nat.zero_le _) (Nat.zero_le _) (DI.k h (fun v244 w243 gw243 h => (?_ : WD _ _ 1118 _ _ _ _ _ _)))
                        refine x_if_ne 1126 d_Cl_act_1118 rfl ⟨fun c245 => (?_ : WD _ _ 1126 _ _ _ _ _ _), fun c245 => (?_ : WD _ _ 1121 _ _ _ _ _ _)⟩
                        · replace h := h.1 c245
                          refine x_iconst d_Cl_act_1126 (by decide) (?_ : WD _ _ 1127 _ _ _ _ _ _)
                          refine x_istore (ls' := [(6, vI 0), (8, vI (100000 * v232)), (7, vP y0), (0, vR 0), (1, vA x1), (2, vA x2), (3, vI x3), (4, vI x4), (5, vI x5)]) d_Cl_act_1127 (by decide) rfl (?_ : WD _ _ 1129 _ _ _ _ _ _)
                          refine x_iload d_Cl_act_1129 rfl (?_ : WD _ _ 1131 _ _ _ _ _ _)
                          refine x_if_ne 1193 d_Cl_act_1131 rfl ⟨fun hc => absurd rfl hc, fun hc => (?_ : WD _ _ 1134 _ _ _ _ _ _)⟩
                          refine x_aload_nP (some x1) d_Cl_act_1134 rfl (?_ : WD _ _ 1135 _ _ _ _ _ _)
                          refine x_iload d_Cl_act_1135 rfl (?_ : WD _ _ 1137 _ _ _ _ _ _)
                          obtain ⟨k246, h⟩ := h
                          refine x_putI (ref := "CoinSamplerLaw$Books") (j := 3) 3 k246 clk_11 (by decide) (qm_2 (i := 162) rfl rfl) (Or.inl rfl) (Or.inl rfl) tyX11_ok rfl nmX11 d_Cl_act_1137 rfl rfl (fun _ => rfl) rfl (?_ : WD _ _ 1140 _ _ _ _ _ _)
                          refine x_aload_nP (some x1) d_Cl_act_1140 rfl (?_ : WD _ _ 1141 _ _ _ _ _ _)
                          refine x_getP (ref := "CoinSamplerLaw$Books") (j := 0) 0 k246.is clk_11 (by decide) (qm_2 (i := 156) rfl rfl) (Or.inl rfl) rfl rfl d_Cl_act_1141 (y := (wR w243 x1 0)) rfl (?_ : WD _ _ 1144 _ _ _ _ _ _)
                          obtain ⟨a247, e248, h⟩ := h
                          rw [e248]
                          obtain ⟨c249, s250, h251, h252, h⟩ := h
                          obtain ⟨k253, h⟩ := h
                          refine x_callV (ν := M_Al_iterator) [] ok_M_Al_iterator okv_M_Al_iterator k253 rfl rfl (qm_5 (i := 180) rfl rfl) np_M_Al_iterator rfl ⟨Nat.le_of_ble_eq_true rfl, Nat.le_of_ble_eq_true rfl⟩ (Nat.le_of_ble_eq_true rfl) rfl d_Cl_act_1144 h251 h252 (DP.k h (fun v255 w254 gw254 h => (?_ : WD _ _ 1147 _ _ _ _ _ _)))
                          refine x_astoreP v255 (ls' := [(9, vP v255), (6, vI 0), (8, vI (100000 * v232)), (7, vP y0), (0, vR 0), (1, vA x1), (2, vA x2), (3, vI x3), (4, vI x4), (5, vI x5)]) d_Cl_act_1147 (by decide) rfl (?_ : WD _ _ 1149 _ _ _ _ _ _)
                          refine x_pick (ls' := [(0, vR 0), (1, vA x1), (6, vI 0), (8, vI (100000 * v232)), (9, vP v255)]) [4, 5, 1, 2, 0] rfl ?_
                          exact h
                        · replace h := h.2 c245
                          refine x_bipush d_Cl_act_1121 (by decide) (by decide) (?_ : WD _ _ 1123 _ _ _ _ _ _)
                          refine x_goto 1127 d_Cl_act_1123 rfl ?_
                          refine x_istore (ls' := [(6, vI (-5)), (8, vI (100000 * v232)), (7, vP y0), (0, vR 0), (1, vA x1), (2, vA x2), (3, vI x3), (4, vI x4), (5, vI x5)]) d_Cl_act_1127 (by decide) rfl (?_ : WD _ _ 1129 _ _ _ _ _ _)
                          refine x_iload d_Cl_act_1129 rfl (?_ : WD _ _ 1131 _ _ _ _ _ _)
                          refine x_if_ne 1193 d_Cl_act_1131 rfl ⟨fun hc => (?_ : WD _ _ 1193 _ _ _ _ _ _), fun hc => absurd hc (by decide)⟩
                          refine x_aload_n d_Cl_act_1193 rfl (?_ : WD _ _ 1194 _ _ _ _ _ _)
                          refine x_iload d_Cl_act_1194 rfl (?_ : WD _ _ 1196 _ _ _ _ _ _)
                          refine x_callC (ν := M_Cs_interval) (k := 0) [vI (100000 * v232)] ok_M_Cs_interval okv_M_Cs_interval (by decide) rfl rfl rfl (qm_5 (i := 186) rfl rfl) np_M_Cs_interval rfl ⟨Nat.le_of_ble_eq_true rfl, Nat.le_of_ble_eq_true rfl⟩ (Nat.le_of_ble_eq_true rfl) rfl d_Cl_act_1196 (CI.kd h (fun v256 σ257 h => (?_ : WD _ _ 1199 _ _ _ _ _ _)))
                          refine x_iload d_Cl_act_1199 rfl (?_ : WD _ _ 1201 _ _ _ _ _ _)
                          refine x_icmp_ne 1208 d_Cl_act_1201 rfl ⟨fun c258 => (?_ : WD _ _ 1208 _ _ _ _ _ _), fun c258 => (?_ : WD _ _ 1204 _ _ _ _ _ _)⟩
                          · replace h := h.1 c258
                            refine x_iconst d_Cl_act_1208 (by decide) (?_ : WD _ _ 1209 _ _ _ _ _ _)
                            exact x_zreturn rfl d_Cl_act_1209 (by decide) h
                          · replace h := h.2 c258
                            refine x_iconst d_Cl_act_1204 (by decide) (?_ : WD _ _ 1205 _ _ _ _ _ _)
                            refine x_goto 1209 d_Cl_act_1205 rfl ?_
                            exact x_zreturn rfl d_Cl_act_1209 (by decide) h
                      · replace h := h.2 c238
                        refine x_bipush d_Cl_act_1106 (by decide) (by decide) (?_ : WD _ _ 1108 _ _ _ _ _ _)
                        refine x_goto 1127 d_Cl_act_1108 rfl ?_
                        refine x_istore (ls' := [(6, vI (-3)), (8, vI (100000 * v232)), (7, vP y0), (0, vR 0), (1, vA x1), (2, vA x2), (3, vI x3), (4, vI x4), (5, vI x5)]) d_Cl_act_1127 (by decide) rfl (?_ : WD _ _ 1129 _ _ _ _ _ _)
                        refine x_iload d_Cl_act_1129 rfl (?_ : WD _ _ 1131 _ _ _ _ _ _)
                        refine x_if_ne 1193 d_Cl_act_1131 rfl ⟨fun hc => (?_ : WD _ _ 1193 _ _ _ _ _ _), fun hc => absurd hc (by decide)⟩
                        refine x_aload_n d_Cl_act_1193 rfl (?_ : WD _ _ 1194 _ _ _ _ _ _)
                        refine x_iload d_Cl_act_1194 rfl (?_ : WD _ _ 1196 _ _ _ _ _ _)
                        refine x_callC (ν := M_Cs_interval) (k := 0) [vI (100000 * v232)] ok_M_Cs_interval okv_M_Cs_interval (by decide) rfl rfl rfl (qm_5 (i := 186) rfl rfl) np_M_Cs_interval rfl ⟨Nat.le_of_ble_eq_true rfl, Nat.le_of_ble_eq_true rfl⟩ (Nat.le_of_ble_eq_true rfl) rfl d_Cl_act_1196 (CI.kd h (fun v259 σ260 h => (?_ : WD _ _ 1199 _ _ _ _ _ _)))
                        refine x_iload d_Cl_act_1199 rfl (?_ : WD _ _ 1201 _ _ _ _ _ _)
                        refine x_icmp_ne 1208 d_Cl_act_1201 rfl ⟨fun c261 => (?_ : WD _ _ 1208 _ _ _ _ _ _), fun c261 => (?_ : WD _ _ 1204 _ _ _ _ _ _)⟩
                        · replace h := h.1 c261
                          refine x_iconst d_Cl_act_1208 (by decide) (?_ : WD _ _ 1209 _ _ _ _ _ _)
                          exact x_zreturn rfl d_Cl_act_1209 (by decide) h
                        · replace h := h.2 c261
                          refine x_iconst d_Cl_act_1204 (by decide) (?_ : WD _ _ 1205 _ _ _ _ _ _)
                          refine x_goto 1209 d_Cl_act_1205 rfl ?_
                          exact x_zreturn rfl d_Cl_act_1209 (by decide) h
              · replace h := h.2 c55
                refine x_aloadP y0 d_Cl_act_999 rfl (?_ : WD _ _ 1001 _ _ _ _ _ _)
                refine x_ifnonnull 1009 d_Cl_act_1001 rfl ⟨fun e263 => (?_ : WD _ _ 1004 _ _ _ _ _ _), fun a262 e263 => (?_ : WD _ _ 1009 _ _ _ _ _ _)⟩
                · replace h := h.1 e263
                  rw [e263]
                  refine x_bipush d_Cl_act_1004 (by decide) (by decide) (?_ : WD _ _ 1006 _ _ _ _ _ _)
                  refine x_goto 1014 d_Cl_act_1006 rfl ?_
                  refine x_istore (ls' := [(6, vI (-2)), (7, vP none), (0, vR 0), (1, vA x1), (2, vA x2), (3, vI x3), (4, vI x4), (5, vI x5)]) d_Cl_act_1014 (by decide) rfl (?_ : WD _ _ 1016 _ _ _ _ _ _)
                  refine x_aloadP none d_Cl_act_1016 rfl (?_ : WD _ _ 1018 _ _ _ _ _ _)
                  refine x_ifnull (r := none) 1027 d_Cl_act_1018 rfl ⟨fun _ => (?_ : WD _ _ 1027 _ _ _ _ _ _), fun _ hz => absurd hz (by simp)⟩
                  refine x_aload_n d_Cl_act_1027 rfl (?_ : WD _ _ 1028 _ _ _ _ _ _)
                  refine x_iload d_Cl_act_1028 rfl (?_ : WD _ _ 1030 _ _ _ _ _ _)
                  refine x_callC (ν := M_Cs_forget) (k := 0) [vI x5] ok_M_Cs_forget okv_M_Cs_forget (by decide) rfl rfl rfl (qm_5 (i := 176) rfl rfl) np_M_Cs_forget rfl ⟨Nat.le_of_ble_eq_true rfl, Nat.le_of_ble_eq_true rfl⟩ (Nat.le_of_ble_eq_true rfl) rfl d_Cl_act_1030 (CI.kd h (fun v264 σ265 h => (?_ : WD _ _ 1033 _ _ _ _ _ _)))
                  refine x_iload d_Cl_act_1033 rfl (?_ : WD _ _ 1035 _ _ _ _ _ _)
                  refine x_icmp_ne 1042 d_Cl_act_1035 rfl ⟨fun c266 => (?_ : WD _ _ 1042 _ _ _ _ _ _), fun c266 => (?_ : WD _ _ 1038 _ _ _ _ _ _)⟩
                  · replace h := h.1 c266
                    refine x_iconst d_Cl_act_1042 (by decide) (?_ : WD _ _ 1043 _ _ _ _ _ _)
                    exact x_zreturn rfl d_Cl_act_1043 (by decide) h
                  · replace h := h.2 c266
                    refine x_iconst d_Cl_act_1038 (by decide) (?_ : WD _ _ 1039 _ _ _ _ _ _)
                    refine x_goto 1043 d_Cl_act_1039 rfl ?_
                    exact x_zreturn rfl d_Cl_act_1043 (by decide) h
                · replace h := h.2 a262 e263
                  rw [e263]
                  refine x_aloadP (some a262) d_Cl_act_1009 rfl (?_ : WD _ _ 1011 _ _ _ _ _ _)
                  obtain ⟨k267, h⟩ := h
                  refine x_getI (ref := "CoinSamplerLaw$Item") (j := 3) 3 k267 clk_13 (by decide) (qm_4 (i := 159) rfl rfl) (Or.inl rfl) rfl rfl d_Cl_act_1011 (y := (wI w a262 3)) rfl (?_ : WD _ _ 1014 _ _ _ _ _ _)
                  refine x_istore (ls' := [(6, vI (wI w a262 3)), (7, vA a262), (0, vR 0), (1, vA x1), (2, vA x2), (3, vI x3), (4, vI x4), (5, vI x5)]) d_Cl_act_1014 (by decide) rfl (?_ : WD _ _ 1016 _ _ _ _ _ _)
                  refine x_aloadP (some a262) d_Cl_act_1016 rfl (?_ : WD _ _ 1018 _ _ _ _ _ _)
                  refine x_ifnull (r := some a262) 1027 d_Cl_act_1018 rfl ⟨fun hz => absurd hz (by simp), fun _ _ => (?_ : WD _ _ 1021 _ _ _ _ _ _)⟩
                  refine x_aloadP (some a262) d_Cl_act_1021 rfl (?_ : WD _ _ 1023 _ _ _ _ _ _)
                  refine x_iconst d_Cl_act_1023 (by decide) (?_ : WD _ _ 1024 _ _ _ _ _ _)
                  obtain ⟨k268, h⟩ := h
                  refine x_putI (ref := "CoinSamplerLaw$Item") (j := 3) 3 k268 clk_13 (by decide) (qm_4 (i := 159) rfl rfl) (Or.inl rfl) (Or.inl rfl) tyX13_ok rfl nmX13 d_Cl_act_1024 rfl rfl (fun _ => rfl) rfl (?_ : WD _ _ 1027 _ _ _ _ _ _)
                  refine x_aload_n d_Cl_act_1027 rfl (?_ : WD _ _ 1028 _ _ _ _ _ _)
                  refine x_iload d_Cl_act_1028 rfl (?_ : WD _ _ 1030 _ _ _ _ _ _)
                  refine x_callC (ν := M_Cs_forget) (k := 0) [vI x5] ok_M_Cs_forget okv_M_Cs_forget (by decide) rfl rfl rfl (qm_5 (i := 176) rfl rfl) np_M_Cs_forget rfl ⟨Nat.le_of_ble_eq_true rfl, Nat.le_of_ble_eq_true rfl⟩ (Nat.le_of_ble_eq_true rfl) rfl d_Cl_act_1030 (CI.kd h (fun v269 σ270 h => (?_ : WD _ _ 1033 _ _ _ _ _ _)))
                  refine x_iload d_Cl_act_1033 rfl (?_ : WD _ _ 1035 _ _ _ _ _ _)
                  refine x_icmp_ne 1042 d_Cl_act_1035 rfl ⟨fun c271 => (?_ : WD _ _ 1042 _ _ _ _ _ _), fun c271 => (?_ : WD _ _ 1038 _ _ _ _ _ _)⟩
                  · replace h := h.1 c271
                    refine x_iconst d_Cl_act_1042 (by decide) (?_ : WD _ _ 1043 _ _ _ _ _ _)
                    exact x_zreturn rfl d_Cl_act_1043 (by decide) h
                  · replace h := h.2 c271
                    refine x_iconst d_Cl_act_1038 (by decide) (?_ : WD _ _ 1039 _ _ _ _ _ _)
                    refine x_goto 1043 d_Cl_act_1039 rfl ?_
                    exact x_zreturn rfl d_Cl_act_1043 (by decide) h
            · replace h := h.2 c54
              refine x_aloadP y0 d_Cl_act_792 rfl (?_ : WD _ _ 794 _ _ _ _ _ _)
              refine x_ifnull 806 d_Cl_act_794 rfl ⟨fun e273 => (?_ : WD _ _ 806 _ _ _ _ _ _), fun a272 e273 => (?_ : WD _ _ 797 _ _ _ _ _ _)⟩
              · replace h := h.1 e273
                rw [e273]
                refine x_aload_nP (some x2) d_Cl_act_806 rfl (?_ : WD _ _ 807 _ _ _ _ _ _)
                refine x_iconst d_Cl_act_807 (by decide) (?_ : WD _ _ 808 _ _ _ _ _ _)
                refine x_callS (ν := M_Cl_draw) [vA x2, vI 3] ok_M_Cl_draw oks_M_Cl_draw (qm_3 (i := 179) rfl rfl) np_M_Cl_draw rfl ⟨Nat.le_of_ble_eq_true rfl, Nat.le_of_ble_eq_true rfl⟩ (Nat.le_of_ble_eq_true rfl) rfl d_Cl_act_808 (Nat.zero_le _) (Nat.zero_le _) (DI.k h (fun v275 w274 gw274 h => (?_ : WD _ _ 811 _ _ _ _ _ _)))
                refine x_iconst d_Cl_act_811 (by decide) (?_ : WD _ _ 812 _ _ _ _ _ _)
                obtain ⟨h276, h⟩ := h
                refine x_isub d_Cl_act_812 h276 (?_ : WD _ _ 813 _ _ _ _ _ _)
                refine x_goto 902 d_Cl_act_813 rfl ?_
                refine x_istore (ls' := [(8, vI (v275 - 1)), (7, vP none), (0, vR 0), (1, vA x1), (2, vA x2), (3, vI x3), (4, vI x4), (5, vI x5)]) d_Cl_act_902 (by decide) rfl (?_ : WD _ _ 904 _ _ _ _ _ _)
                refine x_aloadP none d_Cl_act_904 rfl (?_ : WD _ _ 906 _ _ _ _ _ _)
                refine x_ifnonnull (r := none) 914 d_Cl_act_906 rfl ⟨fun _ => (?_ : WD _ _ 909 _ _ _ _ _ _), fun _ hz => absurd hz (by simp)⟩
                refine x_bipush d_Cl_act_909 (by decide) (by decide) (?_ : WD _ _ 911 _ _ _ _ _ _)
                refine x_goto 954 d_Cl_act_911 rfl ?_
                refine x_istore (ls' := [(6, vI (-2)), (8, vI (v275 - 1)), (7, vP none), (0, vR 0), (1, vA x1), (2, vA x2), (3, vI x3), (4, vI x4), (5, vI x5)]) d_Cl_act_954 (by decide) rfl (?_ : WD _ _ 956 _ _ _ _ _ _)
                refine x_iload d_Cl_act_956 rfl (?_ : WD _ _ 958 _ _ _ _ _ _)
                refine x_iconst d_Cl_act_958 (by decide) (?_ : WD _ _ 959 _ _ _ _ _ _)
                refine x_icmp_lt 974 d_Cl_act_959 rfl ⟨fun hc => (?_ : WD _ _ 974 _ _ _ _ _ _), fun hc => absurd hc (by decide)⟩
                refine x_aload_n d_Cl_act_974 rfl (?_ : WD _ _ 975 _ _ _ _ _ _)
                refine x_iload d_Cl_act_975 rfl (?_ : WD _ _ 977 _ _ _ _ _ _)
                refine x_iload d_Cl_act_977 rfl (?_ : WD _ _ 979 _ _ _ _ _ _)
                refine x_callC (ν := M_Cs_audit) (k := 0) [vI x5, vI (v275 - 1)] ok_M_Cs_audit okv_M_Cs_audit (by decide) rfl rfl rfl (qm_5 (i := 170) rfl rfl) np_M_Cs_audit rfl ⟨Nat.le_of_ble_eq_true rfl, Nat.le_of_ble_eq_true rfl⟩ (Nat.le_of_ble_eq_true rfl) rfl d_Cl_act_979 (CI.kd h (fun v277 σ278 h => (?_ : WD _ _ 982 _ _ _ _ _ _)))
                refine x_iload d_Cl_act_982 rfl (?_ : WD _ _ 984 _ _ _ _ _ _)
                refine x_icmp_ne 991 d_Cl_act_984 rfl ⟨fun c279 => (?_ : WD _ _ 991 _ _ _ _ _ _), fun c279 => (?_ : WD _ _ 987 _ _ _ _ _ _)⟩
                · replace h := h.1 c279
                  refine x_iconst d_Cl_act_991 (by decide) (?_ : WD _ _ 992 _ _ _ _ _ _)
                  exact x_zreturn rfl d_Cl_act_992 (by decide) h
                · replace h := h.2 c279
                  refine x_iconst d_Cl_act_987 (by decide) (?_ : WD _ _ 988 _ _ _ _ _ _)
                  refine x_goto 992 d_Cl_act_988 rfl ?_
                  exact x_zreturn rfl d_Cl_act_992 (by decide) h
              · replace h := h.2 a272 e273
                rw [e273]
                refine x_aloadP (some a272) d_Cl_act_797 rfl (?_ : WD _ _ 799 _ _ _ _ _ _)
                obtain ⟨k280, h⟩ := h
                refine x_getI (ref := "CoinSamplerLaw$Item") (j := 2) 2 k280 clk_13 (by decide) (qm_4 (i := 157) rfl rfl) (Or.inl rfl) rfl rfl d_Cl_act_799 (y := (wI w a272 2)) rfl (?_ : WD _ _ 802 _ _ _ _ _ _)
                refine x_iconst d_Cl_act_802 (by decide) (?_ : WD _ _ 803 _ _ _ _ _ _)
                refine x_icmp_ge 816 d_Cl_act_803 rfl ⟨fun c281 => (?_ : WD _ _ 816 _ _ _ _ _ _), fun c281 => (?_ : WD _ _ 806 _ _ _ _ _ _)⟩
                · replace h := h.1 c281
                  refine x_aload_nP (some x2) d_Cl_act_816 rfl (?_ : WD _ _ 817 _ _ _ _ _ _)
                  refine x_bipush d_Cl_act_817 (by decide) (by decide) (?_ : WD _ _ 819 _ _ _ _ _ _)
                  refine x_callS (ν := M_Cl_draw) [vA x2, vI 25] ok_M_Cl_draw oks_M_Cl_draw (qm_3 (i := 179) rfl rfl) np_M_Cl_draw rfl ⟨Nat.le_of_ble_eq_true rfl, Nat.le_of_ble_eq_true rfl⟩ (Nat.le_of_ble_eq_true rfl) rfl d_Cl_act_819 (Nat.zero_le _) (Nat.zero_le _) (DI.k h (fun v283 w282 gw282 h => (?_ : WD _ _ 822 _ _ _ _ _ _)))
                  refine x_if_ne 837 d_Cl_act_822 rfl ⟨fun c284 => (?_ : WD _ _ 837 _ _ _ _ _ _), fun c284 => (?_ : WD _ _ 825 _ _ _ _ _ _)⟩
                  · replace h := h.1 c284
                    refine x_aload_nP (some x2) d_Cl_act_837 rfl (?_ : WD _ _ 838 _ _ _ _ _ _)
                    refine x_iconst d_Cl_act_838 (by decide) (?_ : WD _ _ 839 _ _ _ _ _ _)
                    refine x_callS (ν := M_Cl_draw) [vA x2, vI 4] ok_M_Cl_draw oks_M_Cl_draw (qm_3 (i := 179) rfl rfl) np_M_Cl_draw rfl ⟨Nat.le_of_ble_eq_true rfl, Nat.le_of_ble_eq_true rfl⟩ (Nat.le_of_ble_eq_true rfl) rfl d_Cl_act_839 (Nat.zero_le _) (Nat.zero_le _) (DI.k h (fun v286 w285 gw285 h => (?_ : WD _ _ 842 _ _ _ _ _ _)))
                    refine x_if_ne 853 d_Cl_act_842 rfl ⟨fun c287 => (?_ : WD _ _ 853 _ _ _ _ _ _), fun c287 => (?_ : WD _ _ 845 _ _ _ _ _ _)⟩
                    · replace h := h.1 c287
                      refine x_aload_nP (some x2) d_Cl_act_853 rfl (?_ : WD _ _ 854 _ _ _ _ _ _)
                      refine x_iconst d_Cl_act_854 (by decide) (?_ : WD _ _ 855 _ _ _ _ _ _)
                      refine x_callS (ν := M_Cl_draw) [vA x2, vI 3] ok_M_Cl_draw oks_M_Cl_draw (qm_3 (i := 179) rfl rfl) np_M_Cl_draw rfl ⟨Nat.le_of_ble_eq_true rfl, Nat.le_of_ble_eq_true rfl⟩ (Nat.le_of_ble_eq_true rfl) rfl d_Cl_act_855 (Nat.zero_le _) (Nat.zero_le _) (DI.k h (fun v289 w288 gw288 h => (?_ : WD _ _ 858 _ _ _ _ _ _)))
                      refine x_if_ne 883 d_Cl_act_858 rfl ⟨fun c290 => (?_ : WD _ _ 883 _ _ _ _ _ _), fun c290 => (?_ : WD _ _ 861 _ _ _ _ _ _)⟩
                      · replace h := h.1 c290
                        refine x_aloadP (some a272) d_Cl_act_883 rfl (?_ : WD _ _ 885 _ _ _ _ _ _)
                        refine x_getI (ref := "CoinSamplerLaw$Item") (j := 2) 2 (((k280.q gw282.k).q gw285.k).q gw288.k) clk_13 (by decide) (qm_4 (i := 157) rfl rfl) (Or.inl rfl) rfl rfl d_Cl_act_885 (y := (wI w288 a272 2)) rfl (?_ : WD _ _ 888 _ _ _ _ _ _)
                        refine x_aload_nP (some x2) d_Cl_act_888 rfl (?_ : WD _ _ 889 _ _ _ _ _ _)
                        refine x_iconst d_Cl_act_889 (by decide) (?_ : WD _ _ 890 _ _ _ _ _ _)
                        refine x_aloadP (some a272) d_Cl_act_890 rfl (?_ : WD _ _ 892 _ _ _ _ _ _)
                        refine x_getI (ref := "CoinSamplerLaw$Item") (j := 2) 2 (((k280.q gw282.k).q gw285.k).q gw288.k) clk_13 (by decide) (qm_4 (i := 157) rfl rfl) (Or.inl rfl) rfl rfl d_Cl_act_892 (y := (wI w288 a272 2)) rfl (?_ : WD _ _ 895 _ _ _ _ _ _)
                        refine x_iconst d_Cl_act_895 (by decide) (?_ : WD _ _ 896 _ _ _ _ _ _)
                        obtain ⟨h291, h⟩ := h
                        refine x_idivn d_Cl_act_896 h291 (by decide) (?_ : WD _ _ 897 _ _ _ _ _ _)
                        obtain ⟨h292, h⟩ := h
                        refine x_iadd d_Cl_act_897 h292 (?_ : WD _ _ 898 _ _ _ _ _ _)
                        refine x_callS (ν := M_Cl_draw) [vA x2, vI (1 + ((wI w288 a272 2) / 2))] ok_M_Cl_draw oks_M_Cl_draw (qm_3 (i := 179) rfl rfl) np_M_Cl_draw rfl ⟨Nat.le_of_ble_eq_true rfl, Nat.le_of_ble_eq_true rfl⟩ (Nat.le_of_ble_eq_true rfl) rfl d_Cl_act_898 (Nat.zero_le _) (Nat.zero_le _) (DI.k h (fun v294 w293 gw293 h => (?_ : WD _ _ 901 _ _ _ _ _ _)))
                        obtain ⟨h295, h⟩ := h
                        refine x_isub d_Cl_act_901 h295 (?_ : WD _ _ 902 _ _ _ _ _ _)
                        refine x_istore (ls' := [(8, vI ((wI w288 a272 2) - v294)), (7, vA a272), (0, vR 0), (1, vA x1), (2, vA x2), (3, vI x3), (4, vI x4), (5, vI x5)]) d_Cl_act_902 (by decide) rfl (?_ : WD _ _ 904 _ _ _ _ _ _)
                        refine x_aloadP (some a272) d_Cl_act_904 rfl (?_ : WD _ _ 906 _ _ _ _ _ _)
                        refine x_ifnonnull (r := some a272) 914 d_Cl_act_906 rfl ⟨fun hz => absurd hz (by simp), fun _ _ => (?_ : WD _ _ 914 _ _ _ _ _ _)⟩
                        refine x_iload d_Cl_act_914 rfl (?_ : WD _ _ 916 _ _ _ _ _ _)
                        refine x_if_lt 931 d_Cl_act_916 rfl ⟨fun c296 => (?_ : WD _ _ 931 _ _ _ _ _ _), fun c296 => (?_ : WD _ _ 919 _ _ _ _ _ _)⟩
                        · replace h := h.1 c296
                          refine x_bipush d_Cl_act_931 (by decide) (by decide) (?_ : WD _ _ 933 _ _ _ _ _ _)
                          refine x_goto 954 d_Cl_act_933 rfl ?_
                          refine x_istore (ls' := [(6, vI (-3)), (8, vI ((wI w288 a272 2) - v294)), (7, vA a272), (0, vR 0), (1, vA x1), (2, vA x2), (3, vI x3), (4, vI x4), (5, vI x5)]) d_Cl_act_954 (by decide) rfl (?_ : WD _ _ 956 _ _ _ _ _ _)
                          refine x_iload d_Cl_act_956 rfl (?_ : WD _ _ 958 _ _ _ _ _ _)
                          refine x_iconst d_Cl_act_958 (by decide) (?_ : WD _ _ 959 _ _ _ _ _ _)
                          refine x_icmp_lt 974 d_Cl_act_959 rfl ⟨fun hc => (?_ : WD _ _ 974 _ _ _ _ _ _), fun hc => absurd hc (by decide)⟩
                          refine x_aload_n d_Cl_act_974 rfl (?_ : WD _ _ 975 _ _ _ _ _ _)
                          refine x_iload d_Cl_act_975 rfl (?_ : WD _ _ 977 _ _ _ _ _ _)
                          refine x_iload d_Cl_act_977 rfl (?_ : WD _ _ 979 _ _ _ _ _ _)
                          refine x_callC (ν := M_Cs_audit) (k := 0) [vI x5, vI ((wI w288 a272 2) - v294)] ok_M_Cs_audit okv_M_Cs_audit (by decide) rfl rfl rfl (qm_5 (i := 170) rfl rfl) np_M_Cs_audit rfl ⟨Nat.le_of_ble_eq_true rfl, Nat.le_of_ble_eq_true rfl⟩ (Nat.le_of_ble_eq_true rfl) rfl d_Cl_act_979 (CI.kd h (fun v297 σ298 h => (?_ : WD _ _ 982 _ _ _ _ _ _)))
                          refine x_iload d_Cl_act_982 rfl (?_ : WD _ _ 984 _ _ _ _ _ _)
                          refine x_icmp_ne 991 d_Cl_act_984 rfl ⟨fun c299 => (?_ : WD _ _ 991 _ _ _ _ _ _), fun c299 => (?_ : WD _ _ 987 _ _ _ _ _ _)⟩
                          · replace h := h.1 c299
                            refine x_iconst d_Cl_act_991 (by decide) (?_ : WD _ _ 992 _ _ _ _ _ _)
                            exact x_zreturn rfl d_Cl_act_992 (by decide) h
                          · replace h := h.2 c299
                            refine x_iconst d_Cl_act_987 (by decide) (?_ : WD _ _ 988 _ _ _ _ _ _)
                            refine x_goto 992 d_Cl_act_988 rfl ?_
                            exact x_zreturn rfl d_Cl_act_992 (by decide) h
                        · replace h := h.2 c296
                          refine x_iload d_Cl_act_919 rfl (?_ : WD _ _ 921 _ _ _ _ _ _)
                          refine x_iconst d_Cl_act_921 (by decide) (?_ : WD _ _ 922 _ _ _ _ _ _)
                          refine x_aloadP (some a272) d_Cl_act_922 rfl (?_ : WD _ _ 924 _ _ _ _ _ _)
                          refine x_getI (ref := "CoinSamplerLaw$Item") (j := 2) 2 ((((k280.q gw282.k).q gw285.k).q gw288.k).q gw293.k) clk_13 (by decide) (qm_4 (i := 157) rfl rfl) (Or.inl rfl) rfl rfl d_Cl_act_924 (y := (wI w293 a272 2)) rfl (?_ : WD _ _ 927 _ _ _ _ _ _)
                          obtain ⟨h300, h⟩ := h
                          refine x_imul d_Cl_act_927 h300 (?_ : WD _ _ 928 _ _ _ _ _ _)
                          refine x_icmp_le 936 d_Cl_act_928 rfl ⟨fun c301 => (?_ : WD _ _ 936 _ _ _ _ _ _), fun c301 => (?_ : WD _ _ 931 _ _ _ _ _ _)⟩
                          · replace h := h.1 c301
                            refine x_aloadP (some a272) d_Cl_act_936 rfl (?_ : WD _ _ 938 _ _ _ _ _ _)
                            refine x_getI (ref := "CoinSamplerLaw$Item") (j := 2) 2 ((((k280.q gw282.k).q gw285.k).q gw288.k).q gw293.k) clk_13 (by decide) (qm_4 (i := 157) rfl rfl) (Or.inl rfl) rfl rfl d_Cl_act_938 (y := (wI w293 a272 2)) rfl (?_ : WD _ _ 941 _ _ _ _ _ _)
                            refine x_if_ne 949 d_Cl_act_941 rfl ⟨fun c302 => (?_ : WD _ _ 949 _ _ _ _ _ _), fun c302 => (?_ : WD _ _ 944 _ _ _ _ _ _)⟩
                            · replace h := h.1 c302
                              refine x_aloadP (some a272) d_Cl_act_949 rfl (?_ : WD _ _ 951 _ _ _ _ _ _)
                              refine x_getI (ref := "CoinSamplerLaw$Item") (j := 3) 3 ((((k280.q gw282.k).q gw285.k).q gw288.k).q gw293.k) clk_13 (by decide) (qm_4 (i := 159) rfl rfl) (Or.inl rfl) rfl rfl d_Cl_act_951 (y := (wI w293 a272 3)) rfl (?_ : WD _ _ 954 _ _ _ _ _ _)
                              refine x_istore (ls' := [(6, vI (wI w293 a272 3)), (8, vI ((wI w288 a272 2) - v294)), (7, vA a272), (0, vR 0), (1, vA x1), (2, vA x2), (3, vI x3), (4, vI x4), (5, vI x5)]) d_Cl_act_954 (by decide) rfl (?_ : WD _ _ 956 _ _ _ _ _ _)
                              refine x_iload d_Cl_act_956 rfl (?_ : WD _ _ 958 _ _ _ _ _ _)
                              refine x_iconst d_Cl_act_958 (by decide) (?_ : WD _ _ 959 _ _ _ _ _ _)
                              refine x_icmp_lt 974 d_Cl_act_959 rfl ⟨fun c303 => (?_ : WD _ _ 974 _ _ _ _ _ _), fun c303 => (?_ : WD _ _ 962 _ _ _ _ _ _)⟩
                              · replace h := h.1 c303
                                refine x_aload_n d_Cl_act_974 rfl (?_ : WD _ _ 975 _ _ _ _ _ _)
                                refine x_iload d_Cl_act_975 rfl (?_ : WD _ _ 977 _ _ _ _ _ _)
                                refine x_iload d_Cl_act_977 rfl (?_ : WD _ _ 979 _ _ _ _ _ _)
                                refine x_callC (ν := M_Cs_audit) (k := 0) [vI x5, vI ((wI w288 a272 2) - v294)] ok_M_Cs_audit okv_M_Cs_audit (by decide) rfl rfl rfl (qm_5 (i := 170) rfl rfl) np_M_Cs_audit rfl ⟨Nat.le_of_ble_eq_true rfl, Nat.le_of_ble_eq_true rfl⟩ (Nat.le_of_ble_eq_true rfl) rfl d_Cl_act_979 (CI.kd h (fun v304 σ305 h => (?_ : WD _ _ 982 _ _ _ _ _ _)))
                                refine x_iload d_Cl_act_982 rfl (?_ : WD _ _ 984 _ _ _ _ _ _)
                                refine x_icmp_ne 991 d_Cl_act_984 rfl ⟨fun c306 => (?_ : WD _ _ 991 _ _ _ _ _ _), fun c306 => (?_ : WD _ _ 987 _ _ _ _ _ _)⟩
                                · replace h := h.1 c306
                                  refine x_iconst d_Cl_act_991 (by decide) (?_ : WD _ _ 992 _ _ _ _ _ _)
                                  exact x_zreturn rfl d_Cl_act_992 (by decide) h
                                · replace h := h.2 c306
                                  refine x_iconst d_Cl_act_987 (by decide) (?_ : WD _ _ 988 _ _ _ _ _ _)
                                  refine x_goto 992 d_Cl_act_988 rfl ?_
                                  exact x_zreturn rfl d_Cl_act_992 (by decide) h
                              · replace h := h.2 c303
                                refine x_aloadP (some a272) d_Cl_act_962 rfl (?_ : WD _ _ 964 _ _ _ _ _ _)
                                refine x_ifnull (r := some a272) 974 d_Cl_act_964 rfl ⟨fun hz => absurd hz (by simp), fun _ _ => (?_ : WD _ _ 967 _ _ _ _ _ _)⟩
                                refine x_aloadP (some a272) d_Cl_act_967 rfl (?_ : WD _ _ 969 _ _ _ _ _ _)
                                refine x_iload d_Cl_act_969 rfl (?_ : WD _ _ 971 _ _ _ _ _ _)
                                obtain ⟨k307, h⟩ := h
                                refine x_putI (ref := "CoinSamplerLaw$Item") (j := 3) 3 k307 clk_13 (by decide) (qm_4 (i := 159) rfl rfl) (Or.inl rfl) (Or.inl rfl) tyX13_ok rfl nmX13 d_Cl_act_971 rfl rfl (fun _ => rfl) rfl (?_ : WD _ _ 974 _ _ _ _ _ _)
                                refine x_aload_n d_Cl_act_974 rfl (?_ : WD _ _ 975 _ _ _ _ _ _)
                                refine x_iload d_Cl_act_975 rfl (?_ : WD _ _ 977 _ _ _ _ _ _)
                                refine x_iload d_Cl_act_977 rfl (?_ : WD _ _ 979 _ _ _ _ _ _)
                                refine x_callC (ν := M_Cs_audit) (k := 0) [vI x5, vI ((wI w288 a272 2) - v294)] ok_M_Cs_audit okv_M_Cs_audit (by decide) rfl rfl rfl (qm_5 (i := 170) rfl rfl) np_M_Cs_audit rfl ⟨Nat.le_of_ble_eq_true rfl, Nat.le_of_ble_eq_true rfl⟩ (Nat.le_of_ble_eq_true rfl) rfl d_Cl_act_979 (CI.kd h (fun v308 σ309 h => (?_ : WD _ _ 982 _ _ _ _ _ _)))
                                refine x_iload d_Cl_act_982 rfl (?_ : WD _ _ 984 _ _ _ _ _ _)
                                refine x_icmp_ne 991 d_Cl_act_984 rfl ⟨fun c310 => (?_ : WD _ _ 991 _ _ _ _ _ _), fun c310 => (?_ : WD _ _ 987 _ _ _ _ _ _)⟩
                                · replace h := h.1 c310
                                  refine x_iconst d_Cl_act_991 (by decide) (?_ : WD _ _ 992 _ _ _ _ _ _)
                                  exact x_zreturn rfl d_Cl_act_992 (by decide) h
                                · replace h := h.2 c310
                                  refine x_iconst d_Cl_act_987 (by decide) (?_ : WD _ _ 988 _ _ _ _ _ _)
                                  refine x_goto 992 d_Cl_act_988 rfl ?_
                                  exact x_zreturn rfl d_Cl_act_992 (by decide) h
                            · replace h := h.2 c302
                              refine x_bipush d_Cl_act_944 (by decide) (by decide) (?_ : WD _ _ 946 _ _ _ _ _ _)
                              refine x_goto 954 d_Cl_act_946 rfl ?_
                              refine x_istore (ls' := [(6, vI (-5)), (8, vI ((wI w288 a272 2) - v294)), (7, vA a272), (0, vR 0), (1, vA x1), (2, vA x2), (3, vI x3), (4, vI x4), (5, vI x5)]) d_Cl_act_954 (by decide) rfl (?_ : WD _ _ 956 _ _ _ _ _ _)
                              refine x_iload d_Cl_act_956 rfl (?_ : WD _ _ 958 _ _ _ _ _ _)
                              refine x_iconst d_Cl_act_958 (by decide) (?_ : WD _ _ 959 _ _ _ _ _ _)
                              refine x_icmp_lt 974 d_Cl_act_959 rfl ⟨fun hc => (?_ : WD _ _ 974 _ _ _ _ _ _), fun hc => absurd hc (by decide)⟩
                              refine x_aload_n d_Cl_act_974 rfl (?_ : WD _ _ 975 _ _ _ _ _ _)
                              refine x_iload d_Cl_act_975 rfl (?_ : WD _ _ 977 _ _ _ _ _ _)
                              refine x_iload d_Cl_act_977 rfl (?_ : WD _ _ 979 _ _ _ _ _ _)
                              refine x_callC (ν := M_Cs_audit) (k := 0) [vI x5, vI ((wI w288 a272 2) - v294)] ok_M_Cs_audit okv_M_Cs_audit (by decide) rfl rfl rfl (qm_5 (i := 170) rfl rfl) np_M_Cs_audit rfl ⟨Nat.le_of_ble_eq_true rfl, Nat.le_of_ble_eq_true rfl⟩ (Nat.le_of_ble_eq_true rfl) rfl d_Cl_act_979 (CI.kd h (fun v311 σ312 h => (?_ : WD _ _ 982 _ _ _ _ _ _)))
                              refine x_iload d_Cl_act_982 rfl (?_ : WD _ _ 984 _ _ _ _ _ _)
                              refine x_icmp_ne 991 d_Cl_act_984 rfl ⟨fun c313 => (?_ : WD _ _ 991 _ _ _ _ _ _), fun c313 => (?_ : WD _ _ 987 _ _ _ _ _ _)⟩
                              · replace h := h.1 c313
                                refine x_iconst d_Cl_act_991 (by decide) (?_ : WD _ _ 992 _ _ _ _ _ _)
                                exact x_zreturn rfl d_Cl_act_992 (by decide) h
                              · replace h := h.2 c313
                                refine x_iconst d_Cl_act_987 (by decide) (?_ : WD _ _ 988 _ _ _ _ _ _)
                                refine x_goto 992 d_Cl_act_988 rfl ?_
                                exact x_zreturn rfl d_Cl_act_992 (by decide) h
                          · replace h := h.2 c301
                            refine x_bipush d_Cl_act_931 (by decide) (by decide) (?_ : WD _ _ 933 _ _ _ _ _ _)
                            refine x_goto 954 d_Cl_act_933 rfl ?_
                            refine x_istore (ls' := [(6, vI (-3)), (8, vI ((wI w288 a272 2) - v294)), (7, vA a272), (0, vR 0), (1, vA x1), (2, vA x2), (3, vI x3), (4, vI x4), (5, vI x5)]) d_Cl_act_954 (by decide) rfl (?_ : WD _ _ 956 _ _ _ _ _ _)
                            refine x_iload d_Cl_act_956 rfl (?_ : WD _ _ 958 _ _ _ _ _ _)
                            refine x_iconst d_Cl_act_958 (by decide) (?_ : WD _ _ 959 _ _ _ _ _ _)
                            refine x_icmp_lt 974 d_Cl_act_959 rfl ⟨fun hc => (?_ : WD _ _ 974 _ _ _ _ _ _), fun hc => absurd hc (by decide)⟩
                            refine x_aload_n d_Cl_act_974 rfl (?_ : WD _ _ 975 _ _ _ _ _ _)
                            refine x_iload d_Cl_act_975 rfl (?_ : WD _ _ 977 _ _ _ _ _ _)
                            refine x_iload d_Cl_act_977 rfl (?_ : WD _ _ 979 _ _ _ _ _ _)
                            refine x_callC (ν := M_Cs_audit) (k := 0) [vI x5, vI ((wI w288 a272 2) - v294)] ok_M_Cs_audit okv_M_Cs_audit (by decide) rfl rfl rfl (qm_5 (i := 170) rfl rfl) np_M_Cs_audit rfl ⟨Nat.le_of_ble_eq_true rfl, Nat.le_of_ble_eq_true rfl⟩ (Nat.le_of_ble_eq_true rfl) rfl d_Cl_act_979 (CI.kd h (fun v314 σ315 h => (?_ : WD _ _ 982 _ _ _ _ _ _)))
                            refine x_iload d_Cl_act_982 rfl (?_ : WD _ _ 984 _ _ _ _ _ _)
                            refine x_icmp_ne 991 d_Cl_act_984 rfl ⟨fun c316 => (?_ : WD _ _ 991 _ _ _ _ _ _), fun c316 => (?_ : WD _ _ 987 _ _ _ _ _ _)⟩
                            · replace h := h.1 c316
                              refine x_iconst d_Cl_act_991 (by decide) (?_ : WD _ _ 992 _ _ _ _ _ _)
                              exact x_zreturn rfl d_Cl_act_992 (by decide) h
                            · replace h := h.2 c316
                              refine x_iconst d_Cl_act_987 (by decide) (?_ : WD _ _ 988 _ _ _ _ _ _)
                              refine x_goto 992 d_Cl_act_988 rfl ?_
                              exact x_zreturn rfl d_Cl_act_992 (by decide) h
                      · replace h := h.2 c290
                        refine x_aloadP (some a272) d_Cl_act_861 rfl (?_ : WD _ _ 863 _ _ _ _ _ _)
                        refine x_getI (ref := "CoinSamplerLaw$Item") (j := 2) 2 (((k280.q gw282.k).q gw285.k).q gw288.k) clk_13 (by decide) (qm_4 (i := 157) rfl rfl) (Or.inl rfl) rfl rfl d_Cl_act_863 (y := (wI w288 a272 2)) rfl (?_ : WD _ _ 866 _ _ _ _ _ _)
                        refine x_aload_nP (some x2) d_Cl_act_866 rfl (?_ : WD _ _ 867 _ _ _ _ _ _)
                        refine x_iconst d_Cl_act_867 (by decide) (?_ : WD _ _ 868 _ _ _ _ _ _)
                        refine x_aloadP (some a272) d_Cl_act_868 rfl (?_ : WD _ _ 870 _ _ _ _ _ _)
                        refine x_getI (ref := "CoinSamplerLaw$Item") (j := 2) 2 (((k280.q gw282.k).q gw285.k).q gw288.k) clk_13 (by decide) (qm_4 (i := 157) rfl rfl) (Or.inl rfl) rfl rfl d_Cl_act_870 (y := (wI w288 a272 2)) rfl (?_ : WD _ _ 873 _ _ _ _ _ _)
                        refine x_iconst d_Cl_act_873 (by decide) (?_ : WD _ _ 874 _ _ _ _ _ _)
                        obtain ⟨h317, h⟩ := h
                        refine x_idivn d_Cl_act_874 h317 (by decide) (?_ : WD _ _ 875 _ _ _ _ _ _)
                        obtain ⟨h318, h⟩ := h
                        refine x_iadd d_Cl_act_875 h318 (?_ : WD _ _ 876 _ _ _ _ _ _)
                        refine x_callS (ν := M_Cl_draw) [vA x2, vI (1 + ((wI w288 a272 2) / 3))] ok_M_Cl_draw oks_M_Cl_draw (qm_3 (i := 179) rfl rfl) np_M_Cl_draw rfl ⟨Nat.le_of_ble_eq_true rfl, Nat.le_of_ble_eq_true rfl⟩ (Nat.le_of_ble_eq_true rfl) rfl d_Cl_act_876 (Nat.zero_le _) (Nat.zero_le _) (DI.k h (fun v320 w319 gw319 h => (?_ : WD _ _ 879 _ _ _ _ _ _)))
                        obtain ⟨h321, h⟩ := h
                        refine x_iadd d_Cl_act_879 h321 (?_ : WD _ _ 880 _ _ _ _ _ _)
                        refine x_goto 902 d_Cl_act_880 rfl ?_
                        refine x_istore (ls' := [(8, vI ((wI w288 a272 2) + v320)), (7, vA a272), (0, vR 0), (1, vA x1), (2, vA x2), (3, vI x3), (4, vI x4), (5, vI x5)]) d_Cl_act_902 (by decide) rfl (?_ : WD _ _ 904 _ _ _ _ _ _)
                        refine x_aloadP (some a272) d_Cl_act_904 rfl (?_ : WD _ _ 906 _ _ _ _ _ _)
                        refine x_ifnonnull (r := some a272) 914 d_Cl_act_906 rfl ⟨fun hz => absurd hz (by simp), fun _ _ => (?_ : WD _ _ 914 _ _ _ _ _ _)⟩
                        refine x_iload d_Cl_act_914 rfl (?_ : WD _ _ 916 _ _ _ _ _ _)
                        refine x_if_lt 931 d_Cl_act_916 rfl ⟨fun c322 => (?_ : WD _ _ 931 _ _ _ _ _ _), fun c322 => (?_ : WD _ _ 919 _ _ _ _ _ _)⟩
                        · replace h := h.1 c322
                          refine x_bipush d_Cl_act_931 (by decide) (by decide) (?_ : WD _ _ 933 _ _ _ _ _ _)
                          refine x_goto 954 d_Cl_act_933 rfl ?_
                          refine x_istore (ls' := [(6, vI (-3)), (8, vI ((wI w288 a272 2) + v320)), (7, vA a272), (0, vR 0), (1, vA x1), (2, vA x2), (3, vI x3), (4, vI x4), (5, vI x5)]) d_Cl_act_954 (by decide) rfl (?_ : WD _ _ 956 _ _ _ _ _ _)
                          refine x_iload d_Cl_act_956 rfl (?_ : WD _ _ 958 _ _ _ _ _ _)
                          refine x_iconst d_Cl_act_958 (by decide) (?_ : WD _ _ 959 _ _ _ _ _ _)
                          refine x_icmp_lt 974 d_Cl_act_959 rfl ⟨fun hc => (?_ : WD _ _ 974 _ _ _ _ _ _), fun hc => absurd hc (by decide)⟩
                          refine x_aload_n d_Cl_act_974 rfl (?_ : WD _ _ 975 _ _ _ _ _ _)
                          refine x_iload d_Cl_act_975 rfl (?_ : WD _ _ 977 _ _ _ _ _ _)
                          refine x_iload d_Cl_act_977 rfl (?_ : WD _ _ 979 _ _ _ _ _ _)
                          refine x_callC (ν := M_Cs_audit) (k := 0) [vI x5, vI ((wI w288 a272 2) + v320)] ok_M_Cs_audit okv_M_Cs_audit (by decide) rfl rfl rfl (qm_5 (i := 170) rfl rfl) np_M_Cs_audit rfl ⟨Nat.le_of_ble_eq_true rfl, Nat.le_of_ble_eq_true rfl⟩ (Nat.le_of_ble_eq_true rfl) rfl d_Cl_act_979 (CI.kd h (fun v323 σ324 h => (?_ : WD _ _ 982 _ _ _ _ _ _)))
                          refine x_iload d_Cl_act_982 rfl (?_ : WD _ _ 984 _ _ _ _ _ _)
                          refine x_icmp_ne 991 d_Cl_act_984 rfl ⟨fun c325 => (?_ : WD _ _ 991 _ _ _ _ _ _), fun c325 => (?_ : WD _ _ 987 _ _ _ _ _ _)⟩
                          · replace h := h.1 c325
                            refine x_iconst d_Cl_act_991 (by decide) (?_ : WD _ _ 992 _ _ _ _ _ _)
                            exact x_zreturn rfl d_Cl_act_992 (by decide) h
                          · replace h := h.2 c325
                            refine x_iconst d_Cl_act_987 (by decide) (?_ : WD _ _ 988 _ _ _ _ _ _)
                            refine x_goto 992 d_Cl_act_988 rfl ?_
                            exact x_zreturn rfl d_Cl_act_992 (by decide) h
                        · replace h := h.2 c322
                          refine x_iload d_Cl_act_919 rfl (?_ : WD _ _ 921 _ _ _ _ _ _)
                          refine x_iconst d_Cl_act_921 (by decide) (?_ : WD _ _ 922 _ _ _ _ _ _)
                          refine x_aloadP (some a272) d_Cl_act_922 rfl (?_ : WD _ _ 924 _ _ _ _ _ _)
                          refine x_getI (ref := "CoinSamplerLaw$Item") (j := 2) 2 ((((k280.q gw282.k).q gw285.k).q gw288.k).q gw319.k) clk_13 (by decide) (qm_4 (i := 157) rfl rfl) (Or.inl rfl) rfl rfl d_Cl_act_924 (y := (wI w319 a272 2)) rfl (?_ : WD _ _ 927 _ _ _ _ _ _)
                          obtain ⟨h326, h⟩ := h
                          refine x_imul d_Cl_act_927 h326 (?_ : WD _ _ 928 _ _ _ _ _ _)
                          refine x_icmp_le 936 d_Cl_act_928 rfl ⟨fun c327 => (?_ : WD _ _ 936 _ _ _ _ _ _), fun c327 => (?_ : WD _ _ 931 _ _ _ _ _ _)⟩
                          · replace h := h.1 c327
                            refine x_aloadP (some a272) d_Cl_act_936 rfl (?_ : WD _ _ 938 _ _ _ _ _ _)
                            refine x_getI (ref := "CoinSamplerLaw$Item") (j := 2) 2 ((((k280.q gw282.k).q gw285.k).q gw288.k).q gw319.k) clk_13 (by decide) (qm_4 (i := 157) rfl rfl) (Or.inl rfl) rfl rfl d_Cl_act_938 (y := (wI w319 a272 2)) rfl (?_ : WD _ _ 941 _ _ _ _ _ _)
                            refine x_if_ne 949 d_Cl_act_941 rfl ⟨fun c328 => (?_ : WD _ _ 949 _ _ _ _ _ _), fun c328 => (?_ : WD _ _ 944 _ _ _ _ _ _)⟩
                            · replace h := h.1 c328
                              refine x_aloadP (some a272) d_Cl_act_949 rfl (?_ : WD _ _ 951 _ _ _ _ _ _)
                              refine x_getI (ref := "CoinSamplerLaw$Item") (j := 3) 3 ((((k280.q gw282.k).q gw285.k).q gw288.k).q gw319.k) clk_13 (by decide) (qm_4 (i := 159) rfl rfl) (Or.inl rfl) rfl rfl d_Cl_act_951 (y := (wI w319 a272 3)) rfl (?_ : WD _ _ 954 _ _ _ _ _ _)
                              refine x_istore (ls' := [(6, vI (wI w319 a272 3)), (8, vI ((wI w288 a272 2) + v320)), (7, vA a272), (0, vR 0), (1, vA x1), (2, vA x2), (3, vI x3), (4, vI x4), (5, vI x5)]) d_Cl_act_954 (by decide) rfl (?_ : WD _ _ 956 _ _ _ _ _ _)
                              refine x_iload d_Cl_act_956 rfl (?_ : WD _ _ 958 _ _ _ _ _ _)
                              refine x_iconst d_Cl_act_958 (by decide) (?_ : WD _ _ 959 _ _ _ _ _ _)
                              refine x_icmp_lt 974 d_Cl_act_959 rfl ⟨fun c329 => (?_ : WD _ _ 974 _ _ _ _ _ _), fun c329 => (?_ : WD _ _ 962 _ _ _ _ _ _)⟩
                              · replace h := h.1 c329
                                refine x_aload_n d_Cl_act_974 rfl (?_ : WD _ _ 975 _ _ _ _ _ _)
                                refine x_iload d_Cl_act_975 rfl (?_ : WD _ _ 977 _ _ _ _ _ _)
                                refine x_iload d_Cl_act_977 rfl (?_ : WD _ _ 979 _ _ _ _ _ _)
                                refine x_callC (ν := M_Cs_audit) (k := 0) [vI x5, vI ((wI w288 a272 2) + v320)] ok_M_Cs_audit okv_M_Cs_audit (by decide) rfl rfl rfl (qm_5 (i := 170) rfl rfl) np_M_Cs_audit rfl ⟨Nat.le_of_ble_eq_true rfl, Nat.le_of_ble_eq_true rfl⟩ (Nat.le_of_ble_eq_true rfl) rfl d_Cl_act_979 (CI.kd h (fun v330 σ331 h => (?_ : WD _ _ 982 _ _ _ _ _ _)))
                                refine x_iload d_Cl_act_982 rfl (?_ : WD _ _ 984 _ _ _ _ _ _)
                                refine x_icmp_ne 991 d_Cl_act_984 rfl ⟨fun c332 => (?_ : WD _ _ 991 _ _ _ _ _ _), fun c332 => (?_ : WD _ _ 987 _ _ _ _ _ _)⟩
                                · replace h := h.1 c332
                                  refine x_iconst d_Cl_act_991 (by decide) (?_ : WD _ _ 992 _ _ _ _ _ _)
                                  exact x_zreturn rfl d_Cl_act_992 (by decide) h
                                · replace h := h.2 c332
                                  refine x_iconst d_Cl_act_987 (by decide) (?_ : WD _ _ 988 _ _ _ _ _ _)
                                  refine x_goto 992 d_Cl_act_988 rfl ?_
                                  exact x_zreturn rfl d_Cl_act_992 (by decide) h
                              · replace h := h.2 c329
                                refine x_aloadP (some a272) d_Cl_act_962 rfl (?_ : WD _ _ 964 _ _ _ _ _ _)
                                refine x_ifnull (r := some a272) 974 d_Cl_act_964 rfl ⟨fun hz => absurd hz (by simp), fun _ _ => (?_ : WD _ _ 967 _ _ _ _ _ _)⟩
                                refine x_aloadP (some a272) d_Cl_act_967 rfl (?_ : WD _ _ 969 _ _ _ _ _ _)
                                refine x_iload d_Cl_act_969 rfl (?_ : WD _ _ 971 _ _ _ _ _ _)
                                obtain ⟨k333, h⟩ := h
                                refine x_putI (ref := "CoinSamplerLaw$Item") (j := 3) 3 k333 clk_13 (by decide) (qm_4 (i := 159) rfl rfl) (Or.inl rfl) (Or.inl rfl) tyX13_ok rfl nmX13 d_Cl_act_971 rfl rfl (fun _ => rfl) rfl (?_ : WD _ _ 974 _ _ _ _ _ _)
                                refine x_aload_n d_Cl_act_974 rfl (?_ : WD _ _ 975 _ _ _ _ _ _)
                                refine x_iload d_Cl_act_975 rfl (?_ : WD _ _ 977 _ _ _ _ _ _)
                                refine x_iload d_Cl_act_977 rfl (?_ : WD _ _ 979 _ _ _ _ _ _)
                                refine x_callC (ν := M_Cs_audit) (k := 0) [vI x5, vI ((wI w288 a272 2) + v320)] ok_M_Cs_audit okv_M_Cs_audit (by decide) rfl rfl rfl (qm_5 (i := 170) rfl rfl) np_M_Cs_audit rfl ⟨Nat.le_of_ble_eq_true rfl, Nat.le_of_ble_eq_true rfl⟩ (Nat.le_of_ble_eq_true rfl) rfl d_Cl_act_979 (CI.kd h (fun v334 σ335 h => (?_ : WD _ _ 982 _ _ _ _ _ _)))
                                refine x_iload d_Cl_act_982 rfl (?_ : WD _ _ 984 _ _ _ _ _ _)
                                refine x_icmp_ne 991 d_Cl_act_984 rfl ⟨fun c336 => (?_ : WD _ _ 991 _ _ _ _ _ _), fun c336 => (?_ : WD _ _ 987 _ _ _ _ _ _)⟩
                                · replace h := h.1 c336
                                  refine x_iconst d_Cl_act_991 (by decide) (?_ : WD _ _ 992 _ _ _ _ _ _)
                                  exact x_zreturn rfl d_Cl_act_992 (by decide) h
                                · replace h := h.2 c336
                                  refine x_iconst d_Cl_act_987 (by decide) (?_ : WD _ _ 988 _ _ _ _ _ _)
                                  refine x_goto 992 d_Cl_act_988 rfl ?_
                                  exact x_zreturn rfl d_Cl_act_992 (by decide) h
                            · replace h := h.2 c328
                              refine x_bipush d_Cl_act_944 (by decide) (by decide) (?_ : WD _ _ 946 _ _ _ _ _ _)
                              refine x_goto 954 d_Cl_act_946 rfl ?_
                              refine x_istore (ls' := [(6, vI (-5)), (8, vI ((wI w288 a272 2) + v320)), (7, vA a272), (0, vR 0), (1, vA x1), (2, vA x2), (3, vI x3), (4, vI x4), (5, vI x5)]) d_Cl_act_954 (by decide) rfl (?_ : WD _ _ 956 _ _ _ _ _ _)
                              refine x_iload d_Cl_act_956 rfl (?_ : WD _ _ 958 _ _ _ _ _ _)
                              refine x_iconst d_Cl_act_958 (by decide) (?_ : WD _ _ 959 _ _ _ _ _ _)
                              refine x_icmp_lt 974 d_Cl_act_959 rfl ⟨fun hc => (?_ : WD _ _ 974 _ _ _ _ _ _), fun hc => absurd hc (by decide)⟩
                              refine x_aload_n d_Cl_act_974 rfl (?_ : WD _ _ 975 _ _ _ _ _ _)
                              refine x_iload d_Cl_act_975 rfl (?_ : WD _ _ 977 _ _ _ _ _ _)
                              refine x_iload d_Cl_act_977 rfl (?_ : WD _ _ 979 _ _ _ _ _ _)
                              refine x_callC (ν := M_Cs_audit) (k := 0) [vI x5, vI ((wI w288 a272 2) + v320)] ok_M_Cs_audit okv_M_Cs_audit (by decide) rfl rfl rfl (qm_5 (i := 170) rfl rfl) np_M_Cs_audit rfl ⟨Nat.le_of_ble_eq_true rfl, Nat.le_of_ble_eq_true rfl⟩ (Nat.le_of_ble_eq_true rfl) rfl d_Cl_act_979 (CI.kd h (fun v337 σ338 h => (?_ : WD _ _ 982 _ _ _ _ _ _)))
                              refine x_iload d_Cl_act_982 rfl (?_ : WD _ _ 984 _ _ _ _ _ _)
                              refine x_icmp_ne 991 d_Cl_act_984 rfl ⟨fun c339 => (?_ : WD _ _ 991 _ _ _ _ _ _), fun c339 => (?_ : WD _ _ 987 _ _ _ _ _ _)⟩
                              · replace h := h.1 c339
                                refine x_iconst d_Cl_act_991 (by decide) (?_ : WD _ _ 992 _ _ _ _ _ _)
                                exact x_zreturn rfl d_Cl_act_992 (by decide) h
                              · replace h := h.2 c339
                                refine x_iconst d_Cl_act_987 (by decide) (?_ : WD _ _ 988 _ _ _ _ _ _)
                                refine x_goto 992 d_Cl_act_988 rfl ?_
                                exact x_zreturn rfl d_Cl_act_992 (by decide) h
                          · replace h := h.2 c327
                            refine x_bipush d_Cl_act_931 (by decide) (by decide) (?_ : WD _ _ 933 _ _ _ _ _ _)
                            refine x_goto 954 d_Cl_act_933 rfl ?_
                            refine x_istore (ls' := [(6, vI (-3)), (8, vI ((wI w288 a272 2) + v320)), (7, vA a272), (0, vR 0), (1, vA x1), (2, vA x2), (3, vI x3), (4, vI x4), (5, vI x5)]) d_Cl_act_954 (by decide) rfl (?_ : WD _ _ 956 _ _ _ _ _ _)
                            refine x_iload d_Cl_act_956 rfl (?_ : WD _ _ 958 _ _ _ _ _ _)
                            refine x_iconst d_Cl_act_958 (by decide) (?_ : WD _ _ 959 _ _ _ _ _ _)
                            refine x_icmp_lt 974 d_Cl_act_959 rfl ⟨fun hc => (?_ : WD _ _ 974 _ _ _ _ _ _), fun hc => absurd hc (by decide)⟩
                            refine x_aload_n d_Cl_act_974 rfl (?_ : WD _ _ 975 _ _ _ _ _ _)
                            refine x_iload d_Cl_act_975 rfl (?_ : WD _ _ 977 _ _ _ _ _ _)
                            refine x_iload d_Cl_act_977 rfl (?_ : WD _ _ 979 _ _ _ _ _ _)
                            refine x_callC (ν := M_Cs_audit) (k := 0) [vI x5, vI ((wI w288 a272 2) + v320)] ok_M_Cs_audit okv_M_Cs_audit (by decide) rfl rfl rfl (qm_5 (i := 170) rfl rfl) np_M_Cs_audit rfl ⟨Nat.le_of_ble_eq_true rfl, Nat.le_of_ble_eq_true rfl⟩ (Nat.le_of_ble_eq_true rfl) rfl d_Cl_act_979 (CI.kd h (fun v340 σ341 h => (?_ : WD _ _ 982 _ _ _ _ _ _)))
                            refine x_iload d_Cl_act_982 rfl (?_ : WD _ _ 984 _ _ _ _ _ _)
                            refine x_icmp_ne 991 d_Cl_act_984 rfl ⟨fun c342 => (?_ : WD _ _ 991 _ _ _ _ _ _), fun c342 => (?_ : WD _ _ 987 _ _ _ _ _ _)⟩
                            · replace h := h.1 c342
                              refine x_iconst d_Cl_act_991 (by decide) (?_ : WD _ _ 992 _ _ _ _ _ _)
                              exact x_zreturn rfl d_Cl_act_992 (by decide) h
                            · replace h := h.2 c342
                              refine x_iconst d_Cl_act_987 (by decide) (?_ : WD _ _ 988 _ _ _ _ _ _)
                              refine x_goto 992 d_Cl_act_988 rfl ?_
                              exact x_zreturn rfl d_Cl_act_992 (by decide) h
                    · replace h := h.2 c287
                      refine x_aloadP (some a272) d_Cl_act_845 rfl (?_ : WD _ _ 847 _ _ _ _ _ _)
                      refine x_getI (ref := "CoinSamplerLaw$Item") (j := 2) 2 ((k280.q gw282.k).q gw285.k) clk_13 (by decide) (qm_4 (i := 157) rfl rfl) (Or.inl rfl) rfl rfl d_Cl_act_847 (y := (wI w285 a272 2)) rfl (?_ : WD _ _ 850 _ _ _ _ _ _)
                      refine x_goto 902 d_Cl_act_850 rfl ?_
                      refine x_istore (ls' := [(8, vI (wI w285 a272 2)), (7, vA a272), (0, vR 0), (1, vA x1), (2, vA x2), (3, vI x3), (4, vI x4), (5, vI x5)]) d_Cl_act_902 (by decide) rfl (?_ : WD _ _ 904 _ _ _ _ _ _)
                      refine x_aloadP (some a272) d_Cl_act_904 rfl (?_ : WD _ _ 906 _ _ _ _ _ _)
                      refine x_ifnonnull (r := some a272) 914 d_Cl_act_906 rfl ⟨fun hz => absurd hz (by simp), fun _ _ => (?_ : WD _ _ 914 _ _ _ _ _ _)⟩
                      refine x_iload d_Cl_act_914 rfl (?_ : WD _ _ 916 _ _ _ _ _ _)
                      refine x_if_lt 931 d_Cl_act_916 rfl ⟨fun c343 => (?_ : WD _ _ 931 _ _ _ _ _ _), fun c343 => (?_ : WD _ _ 919 _ _ _ _ _ _)⟩
                      · replace h := h.1 c343
                        refine x_bipush d_Cl_act_931 (by decide) (by decide) (?_ : WD _ _ 933 _ _ _ _ _ _)
                        refine x_goto 954 d_Cl_act_933 rfl ?_
                        refine x_istore (ls' := [(6, vI (-3)), (8, vI (wI w285 a272 2)), (7, vA a272), (0, vR 0), (1, vA x1), (2, vA x2), (3, vI x3), (4, vI x4), (5, vI x5)]) d_Cl_act_954 (by decide) rfl (?_ : WD _ _ 956 _ _ _ _ _ _)
                        refine x_iload d_Cl_act_956 rfl (?_ : WD _ _ 958 _ _ _ _ _ _)
                        refine x_iconst d_Cl_act_958 (by decide) (?_ : WD _ _ 959 _ _ _ _ _ _)
                        refine x_icmp_lt 974 d_Cl_act_959 rfl ⟨fun hc => (?_ : WD _ _ 974 _ _ _ _ _ _), fun hc => absurd hc (by decide)⟩
                        refine x_aload_n d_Cl_act_974 rfl (?_ : WD _ _ 975 _ _ _ _ _ _)
                        refine x_iload d_Cl_act_975 rfl (?_ : WD _ _ 977 _ _ _ _ _ _)
                        refine x_iload d_Cl_act_977 rfl (?_ : WD _ _ 979 _ _ _ _ _ _)
                        refine x_callC (ν := M_Cs_audit) (k := 0) [vI x5, vI (wI w285 a272 2)] ok_M_Cs_audit okv_M_Cs_audit (by decide) rfl rfl rfl (qm_5 (i := 170) rfl rfl) np_M_Cs_audit rfl ⟨Nat.le_of_ble_eq_true rfl, Nat.le_of_ble_eq_true rfl⟩ (Nat.le_of_ble_eq_true rfl) rfl d_Cl_act_979 (CI.kd h (fun v344 σ345 h => (?_ : WD _ _ 982 _ _ _ _ _ _)))
                        refine x_iload d_Cl_act_982 rfl (?_ : WD _ _ 984 _ _ _ _ _ _)
                        refine x_icmp_ne 991 d_Cl_act_984 rfl ⟨fun c346 => (?_ : WD _ _ 991 _ _ _ _ _ _), fun c346 => (?_ : WD _ _ 987 _ _ _ _ _ _)⟩
                        · replace h := h.1 c346
                          refine x_iconst d_Cl_act_991 (by decide) (?_ : WD _ _ 992 _ _ _ _ _ _)
                          exact x_zreturn rfl d_Cl_act_992 (by decide) h
                        · replace h := h.2 c346
                          refine x_iconst d_Cl_act_987 (by decide) (?_ : WD _ _ 988 _ _ _ _ _ _)
                          refine x_goto 992 d_Cl_act_988 rfl ?_
                          exact x_zreturn rfl d_Cl_act_992 (by decide) h
                      · replace h := h.2 c343
                        refine x_iload d_Cl_act_919 rfl (?_ : WD _ _ 921 _ _ _ _ _ _)
                        refine x_iconst d_Cl_act_921 (by decide) (?_ : WD _ _ 922 _ _ _ _ _ _)
                        refine x_aloadP (some a272) d_Cl_act_922 rfl (?_ : WD _ _ 924 _ _ _ _ _ _)
                        refine x_getI (ref := "CoinSamplerLaw$Item") (j := 2) 2 ((k280.q gw282.k).q gw285.k) clk_13 (by decide) (qm_4 (i := 157) rfl rfl) (Or.inl rfl) rfl rfl d_Cl_act_924 (y := (wI w285 a272 2)) rfl (?_ : WD _ _ 927 _ _ _ _ _ _)
                        obtain ⟨h347, h⟩ := h
                        refine x_imul d_Cl_act_927 h347 (?_ : WD _ _ 928 _ _ _ _ _ _)
                        refine x_icmp_le 936 d_Cl_act_928 rfl ⟨fun c348 => (?_ : WD _ _ 936 _ _ _ _ _ _), fun c348 => (?_ : WD _ _ 931 _ _ _ _ _ _)⟩
                        · replace h := h.1 c348
                          refine x_aloadP (some a272) d_Cl_act_936 rfl (?_ : WD _ _ 938 _ _ _ _ _ _)
                          refine x_getI (ref := "CoinSamplerLaw$Item") (j := 2) 2 ((k280.q gw282.k).q gw285.k) clk_13 (by decide) (qm_4 (i := 157) rfl rfl) (Or.inl rfl) rfl rfl d_Cl_act_938 (y := (wI w285 a272 2)) rfl (?_ : WD _ _ 941 _ _ _ _ _ _)
                          refine x_if_ne 949 d_Cl_act_941 rfl ⟨fun c349 => (?_ : WD _ _ 949 _ _ _ _ _ _), fun c349 => (?_ : WD _ _ 944 _ _ _ _ _ _)⟩
                          · replace h := h.1 c349
                            refine x_aloadP (some a272) d_Cl_act_949 rfl (?_ : WD _ _ 951 _ _ _ _ _ _)
                            refine x_getI (ref := "CoinSamplerLaw$Item") (j := 3) 3 ((k280.q gw282.k).q gw285.k) clk_13 (by decide) (qm_4 (i := 159) rfl rfl) (Or.inl rfl) rfl rfl d_Cl_act_951 (y := (wI w285 a272 3)) rfl (?_ : WD _ _ 954 _ _ _ _ _ _)
                            refine x_istore (ls' := [(6, vI (wI w285 a272 3)), (8, vI (wI w285 a272 2)), (7, vA a272), (0, vR 0), (1, vA x1), (2, vA x2), (3, vI x3), (4, vI x4), (5, vI x5)]) d_Cl_act_954 (by decide) rfl (?_ : WD _ _ 956 _ _ _ _ _ _)
                            refine x_iload d_Cl_act_956 rfl (?_ : WD _ _ 958 _ _ _ _ _ _)
                            refine x_iconst d_Cl_act_958 (by decide) (?_ : WD _ _ 959 _ _ _ _ _ _)
                            refine x_icmp_lt 974 d_Cl_act_959 rfl ⟨fun c350 => (?_ : WD _ _ 974 _ _ _ _ _ _), fun c350 => (?_ : WD _ _ 962 _ _ _ _ _ _)⟩
                            · replace h := h.1 c350
                              refine x_aload_n d_Cl_act_974 rfl (?_ : WD _ _ 975 _ _ _ _ _ _)
                              refine x_iload d_Cl_act_975 rfl (?_ : WD _ _ 977 _ _ _ _ _ _)
                              refine x_iload d_Cl_act_977 rfl (?_ : WD _ _ 979 _ _ _ _ _ _)
                              refine x_callC (ν := M_Cs_audit) (k := 0) [vI x5, vI (wI w285 a272 2)] ok_M_Cs_audit okv_M_Cs_audit (by decide) rfl rfl rfl (qm_5 (i := 170) rfl rfl) np_M_Cs_audit rfl ⟨Nat.le_of_ble_eq_true rfl, Nat.le_of_ble_eq_true rfl⟩ (Nat.le_of_ble_eq_true rfl) rfl d_Cl_act_979 (CI.kd h (fun v351 σ352 h => (?_ : WD _ _ 982 _ _ _ _ _ _)))
                              refine x_iload d_Cl_act_982 rfl (?_ : WD _ _ 984 _ _ _ _ _ _)
                              refine x_icmp_ne 991 d_Cl_act_984 rfl ⟨fun c353 => (?_ : WD _ _ 991 _ _ _ _ _ _), fun c353 => (?_ : WD _ _ 987 _ _ _ _ _ _)⟩
                              · replace h := h.1 c353
                                refine x_iconst d_Cl_act_991 (by decide) (?_ : WD _ _ 992 _ _ _ _ _ _)
                                exact x_zreturn rfl d_Cl_act_992 (by decide) h
                              · replace h := h.2 c353
                                refine x_iconst d_Cl_act_987 (by decide) (?_ : WD _ _ 988 _ _ _ _ _ _)
                                refine x_goto 992 d_Cl_act_988 rfl ?_
                                exact x_zreturn rfl d_Cl_act_992 (by decide) h
                            · replace h := h.2 c350
                              refine x_aloadP (some a272) d_Cl_act_962 rfl (?_ : WD _ _ 964 _ _ _ _ _ _)
                              refine x_ifnull (r := some a272) 974 d_Cl_act_964 rfl ⟨fun hz => absurd hz (by simp), fun _ _ => (?_ : WD _ _ 967 _ _ _ _ _ _)⟩
                              refine x_aloadP (some a272) d_Cl_act_967 rfl (?_ : WD _ _ 969 _ _ _ _ _ _)
                              refine x_iload d_Cl_act_969 rfl (?_ : WD _ _ 971 _ _ _ _ _ _)
                              obtain ⟨k354, h⟩ := h
                              refine x_putI (ref := "CoinSamplerLaw$Item") (j := 3) 3 k354 clk_13 (by decide) (qm_4 (i := 159) rfl rfl) (Or.inl rfl) (Or.inl rfl) tyX13_ok rfl nmX13 d_Cl_act_971 rfl rfl (fun _ => rfl) rfl (?_ : WD _ _ 974 _ _ _ _ _ _)
                              refine x_aload_n d_Cl_act_974 rfl (?_ : WD _ _ 975 _ _ _ _ _ _)
                              refine x_iload d_Cl_act_975 rfl (?_ : WD _ _ 977 _ _ _ _ _ _)
                              refine x_iload d_Cl_act_977 rfl (?_ : WD _ _ 979 _ _ _ _ _ _)
                              refine x_callC (ν := M_Cs_audit) (k := 0) [vI x5, vI (wI w285 a272 2)] ok_M_Cs_audit okv_M_Cs_audit (by decide) rfl rfl rfl (qm_5 (i := 170) rfl rfl) np_M_Cs_audit rfl ⟨Nat.le_of_ble_eq_true rfl, Nat.le_of_ble_eq_true rfl⟩ (Nat.le_of_ble_eq_true rfl) rfl d_Cl_act_979 (CI.kd h (fun v355 σ356 h => (?_ : WD _ _ 982 _ _ _ _ _ _)))
                              refine x_iload d_Cl_act_982 rfl (?_ : WD _ _ 984 _ _ _ _ _ _)
                              refine x_icmp_ne 991 d_Cl_act_984 rfl ⟨fun c357 => (?_ : WD _ _ 991 _ _ _ _ _ _), fun c357 => (?_ : WD _ _ 987 _ _ _ _ _ _)⟩
                              · replace h := h.1 c357
                                refine x_iconst d_Cl_act_991 (by decide) (?_ : WD _ _ 992 _ _ _ _ _ _)
                                exact x_zreturn rfl d_Cl_act_992 (by decide) h
                              · replace h := h.2 c357
                                refine x_iconst d_Cl_act_987 (by decide) (?_ : WD _ _ 988 _ _ _ _ _ _)
                                refine x_goto 992 d_Cl_act_988 rfl ?_
                                exact x_zreturn rfl d_Cl_act_992 (by decide) h
                          · replace h := h.2 c349
                            refine x_bipush d_Cl_act_944 (by decide) (by decide) (?_ : WD _ _ 946 _ _ _ _ _ _)
                            refine x_goto 954 d_Cl_act_946 rfl ?_
                            refine x_istore (ls' := [(6, vI (-5)), (8, vI (wI w285 a272 2)), (7, vA a272), (0, vR 0), (1, vA x1), (2, vA x2), (3, vI x3), (4, vI x4), (5, vI x5)]) d_Cl_act_954 (by decide) rfl (?_ : WD _ _ 956 _ _ _ _ _ _)
                            refine x_iload d_Cl_act_956 rfl (?_ : WD _ _ 958 _ _ _ _ _ _)
                            refine x_iconst d_Cl_act_958 (by decide) (?_ : WD _ _ 959 _ _ _ _ _ _)
                            refine x_icmp_lt 974 d_Cl_act_959 rfl ⟨fun hc => (?_ : WD _ _ 974 _ _ _ _ _ _), fun hc => absurd hc (by decide)⟩
                            refine x_aload_n d_Cl_act_974 rfl (?_ : WD _ _ 975 _ _ _ _ _ _)
                            refine x_iload d_Cl_act_975 rfl (?_ : WD _ _ 977 _ _ _ _ _ _)
                            refine x_iload d_Cl_act_977 rfl (?_ : WD _ _ 979 _ _ _ _ _ _)
                            refine x_callC (ν := M_Cs_audit) (k := 0) [vI x5, vI (wI w285 a272 2)] ok_M_Cs_audit okv_M_Cs_audit (by decide) rfl rfl rfl (qm_5 (i := 170) rfl rfl) np_M_Cs_audit rfl ⟨Nat.le_of_ble_eq_true rfl, Nat.le_of_ble_eq_true rfl⟩ (Nat.le_of_ble_eq_true rfl) rfl d_Cl_act_979 (CI.kd h (fun v358 σ359 h => (?_ : WD _ _ 982 _ _ _ _ _ _)))
                            refine x_iload d_Cl_act_982 rfl (?_ : WD _ _ 984 _ _ _ _ _ _)
                            refine x_icmp_ne 991 d_Cl_act_984 rfl ⟨fun c360 => (?_ : WD _ _ 991 _ _ _ _ _ _), fun c360 => (?_ : WD _ _ 987 _ _ _ _ _ _)⟩
                            · replace h := h.1 c360
                              refine x_iconst d_Cl_act_991 (by decide) (?_ : WD _ _ 992 _ _ _ _ _ _)
                              exact x_zreturn rfl d_Cl_act_992 (by decide) h
                            · replace h := h.2 c360
                              refine x_iconst d_Cl_act_987 (by decide) (?_ : WD _ _ 988 _ _ _ _ _ _)
                              refine x_goto 992 d_Cl_act_988 rfl ?_
                              exact x_zreturn rfl d_Cl_act_992 (by decide) h
                        · replace h := h.2 c348
                          refine x_bipush d_Cl_act_931 (by decide) (by decide) (?_ : WD _ _ 933 _ _ _ _ _ _)
                          refine x_goto 954 d_Cl_act_933 rfl ?_
                          refine x_istore (ls' := [(6, vI (-3)), (8, vI (wI w285 a272 2)), (7, vA a272), (0, vR 0), (1, vA x1), (2, vA x2), (3, vI x3), (4, vI x4), (5, vI x5)]) d_Cl_act_954 (by decide) rfl (?_ : WD _ _ 956 _ _ _ _ _ _)
                          refine x_iload d_Cl_act_956 rfl (?_ : WD _ _ 958 _ _ _ _ _ _)
                          refine x_iconst d_Cl_act_958 (by decide) (?_ : WD _ _ 959 _ _ _ _ _ _)
                          refine x_icmp_lt 974 d_Cl_act_959 rfl ⟨fun hc => (?_ : WD _ _ 974 _ _ _ _ _ _), fun hc => absurd hc (by decide)⟩
                          refine x_aload_n d_Cl_act_974 rfl (?_ : WD _ _ 975 _ _ _ _ _ _)
                          refine x_iload d_Cl_act_975 rfl (?_ : WD _ _ 977 _ _ _ _ _ _)
                          refine x_iload d_Cl_act_977 rfl (?_ : WD _ _ 979 _ _ _ _ _ _)
                          refine x_callC (ν := M_Cs_audit) (k := 0) [vI x5, vI (wI w285 a272 2)] ok_M_Cs_audit okv_M_Cs_audit (by decide) rfl rfl rfl (qm_5 (i := 170) rfl rfl) np_M_Cs_audit rfl ⟨Nat.le_of_ble_eq_true rfl, Nat.le_of_ble_eq_true rfl⟩ (Nat.le_of_ble_eq_true rfl) rfl d_Cl_act_979 (CI.kd h (fun v361 σ362 h => (?_ : WD _ _ 982 _ _ _ _ _ _)))
                          refine x_iload d_Cl_act_982 rfl (?_ : WD _ _ 984 _ _ _ _ _ _)
                          refine x_icmp_ne 991 d_Cl_act_984 rfl ⟨fun c363 => (?_ : WD _ _ 991 _ _ _ _ _ _), fun c363 => (?_ : WD _ _ 987 _ _ _ _ _ _)⟩
                          · replace h := h.1 c363
                            refine x_iconst d_Cl_act_991 (by decide) (?_ : WD _ _ 992 _ _ _ _ _ _)
                            exact x_zreturn rfl d_Cl_act_992 (by decide) h
                          · replace h := h.2 c363
                            refine x_iconst d_Cl_act_987 (by decide) (?_ : WD _ _ 988 _ _ _ _ _ _)
                            refine x_goto 992 d_Cl_act_988 rfl ?_
                            exact x_zreturn rfl d_Cl_act_992 (by decide) h
                  · replace h := h.2 c284
                    refine x_iconst d_Cl_act_825 (by decide) (?_ : WD _ _ 826 _ _ _ _ _ _)
                    refine x_aloadP (some a272) d_Cl_act_826 rfl (?_ : WD _ _ 828 _ _ _ _ _ _)
                    refine x_getI (ref := "CoinSamplerLaw$Item") (j := 2) 2 (k280.q gw282.k) clk_13 (by decide) (qm_4 (i := 157) rfl rfl) (Or.inl rfl) rfl rfl d_Cl_act_828 (y := (wI w282 a272 2)) rfl (?_ : WD _ _ 831 _ _ _ _ _ _)
                    obtain ⟨h364, h⟩ := h
                    refine x_imul d_Cl_act_831 h364 (?_ : WD _ _ 832 _ _ _ _ _ _)
                    refine x_iconst d_Cl_act_832 (by decide) (?_ : WD _ _ 833 _ _ _ _ _ _)
                    obtain ⟨h365, h⟩ := h
                    refine x_iadd d_Cl_act_833 h365 (?_ : WD _ _ 834 _ _ _ _ _ _)
                    refine x_goto 902 d_Cl_act_834 rfl ?_
                    refine x_istore (ls' := [(8, vI ((2 * (wI w282 a272 2)) + 1)), (7, vA a272), (0, vR 0), (1, vA x1), (2, vA x2), (3, vI x3), (4, vI x4), (5, vI x5)]) d_Cl_act_902 (by decide) rfl (?_ : WD _ _ 904 _ _ _ _ _ _)
                    refine x_aloadP (some a272) d_Cl_act_904 rfl (?_ : WD _ _ 906 _ _ _ _ _ _)
                    refine x_ifnonnull (r := some a272) 914 d_Cl_act_906 rfl ⟨fun hz => absurd hz (by simp), fun _ _ => (?_ : WD _ _ 914 _ _ _ _ _ _)⟩
                    refine x_iload d_Cl_act_914 rfl (?_ : WD _ _ 916 _ _ _ _ _ _)
                    refine x_if_lt 931 d_Cl_act_916 rfl ⟨fun c366 => (?_ : WD _ _ 931 _ _ _ _ _ _), fun c366 => (?_ : WD _ _ 919 _ _ _ _ _ _)⟩
                    · replace h := h.1 c366
                      refine x_bipush d_Cl_act_931 (by decide) (by decide) (?_ : WD _ _ 933 _ _ _ _ _ _)
                      refine x_goto 954 d_Cl_act_933 rfl ?_
                      refine x_istore (ls' := [(6, vI (-3)), (8, vI ((2 * (wI w282 a272 2)) + 1)), (7, vA a272), (0, vR 0), (1, vA x1), (2, vA x2), (3, vI x3), (4, vI x4), (5, vI x5)]) d_Cl_act_954 (by decide) rfl (?_ : WD _ _ 956 _ _ _ _ _ _)
                      refine x_iload d_Cl_act_956 rfl (?_ : WD _ _ 958 _ _ _ _ _ _)
                      refine x_iconst d_Cl_act_958 (by decide) (?_ : WD _ _ 959 _ _ _ _ _ _)
                      refine x_icmp_lt 974 d_Cl_act_959 rfl ⟨fun hc => (?_ : WD _ _ 974 _ _ _ _ _ _), fun hc => absurd hc (by decide)⟩
                      refine x_aload_n d_Cl_act_974 rfl (?_ : WD _ _ 975 _ _ _ _ _ _)
                      refine x_iload d_Cl_act_975 rfl (?_ : WD _ _ 977 _ _ _ _ _ _)
                      refine x_iload d_Cl_act_977 rfl (?_ : WD _ _ 979 _ _ _ _ _ _)
                      refine x_callC (ν := M_Cs_audit) (k := 0) [vI x5, vI ((2 * (wI w282 a272 2)) + 1)] ok_M_Cs_audit okv_M_Cs_audit (by decide) rfl rfl rfl (qm_5 (i := 170) rfl rfl) np_M_Cs_audit rfl ⟨Nat.le_of_ble_eq_true rfl, Nat.le_of_ble_eq_true rfl⟩ (Nat.le_of_ble_eq_true rfl) rfl d_Cl_act_979 (CI.kd h (fun v367 σ368 h => (?_ : WD _ _ 982 _ _ _ _ _ _)))
                      refine x_iload d_Cl_act_982 rfl (?_ : WD _ _ 984 _ _ _ _ _ _)
                      refine x_icmp_ne 991 d_Cl_act_984 rfl ⟨fun c369 => (?_ : WD _ _ 991 _ _ _ _ _ _), fun c369 => (?_ : WD _ _ 987 _ _ _ _ _ _)⟩
                      · replace h := h.1 c369
                        refine x_iconst d_Cl_act_991 (by decide) (?_ : WD _ _ 992 _ _ _ _ _ _)
                        exact x_zreturn rfl d_Cl_act_992 (by decide) h
                      · replace h := h.2 c369
                        refine x_iconst d_Cl_act_987 (by decide) (?_ : WD _ _ 988 _ _ _ _ _ _)
                        refine x_goto 992 d_Cl_act_988 rfl ?_
                        exact x_zreturn rfl d_Cl_act_992 (by decide) h
                    · replace h := h.2 c366
                      refine x_iload d_Cl_act_919 rfl (?_ : WD _ _ 921 _ _ _ _ _ _)
                      refine x_iconst d_Cl_act_921 (by decide) (?_ : WD _ _ 922 _ _ _ _ _ _)
                      refine x_aloadP (some a272) d_Cl_act_922 rfl (?_ : WD _ _ 924 _ _ _ _ _ _)
                      refine x_getI (ref := "CoinSamplerLaw$Item") (j := 2) 2 (k280.q gw282.k) clk_13 (by decide) (qm_4 (i := 157) rfl rfl) (Or.inl rfl) rfl rfl d_Cl_act_924 (y := (wI w282 a272 2)) rfl (?_ : WD _ _ 927 _ _ _ _ _ _)
                      refine x_imul d_Cl_act_927 h364 (?_ : WD _ _ 928 _ _ _ _ _ _)
                      refine x_icmp_le 936 d_Cl_act_928 rfl ⟨fun c370 => (?_ : WD _ _ 936 _ _ _ _ _ _), fun c370 => (?_ : WD _ _ 931 _ _ _ _ _ _)⟩
                      · replace h := h.1 c370
                        refine x_aloadP (some a272) d_Cl_act_936 rfl (?_ : WD _ _ 938 _ _ _ _ _ _)
                        refine x_getI (ref := "CoinSamplerLaw$Item") (j := 2) 2 (k280.q gw282.k) clk_13 (by decide) (qm_4 (i := 157) rfl rfl) (Or.inl rfl) rfl rfl d_Cl_act_938 (y := (wI w282 a272 2)) rfl (?_ : WD _ _ 941 _ _ _ _ _ _)
                        refine x_if_ne 949 d_Cl_act_941 rfl ⟨fun c371 => (?_ : WD _ _ 949 _ _ _ _ _ _), fun c371 => (?_ : WD _ _ 944 _ _ _ _ _ _)⟩
                        · replace h := h.1 c371
                          refine x_aloadP (some a272) d_Cl_act_949 rfl (?_ : WD _ _ 951 _ _ _ _ _ _)
                          refine x_getI (ref := "CoinSamplerLaw$Item") (j := 3) 3 (k280.q gw282.k) clk_13 (by decide) (qm_4 (i := 159) rfl rfl) (Or.inl rfl) rfl rfl d_Cl_act_951 (y := (wI w282 a272 3)) rfl (?_ : WD _ _ 954 _ _ _ _ _ _)
                          refine x_istore (ls' := [(6, vI (wI w282 a272 3)), (8, vI ((2 * (wI w282 a272 2)) + 1)), (7, vA a272), (0, vR 0), (1, vA x1), (2, vA x2), (3, vI x3), (4, vI x4), (5, vI x5)]) d_Cl_act_954 (by decide) rfl (?_ : WD _ _ 956 _ _ _ _ _ _)
                          refine x_iload d_Cl_act_956 rfl (?_ : WD _ _ 958 _ _ _ _ _ _)
                          refine x_iconst d_Cl_act_958 (by decide) (?_ : WD _ _ 959 _ _ _ _ _ _)
                          refine x_icmp_lt 974 d_Cl_act_959 rfl ⟨fun c372 => (?_ : WD _ _ 974 _ _ _ _ _ _), fun c372 => (?_ : WD _ _ 962 _ _ _ _ _ _)⟩
                          · replace h := h.1 c372
                            refine x_aload_n d_Cl_act_974 rfl (?_ : WD _ _ 975 _ _ _ _ _ _)
                            refine x_iload d_Cl_act_975 rfl (?_ : WD _ _ 977 _ _ _ _ _ _)
                            refine x_iload d_Cl_act_977 rfl (?_ : WD _ _ 979 _ _ _ _ _ _)
                            refine x_callC (ν := M_Cs_audit) (k := 0) [vI x5, vI ((2 * (wI w282 a272 2)) + 1)] ok_M_Cs_audit okv_M_Cs_audit (by decide) rfl rfl rfl (qm_5 (i := 170) rfl rfl) np_M_Cs_audit rfl ⟨Nat.le_of_ble_eq_true rfl, Nat.le_of_ble_eq_true rfl⟩ (Nat.le_of_ble_eq_true rfl) rfl d_Cl_act_979 (CI.kd h (fun v373 σ374 h => (?_ : WD _ _ 982 _ _ _ _ _ _)))
                            refine x_iload d_Cl_act_982 rfl (?_ : WD _ _ 984 _ _ _ _ _ _)
                            refine x_icmp_ne 991 d_Cl_act_984 rfl ⟨fun c375 => (?_ : WD _ _ 991 _ _ _ _ _ _), fun c375 => (?_ : WD _ _ 987 _ _ _ _ _ _)⟩
                            · replace h := h.1 c375
                              refine x_iconst d_Cl_act_991 (by decide) (?_ : WD _ _ 992 _ _ _ _ _ _)
                              exact x_zreturn rfl d_Cl_act_992 (by decide) h
                            · replace h := h.2 c375
                              refine x_iconst d_Cl_act_987 (by decide) (?_ : WD _ _ 988 _ _ _ _ _ _)
                              refine x_goto 992 d_Cl_act_988 rfl ?_
                              exact x_zreturn rfl d_Cl_act_992 (by decide) h
                          · replace h := h.2 c372
                            refine x_aloadP (some a272) d_Cl_act_962 rfl (?_ : WD _ _ 964 _ _ _ _ _ _)
                            refine x_ifnull (r := some a272) 974 d_Cl_act_964 rfl ⟨fun hz => absurd hz (by simp), fun _ _ => (?_ : WD _ _ 967 _ _ _ _ _ _)⟩
                            refine x_aloadP (some a272) d_Cl_act_967 rfl (?_ : WD _ _ 969 _ _ _ _ _ _)
                            refine x_iload d_Cl_act_969 rfl (?_ : WD _ _ 971 _ _ _ _ _ _)
                            obtain ⟨k376, h⟩ := h
                            refine x_putI (ref := "CoinSamplerLaw$Item") (j := 3) 3 k376 clk_13 (by decide) (qm_4 (i := 159) rfl rfl) (Or.inl rfl) (Or.inl rfl) tyX13_ok rfl nmX13 d_Cl_act_971 rfl rfl (fun _ => rfl) rfl (?_ : WD _ _ 974 _ _ _ _ _ _)
                            refine x_aload_n d_Cl_act_974 rfl (?_ : WD _ _ 975 _ _ _ _ _ _)
                            refine x_iload d_Cl_act_975 rfl (?_ : WD _ _ 977 _ _ _ _ _ _)
                            refine x_iload d_Cl_act_977 rfl (?_ : WD _ _ 979 _ _ _ _ _ _)
                            refine x_callC (ν := M_Cs_audit) (k := 0) [vI x5, vI ((2 * (wI w282 a272 2)) + 1)] ok_M_Cs_audit okv_M_Cs_audit (by decide) rfl rfl rfl (qm_5 (i := 170) rfl rfl) np_M_Cs_audit rfl ⟨Nat.le_of_ble_eq_true rfl, Nat.le_of_ble_eq_true rfl⟩ (Nat.le_of_ble_eq_true rfl) rfl d_Cl_act_979 (CI.kd h (fun v377 σ378 h => (?_ : WD _ _ 982 _ _ _ _ _ _)))
                            refine x_iload d_Cl_act_982 rfl (?_ : WD _ _ 984 _ _ _ _ _ _)
                            refine x_icmp_ne 991 d_Cl_act_984 rfl ⟨fun c379 => (?_ : WD _ _ 991 _ _ _ _ _ _), fun c379 => (?_ : WD _ _ 987 _ _ _ _ _ _)⟩
                            · replace h := h.1 c379
                              refine x_iconst d_Cl_act_991 (by decide) (?_ : WD _ _ 992 _ _ _ _ _ _)
                              exact x_zreturn rfl d_Cl_act_992 (by decide) h
                            · replace h := h.2 c379
                              refine x_iconst d_Cl_act_987 (by decide) (?_ : WD _ _ 988 _ _ _ _ _ _)
                              refine x_goto 992 d_Cl_act_988 rfl ?_
                              exact x_zreturn rfl d_Cl_act_992 (by decide) h
                        · replace h := h.2 c371
                          refine x_bipush d_Cl_act_944 (by decide) (by decide) (?_ : WD _ _ 946 _ _ _ _ _ _)
                          refine x_goto 954 d_Cl_act_946 rfl ?_
                          refine x_istore (ls' := [(6, vI (-5)), (8, vI ((2 * (wI w282 a272 2)) + 1)), (7, vA a272), (0, vR 0), (1, vA x1), (2, vA x2), (3, vI x3), (4, vI x4), (5, vI x5)]) d_Cl_act_954 (by decide) rfl (?_ : WD _ _ 956 _ _ _ _ _ _)
                          refine x_iload d_Cl_act_956 rfl (?_ : WD _ _ 958 _ _ _ _ _ _)
                          refine x_iconst d_Cl_act_958 (by decide) (?_ : WD _ _ 959 _ _ _ _ _ _)
                          refine x_icmp_lt 974 d_Cl_act_959 rfl ⟨fun hc => (?_ : WD _ _ 974 _ _ _ _ _ _), fun hc => absurd hc (by decide)⟩
                          refine x_aload_n d_Cl_act_974 rfl (?_ : WD _ _ 975 _ _ _ _ _ _)
                          refine x_iload d_Cl_act_975 rfl (?_ : WD _ _ 977 _ _ _ _ _ _)
                          refine x_iload d_Cl_act_977 rfl (?_ : WD _ _ 979 _ _ _ _ _ _)
                          refine x_callC (ν := M_Cs_audit) (k := 0) [vI x5, vI ((2 * (wI w282 a272 2)) + 1)] ok_M_Cs_audit okv_M_Cs_audit (by decide) rfl rfl rfl (qm_5 (i := 170) rfl rfl) np_M_Cs_audit rfl ⟨Nat.le_of_ble_eq_true rfl, Nat.le_of_ble_eq_true rfl⟩ (Nat.le_of_ble_eq_true rfl) rfl d_Cl_act_979 (CI.kd h (fun v380 σ381 h => (?_ : WD _ _ 982 _ _ _ _ _ _)))
                          refine x_iload d_Cl_act_982 rfl (?_ : WD _ _ 984 _ _ _ _ _ _)
                          refine x_icmp_ne 991 d_Cl_act_984 rfl ⟨fun c382 => (?_ : WD _ _ 991 _ _ _ _ _ _), fun c382 => (?_ : WD _ _ 987 _ _ _ _ _ _)⟩
                          · replace h := h.1 c382
                            refine x_iconst d_Cl_act_991 (by decide) (?_ : WD _ _ 992 _ _ _ _ _ _)
                            exact x_zreturn rfl d_Cl_act_992 (by decide) h
                          · replace h := h.2 c382
                            refine x_iconst d_Cl_act_987 (by decide) (?_ : WD _ _ 988 _ _ _ _ _ _)
                            refine x_goto 992 d_Cl_act_988 rfl ?_
                            exact x_zreturn rfl d_Cl_act_992 (by decide) h
                      · replace h := h.2 c370
                        refine x_bipush d_Cl_act_931 (by decide) (by decide) (?_ : WD _ _ 933 _ _ _ _ _ _)
                        refine x_goto 954 d_Cl_act_933 rfl ?_
                        refine x_istore (ls' := [(6, vI (-3)), (8, vI ((2 * (wI w282 a272 2)) + 1)), (7, vA a272), (0, vR 0), (1, vA x1), (2, vA x2), (3, vI x3), (4, vI x4), (5, vI x5)]) d_Cl_act_954 (by decide) rfl (?_ : WD _ _ 956 _ _ _ _ _ _)
                        refine x_iload d_Cl_act_956 rfl (?_ : WD _ _ 958 _ _ _ _ _ _)
                        refine x_iconst d_Cl_act_958 (by decide) (?_ : WD _ _ 959 _ _ _ _ _ _)
                        refine x_icmp_lt 974 d_Cl_act_959 rfl ⟨fun hc => (?_ : WD _ _ 974 _ _ _ _ _ _), fun hc => absurd hc (by decide)⟩
                        refine x_aload_n d_Cl_act_974 rfl (?_ : WD _ _ 975 _ _ _ _ _ _)
                        refine x_iload d_Cl_act_975 rfl (?_ : WD _ _ 977 _ _ _ _ _ _)
                        refine x_iload d_Cl_act_977 rfl (?_ : WD _ _ 979 _ _ _ _ _ _)
                        refine x_callC (ν := M_Cs_audit) (k := 0) [vI x5, vI ((2 * (wI w282 a272 2)) + 1)] ok_M_Cs_audit okv_M_Cs_audit (by decide) rfl rfl rfl (qm_5 (i := 170) rfl rfl) np_M_Cs_audit rfl ⟨Nat.le_of_ble_eq_true rfl, Nat.le_of_ble_eq_true rfl⟩ (Nat.le_of_ble_eq_true rfl) rfl d_Cl_act_979 (CI.kd h (fun v383 σ384 h => (?_ : WD _ _ 982 _ _ _ _ _ _)))
                        refine x_iload d_Cl_act_982 rfl (?_ : WD _ _ 984 _ _ _ _ _ _)
                        refine x_icmp_ne 991 d_Cl_act_984 rfl ⟨fun c385 => (?_ : WD _ _ 991 _ _ _ _ _ _), fun c385 => (?_ : WD _ _ 987 _ _ _ _ _ _)⟩
                        · replace h := h.1 c385
                          refine x_iconst d_Cl_act_991 (by decide) (?_ : WD _ _ 992 _ _ _ _ _ _)
                          exact x_zreturn rfl d_Cl_act_992 (by decide) h
                        · replace h := h.2 c385
                          refine x_iconst d_Cl_act_987 (by decide) (?_ : WD _ _ 988 _ _ _ _ _ _)
                          refine x_goto 992 d_Cl_act_988 rfl ?_
                          exact x_zreturn rfl d_Cl_act_992 (by decide) h
                · replace h := h.2 c281
                  refine x_aload_nP (some x2) d_Cl_act_806 rfl (?_ : WD _ _ 807 _ _ _ _ _ _)
                  refine x_iconst d_Cl_act_807 (by decide) (?_ : WD _ _ 808 _ _ _ _ _ _)
                  refine x_callS (ν := M_Cl_draw) [vA x2, vI 3] ok_M_Cl_draw oks_M_Cl_draw (qm_3 (i := 179) rfl rfl) np_M_Cl_draw rfl ⟨Nat.le_of_ble_eq_true rfl, Nat.le_of_ble_eq_true rfl⟩ (Nat.le_of_ble_eq_true rfl) rfl d_Cl_act_808 (Nat.zero_le _) (Nat.zero_le _) (DI.k h (fun v387 w386 gw386 h => (?_ : WD _ _ 811 _ _ _ _ _ _)))
                  refine x_iconst d_Cl_act_811 (by decide) (?_ : WD _ _ 812 _ _ _ _ _ _)
                  obtain ⟨h388, h⟩ := h
                  refine x_isub d_Cl_act_812 h388 (?_ : WD _ _ 813 _ _ _ _ _ _)
                  refine x_goto 902 d_Cl_act_813 rfl ?_
                  refine x_istore (ls' := [(8, vI (v387 - 1)), (7, vA a272), (0, vR 0), (1, vA x1), (2, vA x2), (3, vI x3), (4, vI x4), (5, vI x5)]) d_Cl_act_902 (by decide) rfl (?_ : WD _ _ 904 _ _ _ _ _ _)
                  refine x_aloadP (some a272) d_Cl_act_904 rfl (?_ : WD _ _ 906 _ _ _ _ _ _)
                  refine x_ifnonnull (r := some a272) 914 d_Cl_act_906 rfl ⟨fun hz => absurd hz (by simp), fun _ _ => (?_ : WD _ _ 914 _ _ _ _ _ _)⟩
                  refine x_iload d_Cl_act_914 rfl (?_ : WD _ _ 916 _ _ _ _ _ _)
                  refine x_if_lt 931 d_Cl_act_916 rfl ⟨fun c389 => (?_ : WD _ _ 931 _ _ _ _ _ _), fun c389 => (?_ : WD _ _ 919 _ _ _ _ _ _)⟩
                  · replace h := h.1 c389
                    refine x_bipush d_Cl_act_931 (by decide) (by decide) (?_ : WD _ _ 933 _ _ _ _ _ _)
                    refine x_goto 954 d_Cl_act_933 rfl ?_
                    refine x_istore (ls' := [(6, vI (-3)), (8, vI (v387 - 1)), (7, vA a272), (0, vR 0), (1, vA x1), (2, vA x2), (3, vI x3), (4, vI x4), (5, vI x5)]) d_Cl_act_954 (by decide) rfl (?_ : WD _ _ 956 _ _ _ _ _ _)
                    refine x_iload d_Cl_act_956 rfl (?_ : WD _ _ 958 _ _ _ _ _ _)
                    refine x_iconst d_Cl_act_958 (by decide) (?_ : WD _ _ 959 _ _ _ _ _ _)
                    refine x_icmp_lt 974 d_Cl_act_959 rfl ⟨fun hc => (?_ : WD _ _ 974 _ _ _ _ _ _), fun hc => absurd hc (by decide)⟩
                    refine x_aload_n d_Cl_act_974 rfl (?_ : WD _ _ 975 _ _ _ _ _ _)
                    refine x_iload d_Cl_act_975 rfl (?_ : WD _ _ 977 _ _ _ _ _ _)
                    refine x_iload d_Cl_act_977 rfl (?_ : WD _ _ 979 _ _ _ _ _ _)
                    refine x_callC (ν := M_Cs_audit) (k := 0) [vI x5, vI (v387 - 1)] ok_M_Cs_audit okv_M_Cs_audit (by decide) rfl rfl rfl (qm_5 (i := 170) rfl rfl) np_M_Cs_audit rfl ⟨Nat.le_of_ble_eq_true rfl, Nat.le_of_ble_eq_true rfl⟩ (Nat.le_of_ble_eq_true rfl) rfl d_Cl_act_979 (CI.kd h (fun v390 σ391 h => (?_ : WD _ _ 982 _ _ _ _ _ _)))
                    refine x_iload d_Cl_act_982 rfl (?_ : WD _ _ 984 _ _ _ _ _ _)
                    refine x_icmp_ne 991 d_Cl_act_984 rfl ⟨fun c392 => (?_ : WD _ _ 991 _ _ _ _ _ _), fun c392 => (?_ : WD _ _ 987 _ _ _ _ _ _)⟩
                    · replace h := h.1 c392
                      refine x_iconst d_Cl_act_991 (by decide) (?_ : WD _ _ 992 _ _ _ _ _ _)
                      exact x_zreturn rfl d_Cl_act_992 (by decide) h
                    · replace h := h.2 c392
                      refine x_iconst d_Cl_act_987 (by decide) (?_ : WD _ _ 988 _ _ _ _ _ _)
                      refine x_goto 992 d_Cl_act_988 rfl ?_
                      exact x_zreturn rfl d_Cl_act_992 (by decide) h
                  · replace h := h.2 c389
                    refine x_iload d_Cl_act_919 rfl (?_ : WD _ _ 921 _ _ _ _ _ _)
                    refine x_iconst d_Cl_act_921 (by decide) (?_ : WD _ _ 922 _ _ _ _ _ _)
                    refine x_aloadP (some a272) d_Cl_act_922 rfl (?_ : WD _ _ 924 _ _ _ _ _ _)
                    refine x_getI (ref := "CoinSamplerLaw$Item") (j := 2) 2 (k280.q gw386.k) clk_13 (by decide) (qm_4 (i := 157) rfl rfl) (Or.inl rfl) rfl rfl d_Cl_act_924 (y := (wI w386 a272 2)) rfl (?_ : WD _ _ 927 _ _ _ _ _ _)
                    obtain ⟨h393, h⟩ := h
                    refine x_imul d_Cl_act_927 h393 (?_ : WD _ _ 928 _ _ _ _ _ _)
                    refine x_icmp_le 936 d_Cl_act_928 rfl ⟨fun c394 => (?_ : WD _ _ 936 _ _ _ _ _ _), fun c394 => (?_ : WD _ _ 931 _ _ _ _ _ _)⟩
                    · replace h := h.1 c394
                      refine x_aloadP (some a272) d_Cl_act_936 rfl (?_ : WD _ _ 938 _ _ _ _ _ _)
                      refine x_getI (ref := "CoinSamplerLaw$Item") (j := 2) 2 (k280.q gw386.k) clk_13 (by decide) (qm_4 (i := 157) rfl rfl) (Or.inl rfl) rfl rfl d_Cl_act_938 (y := (wI w386 a272 2)) rfl (?_ : WD _ _ 941 _ _ _ _ _ _)
                      refine x_if_ne 949 d_Cl_act_941 rfl ⟨fun c395 => (?_ : WD _ _ 949 _ _ _ _ _ _), fun c395 => (?_ : WD _ _ 944 _ _ _ _ _ _)⟩
                      · replace h := h.1 c395
                        refine x_aloadP (some a272) d_Cl_act_949 rfl (?_ : WD _ _ 951 _ _ _ _ _ _)
                        refine x_getI (ref := "CoinSamplerLaw$Item") (j := 3) 3 (k280.q gw386.k) clk_13 (by decide) (qm_4 (i := 159) rfl rfl) (Or.inl rfl) rfl rfl d_Cl_act_951 (y := (wI w386 a272 3)) rfl (?_ : WD _ _ 954 _ _ _ _ _ _)
                        refine x_istore (ls' := [(6, vI (wI w386 a272 3)), (8, vI (v387 - 1)), (7, vA a272), (0, vR 0), (1, vA x1), (2, vA x2), (3, vI x3), (4, vI x4), (5, vI x5)]) d_Cl_act_954 (by decide) rfl (?_ : WD _ _ 956 _ _ _ _ _ _)
                        refine x_iload d_Cl_act_956 rfl (?_ : WD _ _ 958 _ _ _ _ _ _)
                        refine x_iconst d_Cl_act_958 (by decide) (?_ : WD _ _ 959 _ _ _ _ _ _)
                        refine x_icmp_lt 974 d_Cl_act_959 rfl ⟨fun c396 => (?_ : WD _ _ 974 _ _ _ _ _ _), fun c396 => (?_ : WD _ _ 962 _ _ _ _ _ _)⟩
                        · replace h := h.1 c396
                          refine x_aload_n d_Cl_act_974 rfl (?_ : WD _ _ 975 _ _ _ _ _ _)
                          refine x_iload d_Cl_act_975 rfl (?_ : WD _ _ 977 _ _ _ _ _ _)
                          refine x_iload d_Cl_act_977 rfl (?_ : WD _ _ 979 _ _ _ _ _ _)
                          refine x_callC (ν := M_Cs_audit) (k := 0) [vI x5, vI (v387 - 1)] ok_M_Cs_audit okv_M_Cs_audit (by decide) rfl rfl rfl (qm_5 (i := 170) rfl rfl) np_M_Cs_audit rfl ⟨Nat.le_of_ble_eq_true rfl, Nat.le_of_ble_eq_true rfl⟩ (Nat.le_of_ble_eq_true rfl) rfl d_Cl_act_979 (CI.kd h (fun v397 σ398 h => (?_ : WD _ _ 982 _ _ _ _ _ _)))
                          refine x_iload d_Cl_act_982 rfl (?_ : WD _ _ 984 _ _ _ _ _ _)
                          refine x_icmp_ne 991 d_Cl_act_984 rfl ⟨fun c399 => (?_ : WD _ _ 991 _ _ _ _ _ _), fun c399 => (?_ : WD _ _ 987 _ _ _ _ _ _)⟩
                          · replace h := h.1 c399
                            refine x_iconst d_Cl_act_991 (by decide) (?_ : WD _ _ 992 _ _ _ _ _ _)
                            exact x_zreturn rfl d_Cl_act_992 (by decide) h
                          · replace h := h.2 c399
                            refine x_iconst d_Cl_act_987 (by decide) (?_ : WD _ _ 988 _ _ _ _ _ _)
                            refine x_goto 992 d_Cl_act_988 rfl ?_
                            exact x_zreturn rfl d_Cl_act_992 (by decide) h
                        · replace h := h.2 c396
                          refine x_aloadP (some a272) d_Cl_act_962 rfl (?_ : WD _ _ 964 _ _ _ _ _ _)
                          refine x_ifnull (r := some a272) 974 d_Cl_act_964 rfl ⟨fun hz => absurd hz (by simp), fun _ _ => (?_ : WD _ _ 967 _ _ _ _ _ _)⟩
                          refine x_aloadP (some a272) d_Cl_act_967 rfl (?_ : WD _ _ 969 _ _ _ _ _ _)
                          refine x_iload d_Cl_act_969 rfl (?_ : WD _ _ 971 _ _ _ _ _ _)
                          obtain ⟨k400, h⟩ := h
                          refine x_putI (ref := "CoinSamplerLaw$Item") (j := 3) 3 k400 clk_13 (by decide) (qm_4 (i := 159) rfl rfl) (Or.inl rfl) (Or.inl rfl) tyX13_ok rfl nmX13 d_Cl_act_971 rfl rfl (fun _ => rfl) rfl (?_ : WD _ _ 974 _ _ _ _ _ _)
                          refine x_aload_n d_Cl_act_974 rfl (?_ : WD _ _ 975 _ _ _ _ _ _)
                          refine x_iload d_Cl_act_975 rfl (?_ : WD _ _ 977 _ _ _ _ _ _)
                          refine x_iload d_Cl_act_977 rfl (?_ : WD _ _ 979 _ _ _ _ _ _)
                          refine x_callC (ν := M_Cs_audit) (k := 0) [vI x5, vI (v387 - 1)] ok_M_Cs_audit okv_M_Cs_audit (by decide) rfl rfl rfl (qm_5 (i := 170) rfl rfl) np_M_Cs_audit rfl ⟨Nat.le_of_ble_eq_true rfl, Nat.le_of_ble_eq_true rfl⟩ (Nat.le_of_ble_eq_true rfl) rfl d_Cl_act_979 (CI.kd h (fun v401 σ402 h => (?_ : WD _ _ 982 _ _ _ _ _ _)))
                          refine x_iload d_Cl_act_982 rfl (?_ : WD _ _ 984 _ _ _ _ _ _)
                          refine x_icmp_ne 991 d_Cl_act_984 rfl ⟨fun c403 => (?_ : WD _ _ 991 _ _ _ _ _ _), fun c403 => (?_ : WD _ _ 987 _ _ _ _ _ _)⟩
                          · replace h := h.1 c403
                            refine x_iconst d_Cl_act_991 (by decide) (?_ : WD _ _ 992 _ _ _ _ _ _)
                            exact x_zreturn rfl d_Cl_act_992 (by decide) h
                          · replace h := h.2 c403
                            refine x_iconst d_Cl_act_987 (by decide) (?_ : WD _ _ 988 _ _ _ _ _ _)
                            refine x_goto 992 d_Cl_act_988 rfl ?_
                            exact x_zreturn rfl d_Cl_act_992 (by decide) h
                      · replace h := h.2 c395
                        refine x_bipush d_Cl_act_944 (by decide) (by decide) (?_ : WD _ _ 946 _ _ _ _ _ _)
                        refine x_goto 954 d_Cl_act_946 rfl ?_
                        refine x_istore (ls' := [(6, vI (-5)), (8, vI (v387 - 1)), (7, vA a272), (0, vR 0), (1, vA x1), (2, vA x2), (3, vI x3), (4, vI x4), (5, vI x5)]) d_Cl_act_954 (by decide) rfl (?_ : WD _ _ 956 _ _ _ _ _ _)
                        refine x_iload d_Cl_act_956 rfl (?_ : WD _ _ 958 _ _ _ _ _ _)
                        refine x_iconst d_Cl_act_958 (by decide) (?_ : WD _ _ 959 _ _ _ _ _ _)
                        refine x_icmp_lt 974 d_Cl_act_959 rfl ⟨fun hc => (?_ : WD _ _ 974 _ _ _ _ _ _), fun hc => absurd hc (by decide)⟩
                        refine x_aload_n d_Cl_act_974 rfl (?_ : WD _ _ 975 _ _ _ _ _ _)
                        refine x_iload d_Cl_act_975 rfl (?_ : WD _ _ 977 _ _ _ _ _ _)
                        refine x_iload d_Cl_act_977 rfl (?_ : WD _ _ 979 _ _ _ _ _ _)
                        refine x_callC (ν := M_Cs_audit) (k := 0) [vI x5, vI (v387 - 1)] ok_M_Cs_audit okv_M_Cs_audit (by decide) rfl rfl rfl (qm_5 (i := 170) rfl rfl) np_M_Cs_audit rfl ⟨Nat.le_of_ble_eq_true rfl, Nat.le_of_ble_eq_true rfl⟩ (Nat.le_of_ble_eq_true rfl) rfl d_Cl_act_979 (CI.kd h (fun v404 σ405 h => (?_ : WD _ _ 982 _ _ _ _ _ _)))
                        refine x_iload d_Cl_act_982 rfl (?_ : WD _ _ 984 _ _ _ _ _ _)
                        refine x_icmp_ne 991 d_Cl_act_984 rfl ⟨fun c406 => (?_ : WD _ _ 991 _ _ _ _ _ _), fun c406 => (?_ : WD _ _ 987 _ _ _ _ _ _)⟩
                        · replace h := h.1 c406
                          refine x_iconst d_Cl_act_991 (by decide) (?_ : WD _ _ 992 _ _ _ _ _ _)
                          exact x_zreturn rfl d_Cl_act_992 (by decide) h
                        · replace h := h.2 c406
                          refine x_iconst d_Cl_act_987 (by decide) (?_ : WD _ _ 988 _ _ _ _ _ _)
                          refine x_goto 992 d_Cl_act_988 rfl ?_
                          exact x_zreturn rfl d_Cl_act_992 (by decide) h
                    · replace h := h.2 c394
                      refine x_bipush d_Cl_act_931 (by decide) (by decide) (?_ : WD _ _ 933 _ _ _ _ _ _)
                      refine x_goto 954 d_Cl_act_933 rfl ?_
                      refine x_istore (ls' := [(6, vI (-3)), (8, vI (v387 - 1)), (7, vA a272), (0, vR 0), (1, vA x1), (2, vA x2), (3, vI x3), (4, vI x4), (5, vI x5)]) d_Cl_act_954 (by decide) rfl (?_ : WD _ _ 956 _ _ _ _ _ _)
                      refine x_iload d_Cl_act_956 rfl (?_ : WD _ _ 958 _ _ _ _ _ _)
                      refine x_iconst d_Cl_act_958 (by decide) (?_ : WD _ _ 959 _ _ _ _ _ _)
                      refine x_icmp_lt 974 d_Cl_act_959 rfl ⟨fun hc => (?_ : WD _ _ 974 _ _ _ _ _ _), fun hc => absurd hc (by decide)⟩
                      refine x_aload_n d_Cl_act_974 rfl (?_ : WD _ _ 975 _ _ _ _ _ _)
                      refine x_iload d_Cl_act_975 rfl (?_ : WD _ _ 977 _ _ _ _ _ _)
                      refine x_iload d_Cl_act_977 rfl (?_ : WD _ _ 979 _ _ _ _ _ _)
                      refine x_callC (ν := M_Cs_audit) (k := 0) [vI x5, vI (v387 - 1)] ok_M_Cs_audit okv_M_Cs_audit (by decide) rfl rfl rfl (qm_5 (i := 170) rfl rfl) np_M_Cs_audit rfl ⟨Nat.le_of_ble_eq_true rfl, Nat.le_of_ble_eq_true rfl⟩ (Nat.le_of_ble_eq_true rfl) rfl d_Cl_act_979 (CI.kd h (fun v407 σ408 h => (?_ : WD _ _ 982 _ _ _ _ _ _)))
                      refine x_iload d_Cl_act_982 rfl (?_ : WD _ _ 984 _ _ _ _ _ _)
                      refine x_icmp_ne 991 d_Cl_act_984 rfl ⟨fun c409 => (?_ : WD _ _ 991 _ _ _ _ _ _), fun c409 => (?_ : WD _ _ 987 _ _ _ _ _ _)⟩
                      · replace h := h.1 c409
                        refine x_iconst d_Cl_act_991 (by decide) (?_ : WD _ _ 992 _ _ _ _ _ _)
                        exact x_zreturn rfl d_Cl_act_992 (by decide) h
                      · replace h := h.2 c409
                        refine x_iconst d_Cl_act_987 (by decide) (?_ : WD _ _ 988 _ _ _ _ _ _)
                        refine x_goto 992 d_Cl_act_988 rfl ?_
                        exact x_zreturn rfl d_Cl_act_992 (by decide) h
          · replace h := h.2 c53
            refine x_aload_nP (some x2) d_Cl_act_677 rfl (?_ : WD _ _ 678 _ _ _ _ _ _)
            refine x_bipush d_Cl_act_678 (by decide) (by decide) (?_ : WD _ _ 680 _ _ _ _ _ _)
            refine x_callS (ν := M_Cl_draw) [vA x2, vI 25] ok_M_Cl_draw oks_M_Cl_draw (qm_3 (i := 179) rfl rfl) np_M_Cl_draw rfl ⟨Nat.le_of_ble_eq_true rfl, Nat.le_of_ble_eq_true rfl⟩ (Nat.le_of_ble_eq_true rfl) rfl d_Cl_act_680 (Nat.zero_le _) (Nat.zero_le _) (DI.k h (fun v411 w410 gw410 h => (?_ : WD _ _ 683 _ _ _ _ _ _)))
            refine x_if_ne 691 d_Cl_act_683 rfl ⟨fun c412 => (?_ : WD _ _ 691 _ _ _ _ _ _), fun c412 => (?_ : WD _ _ 686 _ _ _ _ _ _)⟩
            · replace h := h.1 c412
              refine x_aload_nP (some x2) d_Cl_act_691 rfl (?_ : WD _ _ 692 _ _ _ _ _ _)
              refine x_sipush d_Cl_act_692 (by decide) (by decide) (?_ : WD _ _ 695 _ _ _ _ _ _)
              refine x_callS (ν := M_Cl_draw) [vA x2, vI 300] ok_M_Cl_draw oks_M_Cl_draw (qm_3 (i := 179) rfl rfl) np_M_Cl_draw rfl ⟨Nat.le_of_ble_eq_true rfl, Nat.le_of_ble_eq_true rfl⟩ (Nat.le_of_ble_eq_true rfl) rfl d_Cl_act_695 (Nat.zero_le _) (Nat.zero_le _) (DI.k h (fun v414 w413 gw413 h => (?_ : WD _ _ 698 _ _ _ _ _ _)))
              refine x_bipush d_Cl_act_698 (by decide) (by decide) (?_ : WD _ _ 700 _ _ _ _ _ _)
              obtain ⟨h415, h⟩ := h
              refine x_isub d_Cl_act_700 h415 (?_ : WD _ _ 701 _ _ _ _ _ _)
              refine x_istore (ls' := [(8, vI (v414 - 30)), (7, vP y0), (0, vR 0), (1, vA x1), (2, vA x2), (3, vI x3), (4, vI x4), (5, vI x5)]) d_Cl_act_701 (by decide) rfl (?_ : WD _ _ 703 _ _ _ _ _ _)
              refine x_aloadP y0 d_Cl_act_703 rfl (?_ : WD _ _ 705 _ _ _ _ _ _)
              refine x_ifnull 729 d_Cl_act_705 rfl ⟨fun e417 => (?_ : WD _ _ 729 _ _ _ _ _ _), fun a416 e417 => (?_ : WD _ _ 708 _ _ _ _ _ _)⟩
              · replace h := h.1 e417
                rw [e417]
                refine x_iconst d_Cl_act_729 (by decide) (?_ : WD _ _ 730 _ _ _ _ _ _)
                refine x_istore (ls' := [(9, vI 0), (8, vI (v414 - 30)), (7, vP none), (0, vR 0), (1, vA x1), (2, vA x2), (3, vI x3), (4, vI x4), (5, vI x5)]) d_Cl_act_730 (by decide) rfl (?_ : WD _ _ 732 _ _ _ _ _ _)
                refine x_iload d_Cl_act_732 rfl (?_ : WD _ _ 734 _ _ _ _ _ _)
                refine x_if_eq 745 d_Cl_act_734 rfl ⟨fun hc => (?_ : WD _ _ 745 _ _ _ _ _ _), fun hc => absurd rfl hc⟩
                refine x_ldc (-10000000) d_Cl_act_745 (qm_5 (i := 163) rfl rfl) (by decide) (by decide) (?_ : WD _ _ 747 _ _ _ _ _ _)
                refine x_istore (ls' := [(6, vI (-10000000)), (9, vI 0), (8, vI (v414 - 30)), (7, vP none), (0, vR 0), (1, vA x1), (2, vA x2), (3, vI x3), (4, vI x4), (5, vI x5)]) d_Cl_act_747 (by decide) rfl (?_ : WD _ _ 749 _ _ _ _ _ _)
                refine x_iload d_Cl_act_749 rfl (?_ : WD _ _ 751 _ _ _ _ _ _)
                refine x_if_eq 767 d_Cl_act_751 rfl ⟨fun hc => (?_ : WD _ _ 767 _ _ _ _ _ _), fun hc => absurd rfl hc⟩
                refine x_aload_n d_Cl_act_767 rfl (?_ : WD _ _ 768 _ _ _ _ _ _)
                refine x_iload d_Cl_act_768 rfl (?_ : WD _ _ 770 _ _ _ _ _ _)
                refine x_iload d_Cl_act_770 rfl (?_ : WD _ _ 772 _ _ _ _ _ _)
                refine x_callC (ν := M_Cs_post) (k := 0) [vI x5, vI (v414 - 30)] ok_M_Cs_post okv_M_Cs_post (by decide) rfl rfl rfl (qm_5 (i := 164) rfl rfl) np_M_Cs_post rfl ⟨Nat.le_of_ble_eq_true rfl, Nat.le_of_ble_eq_true rfl⟩ (Nat.le_of_ble_eq_true rfl) rfl d_Cl_act_772 (CI.kd h (fun v418 σ419 h => (?_ : WD _ _ 775 _ _ _ _ _ _)))
                refine x_iload d_Cl_act_775 rfl (?_ : WD _ _ 777 _ _ _ _ _ _)
                refine x_icmp_ne 784 d_Cl_act_777 rfl ⟨fun c420 => (?_ : WD _ _ 784 _ _ _ _ _ _), fun c420 => (?_ : WD _ _ 780 _ _ _ _ _ _)⟩
                · replace h := h.1 c420
                  refine x_iconst d_Cl_act_784 (by decide) (?_ : WD _ _ 785 _ _ _ _ _ _)
                  exact x_zreturn rfl d_Cl_act_785 (by decide) h
                · replace h := h.2 c420
                  refine x_iconst d_Cl_act_780 (by decide) (?_ : WD _ _ 781 _ _ _ _ _ _)
                  refine x_goto 785 d_Cl_act_781 rfl ?_
                  exact x_zreturn rfl d_Cl_act_785 (by decide) h
              · replace h := h.2 a416 e417
                rw [e417]
                refine x_iload d_Cl_act_708 rfl (?_ : WD _ _ 710 _ _ _ _ _ _)
                refine x_ldc (-100000) d_Cl_act_710 (qm_5 (i := 162) rfl rfl) (by decide) (by decide) (?_ : WD _ _ 712 _ _ _ _ _ _)
                refine x_icmp_le 729 d_Cl_act_712 rfl ⟨fun c421 => (?_ : WD _ _ 729 _ _ _ _ _ _), fun c421 => (?_ : WD _ _ 715 _ _ _ _ _ _)⟩
                · replace h := h.1 c421
                  refine x_iconst d_Cl_act_729 (by decide) (?_ : WD _ _ 730 _ _ _ _ _ _)
                  refine x_istore (ls' := [(9, vI 0), (8, vI (v414 - 30)), (7, vA a416), (0, vR 0), (1, vA x1), (2, vA x2), (3, vI x3), (4, vI x4), (5, vI x5)]) d_Cl_act_730 (by decide) rfl (?_ : WD _ _ 732 _ _ _ _ _ _)
                  refine x_iload d_Cl_act_732 rfl (?_ : WD _ _ 734 _ _ _ _ _ _)
                  refine x_if_eq 745 d_Cl_act_734 rfl ⟨fun hc => (?_ : WD _ _ 745 _ _ _ _ _ _), fun hc => absurd rfl hc⟩
                  refine x_ldc (-10000000) d_Cl_act_745 (qm_5 (i := 163) rfl rfl) (by decide) (by decide) (?_ : WD _ _ 747 _ _ _ _ _ _)
                  refine x_istore (ls' := [(6, vI (-10000000)), (9, vI 0), (8, vI (v414 - 30)), (7, vA a416), (0, vR 0), (1, vA x1), (2, vA x2), (3, vI x3), (4, vI x4), (5, vI x5)]) d_Cl_act_747 (by decide) rfl (?_ : WD _ _ 749 _ _ _ _ _ _)
                  refine x_iload d_Cl_act_749 rfl (?_ : WD _ _ 751 _ _ _ _ _ _)
                  refine x_if_eq 767 d_Cl_act_751 rfl ⟨fun hc => (?_ : WD _ _ 767 _ _ _ _ _ _), fun hc => absurd rfl hc⟩
                  refine x_aload_n d_Cl_act_767 rfl (?_ : WD _ _ 768 _ _ _ _ _ _)
                  refine x_iload d_Cl_act_768 rfl (?_ : WD _ _ 770 _ _ _ _ _ _)
                  refine x_iload d_Cl_act_770 rfl (?_ : WD _ _ 772 _ _ _ _ _ _)
                  refine x_callC (ν := M_Cs_post) (k := 0) [vI x5, vI (v414 - 30)] ok_M_Cs_post okv_M_Cs_post (by decide) rfl rfl rfl (qm_5 (i := 164) rfl rfl) np_M_Cs_post rfl ⟨Nat.le_of_ble_eq_true rfl, Nat.le_of_ble_eq_true rfl⟩ (Nat.le_of_ble_eq_true rfl) rfl d_Cl_act_772 (CI.kd h (fun v422 σ423 h => (?_ : WD _ _ 775 _ _ _ _ _ _)))
                  refine x_iload d_Cl_act_775 rfl (?_ : WD _ _ 777 _ _ _ _ _ _)
                  refine x_icmp_ne 784 d_Cl_act_777 rfl ⟨fun c424 => (?_ : WD _ _ 784 _ _ _ _ _ _), fun c424 => (?_ : WD _ _ 780 _ _ _ _ _ _)⟩
                  · replace h := h.1 c424
                    refine x_iconst d_Cl_act_784 (by decide) (?_ : WD _ _ 785 _ _ _ _ _ _)
                    exact x_zreturn rfl d_Cl_act_785 (by decide) h
                  · replace h := h.2 c424
                    refine x_iconst d_Cl_act_780 (by decide) (?_ : WD _ _ 781 _ _ _ _ _ _)
                    refine x_goto 785 d_Cl_act_781 rfl ?_
                    exact x_zreturn rfl d_Cl_act_785 (by decide) h
                · replace h := h.2 c421
                  refine x_aload_nP (some x1) d_Cl_act_715 rfl (?_ : WD _ _ 716 _ _ _ _ _ _)
                  obtain ⟨k425, h⟩ := h
                  refine x_getP (ref := "CoinSamplerLaw$Books") (j := 1) 1 k425 clk_11 (by decide) (qm_2 (i := 158) rfl rfl) (Or.inl rfl) rfl rfl d_Cl_act_716 (y := (wR w413 x1 1)) rfl (?_ : WD _ _ 719 _ _ _ _ _ _)
                  obtain ⟨a426, e427, h⟩ := h
                  rw [e427]
                  obtain ⟨k428, h⟩ := h
                  refine x_callV (ν := M_Al_isEmpty) [] ok_M_Al_isEmpty okv_M_Al_isEmpty k428 rfl rfl (qm_3 (i := 230) rfl rfl) np_M_Al_isEmpty rfl ⟨Nat.le_of_ble_eq_true rfl, Nat.le_of_ble_eq_true rfl⟩ (Nat.le_of_ble_eq_true rfl) rfl d_Cl_act_719 (Nat.zero_le _) (Nat.zero_le _) (DI.k h (fun v430 w429 gw429 h => (?_ : WD _ _ 722 _ _ _ _ _ _)))
                  refine x_if_eq 729 d_Cl_act_722 rfl ⟨fun c431 => (?_ : WD _ _ 729 _ _ _ _ _ _), fun c431 => (?_ : WD _ _ 725 _ _ _ _ _ _)⟩
                  · replace h := h.1 c431
                    refine x_iconst d_Cl_act_729 (by decide) (?_ : WD _ _ 730 _ _ _ _ _ _)
                    refine x_istore (ls' := [(9, vI 0), (8, vI (v414 - 30)), (7, vA a416), (0, vR 0), (1, vA x1), (2, vA x2), (3, vI x3), (4, vI x4), (5, vI x5)]) d_Cl_act_730 (by decide) rfl (?_ : WD _ _ 732 _ _ _ _ _ _)
                    refine x_iload d_Cl_act_732 rfl (?_ : WD _ _ 734 _ _ _ _ _ _)
                    refine x_if_eq 745 d_Cl_act_734 rfl ⟨fun hc => (?_ : WD _ _ 745 _ _ _ _ _ _), fun hc => absurd rfl hc⟩
                    refine x_ldc (-10000000) d_Cl_act_745 (qm_5 (i := 163) rfl rfl) (by decide) (by decide) (?_ : WD _ _ 747 _ _ _ _ _ _)
                    refine x_istore (ls' := [(6, vI (-10000000)), (9, vI 0), (8, vI (v414 - 30)), (7, vA a416), (0, vR 0), (1, vA x1), (2, vA x2), (3, vI x3), (4, vI x4), (5, vI x5)]) d_Cl_act_747 (by decide) rfl (?_ : WD _ _ 749 _ _ _ _ _ _)
                    refine x_iload d_Cl_act_749 rfl (?_ : WD _ _ 751 _ _ _ _ _ _)
                    refine x_if_eq 767 d_Cl_act_751 rfl ⟨fun hc => (?_ : WD _ _ 767 _ _ _ _ _ _), fun hc => absurd rfl hc⟩
                    refine x_aload_n d_Cl_act_767 rfl (?_ : WD _ _ 768 _ _ _ _ _ _)
                    refine x_iload d_Cl_act_768 rfl (?_ : WD _ _ 770 _ _ _ _ _ _)
                    refine x_iload d_Cl_act_770 rfl (?_ : WD _ _ 772 _ _ _ _ _ _)
                    refine x_callC (ν := M_Cs_post) (k := 0) [vI x5, vI (v414 - 30)] ok_M_Cs_post okv_M_Cs_post (by decide) rfl rfl rfl (qm_5 (i := 164) rfl rfl) np_M_Cs_post rfl ⟨Nat.le_of_ble_eq_true rfl, Nat.le_of_ble_eq_true rfl⟩ (Nat.le_of_ble_eq_true rfl) rfl d_Cl_act_772 (CI.kd h (fun v432 σ433 h => (?_ : WD _ _ 775 _ _ _ _ _ _)))
                    refine x_iload d_Cl_act_775 rfl (?_ : WD _ _ 777 _ _ _ _ _ _)
                    refine x_icmp_ne 784 d_Cl_act_777 rfl ⟨fun c434 => (?_ : WD _ _ 784 _ _ _ _ _ _), fun c434 => (?_ : WD _ _ 780 _ _ _ _ _ _)⟩
                    · replace h := h.1 c434
                      refine x_iconst d_Cl_act_784 (by decide) (?_ : WD _ _ 785 _ _ _ _ _ _)
                      exact x_zreturn rfl d_Cl_act_785 (by decide) h
                    · replace h := h.2 c434
                      refine x_iconst d_Cl_act_780 (by decide) (?_ : WD _ _ 781 _ _ _ _ _ _)
                      refine x_goto 785 d_Cl_act_781 rfl ?_
                      exact x_zreturn rfl d_Cl_act_785 (by decide) h
                  · replace h := h.2 c431
                    refine x_iconst d_Cl_act_725 (by decide) (?_ : WD _ _ 726 _ _ _ _ _ _)
                    refine x_goto 730 d_Cl_act_726 rfl ?_
                    refine x_istore (ls' := [(9, vI 1), (8, vI (v414 - 30)), (7, vA a416), (0, vR 0), (1, vA x1), (2, vA x2), (3, vI x3), (4, vI x4), (5, vI x5)]) d_Cl_act_730 (by decide) rfl (?_ : WD _ _ 732 _ _ _ _ _ _)
                    refine x_iload d_Cl_act_732 rfl (?_ : WD _ _ 734 _ _ _ _ _ _)
                    refine x_if_eq 745 d_Cl_act_734 rfl ⟨fun hc => absurd hc (by decide), fun hc => (?_ : WD _ _ 737 _ _ _ _ _ _)⟩
                    refine x_aloadP (some a416) d_Cl_act_737 rfl (?_ : WD _ _ 739 _ _ _ _ _ _)
                    obtain ⟨k435, h⟩ := h
                    refine x_getI (ref := "CoinSamplerLaw$Item") (j := 2) 2 k435 clk_13 (by decide) (qm_4 (i := 157) rfl rfl) (Or.inl rfl) rfl rfl d_Cl_act_739 (y := (wI w429 a416 2)) rfl (?_ : WD _ _ 742 _ _ _ _ _ _)
                    refine x_goto 747 d_Cl_act_742 rfl ?_
                    refine x_istore (ls' := [(6, vI (wI w429 a416 2)), (9, vI 1), (8, vI (v414 - 30)), (7, vA a416), (0, vR 0), (1, vA x1), (2, vA x2), (3, vI x3), (4, vI x4), (5, vI x5)]) d_Cl_act_747 (by decide) rfl (?_ : WD _ _ 749 _ _ _ _ _ _)
                    refine x_iload d_Cl_act_749 rfl (?_ : WD _ _ 751 _ _ _ _ _ _)
                    refine x_if_eq 767 d_Cl_act_751 rfl ⟨fun hc => absurd hc (by decide), fun hc => (?_ : WD _ _ 754 _ _ _ _ _ _)⟩
                    refine x_aloadP (some a416) d_Cl_act_754 rfl (?_ : WD _ _ 756 _ _ _ _ _ _)
                    refine x_iload d_Cl_act_756 rfl (?_ : WD _ _ 758 _ _ _ _ _ _)
                    obtain ⟨k436, h⟩ := h
                    refine x_putI (ref := "CoinSamplerLaw$Item") (j := 2) 2 k436 clk_13 (by decide) (qm_4 (i := 157) rfl rfl) (Or.inl rfl) (Or.inl rfl) tyX13_ok rfl nmX13 d_Cl_act_758 rfl rfl (fun _ => rfl) rfl (?_ : WD _ _ 761 _ _ _ _ _ _)
                    refine x_aloadP (some a416) d_Cl_act_761 rfl (?_ : WD _ _ 763 _ _ _ _ _ _)
                    refine x_iconst d_Cl_act_763 (by decide) (?_ : WD _ _ 764 _ _ _ _ _ _)
                    refine x_putI (ref := "CoinSamplerLaw$Item") (j := 3) 3 k436 clk_13 (by decide) (qm_4 (i := 159) rfl rfl) (Or.inl rfl) (Or.inl rfl) tyX13_ok rfl nmX13 d_Cl_act_764 rfl rfl (fun _ => rfl) rfl (?_ : WD _ _ 767 _ _ _ _ _ _)
                    refine x_aload_n d_Cl_act_767 rfl (?_ : WD _ _ 768 _ _ _ _ _ _)
                    refine x_iload d_Cl_act_768 rfl (?_ : WD _ _ 770 _ _ _ _ _ _)
                    refine x_iload d_Cl_act_770 rfl (?_ : WD _ _ 772 _ _ _ _ _ _)
                    refine x_callC (ν := M_Cs_post) (k := 0) [vI x5, vI (v414 - 30)] ok_M_Cs_post okv_M_Cs_post (by decide) rfl rfl rfl (qm_5 (i := 164) rfl rfl) np_M_Cs_post rfl ⟨Nat.le_of_ble_eq_true rfl, Nat.le_of_ble_eq_true rfl⟩ (Nat.le_of_ble_eq_true rfl) rfl d_Cl_act_772 (CI.kd h (fun v437 σ438 h => (?_ : WD _ _ 775 _ _ _ _ _ _)))
                    refine x_iload d_Cl_act_775 rfl (?_ : WD _ _ 777 _ _ _ _ _ _)
                    refine x_icmp_ne 784 d_Cl_act_777 rfl ⟨fun c439 => (?_ : WD _ _ 784 _ _ _ _ _ _), fun c439 => (?_ : WD _ _ 780 _ _ _ _ _ _)⟩
                    · replace h := h.1 c439
                      refine x_iconst d_Cl_act_784 (by decide) (?_ : WD _ _ 785 _ _ _ _ _ _)
                      exact x_zreturn rfl d_Cl_act_785 (by decide) h
                    · replace h := h.2 c439
                      refine x_iconst d_Cl_act_780 (by decide) (?_ : WD _ _ 781 _ _ _ _ _ _)
                      refine x_goto 785 d_Cl_act_781 rfl ?_
                      exact x_zreturn rfl d_Cl_act_785 (by decide) h
            · replace h := h.2 c412
              refine x_ldc (-100000) d_Cl_act_686 (qm_5 (i := 162) rfl rfl) (by decide) (by decide) (?_ : WD _ _ 688 _ _ _ _ _ _)
              refine x_goto 701 d_Cl_act_688 rfl ?_
              refine x_istore (ls' := [(8, vI (-100000)), (7, vP y0), (0, vR 0), (1, vA x1), (2, vA x2), (3, vI x3), (4, vI x4), (5, vI x5)]) d_Cl_act_701 (by decide) rfl (?_ : WD _ _ 703 _ _ _ _ _ _)
              refine x_aloadP y0 d_Cl_act_703 rfl (?_ : WD _ _ 705 _ _ _ _ _ _)
              refine x_ifnull 729 d_Cl_act_705 rfl ⟨fun e441 => (?_ : WD _ _ 729 _ _ _ _ _ _), fun a440 e441 => (?_ : WD _ _ 708 _ _ _ _ _ _)⟩
              · replace h := h.1 e441
                rw [e441]
                refine x_iconst d_Cl_act_729 (by decide) (?_ : WD _ _ 730 _ _ _ _ _ _)
                refine x_istore (ls' := [(9, vI 0), (8, vI (-100000)), (7, vP none), (0, vR 0), (1, vA x1), (2, vA x2), (3, vI x3), (4, vI x4), (5, vI x5)]) d_Cl_act_730 (by decide) rfl (?_ : WD _ _ 732 _ _ _ _ _ _)
                refine x_iload d_Cl_act_732 rfl (?_ : WD _ _ 734 _ _ _ _ _ _)
                refine x_if_eq 745 d_Cl_act_734 rfl ⟨fun hc => (?_ : WD _ _ 745 _ _ _ _ _ _), fun hc => absurd rfl hc⟩
                refine x_ldc (-10000000) d_Cl_act_745 (qm_5 (i := 163) rfl rfl) (by decide) (by decide) (?_ : WD _ _ 747 _ _ _ _ _ _)
                refine x_istore (ls' := [(6, vI (-10000000)), (9, vI 0), (8, vI (-100000)), (7, vP none), (0, vR 0), (1, vA x1), (2, vA x2), (3, vI x3), (4, vI x4), (5, vI x5)]) d_Cl_act_747 (by decide) rfl (?_ : WD _ _ 749 _ _ _ _ _ _)
                refine x_iload d_Cl_act_749 rfl (?_ : WD _ _ 751 _ _ _ _ _ _)
                refine x_if_eq 767 d_Cl_act_751 rfl ⟨fun hc => (?_ : WD _ _ 767 _ _ _ _ _ _), fun hc => absurd rfl hc⟩
                refine x_aload_n d_Cl_act_767 rfl (?_ : WD _ _ 768 _ _ _ _ _ _)
                refine x_iload d_Cl_act_768 rfl (?_ : WD _ _ 770 _ _ _ _ _ _)
                refine x_iload d_Cl_act_770 rfl (?_ : WD _ _ 772 _ _ _ _ _ _)
                refine x_callC (ν := M_Cs_post) (k := 0) [vI x5, vI (-100000)] ok_M_Cs_post okv_M_Cs_post (by decide) rfl rfl rfl (qm_5 (i := 164) rfl rfl) np_M_Cs_post rfl ⟨Nat.le_of_ble_eq_true rfl, Nat.le_of_ble_eq_true rfl⟩ (Nat.le_of_ble_eq_true rfl) rfl d_Cl_act_772 (CI.kd h (fun v442 σ443 h => (?_ : WD _ _ 775 _ _ _ _ _ _)))
                refine x_iload d_Cl_act_775 rfl (?_ : WD _ _ 777 _ _ _ _ _ _)
                refine x_icmp_ne 784 d_Cl_act_777 rfl ⟨fun c444 => (?_ : WD _ _ 784 _ _ _ _ _ _), fun c444 => (?_ : WD _ _ 780 _ _ _ _ _ _)⟩
                · replace h := h.1 c444
                  refine x_iconst d_Cl_act_784 (by decide) (?_ : WD _ _ 785 _ _ _ _ _ _)
                  exact x_zreturn rfl d_Cl_act_785 (by decide) h
                · replace h := h.2 c444
                  refine x_iconst d_Cl_act_780 (by decide) (?_ : WD _ _ 781 _ _ _ _ _ _)
                  refine x_goto 785 d_Cl_act_781 rfl ?_
                  exact x_zreturn rfl d_Cl_act_785 (by decide) h
              · replace h := h.2 a440 e441
                rw [e441]
                refine x_iload d_Cl_act_708 rfl (?_ : WD _ _ 710 _ _ _ _ _ _)
                refine x_ldc (-100000) d_Cl_act_710 (qm_5 (i := 162) rfl rfl) (by decide) (by decide) (?_ : WD _ _ 712 _ _ _ _ _ _)
                refine x_icmp_le 729 d_Cl_act_712 rfl ⟨fun hc => (?_ : WD _ _ 729 _ _ _ _ _ _), fun hc => absurd hc (by decide)⟩
                refine x_iconst d_Cl_act_729 (by decide) (?_ : WD _ _ 730 _ _ _ _ _ _)
                refine x_istore (ls' := [(9, vI 0), (8, vI (-100000)), (7, vA a440), (0, vR 0), (1, vA x1), (2, vA x2), (3, vI x3), (4, vI x4), (5, vI x5)]) d_Cl_act_730 (by decide) rfl (?_ : WD _ _ 732 _ _ _ _ _ _)
                refine x_iload d_Cl_act_732 rfl (?_ : WD _ _ 734 _ _ _ _ _ _)
                refine x_if_eq 745 d_Cl_act_734 rfl ⟨fun hc => (?_ : WD _ _ 745 _ _ _ _ _ _), fun hc => absurd rfl hc⟩
                refine x_ldc (-10000000) d_Cl_act_745 (qm_5 (i := 163) rfl rfl) (by decide) (by decide) (?_ : WD _ _ 747 _ _ _ _ _ _)
                refine x_istore (ls' := [(6, vI (-10000000)), (9, vI 0), (8, vI (-100000)), (7, vA a440), (0, vR 0), (1, vA x1), (2, vA x2), (3, vI x3), (4, vI x4), (5, vI x5)]) d_Cl_act_747 (by decide) rfl (?_ : WD _ _ 749 _ _ _ _ _ _)
                refine x_iload d_Cl_act_749 rfl (?_ : WD _ _ 751 _ _ _ _ _ _)
                refine x_if_eq 767 d_Cl_act_751 rfl ⟨fun hc => (?_ : WD _ _ 767 _ _ _ _ _ _), fun hc => absurd rfl hc⟩
                refine x_aload_n d_Cl_act_767 rfl (?_ : WD _ _ 768 _ _ _ _ _ _)
                refine x_iload d_Cl_act_768 rfl (?_ : WD _ _ 770 _ _ _ _ _ _)
                refine x_iload d_Cl_act_770 rfl (?_ : WD _ _ 772 _ _ _ _ _ _)
                refine x_callC (ν := M_Cs_post) (k := 0) [vI x5, vI (-100000)] ok_M_Cs_post okv_M_Cs_post (by decide) rfl rfl rfl (qm_5 (i := 164) rfl rfl) np_M_Cs_post rfl ⟨Nat.le_of_ble_eq_true rfl, Nat.le_of_ble_eq_true rfl⟩ (Nat.le_of_ble_eq_true rfl) rfl d_Cl_act_772 (CI.kd h (fun v445 σ446 h => (?_ : WD _ _ 775 _ _ _ _ _ _)))
                refine x_iload d_Cl_act_775 rfl (?_ : WD _ _ 777 _ _ _ _ _ _)
                refine x_icmp_ne 784 d_Cl_act_777 rfl ⟨fun c447 => (?_ : WD _ _ 784 _ _ _ _ _ _), fun c447 => (?_ : WD _ _ 780 _ _ _ _ _ _)⟩
                · replace h := h.1 c447
                  refine x_iconst d_Cl_act_784 (by decide) (?_ : WD _ _ 785 _ _ _ _ _ _)
                  exact x_zreturn rfl d_Cl_act_785 (by decide) h
                · replace h := h.2 c447
                  refine x_iconst d_Cl_act_780 (by decide) (?_ : WD _ _ 781 _ _ _ _ _ _)
                  refine x_goto 785 d_Cl_act_781 rfl ?_
                  exact x_zreturn rfl d_Cl_act_785 (by decide) h
        · replace h := h.2 c52
          refine x_aload_nP (some x2) d_Cl_act_466 rfl (?_ : WD _ _ 467 _ _ _ _ _ _)
          refine x_bipush d_Cl_act_467 (by decide) (by decide) (?_ : WD _ _ 469 _ _ _ _ _ _)
          refine x_callS (ν := M_Cl_draw) [vA x2, vI 30] ok_M_Cl_draw oks_M_Cl_draw (qm_3 (i := 179) rfl rfl) np_M_Cl_draw rfl ⟨Nat.le_of_ble_eq_true rfl, Nat.le_of_ble_eq_true rfl⟩ (Nat.le_of_ble_eq_true rfl) rfl d_Cl_act_469 (Nat.zero_le _) (Nat.zero_le _) (DI.k h (fun v449 w448 gw448 h => (?_ : WD _ _ 472 _ _ _ _ _ _)))
          refine x_if_ne 480 d_Cl_act_472 rfl ⟨fun c450 => (?_ : WD _ _ 480 _ _ _ _ _ _), fun c450 => (?_ : WD _ _ 475 _ _ _ _ _ _)⟩
          · replace h := h.1 c450
            refine x_aload_nP (some x2) d_Cl_act_480 rfl (?_ : WD _ _ 481 _ _ _ _ _ _)
            refine x_iconst d_Cl_act_481 (by decide) (?_ : WD _ _ 482 _ _ _ _ _ _)
            refine x_callS (ν := M_Cl_draw) [vA x2, vI 5] ok_M_Cl_draw oks_M_Cl_draw (qm_3 (i := 179) rfl rfl) np_M_Cl_draw rfl ⟨Nat.le_of_ble_eq_true rfl, Nat.le_of_ble_eq_true rfl⟩ (Nat.le_of_ble_eq_true rfl) rfl d_Cl_act_482 (Nat.zero_le _) (Nat.zero_le _) (DI.k h (fun v452 w451 gw451 h => (?_ : WD _ _ 485 _ _ _ _ _ _)))
            refine x_pick (ls' := [(0, vR 0), (1, vA x1), (2, vA x2), (4, vI x4)]) [1, 2, 3, 5] rfl ?_
            exact h
          · replace h := h.2 c450
            refine x_bipush d_Cl_act_475 (by decide) (by decide) (?_ : WD _ _ 477 _ _ _ _ _ _)
            refine x_goto 485 d_Cl_act_477 rfl ?_
            refine x_pick (ls' := [(0, vR 0), (1, vA x1), (2, vA x2), (4, vI x4)]) [1, 2, 3, 5] rfl ?_
            exact h
      · replace h := h.2 c51
        refine x_aload_nP (some x2) d_Cl_act_160 rfl (?_ : WD _ _ 161 _ _ _ _ _ _)
        refine x_bipush d_Cl_act_161 (by decide) (by decide) (?_ : WD _ _ 163 _ _ _ _ _ _)
        refine x_callS (ν := M_Cl_draw) [vA x2, vI 6] ok_M_Cl_draw oks_M_Cl_draw (qm_3 (i := 179) rfl rfl) np_M_Cl_draw rfl ⟨Nat.le_of_ble_eq_true rfl, Nat.le_of_ble_eq_true rfl⟩ (Nat.le_of_ble_eq_true rfl) rfl d_Cl_act_163 (Nat.zero_le _) (Nat.zero_le _) (DI.k h (fun v454 w453 gw453 h => (?_ : WD _ _ 166 _ _ _ _ _ _)))
        refine x_istore (ls' := [(8, vI v454), (7, vP y0), (0, vR 0), (1, vA x1), (2, vA x2), (3, vI x3), (4, vI x4), (5, vI x5)]) d_Cl_act_166 (by decide) rfl (?_ : WD _ _ 168 _ _ _ _ _ _)
        refine x_iload d_Cl_act_168 rfl (?_ : WD _ _ 170 _ _ _ _ _ _)
        refine x_if_ne 198 d_Cl_act_170 rfl ⟨fun c455 => (?_ : WD _ _ 198 _ _ _ _ _ _), fun c455 => (?_ : WD _ _ 173 _ _ _ _ _ _)⟩
        · replace h := h.1 c455
          refine x_iload d_Cl_act_198 rfl (?_ : WD _ _ 200 _ _ _ _ _ _)
          refine x_iconst d_Cl_act_200 (by decide) (?_ : WD _ _ 201 _ _ _ _ _ _)
          refine x_icmp_ne 214 d_Cl_act_201 rfl ⟨fun c456 => (?_ : WD _ _ 214 _ _ _ _ _ _), fun c456 => (?_ : WD _ _ 204 _ _ _ _ _ _)⟩
          · replace h := h.1 c456
            refine x_iload d_Cl_act_214 rfl (?_ : WD _ _ 216 _ _ _ _ _ _)
            refine x_iconst d_Cl_act_216 (by decide) (?_ : WD _ _ 217 _ _ _ _ _ _)
            refine x_icmp_ne 229 d_Cl_act_217 rfl ⟨fun c457 => (?_ : WD _ _ 229 _ _ _ _ _ _), fun c457 => (?_ : WD _ _ 220 _ _ _ _ _ _)⟩
            · replace h := h.1 c457
              refine x_iload d_Cl_act_229 rfl (?_ : WD _ _ 231 _ _ _ _ _ _)
              refine x_iconst d_Cl_act_231 (by decide) (?_ : WD _ _ 232 _ _ _ _ _ _)
              refine x_icmp_ne 243 d_Cl_act_232 rfl ⟨fun c458 => (?_ : WD _ _ 243 _ _ _ _ _ _), fun c458 => (?_ : WD _ _ 235 _ _ _ _ _ _)⟩
              · replace h := h.1 c458
                refine x_aload_nP (some x2) d_Cl_act_243 rfl (?_ : WD _ _ 244 _ _ _ _ _ _)
                refine x_bipush d_Cl_act_244 (by decide) (by decide) (?_ : WD _ _ 246 _ _ _ _ _ _)
                refine x_callS (ν := M_Cl_draw) [vA x2, vI 40] ok_M_Cl_draw oks_M_Cl_draw (qm_3 (i := 179) rfl rfl) np_M_Cl_draw rfl ⟨Nat.le_of_ble_eq_true rfl, Nat.le_of_ble_eq_true rfl⟩ (Nat.le_of_ble_eq_true rfl) rfl d_Cl_act_246 (Nat.zero_le _) (Nat.zero_le _) (DI.k h (fun v460 w459 gw459 h => (?_ : WD _ _ 249 _ _ _ _ _ _)))
                refine x_if_ne 257 d_Cl_act_249 rfl ⟨fun c461 => (?_ : WD _ _ 257 _ _ _ _ _ _), fun c461 => (?_ : WD _ _ 252 _ _ _ _ _ _)⟩
                · replace h := h.1 c461
                  refine x_aload_nP (some x2) d_Cl_act_257 rfl (?_ : WD _ _ 258 _ _ _ _ _ _)
                  refine x_bipush d_Cl_act_258 (by decide) (by decide) (?_ : WD _ _ 260 _ _ _ _ _ _)
                  refine x_callS (ν := M_Cl_draw) [vA x2, vI 60] ok_M_Cl_draw oks_M_Cl_draw (qm_3 (i := 179) rfl rfl) np_M_Cl_draw rfl ⟨Nat.le_of_ble_eq_true rfl, Nat.le_of_ble_eq_true rfl⟩ (Nat.le_of_ble_eq_true rfl) rfl d_Cl_act_260 (Nat.zero_le _) (Nat.zero_le _) (DI.k h (fun v463 w462 gw462 h => (?_ : WD _ _ 263 _ _ _ _ _ _)))
                  refine x_if_ne 271 d_Cl_act_263 rfl ⟨fun c464 => (?_ : WD _ _ 271 _ _ _ _ _ _), fun c464 => (?_ : WD _ _ 266 _ _ _ _ _ _)⟩
                  · replace h := h.1 c464
                    refine x_aload_nP (some x2) d_Cl_act_271 rfl (?_ : WD _ _ 272 _ _ _ _ _ _)
                    refine x_sipush d_Cl_act_272 (by decide) (by decide) (?_ : WD _ _ 275 _ _ _ _ _ _)
                    refine x_callS (ν := M_Cl_draw) [vA x2, vI 900] ok_M_Cl_draw oks_M_Cl_draw (qm_3 (i := 179) rfl rfl) np_M_Cl_draw rfl ⟨Nat.le_of_ble_eq_true rfl, Nat.le_of_ble_eq_true rfl⟩ (Nat.le_of_ble_eq_true rfl) rfl d_Cl_act_275 (Nat.zero_le _) (Nat.zero_le _) (DI.k h (fun v466 w465 gw465 h => (?_ : WD _ _ 278 _ _ _ _ _ _)))
                    refine x_pick (ls' := [(0, vR 0), (1, vA x1), (8, vI v454)]) [2, 3, 0] rfl ?_
                    exact h
                  · replace h := h.2 c464
                    refine x_ldc 1000003 d_Cl_act_266 (qm_5 (i := 130) rfl rfl) (by decide) (by decide) (?_ : WD _ _ 268 _ _ _ _ _ _)
                    refine x_goto 278 d_Cl_act_268 rfl ?_
                    refine x_pick (ls' := [(0, vR 0), (1, vA x1), (8, vI v454)]) [2, 3, 0] rfl ?_
                    exact h
                · replace h := h.2 c461
                  refine x_ldc 1000004 d_Cl_act_252 (qm_5 (i := 129) rfl rfl) (by decide) (by decide) (?_ : WD _ _ 254 _ _ _ _ _ _)
                  refine x_goto 278 d_Cl_act_254 rfl ?_
                  refine x_pick (ls' := [(0, vR 0), (1, vA x1), (8, vI v454)]) [2, 3, 0] rfl ?_
                  exact h
              · replace h := h.2 c458
                refine x_aload_nP (some x2) d_Cl_act_235 rfl (?_ : WD _ _ 236 _ _ _ _ _ _)
                refine x_iconst d_Cl_act_236 (by decide) (?_ : WD _ _ 237 _ _ _ _ _ _)
                refine x_callS (ν := M_Cl_draw) [vA x2, vI 3] ok_M_Cl_draw oks_M_Cl_draw (qm_3 (i := 179) rfl rfl) np_M_Cl_draw rfl ⟨Nat.le_of_ble_eq_true rfl, Nat.le_of_ble_eq_true rfl⟩ (Nat.le_of_ble_eq_true rfl) rfl d_Cl_act_237 (Nat.zero_le _) (Nat.zero_le _) (DI.k h (fun v468 w467 gw467 h => (?_ : WD _ _ 240 _ _ _ _ _ _)))
                refine x_goto 278 d_Cl_act_240 rfl ?_
                refine x_pick (ls' := [(0, vR 0), (1, vA x1), (8, vI v454)]) [2, 3, 0] rfl ?_
                exact h
            · replace h := h.2 c457
              refine x_aload_nP (some x2) d_Cl_act_220 rfl (?_ : WD _ _ 221 _ _ _ _ _ _)
              refine x_bipush d_Cl_act_221 (by decide) (by decide) (?_ : WD _ _ 223 _ _ _ _ _ _)
              refine x_callS (ν := M_Cl_draw) [vA x2, vI 11] ok_M_Cl_draw oks_M_Cl_draw (qm_3 (i := 179) rfl rfl) np_M_Cl_draw rfl ⟨Nat.le_of_ble_eq_true rfl, Nat.le_of_ble_eq_true rfl⟩ (Nat.le_of_ble_eq_true rfl) rfl d_Cl_act_223 (Nat.zero_le _) (Nat.zero_le _) (DI.k h (fun v470 w469 gw469 h => (?_ : WD _ _ 226 _ _ _ _ _ _)))
              refine x_goto 278 d_Cl_act_226 rfl ?_
              refine x_pick (ls' := [(0, vR 0), (1, vA x1), (8, vI v454)]) [2, 3, 0] rfl ?_
              exact h
          · replace h := h.2 c456
            refine x_aload_nP (some x2) d_Cl_act_204 rfl (?_ : WD _ _ 205 _ _ _ _ _ _)
            refine x_sipush d_Cl_act_205 (by decide) (by decide) (?_ : WD _ _ 208 _ _ _ _ _ _)
            refine x_callS (ν := M_Cl_draw) [vA x2, vI 502] ok_M_Cl_draw oks_M_Cl_draw (qm_3 (i := 179) rfl rfl) np_M_Cl_draw rfl ⟨Nat.le_of_ble_eq_true rfl, Nat.le_of_ble_eq_true rfl⟩ (Nat.le_of_ble_eq_true rfl) rfl d_Cl_act_208 (Nat.zero_le _) (Nat.zero_le _) (DI.k h (fun v472 w471 gw471 h => (?_ : WD _ _ 211 _ _ _ _ _ _)))
            refine x_goto 278 d_Cl_act_211 rfl ?_
            refine x_pick (ls' := [(0, vR 0), (1, vA x1), (8, vI v454)]) [2, 3, 0] rfl ?_
            exact h
        · replace h := h.2 c455
          refine x_aload_nP (some x2) d_Cl_act_173 rfl (?_ : WD _ _ 174 _ _ _ _ _ _)
          refine x_bipush d_Cl_act_174 (by decide) (by decide) (?_ : WD _ _ 176 _ _ _ _ _ _)
          refine x_callS (ν := M_Cl_draw) [vA x2, vI 9] ok_M_Cl_draw oks_M_Cl_draw (qm_3 (i := 179) rfl rfl) np_M_Cl_draw rfl ⟨Nat.le_of_ble_eq_true rfl, Nat.le_of_ble_eq_true rfl⟩ (Nat.le_of_ble_eq_true rfl) rfl d_Cl_act_176 (Nat.zero_le _) (Nat.zero_le _) (DI.k h (fun v474 w473 gw473 h => (?_ : WD _ _ 179 _ _ _ _ _ _)))
          refine x_if_ne 186 d_Cl_act_179 rfl ⟨fun c475 => (?_ : WD _ _ 186 _ _ _ _ _ _), fun c475 => (?_ : WD _ _ 182 _ _ _ _ _ _)⟩
          · replace h := h.1 c475
            refine x_iconst d_Cl_act_186 (by decide) (?_ : WD _ _ 187 _ _ _ _ _ _)
            refine x_aload_nP (some x2) d_Cl_act_187 rfl (?_ : WD _ _ 188 _ _ _ _ _ _)
            refine x_sipush d_Cl_act_188 (by decide) (by decide) (?_ : WD _ _ 191 _ _ _ _ _ _)
            refine x_callS (ν := M_Cl_draw) [vA x2, vI 6000] ok_M_Cl_draw oks_M_Cl_draw (qm_3 (i := 179) rfl rfl) np_M_Cl_draw rfl ⟨Nat.le_of_ble_eq_true rfl, Nat.le_of_ble_eq_true rfl⟩ (Nat.le_of_ble_eq_true rfl) rfl d_Cl_act_191 (Nat.zero_le _) (Nat.zero_le _) (DI.k h (fun v477 w476 gw476 h => (?_ : WD _ _ 194 _ _ _ _ _ _)))
            obtain ⟨h478, h⟩ := h
            refine x_iadd d_Cl_act_194 h478 (?_ : WD _ _ 195 _ _ _ _ _ _)
            refine x_goto 278 d_Cl_act_195 rfl ?_
            refine x_pick (ls' := [(0, vR 0), (1, vA x1), (8, vI v454)]) [2, 3, 0] rfl ?_
            exact h
          · replace h := h.2 c475
            refine x_iconst d_Cl_act_182 (by decide) (?_ : WD _ _ 183 _ _ _ _ _ _)
            refine x_goto 278 d_Cl_act_183 rfl ?_
            refine x_pick (ls' := [(0, vR 0), (1, vA x1), (8, vI v454)]) [2, 3, 0] rfl ?_
            exact h
  · replace h := h.2 c23
    refine x_aload_nP (some x1) d_Cl_act_69 rfl (?_ : WD _ _ 70 _ _ _ _ _ _)
    refine x_aload_nP (some x2) d_Cl_act_70 rfl (?_ : WD _ _ 71 _ _ _ _ _ _)
    obtain ⟨c479, s480, h481, h482, h⟩ := h
    refine x_callS (ν := M_Cl_drawn) [vA x1, vA x2] ok_M_Cl_drawn oks_M_Cl_drawn (qm_3 (i := 185) rfl rfl) np_M_Cl_drawn rfl ⟨Nat.le_of_ble_eq_true rfl, Nat.le_of_ble_eq_true rfl⟩ (Nat.le_of_ble_eq_true rfl) rfl d_Cl_act_71 h481 h482 (DP.k h (fun v484 w483 gw483 h => (?_ : WD _ _ 74 _ _ _ _ _ _)))
    refine x_astoreP v484 (ls' := [(8, vP v484), (7, vP y0), (0, vR 0), (1, vA x1), (2, vA x2), (3, vI x3), (4, vI x4), (5, vI x5)]) d_Cl_act_74 (by decide) rfl (?_ : WD _ _ 76 _ _ _ _ _ _)
    refine x_aload_n d_Cl_act_76 rfl (?_ : WD _ _ 77 _ _ _ _ _ _)
    refine x_sipush d_Cl_act_77 (by decide) (by decide) (?_ : WD _ _ 80 _ _ _ _ _ _)
    refine x_callC (ν := M_Cs_text) (k := 0) [vI 901] ok_M_Cs_text okv_M_Cs_text (by decide) rfl rfl rfl (qm_4 (i := 237) rfl rfl) np_M_Cs_text rfl ⟨Nat.le_of_ble_eq_true rfl, Nat.le_of_ble_eq_true rfl⟩ (Nat.le_of_ble_eq_true rfl) rfl d_Cl_act_80 (CI.kd h (fun v485 σ486 h => (?_ : WD _ _ 83 _ _ _ _ _ _)))
    refine x_bipush d_Cl_act_83 (by decide) (by decide) (?_ : WD _ _ 85 _ _ _ _ _ _)
    refine x_icmp_ne 148 d_Cl_act_85 rfl ⟨fun c487 => (?_ : WD _ _ 148 _ _ _ _ _ _), fun c487 => (?_ : WD _ _ 88 _ _ _ _ _ _)⟩
    · replace h := h.1 c487
      refine x_iconst d_Cl_act_148 (by decide) (?_ : WD _ _ 149 _ _ _ _ _ _)
      exact x_zreturn rfl d_Cl_act_149 (by decide) h
    · replace h := h.2 c487
      refine x_aload_n d_Cl_act_88 rfl (?_ : WD _ _ 89 _ _ _ _ _ _)
      refine x_iconst d_Cl_act_89 (by decide) (?_ : WD _ _ 90 _ _ _ _ _ _)
      refine x_callC (ν := M_Cs_text) (k := 0) [vI (-1)] ok_M_Cs_text okv_M_Cs_text (by decide) rfl rfl rfl (qm_4 (i := 237) rfl rfl) np_M_Cs_text rfl ⟨Nat.le_of_ble_eq_true rfl, Nat.le_of_ble_eq_true rfl⟩ (Nat.le_of_ble_eq_true rfl) rfl d_Cl_act_90 (CI.kd h (fun v488 σ489 h => (?_ : WD _ _ 93 _ _ _ _ _ _)))
      refine x_bipush d_Cl_act_93 (by decide) (by decide) (?_ : WD _ _ 95 _ _ _ _ _ _)
      refine x_icmp_ne 148 d_Cl_act_95 rfl ⟨fun c490 => (?_ : WD _ _ 148 _ _ _ _ _ _), fun c490 => (?_ : WD _ _ 98 _ _ _ _ _ _)⟩
      · replace h := h.1 c490
        refine x_iconst d_Cl_act_148 (by decide) (?_ : WD _ _ 149 _ _ _ _ _ _)
        exact x_zreturn rfl d_Cl_act_149 (by decide) h
      · replace h := h.2 c490
        refine x_aload_n d_Cl_act_98 rfl (?_ : WD _ _ 99 _ _ _ _ _ _)
        refine x_aload_n d_Cl_act_99 rfl (?_ : WD _ _ 100 _ _ _ _ _ _)
        refine x_aloadP v484 d_Cl_act_100 rfl (?_ : WD _ _ 102 _ _ _ _ _ _)
        obtain ⟨a491, e492, h⟩ := h
        rw [e492]
        obtain ⟨c493, s494, h495, h496, h⟩ := h
        refine x_callS (ν := M_Cl_feeds) [vR 0, vA a491] ok_M_Cl_feeds oks_M_Cl_feeds (qm_5 (i := 112) rfl rfl) np_M_Cl_feeds rfl ⟨Nat.le_of_ble_eq_true rfl, Nat.le_of_ble_eq_true rfl⟩ (Nat.le_of_ble_eq_true rfl) rfl d_Cl_act_102 h495 h496 (DI.k h (fun v498 w497 gw497 h => (?_ : WD _ _ 105 _ _ _ _ _ _)))
        refine x_callC (ν := M_Cs_text) (k := 0) [vI v498] ok_M_Cs_text okv_M_Cs_text (by decide) rfl rfl rfl (qm_4 (i := 237) rfl rfl) np_M_Cs_text rfl ⟨Nat.le_of_ble_eq_true rfl, Nat.le_of_ble_eq_true rfl⟩ (Nat.le_of_ble_eq_true rfl) rfl d_Cl_act_105 (CI.kd h (fun v499 σ500 h => (?_ : WD _ _ 108 _ _ _ _ _ _)))
        refine x_aload_nP (some x1) d_Cl_act_108 rfl (?_ : WD _ _ 109 _ _ _ _ _ _)
        obtain ⟨k501, h⟩ := h
        refine x_getP (ref := "CoinSamplerLaw$Books") (j := 0) 0 k501 clk_11 (by decide) (qm_2 (i := 156) rfl rfl) (Or.inl rfl) rfl rfl d_Cl_act_109 (y := (wR w497 x1 0)) rfl (?_ : WD _ _ 112 _ _ _ _ _ _)
        obtain ⟨a502, e503, h⟩ := h
        rw [e503]
        obtain ⟨k504, h⟩ := h
        refine x_callV (ν := M_Al_size) [] ok_M_Al_size okv_M_Al_size k504 rfl rfl (qm_3 (i := 178) rfl rfl) np_M_Al_size rfl ⟨Nat.le_of_ble_eq_true rfl, Nat.le_of_ble_eq_true rfl⟩ (Nat.le_of_ble_eq_true rfl) rfl d_Cl_act_112 (Nat.zero_le _) (Nat.zero_le _) (DI.k h (fun v506 w505 gw505 h => (?_ : WD _ _ 115 _ _ _ _ _ _)))
        refine x_icmp_ne 148 d_Cl_act_115 rfl ⟨fun c507 => (?_ : WD _ _ 148 _ _ _ _ _ _), fun c507 => (?_ : WD _ _ 118 _ _ _ _ _ _)⟩
        · replace h := h.1 c507
          refine x_iconst d_Cl_act_148 (by decide) (?_ : WD _ _ 149 _ _ _ _ _ _)
          exact x_zreturn rfl d_Cl_act_149 (by decide) h
        · replace h := h.2 c507
          refine x_aload_n d_Cl_act_118 rfl (?_ : WD _ _ 119 _ _ _ _ _ _)
          refine x_iconst d_Cl_act_119 (by decide) (?_ : WD _ _ 120 _ _ _ _ _ _)
          refine x_callC (ν := M_Cs_fault) (k := 0) [vI 0] ok_M_Cs_fault okv_M_Cs_fault (by decide) rfl rfl rfl (qm_5 (i := 125) rfl rfl) np_M_Cs_fault rfl ⟨Nat.le_of_ble_eq_true rfl, Nat.le_of_ble_eq_true rfl⟩ (Nat.le_of_ble_eq_true rfl) rfl d_Cl_act_120 (CI.kd h (fun v508 σ509 h => (?_ : WD _ _ 123 _ _ _ _ _ _)))
          refine x_if_ne 148 d_Cl_act_123 rfl ⟨fun c510 => (?_ : WD _ _ 148 _ _ _ _ _ _), fun c510 => (?_ : WD _ _ 126 _ _ _ _ _ _)⟩
          · replace h := h.1 c510
            refine x_iconst d_Cl_act_148 (by decide) (?_ : WD _ _ 149 _ _ _ _ _ _)
            exact x_zreturn rfl d_Cl_act_149 (by decide) h
          · replace h := h.2 c510
            refine x_aload_n d_Cl_act_126 rfl (?_ : WD _ _ 127 _ _ _ _ _ _)
            refine x_iconst d_Cl_act_127 (by decide) (?_ : WD _ _ 128 _ _ _ _ _ _)
            refine x_callC (ν := M_Cs_fault) (k := 0) [vI 1] ok_M_Cs_fault okv_M_Cs_fault (by decide) rfl rfl rfl (qm_5 (i := 125) rfl rfl) np_M_Cs_fault rfl ⟨Nat.le_of_ble_eq_true rfl, Nat.le_of_ble_eq_true rfl⟩ (Nat.le_of_ble_eq_true rfl) rfl d_Cl_act_128 (CI.kd h (fun v511 σ512 h => (?_ : WD _ _ 131 _ _ _ _ _ _)))
            refine x_iconst d_Cl_act_131 (by decide) (?_ : WD _ _ 132 _ _ _ _ _ _)
            refine x_icmp_ne 148 d_Cl_act_132 rfl ⟨fun c513 => (?_ : WD _ _ 148 _ _ _ _ _ _), fun c513 => (?_ : WD _ _ 135 _ _ _ _ _ _)⟩
            · replace h := h.1 c513
              refine x_iconst d_Cl_act_148 (by decide) (?_ : WD _ _ 149 _ _ _ _ _ _)
              exact x_zreturn rfl d_Cl_act_149 (by decide) h
            · replace h := h.2 c513
              refine x_aload_n d_Cl_act_135 rfl (?_ : WD _ _ 136 _ _ _ _ _ _)
              refine x_iconst d_Cl_act_136 (by decide) (?_ : WD _ _ 137 _ _ _ _ _ _)
              refine x_callC (ν := M_Cs_fault) (k := 0) [vI 2] ok_M_Cs_fault okv_M_Cs_fault (by decide) rfl rfl rfl (qm_5 (i := 125) rfl rfl) np_M_Cs_fault rfl ⟨Nat.le_of_ble_eq_true rfl, Nat.le_of_ble_eq_true rfl⟩ (Nat.le_of_ble_eq_true rfl) rfl d_Cl_act_137 (CI.kd h (fun v514 σ515 h => (?_ : WD _ _ 140 _ _ _ _ _ _)))
              refine x_iconst d_Cl_act_140 (by decide) (?_ : WD _ _ 141 _ _ _ _ _ _)
              refine x_icmp_ne 148 d_Cl_act_141 rfl ⟨fun c516 => (?_ : WD _ _ 148 _ _ _ _ _ _), fun c516 => (?_ : WD _ _ 144 _ _ _ _ _ _)⟩
              · replace h := h.1 c516
                refine x_iconst d_Cl_act_148 (by decide) (?_ : WD _ _ 149 _ _ _ _ _ _)
                exact x_zreturn rfl d_Cl_act_149 (by decide) h
              · replace h := h.2 c516
                refine x_iconst d_Cl_act_144 (by decide) (?_ : WD _ _ 145 _ _ _ _ _ _)
                refine x_goto 149 d_Cl_act_145 rfl ?_
                exact x_zreturn rfl d_Cl_act_149 (by decide) h
set_option maxRecDepth 20000 in
theorem l_Cl_act_3 {G : Gq} {K : Int → Wd → Prop} {w : Wd} {rc rs : Nat} (x1 : Nat) (x8 : Int) (y0 : Int) (h : (¬ x8 = 0 → (¬ x8 = 1 → (¬ x8 = 2 → (¬ x8 = 3 → (1000004 ≤ y0 → WD G M_Cl_act 378 [(0, vR 0), (1, vA x1), (8, vI x8), (9, vI y0)] [vI 0] w rc rs (yI K)) ∧ (¬ 1000004 ≤ y0 → WD G M_Cl_act 378 [(0, vR 0), (1, vA x1), (8, vI x8), (9, vI y0)] [vI 1] w rc rs (yI K))) ∧ (x8 = 3 → (2 ≤ y0 → WD G M_Cl_act 378 [(0, vR 0), (1, vA x1), (8, vI x8), (9, vI y0)] [vI 0] w rc rs (yI K)) ∧ (¬ 2 ≤ y0 → WD G M_Cl_act 378 [(0, vR 0), (1, vA x1), (8, vI x8), (9, vI y0)] [vI 1] w rc rs (yI K)))) ∧ (x8 = 2 → (10 ≤ y0 → WD G M_Cl_act 378 [(0, vR 0), (1, vA x1), (8, vI x8), (9, vI y0)] [vI 0] w rc rs (yI K)) ∧ (¬ 10 ≤ y0 → WD G M_Cl_act 378 [(0, vR 0), (1, vA x1), (8, vI x8), (9, vI y0)] [vI 1] w rc rs (yI K)))) ∧ (x8 = 1 → (y0 ≤ 0 → WD G M_Cl_act 378 [(0, vR 0), (1, vA x1), (8, vI x8), (9, vI y0)] [vI 0] w rc rs (yI K)) ∧ (¬ y0 ≤ 0 → (501 ≤ y0 → WD G M_Cl_act 378 [(0, vR 0), (1, vA x1), (8, vI x8), (9, vI y0)] [vI 0] w rc rs (yI K)) ∧ (¬ 501 ≤ y0 → WD G M_Cl_act 378 [(0, vR 0), (1, vA x1), (8, vI x8), (9, vI y0)] [vI 1] w rc rs (yI K))))) ∧ (x8 = 0 → (y0 ≤ 0 → WD G M_Cl_act 378 [(0, vR 0), (1, vA x1), (8, vI x8), (9, vI y0)] [vI 0] w rc rs (yI K)) ∧ (¬ y0 ≤ 0 → WD G M_Cl_act 378 [(0, vR 0), (1, vA x1), (8, vI x8), (9, vI y0)] [vI 1] w rc rs (yI K)))) : WD G M_Cl_act 278 [(0, vR 0), (1, vA x1), (8, vI x8)] [vI y0] w rc rs (yI K) := by
  refine x_istore (ls' := [(9, vI y0), (0, vR 0), (1, vA x1), (8, vI x8)]) d_Cl_act_278 (by decide) rfl (?_ : WD _ _ 280 _ _ _ _ _ _)
  refine x_iload d_Cl_act_280 rfl (?_ : WD _ _ 282 _ _ _ _ _ _)
  refine x_if_ne 298 d_Cl_act_282 rfl ⟨fun c517 => (?_ : WD _ _ 298 _ _ _ _ _ _), fun c517 => (?_ : WD _ _ 285 _ _ _ _ _ _)⟩
  · replace h := h.1 c517
    refine x_iload d_Cl_act_298 rfl (?_ : WD _ _ 300 _ _ _ _ _ _)
    refine x_iconst d_Cl_act_300 (by decide) (?_ : WD _ _ 301 _ _ _ _ _ _)
    refine x_icmp_ne 325 d_Cl_act_301 rfl ⟨fun c518 => (?_ : WD _ _ 325 _ _ _ _ _ _), fun c518 => (?_ : WD _ _ 304 _ _ _ _ _ _)⟩
    · replace h := h.1 c518
      refine x_iload d_Cl_act_325 rfl (?_ : WD _ _ 327 _ _ _ _ _ _)
      refine x_iconst d_Cl_act_327 (by decide) (?_ : WD _ _ 328 _ _ _ _ _ _)
      refine x_icmp_ne 346 d_Cl_act_328 rfl ⟨fun c519 => (?_ : WD _ _ 346 _ _ _ _ _ _), fun c519 => (?_ : WD _ _ 331 _ _ _ _ _ _)⟩
      · replace h := h.1 c519
        refine x_iload d_Cl_act_346 rfl (?_ : WD _ _ 348 _ _ _ _ _ _)
        refine x_iconst d_Cl_act_348 (by decide) (?_ : WD _ _ 349 _ _ _ _ _ _)
        refine x_icmp_ne 366 d_Cl_act_349 rfl ⟨fun c520 => (?_ : WD _ _ 366 _ _ _ _ _ _), fun c520 => (?_ : WD _ _ 352 _ _ _ _ _ _)⟩
        · replace h := h.1 c520
          refine x_iload d_Cl_act_366 rfl (?_ : WD _ _ 368 _ _ _ _ _ _)
          refine x_ldc 1000004 d_Cl_act_368 (qm_5 (i := 129) rfl rfl) (by decide) (by decide) (?_ : WD _ _ 370 _ _ _ _ _ _)
          refine x_icmp_ge 377 d_Cl_act_370 rfl ⟨fun c521 => (?_ : WD _ _ 377 _ _ _ _ _ _), fun c521 => (?_ : WD _ _ 373 _ _ _ _ _ _)⟩
          · replace h := h.1 c521
            refine x_iconst d_Cl_act_377 (by decide) (?_ : WD _ _ 378 _ _ _ _ _ _)
            refine x_pick (ls' := [(0, vR 0), (1, vA x1), (8, vI x8), (9, vI y0)]) [1, 2, 3, 0] rfl ?_
            exact h
          · replace h := h.2 c521
            refine x_iconst d_Cl_act_373 (by decide) (?_ : WD _ _ 374 _ _ _ _ _ _)
            refine x_goto 378 d_Cl_act_374 rfl ?_
            refine x_pick (ls' := [(0, vR 0), (1, vA x1), (8, vI x8), (9, vI y0)]) [1, 2, 3, 0] rfl ?_
            exact h
        · replace h := h.2 c520
          refine x_iload d_Cl_act_352 rfl (?_ : WD _ _ 354 _ _ _ _ _ _)
          refine x_iconst d_Cl_act_354 (by decide) (?_ : WD _ _ 355 _ _ _ _ _ _)
          refine x_icmp_ge 362 d_Cl_act_355 rfl ⟨fun c522 => (?_ : WD _ _ 362 _ _ _ _ _ _), fun c522 => (?_ : WD _ _ 358 _ _ _ _ _ _)⟩
          · replace h := h.1 c522
            refine x_iconst d_Cl_act_362 (by decide) (?_ : WD _ _ 363 _ _ _ _ _ _)
            refine x_goto 378 d_Cl_act_363 rfl ?_
            refine x_pick (ls' := [(0, vR 0), (1, vA x1), (8, vI x8), (9, vI y0)]) [1, 2, 3, 0] rfl ?_
            exact h
          · replace h := h.2 c522
            refine x_iconst d_Cl_act_358 (by decide) (?_ : WD _ _ 359 _ _ _ _ _ _)
            refine x_goto 378 d_Cl_act_359 rfl ?_
            refine x_pick (ls' := [(0, vR 0), (1, vA x1), (8, vI x8), (9, vI y0)]) [1, 2, 3, 0] rfl ?_
            exact h
      · replace h := h.2 c519
        refine x_iload d_Cl_act_331 rfl (?_ : WD _ _ 333 _ _ _ _ _ _)
        refine x_bipush d_Cl_act_333 (by decide) (by decide) (?_ : WD _ _ 335 _ _ _ _ _ _)
        refine x_icmp_ge 342 d_Cl_act_335 rfl ⟨fun c523 => (?_ : WD _ _ 342 _ _ _ _ _ _), fun c523 => (?_ : WD _ _ 338 _ _ _ _ _ _)⟩
        · replace h := h.1 c523
          refine x_iconst d_Cl_act_342 (by decide) (?_ : WD _ _ 343 _ _ _ _ _ _)
          refine x_goto 378 d_Cl_act_343 rfl ?_
          refine x_pick (ls' := [(0, vR 0), (1, vA x1), (8, vI x8), (9, vI y0)]) [1, 2, 3, 0] rfl ?_
          exact h
        · replace h := h.2 c523
          refine x_iconst d_Cl_act_338 (by decide) (?_ : WD _ _ 339 _ _ _ _ _ _)
          refine x_goto 378 d_Cl_act_339 rfl ?_
          refine x_pick (ls' := [(0, vR 0), (1, vA x1), (8, vI x8), (9, vI y0)]) [1, 2, 3, 0] rfl ?_
          exact h
    · replace h := h.2 c518
      refine x_iload d_Cl_act_304 rfl (?_ : WD _ _ 306 _ _ _ _ _ _)
      refine x_if_le 321 d_Cl_act_306 rfl ⟨fun c524 => (?_ : WD _ _ 321 _ _ _ _ _ _), fun c524 => (?_ : WD _ _ 309 _ _ _ _ _ _)⟩
      · replace h := h.1 c524
        refine x_iconst d_Cl_act_321 (by decide) (?_ : WD _ _ 322 _ _ _ _ _ _)
        refine x_goto 378 d_Cl_act_322 rfl ?_
        refine x_pick (ls' := [(0, vR 0), (1, vA x1), (8, vI x8), (9, vI y0)]) [1, 2, 3, 0] rfl ?_
        exact h
      · replace h := h.2 c524
        refine x_iload d_Cl_act_309 rfl (?_ : WD _ _ 311 _ _ _ _ _ _)
        refine x_sipush d_Cl_act_311 (by decide) (by decide) (?_ : WD _ _ 314 _ _ _ _ _ _)
        refine x_icmp_ge 321 d_Cl_act_314 rfl ⟨fun c525 => (?_ : WD _ _ 321 _ _ _ _ _ _), fun c525 => (?_ : WD _ _ 317 _ _ _ _ _ _)⟩
        · replace h := h.1 c525
          refine x_iconst d_Cl_act_321 (by decide) (?_ : WD _ _ 322 _ _ _ _ _ _)
          refine x_goto 378 d_Cl_act_322 rfl ?_
          refine x_pick (ls' := [(0, vR 0), (1, vA x1), (8, vI x8), (9, vI y0)]) [1, 2, 3, 0] rfl ?_
          exact h
        · replace h := h.2 c525
          refine x_iconst d_Cl_act_317 (by decide) (?_ : WD _ _ 318 _ _ _ _ _ _)
          refine x_goto 378 d_Cl_act_318 rfl ?_
          refine x_pick (ls' := [(0, vR 0), (1, vA x1), (8, vI x8), (9, vI y0)]) [1, 2, 3, 0] rfl ?_
          exact h
  · replace h := h.2 c517
    refine x_iload d_Cl_act_285 rfl (?_ : WD _ _ 287 _ _ _ _ _ _)
    refine x_if_le 294 d_Cl_act_287 rfl ⟨fun c526 => (?_ : WD _ _ 294 _ _ _ _ _ _), fun c526 => (?_ : WD _ _ 290 _ _ _ _ _ _)⟩
    · replace h := h.1 c526
      refine x_iconst d_Cl_act_294 (by decide) (?_ : WD _ _ 295 _ _ _ _ _ _)
      refine x_goto 378 d_Cl_act_295 rfl ?_
      refine x_pick (ls' := [(0, vR 0), (1, vA x1), (8, vI x8), (9, vI y0)]) [1, 2, 3, 0] rfl ?_
      exact h
    · replace h := h.2 c526
      refine x_iconst d_Cl_act_290 (by decide) (?_ : WD _ _ 291 _ _ _ _ _ _)
      refine x_goto 378 d_Cl_act_291 rfl ?_
      refine x_pick (ls' := [(0, vR 0), (1, vA x1), (8, vI x8), (9, vI y0)]) [1, 2, 3, 0] rfl ?_
      exact h
set_option maxRecDepth 20000 in
theorem l_Cl_act_7 {G : Gq} {K : Int → Wd → Prop} {w : Wd} {rc rs : Nat} (x1 : Nat) (x2 : Nat) (x4 : Int) (y0 : Int) (h : DI G M_Cl_draw [vA x2, vI 30] w 0 0 (fun v528 w527 => (¬ v528 = 0 → DI G M_Cl_draw [vA x2, vI 300] w527 0 0 (fun v531 w530 => WD G M_Cl_act 509 [(0, vR 0), (1, vA x1), (2, vA x2), (4, vI x4), (8, vI y0)] [vI v531] w530 rc rs (yI K))) ∧ (v528 = 0 → WD G M_Cl_act 509 [(0, vR 0), (1, vA x1), (2, vA x2), (4, vI x4), (8, vI y0)] [vI 10000] w527 rc rs (yI K)))) : WD G M_Cl_act 485 [(0, vR 0), (1, vA x1), (2, vA x2), (4, vI x4)] [vI y0] w rc rs (yI K) := by
  refine x_istore (ls' := [(8, vI y0), (0, vR 0), (1, vA x1), (2, vA x2), (4, vI x4)]) d_Cl_act_485 (by decide) rfl (?_ : WD _ _ 487 _ _ _ _ _ _)
  refine x_aload_nP (some x2) d_Cl_act_487 rfl (?_ : WD _ _ 488 _ _ _ _ _ _)
  refine x_bipush d_Cl_act_488 (by decide) (by decide) (?_ : WD _ _ 490 _ _ _ _ _ _)
  refine x_callS (ν := M_Cl_draw) [vA x2, vI 30] ok_M_Cl_draw oks_M_Cl_draw (qm_3 (i := 179) rfl rfl) np_M_Cl_draw rfl ⟨Nat.le_of_ble_eq_true rfl, Nat.le_of_ble_eq_true rfl⟩ (Nat.le_of_ble_eq_true rfl) rfl d_Cl_act_490 (Nat.zero_le _) (Nat.zero_le _) (DI.k h (fun v528 w527 gw527 h => (?_ : WD _ _ 493 _ _ _ _ _ _)))
  refine x_if_ne 502 d_Cl_act_493 rfl ⟨fun c529 => (?_ : WD _ _ 502 _ _ _ _ _ _), fun c529 => (?_ : WD _ _ 496 _ _ _ _ _ _)⟩
  · replace h := h.1 c529
    refine x_aload_nP (some x2) d_Cl_act_502 rfl (?_ : WD _ _ 503 _ _ _ _ _ _)
    refine x_sipush d_Cl_act_503 (by decide) (by decide) (?_ : WD _ _ 506 _ _ _ _ _ _)
    refine x_callS (ν := M_Cl_draw) [vA x2, vI 300] ok_M_Cl_draw oks_M_Cl_draw (qm_3 (i := 179) rfl rfl) np_M_Cl_draw rfl ⟨Nat.le_of_ble_eq_true rfl, Nat.le_of_ble_eq_true rfl⟩ (Nat.le_of_ble_eq_true rfl) rfl d_Cl_act_506 (Nat.zero_le _) (Nat.zero_le _) (DI.k h (fun v531 w530 gw530 h => (?_ : WD _ _ 509 _ _ _ _ _ _)))
    refine x_pick (ls' := [(0, vR 0), (1, vA x1), (2, vA x2), (4, vI x4), (8, vI y0)]) [1, 2, 3, 4, 0] rfl ?_
    exact h
  · replace h := h.2 c529
    refine x_sipush d_Cl_act_496 (by decide) (by decide) (?_ : WD _ _ 499 _ _ _ _ _ _)
    refine x_goto 509 d_Cl_act_499 rfl ?_
    refine x_pick (ls' := [(0, vR 0), (1, vA x1), (2, vA x2), (4, vI x4), (8, vI y0)]) [1, 2, 3, 4, 0] rfl ?_
    exact h
set_option maxRecDepth 20000 in
theorem l_Cl_act_10 {G : Gq} {K : Int → Wd → Prop} {w : Wd} {rc rs : Nat} (x1 : Nat) (x6 : Int) (x8 : Int) (x9 : Option Nat) (h : ∃ a532 : Nat, x9 = some a532 ∧ ((Is G w a532 (kO 15)) ∧ DI G M_Ai_hasNext [vA a532] w 0 0 (fun v536 w535 => (v536 = 0 → CI M_Cs_interval [vR 0, vI x8] (wS w535) (fun v538 σ539 => (¬ v538 = x6 → K 0 (uS w535 σ539)) ∧ (v538 = x6 → K 1 (uS w535 σ539)))) ∧ (¬ v536 = 0 → DP G M_Ai_next [vA a532] w535 0 0 (fun v542 w541 => ∃ a543 : Nat, v542 = some a543 ∧ ((Is G w541 a543 (kO 13)) ∧ (Is G w541 x1 (kO 11)) ∧ DI G M_Bo_certain [vA x1, vA a543] w541 0 0 (fun v548 w547 => (v548 = 0 → (inR (x6 + 0)) ∧ WD G M_Cl_act 1149 [(0, vR 0), (1, vA x1), (6, vI (x6 + 0)), (8, vI x8), (9, vP (some a532))] [] w547 rc rs (yI K)) ∧ (¬ v548 = 0 → (inR (x6 + 1)) ∧ WD G M_Cl_act 1149 [(0, vR 0), (1, vA x1), (6, vI (x6 + 1)), (8, vI x8), (9, vP (some a532))] [] w547 rc rs (yI K))))))))) : WD G M_Cl_act 1149 [(0, vR 0), (1, vA x1), (6, vI x6), (8, vI x8), (9, vP x9)] [] w rc rs (yI K) := by
  refine x_aloadP x9 d_Cl_act_1149 rfl (?_ : WD _ _ 1151 _ _ _ _ _ _)
  obtain ⟨a532, e533, h⟩ := h
  rw [e533]
  obtain ⟨k534, h⟩ := h
  refine x_callF (ν := M_Ai_hasNext) ⟨"java/util/Iterator", "hasNext", "()Z"⟩ [] ok_M_Ai_hasNext oki_M_Ai_hasNext k534 rfl (qm_2 (i := 226) rfl rfl) (by decide) (qm_5 (i := 182) rfl rfl) (show _ = some 0 from by decide +kernel) rfl ⟨Nat.le_of_ble_eq_true rfl, Nat.le_of_ble_eq_true rfl⟩ (Nat.le_of_ble_eq_true rfl) rfl d_Cl_act_1151 (Nat.zero_le _) (Nat.zero_le _) (DI.k h (fun v536 w535 gw535 h => (?_ : WD _ _ 1156 _ _ _ _ _ _)))
  refine x_if_eq 1193 d_Cl_act_1156 rfl ⟨fun c537 => (?_ : WD _ _ 1193 _ _ _ _ _ _), fun c537 => (?_ : WD _ _ 1159 _ _ _ _ _ _)⟩
  · replace h := h.1 c537
    refine x_aload_n d_Cl_act_1193 rfl (?_ : WD _ _ 1194 _ _ _ _ _ _)
    refine x_iload d_Cl_act_1194 rfl (?_ : WD _ _ 1196 _ _ _ _ _ _)
    refine x_callC (ν := M_Cs_interval) (k := 0) [vI x8] ok_M_Cs_interval okv_M_Cs_interval (by decide) rfl rfl rfl (qm_5 (i := 186) rfl rfl) np_M_Cs_interval rfl ⟨Nat.le_of_ble_eq_true rfl, Nat.le_of_ble_eq_true rfl⟩ (Nat.le_of_ble_eq_true rfl) rfl d_Cl_act_1196 (CI.kd h (fun v538 σ539 h => (?_ : WD _ _ 1199 _ _ _ _ _ _)))
    refine x_iload d_Cl_act_1199 rfl (?_ : WD _ _ 1201 _ _ _ _ _ _)
    refine x_icmp_ne 1208 d_Cl_act_1201 rfl ⟨fun c540 => (?_ : WD _ _ 1208 _ _ _ _ _ _), fun c540 => (?_ : WD _ _ 1204 _ _ _ _ _ _)⟩
    · replace h := h.1 c540
      refine x_iconst d_Cl_act_1208 (by decide) (?_ : WD _ _ 1209 _ _ _ _ _ _)
      exact x_zreturn rfl d_Cl_act_1209 (by decide) h
    · replace h := h.2 c540
      refine x_iconst d_Cl_act_1204 (by decide) (?_ : WD _ _ 1205 _ _ _ _ _ _)
      refine x_goto 1209 d_Cl_act_1205 rfl ?_
      exact x_zreturn rfl d_Cl_act_1209 (by decide) h
  · replace h := h.2 c537
    refine x_aloadP (some a532) d_Cl_act_1159 rfl (?_ : WD _ _ 1161 _ _ _ _ _ _)
    refine x_callF (ν := M_Ai_next) ⟨"java/util/Iterator", "next", "()Ljava/lang/Object;"⟩ [] ok_M_Ai_next oki_M_Ai_next (k534.q gw535.k) rfl (qm_3 (i := 7) rfl rfl) (by decide) (qm_5 (i := 184) rfl rfl) (show _ = some 0 from by decide +kernel) rfl ⟨Nat.le_of_ble_eq_true rfl, Nat.le_of_ble_eq_true rfl⟩ (Nat.le_of_ble_eq_true rfl) rfl d_Cl_act_1161 (Nat.zero_le _) (Nat.zero_le _) (DP.k h (fun v542 w541 gw541 h => (?_ : WD _ _ 1166 _ _ _ _ _ _)))
    obtain ⟨a543, e544, h⟩ := h
    rw [e544]
    obtain ⟨k545, h⟩ := h
    refine x_cast k545 rfl (Or.inl rfl) (qm_3 (i := 184) rfl rfl) d_Cl_act_1166 (?_ : WD _ _ 1169 _ _ _ _ _ _)
    refine x_astoreP (some a543) (ls' := [(10, vA a543), (0, vR 0), (1, vA x1), (6, vI x6), (8, vI x8), (9, vA a532)]) d_Cl_act_1169 (by decide) rfl (?_ : WD _ _ 1171 _ _ _ _ _ _)
    refine x_iload d_Cl_act_1171 rfl (?_ : WD _ _ 1173 _ _ _ _ _ _)
    refine x_aload_nP (some x1) d_Cl_act_1173 rfl (?_ : WD _ _ 1174 _ _ _ _ _ _)
    refine x_aloadP (some a543) d_Cl_act_1174 rfl (?_ : WD _ _ 1176 _ _ _ _ _ _)
    obtain ⟨k546, h⟩ := h
    refine x_callV (ν := M_Bo_certain) [vA a543] ok_M_Bo_certain okv_M_Bo_certain k546 rfl rfl (qm_5 (i := 185) rfl rfl) np_M_Bo_certain rfl ⟨Nat.le_of_ble_eq_true rfl, Nat.le_of_ble_eq_true rfl⟩ (Nat.le_of_ble_eq_true rfl) rfl d_Cl_act_1176 (Nat.zero_le _) (Nat.zero_le _) (DI.k h (fun v548 w547 gw547 h => (?_ : WD _ _ 1179 _ _ _ _ _ _)))
    refine x_if_eq 1186 d_Cl_act_1179 rfl ⟨fun c549 => (?_ : WD _ _ 1186 _ _ _ _ _ _), fun c549 => (?_ : WD _ _ 1182 _ _ _ _ _ _)⟩
    · replace h := h.1 c549
      refine x_iconst d_Cl_act_1186 (by decide) (?_ : WD _ _ 1187 _ _ _ _ _ _)
      obtain ⟨h550, h⟩ := h
      refine x_iadd d_Cl_act_1187 h550 (?_ : WD _ _ 1188 _ _ _ _ _ _)
      refine x_istore (ls' := [(6, vI (x6 + 0)), (10, vA a543), (0, vR 0), (1, vA x1), (8, vI x8), (9, vA a532)]) d_Cl_act_1188 (by decide) rfl (?_ : WD _ _ 1190 _ _ _ _ _ _)
      refine x_goto 1149 d_Cl_act_1190 rfl ?_
      refine x_pick (ls' := [(0, vR 0), (1, vA x1), (6, vI (x6 + 0)), (8, vI x8), (9, vP (some a532))]) [2, 3, 0, 4, 5] rfl ?_
      exact h
    · replace h := h.2 c549
      refine x_iconst d_Cl_act_1182 (by decide) (?_ : WD _ _ 1183 _ _ _ _ _ _)
      refine x_goto 1187 d_Cl_act_1183 rfl ?_
      obtain ⟨h551, h⟩ := h
      refine x_iadd d_Cl_act_1187 h551 (?_ : WD _ _ 1188 _ _ _ _ _ _)
      refine x_istore (ls' := [(6, vI (x6 + 1)), (10, vA a543), (0, vR 0), (1, vA x1), (8, vI x8), (9, vA a532)]) d_Cl_act_1188 (by decide) rfl (?_ : WD _ _ 1190 _ _ _ _ _ _)
      refine x_goto 1149 d_Cl_act_1190 rfl ?_
      refine x_pick (ls' := [(0, vR 0), (1, vA x1), (6, vI (x6 + 1)), (8, vI x8), (9, vP (some a532))]) [2, 3, 0, 4, 5] rfl ?_
      exact h
set_option maxRecDepth 20000 in
theorem l_Cl_act_4 {G : Gq} {K : Int → Wd → Prop} {w : Wd} {rc rs : Nat} (x1 : Nat) (x8 : Int) (x9 : Int) (y0 : Int) (h : (¬ x8 = 5 → (y0 = 0 → WD G M_Cl_act 408 [(0, vR 0), (1, vA x1), (8, vI x8), (9, vI x9), (10, vI y0)] [vI (-3)] w rc rs (yI K)) ∧ (¬ y0 = 0 → (Is G w x1 (kO 11)) ∧ ∃ a555 : Nat, (wR w x1 2) = some a555 ∧ (∃ n557 : Nat, ((Is G w a555 (kA 0 n557)) ∧ (0 ≤ x8) ∧ (x8 < (n557 : Int)) ∧ WD G M_Cl_act 408 [(0, vR 0), (1, vA x1), (8, vI x8), (9, vI x9), (10, vI y0)] [vI (wI w a555 x8)] w rc rs (yI K))))) ∧ (x8 = 5 → WD G M_Cl_act 408 [(0, vR 0), (1, vA x1), (8, vI x8), (9, vI x9), (10, vI y0)] [vI (-2)] w rc rs (yI K))) : WD G M_Cl_act 378 [(0, vR 0), (1, vA x1), (8, vI x8), (9, vI x9)] [vI y0] w rc rs (yI K) := by
  refine x_istore (ls' := [(10, vI y0), (0, vR 0), (1, vA x1), (8, vI x8), (9, vI x9)]) d_Cl_act_378 (by decide) rfl (?_ : WD _ _ 380 _ _ _ _ _ _)
  refine x_iload d_Cl_act_380 rfl (?_ : WD _ _ 382 _ _ _ _ _ _)
  refine x_iconst d_Cl_act_382 (by decide) (?_ : WD _ _ 383 _ _ _ _ _ _)
  refine x_icmp_ne 391 d_Cl_act_383 rfl ⟨fun c552 => (?_ : WD _ _ 391 _ _ _ _ _ _), fun c552 => (?_ : WD _ _ 386 _ _ _ _ _ _)⟩
  · replace h := h.1 c552
    refine x_iload d_Cl_act_391 rfl (?_ : WD _ _ 393 _ _ _ _ _ _)
    refine x_if_eq 406 d_Cl_act_393 rfl ⟨fun c553 => (?_ : WD _ _ 406 _ _ _ _ _ _), fun c553 => (?_ : WD _ _ 396 _ _ _ _ _ _)⟩
    · replace h := h.1 c553
      refine x_bipush d_Cl_act_406 (by decide) (by decide) (?_ : WD _ _ 408 _ _ _ _ _ _)
      refine x_pick (ls' := [(0, vR 0), (1, vA x1), (8, vI x8), (9, vI x9), (10, vI y0)]) [1, 2, 3, 4, 0] rfl ?_
      exact h
    · replace h := h.2 c553
      refine x_aload_nP (some x1) d_Cl_act_396 rfl (?_ : WD _ _ 397 _ _ _ _ _ _)
      obtain ⟨k554, h⟩ := h
      refine x_getP (ref := "CoinSamplerLaw$Books") (j := 2) 2 k554 clk_11 (by decide) (qm_2 (i := 160) rfl rfl) (Or.inl rfl) rfl rfl d_Cl_act_397 (y := (wR w x1 2)) rfl (?_ : WD _ _ 400 _ _ _ _ _ _)
      refine x_iload d_Cl_act_400 rfl (?_ : WD _ _ 402 _ _ _ _ _ _)
      obtain ⟨a555, e556, h⟩ := h
      rw [e556]
      obtain ⟨n557, h⟩ := h
      obtain ⟨k558, h⟩ := h
      obtain ⟨h559, h⟩ := h
      obtain ⟨h560, h⟩ := h
      refine x_iald k558 d_Cl_act_402 h559 h560 (y := (wI w a555 x8)) rfl (?_ : WD _ _ 403 _ _ _ _ _ _)
      refine x_goto 408 d_Cl_act_403 rfl ?_
      refine x_pick (ls' := [(0, vR 0), (1, vA x1), (8, vI x8), (9, vI x9), (10, vI y0)]) [1, 2, 3, 4, 0] rfl ?_
      exact h
  · replace h := h.2 c552
    refine x_bipush d_Cl_act_386 (by decide) (by decide) (?_ : WD _ _ 388 _ _ _ _ _ _)
    refine x_goto 408 d_Cl_act_388 rfl ?_
    refine x_pick (ls' := [(0, vR 0), (1, vA x1), (8, vI x8), (9, vI x9), (10, vI y0)]) [1, 2, 3, 4, 0] rfl ?_
    exact h
set_option maxRecDepth 20000 in
theorem l_Cl_act_8 {G : Gq} {K : Int → Wd → Prop} {w : Wd} {rc rs : Nat} (x1 : Nat) (x2 : Nat) (x4 : Int) (x8 : Int) (y0 : Int) (h : DI G M_Cl_draw [vA x2, vI 30] w 0 0 (fun v562 w561 => (¬ v562 = 0 → DI G M_Cl_draw [vA x2, vI 200] w561 0 0 (fun v565 w564 => (inR (v565 - 20)) ∧ WD G M_Cl_act 535 [(0, vR 0), (1, vA x1), (4, vI x4), (8, vI x8), (9, vI y0)] [vI (v565 - 20)] w564 rc rs (yI K))) ∧ (v562 = 0 → WD G M_Cl_act 535 [(0, vR 0), (1, vA x1), (4, vI x4), (8, vI x8), (9, vI y0)] [vI 100000] w561 rc rs (yI K)))) : WD G M_Cl_act 509 [(0, vR 0), (1, vA x1), (2, vA x2), (4, vI x4), (8, vI x8)] [vI y0] w rc rs (yI K) := by
  refine x_istore (ls' := [(9, vI y0), (0, vR 0), (1, vA x1), (2, vA x2), (4, vI x4), (8, vI x8)]) d_Cl_act_509 (by decide) rfl (?_ : WD _ _ 511 _ _ _ _ _ _)
  refine x_aload_nP (some x2) d_Cl_act_511 rfl (?_ : WD _ _ 512 _ _ _ _ _ _)
  refine x_bipush d_Cl_act_512 (by decide) (by decide) (?_ : WD _ _ 514 _ _ _ _ _ _)
  refine x_callS (ν := M_Cl_draw) [vA x2, vI 30] ok_M_Cl_draw oks_M_Cl_draw (qm_3 (i := 179) rfl rfl) np_M_Cl_draw rfl ⟨Nat.le_of_ble_eq_true rfl, Nat.le_of_ble_eq_true rfl⟩ (Nat.le_of_ble_eq_true rfl) rfl d_Cl_act_514 (Nat.zero_le _) (Nat.zero_le _) (DI.k h (fun v562 w561 gw561 h => (?_ : WD _ _ 517 _ _ _ _ _ _)))
  refine x_if_ne 525 d_Cl_act_517 rfl ⟨fun c563 => (?_ : WD _ _ 525 _ _ _ _ _ _), fun c563 => (?_ : WD _ _ 520 _ _ _ _ _ _)⟩
  · replace h := h.1 c563
    refine x_aload_nP (some x2) d_Cl_act_525 rfl (?_ : WD _ _ 526 _ _ _ _ _ _)
    refine x_sipush d_Cl_act_526 (by decide) (by decide) (?_ : WD _ _ 529 _ _ _ _ _ _)
    refine x_callS (ν := M_Cl_draw) [vA x2, vI 200] ok_M_Cl_draw oks_M_Cl_draw (qm_3 (i := 179) rfl rfl) np_M_Cl_draw rfl ⟨Nat.le_of_ble_eq_true rfl, Nat.le_of_ble_eq_true rfl⟩ (Nat.le_of_ble_eq_true rfl) rfl d_Cl_act_529 (Nat.zero_le _) (Nat.zero_le _) (DI.k h (fun v565 w564 gw564 h => (?_ : WD _ _ 532 _ _ _ _ _ _)))
    refine x_bipush d_Cl_act_532 (by decide) (by decide) (?_ : WD _ _ 534 _ _ _ _ _ _)
    obtain ⟨h566, h⟩ := h
    refine x_isub d_Cl_act_534 h566 (?_ : WD _ _ 535 _ _ _ _ _ _)
    refine x_pick (ls' := [(0, vR 0), (1, vA x1), (4, vI x4), (8, vI x8), (9, vI y0)]) [1, 2, 4, 5, 0] rfl ?_
    exact h
  · replace h := h.2 c563
    refine x_ldc 100000 d_Cl_act_520 (qm_5 (i := 148) rfl rfl) (by decide) (by decide) (?_ : WD _ _ 522 _ _ _ _ _ _)
    refine x_goto 535 d_Cl_act_522 rfl ?_
    refine x_pick (ls' := [(0, vR 0), (1, vA x1), (4, vI x4), (8, vI x8), (9, vI y0)]) [1, 2, 4, 5, 0] rfl ?_
    exact h
set_option maxRecDepth 20000 in
theorem l_Cl_act_5 {G : Gq} {K : Int → Wd → Prop} {w : Wd} {rc rs : Nat} (x1 : Nat) (x8 : Int) (x9 : Int) (x10 : Int) (y0 : Int) (h : (5 ≤ x8 → WD G M_Cl_act 442 [(0, vR 0), (6, vI y0), (8, vI x8), (9, vI x9)] [] w rc rs (yI K)) ∧ (¬ 5 ≤ x8 → (x10 = 0 → WD G M_Cl_act 442 [(0, vR 0), (6, vI y0), (8, vI x8), (9, vI x9)] [] w rc rs (yI K)) ∧ (¬ x10 = 0 → (Is G w x1 (kO 11)) ∧ ∃ a570 : Nat, (wR w x1 2) = some a570 ∧ (∃ n572 : Nat, ((Ow w a570 (kA 0 n572)) ∧ (0 ≤ x8) ∧ (x8 < (n572 : Int)) ∧ (¬ x8 = 4 → WD G M_Cl_act 442 [(0, vR 0), (6, vI y0), (8, vI x8), (9, vI x9)] [] (uI w a570 x8 x9) rc rs (yI K)) ∧ (x8 = 4 → (Ow (uI w a570 x8 x9) x1 (kO 11)) ∧ WD G M_Cl_act 442 [(0, vR 0), (6, vI y0), (8, vI x8), (9, vI x9)] [] (uI (uI w a570 x8 x9) x1 4 x9) rc rs (yI K))))))) : WD G M_Cl_act 408 [(0, vR 0), (1, vA x1), (8, vI x8), (9, vI x9), (10, vI x10)] [vI y0] w rc rs (yI K) := by
  refine x_istore (ls' := [(6, vI y0), (0, vR 0), (1, vA x1), (8, vI x8), (9, vI x9), (10, vI x10)]) d_Cl_act_408 (by decide) rfl (?_ : WD _ _ 410 _ _ _ _ _ _)
  refine x_iload d_Cl_act_410 rfl (?_ : WD _ _ 412 _ _ _ _ _ _)
  refine x_iconst d_Cl_act_412 (by decide) (?_ : WD _ _ 413 _ _ _ _ _ _)
  refine x_icmp_ge 442 d_Cl_act_413 rfl ⟨fun c567 => (?_ : WD _ _ 442 _ _ _ _ _ _), fun c567 => (?_ : WD _ _ 416 _ _ _ _ _ _)⟩
  · replace h := h.1 c567
    refine x_pick (ls' := [(0, vR 0), (6, vI y0), (8, vI x8), (9, vI x9)]) [1, 0, 3, 4] rfl ?_
    exact h
  · replace h := h.2 c567
    refine x_iload d_Cl_act_416 rfl (?_ : WD _ _ 418 _ _ _ _ _ _)
    refine x_if_eq 442 d_Cl_act_418 rfl ⟨fun c568 => (?_ : WD _ _ 442 _ _ _ _ _ _), fun c568 => (?_ : WD _ _ 421 _ _ _ _ _ _)⟩
    · replace h := h.1 c568
      refine x_pick (ls' := [(0, vR 0), (6, vI y0), (8, vI x8), (9, vI x9)]) [1, 0, 3, 4] rfl ?_
      exact h
    · replace h := h.2 c568
      refine x_aload_nP (some x1) d_Cl_act_421 rfl (?_ : WD _ _ 422 _ _ _ _ _ _)
      obtain ⟨k569, h⟩ := h
      refine x_getP (ref := "CoinSamplerLaw$Books") (j := 2) 2 k569 clk_11 (by decide) (qm_2 (i := 160) rfl rfl) (Or.inl rfl) rfl rfl d_Cl_act_422 (y := (wR w x1 2)) rfl (?_ : WD _ _ 425 _ _ _ _ _ _)
      refine x_iload d_Cl_act_425 rfl (?_ : WD _ _ 427 _ _ _ _ _ _)
      refine x_iload d_Cl_act_427 rfl (?_ : WD _ _ 429 _ _ _ _ _ _)
      obtain ⟨a570, e571, h⟩ := h
      rw [e571]
      obtain ⟨n572, h⟩ := h
      obtain ⟨k573, h⟩ := h
      obtain ⟨h574, h⟩ := h
      obtain ⟨h575, h⟩ := h
      refine x_iast k573 d_Cl_act_429 h574 h575 (?_ : WD _ _ 430 _ _ _ _ _ _)
      refine x_iload d_Cl_act_430 rfl (?_ : WD _ _ 432 _ _ _ _ _ _)
      refine x_iconst d_Cl_act_432 (by decide) (?_ : WD _ _ 433 _ _ _ _ _ _)
      refine x_icmp_ne 442 d_Cl_act_433 rfl ⟨fun c576 => (?_ : WD _ _ 442 _ _ _ _ _ _), fun c576 => (?_ : WD _ _ 436 _ _ _ _ _ _)⟩
      · replace h := h.1 c576
        refine x_pick (ls' := [(0, vR 0), (6, vI y0), (8, vI x8), (9, vI x9)]) [1, 0, 3, 4] rfl ?_
        exact h
      · replace h := h.2 c576
        refine x_aload_nP (some x1) d_Cl_act_436 rfl (?_ : WD _ _ 437 _ _ _ _ _ _)
        refine x_iload d_Cl_act_437 rfl (?_ : WD _ _ 439 _ _ _ _ _ _)
        obtain ⟨k577, h⟩ := h
        refine x_putI (ref := "CoinSamplerLaw$Books") (j := 4) 4 k577 clk_11 (by decide) (qm_2 (i := 164) rfl rfl) (Or.inl rfl) (Or.inl rfl) tyX11_ok rfl nmX11 d_Cl_act_439 rfl rfl (fun _ => rfl) rfl (?_ : WD _ _ 442 _ _ _ _ _ _)
        refine x_pick (ls' := [(0, vR 0), (6, vI y0), (8, vI x8), (9, vI x9)]) [1, 0, 3, 4] rfl ?_
        exact h
set_option maxRecDepth 20000 in
theorem l_Cl_act_9 {G : Gq} {K : Int → Wd → Prop} {w : Wd} {rc rs : Nat} (x1 : Nat) (x4 : Int) (x8 : Int) (x9 : Int) (y0 : Int) (h : (99 < x8 → CI M_Cs_add [vR 0, vI x8, vI x9, vI y0] (wS w) (fun v579 σ580 => (¬ v579 = (-3) → K 0 (uS w σ580)) ∧ (v579 = (-3) → K 1 (uS w σ580)))) ∧ (¬ 99 < x8 → (9999 < x9 → CI M_Cs_add [vR 0, vI x8, vI x9, vI y0] (wS w) (fun v583 σ584 => (¬ v583 = (-3) → K 0 (uS w σ584)) ∧ (v583 = (-3) → K 1 (uS w σ584)))) ∧ (¬ 9999 < x9 → (y0 ≤ 99999 → (¬ x4 = 48 → (Is G w x1 (kO 11)) ∧ ∃ a589 : Nat, (wR w x1 1) = some a589 ∧ ((Is G w a589 (kO 14)) ∧ DI G M_Al_isEmpty [vA a589] w 0 0 (fun v593 w592 => (v593 = 0 → CI M_Cs_add [vR 0, vI x8, vI x9, vI y0] (wS w592) (fun v595 σ596 => (¬ v595 = (-5) → K 0 (uS w592 σ596)) ∧ (v595 = (-5) → K 1 (uS w592 σ596)))) ∧ (¬ v593 = 0 → DI G M_Bo_find [vA x1, vI x8, vI x9] w592 0 0 (fun v599 w598 => (v599 < 0 → (x4 < 0 → CI M_Cs_add [vR 0, vI x8, vI x9, vI y0] (wS w598) (fun v602 σ603 => (¬ v602 = x4 → K 0 (uS w598 σ603)) ∧ (v602 = x4 → K 1 (uS w598 σ603)))) ∧ (¬ x4 < 0 → (1 ≤ rc) ∧ (4 ≤ rs) ∧ ∀ q607 : Nat, Fr G w598 q607 → (DV G M_It_init [vA q607] (uN w598 q607 (kO 13)) 0 0 (fun w609 => ∃ a611 : Nat, (wR w609 x1 0) = some a611 ∧ (∃ c613 s614 : Nat, c613 ≤ (rc - 1) ∧ s614 ≤ (rs - 4) ∧ ((Is G (uI (uI (uI w609 q607 0 x8) q607 1 x9) q607 2 y0) a611 (kO 14)) ∧ DI G M_Al_add_9ea2d [vA a611, vA q607] (uI (uI (uI w609 q607 0 x8) q607 1 x9) q607 2 y0) c613 s614 (fun v619 w618 => CI M_Cs_add [vR 0, vI x8, vI x9, vI y0] (wS w618) (fun v620 σ621 => (¬ v620 = x4 → K 0 (uS w618 σ621)) ∧ (v620 = x4 → K 1 (uS w618 σ621)))))))))) ∧ (¬ v599 < 0 → CI M_Cs_add [vR 0, vI x8, vI x9, vI y0] (wS w598) (fun v623 σ624 => (¬ v623 = (-5) → K 0 (uS w598 σ624)) ∧ (v623 = (-5) → K 1 (uS w598 σ624))))))))) ∧ (x4 = 48 → CI M_Cs_add [vR 0, vI x8, vI x9, vI y0] (wS w) (fun v626 σ627 => (¬ v626 = (-4) → K 0 (uS w σ627)) ∧ (v626 = (-4) → K 1 (uS w σ627))))) ∧ (¬ y0 ≤ 99999 → CI M_Cs_add [vR 0, vI x8, vI x9, vI y0] (wS w) (fun v629 σ630 => (¬ v629 = (-3) → K 0 (uS w σ630)) ∧ (v629 = (-3) → K 1 (uS w σ630))))))) : WD G M_Cl_act 535 [(0, vR 0), (1, vA x1), (4, vI x4), (8, vI x8), (9, vI x9)] [vI y0] w rc rs (yI K) := by
  refine x_istore (ls' := [(10, vI y0), (0, vR 0), (1, vA x1), (4, vI x4), (8, vI x8), (9, vI x9)]) d_Cl_act_535 (by decide) rfl (?_ : WD _ _ 537 _ _ _ _ _ _)
  refine x_iload d_Cl_act_537 rfl (?_ : WD _ _ 539 _ _ _ _ _ _)
  refine x_bipush d_Cl_act_539 (by decide) (by decide) (?_ : WD _ _ 541 _ _ _ _ _ _)
  refine x_icmp_gt 559 d_Cl_act_541 rfl ⟨fun c578 => (?_ : WD _ _ 559 _ _ _ _ _ _), fun c578 => (?_ : WD _ _ 544 _ _ _ _ _ _)⟩
  · replace h := h.1 c578
    refine x_bipush d_Cl_act_559 (by decide) (by decide) (?_ : WD _ _ 561 _ _ _ _ _ _)
    refine x_goto 604 d_Cl_act_561 rfl ?_
    refine x_istore (ls' := [(6, vI (-3)), (10, vI y0), (0, vR 0), (1, vA x1), (4, vI x4), (8, vI x8), (9, vI x9)]) d_Cl_act_604 (by decide) rfl (?_ : WD _ _ 606 _ _ _ _ _ _)
    refine x_iload d_Cl_act_606 rfl (?_ : WD _ _ 608 _ _ _ _ _ _)
    refine x_if_lt 651 d_Cl_act_608 rfl ⟨fun hc => (?_ : WD _ _ 651 _ _ _ _ _ _), fun hc => absurd hc (by decide)⟩
    refine x_aload_n d_Cl_act_651 rfl (?_ : WD _ _ 652 _ _ _ _ _ _)
    refine x_iload d_Cl_act_652 rfl (?_ : WD _ _ 654 _ _ _ _ _ _)
    refine x_iload d_Cl_act_654 rfl (?_ : WD _ _ 656 _ _ _ _ _ _)
    refine x_iload d_Cl_act_656 rfl (?_ : WD _ _ 658 _ _ _ _ _ _)
    refine x_callC (ν := M_Cs_add) (k := 0) [vI x8, vI x9, vI y0] ok_M_Cs_add okv_M_Cs_add (by decide) rfl rfl rfl (qm_5 (i := 150) rfl rfl) np_M_Cs_add rfl ⟨Nat.le_of_ble_eq_true rfl, Nat.le_of_ble_eq_true rfl⟩ (Nat.le_of_ble_eq_true rfl) rfl d_Cl_act_658 (CI.kd h (fun v579 σ580 h => (?_ : WD _ _ 661 _ _ _ _ _ _)))
    refine x_iload d_Cl_act_661 rfl (?_ : WD _ _ 663 _ _ _ _ _ _)
    refine x_icmp_ne 670 d_Cl_act_663 rfl ⟨fun c581 => (?_ : WD _ _ 670 _ _ _ _ _ _), fun c581 => (?_ : WD _ _ 666 _ _ _ _ _ _)⟩
    · replace h := h.1 c581
      refine x_iconst d_Cl_act_670 (by decide) (?_ : WD _ _ 671 _ _ _ _ _ _)
      exact x_zreturn rfl d_Cl_act_671 (by decide) h
    · replace h := h.2 c581
      refine x_iconst d_Cl_act_666 (by decide) (?_ : WD _ _ 667 _ _ _ _ _ _)
      refine x_goto 671 d_Cl_act_667 rfl ?_
      exact x_zreturn rfl d_Cl_act_671 (by decide) h
  · replace h := h.2 c578
    refine x_iload d_Cl_act_544 rfl (?_ : WD _ _ 546 _ _ _ _ _ _)
    refine x_sipush d_Cl_act_546 (by decide) (by decide) (?_ : WD _ _ 549 _ _ _ _ _ _)
    refine x_icmp_gt 559 d_Cl_act_549 rfl ⟨fun c582 => (?_ : WD _ _ 559 _ _ _ _ _ _), fun c582 => (?_ : WD _ _ 552 _ _ _ _ _ _)⟩
    · replace h := h.1 c582
      refine x_bipush d_Cl_act_559 (by decide) (by decide) (?_ : WD _ _ 561 _ _ _ _ _ _)
      refine x_goto 604 d_Cl_act_561 rfl ?_
      refine x_istore (ls' := [(6, vI (-3)), (10, vI y0), (0, vR 0), (1, vA x1), (4, vI x4), (8, vI x8), (9, vI x9)]) d_Cl_act_604 (by decide) rfl (?_ : WD _ _ 606 _ _ _ _ _ _)
      refine x_iload d_Cl_act_606 rfl (?_ : WD _ _ 608 _ _ _ _ _ _)
      refine x_if_lt 651 d_Cl_act_608 rfl ⟨fun hc => (?_ : WD _ _ 651 _ _ _ _ _ _), fun hc => absurd hc (by decide)⟩
      refine x_aload_n d_Cl_act_651 rfl (?_ : WD _ _ 652 _ _ _ _ _ _)
      refine x_iload d_Cl_act_652 rfl (?_ : WD _ _ 654 _ _ _ _ _ _)
      refine x_iload d_Cl_act_654 rfl (?_ : WD _ _ 656 _ _ _ _ _ _)
      refine x_iload d_Cl_act_656 rfl (?_ : WD _ _ 658 _ _ _ _ _ _)
      refine x_callC (ν := M_Cs_add) (k := 0) [vI x8, vI x9, vI y0] ok_M_Cs_add okv_M_Cs_add (by decide) rfl rfl rfl (qm_5 (i := 150) rfl rfl) np_M_Cs_add rfl ⟨Nat.le_of_ble_eq_true rfl, Nat.le_of_ble_eq_true rfl⟩ (Nat.le_of_ble_eq_true rfl) rfl d_Cl_act_658 (CI.kd h (fun v583 σ584 h => (?_ : WD _ _ 661 _ _ _ _ _ _)))
      refine x_iload d_Cl_act_661 rfl (?_ : WD _ _ 663 _ _ _ _ _ _)
      refine x_icmp_ne 670 d_Cl_act_663 rfl ⟨fun c585 => (?_ : WD _ _ 670 _ _ _ _ _ _), fun c585 => (?_ : WD _ _ 666 _ _ _ _ _ _)⟩
      · replace h := h.1 c585
        refine x_iconst d_Cl_act_670 (by decide) (?_ : WD _ _ 671 _ _ _ _ _ _)
        exact x_zreturn rfl d_Cl_act_671 (by decide) h
      · replace h := h.2 c585
        refine x_iconst d_Cl_act_666 (by decide) (?_ : WD _ _ 667 _ _ _ _ _ _)
        refine x_goto 671 d_Cl_act_667 rfl ?_
        exact x_zreturn rfl d_Cl_act_671 (by decide) h
    · replace h := h.2 c582
      refine x_iload d_Cl_act_552 rfl (?_ : WD _ _ 554 _ _ _ _ _ _)
      refine x_ldc 99999 d_Cl_act_554 (qm_5 (i := 149) rfl rfl) (by decide) (by decide) (?_ : WD _ _ 556 _ _ _ _ _ _)
      refine x_icmp_le 564 d_Cl_act_556 rfl ⟨fun c586 => (?_ : WD _ _ 564 _ _ _ _ _ _), fun c586 => (?_ : WD _ _ 559 _ _ _ _ _ _)⟩
      · replace h := h.1 c586
        refine x_iload d_Cl_act_564 rfl (?_ : WD _ _ 566 _ _ _ _ _ _)
        refine x_bipush d_Cl_act_566 (by decide) (by decide) (?_ : WD _ _ 568 _ _ _ _ _ _)
        refine x_icmp_ne 576 d_Cl_act_568 rfl ⟨fun c587 => (?_ : WD _ _ 576 _ _ _ _ _ _), fun c587 => (?_ : WD _ _ 571 _ _ _ _ _ _)⟩
        · replace h := h.1 c587
          refine x_aload_nP (some x1) d_Cl_act_576 rfl (?_ : WD _ _ 577 _ _ _ _ _ _)
          obtain ⟨k588, h⟩ := h
          refine x_getP (ref := "CoinSamplerLaw$Books") (j := 1) 1 k588 clk_11 (by decide) (qm_2 (i := 158) rfl rfl) (Or.inl rfl) rfl rfl d_Cl_act_577 (y := (wR w x1 1)) rfl (?_ : WD _ _ 580 _ _ _ _ _ _)
          obtain ⟨a589, e590, h⟩ := h
          rw [e590]
          obtain ⟨k591, h⟩ := h
          refine x_callV (ν := M_Al_isEmpty) [] ok_M_Al_isEmpty okv_M_Al_isEmpty k591 rfl rfl (qm_3 (i := 230) rfl rfl) np_M_Al_isEmpty rfl ⟨Nat.le_of_ble_eq_true rfl, Nat.le_of_ble_eq_true rfl⟩ (Nat.le_of_ble_eq_true rfl) rfl d_Cl_act_580 (Nat.zero_le _) (Nat.zero_le _) (DI.k h (fun v593 w592 gw592 h => (?_ : WD _ _ 583 _ _ _ _ _ _)))
          refine x_if_eq 597 d_Cl_act_583 rfl ⟨fun c594 => (?_ : WD _ _ 597 _ _ _ _ _ _), fun c594 => (?_ : WD _ _ 586 _ _ _ _ _ _)⟩
          · replace h := h.1 c594
            refine x_bipush d_Cl_act_597 (by decide) (by decide) (?_ : WD _ _ 599 _ _ _ _ _ _)
            refine x_goto 604 d_Cl_act_599 rfl ?_
            refine x_istore (ls' := [(6, vI (-5)), (10, vI y0), (0, vR 0), (1, vA x1), (4, vI x4), (8, vI x8), (9, vI x9)]) d_Cl_act_604 (by decide) rfl (?_ : WD _ _ 606 _ _ _ _ _ _)
            refine x_iload d_Cl_act_606 rfl (?_ : WD _ _ 608 _ _ _ _ _ _)
            refine x_if_lt 651 d_Cl_act_608 rfl ⟨fun hc => (?_ : WD _ _ 651 _ _ _ _ _ _), fun hc => absurd hc (by decide)⟩
            refine x_aload_n d_Cl_act_651 rfl (?_ : WD _ _ 652 _ _ _ _ _ _)
            refine x_iload d_Cl_act_652 rfl (?_ : WD _ _ 654 _ _ _ _ _ _)
            refine x_iload d_Cl_act_654 rfl (?_ : WD _ _ 656 _ _ _ _ _ _)
            refine x_iload d_Cl_act_656 rfl (?_ : WD _ _ 658 _ _ _ _ _ _)
            refine x_callC (ν := M_Cs_add) (k := 0) [vI x8, vI x9, vI y0] ok_M_Cs_add okv_M_Cs_add (by decide) rfl rfl rfl (qm_5 (i := 150) rfl rfl) np_M_Cs_add rfl ⟨Nat.le_of_ble_eq_true rfl, Nat.le_of_ble_eq_true rfl⟩ (Nat.le_of_ble_eq_true rfl) rfl d_Cl_act_658 (CI.kd h (fun v595 σ596 h => (?_ : WD _ _ 661 _ _ _ _ _ _)))
            refine x_iload d_Cl_act_661 rfl (?_ : WD _ _ 663 _ _ _ _ _ _)
            refine x_icmp_ne 670 d_Cl_act_663 rfl ⟨fun c597 => (?_ : WD _ _ 670 _ _ _ _ _ _), fun c597 => (?_ : WD _ _ 666 _ _ _ _ _ _)⟩
            · replace h := h.1 c597
              refine x_iconst d_Cl_act_670 (by decide) (?_ : WD _ _ 671 _ _ _ _ _ _)
              exact x_zreturn rfl d_Cl_act_671 (by decide) h
            · replace h := h.2 c597
              refine x_iconst d_Cl_act_666 (by decide) (?_ : WD _ _ 667 _ _ _ _ _ _)
              refine x_goto 671 d_Cl_act_667 rfl ?_
              exact x_zreturn rfl d_Cl_act_671 (by decide) h
          · replace h := h.2 c594
            refine x_aload_nP (some x1) d_Cl_act_586 rfl (?_ : WD _ _ 587 _ _ _ _ _ _)
            refine x_iload d_Cl_act_587 rfl (?_ : WD _ _ 589 _ _ _ _ _ _)
            refine x_iload d_Cl_act_589 rfl (?_ : WD _ _ 591 _ _ _ _ _ _)
            refine x_callV (ν := M_Bo_find) [vI x8, vI x9] ok_M_Bo_find okv_M_Bo_find (k588.q gw592.k) rfl rfl (qm_4 (i := 169) rfl rfl) np_M_Bo_find rfl ⟨Nat.le_of_ble_eq_true rfl, Nat.le_of_ble_eq_true rfl⟩ (Nat.le_of_ble_eq_true rfl) rfl d_Cl_act_591 (Nat.zero_le _) (Nat.zero_le _) (DI.k h (fun v599 w598 gw598 h => (?_ : WD _ _ 594 _ _ _ _ _ _)))
            refine x_if_lt 602 d_Cl_act_594 rfl ⟨fun c600 => (?_ : WD _ _ 602 _ _ _ _ _ _), fun c600 => (?_ : WD _ _ 597 _ _ _ _ _ _)⟩
            · replace h := h.1 c600
              refine x_iload d_Cl_act_602 rfl (?_ : WD _ _ 604 _ _ _ _ _ _)
              refine x_istore (ls' := [(6, vI x4), (10, vI y0), (0, vR 0), (1, vA x1), (4, vI x4), (8, vI x8), (9, vI x9)]) d_Cl_act_604 (by decide) rfl (?_ : WD _ _ 606 _ _ _ _ _ _)
              refine x_iload d_Cl_act_606 rfl (?_ : WD _ _ 608 _ _ _ _ _ _)
              refine x_if_lt 651 d_Cl_act_608 rfl ⟨fun c601 => (?_ : WD _ _ 651 _ _ _ _ _ _), fun c601 => (?_ : WD _ _ 611 _ _ _ _ _ _)⟩
              · replace h := h.1 c601
                refine x_aload_n d_Cl_act_651 rfl (?_ : WD _ _ 652 _ _ _ _ _ _)
                refine x_iload d_Cl_act_652 rfl (?_ : WD _ _ 654 _ _ _ _ _ _)
                refine x_iload d_Cl_act_654 rfl (?_ : WD _ _ 656 _ _ _ _ _ _)
                refine x_iload d_Cl_act_656 rfl (?_ : WD _ _ 658 _ _ _ _ _ _)
                refine x_callC (ν := M_Cs_add) (k := 0) [vI x8, vI x9, vI y0] ok_M_Cs_add okv_M_Cs_add (by decide) rfl rfl rfl (qm_5 (i := 150) rfl rfl) np_M_Cs_add rfl ⟨Nat.le_of_ble_eq_true rfl, Nat.le_of_ble_eq_true rfl⟩ (Nat.le_of_ble_eq_true rfl) rfl d_Cl_act_658 (CI.kd h (fun v602 σ603 h => (?_ : WD _ _ 661 _ _ _ _ _ _)))
                refine x_iload d_Cl_act_661 rfl (?_ : WD _ _ 663 _ _ _ _ _ _)
                refine x_icmp_ne 670 d_Cl_act_663 rfl ⟨fun c604 => (?_ : WD _ _ 670 _ _ _ _ _ _), fun c604 => (?_ : WD _ _ 666 _ _ _ _ _ _)⟩
                · replace h := h.1 c604
                  refine x_iconst d_Cl_act_670 (by decide) (?_ : WD _ _ 671 _ _ _ _ _ _)
                  exact x_zreturn rfl d_Cl_act_671 (by decide) h
                · replace h := h.2 c604
                  refine x_iconst d_Cl_act_666 (by decide) (?_ : WD _ _ 667 _ _ _ _ _ _)
                  refine x_goto 671 d_Cl_act_667 rfl ?_
                  exact x_zreturn rfl d_Cl_act_671 (by decide) h
              · replace h := h.2 c601
                obtain ⟨h605, h⟩ := h
                obtain ⟨h606, h⟩ := h
                refine x_new d_Cl_act_611 clk_13 tyX13_ok (qm_3 (i := 184) rfl rfl) (qm_4 (i := 146) rfl rfl) (qm_1 (i := 29) rfl rfl) hfd_13 h605 h606 (fun q607 fq607 => (?_ : WD _ _ 614 _ _ _ _ _ _))
                replace h := h q607 fq607
                have k608 : Ow (uN w598 q607 (kO 13)) q607 (kO 13) := Ow.nw
                refine x_dup d_Cl_act_614 rfl (?_ : WD _ _ 615 _ _ _ _ _ _)
                refine x_callIN (ν := M_It_init) "CoinSamplerLaw" [] ok_M_It_init oki_M_It_init rfl rfl (by decide) np_M_It_init rfl ⟨Nat.le_of_ble_eq_true rfl, Nat.le_of_ble_eq_true rfl⟩ (Nat.le_of_ble_eq_true rfl) rfl d_Cl_act_615 (Nat.zero_le _) (Nat.zero_le _) (DV.k h (fun w609 gw609 h => (?_ : WD _ _ 618 _ _ _ _ _ _)))
                refine x_astoreP (some q607) (ls' := [(11, vA q607), (6, vI x4), (10, vI y0), (0, vR 0), (1, vA x1), (4, vI x4), (8, vI x8), (9, vI x9)]) d_Cl_act_618 (by decide) rfl (?_ : WD _ _ 620 _ _ _ _ _ _)
                refine x_aloadP (some q607) d_Cl_act_620 rfl (?_ : WD _ _ 622 _ _ _ _ _ _)
                refine x_iload d_Cl_act_622 rfl (?_ : WD _ _ 624 _ _ _ _ _ _)
                refine x_putI (ref := "CoinSamplerLaw$Item") (j := 0) 0 (k608.q gw609.k) clk_13 (by decide) (qm_4 (i := 151) rfl rfl) (Or.inl rfl) (Or.inl rfl) tyX13_ok rfl nmX13 d_Cl_act_624 rfl rfl (fun _ => rfl) rfl (?_ : WD _ _ 627 _ _ _ _ _ _)
                refine x_aloadP (some q607) d_Cl_act_627 rfl (?_ : WD _ _ 629 _ _ _ _ _ _)
                refine x_iload d_Cl_act_629 rfl (?_ : WD _ _ 631 _ _ _ _ _ _)
                refine x_putI (ref := "CoinSamplerLaw$Item") (j := 1) 1 (k608.q gw609.k) clk_13 (by decide) (qm_4 (i := 153) rfl rfl) (Or.inl rfl) (Or.inl rfl) tyX13_ok rfl nmX13 d_Cl_act_631 rfl rfl (fun _ => rfl) rfl (?_ : WD _ _ 634 _ _ _ _ _ _)
                refine x_aloadP (some q607) d_Cl_act_634 rfl (?_ : WD _ _ 636 _ _ _ _ _ _)
                refine x_iload d_Cl_act_636 rfl (?_ : WD _ _ 638 _ _ _ _ _ _)
                refine x_putI (ref := "CoinSamplerLaw$Item") (j := 2) 2 (k608.q gw609.k) clk_13 (by decide) (qm_4 (i := 157) rfl rfl) (Or.inl rfl) (Or.inl rfl) tyX13_ok rfl nmX13 d_Cl_act_638 rfl rfl (fun _ => rfl) rfl (?_ : WD _ _ 641 _ _ _ _ _ _)
                refine x_aload_nP (some x1) d_Cl_act_641 rfl (?_ : WD _ _ 642 _ _ _ _ _ _)
                refine x_getP (ref := "CoinSamplerLaw$Books") (j := 0) 0 ((((k588.q gw592.k).q gw598.k).nu fq607).q gw609.k) clk_11 (by decide) (qm_2 (i := 156) rfl rfl) (Or.inl rfl) rfl rfl d_Cl_act_642 (y := (wR w609 x1 0)) rfl (?_ : WD _ _ 645 _ _ _ _ _ _)
                refine x_aloadP (some q607) d_Cl_act_645 rfl (?_ : WD _ _ 647 _ _ _ _ _ _)
                obtain ⟨a611, e612, h⟩ := h
                rw [e612]
                obtain ⟨c613, s614, h615, h616, h⟩ := h
                obtain ⟨k617, h⟩ := h
                refine x_callV (ν := M_Al_add_9ea2d) [vA q607] ok_M_Al_add_9ea2d okv_M_Al_add_9ea2d k617 rfl rfl (qm_4 (i := 181) rfl rfl) np_M_Al_add_9ea2d rfl ⟨Nat.le_of_ble_eq_true rfl, Nat.le_of_ble_eq_true rfl⟩ (Nat.le_of_ble_eq_true rfl) rfl d_Cl_act_647 h615 h616 (DI.k h (fun v619 w618 gw618 h => (?_ : WD _ _ 650 _ _ _ _ _ _)))
                refine x_pop d_Cl_act_650 rfl (?_ : WD _ _ 651 _ _ _ _ _ _)
                refine x_aload_n d_Cl_act_651 rfl (?_ : WD _ _ 652 _ _ _ _ _ _)
                refine x_iload d_Cl_act_652 rfl (?_ : WD _ _ 654 _ _ _ _ _ _)
                refine x_iload d_Cl_act_654 rfl (?_ : WD _ _ 656 _ _ _ _ _ _)
                refine x_iload d_Cl_act_656 rfl (?_ : WD _ _ 658 _ _ _ _ _ _)
                refine x_callC (ν := M_Cs_add) (k := 0) [vI x8, vI x9, vI y0] ok_M_Cs_add okv_M_Cs_add (by decide) rfl rfl rfl (qm_5 (i := 150) rfl rfl) np_M_Cs_add rfl ⟨Nat.le_of_ble_eq_true rfl, Nat.le_of_ble_eq_true rfl⟩ (Nat.le_of_ble_eq_true rfl) rfl d_Cl_act_658 (CI.kd h (fun v620 σ621 h => (?_ : WD _ _ 661 _ _ _ _ _ _)))
                refine x_iload d_Cl_act_661 rfl (?_ : WD _ _ 663 _ _ _ _ _ _)
                refine x_icmp_ne 670 d_Cl_act_663 rfl ⟨fun c622 => (?_ : WD _ _ 670 _ _ _ _ _ _), fun c622 => (?_ : WD _ _ 666 _ _ _ _ _ _)⟩
                · replace h := h.1 c622
                  refine x_iconst d_Cl_act_670 (by decide) (?_ : WD _ _ 671 _ _ _ _ _ _)
                  exact x_zreturn rfl d_Cl_act_671 (by decide) h
                · replace h := h.2 c622
                  refine x_iconst d_Cl_act_666 (by decide) (?_ : WD _ _ 667 _ _ _ _ _ _)
                  refine x_goto 671 d_Cl_act_667 rfl ?_
                  exact x_zreturn rfl d_Cl_act_671 (by decide) h
            · replace h := h.2 c600
              refine x_bipush d_Cl_act_597 (by decide) (by decide) (?_ : WD _ _ 599 _ _ _ _ _ _)
              refine x_goto 604 d_Cl_act_599 rfl ?_
              refine x_istore (ls' := [(6, vI (-5)), (10, vI y0), (0, vR 0), (1, vA x1), (4, vI x4), (8, vI x8), (9, vI x9)]) d_Cl_act_604 (by decide) rfl (?_ : WD _ _ 606 _ _ _ _ _ _)
              refine x_iload d_Cl_act_606 rfl (?_ : WD _ _ 608 _ _ _ _ _ _)
              refine x_if_lt 651 d_Cl_act_608 rfl ⟨fun hc => (?_ : WD _ _ 651 _ _ _ _ _ _), fun hc => absurd hc (by decide)⟩
              refine x_aload_n d_Cl_act_651 rfl (?_ : WD _ _ 652 _ _ _ _ _ _)
              refine x_iload d_Cl_act_652 rfl (?_ : WD _ _ 654 _ _ _ _ _ _)
              refine x_iload d_Cl_act_654 rfl (?_ : WD _ _ 656 _ _ _ _ _ _)
              refine x_iload d_Cl_act_656 rfl (?_ : WD _ _ 658 _ _ _ _ _ _)
              refine x_callC (ν := M_Cs_add) (k := 0) [vI x8, vI x9, vI y0] ok_M_Cs_add okv_M_Cs_add (by decide) rfl rfl rfl (qm_5 (i := 150) rfl rfl) np_M_Cs_add rfl ⟨Nat.le_of_ble_eq_true rfl, Nat.le_of_ble_eq_true rfl⟩ (Nat.le_of_ble_eq_true rfl) rfl d_Cl_act_658 (CI.kd h (fun v623 σ624 h => (?_ : WD _ _ 661 _ _ _ _ _ _)))
              refine x_iload d_Cl_act_661 rfl (?_ : WD _ _ 663 _ _ _ _ _ _)
              refine x_icmp_ne 670 d_Cl_act_663 rfl ⟨fun c625 => (?_ : WD _ _ 670 _ _ _ _ _ _), fun c625 => (?_ : WD _ _ 666 _ _ _ _ _ _)⟩
              · replace h := h.1 c625
                refine x_iconst d_Cl_act_670 (by decide) (?_ : WD _ _ 671 _ _ _ _ _ _)
                exact x_zreturn rfl d_Cl_act_671 (by decide) h
              · replace h := h.2 c625
                refine x_iconst d_Cl_act_666 (by decide) (?_ : WD _ _ 667 _ _ _ _ _ _)
                refine x_goto 671 d_Cl_act_667 rfl ?_
                exact x_zreturn rfl d_Cl_act_671 (by decide) h
        · replace h := h.2 c587
          refine x_bipush d_Cl_act_571 (by decide) (by decide) (?_ : WD _ _ 573 _ _ _ _ _ _)
          refine x_goto 604 d_Cl_act_573 rfl ?_
          refine x_istore (ls' := [(6, vI (-4)), (10, vI y0), (0, vR 0), (1, vA x1), (4, vI x4), (8, vI x8), (9, vI x9)]) d_Cl_act_604 (by decide) rfl (?_ : WD _ _ 606 _ _ _ _ _ _)
          refine x_iload d_Cl_act_606 rfl (?_ : WD _ _ 608 _ _ _ _ _ _)
          refine x_if_lt 651 d_Cl_act_608 rfl ⟨fun hc => (?_ : WD _ _ 651 _ _ _ _ _ _), fun hc => absurd hc (by decide)⟩
          refine x_aload_n d_Cl_act_651 rfl (?_ : WD _ _ 652 _ _ _ _ _ _)
          refine x_iload d_Cl_act_652 rfl (?_ : WD _ _ 654 _ _ _ _ _ _)
          refine x_iload d_Cl_act_654 rfl (?_ : WD _ _ 656 _ _ _ _ _ _)
          refine x_iload d_Cl_act_656 rfl (?_ : WD _ _ 658 _ _ _ _ _ _)
          refine x_callC (ν := M_Cs_add) (k := 0) [vI x8, vI x9, vI y0] ok_M_Cs_add okv_M_Cs_add (by decide) rfl rfl rfl (qm_5 (i := 150) rfl rfl) np_M_Cs_add rfl ⟨Nat.le_of_ble_eq_true rfl, Nat.le_of_ble_eq_true rfl⟩ (Nat.le_of_ble_eq_true rfl) rfl d_Cl_act_658 (CI.kd h (fun v626 σ627 h => (?_ : WD _ _ 661 _ _ _ _ _ _)))
          refine x_iload d_Cl_act_661 rfl (?_ : WD _ _ 663 _ _ _ _ _ _)
          refine x_icmp_ne 670 d_Cl_act_663 rfl ⟨fun c628 => (?_ : WD _ _ 670 _ _ _ _ _ _), fun c628 => (?_ : WD _ _ 666 _ _ _ _ _ _)⟩
          · replace h := h.1 c628
            refine x_iconst d_Cl_act_670 (by decide) (?_ : WD _ _ 671 _ _ _ _ _ _)
            exact x_zreturn rfl d_Cl_act_671 (by decide) h
          · replace h := h.2 c628
            refine x_iconst d_Cl_act_666 (by decide) (?_ : WD _ _ 667 _ _ _ _ _ _)
            refine x_goto 671 d_Cl_act_667 rfl ?_
            exact x_zreturn rfl d_Cl_act_671 (by decide) h
      · replace h := h.2 c586
        refine x_bipush d_Cl_act_559 (by decide) (by decide) (?_ : WD _ _ 561 _ _ _ _ _ _)
        refine x_goto 604 d_Cl_act_561 rfl ?_
        refine x_istore (ls' := [(6, vI (-3)), (10, vI y0), (0, vR 0), (1, vA x1), (4, vI x4), (8, vI x8), (9, vI x9)]) d_Cl_act_604 (by decide) rfl (?_ : WD _ _ 606 _ _ _ _ _ _)
        refine x_iload d_Cl_act_606 rfl (?_ : WD _ _ 608 _ _ _ _ _ _)
        refine x_if_lt 651 d_Cl_act_608 rfl ⟨fun hc => (?_ : WD _ _ 651 _ _ _ _ _ _), fun hc => absurd hc (by decide)⟩
        refine x_aload_n d_Cl_act_651 rfl (?_ : WD _ _ 652 _ _ _ _ _ _)
        refine x_iload d_Cl_act_652 rfl (?_ : WD _ _ 654 _ _ _ _ _ _)
        refine x_iload d_Cl_act_654 rfl (?_ : WD _ _ 656 _ _ _ _ _ _)
        refine x_iload d_Cl_act_656 rfl (?_ : WD _ _ 658 _ _ _ _ _ _)
        refine x_callC (ν := M_Cs_add) (k := 0) [vI x8, vI x9, vI y0] ok_M_Cs_add okv_M_Cs_add (by decide) rfl rfl rfl (qm_5 (i := 150) rfl rfl) np_M_Cs_add rfl ⟨Nat.le_of_ble_eq_true rfl, Nat.le_of_ble_eq_true rfl⟩ (Nat.le_of_ble_eq_true rfl) rfl d_Cl_act_658 (CI.kd h (fun v629 σ630 h => (?_ : WD _ _ 661 _ _ _ _ _ _)))
        refine x_iload d_Cl_act_661 rfl (?_ : WD _ _ 663 _ _ _ _ _ _)
        refine x_icmp_ne 670 d_Cl_act_663 rfl ⟨fun c631 => (?_ : WD _ _ 670 _ _ _ _ _ _), fun c631 => (?_ : WD _ _ 666 _ _ _ _ _ _)⟩
        · replace h := h.1 c631
          refine x_iconst d_Cl_act_670 (by decide) (?_ : WD _ _ 671 _ _ _ _ _ _)
          exact x_zreturn rfl d_Cl_act_671 (by decide) h
        · replace h := h.2 c631
          refine x_iconst d_Cl_act_666 (by decide) (?_ : WD _ _ 667 _ _ _ _ _ _)
          refine x_goto 671 d_Cl_act_667 rfl ?_
          exact x_zreturn rfl d_Cl_act_671 (by decide) h
set_option maxRecDepth 20000 in
theorem l_Cl_act_6 {G : Gq} {K : Int → Wd → Prop} {w : Wd} {rc rs : Nat} (x6 : Int) (x8 : Int) (x9 : Int) (h : CI M_Cs_terms [vR 0, vI x8, vI x9] (wS w) (fun v632 σ633 => (¬ v632 = x6 → K 0 (uS w σ633)) ∧ (v632 = x6 → K 1 (uS w σ633)))) : WD G M_Cl_act 442 [(0, vR 0), (6, vI x6), (8, vI x8), (9, vI x9)] [] w rc rs (yI K) := by
  refine x_aload_n d_Cl_act_442 rfl (?_ : WD _ _ 443 _ _ _ _ _ _)
  refine x_iload d_Cl_act_443 rfl (?_ : WD _ _ 445 _ _ _ _ _ _)
  refine x_iload d_Cl_act_445 rfl (?_ : WD _ _ 447 _ _ _ _ _ _)
  refine x_callC (ν := M_Cs_terms) (k := 0) [vI x8, vI x9] ok_M_Cs_terms okv_M_Cs_terms (by decide) rfl rfl rfl (qm_5 (i := 131) rfl rfl) np_M_Cs_terms rfl ⟨Nat.le_of_ble_eq_true rfl, Nat.le_of_ble_eq_true rfl⟩ (Nat.le_of_ble_eq_true rfl) rfl d_Cl_act_447 (CI.kd h (fun v632 σ633 h => (?_ : WD _ _ 450 _ _ _ _ _ _)))
  refine x_iload d_Cl_act_450 rfl (?_ : WD _ _ 452 _ _ _ _ _ _)
  refine x_icmp_ne 459 d_Cl_act_452 rfl ⟨fun c634 => (?_ : WD _ _ 459 _ _ _ _ _ _), fun c634 => (?_ : WD _ _ 455 _ _ _ _ _ _)⟩
  · replace h := h.1 c634
    refine x_iconst d_Cl_act_459 (by decide) (?_ : WD _ _ 460 _ _ _ _ _ _)
    exact x_zreturn rfl d_Cl_act_460 (by decide) h
  · replace h := h.2 c634
    refine x_iconst d_Cl_act_455 (by decide) (?_ : WD _ _ 456 _ _ _ _ _ _)
    refine x_goto 460 d_Cl_act_456 rfl ?_
    exact x_zreturn rfl d_Cl_act_460 (by decide) h
