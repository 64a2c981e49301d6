-- what each stretch of a method asks (printed by wip/gen/gen_dout.py)
set_option maxRecDepth 20000 in
theorem e_Cl_cell {G : Gq} {K : Int → Wd → Prop} {w : Wd} {mc ms : Nat} (x0 : Nat) (x1 : Int) (h : ∃ n1 : Nat, ((Is G w x0 (kA 0 n1)) ∧ (inR (n1 : Int)) ∧ ((n1 : Int) ≤ x1 → K 0 w) ∧ (¬ (n1 : Int) ≤ x1 → (0 ≤ x1) ∧ (x1 < (n1 : Int)) ∧ K (wI w x0 x1) w))) : DI G M_Cl_cell [vA x0, vI x1] w mc ms K := by
  refine DC.of ok_M_Cl_cell (ls := [(0, vA x0), (1, vI x1)]) rfl (Nat.le_of_ble_eq_true rfl) ?_
  refine x_iload_n d_Cl_cell_0 rfl (?_ : WD _ _ 1 _ _ _ _ _ _)
  refine x_aload_nP (some x0) d_Cl_cell_1 rfl (?_ : WD _ _ 2 _ _ _ _ _ _)
  obtain ⟨n1, h⟩ := h
  obtain ⟨k2, h⟩ := h
  obtain ⟨h3, h⟩ := h
  refine x_alenA k2 (fun _ => rfl) h3 d_Cl_cell_2 (?_ : WD _ _ 3 _ _ _ _ _ _)
  refine x_icmp_ge 12 d_Cl_cell_3 rfl ⟨fun c4 => (?_ : WD _ _ 12 _ _ _ _ _ _), fun c4 => (?_ : WD _ _ 6 _ _ _ _ _ _)⟩
  · replace h := h.1 c4
    refine x_iconst d_Cl_cell_12 (by decide) (?_ : WD _ _ 13 _ _ _ _ _ _)
    exact x_ireturn rfl d_Cl_cell_13 h
  · replace h := h.2 c4
    refine x_aload_nP (some x0) d_Cl_cell_6 rfl (?_ : WD _ _ 7 _ _ _ _ _ _)
    refine x_iload_n d_Cl_cell_7 rfl (?_ : WD _ _ 8 _ _ _ _ _ _)
    obtain ⟨h5, h⟩ := h
    obtain ⟨h6, h⟩ := h
    refine x_iald k2 d_Cl_cell_8 h5 h6 (y := (wI w x0 x1)) rfl (?_ : WD _ _ 9 _ _ _ _ _ _)
    refine x_goto 13 d_Cl_cell_9 rfl ?_
    exact x_ireturn rfl d_Cl_cell_13 h
set_option maxRecDepth 20000 in
theorem e_Cl_items {G : Gq} {K : Int → Wd → Prop} {w : Wd} {mc ms : Nat} (x1 : Nat) (x2 : Nat) (h : (Is G w x1 (kO 11)) ∧ ∃ a2 : Nat, (wR w x1 0) = some a2 ∧ ((Is G w a2 (kO 14)) ∧ DI G M_Al_size [vA a2] w 0 0 (fun v6 w5 => (1 + 100 ≤ mc) ∧ (100 + 100 * 6 ≤ ms) ∧ ∀ (q9 : Nat) (r10 : Nat → Nat), MnF G w5 q9 r10 100 → ((1 ≤ (mc - (1 + 100))) ∧ (1 ≤ (ms - (100 + 100 * 6))) ∧ ∀ q13 : Nat, Fr G (mna w5 q9 100 6 r10 100) q13 → (∃ c15 s16 : Nat, c15 ≤ ((mc - (1 + 100)) - 1) ∧ s16 ≤ ((ms - (100 + 100 * 6)) - 1) ∧ (DV G M_Lx_init [vA q13] (uN (mna w5 q9 100 6 r10 100) q13 (kO 19)) c15 s16 (fun w19 => WD G M_Cl_items 33 [(0, vR 0), (1, vA x1), (2, vA x2), (3, vI 1), (4, vI v6), (5, vA q9), (6, vA q13), (7, vI 0)] [] w19 (((mc - (1 + 100)) - 1) - c15) (((ms - (100 + 100 * 6)) - 1) - s16) (yI K)))))))) : DI G M_Cl_items [vR 0, vA x1, vA x2] w mc ms K := by
  refine DC.of ok_M_Cl_items (ls := [(0, vR 0), (1, vA x1), (2, vA x2)]) rfl (Nat.le_of_ble_eq_true rfl) ?_
  refine x_iconst d_Cl_items_0 (by decide) (?_ : WD _ _ 1 _ _ _ _ _ _)
  refine x_istore_n (ls' := [(3, vI 1), (0, vR 0), (1, vA x1), (2, vA x2)]) d_Cl_items_1 rfl (by decide) rfl (?_ : WD _ _ 2 _ _ _ _ _ _)
  refine x_aload_nP (some x1) d_Cl_items_2 rfl (?_ : WD _ _ 3 _ _ _ _ _ _)
  obtain ⟨k1, h⟩ := h
  refine x_getP (ref := "CoinSamplerLaw$Books") (j := 0) 0 k1 clk_11 (by decide) (qm_2 (i := 156) rfl rfl) (Or.inl rfl) rfl rfl d_Cl_items_3 (y := (wR w x1 0)) rfl (?_ : WD _ _ 6 _ _ _ _ _ _)
  obtain ⟨a2, e3, h⟩ := h
  rw [e3]
  obtain ⟨k4, h⟩ := h
  refine x_callV (ν := M_Al_size) [] ok_M_Al_size okv_M_Al_size k4 rfl rfl (qm_3 (i := 178) rfl rfl) np_M_Al_size rfl ⟨Nat.le_of_ble_eq_true rfl, Nat.le_of_ble_eq_true rfl⟩ (Nat.le_of_ble_eq_true rfl) rfl d_Cl_items_6 (Nat.zero_le _) (Nat.zero_le _) (DI.k h (fun v6 w5 gw5 h => (?_ : WD _ _ 9 _ _ _ _ _ _)))
  refine x_istore (ls' := [(4, vI v6), (3, vI 1), (0, vR 0), (1, vA x1), (2, vA x2)]) d_Cl_items_9 (by decide) rfl (?_ : WD _ _ 11 _ _ _ _ _ _)
  refine x_bipush d_Cl_items_11 (by decide) (by decide) (?_ : WD _ _ 13 _ _ _ _ _ _)
  refine x_bipush d_Cl_items_13 (by decide) (by decide) (?_ : WD _ _ 15 _ _ _ _ _ _)
  obtain ⟨h7, h⟩ := h
  obtain ⟨h8, h⟩ := h
  refine x_mna (N := 100) (K := 6) (qm_6 (i := 111) rfl rfl) (qm_1 (i := 107) rfl rfl) d_Cl_items_15 (by decide) (by decide) h7 h8 (fun q9 r10 fq9 => (?_ : WD _ _ 19 _ _ _ _ _ _))
  replace h := h q9 r10 fq9
  refine x_astoreP (some q9) (ls' := [(5, vA q9), (4, vI v6), (3, vI 1), (0, vR 0), (1, vA x1), (2, vA x2)]) d_Cl_items_19 (by decide) rfl (?_ : WD _ _ 21 _ _ _ _ _ _)
  obtain ⟨h11, h⟩ := h
  obtain ⟨h12, h⟩ := h
  refine x_new d_Cl_items_21 clk_19 tyX29_ok (qm_6 (i := 113) rfl rfl) (qm_6 (i := 114) rfl rfl) (qm_1 (i := 35) rfl rfl) hfd_19 h11 h12 (fun q13 fq13 => (?_ : WD _ _ 24 _ _ _ _ _ _))
  replace h := h q13 fq13
  have k14 : Ow (uN (mna w5 q9 100 6 r10 100) q13 (kO 19)) q13 (kO 19) := Ow.nw
  refine x_dup d_Cl_items_24 rfl (?_ : WD _ _ 25 _ _ _ _ _ _)
  obtain ⟨c15, s16, h17, h18, h⟩ := h
  refine x_callI (ν := M_Lx_init) [] ok_M_Lx_init oki_M_Lx_init rfl rfl (qm_6 (i := 115) rfl rfl) np_M_Lx_init rfl ⟨Nat.le_of_ble_eq_true rfl, Nat.le_of_ble_eq_true rfl⟩ (Nat.le_of_ble_eq_true rfl) rfl d_Cl_items_25 h17 h18 (DV.k h (fun w19 gw19 h => (?_ : WD _ _ 28 _ _ _ _ _ _)))
  refine x_astoreP (some q13) (ls' := [(6, vA q13), (5, vA q9), (4, vI v6), (3, vI 1), (0, vR 0), (1, vA x1), (2, vA x2)]) d_Cl_items_28 (by decide) rfl (?_ : WD _ _ 30 _ _ _ _ _ _)
  refine x_iconst d_Cl_items_30 (by decide) (?_ : WD _ _ 31 _ _ _ _ _ _)
  refine x_istore (ls' := [(7, vI 0), (6, vA q13), (5, vA q9), (4, vI v6), (3, vI 1), (0, vR 0), (1, vA x1), (2, vA x2)]) d_Cl_items_31 (by decide) rfl (?_ : WD _ _ 33 _ _ _ _ _ _)
  refine x_pick (ls' := [(0, vR 0), (1, vA x1), (2, vA x2), (3, vI 1), (4, vI v6), (5, vA q9), (6, vA q13), (7, vI 0)]) [5, 6, 7, 4, 3, 2, 1, 0] rfl ?_
  exact h
set_option maxRecDepth 20000 in
theorem l_Cl_items_1 {G : Gq} {K : Int → Wd → Prop} {w : Wd} {rc rs : Nat} (x1 : Nat) (x2 : Nat) (x3 : Int) (x4 : Int) (x5 : Nat) (x6 : Nat) (x7 : Int) (h : (x4 ≤ x7 → ∃ c22 s23 : Nat, c22 ≤ rc ∧ s23 ≤ rs ∧ ((Is G w x2 (kO 14)) ∧ DP G M_Al_iterator [vA x2] w c22 s23 (fun v28 w27 => WD G M_Cl_items 344 [(0, vR 0), (1, vA x1), (4, vI x4), (5, vA x5), (6, vA x6), (7, vP v28)] [] w27 (rc - c22) (rs - s23) (yI K)))) ∧ (¬ x4 ≤ x7 → (Is G w x1 (kO 11)) ∧ ∃ a30 : Nat, (wR w x1 0) = some a30 ∧ ((Is G w a30 (kO 14)) ∧ DP G M_Al_get [vA a30, vI x7] w 0 0 (fun v34 w33 => ∃ a35 : Nat, v34 = some a35 ∧ ((Is G w33 a35 (kO 13)) ∧ DI G M_Bo_certain [vA x1, vA a35] w33 0 0 (fun v39 w38 => (¬ v39 = 0 → ∃ c41 s42 : Nat, c41 ≤ rc ∧ s42 ≤ rs ∧ (DI G M_Cl_oftenOf [vA x2, vI x7] w38 c41 s42 (fun v46 w45 => (1 ≤ (rc - c41)) ∧ (9 ≤ (rs - s42)) ∧ ∀ q49 : Nat, Fr G w45 q49 → ((0 < (9 : Int)) ∧ (1 < (9 : Int)) ∧ (2 < (9 : Int)) ∧ (3 < (9 : Int)) ∧ DI G M_It_error [vA a35] (uI (uI (uI (uI (uN w45 q49 (kA 0 9)) q49 0 (wI w45 a35 0)) q49 1 (wI w45 a35 1)) q49 2 (wI w45 a35 2)) q49 3 (wI w45 a35 3)) 0 0 (fun v56 w55 => (4 < (9 : Int)) ∧ DI G M_It_taint [vA a35] (uI w55 q49 4 v56) 0 0 (fun v59 w58 => (5 < (9 : Int)) ∧ (6 < (9 : Int)) ∧ (7 < (9 : Int)) ∧ (8 < (9 : Int)) ∧ WD G M_Cl_items 181 [(0, vR 0), (1, vA x1), (2, vA x2), (3, vI x3), (4, vI x4), (5, vA x5), (6, vA x6), (7, vI x7), (8, vA a35), (9, vI v39), (10, vI 0), (11, vI v46), (12, vA q49), (13, vI 0)] [] (uI (uI (uI (uI w58 q49 5 v59) q49 6 1) q49 7 v46) q49 8 0) ((rc - c41) - 1) ((rs - s42) - 9) (yI K))))))) ∧ (v39 = 0 → DI G M_It_coins [vA a35] w38 0 0 (fun v65 w64 => (v65 ≤ 0 → ∃ c67 s68 : Nat, c67 ≤ rc ∧ s68 ≤ rs ∧ (DI G M_Cl_oftenOf [vA x2, vI x7] w64 c67 s68 (fun v72 w71 => (1 ≤ (rc - c67)) ∧ (9 ≤ (rs - s68)) ∧ ∀ q75 : Nat, Fr G w71 q75 → ((0 < (9 : Int)) ∧ (1 < (9 : Int)) ∧ (2 < (9 : Int)) ∧ (3 < (9 : Int)) ∧ DI G M_It_error [vA a35] (uI (uI (uI (uI (uN w71 q75 (kA 0 9)) q75 0 (wI w71 a35 0)) q75 1 (wI w71 a35 1)) q75 2 (wI w71 a35 2)) q75 3 (wI w71 a35 3)) 0 0 (fun v82 w81 => (4 < (9 : Int)) ∧ DI G M_It_taint [vA a35] (uI w81 q75 4 v82) 0 0 (fun v85 w84 => (5 < (9 : Int)) ∧ (6 < (9 : Int)) ∧ (7 < (9 : Int)) ∧ (8 < (9 : Int)) ∧ WD G M_Cl_items 181 [(0, vR 0), (1, vA x1), (2, vA x2), (3, vI x3), (4, vI x4), (5, vA x5), (6, vA x6), (7, vI x7), (8, vA a35), (9, vI v39), (10, vI 0), (11, vI v72), (12, vA q75), (13, vI 0)] [] (uI (uI (uI (uI w84 q75 5 v85) q75 6 0) q75 7 v72) q75 8 0) ((rc - c67) - 1) ((rs - s68) - 9) (yI K))))))) ∧ (¬ v65 ≤ 0 → ∃ c90 s91 : Nat, c90 ≤ rc ∧ s91 ≤ rs ∧ (DI G M_Cl_oftenOf [vA x2, vI x7] w64 c90 s91 (fun v95 w94 => (1 ≤ (rc - c90)) ∧ (9 ≤ (rs - s91)) ∧ ∀ q98 : Nat, Fr G w94 q98 → ((0 < (9 : Int)) ∧ (1 < (9 : Int)) ∧ (2 < (9 : Int)) ∧ (3 < (9 : Int)) ∧ DI G M_It_error [vA a35] (uI (uI (uI (uI (uN w94 q98 (kA 0 9)) q98 0 (wI w94 a35 0)) q98 1 (wI w94 a35 1)) q98 2 (wI w94 a35 2)) q98 3 (wI w94 a35 3)) 0 0 (fun v105 w104 => (4 < (9 : Int)) ∧ DI G M_It_taint [vA a35] (uI w104 q98 4 v105) 0 0 (fun v108 w107 => (5 < (9 : Int)) ∧ (6 < (9 : Int)) ∧ (7 < (9 : Int)) ∧ (8 < (9 : Int)) ∧ WD G M_Cl_items 181 [(0, vR 0), (1, vA x1), (2, vA x2), (3, vI x3), (4, vI x4), (5, vA x5), (6, vA x6), (7, vI x7), (8, vA a35), (9, vI v39), (10, vI 1), (11, vI v95), (12, vA q98), (13, vI 0)] [] (uI (uI (uI (uI w107 q98 5 v108) q98 6 0) q98 7 v95) q98 8 x3) ((rc - c90) - 1) ((rs - s91) - 9) (yI K))))))))))))))) : WD G M_Cl_items 33 [(0, vR 0), (1, vA x1), (2, vA x2), (3, vI x3), (4, vI x4), (5, vA x5), (6, vA x6), (7, vI x7)] [] w rc rs (yI K) := by
  refine x_iload d_Cl_items_33 rfl (?_ : WD _ _ 35 _ _ _ _ _ _)
  refine x_iload d_Cl_items_35 rfl (?_ : WD _ _ 37 _ _ _ _ _ _)
  refine x_icmp_ge 338 d_Cl_items_37 rfl ⟨fun c21 => (?_ : WD _ _ 338 _ _ _ _ _ _), fun c21 => (?_ : WD _ _ 40 _ _ _ _ _ _)⟩
  · replace h := h.1 c21
    refine x_aload_nP (some x2) d_Cl_items_338 rfl (?_ : WD _ _ 339 _ _ _ _ _ _)
    obtain ⟨c22, s23, h24, h25, h⟩ := h
    obtain ⟨k26, h⟩ := h
    refine x_callV (ν := M_Al_iterator) [] ok_M_Al_iterator okv_M_Al_iterator k26 rfl rfl (qm_5 (i := 180) rfl rfl) np_M_Al_iterator rfl ⟨Nat.le_of_ble_eq_true rfl, Nat.le_of_ble_eq_true rfl⟩ (Nat.le_of_ble_eq_true rfl) rfl d_Cl_items_339 h24 h25 (DP.k h (fun v28 w27 gw27 h => (?_ : WD _ _ 342 _ _ _ _ _ _)))
    refine x_astoreP v28 (ls' := [(7, vP v28), (0, vR 0), (1, vA x1), (2, vA x2), (3, vI x3), (4, vI x4), (5, vA x5), (6, vA x6)]) d_Cl_items_342 (by decide) rfl (?_ : WD _ _ 344 _ _ _ _ _ _)
    refine x_pick (ls' := [(0, vR 0), (1, vA x1), (4, vI x4), (5, vA x5), (6, vA x6), (7, vP v28)]) [1, 2, 5, 6, 7, 0] rfl ?_
    exact h
  · replace h := h.2 c21
    refine x_aload_nP (some x1) d_Cl_items_40 rfl (?_ : WD _ _ 41 _ _ _ _ _ _)
    obtain ⟨k29, h⟩ := h
    refine x_getP (ref := "CoinSamplerLaw$Books") (j := 0) 0 k29 clk_11 (by decide) (qm_2 (i := 156) rfl rfl) (Or.inl rfl) rfl rfl d_Cl_items_41 (y := (wR w x1 0)) rfl (?_ : WD _ _ 44 _ _ _ _ _ _)
    refine x_iload d_Cl_items_44 rfl (?_ : WD _ _ 46 _ _ _ _ _ _)
    obtain ⟨a30, e31, h⟩ := h
    rw [e31]
    obtain ⟨k32, h⟩ := h
    refine x_callV (ν := M_Al_get) [vI x7] ok_M_Al_get okv_M_Al_get k32 rfl rfl (qm_3 (i := 183) rfl rfl) np_M_Al_get rfl ⟨Nat.le_of_ble_eq_true rfl, Nat.le_of_ble_eq_true rfl⟩ (Nat.le_of_ble_eq_true rfl) rfl d_Cl_items_46 (Nat.zero_le _) (Nat.zero_le _) (DP.k h (fun v34 w33 gw33 h => (?_ : WD _ _ 49 _ _ _ _ _ _)))
    obtain ⟨a35, e36, h⟩ := h
    rw [e36]
    obtain ⟨k37, h⟩ := h
    refine x_cast k37 rfl (Or.inl rfl) (qm_3 (i := 184) rfl rfl) d_Cl_items_49 (?_ : WD _ _ 52 _ _ _ _ _ _)
    refine x_astoreP (some a35) (ls' := [(8, vA a35), (0, vR 0), (1, vA x1), (2, vA x2), (3, vI x3), (4, vI x4), (5, vA x5), (6, vA x6), (7, vI x7)]) d_Cl_items_52 (by decide) rfl (?_ : WD _ _ 54 _ _ _ _ _ _)
    refine x_aload_nP (some x1) d_Cl_items_54 rfl (?_ : WD _ _ 55 _ _ _ _ _ _)
    refine x_aloadP (some a35) d_Cl_items_55 rfl (?_ : WD _ _ 57 _ _ _ _ _ _)
    refine x_callV (ν := M_Bo_certain) [vA a35] ok_M_Bo_certain okv_M_Bo_certain (k29.q gw33.k) rfl rfl (qm_5 (i := 185) rfl rfl) np_M_Bo_certain rfl ⟨Nat.le_of_ble_eq_true rfl, Nat.le_of_ble_eq_true rfl⟩ (Nat.le_of_ble_eq_true rfl) rfl d_Cl_items_57 (Nat.zero_le _) (Nat.zero_le _) (DI.k h (fun v39 w38 gw38 h => (?_ : WD _ _ 60 _ _ _ _ _ _)))
    refine x_istore (ls' := [(9, vI v39), (8, vA a35), (0, vR 0), (1, vA x1), (2, vA x2), (3, vI x3), (4, vI x4), (5, vA x5), (6, vA x6), (7, vI x7)]) d_Cl_items_60 (by decide) rfl (?_ : WD _ _ 62 _ _ _ _ _ _)
    refine x_iload d_Cl_items_62 rfl (?_ : WD _ _ 64 _ _ _ _ _ _)
    refine x_if_ne 79 d_Cl_items_64 rfl ⟨fun c40 => (?_ : WD _ _ 79 _ _ _ _ _ _), fun c40 => (?_ : WD _ _ 67 _ _ _ _ _ _)⟩
    · replace h := h.1 c40
      refine x_iconst d_Cl_items_79 (by decide) (?_ : WD _ _ 80 _ _ _ _ _ _)
      refine x_istore (ls' := [(10, vI 0), (9, vI v39), (8, vA a35), (0, vR 0), (1, vA x1), (2, vA x2), (3, vI x3), (4, vI x4), (5, vA x5), (6, vA x6), (7, vI x7)]) d_Cl_items_80 (by decide) rfl (?_ : WD _ _ 82 _ _ _ _ _ _)
      refine x_aload_nP (some x2) d_Cl_items_82 rfl (?_ : WD _ _ 83 _ _ _ _ _ _)
      refine x_iload d_Cl_items_83 rfl (?_ : WD _ _ 85 _ _ _ _ _ _)
      obtain ⟨c41, s42, h43, h44, h⟩ := h
      refine x_callS (ν := M_Cl_oftenOf) [vA x2, vI x7] ok_M_Cl_oftenOf oks_M_Cl_oftenOf (qm_6 (i := 200) rfl rfl) np_M_Cl_oftenOf rfl ⟨Nat.le_of_ble_eq_true rfl, Nat.le_of_ble_eq_true rfl⟩ (Nat.le_of_ble_eq_true rfl) rfl d_Cl_items_85 h43 h44 (DI.k h (fun v46 w45 gw45 h => (?_ : WD _ _ 88 _ _ _ _ _ _)))
      refine x_istore (ls' := [(11, vI v46), (10, vI 0), (9, vI v39), (8, vA a35), (0, vR 0), (1, vA x1), (2, vA x2), (3, vI x3), (4, vI x4), (5, vA x5), (6, vA x6), (7, vI x7)]) d_Cl_items_88 (by decide) rfl (?_ : WD _ _ 90 _ _ _ _ _ _)
      refine x_bipush d_Cl_items_90 (by decide) (by decide) (?_ : WD _ _ 92 _ _ _ _ _ _)
      obtain ⟨h47, h⟩ := h
      obtain ⟨h48, h⟩ := h
      refine x_newa (t := 0) 9 rfl d_Cl_items_92 rfl (qm_1 (i := 107) rfl rfl) (fun _ => rfl) (fun _ _ => rfl) (fun _ => rfl) (by decide) (by decide) h47 h48 (fun q49 fq49 => (?_ : WD _ _ 94 _ _ _ _ _ _))
      replace h := h q49 fq49
      have k50 : Ow (uN w45 q49 (kA 0 9)) q49 (kA 0 9) := Ow.nw
      refine x_dup d_Cl_items_94 rfl (?_ : WD _ _ 95 _ _ _ _ _ _)
      refine x_iconst d_Cl_items_95 (by decide) (?_ : WD _ _ 96 _ _ _ _ _ _)
      refine x_aloadP (some a35) d_Cl_items_96 rfl (?_ : WD _ _ 98 _ _ _ _ _ _)
      refine x_getI (ref := "CoinSamplerLaw$Item") (j := 0) 0 (((k37.q gw38.k).q gw45.k).nu fq49) clk_13 (by decide) (qm_4 (i := 151) rfl rfl) (Or.inl rfl) rfl rfl d_Cl_items_98 (y := (wI w45 a35 0)) (wI_uN (fq49.ne ((k37.q gw38.k).q gw45.k))) (?_ : WD _ _ 101 _ _ _ _ _ _)
      obtain ⟨h51, h⟩ := h
      refine x_iast k50 d_Cl_items_101 (by decide) h51 (?_ : WD _ _ 102 _ _ _ _ _ _)
      refine x_dup d_Cl_items_102 rfl (?_ : WD _ _ 103 _ _ _ _ _ _)
      refine x_iconst d_Cl_items_103 (by decide) (?_ : WD _ _ 104 _ _ _ _ _ _)
      refine x_aloadP (some a35) d_Cl_items_104 rfl (?_ : WD _ _ 106 _ _ _ _ _ _)
      refine x_getI (ref := "CoinSamplerLaw$Item") (j := 1) 1 (((k37.q gw38.k).q gw45.k).nu fq49) clk_13 (by decide) (qm_4 (i := 153) rfl rfl) (Or.inl rfl) rfl rfl d_Cl_items_106 (y := (wI w45 a35 1)) ((wI_uI_a (fq49.ne ((k37.q gw38.k).q gw45.k))).trans (wI_uN (fq49.ne ((k37.q gw38.k).q gw45.k)))) (?_ : WD _ _ 109 _ _ _ _ _ _)
      obtain ⟨h52, h⟩ := h
      refine x_iast k50 d_Cl_items_109 (by decide) h52 (?_ : WD _ _ 110 _ _ _ _ _ _)
      refine x_dup d_Cl_items_110 rfl (?_ : WD _ _ 111 _ _ _ _ _ _)
      refine x_iconst d_Cl_items_111 (by decide) (?_ : WD _ _ 112 _ _ _ _ _ _)
      refine x_aloadP (some a35) d_Cl_items_112 rfl (?_ : WD _ _ 114 _ _ _ _ _ _)
      refine x_getI (ref := "CoinSamplerLaw$Item") (j := 2) 2 (((k37.q gw38.k).q gw45.k).nu fq49) clk_13 (by decide) (qm_4 (i := 157) rfl rfl) (Or.inl rfl) rfl rfl d_Cl_items_114 (y := (wI w45 a35 2)) ((wI_uI_a (fq49.ne ((k37.q gw38.k).q gw45.k))).trans ((wI_uI_a (fq49.ne ((k37.q gw38.k).q gw45.k))).trans (wI_uN (fq49.ne ((k37.q gw38.k).q gw45.k))))) (?_ : WD _ _ 117 _ _ _ _ _ _)
      obtain ⟨h53, h⟩ := h
      refine x_iast k50 d_Cl_items_117 (by decide) h53 (?_ : WD _ _ 118 _ _ _ _ _ _)
      refine x_dup d_Cl_items_118 rfl (?_ : WD _ _ 119 _ _ _ _ _ _)
      refine x_iconst d_Cl_items_119 (by decide) (?_ : WD _ _ 120 _ _ _ _ _ _)
      refine x_aloadP (some a35) d_Cl_items_120 rfl (?_ : WD _ _ 122 _ _ _ _ _ _)
      refine x_getI (ref := "CoinSamplerLaw$Item") (j := 3) 3 (((k37.q gw38.k).q gw45.k).nu fq49) clk_13 (by decide) (qm_4 (i := 159) rfl rfl) (Or.inl rfl) rfl rfl d_Cl_items_122 (y := (wI w45 a35 3)) ((wI_uI_a (fq49.ne ((k37.q gw38.k).q gw45.k))).trans ((wI_uI_a (fq49.ne ((k37.q gw38.k).q gw45.k))).trans ((wI_uI_a (fq49.ne ((k37.q gw38.k).q gw45.k))).trans (wI_uN (fq49.ne ((k37.q gw38.k).q gw45.k)))))) (?_ : WD _ _ 125 _ _ _ _ _ _)
      obtain ⟨h54, h⟩ := h
      refine x_iast k50 d_Cl_items_125 (by decide) h54 (?_ : WD _ _ 126 _ _ _ _ _ _)
      refine x_dup d_Cl_items_126 rfl (?_ : WD _ _ 127 _ _ _ _ _ _)
      refine x_iconst d_Cl_items_127 (by decide) (?_ : WD _ _ 128 _ _ _ _ _ _)
      refine x_aloadP (some a35) d_Cl_items_128 rfl (?_ : WD _ _ 130 _ _ _ _ _ _)
      refine x_callV (ν := M_It_error) [] ok_M_It_error okv_M_It_error (((k37.q gw38.k).q gw45.k).nu fq49) rfl rfl (qm_6 (i := 204) rfl rfl) np_M_It_error rfl ⟨Nat.le_of_ble_eq_true rfl, Nat.le_of_ble_eq_true rfl⟩ (Nat.le_of_ble_eq_true rfl) rfl d_Cl_items_130 (Nat.zero_le _) (Nat.zero_le _) (DI.k h (fun v56 w55 gw55 h => (?_ : WD _ _ 133 _ _ _ _ _ _)))
      obtain ⟨h57, h⟩ := h
      refine x_iast (k50.q gw55.k) d_Cl_items_133 (by decide) h57 (?_ : WD _ _ 134 _ _ _ _ _ _)
      refine x_dup d_Cl_items_134 rfl (?_ : WD _ _ 135 _ _ _ _ _ _)
      refine x_iconst d_Cl_items_135 (by decide) (?_ : WD _ _ 136 _ _ _ _ _ _)
      refine x_aloadP (some a35) d_Cl_items_136 rfl (?_ : WD _ _ 138 _ _ _ _ _ _)
      refine x_callV (ν := M_It_taint) [] ok_M_It_taint okv_M_It_taint ((((k37.q gw38.k).q gw45.k).nu fq49).q gw55.k) rfl rfl (qm_6 (i := 208) rfl rfl) np_M_It_taint rfl ⟨Nat.le_of_ble_eq_true rfl, Nat.le_of_ble_eq_true rfl⟩ (Nat.le_of_ble_eq_true rfl) rfl d_Cl_items_138 (Nat.zero_le _) (Nat.zero_le _) (DI.k h (fun v59 w58 gw58 h => (?_ : WD _ _ 141 _ _ _ _ _ _)))
      obtain ⟨h60, h⟩ := h
      refine x_iast ((k50.q gw55.k).q gw58.k) d_Cl_items_141 (by decide) h60 (?_ : WD _ _ 142 _ _ _ _ _ _)
      refine x_dup d_Cl_items_142 rfl (?_ : WD _ _ 143 _ _ _ _ _ _)
      refine x_bipush d_Cl_items_143 (by decide) (by decide) (?_ : WD _ _ 145 _ _ _ _ _ _)
      refine x_iload d_Cl_items_145 rfl (?_ : WD _ _ 147 _ _ _ _ _ _)
      refine x_if_eq 154 d_Cl_items_147 rfl ⟨fun hc => absurd hc c40, fun hc => (?_ : WD _ _ 150 _ _ _ _ _ _)⟩
      refine x_iconst d_Cl_items_150 (by decide) (?_ : WD _ _ 151 _ _ _ _ _ _)
      refine x_goto 155 d_Cl_items_151 rfl ?_
      obtain ⟨h61, h⟩ := h
      refine x_iast ((k50.q gw55.k).q gw58.k) d_Cl_items_155 (by decide) h61 (?_ : WD _ _ 156 _ _ _ _ _ _)
      refine x_dup d_Cl_items_156 rfl (?_ : WD _ _ 157 _ _ _ _ _ _)
      refine x_bipush d_Cl_items_157 (by decide) (by decide) (?_ : WD _ _ 159 _ _ _ _ _ _)
      refine x_iload d_Cl_items_159 rfl (?_ : WD _ _ 161 _ _ _ _ _ _)
      obtain ⟨h62, h⟩ := h
      refine x_iast ((k50.q gw55.k).q gw58.k) d_Cl_items_161 (by decide) h62 (?_ : WD _ _ 162 _ _ _ _ _ _)
      refine x_dup d_Cl_items_162 rfl (?_ : WD _ _ 163 _ _ _ _ _ _)
      refine x_bipush d_Cl_items_163 (by decide) (by decide) (?_ : WD _ _ 165 _ _ _ _ _ _)
      refine x_iload d_Cl_items_165 rfl (?_ : WD _ _ 167 _ _ _ _ _ _)
      refine x_if_eq 174 d_Cl_items_167 rfl ⟨fun hc => (?_ : WD _ _ 174 _ _ _ _ _ _), fun hc => absurd rfl hc⟩
      refine x_iconst d_Cl_items_174 (by decide) (?_ : WD _ _ 175 _ _ _ _ _ _)
      obtain ⟨h63, h⟩ := h
      refine x_iast ((k50.q gw55.k).q gw58.k) d_Cl_items_175 (by decide) h63 (?_ : WD _ _ 176 _ _ _ _ _ _)
      refine x_astoreP (some q49) (ls' := [(12, vA q49), (11, vI v46), (10, vI 0), (9, vI v39), (8, vA a35), (0, vR 0), (1, vA x1), (2, vA x2), (3, vI x3), (4, vI x4), (5, vA x5), (6, vA x6), (7, vI x7)]) d_Cl_items_176 (by decide) rfl (?_ : WD _ _ 178 _ _ _ _ _ _)
      refine x_iconst d_Cl_items_178 (by decide) (?_ : WD _ _ 179 _ _ _ _ _ _)
      refine x_istore (ls' := [(13, vI 0), (12, vA q49), (11, vI v46), (10, vI 0), (9, vI v39), (8, vA a35), (0, vR 0), (1, vA x1), (2, vA x2), (3, vI x3), (4, vI x4), (5, vA x5), (6, vA x6), (7, vI x7)]) d_Cl_items_179 (by decide) rfl (?_ : WD _ _ 181 _ _ _ _ _ _)
      refine x_pick (ls' := [(0, vR 0), (1, vA x1), (2, vA x2), (3, vI x3), (4, vI x4), (5, vA x5), (6, vA x6), (7, vI x7), (8, vA a35), (9, vI v39), (10, vI 0), (11, vI v46), (12, vA q49), (13, vI 0)]) [6, 7, 8, 9, 10, 11, 12, 13, 5, 4, 3, 2, 1, 0] rfl ?_
      exact h
    · replace h := h.2 c40
      refine x_aloadP (some a35) d_Cl_items_67 rfl (?_ : WD _ _ 69 _ _ _ _ _ _)
      refine x_callV (ν := M_It_coins) [] ok_M_It_coins okv_M_It_coins (k37.q gw38.k) rfl rfl (qm_6 (i := 199) rfl rfl) np_M_It_coins rfl ⟨Nat.le_of_ble_eq_true rfl, Nat.le_of_ble_eq_true rfl⟩ (Nat.le_of_ble_eq_true rfl) rfl d_Cl_items_69 (Nat.zero_le _) (Nat.zero_le _) (DI.k h (fun v65 w64 gw64 h => (?_ : WD _ _ 72 _ _ _ _ _ _)))
      refine x_if_le 79 d_Cl_items_72 rfl ⟨fun c66 => (?_ : WD _ _ 79 _ _ _ _ _ _), fun c66 => (?_ : WD _ _ 75 _ _ _ _ _ _)⟩
      · replace h := h.1 c66
        refine x_iconst d_Cl_items_79 (by decide) (?_ : WD _ _ 80 _ _ _ _ _ _)
        refine x_istore (ls' := [(10, vI 0), (9, vI v39), (8, vA a35), (0, vR 0), (1, vA x1), (2, vA x2), (3, vI x3), (4, vI x4), (5, vA x5), (6, vA x6), (7, vI x7)]) d_Cl_items_80 (by decide) rfl (?_ : WD _ _ 82 _ _ _ _ _ _)
        refine x_aload_nP (some x2) d_Cl_items_82 rfl (?_ : WD _ _ 83 _ _ _ _ _ _)
        refine x_iload d_Cl_items_83 rfl (?_ : WD _ _ 85 _ _ _ _ _ _)
        obtain ⟨c67, s68, h69, h70, h⟩ := h
        refine x_callS (ν := M_Cl_oftenOf) [vA x2, vI x7] ok_M_Cl_oftenOf oks_M_Cl_oftenOf (qm_6 (i := 200) rfl rfl) np_M_Cl_oftenOf rfl ⟨Nat.le_of_ble_eq_true rfl, Nat.le_of_ble_eq_true rfl⟩ (Nat.le_of_ble_eq_true rfl) rfl d_Cl_items_85 h69 h70 (DI.k h (fun v72 w71 gw71 h => (?_ : WD _ _ 88 _ _ _ _ _ _)))
        refine x_istore (ls' := [(11, vI v72), (10, vI 0), (9, vI v39), (8, vA a35), (0, vR 0), (1, vA x1), (2, vA x2), (3, vI x3), (4, vI x4), (5, vA x5), (6, vA x6), (7, vI x7)]) d_Cl_items_88 (by decide) rfl (?_ : WD _ _ 90 _ _ _ _ _ _)
        refine x_bipush d_Cl_items_90 (by decide) (by decide) (?_ : WD _ _ 92 _ _ _ _ _ _)
        obtain ⟨h73, h⟩ := h
        obtain ⟨h74, h⟩ := h
        refine x_newa (t := 0) 9 rfl d_Cl_items_92 rfl (qm_1 (i := 107) rfl rfl) (fun _ => rfl) (fun _ _ => rfl) (fun _ => rfl) (by decide) (by decide) h73 h74 (fun q75 fq75 => (?_ : WD _ _ 94 _ _ _ _ _ _))
        replace h := h q75 fq75
        have k76 : Ow (uN w71 q75 (kA 0 9)) q75 (kA 0 9) := Ow.nw
        refine x_dup d_Cl_items_94 rfl (?_ : WD _ _ 95 _ _ _ _ _ _)
        refine x_iconst d_Cl_items_95 (by decide) (?_ : WD _ _ 96 _ _ _ _ _ _)
        refine x_aloadP (some a35) d_Cl_items_96 rfl (?_ : WD _ _ 98 _ _ _ _ _ _)
        refine x_getI (ref := "CoinSamplerLaw$Item") (j := 0) 0 ((((k37.q gw38.k).q gw64.k).q gw71.k).nu fq75) clk_13 (by decide) (qm_4 (i := 151) rfl rfl) (Or.inl rfl) rfl rfl d_Cl_items_98 (y := (wI w71 a35 0)) (wI_uN (fq75.ne (((k37.q gw38.k).q gw64.k).q gw71.k))) (?_ : WD _ _ 101 _ _ _ _ _ _)
        obtain ⟨h77, h⟩ := h
        refine x_iast k76 d_Cl_items_101 (by decide) h77 (?_ : WD _ _ 102 _ _ _ _ _ _)
        refine x_dup d_Cl_items_102 rfl (?_ : WD _ _ 103 _ _ _ _ _ _)
        refine x_iconst d_Cl_items_103 (by decide) (?_ : WD _ _ 104 _ _ _ _ _ _)
        refine x_aloadP (some a35) d_Cl_items_104 rfl (?_ : WD _ _ 106 _ _ _ _ _ _)
        refine x_getI (ref := "CoinSamplerLaw$Item") (j := 1) 1 ((((k37.q gw38.k).q gw64.k).q gw71.k).nu fq75) clk_13 (by decide) (qm_4 (i := 153) rfl rfl) (Or.inl rfl) rfl rfl d_Cl_items_106 (y := (wI w71 a35 1)) ((wI_uI_a (fq75.ne (((k37.q gw38.k).q gw64.k).q gw71.k))).trans (wI_uN (fq75.ne (((k37.q gw38.k).q gw64.k).q gw71.k)))) (?_ : WD _ _ 109 _ _ _ _ _ _)
        obtain ⟨h78, h⟩ := h
        refine x_iast k76 d_Cl_items_109 (by decide) h78 (?_ : WD _ _ 110 _ _ _ _ _ _)
        refine x_dup d_Cl_items_110 rfl (?_ : WD _ _ 111 _ _ _ _ _ _)
        refine x_iconst d_Cl_items_111 (by decide) (?_ : WD _ _ 112 _ _ _ _ _ _)
        refine x_aloadP (some a35) d_Cl_items_112 rfl (?_ : WD _ _ 114 _ _ _ _ _ _)
        refine x_getI (ref := "CoinSamplerLaw$Item") (j := 2) 2 ((((k37.q gw38.k).q gw64.k).q gw71.k).nu fq75) clk_13 (by decide) (qm_4 (i := 157) rfl rfl) (Or.inl rfl) rfl rfl d_Cl_items_114 (y := (wI w71 a35 2)) ((wI_uI_a (fq75.ne (((k37.q gw38.k).q gw64.k).q gw71.k))).trans ((wI_uI_a (fq75.ne (((k37.q gw38.k).q gw64.k).q gw71.k))).trans (wI_uN (fq75.ne (((k37.q gw38.k).q gw64.k).q gw71.k))))) (?_ : WD _ _ 117 _ _ _ _ _ _)
        obtain ⟨h79, h⟩ := h
        refine x_iast k76 d_Cl_items_117 (by decide) h79 (?_ : WD _ _ 118 _ _ _ _ _ _)
        refine x_dup d_Cl_items_118 rfl (?_ : WD _ _ 119 _ _ _ _ _ _)
        refine x_iconst d_Cl_items_119 (by decide) (?_ : WD _ _ 120 _ _ _ _ _ _)
        refine x_aloadP (some a35) d_Cl_items_120 rfl (?_ : WD _ _ 122 _ _ _ _ _ _)
        refine x_getI (ref := "CoinSamplerLaw$Item") (j := 3) 3 ((((k37.q gw38.k).q gw64.k).q gw71.k).nu fq75) clk_13 (by decide) (qm_4 (i := 159) rfl rfl) (Or.inl rfl) rfl rfl d_Cl_items_122 (y := (wI w71 a35 3)) ((wI_uI_a (fq75.ne (((k37.q gw38.k).q gw64.k).q gw71.k))).trans ((wI_uI_a (fq75.ne (((k37.q gw38.k).q gw64.k).q gw71.k))).trans ((wI_uI_a (fq75.ne (((k37.q gw38.k).q gw64.k).q gw71.k))).trans (wI_uN (fq75.ne (((k37.q gw38.k).q gw64.k).q gw71.k)))))) (?_ : WD _ _ 125 _ _ _ _ _ _)
        obtain ⟨h80, h⟩ := h
        refine x_iast k76 d_Cl_items_125 (by decide) h80 (?_ : WD _ _ 126 _ _ _ _ _ _)
        refine x_dup d_Cl_items_126 rfl (?_ : WD _ _ 127 _ _ _ _ _ _)
        refine x_iconst d_Cl_items_127 (by decide) (?_ : WD _ _ 128 _ _ _ _ _ _)
        refine x_aloadP (some a35) d_Cl_items_128 rfl (?_ : WD _ _ 130 _ _ _ _ _ _)
        refine x_callV (ν := M_It_error) [] ok_M_It_error okv_M_It_error ((((k37.q gw38.k).q gw64.k).q gw71.k).nu fq75) rfl rfl (qm_6 (i := 204) rfl rfl) np_M_It_error rfl ⟨Nat.le_of_ble_eq_true rfl, Nat.le_of_ble_eq_true rfl⟩ (Nat.le_of_ble_eq_true rfl) rfl d_Cl_items_130 (Nat.zero_le _) (Nat.zero_le _) (DI.k h (fun v82 w81 gw81 h => (?_ : WD _ _ 133 _ _ _ _ _ _)))
        obtain ⟨h83, h⟩ := h
        refine x_iast (k76.q gw81.k) d_Cl_items_133 (by decide) h83 (?_ : WD _ _ 134 _ _ _ _ _ _)
        refine x_dup d_Cl_items_134 rfl (?_ : WD _ _ 135 _ _ _ _ _ _)
        refine x_iconst d_Cl_items_135 (by decide) (?_ : WD _ _ 136 _ _ _ _ _ _)
        refine x_aloadP (some a35) d_Cl_items_136 rfl (?_ : WD _ _ 138 _ _ _ _ _ _)
        refine x_callV (ν := M_It_taint) [] ok_M_It_taint okv_M_It_taint (((((k37.q gw38.k).q gw64.k).q gw71.k).nu fq75).q gw81.k) rfl rfl (qm_6 (i := 208) rfl rfl) np_M_It_taint rfl ⟨Nat.le_of_ble_eq_true rfl, Nat.le_of_ble_eq_true rfl⟩ (Nat.le_of_ble_eq_true rfl) rfl d_Cl_items_138 (Nat.zero_le _) (Nat.zero_le _) (DI.k h (fun v85 w84 gw84 h => (?_ : WD _ _ 141 _ _ _ _ _ _)))
        obtain ⟨h86, h⟩ := h
        refine x_iast ((k76.q gw81.k).q gw84.k) d_Cl_items_141 (by decide) h86 (?_ : WD _ _ 142 _ _ _ _ _ _)
        refine x_dup d_Cl_items_142 rfl (?_ : WD _ _ 143 _ _ _ _ _ _)
        refine x_bipush d_Cl_items_143 (by decide) (by decide) (?_ : WD _ _ 145 _ _ _ _ _ _)
        refine x_iload d_Cl_items_145 rfl (?_ : WD _ _ 147 _ _ _ _ _ _)
        refine x_if_eq 154 d_Cl_items_147 rfl ⟨fun hc => (?_ : WD _ _ 154 _ _ _ _ _ _), fun hc => absurd c40 hc⟩
        refine x_iconst d_Cl_items_154 (by decide) (?_ : WD _ _ 155 _ _ _ _ _ _)
        obtain ⟨h87, h⟩ := h
        refine x_iast ((k76.q gw81.k).q gw84.k) d_Cl_items_155 (by decide) h87 (?_ : WD _ _ 156 _ _ _ _ _ _)
        refine x_dup d_Cl_items_156 rfl (?_ : WD _ _ 157 _ _ _ _ _ _)
        refine x_bipush d_Cl_items_157 (by decide) (by decide) (?_ : WD _ _ 159 _ _ _ _ _ _)
        refine x_iload d_Cl_items_159 rfl (?_ : WD _ _ 161 _ _ _ _ _ _)
        obtain ⟨h88, h⟩ := h
        refine x_iast ((k76.q gw81.k).q gw84.k) d_Cl_items_161 (by decide) h88 (?_ : WD _ _ 162 _ _ _ _ _ _)
        refine x_dup d_Cl_items_162 rfl (?_ : WD _ _ 163 _ _ _ _ _ _)
        refine x_bipush d_Cl_items_163 (by decide) (by decide) (?_ : WD _ _ 165 _ _ _ _ _ _)
        refine x_iload d_Cl_items_165 rfl (?_ : WD _ _ 167 _ _ _ _ _ _)
        refine x_if_eq 174 d_Cl_items_167 rfl ⟨fun hc => (?_ : WD _ _ 174 _ _ _ _ _ _), fun hc => absurd rfl hc⟩
        refine x_iconst d_Cl_items_174 (by decide) (?_ : WD _ _ 175 _ _ _ _ _ _)
        obtain ⟨h89, h⟩ := h
        refine x_iast ((k76.q gw81.k).q gw84.k) d_Cl_items_175 (by decide) h89 (?_ : WD _ _ 176 _ _ _ _ _ _)
        refine x_astoreP (some q75) (ls' := [(12, vA q75), (11, vI v72), (10, vI 0), (9, vI v39), (8, vA a35), (0, vR 0), (1, vA x1), (2, vA x2), (3, vI x3), (4, vI x4), (5, vA x5), (6, vA x6), (7, vI x7)]) d_Cl_items_176 (by decide) rfl (?_ : WD _ _ 178 _ _ _ _ _ _)
        refine x_iconst d_Cl_items_178 (by decide) (?_ : WD _ _ 179 _ _ _ _ _ _)
        refine x_istore (ls' := [(13, vI 0), (12, vA q75), (11, vI v72), (10, vI 0), (9, vI v39), (8, vA a35), (0, vR 0), (1, vA x1), (2, vA x2), (3, vI x3), (4, vI x4), (5, vA x5), (6, vA x6), (7, vI x7)]) d_Cl_items_179 (by decide) rfl (?_ : WD _ _ 181 _ _ _ _ _ _)
        refine x_pick (ls' := [(0, vR 0), (1, vA x1), (2, vA x2), (3, vI x3), (4, vI x4), (5, vA x5), (6, vA x6), (7, vI x7), (8, vA a35), (9, vI v39), (10, vI 0), (11, vI v72), (12, vA q75), (13, vI 0)]) [6, 7, 8, 9, 10, 11, 12, 13, 5, 4, 3, 2, 1, 0] rfl ?_
        exact h
      · replace h := h.2 c66
        refine x_iconst d_Cl_items_75 (by decide) (?_ : WD _ _ 76 _ _ _ _ _ _)
        refine x_goto 80 d_Cl_items_76 rfl ?_
        refine x_istore (ls' := [(10, vI 1), (9, vI v39), (8, vA a35), (0, vR 0), (1, vA x1), (2, vA x2), (3, vI x3), (4, vI x4), (5, vA x5), (6, vA x6), (7, vI x7)]) d_Cl_items_80 (by decide) rfl (?_ : WD _ _ 82 _ _ _ _ _ _)
        refine x_aload_nP (some x2) d_Cl_items_82 rfl (?_ : WD _ _ 83 _ _ _ _ _ _)
        refine x_iload d_Cl_items_83 rfl (?_ : WD _ _ 85 _ _ _ _ _ _)
        obtain ⟨c90, s91, h92, h93, h⟩ := h
        refine x_callS (ν := M_Cl_oftenOf) [vA x2, vI x7] ok_M_Cl_oftenOf oks_M_Cl_oftenOf (qm_6 (i := 200) rfl rfl) np_M_Cl_oftenOf rfl ⟨Nat.le_of_ble_eq_true rfl, Nat.le_of_ble_eq_true rfl⟩ (Nat.le_of_ble_eq_true rfl) rfl d_Cl_items_85 h92 h93 (DI.k h (fun v95 w94 gw94 h => (?_ : WD _ _ 88 _ _ _ _ _ _)))
        refine x_istore (ls' := [(11, vI v95), (10, vI 1), (9, vI v39), (8, vA a35), (0, vR 0), (1, vA x1), (2, vA x2), (3, vI x3), (4, vI x4), (5, vA x5), (6, vA x6), (7, vI x7)]) d_Cl_items_88 (by decide) rfl (?_ : WD _ _ 90 _ _ _ _ _ _)
        refine x_bipush d_Cl_items_90 (by decide) (by decide) (?_ : WD _ _ 92 _ _ _ _ _ _)
        obtain ⟨h96, h⟩ := h
        obtain ⟨h97, h⟩ := h
        refine x_newa (t := 0) 9 rfl d_Cl_items_92 rfl (qm_1 (i := 107) rfl rfl) (fun _ => rfl) (fun _ _ => rfl) (fun _ => rfl) (by decide) (by decide) h96 h97 (fun q98 fq98 => (?_ : WD _ _ 94 _ _ _ _ _ _))
        replace h := h q98 fq98
        have k99 : Ow (uN w94 q98 (kA 0 9)) q98 (kA 0 9) := Ow.nw
        refine x_dup d_Cl_items_94 rfl (?_ : WD _ _ 95 _ _ _ _ _ _)
        refine x_iconst d_Cl_items_95 (by decide) (?_ : WD _ _ 96 _ _ _ _ _ _)
        refine x_aloadP (some a35) d_Cl_items_96 rfl (?_ : WD _ _ 98 _ _ _ _ _ _)
        refine x_getI (ref := "CoinSamplerLaw$Item") (j := 0) 0 ((((k37.q gw38.k).q gw64.k).q gw94.k).nu fq98) clk_13 (by decide) (qm_4 (i := 151) rfl rfl) (Or.inl rfl) rfl rfl d_Cl_items_98 (y := (wI w94 a35 0)) (wI_uN (fq98.ne (((k37.q gw38.k).q gw64.k).q gw94.k))) (?_ : WD _ _ 101 _ _ _ _ _ _)
        obtain ⟨h100, h⟩ := h
        refine x_iast k99 d_Cl_items_101 (by decide) h100 (?_ : WD _ _ 102 _ _ _ _ _ _)
        refine x_dup d_Cl_items_102 rfl (?_ : WD _ _ 103 _ _ _ _ _ _)
        refine x_iconst d_Cl_items_103 (by decide) (?_ : WD _ _ 104 _ _ _ _ _ _)
        refine x_aloadP (some a35) d_Cl_items_104 rfl (?_ : WD _ _ 106 _ _ _ _ _ _)
        refine x_getI (ref := "CoinSamplerLaw$Item") (j := 1) 1 ((((k37.q gw38.k).q gw64.k).q gw94.k).nu fq98) clk_13 (by decide) (qm_4 (i := 153) rfl rfl) (Or.inl rfl) rfl rfl d_Cl_items_106 (y := (wI w94 a35 1)) ((wI_uI_a (fq98.ne (((k37.q gw38.k).q gw64.k).q gw94.k))).trans (wI_uN (fq98.ne (((k37.q gw38.k).q gw64.k).q gw94.k)))) (?_ : WD _ _ 109 _ _ _ _ _ _)
        obtain ⟨h101, h⟩ := h
        refine x_iast k99 d_Cl_items_109 (by decide) h101 (?_ : WD _ _ 110 _ _ _ _ _ _)
        refine x_dup d_Cl_items_110 rfl (?_ : WD _ _ 111 _ _ _ _ _ _)
        refine x_iconst d_Cl_items_111 (by decide) (?_ : WD _ _ 112 _ _ _ _ _ _)
        refine x_aloadP (some a35) d_Cl_items_112 rfl (?_ : WD _ _ 114 _ _ _ _ _ _)
        refine x_getI (ref := "CoinSamplerLaw$Item") (j := 2) 2 ((((k37.q gw38.k).q gw64.k).q gw94.k).nu fq98) clk_13 (by decide) (qm_4 (i := 157) rfl rfl) (Or.inl rfl) rfl rfl d_Cl_items_114 (y := (wI w94 a35 2)) ((wI_uI_a (fq98.ne (((k37.q gw38.k).q gw64.k).q gw94.k))).trans ((wI_uI_a (fq98.ne (((k37.q gw38.k).q gw64.k).q gw94.k))).trans (wI_uN (fq98.ne (((k37.q gw38.k).q gw64.k).q gw94.k))))) (?_ : WD _ _ 117 _ _ _ _ _ _)
        obtain ⟨h102, h⟩ := h
        refine x_iast k99 d_Cl_items_117 (by decide) h102 (?_ : WD _ _ 118 _ _ _ _ _ _)
        refine x_dup d_Cl_items_118 rfl (?_ : WD _ _ 119 _ _ _ _ _ _)
        refine x_iconst d_Cl_items_119 (by decide) (?_ : WD _ _ 120 _ _ _ _ _ _)
        refine x_aloadP (some a35) d_Cl_items_120 rfl (?_ : WD _ _ 122 _ _ _ _ _ _)
        refine x_getI (ref := "CoinSamplerLaw$Item") (j := 3) 3 ((((k37.q gw38.k).q gw64.k).q gw94.k).nu fq98) clk_13 (by decide) (qm_4 (i := 159) rfl rfl) (Or.inl rfl) rfl rfl d_Cl_items_122 (y := (wI w94 a35 3)) ((wI_uI_a (fq98.ne (((k37.q gw38.k).q gw64.k).q gw94.k))).trans ((wI_uI_a (fq98.ne (((k37.q gw38.k).q gw64.k).q gw94.k))).trans ((wI_uI_a (fq98.ne (((k37.q gw38.k).q gw64.k).q gw94.k))).trans (wI_uN (fq98.ne (((k37.q gw38.k).q gw64.k).q gw94.k)))))) (?_ : WD _ _ 125 _ _ _ _ _ _)
        obtain ⟨h103, h⟩ := h
        refine x_iast k99 d_Cl_items_125 (by decide) h103 (?_ : WD _ _ 126 _ _ _ _ _ _)
        refine x_dup d_Cl_items_126 rfl (?_ : WD _ _ 127 _ _ _ _ _ _)
        refine x_iconst d_Cl_items_127 (by decide) (?_ : WD _ _ 128 _ _ _ _ _ _)
        refine x_aloadP (some a35) d_Cl_items_128 rfl (?_ : WD _ _ 130 _ _ _ _ _ _)
        refine x_callV (ν := M_It_error) [] ok_M_It_error okv_M_It_error ((((k37.q gw38.k).q gw64.k).q gw94.k).nu fq98) rfl rfl (qm_6 (i := 204) rfl rfl) np_M_It_error rfl ⟨Nat.le_of_ble_eq_true rfl, Nat.le_of_ble_eq_true rfl⟩ (Nat.le_of_ble_eq_true rfl) rfl d_Cl_items_130 (Nat.zero_le _) (Nat.zero_le _) (DI.k h (fun v105 w104 gw104 h => (?_ : WD _ _ 133 _ _ _ _ _ _)))
        obtain ⟨h106, h⟩ := h
        refine x_iast (k99.q gw104.k) d_Cl_items_133 (by decide) h106 (?_ : WD _ _ 134 _ _ _ _ _ _)
        refine x_dup d_Cl_items_134 rfl (?_ : WD _ _ 135 _ _ _ _ _ _)
        refine x_iconst d_Cl_items_135 (by decide) (?_ : WD _ _ 136 _ _ _ _ _ _)
        refine x_aloadP (some a35) d_Cl_items_136 rfl (?_ : WD _ _ 138 _ _ _ _ _ _)
        refine x_callV (ν := M_It_taint) [] ok_M_It_taint okv_M_It_taint (((((k37.q gw38.k).q gw64.k).q gw94.k).nu fq98).q gw104.k) rfl rfl (qm_6 (i := 208) rfl rfl) np_M_It_taint rfl ⟨Nat.le_of_ble_eq_true rfl, Nat.le_of_ble_eq_true rfl⟩ (Nat.le_of_ble_eq_true rfl) rfl d_Cl_items_138 (Nat.zero_le _) (Nat.zero_le _) (DI.k h (fun v108 w107 gw107 h => (?_ : WD _ _ 141 _ _ _ _ _ _)))
        obtain ⟨h109, h⟩ := h
        refine x_iast ((k99.q gw104.k).q gw107.k) d_Cl_items_141 (by decide) h109 (?_ : WD _ _ 142 _ _ _ _ _ _)
        refine x_dup d_Cl_items_142 rfl (?_ : WD _ _ 143 _ _ _ _ _ _)
        refine x_bipush d_Cl_items_143 (by decide) (by decide) (?_ : WD _ _ 145 _ _ _ _ _ _)
        refine x_iload d_Cl_items_145 rfl (?_ : WD _ _ 147 _ _ _ _ _ _)
        refine x_if_eq 154 d_Cl_items_147 rfl ⟨fun hc => (?_ : WD _ _ 154 _ _ _ _ _ _), fun hc => absurd c40 hc⟩
        refine x_iconst d_Cl_items_154 (by decide) (?_ : WD _ _ 155 _ _ _ _ _ _)
        obtain ⟨h110, h⟩ := h
        refine x_iast ((k99.q gw104.k).q gw107.k) d_Cl_items_155 (by decide) h110 (?_ : WD _ _ 156 _ _ _ _ _ _)
        refine x_dup d_Cl_items_156 rfl (?_ : WD _ _ 157 _ _ _ _ _ _)
        refine x_bipush d_Cl_items_157 (by decide) (by decide) (?_ : WD _ _ 159 _ _ _ _ _ _)
        refine x_iload d_Cl_items_159 rfl (?_ : WD _ _ 161 _ _ _ _ _ _)
        obtain ⟨h111, h⟩ := h
        refine x_iast ((k99.q gw104.k).q gw107.k) d_Cl_items_161 (by decide) h111 (?_ : WD _ _ 162 _ _ _ _ _ _)
        refine x_dup d_Cl_items_162 rfl (?_ : WD _ _ 163 _ _ _ _ _ _)
        refine x_bipush d_Cl_items_163 (by decide) (by decide) (?_ : WD _ _ 165 _ _ _ _ _ _)
        refine x_iload d_Cl_items_165 rfl (?_ : WD _ _ 167 _ _ _ _ _ _)
        refine x_if_eq 174 d_Cl_items_167 rfl ⟨fun hc => absurd hc (by decide), fun hc => (?_ : WD _ _ 170 _ _ _ _ _ _)⟩
        refine x_iload_n d_Cl_items_170 rfl (?_ : WD _ _ 171 _ _ _ _ _ _)
        refine x_goto 175 d_Cl_items_171 rfl ?_
        obtain ⟨h112, h⟩ := h
        refine x_iast ((k99.q gw104.k).q gw107.k) d_Cl_items_175 (by decide) h112 (?_ : WD _ _ 176 _ _ _ _ _ _)
        refine x_astoreP (some q98) (ls' := [(12, vA q98), (11, vI v95), (10, vI 1), (9, vI v39), (8, vA a35), (0, vR 0), (1, vA x1), (2, vA x2), (3, vI x3), (4, vI x4), (5, vA x5), (6, vA x6), (7, vI x7)]) d_Cl_items_176 (by decide) rfl (?_ : WD _ _ 178 _ _ _ _ _ _)
        refine x_iconst d_Cl_items_178 (by decide) (?_ : WD _ _ 179 _ _ _ _ _ _)
        refine x_istore (ls' := [(13, vI 0), (12, vA q98), (11, vI v95), (10, vI 1), (9, vI v39), (8, vA a35), (0, vR 0), (1, vA x1), (2, vA x2), (3, vI x3), (4, vI x4), (5, vA x5), (6, vA x6), (7, vI x7)]) d_Cl_items_179 (by decide) rfl (?_ : WD _ _ 181 _ _ _ _ _ _)
        refine x_pick (ls' := [(0, vR 0), (1, vA x1), (2, vA x2), (3, vI x3), (4, vI x4), (5, vA x5), (6, vA x6), (7, vI x7), (8, vA a35), (9, vI v39), (10, vI 1), (11, vI v95), (12, vA q98), (13, vI 0)]) [6, 7, 8, 9, 10, 11, 12, 13, 5, 4, 3, 2, 1, 0] rfl ?_
        exact h
set_option maxRecDepth 20000 in
theorem l_Cl_items_2 {G : Gq} {K : Int → Wd → Prop} {w : Wd} {rc rs : Nat} (x1 : Nat) (x2 : Nat) (x3 : Int) (x4 : Int) (x5 : Nat) (x6 : Nat) (x7 : Int) (x8 : Nat) (x9 : Int) (x10 : Int) (x11 : Int) (x12 : Nat) (x13 : Int) (h : (9 ≤ x13 → (Is G w x8 (kO 13)) ∧ CI M_Cs_find [vR 0, vI (wI w x8 0), vI (wI w x8 1)] (wS w) (fun v115 σ116 => (v115 = x7 → (x10 = 0 → (inR (x3 + 0)) ∧ ∃ n120 : Nat, ((Is G (uS w σ116) x5 (kR 6 n120)) ∧ (0 ≤ (wI w x8 0)) ∧ ((wI w x8 0) < (n120 : Int)) ∧ (Ow (uS w σ116) x5 (kR 6 n120)) ∧ ∃ a125 : Nat, (wR w x5 (wI w x8 0)) = some a125 ∧ (∃ n127 : Nat, ((Is G (uS w σ116) a125 (kA 0 n127)) ∧ (0 < (n127 : Int)) ∧ (inR ((wI w a125 0) + 1)) ∧ (Ow (uS w σ116) a125 (kA 0 n127)) ∧ (1 < (n127 : Int)) ∧ (inR ((wI w a125 1) + (wI (uI (uS w σ116) a125 0 ((wI w a125 0) + 1)) x8 2))) ∧ (2 < (n127 : Int)) ∧ (inR ((wI w a125 2) + x11)) ∧ (3 < (n127 : Int)) ∧ DI G M_It_error [vA x8] (uI (uI (uI (uS w σ116) a125 0 ((wI w a125 0) + 1)) a125 1 ((wI w a125 1) + (wI (uI (uS w σ116) a125 0 ((wI w a125 0) + 1)) x8 2))) a125 2 ((wI w a125 2) + x11)) 0 0 (fun v138 w137 => (inR ((wI w a125 3) + v138)) ∧ (4 < (n127 : Int)) ∧ (x9 = 0 → (inR ((wI w137 a125 4) + 0)) ∧ ∃ c143 s144 : Nat, c143 ≤ rc ∧ s144 ≤ rs ∧ (DP G M_In_valueOf [vI (wI (uI (uI w137 a125 3 ((wI w a125 3) + v138)) a125 4 ((wI w137 a125 4) + 0)) x8 0)] (uI (uI w137 a125 3 ((wI w a125 3) + v138)) a125 4 ((wI w137 a125 4) + 0)) c143 s144 (fun v148 w147 => ∃ a149 : Nat, v148 = some a149 ∧ (∃ c151 s152 : Nat, c151 ≤ (rc - c143) ∧ s152 ≤ (rs - s144) ∧ ((Is G w147 x6 (kO 19)) ∧ DI G M_Hs_add [vA x6, vA a149] w147 c151 s152 (fun v157 w156 => (inR (x7 + 1)) ∧ WD G M_Cl_items 33 [(0, vR 0), (1, vA x1), (2, vA x2), (3, vI (x3 + 0)), (4, vI x4), (5, vA x5), (6, vA x6), (7, vI (x7 + 1))] [] w156 ((rc - c143) - c151) ((rs - s144) - s152) (yI K))))))) ∧ (¬ x9 = 0 → (inR ((wI w137 a125 4) + 1)) ∧ ∃ c160 s161 : Nat, c160 ≤ rc ∧ s161 ≤ rs ∧ (DP G M_In_valueOf [vI (wI (uI (uI w137 a125 3 ((wI w a125 3) + v138)) a125 4 ((wI w137 a125 4) + 1)) x8 0)] (uI (uI w137 a125 3 ((wI w a125 3) + v138)) a125 4 ((wI w137 a125 4) + 1)) c160 s161 (fun v165 w164 => ∃ a166 : Nat, v165 = some a166 ∧ (∃ c168 s169 : Nat, c168 ≤ (rc - c160) ∧ s169 ≤ (rs - s161) ∧ ((Is G w164 x6 (kO 19)) ∧ DI G M_Hs_add [vA x6, vA a166] w164 c168 s169 (fun v174 w173 => (inR (x7 + 1)) ∧ WD G M_Cl_items 33 [(0, vR 0), (1, vA x1), (2, vA x2), (3, vI (x3 + 0)), (4, vI x4), (5, vA x5), (6, vA x6), (7, vI (x7 + 1))] [] w173 ((rc - c160) - c168) ((rs - s161) - s169) (yI K)))))))))))) ∧ (¬ x10 = 0 → DI G M_It_coins [vA x8] (uS w σ116) 0 0 (fun v177 w176 => (inR (x3 + v177)) ∧ ∃ n179 : Nat, ((Is G w176 x5 (kR 6 n179)) ∧ (0 ≤ (wI w176 x8 0)) ∧ ((wI w176 x8 0) < (n179 : Int)) ∧ (Ow w176 x5 (kR 6 n179)) ∧ ∃ a184 : Nat, (wR w176 x5 (wI w176 x8 0)) = some a184 ∧ (∃ n186 : Nat, ((Is G w176 a184 (kA 0 n186)) ∧ (0 < (n186 : Int)) ∧ (inR ((wI w176 a184 0) + 1)) ∧ (Ow w176 a184 (kA 0 n186)) ∧ (1 < (n186 : Int)) ∧ (inR ((wI w176 a184 1) + (wI (uI w176 a184 0 ((wI w176 a184 0) + 1)) x8 2))) ∧ (2 < (n186 : Int)) ∧ (inR ((wI w176 a184 2) + x11)) ∧ (3 < (n186 : Int)) ∧ DI G M_It_error [vA x8] (uI (uI (uI w176 a184 0 ((wI w176 a184 0) + 1)) a184 1 ((wI w176 a184 1) + (wI (uI w176 a184 0 ((wI w176 a184 0) + 1)) x8 2))) a184 2 ((wI w176 a184 2) + x11)) 0 0 (fun v197 w196 => (inR ((wI w176 a184 3) + v197)) ∧ (4 < (n186 : Int)) ∧ (x9 = 0 → (inR ((wI w196 a184 4) + 0)) ∧ ∃ c202 s203 : Nat, c202 ≤ rc ∧ s203 ≤ rs ∧ (DP G M_In_valueOf [vI (wI (uI (uI w196 a184 3 ((wI w176 a184 3) + v197)) a184 4 ((wI w196 a184 4) + 0)) x8 0)] (uI (uI w196 a184 3 ((wI w176 a184 3) + v197)) a184 4 ((wI w196 a184 4) + 0)) c202 s203 (fun v207 w206 => ∃ a208 : Nat, v207 = some a208 ∧ (∃ c210 s211 : Nat, c210 ≤ (rc - c202) ∧ s211 ≤ (rs - s203) ∧ ((Is G w206 x6 (kO 19)) ∧ DI G M_Hs_add [vA x6, vA a208] w206 c210 s211 (fun v216 w215 => (inR (x7 + 1)) ∧ WD G M_Cl_items 33 [(0, vR 0), (1, vA x1), (2, vA x2), (3, vI (x3 + v177)), (4, vI x4), (5, vA x5), (6, vA x6), (7, vI (x7 + 1))] [] w215 ((rc - c202) - c210) ((rs - s203) - s211) (yI K))))))) ∧ (¬ x9 = 0 → (inR ((wI w196 a184 4) + 1)) ∧ ∃ c219 s220 : Nat, c219 ≤ rc ∧ s220 ≤ rs ∧ (DP G M_In_valueOf [vI (wI (uI (uI w196 a184 3 ((wI w176 a184 3) + v197)) a184 4 ((wI w196 a184 4) + 1)) x8 0)] (uI (uI w196 a184 3 ((wI w176 a184 3) + v197)) a184 4 ((wI w196 a184 4) + 1)) c219 s220 (fun v224 w223 => ∃ a225 : Nat, v224 = some a225 ∧ (∃ c227 s228 : Nat, c227 ≤ (rc - c219) ∧ s228 ≤ (rs - s220) ∧ ((Is G w223 x6 (kO 19)) ∧ DI G M_Hs_add [vA x6, vA a225] w223 c227 s228 (fun v233 w232 => (inR (x7 + 1)) ∧ WD G M_Cl_items 33 [(0, vR 0), (1, vA x1), (2, vA x2), (3, vI (x3 + v177)), (4, vI x4), (5, vA x5), (6, vA x6), (7, vI (x7 + 1))] [] w232 ((rc - c219) - c227) ((rs - s220) - s228) (yI K)))))))))))))) ∧ (¬ v115 = x7 → K 0 (uS w σ116)))) ∧ (¬ 9 ≤ x13 → CI M_Cs_item [vR 0, vI x7, vI x13] (wS w) (fun v235 σ236 => ∃ n237 : Nat, ((Is G (uS w σ236) x12 (kA 0 n237)) ∧ (0 ≤ x13) ∧ (x13 < (n237 : Int)) ∧ (v235 = (wI w x12 x13) → (inR (x13 + 1)) ∧ WD G M_Cl_items 181 [(0, vR 0), (1, vA x1), (2, vA x2), (3, vI x3), (4, vI x4), (5, vA x5), (6, vA x6), (7, vI x7), (8, vA x8), (9, vI x9), (10, vI x10), (11, vI x11), (12, vA x12), (13, vI (x13 + 1))] [] (uS w σ236) rc rs (yI K)) ∧ (¬ v235 = (wI w x12 x13) → K 0 (uS w σ236)))))) : WD G M_Cl_items 181 [(0, vR 0), (1, vA x1), (2, vA x2), (3, vI x3), (4, vI x4), (5, vA x5), (6, vA x6), (7, vI x7), (8, vA x8), (9, vI x9), (10, vI x10), (11, vI x11), (12, vA x12), (13, vI x13)] [] w rc rs (yI K) := by
  refine x_iload d_Cl_items_181 rfl (?_ : WD _ _ 183 _ _ _ _ _ _)
  refine x_bipush d_Cl_items_183 (by decide) (by decide) (?_ : WD _ _ 185 _ _ _ _ _ _)
  refine x_icmp_ge 212 d_Cl_items_185 rfl ⟨fun c113 => (?_ : WD _ _ 212 _ _ _ _ _ _), fun c113 => (?_ : WD _ _ 188 _ _ _ _ _ _)⟩
  · replace h := h.1 c113
    refine x_aload_n d_Cl_items_212 rfl (?_ : WD _ _ 213 _ _ _ _ _ _)
    refine x_aloadP (some x8) d_Cl_items_213 rfl (?_ : WD _ _ 215 _ _ _ _ _ _)
    obtain ⟨k114, h⟩ := h
    refine x_getI (ref := "CoinSamplerLaw$Item") (j := 0) 0 k114 clk_13 (by decide) (qm_4 (i := 151) rfl rfl) (Or.inl rfl) rfl rfl d_Cl_items_215 (y := (wI w x8 0)) rfl (?_ : WD _ _ 218 _ _ _ _ _ _)
    refine x_aloadP (some x8) d_Cl_items_218 rfl (?_ : WD _ _ 220 _ _ _ _ _ _)
    refine x_getI (ref := "CoinSamplerLaw$Item") (j := 1) 1 k114 clk_13 (by decide) (qm_4 (i := 153) rfl rfl) (Or.inl rfl) rfl rfl d_Cl_items_220 (y := (wI w x8 1)) rfl (?_ : WD _ _ 223 _ _ _ _ _ _)
    refine x_callC (ν := M_Cs_find) (k := 0) [vI (wI w x8 0), vI (wI w x8 1)] ok_M_Cs_find okv_M_Cs_find (by decide) rfl rfl rfl (qm_7 (i := 13) rfl rfl) np_M_Cs_find rfl ⟨Nat.le_of_ble_eq_true rfl, Nat.le_of_ble_eq_true rfl⟩ (Nat.le_of_ble_eq_true rfl) rfl d_Cl_items_223 (CI.kd h (fun v115 σ116 h => (?_ : WD _ _ 226 _ _ _ _ _ _)))
    refine x_iload d_Cl_items_226 rfl (?_ : WD _ _ 228 _ _ _ _ _ _)
    refine x_icmp_eq 233 d_Cl_items_228 rfl ⟨fun c117 => (?_ : WD _ _ 233 _ _ _ _ _ _), fun c117 => (?_ : WD _ _ 231 _ _ _ _ _ _)⟩
    · replace h := h.1 c117
      refine x_iload_n d_Cl_items_233 rfl (?_ : WD _ _ 234 _ _ _ _ _ _)
      refine x_iload d_Cl_items_234 rfl (?_ : WD _ _ 236 _ _ _ _ _ _)
      refine x_if_eq 247 d_Cl_items_236 rfl ⟨fun c118 => (?_ : WD _ _ 247 _ _ _ _ _ _), fun c118 => (?_ : WD _ _ 239 _ _ _ _ _ _)⟩
      · replace h := h.1 c118
        refine x_iconst d_Cl_items_247 (by decide) (?_ : WD _ _ 248 _ _ _ _ _ _)
        obtain ⟨h119, h⟩ := h
        refine x_iadd d_Cl_items_248 h119 (?_ : WD _ _ 249 _ _ _ _ _ _)
        refine x_istore_n (ls' := [(3, vI (x3 + 0)), (0, vR 0), (1, vA x1), (2, vA x2), (4, vI x4), (5, vA x5), (6, vA x6), (7, vI x7), (8, vA x8), (9, vI x9), (10, vI x10), (11, vI x11), (12, vA x12), (13, vI x13)]) d_Cl_items_249 rfl (by decide) rfl (?_ : WD _ _ 250 _ _ _ _ _ _)
        refine x_aloadP (some x5) d_Cl_items_250 rfl (?_ : WD _ _ 252 _ _ _ _ _ _)
        refine x_aloadP (some x8) d_Cl_items_252 rfl (?_ : WD _ _ 254 _ _ _ _ _ _)
        refine x_getI (ref := "CoinSamplerLaw$Item") (j := 0) 0 k114 clk_13 (by decide) (qm_4 (i := 151) rfl rfl) (Or.inl rfl) rfl rfl d_Cl_items_254 (y := (wI w x8 0)) rfl (?_ : WD _ _ 257 _ _ _ _ _ _)
        obtain ⟨n120, h⟩ := h
        obtain ⟨k121, h⟩ := h
        obtain ⟨h122, h⟩ := h
        obtain ⟨h123, h⟩ := h
        obtain ⟨k124, h⟩ := h
        refine x_aaldA k124 d_Cl_items_257 h122 h123 (y := (wR w x5 (wI w x8 0))) rfl (?_ : WD _ _ 258 _ _ _ _ _ _)
        refine x_astoreP (wR w x5 (wI w x8 0)) (ls' := [(13, vP (wR w x5 (wI w x8 0))), (3, vI (x3 + 0)), (0, vR 0), (1, vA x1), (2, vA x2), (4, vI x4), (5, vA x5), (6, vA x6), (7, vI x7), (8, vA x8), (9, vI x9), (10, vI x10), (11, vI x11), (12, vA x12)]) d_Cl_items_258 (by decide) rfl (?_ : WD _ _ 260 _ _ _ _ _ _)
        refine x_aloadP (wR w x5 (wI w x8 0)) d_Cl_items_260 rfl (?_ : WD _ _ 262 _ _ _ _ _ _)
        refine x_iconst d_Cl_items_262 (by decide) (?_ : WD _ _ 263 _ _ _ _ _ _)
        refine x_dup2 d_Cl_items_263 rfl rfl (?_ : WD _ _ 264 _ _ _ _ _ _)
        obtain ⟨a125, e126, h⟩ := h
        rw [e126]
        obtain ⟨n127, h⟩ := h
        obtain ⟨k128, h⟩ := h
        obtain ⟨h129, h⟩ := h
        refine x_iald k128 d_Cl_items_264 (by decide) h129 (y := (wI w a125 0)) rfl (?_ : WD _ _ 265 _ _ _ _ _ _)
        refine x_iconst d_Cl_items_265 (by decide) (?_ : WD _ _ 266 _ _ _ _ _ _)
        obtain ⟨h130, h⟩ := h
        refine x_iadd d_Cl_items_266 h130 (?_ : WD _ _ 267 _ _ _ _ _ _)
        obtain ⟨k131, h⟩ := h
        refine x_iast k131 d_Cl_items_267 (by decide) h129 (?_ : WD _ _ 268 _ _ _ _ _ _)
        refine x_aloadP (some a125) d_Cl_items_268 rfl (?_ : WD _ _ 270 _ _ _ _ _ _)
        refine x_iconst d_Cl_items_270 (by decide) (?_ : WD _ _ 271 _ _ _ _ _ _)
        refine x_dup2 d_Cl_items_271 rfl rfl (?_ : WD _ _ 272 _ _ _ _ _ _)
        obtain ⟨h132, h⟩ := h
        refine x_iald k131.is d_Cl_items_272 (by decide) h132 (y := (wI w a125 1)) (wI_uI_j (by decide)) (?_ : WD _ _ 273 _ _ _ _ _ _)
        refine x_aloadP (some x8) d_Cl_items_273 rfl (?_ : WD _ _ 275 _ _ _ _ _ _)
        refine x_getI (ref := "CoinSamplerLaw$Item") (j := 2) 2 k114 clk_13 (by decide) (qm_4 (i := 157) rfl rfl) (Or.inl rfl) rfl rfl d_Cl_items_275 (y := (wI (uI (uS w σ116) a125 0 ((wI w a125 0) + 1)) x8 2)) rfl (?_ : WD _ _ 278 _ _ _ _ _ _)
        obtain ⟨h133, h⟩ := h
        refine x_iadd d_Cl_items_278 h133 (?_ : WD _ _ 279 _ _ _ _ _ _)
        refine x_iast k131 d_Cl_items_279 (by decide) h132 (?_ : WD _ _ 280 _ _ _ _ _ _)
        refine x_aloadP (some a125) d_Cl_items_280 rfl (?_ : WD _ _ 282 _ _ _ _ _ _)
        refine x_iconst d_Cl_items_282 (by decide) (?_ : WD _ _ 283 _ _ _ _ _ _)
        refine x_dup2 d_Cl_items_283 rfl rfl (?_ : WD _ _ 284 _ _ _ _ _ _)
        obtain ⟨h134, h⟩ := h
        refine x_iald k131.is d_Cl_items_284 (by decide) h134 (y := (wI w a125 2)) ((wI_uI_j (by decide)).trans (wI_uI_j (by decide))) (?_ : WD _ _ 285 _ _ _ _ _ _)
        refine x_iload d_Cl_items_285 rfl (?_ : WD _ _ 287 _ _ _ _ _ _)
        obtain ⟨h135, h⟩ := h
        refine x_iadd d_Cl_items_287 h135 (?_ : WD _ _ 288 _ _ _ _ _ _)
        refine x_iast k131 d_Cl_items_288 (by decide) h134 (?_ : WD _ _ 289 _ _ _ _ _ _)
        refine x_aloadP (some a125) d_Cl_items_289 rfl (?_ : WD _ _ 291 _ _ _ _ _ _)
        refine x_iconst d_Cl_items_291 (by decide) (?_ : WD _ _ 292 _ _ _ _ _ _)
        refine x_dup2 d_Cl_items_292 rfl rfl (?_ : WD _ _ 293 _ _ _ _ _ _)
        obtain ⟨h136, h⟩ := h
        refine x_iald k131.is d_Cl_items_293 (by decide) h136 (y := (wI w a125 3)) ((wI_uI_j (by decide)).trans ((wI_uI_j (by decide)).trans (wI_uI_j (by decide)))) (?_ : WD _ _ 294 _ _ _ _ _ _)
        refine x_aloadP (some x8) d_Cl_items_294 rfl (?_ : WD _ _ 296 _ _ _ _ _ _)
        refine x_callV (ν := M_It_error) [] ok_M_It_error okv_M_It_error k114 rfl rfl (qm_6 (i := 204) rfl rfl) np_M_It_error rfl ⟨Nat.le_of_ble_eq_true rfl, Nat.le_of_ble_eq_true rfl⟩ (Nat.le_of_ble_eq_true rfl) rfl d_Cl_items_296 (Nat.zero_le _) (Nat.zero_le _) (DI.k h (fun v138 w137 gw137 h => (?_ : WD _ _ 299 _ _ _ _ _ _)))
        obtain ⟨h139, h⟩ := h
        refine x_iadd d_Cl_items_299 h139 (?_ : WD _ _ 300 _ _ _ _ _ _)
        refine x_iast (k131.q gw137.k) d_Cl_items_300 (by decide) h136 (?_ : WD _ _ 301 _ _ _ _ _ _)
        refine x_aloadP (some a125) d_Cl_items_301 rfl (?_ : WD _ _ 303 _ _ _ _ _ _)
        refine x_iconst d_Cl_items_303 (by decide) (?_ : WD _ _ 304 _ _ _ _ _ _)
        refine x_dup2 d_Cl_items_304 rfl rfl (?_ : WD _ _ 305 _ _ _ _ _ _)
        obtain ⟨h140, h⟩ := h
        refine x_iald (k131.q gw137.k).is d_Cl_items_305 (by decide) h140 (y := (wI w137 a125 4)) (wI_uI_j (by decide)) (?_ : WD _ _ 306 _ _ _ _ _ _)
        refine x_iload d_Cl_items_306 rfl (?_ : WD _ _ 308 _ _ _ _ _ _)
        refine x_if_eq 315 d_Cl_items_308 rfl ⟨fun c141 => (?_ : WD _ _ 315 _ _ _ _ _ _), fun c141 => (?_ : WD _ _ 311 _ _ _ _ _ _)⟩
        · replace h := h.1 c141
          refine x_iconst d_Cl_items_315 (by decide) (?_ : WD _ _ 316 _ _ _ _ _ _)
          obtain ⟨h142, h⟩ := h
          refine x_iadd d_Cl_items_316 h142 (?_ : WD _ _ 317 _ _ _ _ _ _)
          refine x_iast (k131.q gw137.k) d_Cl_items_317 (by decide) h140 (?_ : WD _ _ 318 _ _ _ _ _ _)
          refine x_aloadP (some x6) d_Cl_items_318 rfl (?_ : WD _ _ 320 _ _ _ _ _ _)
          refine x_aloadP (some x8) d_Cl_items_320 rfl (?_ : WD _ _ 322 _ _ _ _ _ _)
          refine x_getI (ref := "CoinSamplerLaw$Item") (j := 0) 0 (k114.q gw137.k) clk_13 (by decide) (qm_4 (i := 151) rfl rfl) (Or.inl rfl) rfl rfl d_Cl_items_322 (y := (wI (uI (uI w137 a125 3 ((wI w a125 3) + v138)) a125 4 ((wI w137 a125 4) + 0)) x8 0)) rfl (?_ : WD _ _ 325 _ _ _ _ _ _)
          obtain ⟨c143, s144, h145, h146, h⟩ := h
          refine x_callS (ν := M_In_valueOf) [vI (wI (uI (uI w137 a125 3 ((wI w a125 3) + v138)) a125 4 ((wI w137 a125 4) + 0)) x8 0)] ok_M_In_valueOf oks_M_In_valueOf (qm_7 (i := 17) rfl rfl) np_M_In_valueOf rfl ⟨Nat.le_of_ble_eq_true rfl, Nat.le_of_ble_eq_true rfl⟩ (Nat.le_of_ble_eq_true rfl) rfl d_Cl_items_325 h145 h146 (DP.k h (fun v148 w147 gw147 h => (?_ : WD _ _ 328 _ _ _ _ _ _)))
          obtain ⟨a149, e150, h⟩ := h
          rw [e150]
          obtain ⟨c151, s152, h153, h154, h⟩ := h
          obtain ⟨k155, h⟩ := h
          refine x_callU (ν := M_Hs_add) ⟨"java/util/LinkedHashSet", "add", "(Ljava/lang/Object;)Z"⟩ "java/util/HashSet" [vA a149] ok_M_Hs_add oki_M_Hs_add k155 rfl (sel_in (qm_7 (i := 21) rfl rfl)) (qm_7 (i := 19) rfl rfl) (Or.inr (Or.inl rfl)) (by decide) (qm_7 (i := 18) rfl rfl) (show _ = some 1 from by decide +kernel) rfl ⟨Nat.le_of_ble_eq_true rfl, Nat.le_of_ble_eq_true rfl⟩ (Nat.le_of_ble_eq_true rfl) rfl d_Cl_items_328 h153 h154 (DI.k h (fun v157 w156 gw156 h => (?_ : WD _ _ 331 _ _ _ _ _ _)))
          refine x_pop d_Cl_items_331 rfl (?_ : WD _ _ 332 _ _ _ _ _ _)
          obtain ⟨h158, h⟩ := h
          refine x_iinc (ls' := [(7, vI (x7 + 1)), (13, vA a125), (3, vI (x3 + 0)), (0, vR 0), (1, vA x1), (2, vA x2), (4, vI x4), (5, vA x5), (6, vA x6), (8, vA x8), (9, vI x9), (10, vI x10), (11, vI x11), (12, vA x12)]) d_Cl_items_332 rfl h158 (by decide) rfl (?_ : WD _ _ 335 _ _ _ _ _ _)
          refine x_goto 33 d_Cl_items_335 rfl ?_
          refine x_pick (ls' := [(0, vR 0), (1, vA x1), (2, vA x2), (3, vI (x3 + 0)), (4, vI x4), (5, vA x5), (6, vA x6), (7, vI (x7 + 1))]) [3, 4, 5, 2, 6, 7, 8, 0] rfl ?_
          exact h
        · replace h := h.2 c141
          refine x_iconst d_Cl_items_311 (by decide) (?_ : WD _ _ 312 _ _ _ _ _ _)
          refine x_goto 316 d_Cl_items_312 rfl ?_
          obtain ⟨h159, h⟩ := h
          refine x_iadd d_Cl_items_316 h159 (?_ : WD _ _ 317 _ _ _ _ _ _)
          refine x_iast (k131.q gw137.k) d_Cl_items_317 (by decide) h140 (?_ : WD _ _ 318 _ _ _ _ _ _)
          refine x_aloadP (some x6) d_Cl_items_318 rfl (?_ : WD _ _ 320 _ _ _ _ _ _)
          refine x_aloadP (some x8) d_Cl_items_320 rfl (?_ : WD _ _ 322 _ _ _ _ _ _)
          refine x_getI (ref := "CoinSamplerLaw$Item") (j := 0) 0 (k114.q gw137.k) clk_13 (by decide) (qm_4 (i := 151) rfl rfl) (Or.inl rfl) rfl rfl d_Cl_items_322 (y := (wI (uI (uI w137 a125 3 ((wI w a125 3) + v138)) a125 4 ((wI w137 a125 4) + 1)) x8 0)) rfl (?_ : WD _ _ 325 _ _ _ _ _ _)
          obtain ⟨c160, s161, h162, h163, h⟩ := h
          refine x_callS (ν := M_In_valueOf) [vI (wI (uI (uI w137 a125 3 ((wI w a125 3) + v138)) a125 4 ((wI w137 a125 4) + 1)) x8 0)] ok_M_In_valueOf oks_M_In_valueOf (qm_7 (i := 17) rfl rfl) np_M_In_valueOf rfl ⟨Nat.le_of_ble_eq_true rfl, Nat.le_of_ble_eq_true rfl⟩ (Nat.le_of_ble_eq_true rfl) rfl d_Cl_items_325 h162 h163 (DP.k h (fun v165 w164 gw164 h => (?_ : WD _ _ 328 _ _ _ _ _ _)))
          obtain ⟨a166, e167, h⟩ := h
          rw [e167]
          obtain ⟨c168, s169, h170, h171, h⟩ := h
          obtain ⟨k172, h⟩ := h
          refine x_callU (ν := M_Hs_add) ⟨"java/util/LinkedHashSet", "add", "(Ljava/lang/Object;)Z"⟩ "java/util/HashSet" [vA a166] ok_M_Hs_add oki_M_Hs_add k172 rfl (sel_in (qm_7 (i := 21) rfl rfl)) (qm_7 (i := 19) rfl rfl) (Or.inr (Or.inl rfl)) (by decide) (qm_7 (i := 18) rfl rfl) (show _ = some 1 from by decide +kernel) rfl ⟨Nat.le_of_ble_eq_true rfl, Nat.le_of_ble_eq_true rfl⟩ (Nat.le_of_ble_eq_true rfl) rfl d_Cl_items_328 h170 h171 (DI.k h (fun v174 w173 gw173 h => (?_ : WD _ _ 331 _ _ _ _ _ _)))
          refine x_pop d_Cl_items_331 rfl (?_ : WD _ _ 332 _ _ _ _ _ _)
          obtain ⟨h175, h⟩ := h
          refine x_iinc (ls' := [(7, vI (x7 + 1)), (13, vA a125), (3, vI (x3 + 0)), (0, vR 0), (1, vA x1), (2, vA x2), (4, vI x4), (5, vA x5), (6, vA x6), (8, vA x8), (9, vI x9), (10, vI x10), (11, vI x11), (12, vA x12)]) d_Cl_items_332 rfl h175 (by decide) rfl (?_ : WD _ _ 335 _ _ _ _ _ _)
          refine x_goto 33 d_Cl_items_335 rfl ?_
          refine x_pick (ls' := [(0, vR 0), (1, vA x1), (2, vA x2), (3, vI (x3 + 0)), (4, vI x4), (5, vA x5), (6, vA x6), (7, vI (x7 + 1))]) [3, 4, 5, 2, 6, 7, 8, 0] rfl ?_
          exact h
      · replace h := h.2 c118
        refine x_aloadP (some x8) d_Cl_items_239 rfl (?_ : WD _ _ 241 _ _ _ _ _ _)
        refine x_callV (ν := M_It_coins) [] ok_M_It_coins okv_M_It_coins k114 rfl rfl (qm_6 (i := 199) rfl rfl) np_M_It_coins rfl ⟨Nat.le_of_ble_eq_true rfl, Nat.le_of_ble_eq_true rfl⟩ (Nat.le_of_ble_eq_true rfl) rfl d_Cl_items_241 (Nat.zero_le _) (Nat.zero_le _) (DI.k h (fun v177 w176 gw176 h => (?_ : WD _ _ 244 _ _ _ _ _ _)))
        refine x_goto 248 d_Cl_items_244 rfl ?_
        obtain ⟨h178, h⟩ := h
        refine x_iadd d_Cl_items_248 h178 (?_ : WD _ _ 249 _ _ _ _ _ _)
        refine x_istore_n (ls' := [(3, vI (x3 + v177)), (0, vR 0), (1, vA x1), (2, vA x2), (4, vI x4), (5, vA x5), (6, vA x6), (7, vI x7), (8, vA x8), (9, vI x9), (10, vI x10), (11, vI x11), (12, vA x12), (13, vI x13)]) d_Cl_items_249 rfl (by decide) rfl (?_ : WD _ _ 250 _ _ _ _ _ _)
        refine x_aloadP (some x5) d_Cl_items_250 rfl (?_ : WD _ _ 252 _ _ _ _ _ _)
        refine x_aloadP (some x8) d_Cl_items_252 rfl (?_ : WD _ _ 254 _ _ _ _ _ _)
        refine x_getI (ref := "CoinSamplerLaw$Item") (j := 0) 0 (k114.q gw176.k) clk_13 (by decide) (qm_4 (i := 151) rfl rfl) (Or.inl rfl) rfl rfl d_Cl_items_254 (y := (wI w176 x8 0)) rfl (?_ : WD _ _ 257 _ _ _ _ _ _)
        obtain ⟨n179, h⟩ := h
        obtain ⟨k180, h⟩ := h
        obtain ⟨h181, h⟩ := h
        obtain ⟨h182, h⟩ := h
        obtain ⟨k183, h⟩ := h
        refine x_aaldA k183 d_Cl_items_257 h181 h182 (y := (wR w176 x5 (wI w176 x8 0))) rfl (?_ : WD _ _ 258 _ _ _ _ _ _)
        refine x_astoreP (wR w176 x5 (wI w176 x8 0)) (ls' := [(13, vP (wR w176 x5 (wI w176 x8 0))), (3, vI (x3 + v177)), (0, vR 0), (1, vA x1), (2, vA x2), (4, vI x4), (5, vA x5), (6, vA x6), (7, vI x7), (8, vA x8), (9, vI x9), (10, vI x10), (11, vI x11), (12, vA x12)]) d_Cl_items_258 (by decide) rfl (?_ : WD _ _ 260 _ _ _ _ _ _)
        refine x_aloadP (wR w176 x5 (wI w176 x8 0)) d_Cl_items_260 rfl (?_ : WD _ _ 262 _ _ _ _ _ _)
        refine x_iconst d_Cl_items_262 (by decide) (?_ : WD _ _ 263 _ _ _ _ _ _)
        refine x_dup2 d_Cl_items_263 rfl rfl (?_ : WD _ _ 264 _ _ _ _ _ _)
        obtain ⟨a184, e185, h⟩ := h
        rw [e185]
        obtain ⟨n186, h⟩ := h
        obtain ⟨k187, h⟩ := h
        obtain ⟨h188, h⟩ := h
        refine x_iald k187 d_Cl_items_264 (by decide) h188 (y := (wI w176 a184 0)) rfl (?_ : WD _ _ 265 _ _ _ _ _ _)
        refine x_iconst d_Cl_items_265 (by decide) (?_ : WD _ _ 266 _ _ _ _ _ _)
        obtain ⟨h189, h⟩ := h
        refine x_iadd d_Cl_items_266 h189 (?_ : WD _ _ 267 _ _ _ _ _ _)
        obtain ⟨k190, h⟩ := h
        refine x_iast k190 d_Cl_items_267 (by decide) h188 (?_ : WD _ _ 268 _ _ _ _ _ _)
        refine x_aloadP (some a184) d_Cl_items_268 rfl (?_ : WD _ _ 270 _ _ _ _ _ _)
        refine x_iconst d_Cl_items_270 (by decide) (?_ : WD _ _ 271 _ _ _ _ _ _)
        refine x_dup2 d_Cl_items_271 rfl rfl (?_ : WD _ _ 272 _ _ _ _ _ _)
        obtain ⟨h191, h⟩ := h
        refine x_iald k190.is d_Cl_items_272 (by decide) h191 (y := (wI w176 a184 1)) (wI_uI_j (by decide)) (?_ : WD _ _ 273 _ _ _ _ _ _)
        refine x_aloadP (some x8) d_Cl_items_273 rfl (?_ : WD _ _ 275 _ _ _ _ _ _)
        refine x_getI (ref := "CoinSamplerLaw$Item") (j := 2) 2 (k114.q gw176.k) clk_13 (by decide) (qm_4 (i := 157) rfl rfl) (Or.inl rfl) rfl rfl d_Cl_items_275 (y := (wI (uI w176 a184 0 ((wI w176 a184 0) + 1)) x8 2)) rfl (?_ : WD _ _ 278 _ _ _ _ _ _)
        obtain ⟨h192, h⟩ := h
        refine x_iadd d_Cl_items_278 h192 (?_ : WD _ _ 279 _ _ _ _ _ _)
        refine x_iast k190 d_Cl_items_279 (by decide) h191 (?_ : WD _ _ 280 _ _ _ _ _ _)
        refine x_aloadP (some a184) d_Cl_items_280 rfl (?_ : WD _ _ 282 _ _ _ _ _ _)
        refine x_iconst d_Cl_items_282 (by decide) (?_ : WD _ _ 283 _ _ _ _ _ _)
        refine x_dup2 d_Cl_items_283 rfl rfl (?_ : WD _ _ 284 _ _ _ _ _ _)
        obtain ⟨h193, h⟩ := h
        refine x_iald k190.is d_Cl_items_284 (by decide) h193 (y := (wI w176 a184 2)) ((wI_uI_j (by decide)).trans (wI_uI_j (by decide))) (?_ : WD _ _ 285 _ _ _ _ _ _)
        refine x_iload d_Cl_items_285 rfl (?_ : WD _ _ 287 _ _ _ _ _ _)
        obtain ⟨h194, h⟩ := h
        refine x_iadd d_Cl_items_287 h194 (?_ : WD _ _ 288 _ _ _ _ _ _)
        refine x_iast k190 d_Cl_items_288 (by decide) h193 (?_ : WD _ _ 289 _ _ _ _ _ _)
        refine x_aloadP (some a184) d_Cl_items_289 rfl (?_ : WD _ _ 291 _ _ _ _ _ _)
        refine x_iconst d_Cl_items_291 (by decide) (?_ : WD _ _ 292 _ _ _ _ _ _)
        refine x_dup2 d_Cl_items_292 rfl rfl (?_ : WD _ _ 293 _ _ _ _ _ _)
        obtain ⟨h195, h⟩ := h
        refine x_iald k190.is d_Cl_items_293 (by decide) h195 (y := (wI w176 a184 3)) ((wI_uI_j (by decide)).trans ((wI_uI_j (by decide)).trans (wI_uI_j (by decide)))) (?_ : WD _ _ 294 _ _ _ _ _ _)
        refine x_aloadP (some x8) d_Cl_items_294 rfl (?_ : WD _ _ 296 _ _ _ _ _ _)
        refine x_callV (ν := M_It_error) [] ok_M_It_error okv_M_It_error (k114.q gw176.k) rfl rfl (qm_6 (i := 204) rfl rfl) np_M_It_error rfl ⟨Nat.le_of_ble_eq_true rfl, Nat.le_of_ble_eq_true rfl⟩ (Nat.le_of_ble_eq_true rfl) rfl d_Cl_items_296 (Nat.zero_le _) (Nat.zero_le _) (DI.k h (fun v197 w196 gw196 h => (?_ : WD _ _ 299 _ _ _ _ _ _)))
        obtain ⟨h198, h⟩ := h
        refine x_iadd d_Cl_items_299 h198 (?_ : WD _ _ 300 _ _ _ _ _ _)
        refine x_iast (k190.q gw196.k) d_Cl_items_300 (by decide) h195 (?_ : WD _ _ 301 _ _ _ _ _ _)
        refine x_aloadP (some a184) d_Cl_items_301 rfl (?_ : WD _ _ 303 _ _ _ _ _ _)
        refine x_iconst d_Cl_items_303 (by decide) (?_ : WD _ _ 304 _ _ _ _ _ _)
        refine x_dup2 d_Cl_items_304 rfl rfl (?_ : WD _ _ 305 _ _ _ _ _ _)
        obtain ⟨h199, h⟩ := h
        refine x_iald (k190.q gw196.k).is d_Cl_items_305 (by decide) h199 (y := (wI w196 a184 4)) (wI_uI_j (by decide)) (?_ : WD _ _ 306 _ _ _ _ _ _)
        refine x_iload d_Cl_items_306 rfl (?_ : WD _ _ 308 _ _ _ _ _ _)
        refine x_if_eq 315 d_Cl_items_308 rfl ⟨fun c200 => (?_ : WD _ _ 315 _ _ _ _ _ _), fun c200 => (?_ : WD _ _ 311 _ _ _ _ _ _)⟩
        · replace h := h.1 c200
          refine x_iconst d_Cl_items_315 (by decide) (?_ : WD _ _ 316 _ _ _ _ _ _)
          obtain ⟨h201, h⟩ := h
          refine x_iadd d_Cl_items_316 h201 (?_ : WD _ _ 317 _ _ _ _ _ _)
          refine x_iast (k190.q gw196.k) d_Cl_items_317 (by decide) h199 (?_ : WD _ _ 318 _ _ _ _ _ _)
          refine x_aloadP (some x6) d_Cl_items_318 rfl (?_ : WD _ _ 320 _ _ _ _ _ _)
          refine x_aloadP (some x8) d_Cl_items_320 rfl (?_ : WD _ _ 322 _ _ _ _ _ _)
          refine x_getI (ref := "CoinSamplerLaw$Item") (j := 0) 0 ((k114.q gw176.k).q gw196.k) clk_13 (by decide) (qm_4 (i := 151) rfl rfl) (Or.inl rfl) rfl rfl d_Cl_items_322 (y := (wI (uI (uI w196 a184 3 ((wI w176 a184 3) + v197)) a184 4 ((wI w196 a184 4) + 0)) x8 0)) rfl (?_ : WD _ _ 325 _ _ _ _ _ _)
          obtain ⟨c202, s203, h204, h205, h⟩ := h
          refine x_callS (ν := M_In_valueOf) [vI (wI (uI (uI w196 a184 3 ((wI w176 a184 3) + v197)) a184 4 ((wI w196 a184 4) + 0)) x8 0)] ok_M_In_valueOf oks_M_In_valueOf (qm_7 (i := 17) rfl rfl) np_M_In_valueOf rfl ⟨Nat.le_of_ble_eq_true rfl, Nat.le_of_ble_eq_true rfl⟩ (Nat.le_of_ble_eq_true rfl) rfl d_Cl_items_325 h204 h205 (DP.k h (fun v207 w206 gw206 h => (?_ : WD _ _ 328 _ _ _ _ _ _)))
          obtain ⟨a208, e209, h⟩ := h
          rw [e209]
          obtain ⟨c210, s211, h212, h213, h⟩ := h
          obtain ⟨k214, h⟩ := h
          refine x_callU (ν := M_Hs_add) ⟨"java/util/LinkedHashSet", "add", "(Ljava/lang/Object;)Z"⟩ "java/util/HashSet" [vA a208] ok_M_Hs_add oki_M_Hs_add k214 rfl (sel_in (qm_7 (i := 21) rfl rfl)) (qm_7 (i := 19) rfl rfl) (Or.inr (Or.inl rfl)) (by decide) (qm_7 (i := 18) rfl rfl) (show _ = some 1 from by decide +kernel) rfl ⟨Nat.le_of_ble_eq_true rfl, Nat.le_of_ble_eq_true rfl⟩ (Nat.le_of_ble_eq_true rfl) rfl d_Cl_items_328 h212 h213 (DI.k h (fun v216 w215 gw215 h => (?_ : WD _ _ 331 _ _ _ _ _ _)))
          refine x_pop d_Cl_items_331 rfl (?_ : WD _ _ 332 _ _ _ _ _ _)
          obtain ⟨h217, h⟩ := h
          refine x_iinc (ls' := [(7, vI (x7 + 1)), (13, vA a184), (3, vI (x3 + v177)), (0, vR 0), (1, vA x1), (2, vA x2), (4, vI x4), (5, vA x5), (6, vA x6), (8, vA x8), (9, vI x9), (10, vI x10), (11, vI x11), (12, vA x12)]) d_Cl_items_332 rfl h217 (by decide) rfl (?_ : WD _ _ 335 _ _ _ _ _ _)
          refine x_goto 33 d_Cl_items_335 rfl ?_
          refine x_pick (ls' := [(0, vR 0), (1, vA x1), (2, vA x2), (3, vI (x3 + v177)), (4, vI x4), (5, vA x5), (6, vA x6), (7, vI (x7 + 1))]) [3, 4, 5, 2, 6, 7, 8, 0] rfl ?_
          exact h
        · replace h := h.2 c200
          refine x_iconst d_Cl_items_311 (by decide) (?_ : WD _ _ 312 _ _ _ _ _ _)
          refine x_goto 316 d_Cl_items_312 rfl ?_
          obtain ⟨h218, h⟩ := h
          refine x_iadd d_Cl_items_316 h218 (?_ : WD _ _ 317 _ _ _ _ _ _)
          refine x_iast (k190.q gw196.k) d_Cl_items_317 (by decide) h199 (?_ : WD _ _ 318 _ _ _ _ _ _)
          refine x_aloadP (some x6) d_Cl_items_318 rfl (?_ : WD _ _ 320 _ _ _ _ _ _)
          refine x_aloadP (some x8) d_Cl_items_320 rfl (?_ : WD _ _ 322 _ _ _ _ _ _)
          refine x_getI (ref := "CoinSamplerLaw$Item") (j := 0) 0 ((k114.q gw176.k).q gw196.k) clk_13 (by decide) (qm_4 (i := 151) rfl rfl) (Or.inl rfl) rfl rfl d_Cl_items_322 (y := (wI (uI (uI w196 a184 3 ((wI w176 a184 3) + v197)) a184 4 ((wI w196 a184 4) + 1)) x8 0)) rfl (?_ : WD _ _ 325 _ _ _ _ _ _)
          obtain ⟨c219, s220, h221, h222, h⟩ := h
          refine x_callS (ν := M_In_valueOf) [vI (wI (uI (uI w196 a184 3 ((wI w176 a184 3) + v197)) a184 4 ((wI w196 a184 4) + 1)) x8 0)] ok_M_In_valueOf oks_M_In_valueOf (qm_7 (i := 17) rfl rfl) np_M_In_valueOf rfl ⟨Nat.le_of_ble_eq_true rfl, Nat.le_of_ble_eq_true rfl⟩ (Nat.le_of_ble_eq_true rfl) rfl d_Cl_items_325 h221 h222 (DP.k h (fun v224 w223 gw223 h => (?_ : WD _ _ 328 _ _ _ _ _ _)))
          obtain ⟨a225, e226, h⟩ := h
          rw [e226]
          obtain ⟨c227, s228, h229, h230, h⟩ := h
          obtain ⟨k231, h⟩ := h
          refine x_callU (ν := M_Hs_add) ⟨"java/util/LinkedHashSet", "add", "(Ljava/lang/Object;)Z"⟩ "java/util/HashSet" [vA a225] ok_M_Hs_add oki_M_Hs_add k231 rfl (sel_in (qm_7 (i := 21) rfl rfl)) (qm_7 (i := 19) rfl rfl) (Or.inr (Or.inl rfl)) (by decide) (qm_7 (i := 18) rfl rfl) (show _ = some 1 from by decide +kernel) rfl ⟨Nat.le_of_ble_eq_true rfl, Nat.le_of_ble_eq_true rfl⟩ (Nat.le_of_ble_eq_true rfl) rfl d_Cl_items_328 h229 h230 (DI.k h (fun v233 w232 gw232 h => (?_ : WD _ _ 331 _ _ _ _ _ _)))
          refine x_pop d_Cl_items_331 rfl (?_ : WD _ _ 332 _ _ _ _ _ _)
          obtain ⟨h234, h⟩ := h
          refine x_iinc (ls' := [(7, vI (x7 + 1)), (13, vA a184), (3, vI (x3 + v177)), (0, vR 0), (1, vA x1), (2, vA x2), (4, vI x4), (5, vA x5), (6, vA x6), (8, vA x8), (9, vI x9), (10, vI x10), (11, vI x11), (12, vA x12)]) d_Cl_items_332 rfl h234 (by decide) rfl (?_ : WD _ _ 335 _ _ _ _ _ _)
          refine x_goto 33 d_Cl_items_335 rfl ?_
          refine x_pick (ls' := [(0, vR 0), (1, vA x1), (2, vA x2), (3, vI (x3 + v177)), (4, vI x4), (5, vA x5), (6, vA x6), (7, vI (x7 + 1))]) [3, 4, 5, 2, 6, 7, 8, 0] rfl ?_
          exact h
    · replace h := h.2 c117
      refine x_iconst d_Cl_items_231 (by decide) (?_ : WD _ _ 232 _ _ _ _ _ _)
      exact x_zreturn rfl d_Cl_items_232 (by decide) h
  · replace h := h.2 c113
    refine x_aload_n d_Cl_items_188 rfl (?_ : WD _ _ 189 _ _ _ _ _ _)
    refine x_iload d_Cl_items_189 rfl (?_ : WD _ _ 191 _ _ _ _ _ _)
    refine x_iload d_Cl_items_191 rfl (?_ : WD _ _ 193 _ _ _ _ _ _)
    refine x_callC (ν := M_Cs_item) (k := 0) [vI x7, vI x13] ok_M_Cs_item okv_M_Cs_item (by decide) rfl rfl rfl (qm_6 (i := 213) rfl rfl) np_M_Cs_item rfl ⟨Nat.le_of_ble_eq_true rfl, Nat.le_of_ble_eq_true rfl⟩ (Nat.le_of_ble_eq_true rfl) rfl d_Cl_items_193 (CI.kd h (fun v235 σ236 h => (?_ : WD _ _ 196 _ _ _ _ _ _)))
    refine x_aloadP (some x12) d_Cl_items_196 rfl (?_ : WD _ _ 198 _ _ _ _ _ _)
    refine x_iload d_Cl_items_198 rfl (?_ : WD _ _ 200 _ _ _ _ _ _)
    obtain ⟨n237, h⟩ := h
    obtain ⟨k238, h⟩ := h
    obtain ⟨h239, h⟩ := h
    obtain ⟨h240, h⟩ := h
    refine x_iald k238 d_Cl_items_200 h239 h240 (y := (wI w x12 x13)) rfl (?_ : WD _ _ 201 _ _ _ _ _ _)
    refine x_icmp_eq 206 d_Cl_items_201 rfl ⟨fun c241 => (?_ : WD _ _ 206 _ _ _ _ _ _), fun c241 => (?_ : WD _ _ 204 _ _ _ _ _ _)⟩
    · replace h := h.1 c241
      obtain ⟨h242, h⟩ := h
      refine x_iinc (ls' := [(13, vI (x13 + 1)), (0, vR 0), (1, vA x1), (2, vA x2), (3, vI x3), (4, vI x4), (5, vA x5), (6, vA x6), (7, vI x7), (8, vA x8), (9, vI x9), (10, vI x10), (11, vI x11), (12, vA x12)]) d_Cl_items_206 rfl h242 (by decide) rfl (?_ : WD _ _ 209 _ _ _ _ _ _)
      refine x_goto 181 d_Cl_items_209 rfl ?_
      refine x_pick (ls' := [(0, vR 0), (1, vA x1), (2, vA x2), (3, vI x3), (4, vI x4), (5, vA x5), (6, vA x6), (7, vI x7), (8, vA x8), (9, vI x9), (10, vI x10), (11, vI x11), (12, vA x12), (13, vI (x13 + 1))]) [1, 2, 3, 4, 5, 6, 7, 8, 9, 10, 11, 12, 13, 0] rfl ?_
      exact h
    · replace h := h.2 c241
      refine x_iconst d_Cl_items_204 (by decide) (?_ : WD _ _ 205 _ _ _ _ _ _)
      exact x_zreturn rfl d_Cl_items_205 (by decide) h
set_option maxRecDepth 20000 in
theorem l_Cl_items_3 {G : Gq} {K : Int → Wd → Prop} {w : Wd} {rc rs : Nat} (x1 : Nat) (x4 : Int) (x5 : Nat) (x6 : Nat) (x7 : Option Nat) (h : ∃ a243 : Nat, x7 = some a243 ∧ ((Is G w a243 (kO 15)) ∧ DI G M_Ai_hasNext [vA a243] w 0 0 (fun v247 w246 => (v247 = 0 → WD G M_Cl_items 411 [(0, vR 0), (4, vI x4), (5, vA x5), (6, vA x6), (7, vI 0)] [] w246 rc rs (yI K)) ∧ (¬ v247 = 0 → DP G M_Ai_next [vA a243] w246 0 0 (fun v250 w249 => ∃ a251 : Nat, v250 = some a251 ∧ ((Is G w249 a251 (kO 12)) ∧ (Is G w249 x1 (kO 11)) ∧ ∃ a255 : Nat, (wR w249 x1 0) = some a255 ∧ ((Is G w249 a255 (kO 14)) ∧ DP G M_Al_get [vA a255, vI (wI w249 a251 0)] w249 0 0 (fun v259 w258 => ∃ a260 : Nat, v259 = some a260 ∧ ((Is G w258 a260 (kO 13)) ∧ ∃ n263 : Nat, ((Is G w258 x5 (kR 6 n263)) ∧ (0 ≤ (wI w258 a260 0)) ∧ ((wI w258 a260 0) < (n263 : Int)) ∧ (Ow w258 x5 (kR 6 n263)) ∧ ∃ a268 : Nat, (wR w258 x5 (wI w258 a260 0)) = some a268 ∧ (∃ n270 : Nat, ((Is G w258 a268 (kA 0 n270)) ∧ (5 < (n270 : Int)) ∧ ∃ a273 : Nat, (wR w258 x1 1) = some a273 ∧ ((Is G w258 a273 (kO 14)) ∧ DI G M_Al_size [vA a273] w258 0 0 (fun v277 w276 => DI G M_Bo_part [vA x1, vA a251, vI v277] w276 0 0 (fun v279 w278 => (inR ((wI w258 a268 5) + v279)) ∧ (Ow w278 a268 (kA 0 n270)) ∧ WD G M_Cl_items 344 [(0, vR 0), (1, vA x1), (4, vI x4), (5, vA x5), (6, vA x6), (7, vP (some a243))] [] (uI w278 a268 5 ((wI w258 a268 5) + v279)) rc rs (yI K)))))))))))))))) : WD G M_Cl_items 344 [(0, vR 0), (1, vA x1), (4, vI x4), (5, vA x5), (6, vA x6), (7, vP x7)] [] w rc rs (yI K) := by
  refine x_aloadP x7 d_Cl_items_344 rfl (?_ : WD _ _ 346 _ _ _ _ _ _)
  obtain ⟨a243, e244, h⟩ := h
  rw [e244]
  obtain ⟨k245, h⟩ := h
  refine x_callF (ν := M_Ai_hasNext) ⟨"java/util/Iterator", "hasNext", "()Z"⟩ [] ok_M_Ai_hasNext oki_M_Ai_hasNext k245 rfl (qm_2 (i := 226) rfl rfl) (by decide) (qm_5 (i := 182) rfl rfl) (show _ = some 0 from by decide +kernel) rfl ⟨Nat.le_of_ble_eq_true rfl, Nat.le_of_ble_eq_true rfl⟩ (Nat.le_of_ble_eq_true rfl) rfl d_Cl_items_346 (Nat.zero_le _) (Nat.zero_le _) (DI.k h (fun v247 w246 gw246 h => (?_ : WD _ _ 351 _ _ _ _ _ _)))
  refine x_if_eq 408 d_Cl_items_351 rfl ⟨fun c248 => (?_ : WD _ _ 408 _ _ _ _ _ _), fun c248 => (?_ : WD _ _ 354 _ _ _ _ _ _)⟩
  · replace h := h.1 c248
    refine x_iconst d_Cl_items_408 (by decide) (?_ : WD _ _ 409 _ _ _ _ _ _)
    refine x_istore (ls' := [(7, vI 0), (0, vR 0), (1, vA x1), (4, vI x4), (5, vA x5), (6, vA x6)]) d_Cl_items_409 (by decide) rfl (?_ : WD _ _ 411 _ _ _ _ _ _)
    refine x_pick (ls' := [(0, vR 0), (4, vI x4), (5, vA x5), (6, vA x6), (7, vI 0)]) [1, 3, 4, 5, 0] rfl ?_
    exact h
  · replace h := h.2 c248
    refine x_aloadP (some a243) d_Cl_items_354 rfl (?_ : WD _ _ 356 _ _ _ _ _ _)
    refine x_callF (ν := M_Ai_next) ⟨"java/util/Iterator", "next", "()Ljava/lang/Object;"⟩ [] ok_M_Ai_next oki_M_Ai_next (k245.q gw246.k) rfl (qm_3 (i := 7) rfl rfl) (by decide) (qm_5 (i := 184) rfl rfl) (show _ = some 0 from by decide +kernel) rfl ⟨Nat.le_of_ble_eq_true rfl, Nat.le_of_ble_eq_true rfl⟩ (Nat.le_of_ble_eq_true rfl) rfl d_Cl_items_356 (Nat.zero_le _) (Nat.zero_le _) (DP.k h (fun v250 w249 gw249 h => (?_ : WD _ _ 361 _ _ _ _ _ _)))
    obtain ⟨a251, e252, h⟩ := h
    rw [e252]
    obtain ⟨k253, h⟩ := h
    refine x_cast k253 rfl (Or.inl rfl) (qm_6 (i := 203) rfl rfl) d_Cl_items_361 (?_ : WD _ _ 364 _ _ _ _ _ _)
    refine x_astoreP (some a251) (ls' := [(8, vA a251), (0, vR 0), (1, vA x1), (4, vI x4), (5, vA x5), (6, vA x6), (7, vA a243)]) d_Cl_items_364 (by decide) rfl (?_ : WD _ _ 366 _ _ _ _ _ _)
    refine x_aloadP (some x5) d_Cl_items_366 rfl (?_ : WD _ _ 368 _ _ _ _ _ _)
    refine x_aload_nP (some x1) d_Cl_items_368 rfl (?_ : WD _ _ 369 _ _ _ _ _ _)
    obtain ⟨k254, h⟩ := h
    refine x_getP (ref := "CoinSamplerLaw$Books") (j := 0) 0 k254 clk_11 (by decide) (qm_2 (i := 156) rfl rfl) (Or.inl rfl) rfl rfl d_Cl_items_369 (y := (wR w249 x1 0)) rfl (?_ : WD _ _ 372 _ _ _ _ _ _)
    refine x_aloadP (some a251) d_Cl_items_372 rfl (?_ : WD _ _ 374 _ _ _ _ _ _)
    refine x_getI (ref := "CoinSamplerLaw$Hit") (j := 0) 0 k253 clk_12 (by decide) (qm_3 (i := 85) rfl rfl) (Or.inl rfl) rfl rfl d_Cl_items_374 (y := (wI w249 a251 0)) rfl (?_ : WD _ _ 377 _ _ _ _ _ _)
    obtain ⟨a255, e256, h⟩ := h
    rw [e256]
    obtain ⟨k257, h⟩ := h
    refine x_callV (ν := M_Al_get) [vI (wI w249 a251 0)] ok_M_Al_get okv_M_Al_get k257 rfl rfl (qm_3 (i := 183) rfl rfl) np_M_Al_get rfl ⟨Nat.le_of_ble_eq_true rfl, Nat.le_of_ble_eq_true rfl⟩ (Nat.le_of_ble_eq_true rfl) rfl d_Cl_items_377 (Nat.zero_le _) (Nat.zero_le _) (DP.k h (fun v259 w258 gw258 h => (?_ : WD _ _ 380 _ _ _ _ _ _)))
    obtain ⟨a260, e261, h⟩ := h
    rw [e261]
    obtain ⟨k262, h⟩ := h
    refine x_cast k262 rfl (Or.inl rfl) (qm_3 (i := 184) rfl rfl) d_Cl_items_380 (?_ : WD _ _ 383 _ _ _ _ _ _)
    refine x_getI (ref := "CoinSamplerLaw$Item") (j := 0) 0 k262 clk_13 (by decide) (qm_4 (i := 151) rfl rfl) (Or.inl rfl) rfl rfl d_Cl_items_383 (y := (wI w258 a260 0)) rfl (?_ : WD _ _ 386 _ _ _ _ _ _)
    obtain ⟨n263, h⟩ := h
    obtain ⟨k264, h⟩ := h
    obtain ⟨h265, h⟩ := h
    obtain ⟨h266, h⟩ := h
    obtain ⟨k267, h⟩ := h
    refine x_aaldA k267 d_Cl_items_386 h265 h266 (y := (wR w258 x5 (wI w258 a260 0))) rfl (?_ : WD _ _ 387 _ _ _ _ _ _)
    refine x_iconst d_Cl_items_387 (by decide) (?_ : WD _ _ 388 _ _ _ _ _ _)
    refine x_dup2 d_Cl_items_388 rfl rfl (?_ : WD _ _ 389 _ _ _ _ _ _)
    obtain ⟨a268, e269, h⟩ := h
    rw [e269]
    obtain ⟨n270, h⟩ := h
    obtain ⟨k271, h⟩ := h
    obtain ⟨h272, h⟩ := h
    refine x_iald k271 d_Cl_items_389 (by decide) h272 (y := (wI w258 a268 5)) rfl (?_ : WD _ _ 390 _ _ _ _ _ _)
    refine x_aload_nP (some x1) d_Cl_items_390 rfl (?_ : WD _ _ 391 _ _ _ _ _ _)
    refine x_aloadP (some a251) d_Cl_items_391 rfl (?_ : WD _ _ 393 _ _ _ _ _ _)
    refine x_aload_nP (some x1) d_Cl_items_393 rfl (?_ : WD _ _ 394 _ _ _ _ _ _)
    refine x_getP (ref := "CoinSamplerLaw$Books") (j := 1) 1 (k254.q gw258.k) clk_11 (by decide) (qm_2 (i := 158) rfl rfl) (Or.inl rfl) rfl rfl d_Cl_items_394 (y := (wR w258 x1 1)) rfl (?_ : WD _ _ 397 _ _ _ _ _ _)
    obtain ⟨a273, e274, h⟩ := h
    rw [e274]
    obtain ⟨k275, h⟩ := h
    refine x_callV (ν := M_Al_size) [] ok_M_Al_size okv_M_Al_size k275 rfl rfl (qm_3 (i := 178) rfl rfl) np_M_Al_size rfl ⟨Nat.le_of_ble_eq_true rfl, Nat.le_of_ble_eq_true rfl⟩ (Nat.le_of_ble_eq_true rfl) rfl d_Cl_items_397 (Nat.zero_le _) (Nat.zero_le _) (DI.k h (fun v277 w276 gw276 h => (?_ : WD _ _ 400 _ _ _ _ _ _)))
    refine x_callV (ν := M_Bo_part) [vA a251, vI v277] ok_M_Bo_part okv_M_Bo_part ((k254.q gw258.k).q gw276.k) rfl rfl (qm_9 (i := 26) rfl rfl) np_M_Bo_part rfl ⟨Nat.le_of_ble_eq_true rfl, Nat.le_of_ble_eq_true rfl⟩ (Nat.le_of_ble_eq_true rfl) rfl d_Cl_items_400 (Nat.zero_le _) (Nat.zero_le _) (DI.k h (fun v279 w278 gw278 h => (?_ : WD _ _ 403 _ _ _ _ _ _)))
    obtain ⟨h280, h⟩ := h
    refine x_iadd d_Cl_items_403 h280 (?_ : WD _ _ 404 _ _ _ _ _ _)
    obtain ⟨k281, h⟩ := h
    refine x_iast k281 d_Cl_items_404 (by decide) h272 (?_ : WD _ _ 405 _ _ _ _ _ _)
    refine x_goto 344 d_Cl_items_405 rfl ?_
    refine x_pick (ls' := [(0, vR 0), (1, vA x1), (4, vI x4), (5, vA x5), (6, vA x6), (7, vP (some a243))]) [1, 2, 3, 4, 5, 6] rfl ?_
    exact h
set_option maxRecDepth 20000 in
theorem l_Cl_items_4 {G : Gq} {K : Int → Wd → Prop} {w : Wd} {rc rs : Nat} (x4 : Int) (x5 : Nat) (x6 : Nat) (x7 : Int) (h : (7 ≤ x7 → ∃ c283 s284 : Nat, c283 ≤ rc ∧ s284 ≤ rs ∧ ((Is G w x6 (kO 19)) ∧ DP G M_Hs_iterator [vA x6] w c283 s284 (fun v289 w288 => WD G M_Cl_items 471 [(0, vR 0), (4, vI x4), (7, vI 0), (8, vP v289)] [] w288 (rc - c283) (rs - s284) (yI K)))) ∧ (¬ 7 ≤ x7 → WD G M_Cl_items 421 [(0, vR 0), (4, vI x4), (5, vA x5), (6, vA x6), (7, vI x7), (8, vI 0)] [] w rc rs (yI K))) : WD G M_Cl_items 411 [(0, vR 0), (4, vI x4), (5, vA x5), (6, vA x6), (7, vI x7)] [] w rc rs (yI K) := by
  refine x_iload d_Cl_items_411 rfl (?_ : WD _ _ 413 _ _ _ _ _ _)
  refine x_bipush d_Cl_items_413 (by decide) (by decide) (?_ : WD _ _ 415 _ _ _ _ _ _)
  refine x_icmp_ge 461 d_Cl_items_415 rfl ⟨fun c282 => (?_ : WD _ _ 461 _ _ _ _ _ _), fun c282 => (?_ : WD _ _ 418 _ _ _ _ _ _)⟩
  · replace h := h.1 c282
    refine x_iconst d_Cl_items_461 (by decide) (?_ : WD _ _ 462 _ _ _ _ _ _)
    refine x_istore (ls' := [(7, vI 0), (0, vR 0), (4, vI x4), (5, vA x5), (6, vA x6)]) d_Cl_items_462 (by decide) rfl (?_ : WD _ _ 464 _ _ _ _ _ _)
    refine x_aloadP (some x6) d_Cl_items_464 rfl (?_ : WD _ _ 466 _ _ _ _ _ _)
    obtain ⟨c283, s284, h285, h286, h⟩ := h
    obtain ⟨k287, h⟩ := h
    refine x_callU (ν := M_Hs_iterator) ⟨"java/util/LinkedHashSet", "iterator", "()Ljava/util/Iterator;"⟩ "java/util/HashSet" [] ok_M_Hs_iterator oki_M_Hs_iterator k287 rfl (sel_in (qm_9 (i := 58) rfl rfl)) (qm_9 (i := 56) rfl rfl) (Or.inr (Or.inl rfl)) (by decide) (qm_9 (i := 55) rfl rfl) (show _ = some 0 from by decide +kernel) rfl ⟨Nat.le_of_ble_eq_true rfl, Nat.le_of_ble_eq_true rfl⟩ (Nat.le_of_ble_eq_true rfl) rfl d_Cl_items_466 h285 h286 (DP.k h (fun v289 w288 gw288 h => (?_ : WD _ _ 469 _ _ _ _ _ _)))
    refine x_astoreP v289 (ls' := [(8, vP v289), (7, vI 0), (0, vR 0), (4, vI x4), (5, vA x5), (6, vA x6)]) d_Cl_items_469 (by decide) rfl (?_ : WD _ _ 471 _ _ _ _ _ _)
    refine x_pick (ls' := [(0, vR 0), (4, vI x4), (7, vI 0), (8, vP v289)]) [2, 3, 1, 0] rfl ?_
    exact h
  · replace h := h.2 c282
    refine x_iconst d_Cl_items_418 (by decide) (?_ : WD _ _ 419 _ _ _ _ _ _)
    refine x_istore (ls' := [(8, vI 0), (0, vR 0), (4, vI x4), (5, vA x5), (6, vA x6), (7, vI x7)]) d_Cl_items_419 (by decide) rfl (?_ : WD _ _ 421 _ _ _ _ _ _)
    refine x_pick (ls' := [(0, vR 0), (4, vI x4), (5, vA x5), (6, vA x6), (7, vI x7), (8, vI 0)]) [1, 2, 3, 4, 5, 0] rfl ?_
    exact h
set_option maxRecDepth 20000 in
theorem l_Cl_items_5 {G : Gq} {K : Int → Wd → Prop} {w : Wd} {rc rs : Nat} (x4 : Int) (x5 : Nat) (x6 : Nat) (x7 : Int) (x8 : Int) (h : (6 ≤ x8 → (inR (x7 + 1)) ∧ WD G M_Cl_items 411 [(0, vR 0), (4, vI x4), (5, vA x5), (6, vA x6), (7, vI (x7 + 1))] [] w rc rs (yI K)) ∧ (¬ 6 ≤ x8 → CI M_Cs_account [vR 0, vI x7, vI x8] (wS w) (fun v292 σ293 => ∃ n294 : Nat, ((Is G (uS w σ293) x5 (kR 6 n294)) ∧ (0 ≤ x7) ∧ (x7 < (n294 : Int)) ∧ (Ow (uS w σ293) x5 (kR 6 n294)) ∧ ∃ a299 : Nat, (wR w x5 x7) = some a299 ∧ (∃ n301 : Nat, ((Is G (uS w σ293) a299 (kA 0 n301)) ∧ (0 ≤ x8) ∧ (x8 < (n301 : Int)) ∧ (v292 = (wI w a299 x8) → (inR (x8 + 1)) ∧ WD G M_Cl_items 421 [(0, vR 0), (4, vI x4), (5, vA x5), (6, vA x6), (7, vI x7), (8, vI (x8 + 1))] [] (uS w σ293) rc rs (yI K)) ∧ (¬ v292 = (wI w a299 x8) → K 0 (uS w σ293)))))))) : WD G M_Cl_items 421 [(0, vR 0), (4, vI x4), (5, vA x5), (6, vA x6), (7, vI x7), (8, vI x8)] [] w rc rs (yI K) := by
  refine x_iload d_Cl_items_421 rfl (?_ : WD _ _ 423 _ _ _ _ _ _)
  refine x_bipush d_Cl_items_423 (by decide) (by decide) (?_ : WD _ _ 425 _ _ _ _ _ _)
  refine x_icmp_ge 455 d_Cl_items_425 rfl ⟨fun c290 => (?_ : WD _ _ 455 _ _ _ _ _ _), fun c290 => (?_ : WD _ _ 428 _ _ _ _ _ _)⟩
  · replace h := h.1 c290
    obtain ⟨h291, h⟩ := h
    refine x_iinc (ls' := [(7, vI (x7 + 1)), (0, vR 0), (4, vI x4), (5, vA x5), (6, vA x6), (8, vI x8)]) d_Cl_items_455 rfl h291 (by decide) rfl (?_ : WD _ _ 458 _ _ _ _ _ _)
    refine x_goto 411 d_Cl_items_458 rfl ?_
    refine x_pick (ls' := [(0, vR 0), (4, vI x4), (5, vA x5), (6, vA x6), (7, vI (x7 + 1))]) [1, 2, 3, 4, 0] rfl ?_
    exact h
  · replace h := h.2 c290
    refine x_aload_n d_Cl_items_428 rfl (?_ : WD _ _ 429 _ _ _ _ _ _)
    refine x_iload d_Cl_items_429 rfl (?_ : WD _ _ 431 _ _ _ _ _ _)
    refine x_iload d_Cl_items_431 rfl (?_ : WD _ _ 433 _ _ _ _ _ _)
    refine x_callC (ν := M_Cs_account) (k := 0) [vI x7, vI x8] ok_M_Cs_account okv_M_Cs_account (by decide) rfl rfl rfl (qm_9 (i := 32) rfl rfl) np_M_Cs_account rfl ⟨Nat.le_of_ble_eq_true rfl, Nat.le_of_ble_eq_true rfl⟩ (Nat.le_of_ble_eq_true rfl) rfl d_Cl_items_433 (CI.kd h (fun v292 σ293 h => (?_ : WD _ _ 436 _ _ _ _ _ _)))
    refine x_aloadP (some x5) d_Cl_items_436 rfl (?_ : WD _ _ 438 _ _ _ _ _ _)
    refine x_iload d_Cl_items_438 rfl (?_ : WD _ _ 440 _ _ _ _ _ _)
    obtain ⟨n294, h⟩ := h
    obtain ⟨k295, h⟩ := h
    obtain ⟨h296, h⟩ := h
    obtain ⟨h297, h⟩ := h
    obtain ⟨k298, h⟩ := h
    refine x_aaldA k298 d_Cl_items_440 h296 h297 (y := (wR w x5 x7)) rfl (?_ : WD _ _ 441 _ _ _ _ _ _)
    refine x_iload d_Cl_items_441 rfl (?_ : WD _ _ 443 _ _ _ _ _ _)
    obtain ⟨a299, e300, h⟩ := h
    rw [e300]
    obtain ⟨n301, h⟩ := h
    obtain ⟨k302, h⟩ := h
    obtain ⟨h303, h⟩ := h
    obtain ⟨h304, h⟩ := h
    refine x_iald k302 d_Cl_items_443 h303 h304 (y := (wI w a299 x8)) rfl (?_ : WD _ _ 444 _ _ _ _ _ _)
    refine x_icmp_eq 449 d_Cl_items_444 rfl ⟨fun c305 => (?_ : WD _ _ 449 _ _ _ _ _ _), fun c305 => (?_ : WD _ _ 447 _ _ _ _ _ _)⟩
    · replace h := h.1 c305
      obtain ⟨h306, h⟩ := h
      refine x_iinc (ls' := [(8, vI (x8 + 1)), (0, vR 0), (4, vI x4), (5, vA x5), (6, vA x6), (7, vI x7)]) d_Cl_items_449 rfl h306 (by decide) rfl (?_ : WD _ _ 452 _ _ _ _ _ _)
      refine x_goto 421 d_Cl_items_452 rfl ?_
      refine x_pick (ls' := [(0, vR 0), (4, vI x4), (5, vA x5), (6, vA x6), (7, vI x7), (8, vI (x8 + 1))]) [1, 2, 3, 4, 5, 0] rfl ?_
      exact h
    · replace h := h.2 c305
      refine x_iconst d_Cl_items_447 (by decide) (?_ : WD _ _ 448 _ _ _ _ _ _)
      exact x_zreturn rfl d_Cl_items_448 (by decide) h
set_option maxRecDepth 20000 in
theorem l_Cl_items_6 {G : Gq} {K : Int → Wd → Prop} {w : Wd} {rc rs : Nat} (x4 : Int) (x7 : Int) (x8 : Option Nat) (h : ∃ a307 : Nat, x8 = some a307 ∧ ((Is G w a307 (kO 23)) ∧ DI G M_Lh_hasNext [vA a307] w 0 0 (fun v311 w310 => (v311 = 0 → CI M_Cs_accounts [vR 0, vI x7] (wS w310) (fun v313 σ314 => (¬ v313 = (-1) → K 0 (uS w310 σ314)) ∧ (v313 = (-1) → CI M_Cs_accounts [vR 0, vI (-1)] (wS (uS w310 σ314)) (fun v316 σ317 => (¬ v316 = x7 → K 0 (uS (uS w310 σ314) σ317)) ∧ (v316 = x7 → CI M_Cs_accounts [vR 0, vI (-2)] (wS (uS (uS w310 σ314) σ317)) (fun v319 σ320 => (¬ v319 = (-3) → K 0 (uS (uS (uS w310 σ314) σ317) σ320)) ∧ (v319 = (-3) → CI M_Cs_account [vR 0, vI 100, vI 0] (wS (uS (uS (uS w310 σ314) σ317) σ320)) (fun v322 σ323 => (¬ v322 = (-10000000) → K 0 (uS (uS (uS (uS w310 σ314) σ317) σ320) σ323)) ∧ (v322 = (-10000000) → CI M_Cs_account [vR 0, vI 0, vI 6] (wS (uS (uS (uS (uS w310 σ314) σ317) σ320) σ323)) (fun v325 σ326 => (¬ v325 = (-10000000) → K 0 (uS (uS (uS (uS (uS w310 σ314) σ317) σ320) σ323) σ326)) ∧ (v325 = (-10000000) → CI M_Cs_item [vR 0, vI x4, vI 0] (wS (uS (uS (uS (uS (uS w310 σ314) σ317) σ320) σ323) σ326)) (fun v328 σ329 => (¬ v328 = (-10000000) → K 0 (uS (uS (uS (uS (uS (uS w310 σ314) σ317) σ320) σ323) σ326) σ329)) ∧ (v328 = (-10000000) → CI M_Cs_item [vR 0, vI (-1), vI 0] (wS (uS (uS (uS (uS (uS (uS w310 σ314) σ317) σ320) σ323) σ326) σ329)) (fun v331 σ332 => (¬ v331 = (-10000000) → K 0 (uS (uS (uS (uS (uS (uS (uS w310 σ314) σ317) σ320) σ323) σ326) σ329) σ332)) ∧ (v331 = (-10000000) → CI M_Cs_find [vR 0, vI 99, vI 9999] (wS (uS (uS (uS (uS (uS (uS (uS w310 σ314) σ317) σ320) σ323) σ326) σ329) σ332)) (fun v334 σ335 => (¬ v334 = (-1) → K 0 (uS (uS (uS (uS (uS (uS (uS (uS w310 σ314) σ317) σ320) σ323) σ326) σ329) σ332) σ335)) ∧ (v334 = (-1) → K 1 (uS (uS (uS (uS (uS (uS (uS (uS w310 σ314) σ317) σ320) σ323) σ326) σ329) σ332) σ335)))))))))))))))))) ∧ (¬ v311 = 0 → DP G M_Lk_next [vA a307] w310 0 0 (fun v338 w337 => ∃ a339 : Nat, v338 = some a339 ∧ ((Is G w337 a339 (kO 16)) ∧ DI G M_In_intValue [vA a339] w337 0 0 (fun v343 w342 => (inR (x7 + 1)) ∧ CI M_Cs_accounts [vR 0, vI x7] (wS w342) (fun v345 σ346 => (v345 = v343 → WD G M_Cl_items 471 [(0, vR 0), (4, vI x4), (7, vI (x7 + 1)), (8, vP (some a307))] [] (uS w342 σ346) rc rs (yI K)) ∧ (¬ v345 = v343 → K 0 (uS w342 σ346)))))))))) : WD G M_Cl_items 471 [(0, vR 0), (4, vI x4), (7, vI x7), (8, vP x8)] [] w rc rs (yI K) := by
  refine x_aloadP x8 d_Cl_items_471 rfl (?_ : WD _ _ 473 _ _ _ _ _ _)
  obtain ⟨a307, e308, h⟩ := h
  rw [e308]
  obtain ⟨k309, h⟩ := h
  refine x_callF (ν := M_Lh_hasNext) ⟨"java/util/Iterator", "hasNext", "()Z"⟩ [] ok_M_Lh_hasNext oki_M_Lh_hasNext k309 rfl (qm_2 (i := 238) rfl rfl) (by decide) (qm_5 (i := 182) rfl rfl) (show _ = some 0 from by decide +kernel) rfl ⟨Nat.le_of_ble_eq_true rfl, Nat.le_of_ble_eq_true rfl⟩ (Nat.le_of_ble_eq_true rfl) rfl d_Cl_items_473 (Nat.zero_le _) (Nat.zero_le _) (DI.k h (fun v311 w310 gw310 h => (?_ : WD _ _ 478 _ _ _ _ _ _)))
  refine x_if_eq 515 d_Cl_items_478 rfl ⟨fun c312 => (?_ : WD _ _ 515 _ _ _ _ _ _), fun c312 => (?_ : WD _ _ 481 _ _ _ _ _ _)⟩
  · replace h := h.1 c312
    refine x_aload_n d_Cl_items_515 rfl (?_ : WD _ _ 516 _ _ _ _ _ _)
    refine x_iload d_Cl_items_516 rfl (?_ : WD _ _ 518 _ _ _ _ _ _)
    refine x_callC (ν := M_Cs_accounts) (k := 0) [vI x7] ok_M_Cs_accounts okv_M_Cs_accounts (by decide) rfl rfl rfl (qm_9 (i := 158) rfl rfl) np_M_Cs_accounts rfl ⟨Nat.le_of_ble_eq_true rfl, Nat.le_of_ble_eq_true rfl⟩ (Nat.le_of_ble_eq_true rfl) rfl d_Cl_items_518 (CI.kd h (fun v313 σ314 h => (?_ : WD _ _ 521 _ _ _ _ _ _)))
    refine x_iconst d_Cl_items_521 (by decide) (?_ : WD _ _ 522 _ _ _ _ _ _)
    refine x_icmp_ne 610 d_Cl_items_522 rfl ⟨fun c315 => (?_ : WD _ _ 610 _ _ _ _ _ _), fun c315 => (?_ : WD _ _ 525 _ _ _ _ _ _)⟩
    · replace h := h.1 c315
      refine x_iconst d_Cl_items_610 (by decide) (?_ : WD _ _ 611 _ _ _ _ _ _)
      exact x_zreturn rfl d_Cl_items_611 (by decide) h
    · replace h := h.2 c315
      refine x_aload_n d_Cl_items_525 rfl (?_ : WD _ _ 526 _ _ _ _ _ _)
      refine x_iconst d_Cl_items_526 (by decide) (?_ : WD _ _ 527 _ _ _ _ _ _)
      refine x_callC (ν := M_Cs_accounts) (k := 0) [vI (-1)] ok_M_Cs_accounts okv_M_Cs_accounts (by decide) rfl rfl rfl (qm_9 (i := 158) rfl rfl) np_M_Cs_accounts rfl ⟨Nat.le_of_ble_eq_true rfl, Nat.le_of_ble_eq_true rfl⟩ (Nat.le_of_ble_eq_true rfl) rfl d_Cl_items_527 (CI.kd h (fun v316 σ317 h => (?_ : WD _ _ 530 _ _ _ _ _ _)))
      refine x_iload d_Cl_items_530 rfl (?_ : WD _ _ 532 _ _ _ _ _ _)
      refine x_icmp_ne 610 d_Cl_items_532 rfl ⟨fun c318 => (?_ : WD _ _ 610 _ _ _ _ _ _), fun c318 => (?_ : WD _ _ 535 _ _ _ _ _ _)⟩
      · replace h := h.1 c318
        refine x_iconst d_Cl_items_610 (by decide) (?_ : WD _ _ 611 _ _ _ _ _ _)
        exact x_zreturn rfl d_Cl_items_611 (by decide) h
      · replace h := h.2 c318
        refine x_aload_n d_Cl_items_535 rfl (?_ : WD _ _ 536 _ _ _ _ _ _)
        refine x_bipush d_Cl_items_536 (by decide) (by decide) (?_ : WD _ _ 538 _ _ _ _ _ _)
        refine x_callC (ν := M_Cs_accounts) (k := 0) [vI (-2)] ok_M_Cs_accounts okv_M_Cs_accounts (by decide) rfl rfl rfl (qm_9 (i := 158) rfl rfl) np_M_Cs_accounts rfl ⟨Nat.le_of_ble_eq_true rfl, Nat.le_of_ble_eq_true rfl⟩ (Nat.le_of_ble_eq_true rfl) rfl d_Cl_items_538 (CI.kd h (fun v319 σ320 h => (?_ : WD _ _ 541 _ _ _ _ _ _)))
        refine x_bipush d_Cl_items_541 (by decide) (by decide) (?_ : WD _ _ 543 _ _ _ _ _ _)
        refine x_icmp_ne 610 d_Cl_items_543 rfl ⟨fun c321 => (?_ : WD _ _ 610 _ _ _ _ _ _), fun c321 => (?_ : WD _ _ 546 _ _ _ _ _ _)⟩
        · replace h := h.1 c321
          refine x_iconst d_Cl_items_610 (by decide) (?_ : WD _ _ 611 _ _ _ _ _ _)
          exact x_zreturn rfl d_Cl_items_611 (by decide) h
        · replace h := h.2 c321
          refine x_aload_n d_Cl_items_546 rfl (?_ : WD _ _ 547 _ _ _ _ _ _)
          refine x_bipush d_Cl_items_547 (by decide) (by decide) (?_ : WD _ _ 549 _ _ _ _ _ _)
          refine x_iconst d_Cl_items_549 (by decide) (?_ : WD _ _ 550 _ _ _ _ _ _)
          refine x_callC (ν := M_Cs_account) (k := 0) [vI 100, vI 0] ok_M_Cs_account okv_M_Cs_account (by decide) rfl rfl rfl (qm_9 (i := 32) rfl rfl) np_M_Cs_account rfl ⟨Nat.le_of_ble_eq_true rfl, Nat.le_of_ble_eq_true rfl⟩ (Nat.le_of_ble_eq_true rfl) rfl d_Cl_items_550 (CI.kd h (fun v322 σ323 h => (?_ : WD _ _ 553 _ _ _ _ _ _)))
          refine x_ldc (-10000000) d_Cl_items_553 (qm_5 (i := 163) rfl rfl) (by decide) (by decide) (?_ : WD _ _ 555 _ _ _ _ _ _)
          refine x_icmp_ne 610 d_Cl_items_555 rfl ⟨fun c324 => (?_ : WD _ _ 610 _ _ _ _ _ _), fun c324 => (?_ : WD _ _ 558 _ _ _ _ _ _)⟩
          · replace h := h.1 c324
            refine x_iconst d_Cl_items_610 (by decide) (?_ : WD _ _ 611 _ _ _ _ _ _)
            exact x_zreturn rfl d_Cl_items_611 (by decide) h
          · replace h := h.2 c324
            refine x_aload_n d_Cl_items_558 rfl (?_ : WD _ _ 559 _ _ _ _ _ _)
            refine x_iconst d_Cl_items_559 (by decide) (?_ : WD _ _ 560 _ _ _ _ _ _)
            refine x_bipush d_Cl_items_560 (by decide) (by decide) (?_ : WD _ _ 562 _ _ _ _ _ _)
            refine x_callC (ν := M_Cs_account) (k := 0) [vI 0, vI 6] ok_M_Cs_account okv_M_Cs_account (by decide) rfl rfl rfl (qm_9 (i := 32) rfl rfl) np_M_Cs_account rfl ⟨Nat.le_of_ble_eq_true rfl, Nat.le_of_ble_eq_true rfl⟩ (Nat.le_of_ble_eq_true rfl) rfl d_Cl_items_562 (CI.kd h (fun v325 σ326 h => (?_ : WD _ _ 565 _ _ _ _ _ _)))
            refine x_ldc (-10000000) d_Cl_items_565 (qm_5 (i := 163) rfl rfl) (by decide) (by decide) (?_ : WD _ _ 567 _ _ _ _ _ _)
            refine x_icmp_ne 610 d_Cl_items_567 rfl ⟨fun c327 => (?_ : WD _ _ 610 _ _ _ _ _ _), fun c327 => (?_ : WD _ _ 570 _ _ _ _ _ _)⟩
            · replace h := h.1 c327
              refine x_iconst d_Cl_items_610 (by decide) (?_ : WD _ _ 611 _ _ _ _ _ _)
              exact x_zreturn rfl d_Cl_items_611 (by decide) h
            · replace h := h.2 c327
              refine x_aload_n d_Cl_items_570 rfl (?_ : WD _ _ 571 _ _ _ _ _ _)
              refine x_iload d_Cl_items_571 rfl (?_ : WD _ _ 573 _ _ _ _ _ _)
              refine x_iconst d_Cl_items_573 (by decide) (?_ : WD _ _ 574 _ _ _ _ _ _)
              refine x_callC (ν := M_Cs_item) (k := 0) [vI x4, vI 0] ok_M_Cs_item okv_M_Cs_item (by decide) rfl rfl rfl (qm_6 (i := 213) rfl rfl) np_M_Cs_item rfl ⟨Nat.le_of_ble_eq_true rfl, Nat.le_of_ble_eq_true rfl⟩ (Nat.le_of_ble_eq_true rfl) rfl d_Cl_items_574 (CI.kd h (fun v328 σ329 h => (?_ : WD _ _ 577 _ _ _ _ _ _)))
              refine x_ldc (-10000000) d_Cl_items_577 (qm_5 (i := 163) rfl rfl) (by decide) (by decide) (?_ : WD _ _ 579 _ _ _ _ _ _)
              refine x_icmp_ne 610 d_Cl_items_579 rfl ⟨fun c330 => (?_ : WD _ _ 610 _ _ _ _ _ _), fun c330 => (?_ : WD _ _ 582 _ _ _ _ _ _)⟩
              · replace h := h.1 c330
                refine x_iconst d_Cl_items_610 (by decide) (?_ : WD _ _ 611 _ _ _ _ _ _)
                exact x_zreturn rfl d_Cl_items_611 (by decide) h
              · replace h := h.2 c330
                refine x_aload_n d_Cl_items_582 rfl (?_ : WD _ _ 583 _ _ _ _ _ _)
                refine x_iconst d_Cl_items_583 (by decide) (?_ : WD _ _ 584 _ _ _ _ _ _)
                refine x_iconst d_Cl_items_584 (by decide) (?_ : WD _ _ 585 _ _ _ _ _ _)
                refine x_callC (ν := M_Cs_item) (k := 0) [vI (-1), vI 0] ok_M_Cs_item okv_M_Cs_item (by decide) rfl rfl rfl (qm_6 (i := 213) rfl rfl) np_M_Cs_item rfl ⟨Nat.le_of_ble_eq_true rfl, Nat.le_of_ble_eq_true rfl⟩ (Nat.le_of_ble_eq_true rfl) rfl d_Cl_items_585 (CI.kd h (fun v331 σ332 h => (?_ : WD _ _ 588 _ _ _ _ _ _)))
                refine x_ldc (-10000000) d_Cl_items_588 (qm_5 (i := 163) rfl rfl) (by decide) (by decide) (?_ : WD _ _ 590 _ _ _ _ _ _)
                refine x_icmp_ne 610 d_Cl_items_590 rfl ⟨fun c333 => (?_ : WD _ _ 610 _ _ _ _ _ _), fun c333 => (?_ : WD _ _ 593 _ _ _ _ _ _)⟩
                · replace h := h.1 c333
                  refine x_iconst d_Cl_items_610 (by decide) (?_ : WD _ _ 611 _ _ _ _ _ _)
                  exact x_zreturn rfl d_Cl_items_611 (by decide) h
                · replace h := h.2 c333
                  refine x_aload_n d_Cl_items_593 rfl (?_ : WD _ _ 594 _ _ _ _ _ _)
                  refine x_bipush d_Cl_items_594 (by decide) (by decide) (?_ : WD _ _ 596 _ _ _ _ _ _)
                  refine x_sipush d_Cl_items_596 (by decide) (by decide) (?_ : WD _ _ 599 _ _ _ _ _ _)
                  refine x_callC (ν := M_Cs_find) (k := 0) [vI 99, vI 9999] ok_M_Cs_find okv_M_Cs_find (by decide) rfl rfl rfl (qm_7 (i := 13) rfl rfl) np_M_Cs_find rfl ⟨Nat.le_of_ble_eq_true rfl, Nat.le_of_ble_eq_true rfl⟩ (Nat.le_of_ble_eq_true rfl) rfl d_Cl_items_599 (CI.kd h (fun v334 σ335 h => (?_ : WD _ _ 602 _ _ _ _ _ _)))
                  refine x_iconst d_Cl_items_602 (by decide) (?_ : WD _ _ 603 _ _ _ _ _ _)
                  refine x_icmp_ne 610 d_Cl_items_603 rfl ⟨fun c336 => (?_ : WD _ _ 610 _ _ _ _ _ _), fun c336 => (?_ : WD _ _ 606 _ _ _ _ _ _)⟩
                  · replace h := h.1 c336
                    refine x_iconst d_Cl_items_610 (by decide) (?_ : WD _ _ 611 _ _ _ _ _ _)
                    exact x_zreturn rfl d_Cl_items_611 (by decide) h
                  · replace h := h.2 c336
                    refine x_iconst d_Cl_items_606 (by decide) (?_ : WD _ _ 607 _ _ _ _ _ _)
                    refine x_goto 611 d_Cl_items_607 rfl ?_
                    exact x_zreturn rfl d_Cl_items_611 (by decide) h
  · replace h := h.2 c312
    refine x_aloadP (some a307) d_Cl_items_481 rfl (?_ : WD _ _ 483 _ _ _ _ _ _)
    refine x_callF (ν := M_Lk_next) ⟨"java/util/Iterator", "next", "()Ljava/lang/Object;"⟩ [] ok_M_Lk_next oki_M_Lk_next (k309.q gw310.k) rfl (qm_3 (i := 27) rfl rfl) (by decide) (qm_5 (i := 184) rfl rfl) (show _ = some 0 from by decide +kernel) rfl ⟨Nat.le_of_ble_eq_true rfl, Nat.le_of_ble_eq_true rfl⟩ (Nat.le_of_ble_eq_true rfl) rfl d_Cl_items_483 (Nat.zero_le _) (Nat.zero_le _) (DP.k h (fun v338 w337 gw337 h => (?_ : WD _ _ 488 _ _ _ _ _ _)))
    obtain ⟨a339, e340, h⟩ := h
    rw [e340]
    obtain ⟨k341, h⟩ := h
    refine x_cast k341 rfl (Or.inl rfl) (qm_9 (i := 156) rfl rfl) d_Cl_items_488 (?_ : WD _ _ 491 _ _ _ _ _ _)
    refine x_callV (ν := M_In_intValue) [] ok_M_In_intValue okv_M_In_intValue k341 rfl rfl (qm_9 (i := 157) rfl rfl) np_M_In_intValue rfl ⟨Nat.le_of_ble_eq_true rfl, Nat.le_of_ble_eq_true rfl⟩ (Nat.le_of_ble_eq_true rfl) rfl d_Cl_items_491 (Nat.zero_le _) (Nat.zero_le _) (DI.k h (fun v343 w342 gw342 h => (?_ : WD _ _ 494 _ _ _ _ _ _)))
    refine x_istore (ls' := [(9, vI v343), (0, vR 0), (4, vI x4), (7, vI x7), (8, vA a307)]) d_Cl_items_494 (by decide) rfl (?_ : WD _ _ 496 _ _ _ _ _ _)
    refine x_aload_n d_Cl_items_496 rfl (?_ : WD _ _ 497 _ _ _ _ _ _)
    refine x_iload d_Cl_items_497 rfl (?_ : WD _ _ 499 _ _ _ _ _ _)
    obtain ⟨h344, h⟩ := h
    refine x_iinc (ls' := [(7, vI (x7 + 1)), (9, vI v343), (0, vR 0), (4, vI x4), (8, vA a307)]) d_Cl_items_499 rfl h344 (by decide) rfl (?_ : WD _ _ 502 _ _ _ _ _ _)
    refine x_callC (ν := M_Cs_accounts) (k := 0) [vI x7] ok_M_Cs_accounts okv_M_Cs_accounts (by decide) rfl rfl rfl (qm_9 (i := 158) rfl rfl) np_M_Cs_accounts rfl ⟨Nat.le_of_ble_eq_true rfl, Nat.le_of_ble_eq_true rfl⟩ (Nat.le_of_ble_eq_true rfl) rfl d_Cl_items_502 (CI.kd h (fun v345 σ346 h => (?_ : WD _ _ 505 _ _ _ _ _ _)))
    refine x_iload d_Cl_items_505 rfl (?_ : WD _ _ 507 _ _ _ _ _ _)
    refine x_icmp_eq 512 d_Cl_items_507 rfl ⟨fun c347 => (?_ : WD _ _ 512 _ _ _ _ _ _), fun c347 => (?_ : WD _ _ 510 _ _ _ _ _ _)⟩
    · replace h := h.1 c347
      refine x_goto 471 d_Cl_items_512 rfl ?_
      refine x_pick (ls' := [(0, vR 0), (4, vI x4), (7, vI (x7 + 1)), (8, vP (some a307))]) [2, 3, 0, 4] rfl ?_
      exact h
    · replace h := h.2 c347
      refine x_iconst d_Cl_items_510 (by decide) (?_ : WD _ _ 511 _ _ _ _ _ _)
      exact x_zreturn rfl d_Cl_items_511 (by decide) h
set_option maxRecDepth 20000 in
theorem e_Cl_walk {G : Gq} {K : Int → Wd → Prop} {w : Wd} {mc ms : Nat} (x1 : Nat) (x2 : Nat) (x3 : Nat) (h : ∃ c1 s2 : Nat, c1 ≤ mc ∧ s2 ≤ ms ∧ ((Is G w x1 (kO 11)) ∧ DP G M_Bo_owners [vA x1] w c1 s2 (fun v7 w6 => WD G M_Cl_walk 9 [(0, vR 0), (1, vA x1), (2, vA x2), (3, vA x3), (4, vP v7), (5, vI 0)] [] w6 (mc - c1) (ms - s2) (yI K)))) : DI G M_Cl_walk [vR 0, vA x1, vA x2, vA x3] w mc ms K := by
  refine DC.of ok_M_Cl_walk (ls := [(0, vR 0), (1, vA x1), (2, vA x2), (3, vA x3)]) rfl (Nat.le_of_ble_eq_true rfl) ?_
  refine x_aload_nP (some x1) d_Cl_walk_0 rfl (?_ : WD _ _ 1 _ _ _ _ _ _)
  obtain ⟨c1, s2, h3, h4, h⟩ := h
  obtain ⟨k5, h⟩ := h
  refine x_callV (ν := M_Bo_owners) [] ok_M_Bo_owners okv_M_Bo_owners k5 rfl rfl (qm_9 (i := 169) rfl rfl) np_M_Bo_owners rfl ⟨Nat.le_of_ble_eq_true rfl, Nat.le_of_ble_eq_true rfl⟩ (Nat.le_of_ble_eq_true rfl) rfl d_Cl_walk_1 h3 h4 (DP.k h (fun v7 w6 gw6 h => (?_ : WD _ _ 4 _ _ _ _ _ _)))
  refine x_astoreP v7 (ls' := [(4, vP v7), (0, vR 0), (1, vA x1), (2, vA x2), (3, vA x3)]) d_Cl_walk_4 (by decide) rfl (?_ : WD _ _ 6 _ _ _ _ _ _)
  refine x_iconst d_Cl_walk_6 (by decide) (?_ : WD _ _ 7 _ _ _ _ _ _)
  refine x_istore (ls' := [(5, vI 0), (4, vP v7), (0, vR 0), (1, vA x1), (2, vA x2), (3, vA x3)]) d_Cl_walk_7 (by decide) rfl (?_ : WD _ _ 9 _ _ _ _ _ _)
  refine x_pick (ls' := [(0, vR 0), (1, vA x1), (2, vA x2), (3, vA x3), (4, vP v7), (5, vI 0)]) [2, 3, 4, 5, 1, 0] rfl ?_
  exact h
set_option maxRecDepth 20000 in
theorem l_Cl_walk_1 {G : Gq} {K : Int → Wd → Prop} {w : Wd} {rc rs : Nat} (x1 : Nat) (x2 : Nat) (x3 : Nat) (x4 : Option Nat) (x5 : Int) (h : (25 ≤ x5 → WD G M_Cl_walk 237 [(0, vR 0), (1, vA x1), (2, vA x2), (5, vI 0)] [] w rc rs (yI K)) ∧ (¬ 25 ≤ x5 → (3 ≤ x5 → ∃ a10 : Nat, x4 = some a10 ∧ (∃ n12 : Nat, ((Is G w a10 (kA 0 n12)) ∧ (inR (n12 : Int)) ∧ (inR ((n12 : Int) + 1)) ∧ DI G M_Cl_draw [vA x3, vI ((n12 : Int) + 1)] w 0 0 (fun v17 w16 => (inR (1 + v17)) ∧ ((1 + v17) < 1 → CI M_Cs_coin [vR 0, vI (1 + v17), vI 0] (wS w16) (fun v20 σ21 => (v20 = (-2) → (inR (x5 + 1)) ∧ WD G M_Cl_walk 9 [(0, vR 0), (1, vA x1), (2, vA x2), (3, vA x3), (4, vP (some a10)), (5, vI (x5 + 1))] [] (uS w16 σ21) rc rs (yI K)) ∧ (¬ v20 = (-2) → K 0 (uS w16 σ21)))) ∧ (¬ (1 + v17) < 1 → ((1 + v17) ≤ (n12 : Int) → (Is G w16 x1 (kO 11)) ∧ ∃ a26 : Nat, (wR w16 x1 1) = some a26 ∧ (∃ c28 s29 : Nat, c28 ≤ rc ∧ s29 ≤ rs ∧ ((Is G w16 a26 (kO 14)) ∧ DP G M_Al_iterator [vA a26] w16 c28 s29 (fun v34 w33 => WD G M_Cl_walk 86 [(0, vR 0), (1, vA x1), (2, vA x2), (3, vA x3), (4, vA a10), (5, vI x5), (6, vI (1 + v17)), (7, vI 0), (8, vP v34)] [] w33 (rc - c28) (rs - s29) (yI K))))) ∧ (¬ (1 + v17) ≤ (n12 : Int) → CI M_Cs_coin [vR 0, vI (1 + v17), vI 0] (wS w16) (fun v35 σ36 => (v35 = (-2) → (inR (x5 + 1)) ∧ WD G M_Cl_walk 9 [(0, vR 0), (1, vA x1), (2, vA x2), (3, vA x3), (4, vP (some a10)), (5, vI (x5 + 1))] [] (uS w16 σ36) rc rs (yI K)) ∧ (¬ v35 = (-2) → K 0 (uS w16 σ36))))))))) ∧ (¬ 3 ≤ x5 → ∃ a39 : Nat, x4 = some a39 ∧ (∃ n41 : Nat, ((Is G w a39 (kA 0 n41)) ∧ (inR (n41 : Int)) ∧ (inR ((n41 : Int) + x5)) ∧ (inR (((n41 : Int) + x5) - 1)) ∧ ((((n41 : Int) + x5) - 1) < 1 → CI M_Cs_coin [vR 0, vI (((n41 : Int) + x5) - 1), vI 0] (wS w) (fun v47 σ48 => (v47 = (-2) → (inR (x5 + 1)) ∧ WD G M_Cl_walk 9 [(0, vR 0), (1, vA x1), (2, vA x2), (3, vA x3), (4, vP (some a39)), (5, vI (x5 + 1))] [] (uS w σ48) rc rs (yI K)) ∧ (¬ v47 = (-2) → K 0 (uS w σ48)))) ∧ (¬ (((n41 : Int) + x5) - 1) < 1 → ((((n41 : Int) + x5) - 1) ≤ (n41 : Int) → (Is G w x1 (kO 11)) ∧ ∃ a53 : Nat, (wR w x1 1) = some a53 ∧ (∃ c55 s56 : Nat, c55 ≤ rc ∧ s56 ≤ rs ∧ ((Is G w a53 (kO 14)) ∧ DP G M_Al_iterator [vA a53] w c55 s56 (fun v61 w60 => WD G M_Cl_walk 86 [(0, vR 0), (1, vA x1), (2, vA x2), (3, vA x3), (4, vA a39), (5, vI x5), (6, vI (((n41 : Int) + x5) - 1)), (7, vI 0), (8, vP v61)] [] w60 (rc - c55) (rs - s56) (yI K))))) ∧ (¬ (((n41 : Int) + x5) - 1) ≤ (n41 : Int) → CI M_Cs_coin [vR 0, vI (((n41 : Int) + x5) - 1), vI 0] (wS w) (fun v62 σ63 => (v62 = (-2) → (inR (x5 + 1)) ∧ WD G M_Cl_walk 9 [(0, vR 0), (1, vA x1), (2, vA x2), (3, vA x3), (4, vP (some a39)), (5, vI (x5 + 1))] [] (uS w σ63) rc rs (yI K)) ∧ (¬ v62 = (-2) → K 0 (uS w σ63)))))))))) : WD G M_Cl_walk 9 [(0, vR 0), (1, vA x1), (2, vA x2), (3, vA x3), (4, vP x4), (5, vI x5)] [] w rc rs (yI K) := by
  refine x_iload d_Cl_walk_9 rfl (?_ : WD _ _ 11 _ _ _ _ _ _)
  refine x_bipush d_Cl_walk_11 (by decide) (by decide) (?_ : WD _ _ 13 _ _ _ _ _ _)
  refine x_icmp_ge 234 d_Cl_walk_13 rfl ⟨fun c8 => (?_ : WD _ _ 234 _ _ _ _ _ _), fun c8 => (?_ : WD _ _ 16 _ _ _ _ _ _)⟩
  · replace h := h.1 c8
    refine x_iconst d_Cl_walk_234 (by decide) (?_ : WD _ _ 235 _ _ _ _ _ _)
    refine x_istore (ls' := [(5, vI 0), (0, vR 0), (1, vA x1), (2, vA x2), (3, vA x3), (4, vP x4)]) d_Cl_walk_235 (by decide) rfl (?_ : WD _ _ 237 _ _ _ _ _ _)
    refine x_pick (ls' := [(0, vR 0), (1, vA x1), (2, vA x2), (5, vI 0)]) [1, 2, 3, 0] rfl ?_
    exact h
  · replace h := h.2 c8
    refine x_iload d_Cl_walk_16 rfl (?_ : WD _ _ 18 _ _ _ _ _ _)
    refine x_iconst d_Cl_walk_18 (by decide) (?_ : WD _ _ 19 _ _ _ _ _ _)
    refine x_icmp_ge 33 d_Cl_walk_19 rfl ⟨fun c9 => (?_ : WD _ _ 33 _ _ _ _ _ _), fun c9 => (?_ : WD _ _ 22 _ _ _ _ _ _)⟩
    · replace h := h.1 c9
      refine x_iconst d_Cl_walk_33 (by decide) (?_ : WD _ _ 34 _ _ _ _ _ _)
      refine x_aload_nP (some x3) d_Cl_walk_34 rfl (?_ : WD _ _ 35 _ _ _ _ _ _)
      refine x_aloadP x4 d_Cl_walk_35 rfl (?_ : WD _ _ 37 _ _ _ _ _ _)
      obtain ⟨a10, e11, h⟩ := h
      rw [e11]
      obtain ⟨n12, h⟩ := h
      obtain ⟨k13, h⟩ := h
      obtain ⟨h14, h⟩ := h
      refine x_alenA k13 (fun _ => rfl) h14 d_Cl_walk_37 (?_ : WD _ _ 38 _ _ _ _ _ _)
      refine x_iconst d_Cl_walk_38 (by decide) (?_ : WD _ _ 39 _ _ _ _ _ _)
      obtain ⟨h15, h⟩ := h
      refine x_iadd d_Cl_walk_39 h15 (?_ : WD _ _ 40 _ _ _ _ _ _)
      refine x_callS (ν := M_Cl_draw) [vA x3, vI ((n12 : Int) + 1)] ok_M_Cl_draw oks_M_Cl_draw (qm_3 (i := 179) rfl rfl) np_M_Cl_draw rfl ⟨Nat.le_of_ble_eq_true rfl, Nat.le_of_ble_eq_true rfl⟩ (Nat.le_of_ble_eq_true rfl) rfl d_Cl_walk_40 (Nat.zero_le _) (Nat.zero_le _) (DI.k h (fun v17 w16 gw16 h => (?_ : WD _ _ 43 _ _ _ _ _ _)))
      obtain ⟨h18, h⟩ := h
      refine x_iadd d_Cl_walk_43 h18 (?_ : WD _ _ 44 _ _ _ _ _ _)
      refine x_istore (ls' := [(6, vI (1 + v17)), (0, vR 0), (1, vA x1), (2, vA x2), (3, vA x3), (4, vA a10), (5, vI x5)]) d_Cl_walk_44 (by decide) rfl (?_ : WD _ _ 46 _ _ _ _ _ _)
      refine x_iload d_Cl_walk_46 rfl (?_ : WD _ _ 48 _ _ _ _ _ _)
      refine x_iconst d_Cl_walk_48 (by decide) (?_ : WD _ _ 49 _ _ _ _ _ _)
      refine x_icmp_lt 60 d_Cl_walk_49 rfl ⟨fun c19 => (?_ : WD _ _ 60 _ _ _ _ _ _), fun c19 => (?_ : WD _ _ 52 _ _ _ _ _ _)⟩
      · replace h := h.1 c19
        refine x_aload_n d_Cl_walk_60 rfl (?_ : WD _ _ 61 _ _ _ _ _ _)
        refine x_iload d_Cl_walk_61 rfl (?_ : WD _ _ 63 _ _ _ _ _ _)
        refine x_iconst d_Cl_walk_63 (by decide) (?_ : WD _ _ 64 _ _ _ _ _ _)
        refine x_callC (ν := M_Cs_coin) (k := 0) [vI (1 + v17), vI 0] ok_M_Cs_coin okv_M_Cs_coin (by decide) rfl rfl rfl (qm_9 (i := 170) rfl rfl) np_M_Cs_coin rfl ⟨Nat.le_of_ble_eq_true rfl, Nat.le_of_ble_eq_true rfl⟩ (Nat.le_of_ble_eq_true rfl) rfl d_Cl_walk_64 (CI.kd h (fun v20 σ21 h => (?_ : WD _ _ 67 _ _ _ _ _ _)))
        refine x_bipush d_Cl_walk_67 (by decide) (by decide) (?_ : WD _ _ 69 _ _ _ _ _ _)
        refine x_icmp_eq 228 d_Cl_walk_69 rfl ⟨fun c22 => (?_ : WD _ _ 228 _ _ _ _ _ _), fun c22 => (?_ : WD _ _ 72 _ _ _ _ _ _)⟩
        · replace h := h.1 c22
          obtain ⟨h23, h⟩ := h
          refine x_iinc (ls' := [(5, vI (x5 + 1)), (6, vI (1 + v17)), (0, vR 0), (1, vA x1), (2, vA x2), (3, vA x3), (4, vA a10)]) d_Cl_walk_228 rfl h23 (by decide) rfl (?_ : WD _ _ 231 _ _ _ _ _ _)
          refine x_goto 9 d_Cl_walk_231 rfl ?_
          refine x_pick (ls' := [(0, vR 0), (1, vA x1), (2, vA x2), (3, vA x3), (4, vP (some a10)), (5, vI (x5 + 1))]) [2, 3, 4, 5, 6, 0] rfl ?_
          exact h
        · replace h := h.2 c22
          refine x_iconst d_Cl_walk_72 (by decide) (?_ : WD _ _ 73 _ _ _ _ _ _)
          exact x_zreturn rfl d_Cl_walk_73 (by decide) h
      · replace h := h.2 c19
        refine x_iload d_Cl_walk_52 rfl (?_ : WD _ _ 54 _ _ _ _ _ _)
        refine x_aloadP (some a10) d_Cl_walk_54 rfl (?_ : WD _ _ 56 _ _ _ _ _ _)
        refine x_alenA (k13.q gw16.k) (fun _ => rfl) h14 d_Cl_walk_56 (?_ : WD _ _ 57 _ _ _ _ _ _)
        refine x_icmp_le 74 d_Cl_walk_57 rfl ⟨fun c24 => (?_ : WD _ _ 74 _ _ _ _ _ _), fun c24 => (?_ : WD _ _ 60 _ _ _ _ _ _)⟩
        · replace h := h.1 c24
          refine x_iconst d_Cl_walk_74 (by decide) (?_ : WD _ _ 75 _ _ _ _ _ _)
          refine x_istore (ls' := [(7, vI 0), (6, vI (1 + v17)), (0, vR 0), (1, vA x1), (2, vA x2), (3, vA x3), (4, vA a10), (5, vI x5)]) d_Cl_walk_75 (by decide) rfl (?_ : WD _ _ 77 _ _ _ _ _ _)
          refine x_aload_nP (some x1) d_Cl_walk_77 rfl (?_ : WD _ _ 78 _ _ _ _ _ _)
          obtain ⟨k25, h⟩ := h
          refine x_getP (ref := "CoinSamplerLaw$Books") (j := 1) 1 k25 clk_11 (by decide) (qm_2 (i := 158) rfl rfl) (Or.inl rfl) rfl rfl d_Cl_walk_78 (y := (wR w16 x1 1)) rfl (?_ : WD _ _ 81 _ _ _ _ _ _)
          obtain ⟨a26, e27, h⟩ := h
          rw [e27]
          obtain ⟨c28, s29, h30, h31, h⟩ := h
          obtain ⟨k32, h⟩ := h
          refine x_callV (ν := M_Al_iterator) [] ok_M_Al_iterator okv_M_Al_iterator k32 rfl rfl (qm_5 (i := 180) rfl rfl) np_M_Al_iterator rfl ⟨Nat.le_of_ble_eq_true rfl, Nat.le_of_ble_eq_true rfl⟩ (Nat.le_of_ble_eq_true rfl) rfl d_Cl_walk_81 h30 h31 (DP.k h (fun v34 w33 gw33 h => (?_ : WD _ _ 84 _ _ _ _ _ _)))
          refine x_astoreP v34 (ls' := [(8, vP v34), (7, vI 0), (6, vI (1 + v17)), (0, vR 0), (1, vA x1), (2, vA x2), (3, vA x3), (4, vA a10), (5, vI x5)]) d_Cl_walk_84 (by decide) rfl (?_ : WD _ _ 86 _ _ _ _ _ _)
          refine x_pick (ls' := [(0, vR 0), (1, vA x1), (2, vA x2), (3, vA x3), (4, vA a10), (5, vI x5), (6, vI (1 + v17)), (7, vI 0), (8, vP v34)]) [3, 4, 5, 6, 7, 8, 2, 1, 0] rfl ?_
          exact h
        · replace h := h.2 c24
          refine x_aload_n d_Cl_walk_60 rfl (?_ : WD _ _ 61 _ _ _ _ _ _)
          refine x_iload d_Cl_walk_61 rfl (?_ : WD _ _ 63 _ _ _ _ _ _)
          refine x_iconst d_Cl_walk_63 (by decide) (?_ : WD _ _ 64 _ _ _ _ _ _)
          refine x_callC (ν := M_Cs_coin) (k := 0) [vI (1 + v17), vI 0] ok_M_Cs_coin okv_M_Cs_coin (by decide) rfl rfl rfl (qm_9 (i := 170) rfl rfl) np_M_Cs_coin rfl ⟨Nat.le_of_ble_eq_true rfl, Nat.le_of_ble_eq_true rfl⟩ (Nat.le_of_ble_eq_true rfl) rfl d_Cl_walk_64 (CI.kd h (fun v35 σ36 h => (?_ : WD _ _ 67 _ _ _ _ _ _)))
          refine x_bipush d_Cl_walk_67 (by decide) (by decide) (?_ : WD _ _ 69 _ _ _ _ _ _)
          refine x_icmp_eq 228 d_Cl_walk_69 rfl ⟨fun c37 => (?_ : WD _ _ 228 _ _ _ _ _ _), fun c37 => (?_ : WD _ _ 72 _ _ _ _ _ _)⟩
          · replace h := h.1 c37
            obtain ⟨h38, h⟩ := h
            refine x_iinc (ls' := [(5, vI (x5 + 1)), (6, vI (1 + v17)), (0, vR 0), (1, vA x1), (2, vA x2), (3, vA x3), (4, vA a10)]) d_Cl_walk_228 rfl h38 (by decide) rfl (?_ : WD _ _ 231 _ _ _ _ _ _)
            refine x_goto 9 d_Cl_walk_231 rfl ?_
            refine x_pick (ls' := [(0, vR 0), (1, vA x1), (2, vA x2), (3, vA x3), (4, vP (some a10)), (5, vI (x5 + 1))]) [2, 3, 4, 5, 6, 0] rfl ?_
            exact h
          · replace h := h.2 c37
            refine x_iconst d_Cl_walk_72 (by decide) (?_ : WD _ _ 73 _ _ _ _ _ _)
            exact x_zreturn rfl d_Cl_walk_73 (by decide) h
    · replace h := h.2 c9
      refine x_aloadP x4 d_Cl_walk_22 rfl (?_ : WD _ _ 24 _ _ _ _ _ _)
      obtain ⟨a39, e40, h⟩ := h
      rw [e40]
      obtain ⟨n41, h⟩ := h
      obtain ⟨k42, h⟩ := h
      obtain ⟨h43, h⟩ := h
      refine x_alenA k42 (fun _ => rfl) h43 d_Cl_walk_24 (?_ : WD _ _ 25 _ _ _ _ _ _)
      refine x_iload d_Cl_walk_25 rfl (?_ : WD _ _ 27 _ _ _ _ _ _)
      obtain ⟨h44, h⟩ := h
      refine x_iadd d_Cl_walk_27 h44 (?_ : WD _ _ 28 _ _ _ _ _ _)
      refine x_iconst d_Cl_walk_28 (by decide) (?_ : WD _ _ 29 _ _ _ _ _ _)
      obtain ⟨h45, h⟩ := h
      refine x_isub d_Cl_walk_29 h45 (?_ : WD _ _ 30 _ _ _ _ _ _)
      refine x_goto 44 d_Cl_walk_30 rfl ?_
      refine x_istore (ls' := [(6, vI (((n41 : Int) + x5) - 1)), (0, vR 0), (1, vA x1), (2, vA x2), (3, vA x3), (4, vA a39), (5, vI x5)]) d_Cl_walk_44 (by decide) rfl (?_ : WD _ _ 46 _ _ _ _ _ _)
      refine x_iload d_Cl_walk_46 rfl (?_ : WD _ _ 48 _ _ _ _ _ _)
      refine x_iconst d_Cl_walk_48 (by decide) (?_ : WD _ _ 49 _ _ _ _ _ _)
      refine x_icmp_lt 60 d_Cl_walk_49 rfl ⟨fun c46 => (?_ : WD _ _ 60 _ _ _ _ _ _), fun c46 => (?_ : WD _ _ 52 _ _ _ _ _ _)⟩
      · replace h := h.1 c46
        refine x_aload_n d_Cl_walk_60 rfl (?_ : WD _ _ 61 _ _ _ _ _ _)
        refine x_iload d_Cl_walk_61 rfl (?_ : WD _ _ 63 _ _ _ _ _ _)
        refine x_iconst d_Cl_walk_63 (by decide) (?_ : WD _ _ 64 _ _ _ _ _ _)
        refine x_callC (ν := M_Cs_coin) (k := 0) [vI (((n41 : Int) + x5) - 1), vI 0] ok_M_Cs_coin okv_M_Cs_coin (by decide) rfl rfl rfl (qm_9 (i := 170) rfl rfl) np_M_Cs_coin rfl ⟨Nat.le_of_ble_eq_true rfl, Nat.le_of_ble_eq_true rfl⟩ (Nat.le_of_ble_eq_true rfl) rfl d_Cl_walk_64 (CI.kd h (fun v47 σ48 h => (?_ : WD _ _ 67 _ _ _ _ _ _)))
        refine x_bipush d_Cl_walk_67 (by decide) (by decide) (?_ : WD _ _ 69 _ _ _ _ _ _)
        refine x_icmp_eq 228 d_Cl_walk_69 rfl ⟨fun c49 => (?_ : WD _ _ 228 _ _ _ _ _ _), fun c49 => (?_ : WD _ _ 72 _ _ _ _ _ _)⟩
        · replace h := h.1 c49
          obtain ⟨h50, h⟩ := h
          refine x_iinc (ls' := [(5, vI (x5 + 1)), (6, vI (((n41 : Int) + x5) - 1)), (0, vR 0), (1, vA x1), (2, vA x2), (3, vA x3), (4, vA a39)]) d_Cl_walk_228 rfl h50 (by decide) rfl (?_ : WD _ _ 231 _ _ _ _ _ _)
          refine x_goto 9 d_Cl_walk_231 rfl ?_
          refine x_pick (ls' := [(0, vR 0), (1, vA x1), (2, vA x2), (3, vA x3), (4, vP (some a39)), (5, vI (x5 + 1))]) [2, 3, 4, 5, 6, 0] rfl ?_
          exact h
        · replace h := h.2 c49
          refine x_iconst d_Cl_walk_72 (by decide) (?_ : WD _ _ 73 _ _ _ _ _ _)
          exact x_zreturn rfl d_Cl_walk_73 (by decide) h
      · replace h := h.2 c46
        refine x_iload d_Cl_walk_52 rfl (?_ : WD _ _ 54 _ _ _ _ _ _)
        refine x_aloadP (some a39) d_Cl_walk_54 rfl (?_ : WD _ _ 56 _ _ _ _ _ _)
        refine x_alenA k42 (fun _ => rfl) h43 d_Cl_walk_56 (?_ : WD _ _ 57 _ _ _ _ _ _)
        refine x_icmp_le 74 d_Cl_walk_57 rfl ⟨fun c51 => (?_ : WD _ _ 74 _ _ _ _ _ _), fun c51 => (?_ : WD _ _ 60 _ _ _ _ _ _)⟩
        · replace h := h.1 c51
          refine x_iconst d_Cl_walk_74 (by decide) (?_ : WD _ _ 75 _ _ _ _ _ _)
          refine x_istore (ls' := [(7, vI 0), (6, vI (((n41 : Int) + x5) - 1)), (0, vR 0), (1, vA x1), (2, vA x2), (3, vA x3), (4, vA a39), (5, vI x5)]) d_Cl_walk_75 (by decide) rfl (?_ : WD _ _ 77 _ _ _ _ _ _)
          refine x_aload_nP (some x1) d_Cl_walk_77 rfl (?_ : WD _ _ 78 _ _ _ _ _ _)
          obtain ⟨k52, h⟩ := h
          refine x_getP (ref := "CoinSamplerLaw$Books") (j := 1) 1 k52 clk_11 (by decide) (qm_2 (i := 158) rfl rfl) (Or.inl rfl) rfl rfl d_Cl_walk_78 (y := (wR w x1 1)) rfl (?_ : WD _ _ 81 _ _ _ _ _ _)
          obtain ⟨a53, e54, h⟩ := h
          rw [e54]
          obtain ⟨c55, s56, h57, h58, h⟩ := h
          obtain ⟨k59, h⟩ := h
          refine x_callV (ν := M_Al_iterator) [] ok_M_Al_iterator okv_M_Al_iterator k59 rfl rfl (qm_5 (i := 180) rfl rfl) np_M_Al_iterator rfl ⟨Nat.le_of_ble_eq_true rfl, Nat.le_of_ble_eq_true rfl⟩ (Nat.le_of_ble_eq_true rfl) rfl d_Cl_walk_81 h57 h58 (DP.k h (fun v61 w60 gw60 h => (?_ : WD _ _ 84 _ _ _ _ _ _)))
          refine x_astoreP v61 (ls' := [(8, vP v61), (7, vI 0), (6, vI (((n41 : Int) + x5) - 1)), (0, vR 0), (1, vA x1), (2, vA x2), (3, vA x3), (4, vA a39), (5, vI x5)]) d_Cl_walk_84 (by decide) rfl (?_ : WD _ _ 86 _ _ _ _ _ _)
          refine x_pick (ls' := [(0, vR 0), (1, vA x1), (2, vA x2), (3, vA x3), (4, vA a39), (5, vI x5), (6, vI (((n41 : Int) + x5) - 1)), (7, vI 0), (8, vP v61)]) [3, 4, 5, 6, 7, 8, 2, 1, 0] rfl ?_
          exact h
        · replace h := h.2 c51
          refine x_aload_n d_Cl_walk_60 rfl (?_ : WD _ _ 61 _ _ _ _ _ _)
          refine x_iload d_Cl_walk_61 rfl (?_ : WD _ _ 63 _ _ _ _ _ _)
          refine x_iconst d_Cl_walk_63 (by decide) (?_ : WD _ _ 64 _ _ _ _ _ _)
          refine x_callC (ν := M_Cs_coin) (k := 0) [vI (((n41 : Int) + x5) - 1), vI 0] ok_M_Cs_coin okv_M_Cs_coin (by decide) rfl rfl rfl (qm_9 (i := 170) rfl rfl) np_M_Cs_coin rfl ⟨Nat.le_of_ble_eq_true rfl, Nat.le_of_ble_eq_true rfl⟩ (Nat.le_of_ble_eq_true rfl) rfl d_Cl_walk_64 (CI.kd h (fun v62 σ63 h => (?_ : WD _ _ 67 _ _ _ _ _ _)))
          refine x_bipush d_Cl_walk_67 (by decide) (by decide) (?_ : WD _ _ 69 _ _ _ _ _ _)
          refine x_icmp_eq 228 d_Cl_walk_69 rfl ⟨fun c64 => (?_ : WD _ _ 228 _ _ _ _ _ _), fun c64 => (?_ : WD _ _ 72 _ _ _ _ _ _)⟩
          · replace h := h.1 c64
            obtain ⟨h65, h⟩ := h
            refine x_iinc (ls' := [(5, vI (x5 + 1)), (6, vI (((n41 : Int) + x5) - 1)), (0, vR 0), (1, vA x1), (2, vA x2), (3, vA x3), (4, vA a39)]) d_Cl_walk_228 rfl h65 (by decide) rfl (?_ : WD _ _ 231 _ _ _ _ _ _)
            refine x_goto 9 d_Cl_walk_231 rfl ?_
            refine x_pick (ls' := [(0, vR 0), (1, vA x1), (2, vA x2), (3, vA x3), (4, vP (some a39)), (5, vI (x5 + 1))]) [2, 3, 4, 5, 6, 0] rfl ?_
            exact h
          · replace h := h.2 c64
            refine x_iconst d_Cl_walk_72 (by decide) (?_ : WD _ _ 73 _ _ _ _ _ _)
            exact x_zreturn rfl d_Cl_walk_73 (by decide) h
set_option maxRecDepth 20000 in
theorem l_Cl_walk_2 {G : Gq} {K : Int → Wd → Prop} {w : Wd} {rc rs : Nat} (x1 : Nat) (x2 : Nat) (x3 : Nat) (x4 : Nat) (x5 : Int) (x6 : Int) (x7 : Int) (x8 : Option Nat) (h : ∃ a66 : Nat, x8 = some a66 ∧ ((Is G w a66 (kO 15)) ∧ DI G M_Ai_hasNext [vA a66] w 0 0 (fun v70 w69 => (v70 = 0 → (Is G w69 x1 (kO 11)) ∧ (¬ (wI w69 x1 3) = 0 → CI M_Cs_coin [vR 0, vI x6, vI 0] (wS w69) (fun v74 σ75 => (inR (x6 - 1)) ∧ ∃ n77 : Nat, ((Is G (uS w69 σ75) x4 (kA 0 n77)) ∧ (0 ≤ (x6 - 1)) ∧ ((x6 - 1) < (n77 : Int)) ∧ (¬ v74 = (wI w69 x4 (x6 - 1)) → K 0 (uS w69 σ75)) ∧ (v74 = (wI w69 x4 (x6 - 1)) → CI M_Cs_coin [vR 0, vI x6, vI 1] (wS (uS w69 σ75)) (fun v82 σ83 => (0 < (wI w69 x1 3)) ∧ (¬ v82 = ((x6 - 1) / (wI w69 x1 3)) → K 0 (uS (uS w69 σ75) σ83)) ∧ (v82 = ((x6 - 1) / (wI w69 x1 3)) → CI M_Cs_coin [vR 0, vI x6, vI 2] (wS (uS (uS w69 σ75) σ83)) (fun v86 σ87 => (¬ v86 = x7 → K 0 (uS (uS (uS w69 σ75) σ83) σ87)) ∧ (v86 = x7 → CI M_Cs_coin [vR 0, vI x6, vI 3] (wS (uS (uS (uS w69 σ75) σ83) σ87)) (fun v89 σ90 => (v89 = (-2) → (inR (x5 + 1)) ∧ WD G M_Cl_walk 9 [(0, vR 0), (1, vA x1), (2, vA x2), (3, vA x3), (4, vP (some x4)), (5, vI (x5 + 1))] [] (uS (uS (uS (uS w69 σ75) σ83) σ87) σ90) rc rs (yI K)) ∧ (¬ v89 = (-2) → K 0 (uS (uS (uS (uS w69 σ75) σ83) σ87) σ90))))))))))) ∧ ((wI w69 x1 3) = 0 → CI M_Cs_coin [vR 0, vI x6, vI 0] (wS w69) (fun v93 σ94 => (v93 = (-5) → (inR (x5 + 1)) ∧ WD G M_Cl_walk 9 [(0, vR 0), (1, vA x1), (2, vA x2), (3, vA x3), (4, vP (some x4)), (5, vI (x5 + 1))] [] (uS w69 σ94) rc rs (yI K)) ∧ (¬ v93 = (-5) → K 0 (uS w69 σ94))))) ∧ (¬ v70 = 0 → DP G M_Ai_next [vA a66] w69 0 0 (fun v98 w97 => ∃ a99 : Nat, v98 = some a99 ∧ ((Is G w97 a99 (kO 16)) ∧ DI G M_In_intValue [vA a99] w97 0 0 (fun v103 w102 => (x6 < v103 → (inR (x7 + 0)) ∧ WD G M_Cl_walk 86 [(0, vR 0), (1, vA x1), (2, vA x2), (3, vA x3), (4, vA x4), (5, vI x5), (6, vI x6), (7, vI (x7 + 0)), (8, vP (some a66))] [] w102 rc rs (yI K)) ∧ (¬ x6 < v103 → (inR (x6 - v103)) ∧ (Is G w102 x1 (kO 11)) ∧ (0 ≤ (x6 - v103)) ∧ (0 < (wI w102 x1 3)) ∧ (¬ ((x6 - v103) % (wI w102 x1 3)) = 0 → (inR (x7 + 0)) ∧ WD G M_Cl_walk 86 [(0, vR 0), (1, vA x1), (2, vA x2), (3, vA x3), (4, vA x4), (5, vI x5), (6, vI x6), (7, vI (x7 + 0)), (8, vP (some a66))] [] w102 rc rs (yI K)) ∧ (((x6 - v103) % (wI w102 x1 3)) = 0 → (inR (x7 + 1)) ∧ WD G M_Cl_walk 86 [(0, vR 0), (1, vA x1), (2, vA x2), (3, vA x3), (4, vA x4), (5, vI x5), (6, vI x6), (7, vI (x7 + 1)), (8, vP (some a66))] [] w102 rc rs (yI K)))))))))) : WD G M_Cl_walk 86 [(0, vR 0), (1, vA x1), (2, vA x2), (3, vA x3), (4, vA x4), (5, vI x5), (6, vI x6), (7, vI x7), (8, vP x8)] [] w rc rs (yI K) := by
  refine x_aloadP x8 d_Cl_walk_86 rfl (?_ : WD _ _ 88 _ _ _ _ _ _)
  obtain ⟨a66, e67, h⟩ := h
  rw [e67]
  obtain ⟨k68, h⟩ := h
  refine x_callF (ν := M_Ai_hasNext) ⟨"java/util/Iterator", "hasNext", "()Z"⟩ [] ok_M_Ai_hasNext oki_M_Ai_hasNext k68 rfl (qm_2 (i := 226) rfl rfl) (by decide) (qm_5 (i := 182) rfl rfl) (show _ = some 0 from by decide +kernel) rfl ⟨Nat.le_of_ble_eq_true rfl, Nat.le_of_ble_eq_true rfl⟩ (Nat.le_of_ble_eq_true rfl) rfl d_Cl_walk_88 (Nat.zero_le _) (Nat.zero_le _) (DI.k h (fun v70 w69 gw69 h => (?_ : WD _ _ 93 _ _ _ _ _ _)))
  refine x_if_eq 144 d_Cl_walk_93 rfl ⟨fun c71 => (?_ : WD _ _ 144 _ _ _ _ _ _), fun c71 => (?_ : WD _ _ 96 _ _ _ _ _ _)⟩
  · replace h := h.1 c71
    refine x_aload_nP (some x1) d_Cl_walk_144 rfl (?_ : WD _ _ 145 _ _ _ _ _ _)
    obtain ⟨k72, h⟩ := h
    refine x_getI (ref := "CoinSamplerLaw$Books") (j := 3) 3 k72 clk_11 (by decide) (qm_2 (i := 162) rfl rfl) (Or.inl rfl) rfl rfl d_Cl_walk_145 (y := (wI w69 x1 3)) rfl (?_ : WD _ _ 148 _ _ _ _ _ _)
    refine x_if_ne 166 d_Cl_walk_148 rfl ⟨fun c73 => (?_ : WD _ _ 166 _ _ _ _ _ _), fun c73 => (?_ : WD _ _ 151 _ _ _ _ _ _)⟩
    · replace h := h.1 c73
      refine x_aload_n d_Cl_walk_166 rfl (?_ : WD _ _ 167 _ _ _ _ _ _)
      refine x_iload d_Cl_walk_167 rfl (?_ : WD _ _ 169 _ _ _ _ _ _)
      refine x_iconst d_Cl_walk_169 (by decide) (?_ : WD _ _ 170 _ _ _ _ _ _)
      refine x_callC (ν := M_Cs_coin) (k := 0) [vI x6, vI 0] ok_M_Cs_coin okv_M_Cs_coin (by decide) rfl rfl rfl (qm_9 (i := 170) rfl rfl) np_M_Cs_coin rfl ⟨Nat.le_of_ble_eq_true rfl, Nat.le_of_ble_eq_true rfl⟩ (Nat.le_of_ble_eq_true rfl) rfl d_Cl_walk_170 (CI.kd h (fun v74 σ75 h => (?_ : WD _ _ 173 _ _ _ _ _ _)))
      refine x_aloadP (some x4) d_Cl_walk_173 rfl (?_ : WD _ _ 175 _ _ _ _ _ _)
      refine x_iload d_Cl_walk_175 rfl (?_ : WD _ _ 177 _ _ _ _ _ _)
      refine x_iconst d_Cl_walk_177 (by decide) (?_ : WD _ _ 178 _ _ _ _ _ _)
      obtain ⟨h76, h⟩ := h
      refine x_isub d_Cl_walk_178 h76 (?_ : WD _ _ 179 _ _ _ _ _ _)
      obtain ⟨n77, h⟩ := h
      obtain ⟨k78, h⟩ := h
      obtain ⟨h79, h⟩ := h
      obtain ⟨h80, h⟩ := h
      refine x_iald k78 d_Cl_walk_179 h79 h80 (y := (wI w69 x4 (x6 - 1))) rfl (?_ : WD _ _ 180 _ _ _ _ _ _)
      refine x_icmp_ne 226 d_Cl_walk_180 rfl ⟨fun c81 => (?_ : WD _ _ 226 _ _ _ _ _ _), fun c81 => (?_ : WD _ _ 183 _ _ _ _ _ _)⟩
      · replace h := h.1 c81
        refine x_iconst d_Cl_walk_226 (by decide) (?_ : WD _ _ 227 _ _ _ _ _ _)
        exact x_zreturn rfl d_Cl_walk_227 (by decide) h
      · replace h := h.2 c81
        refine x_aload_n d_Cl_walk_183 rfl (?_ : WD _ _ 184 _ _ _ _ _ _)
        refine x_iload d_Cl_walk_184 rfl (?_ : WD _ _ 186 _ _ _ _ _ _)
        refine x_iconst d_Cl_walk_186 (by decide) (?_ : WD _ _ 187 _ _ _ _ _ _)
        refine x_callC (ν := M_Cs_coin) (k := 0) [vI x6, vI 1] ok_M_Cs_coin okv_M_Cs_coin (by decide) rfl rfl rfl (qm_9 (i := 170) rfl rfl) np_M_Cs_coin rfl ⟨Nat.le_of_ble_eq_true rfl, Nat.le_of_ble_eq_true rfl⟩ (Nat.le_of_ble_eq_true rfl) rfl d_Cl_walk_187 (CI.kd h (fun v82 σ83 h => (?_ : WD _ _ 190 _ _ _ _ _ _)))
        refine x_iload d_Cl_walk_190 rfl (?_ : WD _ _ 192 _ _ _ _ _ _)
        refine x_iconst d_Cl_walk_192 (by decide) (?_ : WD _ _ 193 _ _ _ _ _ _)
        refine x_isub d_Cl_walk_193 h76 (?_ : WD _ _ 194 _ _ _ _ _ _)
        refine x_aload_nP (some x1) d_Cl_walk_194 rfl (?_ : WD _ _ 195 _ _ _ _ _ _)
        refine x_getI (ref := "CoinSamplerLaw$Books") (j := 3) 3 k72 clk_11 (by decide) (qm_2 (i := 162) rfl rfl) (Or.inl rfl) rfl rfl d_Cl_walk_195 (y := (wI w69 x1 3)) rfl (?_ : WD _ _ 198 _ _ _ _ _ _)
        obtain ⟨h84, h⟩ := h
        refine x_idivn d_Cl_walk_198 h79 h84 (?_ : WD _ _ 199 _ _ _ _ _ _)
        refine x_icmp_ne 226 d_Cl_walk_199 rfl ⟨fun c85 => (?_ : WD _ _ 226 _ _ _ _ _ _), fun c85 => (?_ : WD _ _ 202 _ _ _ _ _ _)⟩
        · replace h := h.1 c85
          refine x_iconst d_Cl_walk_226 (by decide) (?_ : WD _ _ 227 _ _ _ _ _ _)
          exact x_zreturn rfl d_Cl_walk_227 (by decide) h
        · replace h := h.2 c85
          refine x_aload_n d_Cl_walk_202 rfl (?_ : WD _ _ 203 _ _ _ _ _ _)
          refine x_iload d_Cl_walk_203 rfl (?_ : WD _ _ 205 _ _ _ _ _ _)
          refine x_iconst d_Cl_walk_205 (by decide) (?_ : WD _ _ 206 _ _ _ _ _ _)
          refine x_callC (ν := M_Cs_coin) (k := 0) [vI x6, vI 2] ok_M_Cs_coin okv_M_Cs_coin (by decide) rfl rfl rfl (qm_9 (i := 170) rfl rfl) np_M_Cs_coin rfl ⟨Nat.le_of_ble_eq_true rfl, Nat.le_of_ble_eq_true rfl⟩ (Nat.le_of_ble_eq_true rfl) rfl d_Cl_walk_206 (CI.kd h (fun v86 σ87 h => (?_ : WD _ _ 209 _ _ _ _ _ _)))
          refine x_iload d_Cl_walk_209 rfl (?_ : WD _ _ 211 _ _ _ _ _ _)
          refine x_icmp_ne 226 d_Cl_walk_211 rfl ⟨fun c88 => (?_ : WD _ _ 226 _ _ _ _ _ _), fun c88 => (?_ : WD _ _ 214 _ _ _ _ _ _)⟩
          · replace h := h.1 c88
            refine x_iconst d_Cl_walk_226 (by decide) (?_ : WD _ _ 227 _ _ _ _ _ _)
            exact x_zreturn rfl d_Cl_walk_227 (by decide) h
          · replace h := h.2 c88
            refine x_aload_n d_Cl_walk_214 rfl (?_ : WD _ _ 215 _ _ _ _ _ _)
            refine x_iload d_Cl_walk_215 rfl (?_ : WD _ _ 217 _ _ _ _ _ _)
            refine x_iconst d_Cl_walk_217 (by decide) (?_ : WD _ _ 218 _ _ _ _ _ _)
            refine x_callC (ν := M_Cs_coin) (k := 0) [vI x6, vI 3] ok_M_Cs_coin okv_M_Cs_coin (by decide) rfl rfl rfl (qm_9 (i := 170) rfl rfl) np_M_Cs_coin rfl ⟨Nat.le_of_ble_eq_true rfl, Nat.le_of_ble_eq_true rfl⟩ (Nat.le_of_ble_eq_true rfl) rfl d_Cl_walk_218 (CI.kd h (fun v89 σ90 h => (?_ : WD _ _ 221 _ _ _ _ _ _)))
            refine x_bipush d_Cl_walk_221 (by decide) (by decide) (?_ : WD _ _ 223 _ _ _ _ _ _)
            refine x_icmp_eq 228 d_Cl_walk_223 rfl ⟨fun c91 => (?_ : WD _ _ 228 _ _ _ _ _ _), fun c91 => (?_ : WD _ _ 226 _ _ _ _ _ _)⟩
            · replace h := h.1 c91
              obtain ⟨h92, h⟩ := h
              refine x_iinc (ls' := [(5, vI (x5 + 1)), (0, vR 0), (1, vA x1), (2, vA x2), (3, vA x3), (4, vA x4), (6, vI x6), (7, vI x7), (8, vA a66)]) d_Cl_walk_228 rfl h92 (by decide) rfl (?_ : WD _ _ 231 _ _ _ _ _ _)
              refine x_goto 9 d_Cl_walk_231 rfl ?_
              refine x_pick (ls' := [(0, vR 0), (1, vA x1), (2, vA x2), (3, vA x3), (4, vP (some x4)), (5, vI (x5 + 1))]) [1, 2, 3, 4, 5, 0] rfl ?_
              exact h
            · replace h := h.2 c91
              refine x_iconst d_Cl_walk_226 (by decide) (?_ : WD _ _ 227 _ _ _ _ _ _)
              exact x_zreturn rfl d_Cl_walk_227 (by decide) h
    · replace h := h.2 c73
      refine x_aload_n d_Cl_walk_151 rfl (?_ : WD _ _ 152 _ _ _ _ _ _)
      refine x_iload d_Cl_walk_152 rfl (?_ : WD _ _ 154 _ _ _ _ _ _)
      refine x_iconst d_Cl_walk_154 (by decide) (?_ : WD _ _ 155 _ _ _ _ _ _)
      refine x_callC (ν := M_Cs_coin) (k := 0) [vI x6, vI 0] ok_M_Cs_coin okv_M_Cs_coin (by decide) rfl rfl rfl (qm_9 (i := 170) rfl rfl) np_M_Cs_coin rfl ⟨Nat.le_of_ble_eq_true rfl, Nat.le_of_ble_eq_true rfl⟩ (Nat.le_of_ble_eq_true rfl) rfl d_Cl_walk_155 (CI.kd h (fun v93 σ94 h => (?_ : WD _ _ 158 _ _ _ _ _ _)))
      refine x_bipush d_Cl_walk_158 (by decide) (by decide) (?_ : WD _ _ 160 _ _ _ _ _ _)
      refine x_icmp_eq 228 d_Cl_walk_160 rfl ⟨fun c95 => (?_ : WD _ _ 228 _ _ _ _ _ _), fun c95 => (?_ : WD _ _ 163 _ _ _ _ _ _)⟩
      · replace h := h.1 c95
        obtain ⟨h96, h⟩ := h
        refine x_iinc (ls' := [(5, vI (x5 + 1)), (0, vR 0), (1, vA x1), (2, vA x2), (3, vA x3), (4, vA x4), (6, vI x6), (7, vI x7), (8, vA a66)]) d_Cl_walk_228 rfl h96 (by decide) rfl (?_ : WD _ _ 231 _ _ _ _ _ _)
        refine x_goto 9 d_Cl_walk_231 rfl ?_
        refine x_pick (ls' := [(0, vR 0), (1, vA x1), (2, vA x2), (3, vA x3), (4, vP (some x4)), (5, vI (x5 + 1))]) [1, 2, 3, 4, 5, 0] rfl ?_
        exact h
      · replace h := h.2 c95
        refine x_goto 226 d_Cl_walk_163 rfl ?_
        refine x_iconst d_Cl_walk_226 (by decide) (?_ : WD _ _ 227 _ _ _ _ _ _)
        exact x_zreturn rfl d_Cl_walk_227 (by decide) h
  · replace h := h.2 c71
    refine x_aloadP (some a66) d_Cl_walk_96 rfl (?_ : WD _ _ 98 _ _ _ _ _ _)
    refine x_callF (ν := M_Ai_next) ⟨"java/util/Iterator", "next", "()Ljava/lang/Object;"⟩ [] ok_M_Ai_next oki_M_Ai_next (k68.q gw69.k) rfl (qm_3 (i := 7) rfl rfl) (by decide) (qm_5 (i := 184) rfl rfl) (show _ = some 0 from by decide +kernel) rfl ⟨Nat.le_of_ble_eq_true rfl, Nat.le_of_ble_eq_true rfl⟩ (Nat.le_of_ble_eq_true rfl) rfl d_Cl_walk_98 (Nat.zero_le _) (Nat.zero_le _) (DP.k h (fun v98 w97 gw97 h => (?_ : WD _ _ 103 _ _ _ _ _ _)))
    obtain ⟨a99, e100, h⟩ := h
    rw [e100]
    obtain ⟨k101, h⟩ := h
    refine x_cast k101 rfl (Or.inl rfl) (qm_9 (i := 156) rfl rfl) d_Cl_walk_103 (?_ : WD _ _ 106 _ _ _ _ _ _)
    refine x_callV (ν := M_In_intValue) [] ok_M_In_intValue okv_M_In_intValue k101 rfl rfl (qm_9 (i := 157) rfl rfl) np_M_In_intValue rfl ⟨Nat.le_of_ble_eq_true rfl, Nat.le_of_ble_eq_true rfl⟩ (Nat.le_of_ble_eq_true rfl) rfl d_Cl_walk_106 (Nat.zero_le _) (Nat.zero_le _) (DI.k h (fun v103 w102 gw102 h => (?_ : WD _ _ 109 _ _ _ _ _ _)))
    refine x_istore (ls' := [(9, vI v103), (0, vR 0), (1, vA x1), (2, vA x2), (3, vA x3), (4, vA x4), (5, vI x5), (6, vI x6), (7, vI x7), (8, vA a66)]) d_Cl_walk_109 (by decide) rfl (?_ : WD _ _ 111 _ _ _ _ _ _)
    refine x_iload d_Cl_walk_111 rfl (?_ : WD _ _ 113 _ _ _ _ _ _)
    refine x_iload d_Cl_walk_113 rfl (?_ : WD _ _ 115 _ _ _ _ _ _)
    refine x_iload d_Cl_walk_115 rfl (?_ : WD _ _ 117 _ _ _ _ _ _)
    refine x_icmp_lt 137 d_Cl_walk_117 rfl ⟨fun c104 => (?_ : WD _ _ 137 _ _ _ _ _ _), fun c104 => (?_ : WD _ _ 120 _ _ _ _ _ _)⟩
    · replace h := h.1 c104
      refine x_iconst d_Cl_walk_137 (by decide) (?_ : WD _ _ 138 _ _ _ _ _ _)
      obtain ⟨h105, h⟩ := h
      refine x_iadd d_Cl_walk_138 h105 (?_ : WD _ _ 139 _ _ _ _ _ _)
      refine x_istore (ls' := [(7, vI (x7 + 0)), (9, vI v103), (0, vR 0), (1, vA x1), (2, vA x2), (3, vA x3), (4, vA x4), (5, vI x5), (6, vI x6), (8, vA a66)]) d_Cl_walk_139 (by decide) rfl (?_ : WD _ _ 141 _ _ _ _ _ _)
      refine x_goto 86 d_Cl_walk_141 rfl ?_
      refine x_pick (ls' := [(0, vR 0), (1, vA x1), (2, vA x2), (3, vA x3), (4, vA x4), (5, vI x5), (6, vI x6), (7, vI (x7 + 0)), (8, vP (some a66))]) [2, 3, 4, 5, 6, 7, 8, 0, 9] rfl ?_
      exact h
    · replace h := h.2 c104
      refine x_iload d_Cl_walk_120 rfl (?_ : WD _ _ 122 _ _ _ _ _ _)
      refine x_iload d_Cl_walk_122 rfl (?_ : WD _ _ 124 _ _ _ _ _ _)
      obtain ⟨h106, h⟩ := h
      refine x_isub d_Cl_walk_124 h106 (?_ : WD _ _ 125 _ _ _ _ _ _)
      refine x_aload_nP (some x1) d_Cl_walk_125 rfl (?_ : WD _ _ 126 _ _ _ _ _ _)
      obtain ⟨k107, h⟩ := h
      refine x_getI (ref := "CoinSamplerLaw$Books") (j := 3) 3 k107 clk_11 (by decide) (qm_2 (i := 162) rfl rfl) (Or.inl rfl) rfl rfl d_Cl_walk_126 (y := (wI w102 x1 3)) rfl (?_ : WD _ _ 129 _ _ _ _ _ _)
      obtain ⟨h108, h⟩ := h
      obtain ⟨h109, h⟩ := h
      refine x_iremn d_Cl_walk_129 h108 h109 (?_ : WD _ _ 130 _ _ _ _ _ _)
      refine x_if_ne 137 d_Cl_walk_130 rfl ⟨fun c110 => (?_ : WD _ _ 137 _ _ _ _ _ _), fun c110 => (?_ : WD _ _ 133 _ _ _ _ _ _)⟩
      · replace h := h.1 c110
        refine x_iconst d_Cl_walk_137 (by decide) (?_ : WD _ _ 138 _ _ _ _ _ _)
        obtain ⟨h111, h⟩ := h
        refine x_iadd d_Cl_walk_138 h111 (?_ : WD _ _ 139 _ _ _ _ _ _)
        refine x_istore (ls' := [(7, vI (x7 + 0)), (9, vI v103), (0, vR 0), (1, vA x1), (2, vA x2), (3, vA x3), (4, vA x4), (5, vI x5), (6, vI x6), (8, vA a66)]) d_Cl_walk_139 (by decide) rfl (?_ : WD _ _ 141 _ _ _ _ _ _)
        refine x_goto 86 d_Cl_walk_141 rfl ?_
        refine x_pick (ls' := [(0, vR 0), (1, vA x1), (2, vA x2), (3, vA x3), (4, vA x4), (5, vI x5), (6, vI x6), (7, vI (x7 + 0)), (8, vP (some a66))]) [2, 3, 4, 5, 6, 7, 8, 0, 9] rfl ?_
        exact h
      · replace h := h.2 c110
        refine x_iconst d_Cl_walk_133 (by decide) (?_ : WD _ _ 134 _ _ _ _ _ _)
        refine x_goto 138 d_Cl_walk_134 rfl ?_
        obtain ⟨h112, h⟩ := h
        refine x_iadd d_Cl_walk_138 h112 (?_ : WD _ _ 139 _ _ _ _ _ _)
        refine x_istore (ls' := [(7, vI (x7 + 1)), (9, vI v103), (0, vR 0), (1, vA x1), (2, vA x2), (3, vA x3), (4, vA x4), (5, vI x5), (6, vI x6), (8, vA a66)]) d_Cl_walk_139 (by decide) rfl (?_ : WD _ _ 141 _ _ _ _ _ _)
        refine x_goto 86 d_Cl_walk_141 rfl ?_
        refine x_pick (ls' := [(0, vR 0), (1, vA x1), (2, vA x2), (3, vA x3), (4, vA x4), (5, vI x5), (6, vI x6), (7, vI (x7 + 1)), (8, vP (some a66))]) [2, 3, 4, 5, 6, 7, 8, 0, 9] rfl ?_
        exact h
set_option maxRecDepth 20000 in
theorem l_Cl_walk_3 {G : Gq} {K : Int → Wd → Prop} {w : Wd} {rc rs : Nat} (x1 : Nat) (x2 : Nat) (x5 : Int) (h : (Is G w x2 (kO 14)) ∧ DI G M_Al_size [vA x2] w 0 0 (fun v115 w114 => (v115 ≤ x5 → WD G M_Cl_walk 345 [(0, vR 0), (1, vA x1), (2, vA x2), (5, vI 0)] [] w114 rc rs (yI K)) ∧ (¬ v115 ≤ x5 → DP G M_Al_get [vA x2, vI x5] w114 0 0 (fun v118 w117 => ∃ a119 : Nat, v118 = some a119 ∧ ((Is G w117 a119 (kO 12)) ∧ CI M_Cs_hit [vR 0, vI x5, vI 0] (wS w117) (fun v122 σ123 => (¬ v122 = (wI w117 a119 0) → K 0 (uS w117 σ123)) ∧ (v122 = (wI w117 a119 0) → CI M_Cs_hit [vR 0, vI x5, vI 1] (wS (uS w117 σ123)) (fun v125 σ126 => (¬ v125 = (wI w117 a119 1) → K 0 (uS (uS w117 σ123) σ126)) ∧ (v125 = (wI w117 a119 1) → CI M_Cs_hit [vR 0, vI x5, vI 2] (wS (uS (uS w117 σ123) σ126)) (fun v128 σ129 => (¬ v128 = (wI w117 a119 2) → K 0 (uS (uS (uS w117 σ123) σ126) σ129)) ∧ (v128 = (wI w117 a119 2) → CI M_Cs_hit [vR 0, vI x5, vI 3] (wS (uS (uS (uS w117 σ123) σ126) σ129)) (fun v131 σ132 => (Is G (uS (uS (uS (uS w117 σ123) σ126) σ129) σ132) x1 (kO 11)) ∧ ∃ a134 : Nat, (wR w117 x1 0) = some a134 ∧ ((Is G (uS (uS (uS (uS w117 σ123) σ126) σ129) σ132) a134 (kO 14)) ∧ DP G M_Al_get [vA a134, vI (wI w117 a119 0)] (uS (uS (uS (uS w117 σ123) σ126) σ129) σ132) 0 0 (fun v138 w137 => ∃ a139 : Nat, v138 = some a139 ∧ ((Is G w137 a139 (kO 13)) ∧ DI G M_It_taint [vA a139] w137 0 0 (fun v143 w142 => (inR (v143 + 10000)) ∧ (v131 = (v143 + 10000) → (inR (x5 + 1)) ∧ WD G M_Cl_walk 237 [(0, vR 0), (1, vA x1), (2, vA x2), (5, vI (x5 + 1))] [] w142 rc rs (yI K)) ∧ (¬ v131 = (v143 + 10000) → K 0 w142))))))))))))))))) : WD G M_Cl_walk 237 [(0, vR 0), (1, vA x1), (2, vA x2), (5, vI x5)] [] w rc rs (yI K) := by
  refine x_iload d_Cl_walk_237 rfl (?_ : WD _ _ 239 _ _ _ _ _ _)
  refine x_aload_nP (some x2) d_Cl_walk_239 rfl (?_ : WD _ _ 240 _ _ _ _ _ _)
  obtain ⟨k113, h⟩ := h
  refine x_callV (ν := M_Al_size) [] ok_M_Al_size okv_M_Al_size k113 rfl rfl (qm_3 (i := 178) rfl rfl) np_M_Al_size rfl ⟨Nat.le_of_ble_eq_true rfl, Nat.le_of_ble_eq_true rfl⟩ (Nat.le_of_ble_eq_true rfl) rfl d_Cl_walk_240 (Nat.zero_le _) (Nat.zero_le _) (DI.k h (fun v115 w114 gw114 h => (?_ : WD _ _ 243 _ _ _ _ _ _)))
  refine x_icmp_ge 342 d_Cl_walk_243 rfl ⟨fun c116 => (?_ : WD _ _ 342 _ _ _ _ _ _), fun c116 => (?_ : WD _ _ 246 _ _ _ _ _ _)⟩
  · replace h := h.1 c116
    refine x_iconst d_Cl_walk_342 (by decide) (?_ : WD _ _ 343 _ _ _ _ _ _)
    refine x_istore (ls' := [(5, vI 0), (0, vR 0), (1, vA x1), (2, vA x2)]) d_Cl_walk_343 (by decide) rfl (?_ : WD _ _ 345 _ _ _ _ _ _)
    refine x_pick (ls' := [(0, vR 0), (1, vA x1), (2, vA x2), (5, vI 0)]) [1, 2, 3, 0] rfl ?_
    exact h
  · replace h := h.2 c116
    refine x_aload_nP (some x2) d_Cl_walk_246 rfl (?_ : WD _ _ 247 _ _ _ _ _ _)
    refine x_iload d_Cl_walk_247 rfl (?_ : WD _ _ 249 _ _ _ _ _ _)
    refine x_callV (ν := M_Al_get) [vI x5] ok_M_Al_get okv_M_Al_get (k113.q gw114.k) rfl rfl (qm_3 (i := 183) rfl rfl) np_M_Al_get rfl ⟨Nat.le_of_ble_eq_true rfl, Nat.le_of_ble_eq_true rfl⟩ (Nat.le_of_ble_eq_true rfl) rfl d_Cl_walk_249 (Nat.zero_le _) (Nat.zero_le _) (DP.k h (fun v118 w117 gw117 h => (?_ : WD _ _ 252 _ _ _ _ _ _)))
    obtain ⟨a119, e120, h⟩ := h
    rw [e120]
    obtain ⟨k121, h⟩ := h
    refine x_cast k121 rfl (Or.inl rfl) (qm_6 (i := 203) rfl rfl) d_Cl_walk_252 (?_ : WD _ _ 255 _ _ _ _ _ _)
    refine x_astoreP (some a119) (ls' := [(6, vA a119), (0, vR 0), (1, vA x1), (2, vA x2), (5, vI x5)]) d_Cl_walk_255 (by decide) rfl (?_ : WD _ _ 257 _ _ _ _ _ _)
    refine x_aload_n d_Cl_walk_257 rfl (?_ : WD _ _ 258 _ _ _ _ _ _)
    refine x_iload d_Cl_walk_258 rfl (?_ : WD _ _ 260 _ _ _ _ _ _)
    refine x_iconst d_Cl_walk_260 (by decide) (?_ : WD _ _ 261 _ _ _ _ _ _)
    refine x_callC (ν := M_Cs_hit) (k := 0) [vI x5, vI 0] ok_M_Cs_hit okv_M_Cs_hit (by decide) rfl rfl rfl (qm_9 (i := 179) rfl rfl) np_M_Cs_hit rfl ⟨Nat.le_of_ble_eq_true rfl, Nat.le_of_ble_eq_true rfl⟩ (Nat.le_of_ble_eq_true rfl) rfl d_Cl_walk_261 (CI.kd h (fun v122 σ123 h => (?_ : WD _ _ 264 _ _ _ _ _ _)))
    refine x_aloadP (some a119) d_Cl_walk_264 rfl (?_ : WD _ _ 266 _ _ _ _ _ _)
    refine x_getI (ref := "CoinSamplerLaw$Hit") (j := 0) 0 k121 clk_12 (by decide) (qm_3 (i := 85) rfl rfl) (Or.inl rfl) rfl rfl d_Cl_walk_266 (y := (wI w117 a119 0)) rfl (?_ : WD _ _ 269 _ _ _ _ _ _)
    refine x_icmp_ne 334 d_Cl_walk_269 rfl ⟨fun c124 => (?_ : WD _ _ 334 _ _ _ _ _ _), fun c124 => (?_ : WD _ _ 272 _ _ _ _ _ _)⟩
    · replace h := h.1 c124
      refine x_iconst d_Cl_walk_334 (by decide) (?_ : WD _ _ 335 _ _ _ _ _ _)
      exact x_zreturn rfl d_Cl_walk_335 (by decide) h
    · replace h := h.2 c124
      refine x_aload_n d_Cl_walk_272 rfl (?_ : WD _ _ 273 _ _ _ _ _ _)
      refine x_iload d_Cl_walk_273 rfl (?_ : WD _ _ 275 _ _ _ _ _ _)
      refine x_iconst d_Cl_walk_275 (by decide) (?_ : WD _ _ 276 _ _ _ _ _ _)
      refine x_callC (ν := M_Cs_hit) (k := 0) [vI x5, vI 1] ok_M_Cs_hit okv_M_Cs_hit (by decide) rfl rfl rfl (qm_9 (i := 179) rfl rfl) np_M_Cs_hit rfl ⟨Nat.le_of_ble_eq_true rfl, Nat.le_of_ble_eq_true rfl⟩ (Nat.le_of_ble_eq_true rfl) rfl d_Cl_walk_276 (CI.kd h (fun v125 σ126 h => (?_ : WD _ _ 279 _ _ _ _ _ _)))
      refine x_aloadP (some a119) d_Cl_walk_279 rfl (?_ : WD _ _ 281 _ _ _ _ _ _)
      refine x_getI (ref := "CoinSamplerLaw$Hit") (j := 1) 1 k121 clk_12 (by decide) (qm_3 (i := 87) rfl rfl) (Or.inl rfl) rfl rfl d_Cl_walk_281 (y := (wI w117 a119 1)) rfl (?_ : WD _ _ 284 _ _ _ _ _ _)
      refine x_icmp_ne 334 d_Cl_walk_284 rfl ⟨fun c127 => (?_ : WD _ _ 334 _ _ _ _ _ _), fun c127 => (?_ : WD _ _ 287 _ _ _ _ _ _)⟩
      · replace h := h.1 c127
        refine x_iconst d_Cl_walk_334 (by decide) (?_ : WD _ _ 335 _ _ _ _ _ _)
        exact x_zreturn rfl d_Cl_walk_335 (by decide) h
      · replace h := h.2 c127
        refine x_aload_n d_Cl_walk_287 rfl (?_ : WD _ _ 288 _ _ _ _ _ _)
        refine x_iload d_Cl_walk_288 rfl (?_ : WD _ _ 290 _ _ _ _ _ _)
        refine x_iconst d_Cl_walk_290 (by decide) (?_ : WD _ _ 291 _ _ _ _ _ _)
        refine x_callC (ν := M_Cs_hit) (k := 0) [vI x5, vI 2] ok_M_Cs_hit okv_M_Cs_hit (by decide) rfl rfl rfl (qm_9 (i := 179) rfl rfl) np_M_Cs_hit rfl ⟨Nat.le_of_ble_eq_true rfl, Nat.le_of_ble_eq_true rfl⟩ (Nat.le_of_ble_eq_true rfl) rfl d_Cl_walk_291 (CI.kd h (fun v128 σ129 h => (?_ : WD _ _ 294 _ _ _ _ _ _)))
        refine x_aloadP (some a119) d_Cl_walk_294 rfl (?_ : WD _ _ 296 _ _ _ _ _ _)
        refine x_getI (ref := "CoinSamplerLaw$Hit") (j := 2) 2 k121 clk_12 (by decide) (qm_3 (i := 89) rfl rfl) (Or.inl rfl) rfl rfl d_Cl_walk_296 (y := (wI w117 a119 2)) rfl (?_ : WD _ _ 299 _ _ _ _ _ _)
        refine x_icmp_ne 334 d_Cl_walk_299 rfl ⟨fun c130 => (?_ : WD _ _ 334 _ _ _ _ _ _), fun c130 => (?_ : WD _ _ 302 _ _ _ _ _ _)⟩
        · replace h := h.1 c130
          refine x_iconst d_Cl_walk_334 (by decide) (?_ : WD _ _ 335 _ _ _ _ _ _)
          exact x_zreturn rfl d_Cl_walk_335 (by decide) h
        · replace h := h.2 c130
          refine x_aload_n d_Cl_walk_302 rfl (?_ : WD _ _ 303 _ _ _ _ _ _)
          refine x_iload d_Cl_walk_303 rfl (?_ : WD _ _ 305 _ _ _ _ _ _)
          refine x_iconst d_Cl_walk_305 (by decide) (?_ : WD _ _ 306 _ _ _ _ _ _)
          refine x_callC (ν := M_Cs_hit) (k := 0) [vI x5, vI 3] ok_M_Cs_hit okv_M_Cs_hit (by decide) rfl rfl rfl (qm_9 (i := 179) rfl rfl) np_M_Cs_hit rfl ⟨Nat.le_of_ble_eq_true rfl, Nat.le_of_ble_eq_true rfl⟩ (Nat.le_of_ble_eq_true rfl) rfl d_Cl_walk_306 (CI.kd h (fun v131 σ132 h => (?_ : WD _ _ 309 _ _ _ _ _ _)))
          refine x_aload_nP (some x1) d_Cl_walk_309 rfl (?_ : WD _ _ 310 _ _ _ _ _ _)
          obtain ⟨k133, h⟩ := h
          refine x_getP (ref := "CoinSamplerLaw$Books") (j := 0) 0 k133 clk_11 (by decide) (qm_2 (i := 156) rfl rfl) (Or.inl rfl) rfl rfl d_Cl_walk_310 (y := (wR w117 x1 0)) rfl (?_ : WD _ _ 313 _ _ _ _ _ _)
          refine x_aloadP (some a119) d_Cl_walk_313 rfl (?_ : WD _ _ 315 _ _ _ _ _ _)
          refine x_getI (ref := "CoinSamplerLaw$Hit") (j := 0) 0 k121 clk_12 (by decide) (qm_3 (i := 85) rfl rfl) (Or.inl rfl) rfl rfl d_Cl_walk_315 (y := (wI w117 a119 0)) rfl (?_ : WD _ _ 318 _ _ _ _ _ _)
          obtain ⟨a134, e135, h⟩ := h
          rw [e135]
          obtain ⟨k136, h⟩ := h
          refine x_callV (ν := M_Al_get) [vI (wI w117 a119 0)] ok_M_Al_get okv_M_Al_get k136 rfl rfl (qm_3 (i := 183) rfl rfl) np_M_Al_get rfl ⟨Nat.le_of_ble_eq_true rfl, Nat.le_of_ble_eq_true rfl⟩ (Nat.le_of_ble_eq_true rfl) rfl d_Cl_walk_318 (Nat.zero_le _) (Nat.zero_le _) (DP.k h (fun v138 w137 gw137 h => (?_ : WD _ _ 321 _ _ _ _ _ _)))
          obtain ⟨a139, e140, h⟩ := h
          rw [e140]
          obtain ⟨k141, h⟩ := h
          refine x_cast k141 rfl (Or.inl rfl) (qm_3 (i := 184) rfl rfl) d_Cl_walk_321 (?_ : WD _ _ 324 _ _ _ _ _ _)
          refine x_callV (ν := M_It_taint) [] ok_M_It_taint okv_M_It_taint k141 rfl rfl (qm_6 (i := 208) rfl rfl) np_M_It_taint rfl ⟨Nat.le_of_ble_eq_true rfl, Nat.le_of_ble_eq_true rfl⟩ (Nat.le_of_ble_eq_true rfl) rfl d_Cl_walk_324 (Nat.zero_le _) (Nat.zero_le _) (DI.k h (fun v143 w142 gw142 h => (?_ : WD _ _ 327 _ _ _ _ _ _)))
          refine x_sipush d_Cl_walk_327 (by decide) (by decide) (?_ : WD _ _ 330 _ _ _ _ _ _)
          obtain ⟨h144, h⟩ := h
          refine x_iadd d_Cl_walk_330 h144 (?_ : WD _ _ 331 _ _ _ _ _ _)
          refine x_icmp_eq 336 d_Cl_walk_331 rfl ⟨fun c145 => (?_ : WD _ _ 336 _ _ _ _ _ _), fun c145 => (?_ : WD _ _ 334 _ _ _ _ _ _)⟩
          · replace h := h.1 c145
            obtain ⟨h146, h⟩ := h
            refine x_iinc (ls' := [(5, vI (x5 + 1)), (6, vA a119), (0, vR 0), (1, vA x1), (2, vA x2)]) d_Cl_walk_336 rfl h146 (by decide) rfl (?_ : WD _ _ 339 _ _ _ _ _ _)
            refine x_goto 237 d_Cl_walk_339 rfl ?_
            refine x_pick (ls' := [(0, vR 0), (1, vA x1), (2, vA x2), (5, vI (x5 + 1))]) [2, 3, 4, 0] rfl ?_
            exact h
          · replace h := h.2 c145
            refine x_iconst d_Cl_walk_334 (by decide) (?_ : WD _ _ 335 _ _ _ _ _ _)
            exact x_zreturn rfl d_Cl_walk_335 (by decide) h
set_option maxRecDepth 20000 in
theorem l_Cl_walk_4 {G : Gq} {K : Int → Wd → Prop} {w : Wd} {rc rs : Nat} (x1 : Nat) (x2 : Nat) (x5 : Int) (h : (6 ≤ x5 → (Is G w x2 (kO 14)) ∧ DI G M_Al_size [vA x2] w 0 0 (fun v150 w149 => CI M_Cs_hit [vR 0, vI v150, vI 0] (wS w149) (fun v151 σ152 => (¬ v151 = (-2) → K 0 (uS w149 σ152)) ∧ (v151 = (-2) → CI M_Cs_hit [vR 0, vI (-1), vI 0] (wS (uS w149 σ152)) (fun v154 σ155 => (¬ v154 = (-2) → K 0 (uS (uS w149 σ152) σ155)) ∧ (v154 = (-2) → DI G M_Al_isEmpty [vA x2] (uS (uS w149 σ152) σ155) 0 0 (fun v158 w157 => (¬ v158 = 0 → CI M_Cs_start [vR 0, vI (-1)] (wS w157) (fun v160 σ161 => (¬ v160 = (-2) → K 0 (uS w157 σ161)) ∧ (v160 = (-2) → K 1 (uS w157 σ161)))) ∧ (v158 = 0 → CI M_Cs_hit [vR 0, vI 0, vI 4] (wS w157) (fun v163 σ164 => (¬ v163 = (-2) → K 0 (uS w157 σ164)) ∧ (v163 = (-2) → CI M_Cs_start [vR 0, vI (-1)] (wS (uS w157 σ164)) (fun v166 σ167 => (¬ v166 = (-2) → K 0 (uS (uS w157 σ164) σ167)) ∧ (v166 = (-2) → K 1 (uS (uS w157 σ164) σ167))))))))))))) ∧ (¬ 6 ≤ x5 → CI M_Cs_start [vR 0, vI x5] (wS w) (fun v169 σ170 => (Is G (uS w σ170) x1 (kO 11)) ∧ ∃ a172 : Nat, (wR w x1 1) = some a172 ∧ ((Is G (uS w σ170) a172 (kO 14)) ∧ DI G M_Al_size [vA a172] (uS w σ170) 0 0 (fun v176 w175 => (v176 ≤ x5 → (v169 = (-2) → (inR (x5 + 1)) ∧ WD G M_Cl_walk 345 [(0, vR 0), (1, vA x1), (2, vA x2), (5, vI (x5 + 1))] [] w175 rc rs (yI K)) ∧ (¬ v169 = (-2) → K 0 w175)) ∧ (¬ v176 ≤ x5 → ∃ a180 : Nat, (wR w175 x1 1) = some a180 ∧ ((Is G w175 a180 (kO 14)) ∧ DP G M_Al_get [vA a180, vI x5] w175 0 0 (fun v184 w183 => ∃ a185 : Nat, v184 = some a185 ∧ ((Is G w183 a185 (kO 16)) ∧ DI G M_In_intValue [vA a185] w183 0 0 (fun v189 w188 => (v169 = v189 → (inR (x5 + 1)) ∧ WD G M_Cl_walk 345 [(0, vR 0), (1, vA x1), (2, vA x2), (5, vI (x5 + 1))] [] w188 rc rs (yI K)) ∧ (¬ v169 = v189 → K 0 w188))))))))))) : WD G M_Cl_walk 345 [(0, vR 0), (1, vA x1), (2, vA x2), (5, vI x5)] [] w rc rs (yI K) := by
  refine x_iload d_Cl_walk_345 rfl (?_ : WD _ _ 347 _ _ _ _ _ _)
  refine x_bipush d_Cl_walk_347 (by decide) (by decide) (?_ : WD _ _ 349 _ _ _ _ _ _)
  refine x_icmp_ge 401 d_Cl_walk_349 rfl ⟨fun c147 => (?_ : WD _ _ 401 _ _ _ _ _ _), fun c147 => (?_ : WD _ _ 352 _ _ _ _ _ _)⟩
  · replace h := h.1 c147
    refine x_aload_n d_Cl_walk_401 rfl (?_ : WD _ _ 402 _ _ _ _ _ _)
    refine x_aload_nP (some x2) d_Cl_walk_402 rfl (?_ : WD _ _ 403 _ _ _ _ _ _)
    obtain ⟨k148, h⟩ := h
    refine x_callV (ν := M_Al_size) [] ok_M_Al_size okv_M_Al_size k148 rfl rfl (qm_3 (i := 178) rfl rfl) np_M_Al_size rfl ⟨Nat.le_of_ble_eq_true rfl, Nat.le_of_ble_eq_true rfl⟩ (Nat.le_of_ble_eq_true rfl) rfl d_Cl_walk_403 (Nat.zero_le _) (Nat.zero_le _) (DI.k h (fun v150 w149 gw149 h => (?_ : WD _ _ 406 _ _ _ _ _ _)))
    refine x_iconst d_Cl_walk_406 (by decide) (?_ : WD _ _ 407 _ _ _ _ _ _)
    refine x_callC (ν := M_Cs_hit) (k := 0) [vI v150, vI 0] ok_M_Cs_hit okv_M_Cs_hit (by decide) rfl rfl rfl (qm_9 (i := 179) rfl rfl) np_M_Cs_hit rfl ⟨Nat.le_of_ble_eq_true rfl, Nat.le_of_ble_eq_true rfl⟩ (Nat.le_of_ble_eq_true rfl) rfl d_Cl_walk_407 (CI.kd h (fun v151 σ152 h => (?_ : WD _ _ 410 _ _ _ _ _ _)))
    refine x_bipush d_Cl_walk_410 (by decide) (by decide) (?_ : WD _ _ 412 _ _ _ _ _ _)
    refine x_icmp_ne 458 d_Cl_walk_412 rfl ⟨fun c153 => (?_ : WD _ _ 458 _ _ _ _ _ _), fun c153 => (?_ : WD _ _ 415 _ _ _ _ _ _)⟩
    · replace h := h.1 c153
      refine x_iconst d_Cl_walk_458 (by decide) (?_ : WD _ _ 459 _ _ _ _ _ _)
      exact x_zreturn rfl d_Cl_walk_459 (by decide) h
    · replace h := h.2 c153
      refine x_aload_n d_Cl_walk_415 rfl (?_ : WD _ _ 416 _ _ _ _ _ _)
      refine x_iconst d_Cl_walk_416 (by decide) (?_ : WD _ _ 417 _ _ _ _ _ _)
      refine x_iconst d_Cl_walk_417 (by decide) (?_ : WD _ _ 418 _ _ _ _ _ _)
      refine x_callC (ν := M_Cs_hit) (k := 0) [vI (-1), vI 0] ok_M_Cs_hit okv_M_Cs_hit (by decide) rfl rfl rfl (qm_9 (i := 179) rfl rfl) np_M_Cs_hit rfl ⟨Nat.le_of_ble_eq_true rfl, Nat.le_of_ble_eq_true rfl⟩ (Nat.le_of_ble_eq_true rfl) rfl d_Cl_walk_418 (CI.kd h (fun v154 σ155 h => (?_ : WD _ _ 421 _ _ _ _ _ _)))
      refine x_bipush d_Cl_walk_421 (by decide) (by decide) (?_ : WD _ _ 423 _ _ _ _ _ _)
      refine x_icmp_ne 458 d_Cl_walk_423 rfl ⟨fun c156 => (?_ : WD _ _ 458 _ _ _ _ _ _), fun c156 => (?_ : WD _ _ 426 _ _ _ _ _ _)⟩
      · replace h := h.1 c156
        refine x_iconst d_Cl_walk_458 (by decide) (?_ : WD _ _ 459 _ _ _ _ _ _)
        exact x_zreturn rfl d_Cl_walk_459 (by decide) h
      · replace h := h.2 c156
        refine x_aload_nP (some x2) d_Cl_walk_426 rfl (?_ : WD _ _ 427 _ _ _ _ _ _)
        refine x_callV (ν := M_Al_isEmpty) [] ok_M_Al_isEmpty okv_M_Al_isEmpty (k148.q gw149.k) rfl rfl (qm_3 (i := 230) rfl rfl) np_M_Al_isEmpty rfl ⟨Nat.le_of_ble_eq_true rfl, Nat.le_of_ble_eq_true rfl⟩ (Nat.le_of_ble_eq_true rfl) rfl d_Cl_walk_427 (Nat.zero_le _) (Nat.zero_le _) (DI.k h (fun v158 w157 gw157 h => (?_ : WD _ _ 430 _ _ _ _ _ _)))
        refine x_if_ne 444 d_Cl_walk_430 rfl ⟨fun c159 => (?_ : WD _ _ 444 _ _ _ _ _ _), fun c159 => (?_ : WD _ _ 433 _ _ _ _ _ _)⟩
        · replace h := h.1 c159
          refine x_aload_n d_Cl_walk_444 rfl (?_ : WD _ _ 445 _ _ _ _ _ _)
          refine x_iconst d_Cl_walk_445 (by decide) (?_ : WD _ _ 446 _ _ _ _ _ _)
          refine x_callC (ν := M_Cs_start) (k := 0) [vI (-1)] ok_M_Cs_start okv_M_Cs_start (by decide) rfl rfl rfl (qm_9 (i := 187) rfl rfl) np_M_Cs_start rfl ⟨Nat.le_of_ble_eq_true rfl, Nat.le_of_ble_eq_true rfl⟩ (Nat.le_of_ble_eq_true rfl) rfl d_Cl_walk_446 (CI.kd h (fun v160 σ161 h => (?_ : WD _ _ 449 _ _ _ _ _ _)))
          refine x_bipush d_Cl_walk_449 (by decide) (by decide) (?_ : WD _ _ 451 _ _ _ _ _ _)
          refine x_icmp_ne 458 d_Cl_walk_451 rfl ⟨fun c162 => (?_ : WD _ _ 458 _ _ _ _ _ _), fun c162 => (?_ : WD _ _ 454 _ _ _ _ _ _)⟩
          · replace h := h.1 c162
            refine x_iconst d_Cl_walk_458 (by decide) (?_ : WD _ _ 459 _ _ _ _ _ _)
            exact x_zreturn rfl d_Cl_walk_459 (by decide) h
          · replace h := h.2 c162
            refine x_iconst d_Cl_walk_454 (by decide) (?_ : WD _ _ 455 _ _ _ _ _ _)
            refine x_goto 459 d_Cl_walk_455 rfl ?_
            exact x_zreturn rfl d_Cl_walk_459 (by decide) h
        · replace h := h.2 c159
          refine x_aload_n d_Cl_walk_433 rfl (?_ : WD _ _ 434 _ _ _ _ _ _)
          refine x_iconst d_Cl_walk_434 (by decide) (?_ : WD _ _ 435 _ _ _ _ _ _)
          refine x_iconst d_Cl_walk_435 (by decide) (?_ : WD _ _ 436 _ _ _ _ _ _)
          refine x_callC (ν := M_Cs_hit) (k := 0) [vI 0, vI 4] ok_M_Cs_hit okv_M_Cs_hit (by decide) rfl rfl rfl (qm_9 (i := 179) rfl rfl) np_M_Cs_hit rfl ⟨Nat.le_of_ble_eq_true rfl, Nat.le_of_ble_eq_true rfl⟩ (Nat.le_of_ble_eq_true rfl) rfl d_Cl_walk_436 (CI.kd h (fun v163 σ164 h => (?_ : WD _ _ 439 _ _ _ _ _ _)))
          refine x_bipush d_Cl_walk_439 (by decide) (by decide) (?_ : WD _ _ 441 _ _ _ _ _ _)
          refine x_icmp_ne 458 d_Cl_walk_441 rfl ⟨fun c165 => (?_ : WD _ _ 458 _ _ _ _ _ _), fun c165 => (?_ : WD _ _ 444 _ _ _ _ _ _)⟩
          · replace h := h.1 c165
            refine x_iconst d_Cl_walk_458 (by decide) (?_ : WD _ _ 459 _ _ _ _ _ _)
            exact x_zreturn rfl d_Cl_walk_459 (by decide) h
          · replace h := h.2 c165
            refine x_aload_n d_Cl_walk_444 rfl (?_ : WD _ _ 445 _ _ _ _ _ _)
            refine x_iconst d_Cl_walk_445 (by decide) (?_ : WD _ _ 446 _ _ _ _ _ _)
            refine x_callC (ν := M_Cs_start) (k := 0) [vI (-1)] ok_M_Cs_start okv_M_Cs_start (by decide) rfl rfl rfl (qm_9 (i := 187) rfl rfl) np_M_Cs_start rfl ⟨Nat.le_of_ble_eq_true rfl, Nat.le_of_ble_eq_true rfl⟩ (Nat.le_of_ble_eq_true rfl) rfl d_Cl_walk_446 (CI.kd h (fun v166 σ167 h => (?_ : WD _ _ 449 _ _ _ _ _ _)))
            refine x_bipush d_Cl_walk_449 (by decide) (by decide) (?_ : WD _ _ 451 _ _ _ _ _ _)
            refine x_icmp_ne 458 d_Cl_walk_451 rfl ⟨fun c168 => (?_ : WD _ _ 458 _ _ _ _ _ _), fun c168 => (?_ : WD _ _ 454 _ _ _ _ _ _)⟩
            · replace h := h.1 c168
              refine x_iconst d_Cl_walk_458 (by decide) (?_ : WD _ _ 459 _ _ _ _ _ _)
              exact x_zreturn rfl d_Cl_walk_459 (by decide) h
            · replace h := h.2 c168
              refine x_iconst d_Cl_walk_454 (by decide) (?_ : WD _ _ 455 _ _ _ _ _ _)
              refine x_goto 459 d_Cl_walk_455 rfl ?_
              exact x_zreturn rfl d_Cl_walk_459 (by decide) h
  · replace h := h.2 c147
    refine x_aload_n d_Cl_walk_352 rfl (?_ : WD _ _ 353 _ _ _ _ _ _)
    refine x_iload d_Cl_walk_353 rfl (?_ : WD _ _ 355 _ _ _ _ _ _)
    refine x_callC (ν := M_Cs_start) (k := 0) [vI x5] ok_M_Cs_start okv_M_Cs_start (by decide) rfl rfl rfl (qm_9 (i := 187) rfl rfl) np_M_Cs_start rfl ⟨Nat.le_of_ble_eq_true rfl, Nat.le_of_ble_eq_true rfl⟩ (Nat.le_of_ble_eq_true rfl) rfl d_Cl_walk_355 (CI.kd h (fun v169 σ170 h => (?_ : WD _ _ 358 _ _ _ _ _ _)))
    refine x_iload d_Cl_walk_358 rfl (?_ : WD _ _ 360 _ _ _ _ _ _)
    refine x_aload_nP (some x1) d_Cl_walk_360 rfl (?_ : WD _ _ 361 _ _ _ _ _ _)
    obtain ⟨k171, h⟩ := h
    refine x_getP (ref := "CoinSamplerLaw$Books") (j := 1) 1 k171 clk_11 (by decide) (qm_2 (i := 158) rfl rfl) (Or.inl rfl) rfl rfl d_Cl_walk_361 (y := (wR w x1 1)) rfl (?_ : WD _ _ 364 _ _ _ _ _ _)
    obtain ⟨a172, e173, h⟩ := h
    rw [e173]
    obtain ⟨k174, h⟩ := h
    refine x_callV (ν := M_Al_size) [] ok_M_Al_size okv_M_Al_size k174 rfl rfl (qm_3 (i := 178) rfl rfl) np_M_Al_size rfl ⟨Nat.le_of_ble_eq_true rfl, Nat.le_of_ble_eq_true rfl⟩ (Nat.le_of_ble_eq_true rfl) rfl d_Cl_walk_364 (Nat.zero_le _) (Nat.zero_le _) (DI.k h (fun v176 w175 gw175 h => (?_ : WD _ _ 367 _ _ _ _ _ _)))
    refine x_icmp_ge 388 d_Cl_walk_367 rfl ⟨fun c177 => (?_ : WD _ _ 388 _ _ _ _ _ _), fun c177 => (?_ : WD _ _ 370 _ _ _ _ _ _)⟩
    · replace h := h.1 c177
      refine x_bipush d_Cl_walk_388 (by decide) (by decide) (?_ : WD _ _ 390 _ _ _ _ _ _)
      refine x_icmp_eq 395 d_Cl_walk_390 rfl ⟨fun c178 => (?_ : WD _ _ 395 _ _ _ _ _ _), fun c178 => (?_ : WD _ _ 393 _ _ _ _ _ _)⟩
      · replace h := h.1 c178
        obtain ⟨h179, h⟩ := h
        refine x_iinc (ls' := [(5, vI (x5 + 1)), (0, vR 0), (1, vA x1), (2, vA x2)]) d_Cl_walk_395 rfl h179 (by decide) rfl (?_ : WD _ _ 398 _ _ _ _ _ _)
        refine x_goto 345 d_Cl_walk_398 rfl ?_
        refine x_pick (ls' := [(0, vR 0), (1, vA x1), (2, vA x2), (5, vI (x5 + 1))]) [1, 2, 3, 0] rfl ?_
        exact h
      · replace h := h.2 c178
        refine x_iconst d_Cl_walk_393 (by decide) (?_ : WD _ _ 394 _ _ _ _ _ _)
        exact x_zreturn rfl d_Cl_walk_394 (by decide) h
    · replace h := h.2 c177
      refine x_aload_nP (some x1) d_Cl_walk_370 rfl (?_ : WD _ _ 371 _ _ _ _ _ _)
      refine x_getP (ref := "CoinSamplerLaw$Books") (j := 1) 1 (k171.q gw175.k) clk_11 (by decide) (qm_2 (i := 158) rfl rfl) (Or.inl rfl) rfl rfl d_Cl_walk_371 (y := (wR w175 x1 1)) rfl (?_ : WD _ _ 374 _ _ _ _ _ _)
      refine x_iload d_Cl_walk_374 rfl (?_ : WD _ _ 376 _ _ _ _ _ _)
      obtain ⟨a180, e181, h⟩ := h
      rw [e181]
      obtain ⟨k182, h⟩ := h
      refine x_callV (ν := M_Al_get) [vI x5] ok_M_Al_get okv_M_Al_get k182 rfl rfl (qm_3 (i := 183) rfl rfl) np_M_Al_get rfl ⟨Nat.le_of_ble_eq_true rfl, Nat.le_of_ble_eq_true rfl⟩ (Nat.le_of_ble_eq_true rfl) rfl d_Cl_walk_376 (Nat.zero_le _) (Nat.zero_le _) (DP.k h (fun v184 w183 gw183 h => (?_ : WD _ _ 379 _ _ _ _ _ _)))
      obtain ⟨a185, e186, h⟩ := h
      rw [e186]
      obtain ⟨k187, h⟩ := h
      refine x_cast k187 rfl (Or.inl rfl) (qm_9 (i := 156) rfl rfl) d_Cl_walk_379 (?_ : WD _ _ 382 _ _ _ _ _ _)
      refine x_callV (ν := M_In_intValue) [] ok_M_In_intValue okv_M_In_intValue k187 rfl rfl (qm_9 (i := 157) rfl rfl) np_M_In_intValue rfl ⟨Nat.le_of_ble_eq_true rfl, Nat.le_of_ble_eq_true rfl⟩ (Nat.le_of_ble_eq_true rfl) rfl d_Cl_walk_382 (Nat.zero_le _) (Nat.zero_le _) (DI.k h (fun v189 w188 gw188 h => (?_ : WD _ _ 385 _ _ _ _ _ _)))
      refine x_goto 390 d_Cl_walk_385 rfl ?_
      refine x_icmp_eq 395 d_Cl_walk_390 rfl ⟨fun c190 => (?_ : WD _ _ 395 _ _ _ _ _ _), fun c190 => (?_ : WD _ _ 393 _ _ _ _ _ _)⟩
      · replace h := h.1 c190
        obtain ⟨h191, h⟩ := h
        refine x_iinc (ls' := [(5, vI (x5 + 1)), (0, vR 0), (1, vA x1), (2, vA x2)]) d_Cl_walk_395 rfl h191 (by decide) rfl (?_ : WD _ _ 398 _ _ _ _ _ _)
        refine x_goto 345 d_Cl_walk_398 rfl ?_
        refine x_pick (ls' := [(0, vR 0), (1, vA x1), (2, vA x2), (5, vI (x5 + 1))]) [1, 2, 3, 0] rfl ?_
        exact h
      · replace h := h.2 c190
        refine x_iconst d_Cl_walk_393 (by decide) (?_ : WD _ _ 394 _ _ _ _ _ _)
        exact x_zreturn rfl d_Cl_walk_394 (by decide) h
set_option maxRecDepth 20000 in
theorem e_Cl_lists {G : Gq} {K : Int → Wd → Prop} {w : Wd} {mc ms : Nat} (x1 : Nat) (x2 : Nat) (h : ∃ c1 s2 : Nat, c1 ≤ mc ∧ s2 ≤ ms ∧ ((Is G w x1 (kO 11)) ∧ DP G M_Bo_drawn [vA x1, vA x2] w c1 s2 (fun v7 w6 => WD G M_Cl_lists 21 [(0, vR 0), (1, vA x1), (2, vA x2), (3, vP v7), (4, vI 0), (5, vI 0), (6, vI 0), (7, vL 0), (9, vI 0)] [] w6 (mc - c1) (ms - s2) (yI K)))) : DI G M_Cl_lists [vR 0, vA x1, vA x2] w mc ms K := by
  refine DC.of ok_M_Cl_lists (ls := [(0, vR 0), (1, vA x1), (2, vA x2)]) rfl (Nat.le_of_ble_eq_true rfl) ?_
  refine x_aload_nP (some x1) d_Cl_lists_0 rfl (?_ : WD _ _ 1 _ _ _ _ _ _)
  refine x_aload_nP (some x2) d_Cl_lists_1 rfl (?_ : WD _ _ 2 _ _ _ _ _ _)
  obtain ⟨c1, s2, h3, h4, h⟩ := h
  obtain ⟨k5, h⟩ := h
  refine x_callV (ν := M_Bo_drawn) [vA x2] ok_M_Bo_drawn okv_M_Bo_drawn k5 rfl rfl (qm_9 (i := 195) rfl rfl) np_M_Bo_drawn rfl ⟨Nat.le_of_ble_eq_true rfl, Nat.le_of_ble_eq_true rfl⟩ (Nat.le_of_ble_eq_true rfl) rfl d_Cl_lists_2 h3 h4 (DP.k h (fun v7 w6 gw6 h => (?_ : WD _ _ 5 _ _ _ _ _ _)))
  refine x_astore_nP v7 (ls' := [(3, vP v7), (0, vR 0), (1, vA x1), (2, vA x2)]) d_Cl_lists_5 rfl (by decide) rfl (?_ : WD _ _ 6 _ _ _ _ _ _)
  refine x_iconst d_Cl_lists_6 (by decide) (?_ : WD _ _ 7 _ _ _ _ _ _)
  refine x_istore (ls' := [(4, vI 0), (3, vP v7), (0, vR 0), (1, vA x1), (2, vA x2)]) d_Cl_lists_7 (by decide) rfl (?_ : WD _ _ 9 _ _ _ _ _ _)
  refine x_iconst d_Cl_lists_9 (by decide) (?_ : WD _ _ 10 _ _ _ _ _ _)
  refine x_istore (ls' := [(5, vI 0), (4, vI 0), (3, vP v7), (0, vR 0), (1, vA x1), (2, vA x2)]) d_Cl_lists_10 (by decide) rfl (?_ : WD _ _ 12 _ _ _ _ _ _)
  refine x_iconst d_Cl_lists_12 (by decide) (?_ : WD _ _ 13 _ _ _ _ _ _)
  refine x_istore (ls' := [(6, vI 0), (5, vI 0), (4, vI 0), (3, vP v7), (0, vR 0), (1, vA x1), (2, vA x2)]) d_Cl_lists_13 (by decide) rfl (?_ : WD _ _ 15 _ _ _ _ _ _)
  refine x_lconst 0 d_Cl_lists_15 rfl (by decide) (?_ : WD _ _ 16 _ _ _ _ _ _)
  refine x_lstore (ls' := [(7, vL 0), (6, vI 0), (5, vI 0), (4, vI 0), (3, vP v7), (0, vR 0), (1, vA x1), (2, vA x2)]) d_Cl_lists_16 (by decide) rfl (?_ : WD _ _ 18 _ _ _ _ _ _)
  refine x_iconst d_Cl_lists_18 (by decide) (?_ : WD _ _ 19 _ _ _ _ _ _)
  refine x_istore (ls' := [(9, vI 0), (7, vL 0), (6, vI 0), (5, vI 0), (4, vI 0), (3, vP v7), (0, vR 0), (1, vA x1), (2, vA x2)]) d_Cl_lists_19 (by decide) rfl (?_ : WD _ _ 21 _ _ _ _ _ _)
  refine x_pick (ls' := [(0, vR 0), (1, vA x1), (2, vA x2), (3, vP v7), (4, vI 0), (5, vI 0), (6, vI 0), (7, vL 0), (9, vI 0)]) [6, 7, 8, 5, 4, 3, 2, 1, 0] rfl ?_
  exact h
set_option maxRecDepth 20000 in
theorem l_Cl_lists_1 {G : Gq} {K : Int → Wd → Prop} {w : Wd} {rc rs : Nat} (x1 : Nat) (x2 : Nat) (x3 : Option Nat) (x4 : Int) (x5 : Int) (x6 : Int) (x7 : Int) (x9 : Int) (h : ∃ a8 : Nat, x3 = some a8 ∧ (∃ n10 : Nat, ((Is G w a8 (kA 2 n10)) ∧ (inR (n10 : Int)) ∧ ((n10 : Int) ≤ x9 → ∃ c14 s15 : Nat, c14 ≤ rc ∧ s15 ≤ rs ∧ ((Is G w x1 (kO 11)) ∧ DI G M_Bo_allCoins [vA x1] w c14 s15 (fun v20 w19 => (¬ v20 = 0 → (inL (1000 * x7)) ∧ ∃ c23 s24 : Nat, c23 ≤ (rc - c14) ∧ s24 ≤ (rs - s15) ∧ (DI G M_Bo_allCoins [vA x1] w19 c23 s24 (fun v28 w27 => (0 ≤ (1000 * x7)) ∧ (0 < v28) ∧ (inR ((1000 * x7) / v28)) ∧ CI M_Cs_certain [vR 0, vI (-1)] (wS w27) (fun v32 σ33 => (¬ v32 = x4 → K 0 (uS w27 σ33)) ∧ (v32 = x4 → CI M_Cs_lacking [vR 0, vI (-1)] (wS (uS w27 σ33)) (fun v35 σ36 => (¬ v35 = x5 → K 0 (uS (uS w27 σ33) σ36)) ∧ (v35 = x5 → CI M_Cs_drawn [vR 0, vI (-1)] (wS (uS (uS w27 σ33) σ36)) (fun v38 σ39 => (¬ v38 = x6 → K 0 (uS (uS (uS w27 σ33) σ36) σ39)) ∧ (v38 = x6 → CI M_Cs_certain [vR 0, vI x4] (wS (uS (uS (uS w27 σ33) σ36) σ39)) (fun v41 σ42 => (¬ v41 = (-1) → K 0 (uS (uS (uS (uS w27 σ33) σ36) σ39) σ42)) ∧ (v41 = (-1) → CI M_Cs_lacking [vR 0, vI x5] (wS (uS (uS (uS (uS w27 σ33) σ36) σ39) σ42)) (fun v44 σ45 => (¬ v44 = (-1) → K 0 (uS (uS (uS (uS (uS w27 σ33) σ36) σ39) σ42) σ45)) ∧ (v44 = (-1) → CI M_Cs_drawn [vR 0, vI x6] (wS (uS (uS (uS (uS (uS w27 σ33) σ36) σ39) σ42) σ45)) (fun v47 σ48 => (¬ v47 = (-1) → K 0 (uS (uS (uS (uS (uS (uS w27 σ33) σ36) σ39) σ42) σ45) σ48)) ∧ (v47 = (-1) → CI M_Cs_certain [vR 0, vI (-2)] (wS (uS (uS (uS (uS (uS (uS w27 σ33) σ36) σ39) σ42) σ45) σ48)) (fun v50 σ51 => (¬ v50 = (-3) → K 0 (uS (uS (uS (uS (uS (uS (uS w27 σ33) σ36) σ39) σ42) σ45) σ48) σ51)) ∧ (v50 = (-3) → CI M_Cs_lacking [vR 0, vI (-2)] (wS (uS (uS (uS (uS (uS (uS (uS w27 σ33) σ36) σ39) σ42) σ45) σ48) σ51)) (fun v53 σ54 => (¬ v53 = (-3) → K 0 (uS (uS (uS (uS (uS (uS (uS (uS w27 σ33) σ36) σ39) σ42) σ45) σ48) σ51) σ54)) ∧ (v53 = (-3) → CI M_Cs_drawn [vR 0, vI (-2)] (wS (uS (uS (uS (uS (uS (uS (uS (uS w27 σ33) σ36) σ39) σ42) σ45) σ48) σ51) σ54)) (fun v56 σ57 => (¬ v56 = (-3) → K 0 (uS (uS (uS (uS (uS (uS (uS (uS (uS w27 σ33) σ36) σ39) σ42) σ45) σ48) σ51) σ54) σ57)) ∧ (v56 = (-3) → CI M_Cs_line [vR 0, vI x6, vI 0] (wS (uS (uS (uS (uS (uS (uS (uS (uS (uS w27 σ33) σ36) σ39) σ42) σ45) σ48) σ51) σ54) σ57)) (fun v59 σ60 => (¬ v59 = (-2) → K 0 (uS (uS (uS (uS (uS (uS (uS (uS (uS (uS w27 σ33) σ36) σ39) σ42) σ45) σ48) σ51) σ54) σ57) σ60)) ∧ (v59 = (-2) → CI M_Cs_line [vR 0, vI (-1), vI 0] (wS (uS (uS (uS (uS (uS (uS (uS (uS (uS (uS w27 σ33) σ36) σ39) σ42) σ45) σ48) σ51) σ54) σ57) σ60)) (fun v62 σ63 => (¬ v62 = (-2) → K 0 (uS (uS (uS (uS (uS (uS (uS (uS (uS (uS (uS w27 σ33) σ36) σ39) σ42) σ45) σ48) σ51) σ54) σ57) σ60) σ63)) ∧ (v62 = (-2) → (x6 = 0 → CI M_Cs_covered [vR 0] (wS (uS (uS (uS (uS (uS (uS (uS (uS (uS (uS (uS w27 σ33) σ36) σ39) σ42) σ45) σ48) σ51) σ54) σ57) σ60) σ63)) (fun v66 σ67 => (¬ v66 = ((1000 * x7) / v28) → K 0 (uS (uS (uS (uS (uS (uS (uS (uS (uS (uS (uS (uS w27 σ33) σ36) σ39) σ42) σ45) σ48) σ51) σ54) σ57) σ60) σ63) σ67)) ∧ (v66 = ((1000 * x7) / v28) → K 1 (uS (uS (uS (uS (uS (uS (uS (uS (uS (uS (uS (uS w27 σ33) σ36) σ39) σ42) σ45) σ48) σ51) σ54) σ57) σ60) σ63) σ67)))) ∧ (¬ x6 = 0 → CI M_Cs_line [vR 0, vI 0, vI (-1)] (wS (uS (uS (uS (uS (uS (uS (uS (uS (uS (uS (uS w27 σ33) σ36) σ39) σ42) σ45) σ48) σ51) σ54) σ57) σ60) σ63)) (fun v69 σ70 => (¬ v69 = (-3) → K 0 (uS (uS (uS (uS (uS (uS (uS (uS (uS (uS (uS (uS w27 σ33) σ36) σ39) σ42) σ45) σ48) σ51) σ54) σ57) σ60) σ63) σ70)) ∧ (v69 = (-3) → CI M_Cs_covered [vR 0] (wS (uS (uS (uS (uS (uS (uS (uS (uS (uS (uS (uS (uS w27 σ33) σ36) σ39) σ42) σ45) σ48) σ51) σ54) σ57) σ60) σ63) σ70)) (fun v72 σ73 => (¬ v72 = ((1000 * x7) / v28) → K 0 (uS (uS (uS (uS (uS (uS (uS (uS (uS (uS (uS (uS (uS w27 σ33) σ36) σ39) σ42) σ45) σ48) σ51) σ54) σ57) σ60) σ63) σ70) σ73)) ∧ (v72 = ((1000 * x7) / v28) → K 1 (uS (uS (uS (uS (uS (uS (uS (uS (uS (uS (uS (uS (uS w27 σ33) σ36) σ39) σ42) σ45) σ48) σ51) σ54) σ57) σ60) σ63) σ70) σ73))))))))))))))))))))))))))))))) ∧ (v20 = 0 → CI M_Cs_certain [vR 0, vI (-1)] (wS w19) (fun v75 σ76 => (¬ v75 = x4 → K 0 (uS w19 σ76)) ∧ (v75 = x4 → CI M_Cs_lacking [vR 0, vI (-1)] (wS (uS w19 σ76)) (fun v78 σ79 => (¬ v78 = x5 → K 0 (uS (uS w19 σ76) σ79)) ∧ (v78 = x5 → CI M_Cs_drawn [vR 0, vI (-1)] (wS (uS (uS w19 σ76) σ79)) (fun v81 σ82 => (¬ v81 = x6 → K 0 (uS (uS (uS w19 σ76) σ79) σ82)) ∧ (v81 = x6 → CI M_Cs_certain [vR 0, vI x4] (wS (uS (uS (uS w19 σ76) σ79) σ82)) (fun v84 σ85 => (¬ v84 = (-1) → K 0 (uS (uS (uS (uS w19 σ76) σ79) σ82) σ85)) ∧ (v84 = (-1) → CI M_Cs_lacking [vR 0, vI x5] (wS (uS (uS (uS (uS w19 σ76) σ79) σ82) σ85)) (fun v87 σ88 => (¬ v87 = (-1) → K 0 (uS (uS (uS (uS (uS w19 σ76) σ79) σ82) σ85) σ88)) ∧ (v87 = (-1) → CI M_Cs_drawn [vR 0, vI x6] (wS (uS (uS (uS (uS (uS w19 σ76) σ79) σ82) σ85) σ88)) (fun v90 σ91 => (¬ v90 = (-1) → K 0 (uS (uS (uS (uS (uS (uS w19 σ76) σ79) σ82) σ85) σ88) σ91)) ∧ (v90 = (-1) → CI M_Cs_certain [vR 0, vI (-2)] (wS (uS (uS (uS (uS (uS (uS w19 σ76) σ79) σ82) σ85) σ88) σ91)) (fun v93 σ94 => (¬ v93 = (-3) → K 0 (uS (uS (uS (uS (uS (uS (uS w19 σ76) σ79) σ82) σ85) σ88) σ91) σ94)) ∧ (v93 = (-3) → CI M_Cs_lacking [vR 0, vI (-2)] (wS (uS (uS (uS (uS (uS (uS (uS w19 σ76) σ79) σ82) σ85) σ88) σ91) σ94)) (fun v96 σ97 => (¬ v96 = (-3) → K 0 (uS (uS (uS (uS (uS (uS (uS (uS w19 σ76) σ79) σ82) σ85) σ88) σ91) σ94) σ97)) ∧ (v96 = (-3) → CI M_Cs_drawn [vR 0, vI (-2)] (wS (uS (uS (uS (uS (uS (uS (uS (uS w19 σ76) σ79) σ82) σ85) σ88) σ91) σ94) σ97)) (fun v99 σ100 => (¬ v99 = (-3) → K 0 (uS (uS (uS (uS (uS (uS (uS (uS (uS w19 σ76) σ79) σ82) σ85) σ88) σ91) σ94) σ97) σ100)) ∧ (v99 = (-3) → CI M_Cs_line [vR 0, vI x6, vI 0] (wS (uS (uS (uS (uS (uS (uS (uS (uS (uS w19 σ76) σ79) σ82) σ85) σ88) σ91) σ94) σ97) σ100)) (fun v102 σ103 => (¬ v102 = (-2) → K 0 (uS (uS (uS (uS (uS (uS (uS (uS (uS (uS w19 σ76) σ79) σ82) σ85) σ88) σ91) σ94) σ97) σ100) σ103)) ∧ (v102 = (-2) → CI M_Cs_line [vR 0, vI (-1), vI 0] (wS (uS (uS (uS (uS (uS (uS (uS (uS (uS (uS w19 σ76) σ79) σ82) σ85) σ88) σ91) σ94) σ97) σ100) σ103)) (fun v105 σ106 => (¬ v105 = (-2) → K 0 (uS (uS (uS (uS (uS (uS (uS (uS (uS (uS (uS w19 σ76) σ79) σ82) σ85) σ88) σ91) σ94) σ97) σ100) σ103) σ106)) ∧ (v105 = (-2) → (x6 = 0 → CI M_Cs_covered [vR 0] (wS (uS (uS (uS (uS (uS (uS (uS (uS (uS (uS (uS w19 σ76) σ79) σ82) σ85) σ88) σ91) σ94) σ97) σ100) σ103) σ106)) (fun v109 σ110 => (¬ v109 = 0 → K 0 (uS (uS (uS (uS (uS (uS (uS (uS (uS (uS (uS (uS w19 σ76) σ79) σ82) σ85) σ88) σ91) σ94) σ97) σ100) σ103) σ106) σ110)) ∧ (v109 = 0 → K 1 (uS (uS (uS (uS (uS (uS (uS (uS (uS (uS (uS (uS w19 σ76) σ79) σ82) σ85) σ88) σ91) σ94) σ97) σ100) σ103) σ106) σ110)))) ∧ (¬ x6 = 0 → CI M_Cs_line [vR 0, vI 0, vI (-1)] (wS (uS (uS (uS (uS (uS (uS (uS (uS (uS (uS (uS w19 σ76) σ79) σ82) σ85) σ88) σ91) σ94) σ97) σ100) σ103) σ106)) (fun v112 σ113 => (¬ v112 = (-3) → K 0 (uS (uS (uS (uS (uS (uS (uS (uS (uS (uS (uS (uS w19 σ76) σ79) σ82) σ85) σ88) σ91) σ94) σ97) σ100) σ103) σ106) σ113)) ∧ (v112 = (-3) → CI M_Cs_covered [vR 0] (wS (uS (uS (uS (uS (uS (uS (uS (uS (uS (uS (uS (uS w19 σ76) σ79) σ82) σ85) σ88) σ91) σ94) σ97) σ100) σ103) σ106) σ113)) (fun v115 σ116 => (¬ v115 = 0 → K 0 (uS (uS (uS (uS (uS (uS (uS (uS (uS (uS (uS (uS (uS w19 σ76) σ79) σ82) σ85) σ88) σ91) σ94) σ97) σ100) σ103) σ106) σ113) σ116)) ∧ (v115 = 0 → K 1 (uS (uS (uS (uS (uS (uS (uS (uS (uS (uS (uS (uS (uS w19 σ76) σ79) σ82) σ85) σ88) σ91) σ94) σ97) σ100) σ103) σ106) σ113) σ116)))))))))))))))))))))))))))))))) ∧ (¬ (n10 : Int) ≤ x9 → (Is G w x1 (kO 11)) ∧ ∃ a119 : Nat, (wR w x1 0) = some a119 ∧ ((Is G w a119 (kO 14)) ∧ DP G M_Al_get [vA a119, vI x9] w 0 0 (fun v123 w122 => ∃ a124 : Nat, v123 = some a124 ∧ ((Is G w122 a124 (kO 13)) ∧ DI G M_Bo_certain [vA x1, vA a124] w122 0 0 (fun v128 w127 => (v128 = 0 → (0 ≤ x9) ∧ (x9 < (n10 : Int)) ∧ ((wI w127 a8 x9) = 0 → (inR (x9 + 1)) ∧ WD G M_Cl_lists 21 [(0, vR 0), (1, vA x1), (2, vA x2), (3, vP (some a8)), (4, vI x4), (5, vI x5), (6, vI x6), (7, vL x7), (9, vI (x9 + 1))] [] w127 rc rs (yI K)) ∧ (¬ (wI w127 a8 x9) = 0 → (0 ≤ (wI w127 a124 3) → DI G M_It_coins [vA a124] w127 0 0 (fun v136 w135 => (inL (x7 + v136)) ∧ (1 ≤ rc) ∧ (4 ≤ rs) ∧ ∀ q140 : Nat, Fr G w135 q140 → (∃ c142 s143 : Nat, c142 ≤ (rc - 1) ∧ s143 ≤ (rs - 4) ∧ (DV G M_Sb_init [vA q140] (uN w135 q140 (kO 17)) c142 s143 (fun w146 => ∃ c148 s149 : Nat, c148 ≤ ((rc - 1) - c142) ∧ s149 ≤ ((rs - 4) - s143) ∧ (DP G M_Sb_append_bf812 [vA q140, vI (wI w146 a124 0)] w146 c148 s149 (fun v153 w152 => ∃ a154 : Nat, v153 = some a154 ∧ (∃ c156 s157 : Nat, c156 ≤ (((rc - 1) - c142) - c148) ∧ s157 ≤ (((rs - 4) - s143) - s149) ∧ ((Is G w152 a154 (kO 17)) ∧ DP G M_Sb_append_15ec4 [vA a154, vA (xa G 274)] w152 c156 s157 (fun v162 w161 => ∃ a163 : Nat, v162 = some a163 ∧ (∃ c165 s166 : Nat, c165 ≤ ((((rc - 1) - c142) - c148) - c156) ∧ s166 ≤ ((((rs - 4) - s143) - s149) - s157) ∧ ((Is G w161 a163 (kO 17)) ∧ DP G M_Sb_append_bf812 [vA a163, vI (wI w161 a124 1)] w161 c165 s166 (fun v171 w170 => ∃ a172 : Nat, v171 = some a172 ∧ (∃ c174 s175 : Nat, c174 ≤ (((((rc - 1) - c142) - c148) - c156) - c165) ∧ s175 ≤ (((((rs - 4) - s143) - s149) - s157) - s166) ∧ ((Is G w170 a172 (kO 17)) ∧ DP G M_Sb_append_15ec4 [vA a172, vA (xa G 268)] w170 c174 s175 (fun v180 w179 => ∃ a181 : Nat, v180 = some a181 ∧ (∃ c183 s184 : Nat, c183 ≤ ((((((rc - 1) - c142) - c148) - c156) - c165) - c174) ∧ s184 ≤ ((((((rs - 4) - s143) - s149) - s157) - s166) - s175) ∧ ((Is G w179 a181 (kO 17)) ∧ DP G M_Sb_append_bf812 [vA a181, vI (wI w179 a124 2)] w179 c183 s184 (fun v189 w188 => DI G M_Bo_certain [vA x1, vA a124] w188 0 0 (fun v191 w190 => (v191 = 0 → (1 ≤ (((((((rc - 1) - c142) - c148) - c156) - c165) - c174) - c183)) ∧ (4 ≤ (((((((rs - 4) - s143) - s149) - s157) - s166) - s175) - s184)) ∧ ∀ q195 : Nat, Fr G w190 q195 → (∃ c197 s198 : Nat, c197 ≤ ((((((((rc - 1) - c142) - c148) - c156) - c165) - c174) - c183) - 1) ∧ s198 ≤ ((((((((rs - 4) - s143) - s149) - s157) - s166) - s175) - s184) - 4) ∧ (DV G M_Sb_init [vA q195] (uN w190 q195 (kO 17)) c197 s198 (fun w201 => ∃ c203 s204 : Nat, c203 ≤ (((((((((rc - 1) - c142) - c148) - c156) - c165) - c174) - c183) - 1) - c197) ∧ s204 ≤ (((((((((rs - 4) - s143) - s149) - s157) - s166) - s175) - s184) - 4) - s198) ∧ (DP G M_Sb_append_15ec4 [vA q195, vA (xa G 278)] w201 c203 s204 (fun v208 w207 => ∃ c209 s210 : Nat, c209 ≤ ((((((((((rc - 1) - c142) - c148) - c156) - c165) - c174) - c183) - 1) - c197) - c203) ∧ s210 ≤ ((((((((((rs - 4) - s143) - s149) - s157) - s166) - s175) - s184) - 4) - s198) - s204) ∧ (DI G M_Cl_oftenOf [vA x2, vI x9] w207 c209 s210 (fun v214 w213 => ∃ a215 : Nat, v208 = some a215 ∧ (∃ c217 s218 : Nat, c217 ≤ (((((((((((rc - 1) - c142) - c148) - c156) - c165) - c174) - c183) - 1) - c197) - c203) - c209) ∧ s218 ≤ (((((((((((rs - 4) - s143) - s149) - s157) - s166) - s175) - s184) - 4) - s198) - s204) - s210) ∧ ((Is G w213 a215 (kO 17)) ∧ DP G M_Sb_append_bf812 [vA a215, vI v214] w213 c217 s218 (fun v223 w222 => ∃ a224 : Nat, v223 = some a224 ∧ (∃ c226 s227 : Nat, c226 ≤ ((((((((((((rc - 1) - c142) - c148) - c156) - c165) - c174) - c183) - 1) - c197) - c203) - c209) - c217) ∧ s227 ≤ ((((((((((((rs - 4) - s143) - s149) - s157) - s166) - s175) - s184) - 4) - s198) - s204) - s210) - s218) ∧ ((Is G w222 a224 (kO 17)) ∧ DP G M_Sb_toString [vA a224] w222 c226 s227 (fun v232 w231 => ∃ a233 : Nat, v189 = some a233 ∧ (∃ a235 : Nat, v232 = some a235 ∧ (∃ c237 s238 : Nat, c237 ≤ (((((((((((((rc - 1) - c142) - c148) - c156) - c165) - c174) - c183) - 1) - c197) - c203) - c209) - c217) - c226) ∧ s238 ≤ (((((((((((((rs - 4) - s143) - s149) - s157) - s166) - s175) - s184) - 4) - s198) - s204) - s210) - s218) - s227) ∧ ((Is G w231 a233 (kO 17)) ∧ DP G M_Sb_append_15ec4 [vA a233, vA a235] w231 c237 s238 (fun v243 w242 => (0 ≤ (wI w242 a124 3) → (1 ≤ ((((((((((((((rc - 1) - c142) - c148) - c156) - c165) - c174) - c183) - 1) - c197) - c203) - c209) - c217) - c226) - c237)) ∧ (4 ≤ ((((((((((((((rs - 4) - s143) - s149) - s157) - s166) - s175) - s184) - 4) - s198) - s204) - s210) - s218) - s227) - s238)) ∧ ∀ q247 : Nat, Fr G w242 q247 → (∃ c249 s250 : Nat, c249 ≤ (((((((((((((((rc - 1) - c142) - c148) - c156) - c165) - c174) - c183) - 1) - c197) - c203) - c209) - c217) - c226) - c237) - 1) ∧ s250 ≤ (((((((((((((((rs - 4) - s143) - s149) - s157) - s166) - s175) - s184) - 4) - s198) - s204) - s210) - s218) - s227) - s238) - 4) ∧ (DV G M_Sb_init [vA q247] (uN w242 q247 (kO 17)) c249 s250 (fun w253 => ∃ c255 s256 : Nat, c255 ≤ ((((((((((((((((rc - 1) - c142) - c148) - c156) - c165) - c174) - c183) - 1) - c197) - c203) - c209) - c217) - c226) - c237) - 1) - c249) ∧ s256 ≤ ((((((((((((((((rs - 4) - s143) - s149) - s157) - s166) - s175) - s184) - 4) - s198) - s204) - s210) - s218) - s227) - s238) - 4) - s250) ∧ (DP G M_Sb_append_15ec4 [vA q247, vA (xa G 282)] w253 c255 s256 (fun v260 w259 => ∃ a261 : Nat, v260 = some a261 ∧ (∃ c263 s264 : Nat, c263 ≤ (((((((((((((((((rc - 1) - c142) - c148) - c156) - c165) - c174) - c183) - 1) - c197) - c203) - c209) - c217) - c226) - c237) - 1) - c249) - c255) ∧ s264 ≤ (((((((((((((((((rs - 4) - s143) - s149) - s157) - s166) - s175) - s184) - 4) - s198) - s204) - s210) - s218) - s227) - s238) - 4) - s250) - s256) ∧ ((Is G w259 a261 (kO 17)) ∧ DP G M_Sb_append_bf812 [vA a261, vI (wI w259 a124 3)] w259 c263 s264 (fun v269 w268 => ∃ a270 : Nat, v269 = some a270 ∧ (∃ c272 s273 : Nat, c272 ≤ ((((((((((((((((((rc - 1) - c142) - c148) - c156) - c165) - c174) - c183) - 1) - c197) - c203) - c209) - c217) - c226) - c237) - 1) - c249) - c255) - c263) ∧ s273 ≤ ((((((((((((((((((rs - 4) - s143) - s149) - s157) - s166) - s175) - s184) - 4) - s198) - s204) - s210) - s218) - s227) - s238) - 4) - s250) - s256) - s264) ∧ ((Is G w268 a270 (kO 17)) ∧ DP G M_Sb_toString [vA a270] w268 c272 s273 (fun v278 w277 => ∃ a279 : Nat, v243 = some a279 ∧ (∃ a281 : Nat, v278 = some a281 ∧ (∃ c283 s284 : Nat, c283 ≤ (((((((((((((((((((rc - 1) - c142) - c148) - c156) - c165) - c174) - c183) - 1) - c197) - c203) - c209) - c217) - c226) - c237) - 1) - c249) - c255) - c263) - c272) ∧ s284 ≤ (((((((((((((((((((rs - 4) - s143) - s149) - s157) - s166) - s175) - s184) - 4) - s198) - s204) - s210) - s218) - s227) - s238) - 4) - s250) - s256) - s264) - s273) ∧ ((Is G w277 a279 (kO 17)) ∧ DP G M_Sb_append_15ec4 [vA a279, vA a281] w277 c283 s284 (fun v289 w288 => ∃ a290 : Nat, v289 = some a290 ∧ (∃ c292 s293 : Nat, c292 ≤ ((((((((((((((((((((rc - 1) - c142) - c148) - c156) - c165) - c174) - c183) - 1) - c197) - c203) - c209) - c217) - c226) - c237) - 1) - c249) - c255) - c263) - c272) - c283) ∧ s293 ≤ ((((((((((((((((((((rs - 4) - s143) - s149) - s157) - s166) - s175) - s184) - 4) - s198) - s204) - s210) - s218) - s227) - s238) - 4) - s250) - s256) - s264) - s273) - s284) ∧ ((Is G w288 a290 (kO 17)) ∧ DP G M_Sb_toString [vA a290] w288 c292 s293 (fun v298 w297 => CI M_Cs_drawn [vR 0, vI x6] (wS w297) (fun v299 σ300 => (v299 = x9 → WD G M_Cl_lists 264 [(0, vR 0), (1, vA x1), (2, vA x2), (3, vA a8), (4, vI x4), (5, vI x5), (6, vI x6), (7, vL (x7 + v136)), (9, vI x9), (11, vP v298), (12, vI 0)] [] (uS w297 σ300) (((((((((((((((((((((rc - 1) - c142) - c148) - c156) - c165) - c174) - c183) - 1) - c197) - c203) - c209) - c217) - c226) - c237) - 1) - c249) - c255) - c263) - c272) - c283) - c292) (((((((((((((((((((((rs - 4) - s143) - s149) - s157) - s166) - s175) - s184) - 4) - s198) - s204) - s210) - s218) - s227) - s238) - 4) - s250) - s256) - s264) - s273) - s284) - s293) (yI K)) ∧ (¬ v299 = x9 → K 0 (uS w297 σ300)))))))))))))))))))))) ∧ (¬ 0 ≤ (wI w242 a124 3) → ∃ a302 : Nat, v243 = some a302 ∧ (∃ c304 s305 : Nat, c304 ≤ ((((((((((((((rc - 1) - c142) - c148) - c156) - c165) - c174) - c183) - 1) - c197) - c203) - c209) - c217) - c226) - c237) ∧ s305 ≤ ((((((((((((((rs - 4) - s143) - s149) - s157) - s166) - s175) - s184) - 4) - s198) - s204) - s210) - s218) - s227) - s238) ∧ ((Is G w242 a302 (kO 17)) ∧ DP G M_Sb_append_15ec4 [vA a302, vA (xa G 280)] w242 c304 s305 (fun v310 w309 => ∃ a311 : Nat, v310 = some a311 ∧ (∃ c313 s314 : Nat, c313 ≤ (((((((((((((((rc - 1) - c142) - c148) - c156) - c165) - c174) - c183) - 1) - c197) - c203) - c209) - c217) - c226) - c237) - c304) ∧ s314 ≤ (((((((((((((((rs - 4) - s143) - s149) - s157) - s166) - s175) - s184) - 4) - s198) - s204) - s210) - s218) - s227) - s238) - s305) ∧ ((Is G w309 a311 (kO 17)) ∧ DP G M_Sb_toString [vA a311] w309 c313 s314 (fun v319 w318 => CI M_Cs_drawn [vR 0, vI x6] (wS w318) (fun v320 σ321 => (v320 = x9 → WD G M_Cl_lists 264 [(0, vR 0), (1, vA x1), (2, vA x2), (3, vA a8), (4, vI x4), (5, vI x5), (6, vI x6), (7, vL (x7 + v136)), (9, vI x9), (11, vP v319), (12, vI 0)] [] (uS w318 σ321) ((((((((((((((((rc - 1) - c142) - c148) - c156) - c165) - c174) - c183) - 1) - c197) - c203) - c209) - c217) - c226) - c237) - c304) - c313) ((((((((((((((((rs - 4) - s143) - s149) - s157) - s166) - s175) - s184) - 4) - s198) - s204) - s210) - s218) - s227) - s238) - s305) - s314) (yI K)) ∧ (¬ v320 = x9 → K 0 (uS w318 σ321)))))))))))))))))))))))))))) ∧ (¬ v191 = 0 → ∃ a323 : Nat, v189 = some a323 ∧ (∃ c325 s326 : Nat, c325 ≤ (((((((rc - 1) - c142) - c148) - c156) - c165) - c174) - c183) ∧ s326 ≤ (((((((rs - 4) - s143) - s149) - s157) - s166) - s175) - s184) ∧ ((Is G w190 a323 (kO 17)) ∧ DP G M_Sb_append_15ec4 [vA a323, vA (xa G 276)] w190 c325 s326 (fun v331 w330 => (0 ≤ (wI w330 a124 3) → (1 ≤ ((((((((rc - 1) - c142) - c148) - c156) - c165) - c174) - c183) - c325)) ∧ (4 ≤ ((((((((rs - 4) - s143) - s149) - s157) - s166) - s175) - s184) - s326)) ∧ ∀ q335 : Nat, Fr G w330 q335 → (∃ c337 s338 : Nat, c337 ≤ (((((((((rc - 1) - c142) - c148) - c156) - c165) - c174) - c183) - c325) - 1) ∧ s338 ≤ (((((((((rs - 4) - s143) - s149) - s157) - s166) - s175) - s184) - s326) - 4) ∧ (DV G M_Sb_init [vA q335] (uN w330 q335 (kO 17)) c337 s338 (fun w341 => ∃ c343 s344 : Nat, c343 ≤ ((((((((((rc - 1) - c142) - c148) - c156) - c165) - c174) - c183) - c325) - 1) - c337) ∧ s344 ≤ ((((((((((rs - 4) - s143) - s149) - s157) - s166) - s175) - s184) - s326) - 4) - s338) ∧ (DP G M_Sb_append_15ec4 [vA q335, vA (xa G 282)] w341 c343 s344 (fun v348 w347 => ∃ a349 : Nat, v348 = some a349 ∧ (∃ c351 s352 : Nat, c351 ≤ (((((((((((rc - 1) - c142) - c148) - c156) - c165) - c174) - c183) - c325) - 1) - c337) - c343) ∧ s352 ≤ (((((((((((rs - 4) - s143) - s149) - s157) - s166) - s175) - s184) - s326) - 4) - s338) - s344) ∧ ((Is G w347 a349 (kO 17)) ∧ DP G M_Sb_append_bf812 [vA a349, vI (wI w347 a124 3)] w347 c351 s352 (fun v357 w356 => ∃ a358 : Nat, v357 = some a358 ∧ (∃ c360 s361 : Nat, c360 ≤ ((((((((((((rc - 1) - c142) - c148) - c156) - c165) - c174) - c183) - c325) - 1) - c337) - c343) - c351) ∧ s361 ≤ ((((((((((((rs - 4) - s143) - s149) - s157) - s166) - s175) - s184) - s326) - 4) - s338) - s344) - s352) ∧ ((Is G w356 a358 (kO 17)) ∧ DP G M_Sb_toString [vA a358] w356 c360 s361 (fun v366 w365 => ∃ a367 : Nat, v331 = some a367 ∧ (∃ a369 : Nat, v366 = some a369 ∧ (∃ c371 s372 : Nat, c371 ≤ (((((((((((((rc - 1) - c142) - c148) - c156) - c165) - c174) - c183) - c325) - 1) - c337) - c343) - c351) - c360) ∧ s372 ≤ (((((((((((((rs - 4) - s143) - s149) - s157) - s166) - s175) - s184) - s326) - 4) - s338) - s344) - s352) - s361) ∧ ((Is G w365 a367 (kO 17)) ∧ DP G M_Sb_append_15ec4 [vA a367, vA a369] w365 c371 s372 (fun v377 w376 => ∃ a378 : Nat, v377 = some a378 ∧ (∃ c380 s381 : Nat, c380 ≤ ((((((((((((((rc - 1) - c142) - c148) - c156) - c165) - c174) - c183) - c325) - 1) - c337) - c343) - c351) - c360) - c371) ∧ s381 ≤ ((((((((((((((rs - 4) - s143) - s149) - s157) - s166) - s175) - s184) - s326) - 4) - s338) - s344) - s352) - s361) - s372) ∧ ((Is G w376 a378 (kO 17)) ∧ DP G M_Sb_toString [vA a378] w376 c380 s381 (fun v386 w385 => CI M_Cs_drawn [vR 0, vI x6] (wS w385) (fun v387 σ388 => (v387 = x9 → WD G M_Cl_lists 264 [(0, vR 0), (1, vA x1), (2, vA x2), (3, vA a8), (4, vI x4), (5, vI x5), (6, vI x6), (7, vL (x7 + v136)), (9, vI x9), (11, vP v386), (12, vI 0)] [] (uS w385 σ388) (((((((((((((((rc - 1) - c142) - c148) - c156) - c165) - c174) - c183) - c325) - 1) - c337) - c343) - c351) - c360) - c371) - c380) (((((((((((((((rs - 4) - s143) - s149) - s157) - s166) - s175) - s184) - s326) - 4) - s338) - s344) - s352) - s361) - s372) - s381) (yI K)) ∧ (¬ v387 = x9 → K 0 (uS w385 σ388)))))))))))))))))))))) ∧ (¬ 0 ≤ (wI w330 a124 3) → ∃ a390 : Nat, v331 = some a390 ∧ (∃ c392 s393 : Nat, c392 ≤ ((((((((rc - 1) - c142) - c148) - c156) - c165) - c174) - c183) - c325) ∧ s393 ≤ ((((((((rs - 4) - s143) - s149) - s157) - s166) - s175) - s184) - s326) ∧ ((Is G w330 a390 (kO 17)) ∧ DP G M_Sb_append_15ec4 [vA a390, vA (xa G 280)] w330 c392 s393 (fun v398 w397 => ∃ a399 : Nat, v398 = some a399 ∧ (∃ c401 s402 : Nat, c401 ≤ (((((((((rc - 1) - c142) - c148) - c156) - c165) - c174) - c183) - c325) - c392) ∧ s402 ≤ (((((((((rs - 4) - s143) - s149) - s157) - s166) - s175) - s184) - s326) - s393) ∧ ((Is G w397 a399 (kO 17)) ∧ DP G M_Sb_toString [vA a399] w397 c401 s402 (fun v407 w406 => CI M_Cs_drawn [vR 0, vI x6] (wS w406) (fun v408 σ409 => (v408 = x9 → WD G M_Cl_lists 264 [(0, vR 0), (1, vA x1), (2, vA x2), (3, vA a8), (4, vI x4), (5, vI x5), (6, vI x6), (7, vL (x7 + v136)), (9, vI x9), (11, vP v407), (12, vI 0)] [] (uS w406 σ409) ((((((((((rc - 1) - c142) - c148) - c156) - c165) - c174) - c183) - c325) - c392) - c401) ((((((((((rs - 4) - s143) - s149) - s157) - s166) - s175) - s184) - s326) - s393) - s402) (yI K)) ∧ (¬ v408 = x9 → K 0 (uS w406 σ409)))))))))))))))))))))))))))))))))) ∧ (¬ 0 ≤ (wI w127 a124 3) → (inR (x5 + 1)) ∧ CI M_Cs_lacking [vR 0, vI x5] (wS w127) (fun v412 σ413 => (v412 = x9 → DI G M_It_coins [vA a124] (uS w127 σ413) 0 0 (fun v416 w415 => (inL (x7 + v416)) ∧ (1 ≤ rc) ∧ (4 ≤ rs) ∧ ∀ q420 : Nat, Fr G w415 q420 → (∃ c422 s423 : Nat, c422 ≤ (rc - 1) ∧ s423 ≤ (rs - 4) ∧ (DV G M_Sb_init [vA q420] (uN w415 q420 (kO 17)) c422 s423 (fun w426 => ∃ c428 s429 : Nat, c428 ≤ ((rc - 1) - c422) ∧ s429 ≤ ((rs - 4) - s423) ∧ (DP G M_Sb_append_bf812 [vA q420, vI (wI w426 a124 0)] w426 c428 s429 (fun v433 w432 => ∃ a434 : Nat, v433 = some a434 ∧ (∃ c436 s437 : Nat, c436 ≤ (((rc - 1) - c422) - c428) ∧ s437 ≤ (((rs - 4) - s423) - s429) ∧ ((Is G w432 a434 (kO 17)) ∧ DP G M_Sb_append_15ec4 [vA a434, vA (xa G 274)] w432 c436 s437 (fun v442 w441 => ∃ a443 : Nat, v442 = some a443 ∧ (∃ c445 s446 : Nat, c445 ≤ ((((rc - 1) - c422) - c428) - c436) ∧ s446 ≤ ((((rs - 4) - s423) - s429) - s437) ∧ ((Is G w441 a443 (kO 17)) ∧ DP G M_Sb_append_bf812 [vA a443, vI (wI w441 a124 1)] w441 c445 s446 (fun v451 w450 => ∃ a452 : Nat, v451 = some a452 ∧ (∃ c454 s455 : Nat, c454 ≤ (((((rc - 1) - c422) - c428) - c436) - c445) ∧ s455 ≤ (((((rs - 4) - s423) - s429) - s437) - s446) ∧ ((Is G w450 a452 (kO 17)) ∧ DP G M_Sb_append_15ec4 [vA a452, vA (xa G 268)] w450 c454 s455 (fun v460 w459 => ∃ a461 : Nat, v460 = some a461 ∧ (∃ c463 s464 : Nat, c463 ≤ ((((((rc - 1) - c422) - c428) - c436) - c445) - c454) ∧ s464 ≤ ((((((rs - 4) - s423) - s429) - s437) - s446) - s455) ∧ ((Is G w459 a461 (kO 17)) ∧ DP G M_Sb_append_bf812 [vA a461, vI (wI w459 a124 2)] w459 c463 s464 (fun v469 w468 => DI G M_Bo_certain [vA x1, vA a124] w468 0 0 (fun v471 w470 => (v471 = 0 → (1 ≤ (((((((rc - 1) - c422) - c428) - c436) - c445) - c454) - c463)) ∧ (4 ≤ (((((((rs - 4) - s423) - s429) - s437) - s446) - s455) - s464)) ∧ ∀ q475 : Nat, Fr G w470 q475 → (∃ c477 s478 : Nat, c477 ≤ ((((((((rc - 1) - c422) - c428) - c436) - c445) - c454) - c463) - 1) ∧ s478 ≤ ((((((((rs - 4) - s423) - s429) - s437) - s446) - s455) - s464) - 4) ∧ (DV G M_Sb_init [vA q475] (uN w470 q475 (kO 17)) c477 s478 (fun w481 => ∃ c483 s484 : Nat, c483 ≤ (((((((((rc - 1) - c422) - c428) - c436) - c445) - c454) - c463) - 1) - c477) ∧ s484 ≤ (((((((((rs - 4) - s423) - s429) - s437) - s446) - s455) - s464) - 4) - s478) ∧ (DP G M_Sb_append_15ec4 [vA q475, vA (xa G 278)] w481 c483 s484 (fun v488 w487 => ∃ c489 s490 : Nat, c489 ≤ ((((((((((rc - 1) - c422) - c428) - c436) - c445) - c454) - c463) - 1) - c477) - c483) ∧ s490 ≤ ((((((((((rs - 4) - s423) - s429) - s437) - s446) - s455) - s464) - 4) - s478) - s484) ∧ (DI G M_Cl_oftenOf [vA x2, vI x9] w487 c489 s490 (fun v494 w493 => ∃ a495 : Nat, v488 = some a495 ∧ (∃ c497 s498 : Nat, c497 ≤ (((((((((((rc - 1) - c422) - c428) - c436) - c445) - c454) - c463) - 1) - c477) - c483) - c489) ∧ s498 ≤ (((((((((((rs - 4) - s423) - s429) - s437) - s446) - s455) - s464) - 4) - s478) - s484) - s490) ∧ ((Is G w493 a495 (kO 17)) ∧ DP G M_Sb_append_bf812 [vA a495, vI v494] w493 c497 s498 (fun v503 w502 => ∃ a504 : Nat, v503 = some a504 ∧ (∃ c506 s507 : Nat, c506 ≤ ((((((((((((rc - 1) - c422) - c428) - c436) - c445) - c454) - c463) - 1) - c477) - c483) - c489) - c497) ∧ s507 ≤ ((((((((((((rs - 4) - s423) - s429) - s437) - s446) - s455) - s464) - 4) - s478) - s484) - s490) - s498) ∧ ((Is G w502 a504 (kO 17)) ∧ DP G M_Sb_toString [vA a504] w502 c506 s507 (fun v512 w511 => ∃ a513 : Nat, v469 = some a513 ∧ (∃ a515 : Nat, v512 = some a515 ∧ (∃ c517 s518 : Nat, c517 ≤ (((((((((((((rc - 1) - c422) - c428) - c436) - c445) - c454) - c463) - 1) - c477) - c483) - c489) - c497) - c506) ∧ s518 ≤ (((((((((((((rs - 4) - s423) - s429) - s437) - s446) - s455) - s464) - 4) - s478) - s484) - s490) - s498) - s507) ∧ ((Is G w511 a513 (kO 17)) ∧ DP G M_Sb_append_15ec4 [vA a513, vA a515] w511 c517 s518 (fun v523 w522 => (0 ≤ (wI w522 a124 3) → (1 ≤ ((((((((((((((rc - 1) - c422) - c428) - c436) - c445) - c454) - c463) - 1) - c477) - c483) - c489) - c497) - c506) - c517)) ∧ (4 ≤ ((((((((((((((rs - 4) - s423) - s429) - s437) - s446) - s455) - s464) - 4) - s478) - s484) - s490) - s498) - s507) - s518)) ∧ ∀ q527 : Nat, Fr G w522 q527 → (∃ c529 s530 : Nat, c529 ≤ (((((((((((((((rc - 1) - c422) - c428) - c436) - c445) - c454) - c463) - 1) - c477) - c483) - c489) - c497) - c506) - c517) - 1) ∧ s530 ≤ (((((((((((((((rs - 4) - s423) - s429) - s437) - s446) - s455) - s464) - 4) - s478) - s484) - s490) - s498) - s507) - s518) - 4) ∧ (DV G M_Sb_init [vA q527] (uN w522 q527 (kO 17)) c529 s530 (fun w533 => ∃ c535 s536 : Nat, c535 ≤ ((((((((((((((((rc - 1) - c422) - c428) - c436) - c445) - c454) - c463) - 1) - c477) - c483) - c489) - c497) - c506) - c517) - 1) - c529) ∧ s536 ≤ ((((((((((((((((rs - 4) - s423) - s429) - s437) - s446) - s455) - s464) - 4) - s478) - s484) - s490) - s498) - s507) - s518) - 4) - s530) ∧ (DP G M_Sb_append_15ec4 [vA q527, vA (xa G 282)] w533 c535 s536 (fun v540 w539 => ∃ a541 : Nat, v540 = some a541 ∧ (∃ c543 s544 : Nat, c543 ≤ (((((((((((((((((rc - 1) - c422) - c428) - c436) - c445) - c454) - c463) - 1) - c477) - c483) - c489) - c497) - c506) - c517) - 1) - c529) - c535) ∧ s544 ≤ (((((((((((((((((rs - 4) - s423) - s429) - s437) - s446) - s455) - s464) - 4) - s478) - s484) - s490) - s498) - s507) - s518) - 4) - s530) - s536) ∧ ((Is G w539 a541 (kO 17)) ∧ DP G M_Sb_append_bf812 [vA a541, vI (wI w539 a124 3)] w539 c543 s544 (fun v549 w548 => ∃ a550 : Nat, v549 = some a550 ∧ (∃ c552 s553 : Nat, c552 ≤ ((((((((((((((((((rc - 1) - c422) - c428) - c436) - c445) - c454) - c463) - 1) - c477) - c483) - c489) - c497) - c506) - c517) - 1) - c529) - c535) - c543) ∧ s553 ≤ ((((((((((((((((((rs - 4) - s423) - s429) - s437) - s446) - s455) - s464) - 4) - s478) - s484) - s490) - s498) - s507) - s518) - 4) - s530) - s536) - s544) ∧ ((Is G w548 a550 (kO 17)) ∧ DP G M_Sb_toString [vA a550] w548 c552 s553 (fun v558 w557 => ∃ a559 : Nat, v523 = some a559 ∧ (∃ a561 : Nat, v558 = some a561 ∧ (∃ c563 s564 : Nat, c563 ≤ (((((((((((((((((((rc - 1) - c422) - c428) - c436) - c445) - c454) - c463) - 1) - c477) - c483) - c489) - c497) - c506) - c517) - 1) - c529) - c535) - c543) - c552) ∧ s564 ≤ (((((((((((((((((((rs - 4) - s423) - s429) - s437) - s446) - s455) - s464) - 4) - s478) - s484) - s490) - s498) - s507) - s518) - 4) - s530) - s536) - s544) - s553) ∧ ((Is G w557 a559 (kO 17)) ∧ DP G M_Sb_append_15ec4 [vA a559, vA a561] w557 c563 s564 (fun v569 w568 => ∃ a570 : Nat, v569 = some a570 ∧ (∃ c572 s573 : Nat, c572 ≤ ((((((((((((((((((((rc - 1) - c422) - c428) - c436) - c445) - c454) - c463) - 1) - c477) - c483) - c489) - c497) - c506) - c517) - 1) - c529) - c535) - c543) - c552) - c563) ∧ s573 ≤ ((((((((((((((((((((rs - 4) - s423) - s429) - s437) - s446) - s455) - s464) - 4) - s478) - s484) - s490) - s498) - s507) - s518) - 4) - s530) - s536) - s544) - s553) - s564) ∧ ((Is G w568 a570 (kO 17)) ∧ DP G M_Sb_toString [vA a570] w568 c572 s573 (fun v578 w577 => CI M_Cs_drawn [vR 0, vI x6] (wS w577) (fun v579 σ580 => (v579 = x9 → WD G M_Cl_lists 264 [(0, vR 0), (1, vA x1), (2, vA x2), (3, vA a8), (4, vI x4), (5, vI (x5 + 1)), (6, vI x6), (7, vL (x7 + v416)), (9, vI x9), (11, vP v578), (12, vI 0)] [] (uS w577 σ580) (((((((((((((((((((((rc - 1) - c422) - c428) - c436) - c445) - c454) - c463) - 1) - c477) - c483) - c489) - c497) - c506) - c517) - 1) - c529) - c535) - c543) - c552) - c563) - c572) (((((((((((((((((((((rs - 4) - s423) - s429) - s437) - s446) - s455) - s464) - 4) - s478) - s484) - s490) - s498) - s507) - s518) - 4) - s530) - s536) - s544) - s553) - s564) - s573) (yI K)) ∧ (¬ v579 = x9 → K 0 (uS w577 σ580)))))))))))))))))))))) ∧ (¬ 0 ≤ (wI w522 a124 3) → ∃ a582 : Nat, v523 = some a582 ∧ (∃ c584 s585 : Nat, c584 ≤ ((((((((((((((rc - 1) - c422) - c428) - c436) - c445) - c454) - c463) - 1) - c477) - c483) - c489) - c497) - c506) - c517) ∧ s585 ≤ ((((((((((((((rs - 4) - s423) - s429) - s437) - s446) - s455) - s464) - 4) - s478) - s484) - s490) - s498) - s507) - s518) ∧ ((Is G w522 a582 (kO 17)) ∧ DP G M_Sb_append_15ec4 [vA a582, vA (xa G 280)] w522 c584 s585 (fun v590 w589 => ∃ a591 : Nat, v590 = some a591 ∧ (∃ c593 s594 : Nat, c593 ≤ (((((((((((((((rc - 1) - c422) - c428) - c436) - c445) - c454) - c463) - 1) - c477) - c483) - c489) - c497) - c506) - c517) - c584) ∧ s594 ≤ (((((((((((((((rs - 4) - s423) - s429) - s437) - s446) - s455) - s464) - 4) - s478) - s484) - s490) - s498) - s507) - s518) - s585) ∧ ((Is G w589 a591 (kO 17)) ∧ DP G M_Sb_toString [vA a591] w589 c593 s594 (fun v599 w598 => CI M_Cs_drawn [vR 0, vI x6] (wS w598) (fun v600 σ601 => (v600 = x9 → WD G M_Cl_lists 264 [(0, vR 0), (1, vA x1), (2, vA x2), (3, vA a8), (4, vI x4), (5, vI (x5 + 1)), (6, vI x6), (7, vL (x7 + v416)), (9, vI x9), (11, vP v599), (12, vI 0)] [] (uS w598 σ601) ((((((((((((((((rc - 1) - c422) - c428) - c436) - c445) - c454) - c463) - 1) - c477) - c483) - c489) - c497) - c506) - c517) - c584) - c593) ((((((((((((((((rs - 4) - s423) - s429) - s437) - s446) - s455) - s464) - 4) - s478) - s484) - s490) - s498) - s507) - s518) - s585) - s594) (yI K)) ∧ (¬ v600 = x9 → K 0 (uS w598 σ601)))))))))))))))))))))))))))) ∧ (¬ v471 = 0 → ∃ a603 : Nat, v469 = some a603 ∧ (∃ c605 s606 : Nat, c605 ≤ (((((((rc - 1) - c422) - c428) - c436) - c445) - c454) - c463) ∧ s606 ≤ (((((((rs - 4) - s423) - s429) - s437) - s446) - s455) - s464) ∧ ((Is G w470 a603 (kO 17)) ∧ DP G M_Sb_append_15ec4 [vA a603, vA (xa G 276)] w470 c605 s606 (fun v611 w610 => (0 ≤ (wI w610 a124 3) → (1 ≤ ((((((((rc - 1) - c422) - c428) - c436) - c445) - c454) - c463) - c605)) ∧ (4 ≤ ((((((((rs - 4) - s423) - s429) - s437) - s446) - s455) - s464) - s606)) ∧ ∀ q615 : Nat, Fr G w610 q615 → (∃ c617 s618 : Nat, c617 ≤ (((((((((rc - 1) - c422) - c428) - c436) - c445) - c454) - c463) - c605) - 1) ∧ s618 ≤ (((((((((rs - 4) - s423) - s429) - s437) - s446) - s455) - s464) - s606) - 4) ∧ (DV G M_Sb_init [vA q615] (uN w610 q615 (kO 17)) c617 s618 (fun w621 => ∃ c623 s624 : Nat, c623 ≤ ((((((((((rc - 1) - c422) - c428) - c436) - c445) - c454) - c463) - c605) - 1) - c617) ∧ s624 ≤ ((((((((((rs - 4) - s423) - s429) - s437) - s446) - s455) - s464) - s606) - 4) - s618) ∧ (DP G M_Sb_append_15ec4 [vA q615, vA (xa G 282)] w621 c623 s624 (fun v628 w627 => ∃ a629 : Nat, v628 = some a629 ∧ (∃ c631 s632 : Nat, c631 ≤ (((((((((((rc - 1) - c422) - c428) - c436) - c445) - c454) - c463) - c605) - 1) - c617) - c623) ∧ s632 ≤ (((((((((((rs - 4) - s423) - s429) - s437) - s446) - s455) - s464) - s606) - 4) - s618) - s624) ∧ ((Is G w627 a629 (kO 17)) ∧ DP G M_Sb_append_bf812 [vA a629, vI (wI w627 a124 3)] w627 c631 s632 (fun v637 w636 => ∃ a638 : Nat, v637 = some a638 ∧ (∃ c640 s641 : Nat, c640 ≤ ((((((((((((rc - 1) - c422) - c428) - c436) - c445) - c454) - c463) - c605) - 1) - c617) - c623) - c631) ∧ s641 ≤ ((((((((((((rs - 4) - s423) - s429) - s437) - s446) - s455) - s464) - s606) - 4) - s618) - s624) - s632) ∧ ((Is G w636 a638 (kO 17)) ∧ DP G M_Sb_toString [vA a638] w636 c640 s641 (fun v646 w645 => ∃ a647 : Nat, v611 = some a647 ∧ (∃ a649 : Nat, v646 = some a649 ∧ (∃ c651 s652 : Nat, c651 ≤ (((((((((((((rc - 1) - c422) - c428) - c436) - c445) - c454) - c463) - c605) - 1) - c617) - c623) - c631) - c640) ∧ s652 ≤ (((((((((((((rs - 4) - s423) - s429) - s437) - s446) - s455) - s464) - s606) - 4) - s618) - s624) - s632) - s641) ∧ ((Is G w645 a647 (kO 17)) ∧ DP G M_Sb_append_15ec4 [vA a647, vA a649] w645 c651 s652 (fun v657 w656 => ∃ a658 : Nat, v657 = some a658 ∧ (∃ c660 s661 : Nat, c660 ≤ ((((((((((((((rc - 1) - c422) - c428) - c436) - c445) - c454) - c463) - c605) - 1) - c617) - c623) - c631) - c640) - c651) ∧ s661 ≤ ((((((((((((((rs - 4) - s423) - s429) - s437) - s446) - s455) - s464) - s606) - 4) - s618) - s624) - s632) - s641) - s652) ∧ ((Is G w656 a658 (kO 17)) ∧ DP G M_Sb_toString [vA a658] w656 c660 s661 (fun v666 w665 => CI M_Cs_drawn [vR 0, vI x6] (wS w665) (fun v667 σ668 => (v667 = x9 → WD G M_Cl_lists 264 [(0, vR 0), (1, vA x1), (2, vA x2), (3, vA a8), (4, vI x4), (5, vI (x5 + 1)), (6, vI x6), (7, vL (x7 + v416)), (9, vI x9), (11, vP v666), (12, vI 0)] [] (uS w665 σ668) (((((((((((((((rc - 1) - c422) - c428) - c436) - c445) - c454) - c463) - c605) - 1) - c617) - c623) - c631) - c640) - c651) - c660) (((((((((((((((rs - 4) - s423) - s429) - s437) - s446) - s455) - s464) - s606) - 4) - s618) - s624) - s632) - s641) - s652) - s661) (yI K)) ∧ (¬ v667 = x9 → K 0 (uS w665 σ668)))))))))))))))))))))) ∧ (¬ 0 ≤ (wI w610 a124 3) → ∃ a670 : Nat, v611 = some a670 ∧ (∃ c672 s673 : Nat, c672 ≤ ((((((((rc - 1) - c422) - c428) - c436) - c445) - c454) - c463) - c605) ∧ s673 ≤ ((((((((rs - 4) - s423) - s429) - s437) - s446) - s455) - s464) - s606) ∧ ((Is G w610 a670 (kO 17)) ∧ DP G M_Sb_append_15ec4 [vA a670, vA (xa G 280)] w610 c672 s673 (fun v678 w677 => ∃ a679 : Nat, v678 = some a679 ∧ (∃ c681 s682 : Nat, c681 ≤ (((((((((rc - 1) - c422) - c428) - c436) - c445) - c454) - c463) - c605) - c672) ∧ s682 ≤ (((((((((rs - 4) - s423) - s429) - s437) - s446) - s455) - s464) - s606) - s673) ∧ ((Is G w677 a679 (kO 17)) ∧ DP G M_Sb_toString [vA a679] w677 c681 s682 (fun v687 w686 => CI M_Cs_drawn [vR 0, vI x6] (wS w686) (fun v688 σ689 => (v688 = x9 → WD G M_Cl_lists 264 [(0, vR 0), (1, vA x1), (2, vA x2), (3, vA a8), (4, vI x4), (5, vI (x5 + 1)), (6, vI x6), (7, vL (x7 + v416)), (9, vI x9), (11, vP v687), (12, vI 0)] [] (uS w686 σ689) ((((((((((rc - 1) - c422) - c428) - c436) - c445) - c454) - c463) - c605) - c672) - c681) ((((((((((rs - 4) - s423) - s429) - s437) - s446) - s455) - s464) - s606) - s673) - s682) (yI K)) ∧ (¬ v688 = x9 → K 0 (uS w686 σ689)))))))))))))))))))))))))))))))))) ∧ (¬ v412 = x9 → K 0 (uS w127 σ413)))))) ∧ (¬ v128 = 0 → (inR (x4 + 1)) ∧ CI M_Cs_certain [vR 0, vI x4] (wS w127) (fun v692 σ693 => (¬ v692 = x9 → K 0 (uS w127 σ693)) ∧ (v692 = x9 → (0 ≤ x9) ∧ (x9 < (n10 : Int)) ∧ ((wI w127 a8 x9) = 0 → (inR (x9 + 1)) ∧ WD G M_Cl_lists 21 [(0, vR 0), (1, vA x1), (2, vA x2), (3, vP (some a8)), (4, vI (x4 + 1)), (5, vI x5), (6, vI x6), (7, vL x7), (9, vI (x9 + 1))] [] (uS w127 σ693) rc rs (yI K)) ∧ (¬ (wI w127 a8 x9) = 0 → (0 ≤ (wI w127 a124 3) → DI G M_It_coins [vA a124] (uS w127 σ693) 0 0 (fun v701 w700 => (inL (x7 + v701)) ∧ (1 ≤ rc) ∧ (4 ≤ rs) ∧ ∀ q705 : Nat, Fr G w700 q705 → (∃ c707 s708 : Nat, c707 ≤ (rc - 1) ∧ s708 ≤ (rs - 4) ∧ (DV G M_Sb_init [vA q705] (uN w700 q705 (kO 17)) c707 s708 (fun w711 => ∃ c713 s714 : Nat, c713 ≤ ((rc - 1) - c707) ∧ s714 ≤ ((rs - 4) - s708) ∧ (DP G M_Sb_append_bf812 [vA q705, vI (wI w711 a124 0)] w711 c713 s714 (fun v718 w717 => ∃ a719 : Nat, v718 = some a719 ∧ (∃ c721 s722 : Nat, c721 ≤ (((rc - 1) - c707) - c713) ∧ s722 ≤ (((rs - 4) - s708) - s714) ∧ ((Is G w717 a719 (kO 17)) ∧ DP G M_Sb_append_15ec4 [vA a719, vA (xa G 274)] w717 c721 s722 (fun v727 w726 => ∃ a728 : Nat, v727 = some a728 ∧ (∃ c730 s731 : Nat, c730 ≤ ((((rc - 1) - c707) - c713) - c721) ∧ s731 ≤ ((((rs - 4) - s708) - s714) - s722) ∧ ((Is G w726 a728 (kO 17)) ∧ DP G M_Sb_append_bf812 [vA a728, vI (wI w726 a124 1)] w726 c730 s731 (fun v736 w735 => ∃ a737 : Nat, v736 = some a737 ∧ (∃ c739 s740 : Nat, c739 ≤ (((((rc - 1) - c707) - c713) - c721) - c730) ∧ s740 ≤ (((((rs - 4) - s708) - s714) - s722) - s731) ∧ ((Is G w735 a737 (kO 17)) ∧ DP G M_Sb_append_15ec4 [vA a737, vA (xa G 268)] w735 c739 s740 (fun v745 w744 => ∃ a746 : Nat, v745 = some a746 ∧ (∃ c748 s749 : Nat, c748 ≤ ((((((rc - 1) - c707) - c713) - c721) - c730) - c739) ∧ s749 ≤ ((((((rs - 4) - s708) - s714) - s722) - s731) - s740) ∧ ((Is G w744 a746 (kO 17)) ∧ DP G M_Sb_append_bf812 [vA a746, vI (wI w744 a124 2)] w744 c748 s749 (fun v754 w753 => DI G M_Bo_certain [vA x1, vA a124] w753 0 0 (fun v756 w755 => (v756 = 0 → (1 ≤ (((((((rc - 1) - c707) - c713) - c721) - c730) - c739) - c748)) ∧ (4 ≤ (((((((rs - 4) - s708) - s714) - s722) - s731) - s740) - s749)) ∧ ∀ q760 : Nat, Fr G w755 q760 → (∃ c762 s763 : Nat, c762 ≤ ((((((((rc - 1) - c707) - c713) - c721) - c730) - c739) - c748) - 1) ∧ s763 ≤ ((((((((rs - 4) - s708) - s714) - s722) - s731) - s740) - s749) - 4) ∧ (DV G M_Sb_init [vA q760] (uN w755 q760 (kO 17)) c762 s763 (fun w766 => ∃ c768 s769 : Nat, c768 ≤ (((((((((rc - 1) - c707) - c713) - c721) - c730) - c739) - c748) - 1) - c762) ∧ s769 ≤ (((((((((rs - 4) - s708) - s714) - s722) - s731) - s740) - s749) - 4) - s763) ∧ (DP G M_Sb_append_15ec4 [vA q760, vA (xa G 278)] w766 c768 s769 (fun v773 w772 => ∃ c774 s775 : Nat, c774 ≤ ((((((((((rc - 1) - c707) - c713) - c721) - c730) - c739) - c748) - 1) - c762) - c768) ∧ s775 ≤ ((((((((((rs - 4) - s708) - s714) - s722) - s731) - s740) - s749) - 4) - s763) - s769) ∧ (DI G M_Cl_oftenOf [vA x2, vI x9] w772 c774 s775 (fun v779 w778 => ∃ a780 : Nat, v773 = some a780 ∧ (∃ c782 s783 : Nat, c782 ≤ (((((((((((rc - 1) - c707) - c713) - c721) - c730) - c739) - c748) - 1) - c762) - c768) - c774) ∧ s783 ≤ (((((((((((rs - 4) - s708) - s714) - s722) - s731) - s740) - s749) - 4) - s763) - s769) - s775) ∧ ((Is G w778 a780 (kO 17)) ∧ DP G M_Sb_append_bf812 [vA a780, vI v779] w778 c782 s783 (fun v788 w787 => ∃ a789 : Nat, v788 = some a789 ∧ (∃ c791 s792 : Nat, c791 ≤ ((((((((((((rc - 1) - c707) - c713) - c721) - c730) - c739) - c748) - 1) - c762) - c768) - c774) - c782) ∧ s792 ≤ ((((((((((((rs - 4) - s708) - s714) - s722) - s731) - s740) - s749) - 4) - s763) - s769) - s775) - s783) ∧ ((Is G w787 a789 (kO 17)) ∧ DP G M_Sb_toString [vA a789] w787 c791 s792 (fun v797 w796 => ∃ a798 : Nat, v754 = some a798 ∧ (∃ a800 : Nat, v797 = some a800 ∧ (∃ c802 s803 : Nat, c802 ≤ (((((((((((((rc - 1) - c707) - c713) - c721) - c730) - c739) - c748) - 1) - c762) - c768) - c774) - c782) - c791) ∧ s803 ≤ (((((((((((((rs - 4) - s708) - s714) - s722) - s731) - s740) - s749) - 4) - s763) - s769) - s775) - s783) - s792) ∧ ((Is G w796 a798 (kO 17)) ∧ DP G M_Sb_append_15ec4 [vA a798, vA a800] w796 c802 s803 (fun v808 w807 => (0 ≤ (wI w807 a124 3) → (1 ≤ ((((((((((((((rc - 1) - c707) - c713) - c721) - c730) - c739) - c748) - 1) - c762) - c768) - c774) - c782) - c791) - c802)) ∧ (4 ≤ ((((((((((((((rs - 4) - s708) - s714) - s722) - s731) - s740) - s749) - 4) - s763) - s769) - s775) - s783) - s792) - s803)) ∧ ∀ q812 : Nat, Fr G w807 q812 → (∃ c814 s815 : Nat, c814 ≤ (((((((((((((((rc - 1) - c707) - c713) - c721) - c730) - c739) - c748) - 1) - c762) - c768) - c774) - c782) - c791) - c802) - 1) ∧ s815 ≤ (((((((((((((((rs - 4) - s708) - s714) - s722) - s731) - s740) - s749) - 4) - s763) - s769) - s775) - s783) - s792) - s803) - 4) ∧ (DV G M_Sb_init [vA q812] (uN w807 q812 (kO 17)) c814 s815 (fun w818 => ∃ c820 s821 : Nat, c820 ≤ ((((((((((((((((rc - 1) - c707) - c713) - c721) - c730) - c739) - c748) - 1) - c762) - c768) - c774) - c782) - c791) - c802) - 1) - c814) ∧ s821 ≤ ((((((((((((((((rs - 4) - s708) - s714) - s722) - s731) - s740) - s749) - 4) - s763) - s769) - s775) - s783) - s792) - s803) - 4) - s815) ∧ (DP G M_Sb_append_15ec4 [vA q812, vA (xa G 282)] w818 c820 s821 (fun v825 w824 => ∃ a826 : Nat, v825 = some a826 ∧ (∃ c828 s829 : Nat, c828 ≤ (((((((((((((((((rc - 1) - c707) - c713) - c721) - c730) - c739) - c748) - 1) - c762) - c768) - c774) - c782) - c791) - c802) - 1) - c814) - c820) ∧ s829 ≤ (((((((((((((((((rs - 4) - s708) - s714) - s722) - s731) - s740) - s749) - 4) - s763) - s769) - s775) - s783) - s792) - s803) - 4) - s815) - s821) ∧ ((Is G w824 a826 (kO 17)) ∧ DP G M_Sb_append_bf812 [vA a826, vI (wI w824 a124 3)] w824 c828 s829 (fun v834 w833 => ∃ a835 : Nat, v834 = some a835 ∧ (∃ c837 s838 : Nat, c837 ≤ ((((((((((((((((((rc - 1) - c707) - c713) - c721) - c730) - c739) - c748) - 1) - c762) - c768) - c774) - c782) - c791) - c802) - 1) - c814) - c820) - c828) ∧ s838 ≤ ((((((((((((((((((rs - 4) - s708) - s714) - s722) - s731) - s740) - s749) - 4) - s763) - s769) - s775) - s783) - s792) - s803) - 4) - s815) - s821) - s829) ∧ ((Is G w833 a835 (kO 17)) ∧ DP G M_Sb_toString [vA a835] w833 c837 s838 (fun v843 w842 => ∃ a844 : Nat, v808 = some a844 ∧ (∃ a846 : Nat, v843 = some a846 ∧ (∃ c848 s849 : Nat, c848 ≤ (((((((((((((((((((rc - 1) - c707) - c713) - c721) - c730) - c739) - c748) - 1) - c762) - c768) - c774) - c782) - c791) - c802) - 1) - c814) - c820) - c828) - c837) ∧ s849 ≤ (((((((((((((((((((rs - 4) - s708) - s714) - s722) - s731) - s740) - s749) - 4) - s763) - s769) - s775) - s783) - s792) - s803) - 4) - s815) - s821) - s829) - s838) ∧ ((Is G w842 a844 (kO 17)) ∧ DP G M_Sb_append_15ec4 [vA a844, vA a846] w842 c848 s849 (fun v854 w853 => ∃ a855 : Nat, v854 = some a855 ∧ (∃ c857 s858 : Nat, c857 ≤ ((((((((((((((((((((rc - 1) - c707) - c713) - c721) - c730) - c739) - c748) - 1) - c762) - c768) - c774) - c782) - c791) - c802) - 1) - c814) - c820) - c828) - c837) - c848) ∧ s858 ≤ ((((((((((((((((((((rs - 4) - s708) - s714) - s722) - s731) - s740) - s749) - 4) - s763) - s769) - s775) - s783) - s792) - s803) - 4) - s815) - s821) - s829) - s838) - s849) ∧ ((Is G w853 a855 (kO 17)) ∧ DP G M_Sb_toString [vA a855] w853 c857 s858 (fun v863 w862 => CI M_Cs_drawn [vR 0, vI x6] (wS w862) (fun v864 σ865 => (v864 = x9 → WD G M_Cl_lists 264 [(0, vR 0), (1, vA x1), (2, vA x2), (3, vA a8), (4, vI (x4 + 1)), (5, vI x5), (6, vI x6), (7, vL (x7 + v701)), (9, vI x9), (11, vP v863), (12, vI 0)] [] (uS w862 σ865) (((((((((((((((((((((rc - 1) - c707) - c713) - c721) - c730) - c739) - c748) - 1) - c762) - c768) - c774) - c782) - c791) - c802) - 1) - c814) - c820) - c828) - c837) - c848) - c857) (((((((((((((((((((((rs - 4) - s708) - s714) - s722) - s731) - s740) - s749) - 4) - s763) - s769) - s775) - s783) - s792) - s803) - 4) - s815) - s821) - s829) - s838) - s849) - s858) (yI K)) ∧ (¬ v864 = x9 → K 0 (uS w862 σ865)))))))))))))))))))))) ∧ (¬ 0 ≤ (wI w807 a124 3) → ∃ a867 : Nat, v808 = some a867 ∧ (∃ c869 s870 : Nat, c869 ≤ ((((((((((((((rc - 1) - c707) - c713) - c721) - c730) - c739) - c748) - 1) - c762) - c768) - c774) - c782) - c791) - c802) ∧ s870 ≤ ((((((((((((((rs - 4) - s708) - s714) - s722) - s731) - s740) - s749) - 4) - s763) - s769) - s775) - s783) - s792) - s803) ∧ ((Is G w807 a867 (kO 17)) ∧ DP G M_Sb_append_15ec4 [vA a867, vA (xa G 280)] w807 c869 s870 (fun v875 w874 => ∃ a876 : Nat, v875 = some a876 ∧ (∃ c878 s879 : Nat, c878 ≤ (((((((((((((((rc - 1) - c707) - c713) - c721) - c730) - c739) - c748) - 1) - c762) - c768) - c774) - c782) - c791) - c802) - c869) ∧ s879 ≤ (((((((((((((((rs - 4) - s708) - s714) - s722) - s731) - s740) - s749) - 4) - s763) - s769) - s775) - s783) - s792) - s803) - s870) ∧ ((Is G w874 a876 (kO 17)) ∧ DP G M_Sb_toString [vA a876] w874 c878 s879 (fun v884 w883 => CI M_Cs_drawn [vR 0, vI x6] (wS w883) (fun v885 σ886 => (v885 = x9 → WD G M_Cl_lists 264 [(0, vR 0), (1, vA x1), (2, vA x2), (3, vA a8), (4, vI (x4 + 1)), (5, vI x5), (6, vI x6), (7, vL (x7 + v701)), (9, vI x9), (11, vP v884), (12, vI 0)] [] (uS w883 σ886) ((((((((((((((((rc - 1) - c707) - c713) - c721) - c730) - c739) - c748) - 1) - c762) - c768) - c774) - c782) - c791) - c802) - c869) - c878) ((((((((((((((((rs - 4) - s708) - s714) - s722) - s731) - s740) - s749) - 4) - s763) - s769) - s775) - s783) - s792) - s803) - s870) - s879) (yI K)) ∧ (¬ v885 = x9 → K 0 (uS w883 σ886)))))))))))))))))))))))))))) ∧ (¬ v756 = 0 → ∃ a888 : Nat, v754 = some a888 ∧ (∃ c890 s891 : Nat, c890 ≤ (((((((rc - 1) - c707) - c713) - c721) - c730) - c739) - c748) ∧ s891 ≤ (((((((rs - 4) - s708) - s714) - s722) - s731) - s740) - s749) ∧ ((Is G w755 a888 (kO 17)) ∧ DP G M_Sb_append_15ec4 [vA a888, vA (xa G 276)] w755 c890 s891 (fun v896 w895 => (0 ≤ (wI w895 a124 3) → (1 ≤ ((((((((rc - 1) - c707) - c713) - c721) - c730) - c739) - c748) - c890)) ∧ (4 ≤ ((((((((rs - 4) - s708) - s714) - s722) - s731) - s740) - s749) - s891)) ∧ ∀ q900 : Nat, Fr G w895 q900 → (∃ c902 s903 : Nat, c902 ≤ (((((((((rc - 1) - c707) - c713) - c721) - c730) - c739) - c748) - c890) - 1) ∧ s903 ≤ (((((((((rs - 4) - s708) - s714) - s722) - s731) - s740) - s749) - s891) - 4) ∧ (DV G M_Sb_init [vA q900] (uN w895 q900 (kO 17)) c902 s903 (fun w906 => ∃ c908 s909 : Nat, c908 ≤ ((((((((((rc - 1) - c707) - c713) - c721) - c730) - c739) - c748) - c890) - 1) - c902) ∧ s909 ≤ ((((((((((rs - 4) - s708) - s714) - s722) - s731) - s740) - s749) - s891) - 4) - s903) ∧ (DP G M_Sb_append_15ec4 [vA q900, vA (xa G 282)] w906 c908 s909 (fun v913 w912 => ∃ a914 : Nat, v913 = some a914 ∧ (∃ c916 s917 : Nat, c916 ≤ (((((((((((rc - 1) - c707) - c713) - c721) - c730) - c739) - c748) - c890) - 1) - c902) - c908) ∧ s917 ≤ (((((((((((rs - 4) - s708) - s714) - s722) - s731) - s740) - s749) - s891) - 4) - s903) - s909) ∧ ((Is G w912 a914 (kO 17)) ∧ DP G M_Sb_append_bf812 [vA a914, vI (wI w912 a124 3)] w912 c916 s917 (fun v922 w921 => ∃ a923 : Nat, v922 = some a923 ∧ (∃ c925 s926 : Nat, c925 ≤ ((((((((((((rc - 1) - c707) - c713) - c721) - c730) - c739) - c748) - c890) - 1) - c902) - c908) - c916) ∧ s926 ≤ ((((((((((((rs - 4) - s708) - s714) - s722) - s731) - s740) - s749) - s891) - 4) - s903) - s909) - s917) ∧ ((Is G w921 a923 (kO 17)) ∧ DP G M_Sb_toString [vA a923] w921 c925 s926 (fun v931 w930 => ∃ a932 : Nat, v896 = some a932 ∧ (∃ a934 : Nat, v931 = some a934 ∧ (∃ c936 s937 : Nat, c936 ≤ (((((((((((((rc - 1) - c707) - c713) - c721) - c730) - c739) - c748) - c890) - 1) - c902) - c908) - c916) - c925) ∧ s937 ≤ (((((((((((((rs - 4) - s708) - s714) - s722) - s731) - s740) - s749) - s891) - 4) - s903) - s909) - s917) - s926) ∧ ((Is G w930 a932 (kO 17)) ∧ DP G M_Sb_append_15ec4 [vA a932, vA a934] w930 c936 s937 (fun v942 w941 => ∃ a943 : Nat, v942 = some a943 ∧ (∃ c945 s946 : Nat, c945 ≤ ((((((((((((((rc - 1) - c707) - c713) - c721) - c730) - c739) - c748) - c890) - 1) - c902) - c908) - c916) - c925) - c936) ∧ s946 ≤ ((((((((((((((rs - 4) - s708) - s714) - s722) - s731) - s740) - s749) - s891) - 4) - s903) - s909) - s917) - s926) - s937) ∧ ((Is G w941 a943 (kO 17)) ∧ DP G M_Sb_toString [vA a943] w941 c945 s946 (fun v951 w950 => CI M_Cs_drawn [vR 0, vI x6] (wS w950) (fun v952 σ953 => (v952 = x9 → WD G M_Cl_lists 264 [(0, vR 0), (1, vA x1), (2, vA x2), (3, vA a8), (4, vI (x4 + 1)), (5, vI x5), (6, vI x6), (7, vL (x7 + v701)), (9, vI x9), (11, vP v951), (12, vI 0)] [] (uS w950 σ953) (((((((((((((((rc - 1) - c707) - c713) - c721) - c730) - c739) - c748) - c890) - 1) - c902) - c908) - c916) - c925) - c936) - c945) (((((((((((((((rs - 4) - s708) - s714) - s722) - s731) - s740) - s749) - s891) - 4) - s903) - s909) - s917) - s926) - s937) - s946) (yI K)) ∧ (¬ v952 = x9 → K 0 (uS w950 σ953)))))))))))))))))))))) ∧ (¬ 0 ≤ (wI w895 a124 3) → ∃ a955 : Nat, v896 = some a955 ∧ (∃ c957 s958 : Nat, c957 ≤ ((((((((rc - 1) - c707) - c713) - c721) - c730) - c739) - c748) - c890) ∧ s958 ≤ ((((((((rs - 4) - s708) - s714) - s722) - s731) - s740) - s749) - s891) ∧ ((Is G w895 a955 (kO 17)) ∧ DP G M_Sb_append_15ec4 [vA a955, vA (xa G 280)] w895 c957 s958 (fun v963 w962 => ∃ a964 : Nat, v963 = some a964 ∧ (∃ c966 s967 : Nat, c966 ≤ (((((((((rc - 1) - c707) - c713) - c721) - c730) - c739) - c748) - c890) - c957) ∧ s967 ≤ (((((((((rs - 4) - s708) - s714) - s722) - s731) - s740) - s749) - s891) - s958) ∧ ((Is G w962 a964 (kO 17)) ∧ DP G M_Sb_toString [vA a964] w962 c966 s967 (fun v972 w971 => CI M_Cs_drawn [vR 0, vI x6] (wS w971) (fun v973 σ974 => (v973 = x9 → WD G M_Cl_lists 264 [(0, vR 0), (1, vA x1), (2, vA x2), (3, vA a8), (4, vI (x4 + 1)), (5, vI x5), (6, vI x6), (7, vL (x7 + v701)), (9, vI x9), (11, vP v972), (12, vI 0)] [] (uS w971 σ974) ((((((((((rc - 1) - c707) - c713) - c721) - c730) - c739) - c748) - c890) - c957) - c966) ((((((((((rs - 4) - s708) - s714) - s722) - s731) - s740) - s749) - s891) - s958) - s967) (yI K)) ∧ (¬ v973 = x9 → K 0 (uS w971 σ974)))))))))))))))))))))))))))))))))) ∧ (¬ 0 ≤ (wI w127 a124 3) → (inR (x5 + 1)) ∧ CI M_Cs_lacking [vR 0, vI x5] (wS (uS w127 σ693)) (fun v977 σ978 => (v977 = x9 → DI G M_It_coins [vA a124] (uS (uS w127 σ693) σ978) 0 0 (fun v981 w980 => (inL (x7 + v981)) ∧ (1 ≤ rc) ∧ (4 ≤ rs) ∧ ∀ q985 : Nat, Fr G w980 q985 → (∃ c987 s988 : Nat, c987 ≤ (rc - 1) ∧ s988 ≤ (rs - 4) ∧ (DV G M_Sb_init [vA q985] (uN w980 q985 (kO 17)) c987 s988 (fun w991 => ∃ c993 s994 : Nat, c993 ≤ ((rc - 1) - c987) ∧ s994 ≤ ((rs - 4) - s988) ∧ (DP G M_Sb_append_bf812 [vA q985, vI (wI w991 a124 0)] w991 c993 s994 (fun v998 w997 => ∃ a999 : Nat, v998 = some a999 ∧ (∃ c1001 s1002 : Nat, c1001 ≤ (((rc - 1) - c987) - c993) ∧ s1002 ≤ (((rs - 4) - s988) - s994) ∧ ((Is G w997 a999 (kO 17)) ∧ DP G M_Sb_append_15ec4 [vA a999, vA (xa G 274)] w997 c1001 s1002 (fun v1007 w1006 => ∃ a1008 : Nat, v1007 = some a1008 ∧ (∃ c1010 s1011 : Nat, c1010 ≤ ((((rc - 1) - c987) - c993) - c1001) ∧ s1011 ≤ ((((rs - 4) - s988) - s994) - s1002) ∧ ((Is G w1006 a1008 (kO 17)) ∧ DP G M_Sb_append_bf812 [vA a1008, vI (wI w1006 a124 1)] w1006 c1010 s1011 (fun v1016 w1015 => ∃ a1017 : Nat, v1016 = some a1017 ∧ (∃ c1019 s1020 : Nat, c1019 ≤ (((((rc - 1) - c987) - c993) - c1001) - c1010) ∧ s1020 ≤ (((((rs - 4) - s988) - s994) - s1002) - s1011) ∧ ((Is G w1015 a1017 (kO 17)) ∧ DP G M_Sb_append_15ec4 [vA a1017, vA (xa G 268)] w1015 c1019 s1020 (fun v1025 w1024 => ∃ a1026 : Nat, v1025 = some a1026 ∧ (∃ c1028 s1029 : Nat, c1028 ≤ ((((((rc - 1) - c987) - c993) - c1001) - c1010) - c1019) ∧ s1029 ≤ ((((((rs - 4) - s988) - s994) - s1002) - s1011) - s1020) ∧ ((Is G w1024 a1026 (kO 17)) ∧ DP G M_Sb_append_bf812 [vA a1026, vI (wI w1024 a124 2)] w1024 c1028 s1029 (fun v1034 w1033 => DI G M_Bo_certain [vA x1, vA a124] w1033 0 0 (fun v1036 w1035 => (v1036 = 0 → (1 ≤ (((((((rc - 1) - c987) - c993) - c1001) - c1010) - c1019) - c1028)) ∧ (4 ≤ (((((((rs - 4) - s988) - s994) - s1002) - s1011) - s1020) - s1029)) ∧ ∀ q1040 : Nat, Fr G w1035 q1040 → (∃ c1042 s1043 : Nat, c1042 ≤ ((((((((rc - 1) - c987) - c993) - c1001) - c1010) - c1019) - c1028) - 1) ∧ s1043 ≤ ((((((((rs - 4) - s988) - s994) - s1002) - s1011) - s1020) - s1029) - 4) ∧ (DV G M_Sb_init [vA q1040] (uN w1035 q1040 (kO 17)) c1042 s1043 (fun w1046 => ∃ c1048 s1049 : Nat, c1048 ≤ (((((((((rc - 1) - c987) - c993) - c1001) - c1010) - c1019) - c1028) - 1) - c1042) ∧ s1049 ≤ (((((((((rs - 4) - s988) - s994) - s1002) - s1011) - s1020) - s1029) - 4) - s1043) ∧ (DP G M_Sb_append_15ec4 [vA q1040, vA (xa G 278)] w1046 c1048 s1049 (fun v1053 w1052 => ∃ c1054 s1055 : Nat, c1054 ≤ ((((((((((rc - 1) - c987) - c993) - c1001) - c1010) - c1019) - c1028) - 1) - c1042) - c1048) ∧ s1055 ≤ ((((((((((rs - 4) - s988) - s994) - s1002) - s1011) - s1020) - s1029) - 4) - s1043) - s1049) ∧ (DI G M_Cl_oftenOf [vA x2, vI x9] w1052 c1054 s1055 (fun v1059 w1058 => ∃ a1060 : Nat, v1053 = some a1060 ∧ (∃ c1062 s1063 : Nat, c1062 ≤ (((((((((((rc - 1) - c987) - c993) - c1001) - c1010) - c1019) - c1028) - 1) - c1042) - c1048) - c1054) ∧ s1063 ≤ (((((((((((rs - 4) - s988) - s994) - s1002) - s1011) - s1020) - s1029) - 4) - s1043) - s1049) - s1055) ∧ ((Is G w1058 a1060 (kO 17)) ∧ DP G M_Sb_append_bf812 [vA a1060, vI v1059] w1058 c1062 s1063 (fun v1068 w1067 => ∃ a1069 : Nat, v1068 = some a1069 ∧ (∃ c1071 s1072 : Nat, c1071 ≤ ((((((((((((rc - 1) - c987) - c993) - c1001) - c1010) - c1019) - c1028) - 1) - c1042) - c1048) - c1054) - c1062) ∧ s1072 ≤ ((((((((((((rs - 4) - s988) - s994) - s1002) - s1011) - s1020) - s1029) - 4) - s1043) - s1049) - s1055) - s1063) ∧ ((Is G w1067 a1069 (kO 17)) ∧ DP G M_Sb_toString [vA a1069] w1067 c1071 s1072 (fun v1077 w1076 => ∃ a1078 : Nat, v1034 = some a1078 ∧ (∃ a1080 : Nat, v1077 = some a1080 ∧ (∃ c1082 s1083 : Nat, c1082 ≤ (((((((((((((rc - 1) - c987) - c993) - c1001) - c1010) - c1019) - c1028) - 1) - c1042) - c1048) - c1054) - c1062) - c1071) ∧ s1083 ≤ (((((((((((((rs - 4) - s988) - s994) - s1002) - s1011) - s1020) - s1029) - 4) - s1043) - s1049) - s1055) - s1063) - s1072) ∧ ((Is G w1076 a1078 (kO 17)) ∧ DP G M_Sb_append_15ec4 [vA a1078, vA a1080] w1076 c1082 s1083 (fun v1088 w1087 => (0 ≤ (wI w1087 a124 3) → (1 ≤ ((((((((((((((rc - 1) - c987) - c993) - c1001) - c1010) - c1019) - c1028) - 1) - c1042) - c1048) - c1054) - c1062) - c1071) - c1082)) ∧ (4 ≤ ((((((((((((((rs - 4) - s988) - s994) - s1002) - s1011) - s1020) - s1029) - 4) - s1043) - s1049) - s1055) - s1063) - s1072) - s1083)) ∧ ∀ q1092 : Nat, Fr G w1087 q1092 → (∃ c1094 s1095 : Nat, c1094 ≤ (((((((((((((((rc - 1) - c987) - c993) - c1001) - c1010) - c1019) - c1028) - 1) - c1042) - c1048) - c1054) - c1062) - c1071) - c1082) - 1) ∧ s1095 ≤ (((((((((((((((rs - 4) - s988) - s994) - s1002) - s1011) - s1020) - s1029) - 4) - s1043) - s1049) - s1055) - s1063) - s1072) - s1083) - 4) ∧ (DV G M_Sb_init [vA q1092] (uN w1087 q1092 (kO 17)) c1094 s1095 (fun w1098 => ∃ c1100 s1101 : Nat, c1100 ≤ ((((((((((((((((rc - 1) - c987) - c993) - c1001) - c1010) - c1019) - c1028) - 1) - c1042) - c1048) - c1054) - c1062) - c1071) - c1082) - 1) - c1094) ∧ s1101 ≤ ((((((((((((((((rs - 4) - s988) - s994) - s1002) - s1011) - s1020) - s1029) - 4) - s1043) - s1049) - s1055) - s1063) - s1072) - s1083) - 4) - s1095) ∧ (DP G M_Sb_append_15ec4 [vA q1092, vA (xa G 282)] w1098 c1100 s1101 (fun v1105 w1104 => ∃ a1106 : Nat, v1105 = some a1106 ∧ (∃ c1108 s1109 : Nat, c1108 ≤ (((((((((((((((((rc - 1) - c987) - c993) - c1001) - c1010) - c1019) - c1028) - 1) - c1042) - c1048) - c1054) - c1062) - c1071) - c1082) - 1) - c1094) - c1100) ∧ s1109 ≤ (((((((((((((((((rs - 4) - s988) - s994) - s1002) - s1011) - s1020) - s1029) - 4) - s1043) - s1049) - s1055) - s1063) - s1072) - s1083) - 4) - s1095) - s1101) ∧ ((Is G w1104 a1106 (kO 17)) ∧ DP G M_Sb_append_bf812 [vA a1106, vI (wI w1104 a124 3)] w1104 c1108 s1109 (fun v1114 w1113 => ∃ a1115 : Nat, v1114 = some a1115 ∧ (∃ c1117 s1118 : Nat, c1117 ≤ ((((((((((((((((((rc - 1) - c987) - c993) - c1001) - c1010) - c1019) - c1028) - 1) - c1042) - c1048) - c1054) - c1062) - c1071) - c1082) - 1) - c1094) - c1100) - c1108) ∧ s1118 ≤ ((((((((((((((((((rs - 4) - s988) - s994) - s1002) - s1011) - s1020) - s1029) - 4) - s1043) - s1049) - s1055) - s1063) - s1072) - s1083) - 4) - s1095) - s1101) - s1109) ∧ ((Is G w1113 a1115 (kO 17)) ∧ DP G M_Sb_toString [vA a1115] w1113 c1117 s1118 (fun v1123 w1122 => ∃ a1124 : Nat, v1088 = some a1124 ∧ (∃ a1126 : Nat, v1123 = some a1126 ∧ (∃ c1128 s1129 : Nat, c1128 ≤ (((((((((((((((((((rc - 1) - c987) - c993) - c1001) - c1010) - c1019) - c1028) - 1) - c1042) - c1048) - c1054) - c1062) - c1071) - c1082) - 1) - c1094) - c1100) - c1108) - c1117) ∧ s1129 ≤ (((((((((((((((((((rs - 4) - s988) - s994) - s1002) - s1011) - s1020) - s1029) - 4) - s1043) - s1049) - s1055) - s1063) - s1072) - s1083) - 4) - s1095) - s1101) - s1109) - s1118) ∧ ((Is G w1122 a1124 (kO 17)) ∧ DP G M_Sb_append_15ec4 [vA a1124, vA a1126] w1122 c1128 s1129 (fun v1134 w1133 => ∃ a1135 : Nat, v1134 = some a1135 ∧ (∃ c1137 s1138 : Nat, c1137 ≤ ((((((((((((((((((((rc - 1) - c987) - c993) - c1001) - c1010) - c1019) - c1028) - 1) - c1042) - c1048) - c1054) - c1062) - c1071) - c1082) - 1) - c1094) - c1100) - c1108) - c1117) - c1128) ∧ s1138 ≤ ((((((((((((((((((((rs - 4) - s988) - s994) - s1002) - s1011) - s1020) - s1029) - 4) - s1043) - s1049) - s1055) - s1063) - s1072) - s1083) - 4) - s1095) - s1101) - s1109) - s1118) - s1129) ∧ ((Is G w1133 a1135 (kO 17)) ∧ DP G M_Sb_toString [vA a1135] w1133 c1137 s1138 (fun v1143 w1142 => CI M_Cs_drawn [vR 0, vI x6] (wS w1142) (fun v1144 σ1145 => (v1144 = x9 → WD G M_Cl_lists 264 [(0, vR 0), (1, vA x1), (2, vA x2), (3, vA a8), (4, vI (x4 + 1)), (5, vI (x5 + 1)), (6, vI x6), (7, vL (x7 + v981)), (9, vI x9), (11, vP v1143), (12, vI 0)] [] (uS w1142 σ1145) (((((((((((((((((((((rc - 1) - c987) - c993) - c1001) - c1010) - c1019) - c1028) - 1) - c1042) - c1048) - c1054) - c1062) - c1071) - c1082) - 1) - c1094) - c1100) - c1108) - c1117) - c1128) - c1137) (((((((((((((((((((((rs - 4) - s988) - s994) - s1002) - s1011) - s1020) - s1029) - 4) - s1043) - s1049) - s1055) - s1063) - s1072) - s1083) - 4) - s1095) - s1101) - s1109) - s1118) - s1129) - s1138) (yI K)) ∧ (¬ v1144 = x9 → K 0 (uS w1142 σ1145)))))))))))))))))))))) ∧ (¬ 0 ≤ (wI w1087 a124 3) → ∃ a1147 : Nat, v1088 = some a1147 ∧ (∃ c1149 s1150 : Nat, c1149 ≤ ((((((((((((((rc - 1) - c987) - c993) - c1001) - c1010) - c1019) - c1028) - 1) - c1042) - c1048) - c1054) - c1062) - c1071) - c1082) ∧ s1150 ≤ ((((((((((((((rs - 4) - s988) - s994) - s1002) - s1011) - s1020) - s1029) - 4) - s1043) - s1049) - s1055) - s1063) - s1072) - s1083) ∧ ((Is G w1087 a1147 (kO 17)) ∧ DP G M_Sb_append_15ec4 [vA a1147, vA (xa G 280)] w1087 c1149 s1150 (fun v1155 w1154 => ∃ a1156 : Nat, v1155 = some a1156 ∧ (∃ c1158 s1159 : Nat, c1158 ≤ (((((((((((((((rc - 1) - c987) - c993) - c1001) - c1010) - c1019) - c1028) - 1) - c1042) - c1048) - c1054) - c1062) - c1071) - c1082) - c1149) ∧ s1159 ≤ (((((((((((((((rs - 4) - s988) - s994) - s1002) - s1011) - s1020) - s1029) - 4) - s1043) - s1049) - s1055) - s1063) - s1072) - s1083) - s1150) ∧ ((Is G w1154 a1156 (kO 17)) ∧ DP G M_Sb_toString [vA a1156] w1154 c1158 s1159 (fun v1164 w1163 => CI M_Cs_drawn [vR 0, vI x6] (wS w1163) (fun v1165 σ1166 => (v1165 = x9 → WD G M_Cl_lists 264 [(0, vR 0), (1, vA x1), (2, vA x2), (3, vA a8), (4, vI (x4 + 1)), (5, vI (x5 + 1)), (6, vI x6), (7, vL (x7 + v981)), (9, vI x9), (11, vP v1164), (12, vI 0)] [] (uS w1163 σ1166) ((((((((((((((((rc - 1) - c987) - c993) - c1001) - c1010) - c1019) - c1028) - 1) - c1042) - c1048) - c1054) - c1062) - c1071) - c1082) - c1149) - c1158) ((((((((((((((((rs - 4) - s988) - s994) - s1002) - s1011) - s1020) - s1029) - 4) - s1043) - s1049) - s1055) - s1063) - s1072) - s1083) - s1150) - s1159) (yI K)) ∧ (¬ v1165 = x9 → K 0 (uS w1163 σ1166)))))))))))))))))))))))))))) ∧ (¬ v1036 = 0 → ∃ a1168 : Nat, v1034 = some a1168 ∧ (∃ c1170 s1171 : Nat, c1170 ≤ (((((((rc - 1) - c987) - c993) - c1001) - c1010) - c1019) - c1028) ∧ s1171 ≤ (((((((rs - 4) - s988) - s994) - s1002) - s1011) - s1020) - s1029) ∧ ((Is G w1035 a1168 (kO 17)) ∧ DP G M_Sb_append_15ec4 [vA a1168, vA (xa G 276)] w1035 c1170 s1171 (fun v1176 w1175 => (0 ≤ (wI w1175 a124 3) → (1 ≤ ((((((((rc - 1) - c987) - c993) - c1001) - c1010) - c1019) - c1028) - c1170)) ∧ (4 ≤ ((((((((rs - 4) - s988) - s994) - s1002) - s1011) - s1020) - s1029) - s1171)) ∧ ∀ q1180 : Nat, Fr G w1175 q1180 → (∃ c1182 s1183 : Nat, c1182 ≤ (((((((((rc - 1) - c987) - c993) - c1001) - c1010) - c1019) - c1028) - c1170) - 1) ∧ s1183 ≤ (((((((((rs - 4) - s988) - s994) - s1002) - s1011) - s1020) - s1029) - s1171) - 4) ∧ (DV G M_Sb_init [vA q1180] (uN w1175 q1180 (kO 17)) c1182 s1183 (fun w1186 => ∃ c1188 s1189 : Nat, c1188 ≤ ((((((((((rc - 1) - c987) - c993) - c1001) - c1010) - c1019) - c1028) - c1170) - 1) - c1182) ∧ s1189 ≤ ((((((((((rs - 4) - s988) - s994) - s1002) - s1011) - s1020) - s1029) - s1171) - 4) - s1183) ∧ (DP G M_Sb_append_15ec4 [vA q1180, vA (xa G 282)] w1186 c1188 s1189 (fun v1193 w1192 => ∃ a1194 : Nat, v1193 = some a1194 ∧ (∃ c1196 s1197 : Nat, c1196 ≤ (((((((((((rc - 1) - c987) - c993) - c1001) - c1010) - c1019) - c1028) - c1170) - 1) - c1182) - c1188) ∧ s1197 ≤ (((((((((((rs - 4) - s988) - s994) - s1002) - s1011) - s1020) - s1029) - s1171) - 4) - s1183) - s1189) ∧ ((Is G w1192 a1194 (kO 17)) ∧ DP G M_Sb_append_bf812 [vA a1194, vI (wI w1192 a124 3)] w1192 c1196 s1197 (fun v1202 w1201 => ∃ a1203 : Nat, v1202 = some a1203 ∧ (∃ c1205 s1206 : Nat, c1205 ≤ ((((((((((((rc - 1) - c987) - c993) - c1001) - c1010) - c1019) - c1028) - c1170) - 1) - c1182) - c1188) - c1196) ∧ s1206 ≤ ((((((((((((rs - 4) - s988) - s994) - s1002) - s1011) - s1020) - s1029) - s1171) - 4) - s1183) - s1189) - s1197) ∧ ((Is G w1201 a1203 (kO 17)) ∧ DP G M_Sb_toString [vA a1203] w1201 c1205 s1206 (fun v1211 w1210 => ∃ a1212 : Nat, v1176 = some a1212 ∧ (∃ a1214 : Nat, v1211 = some a1214 ∧ (∃ c1216 s1217 : Nat, c1216 ≤ (((((((((((((rc - 1) - c987) - c993) - c1001) - c1010) - c1019) - c1028) - c1170) - 1) - c1182) - c1188) - c1196) - c1205) ∧ s1217 ≤ (((((((((((((rs - 4) - s988) - s994) - s1002) - s1011) - s1020) - s1029) - s1171) - 4) - s1183) - s1189) - s1197) - s1206) ∧ ((Is G w1210 a1212 (kO 17)) ∧ DP G M_Sb_append_15ec4 [vA a1212, vA a1214] w1210 c1216 s1217 (fun v1222 w1221 => ∃ a1223 : Nat, v1222 = some a1223 ∧ (∃ c1225 s1226 : Nat, c1225 ≤ ((((((((((((((rc - 1) - c987) - c993) - c1001) - c1010) - c1019) - c1028) - c1170) - 1) - c1182) - c1188) - c1196) - c1205) - c1216) ∧ s1226 ≤ ((((((((((((((rs - 4) - s988) - s994) - s1002) - s1011) - s1020) - s1029) - s1171) - 4) - s1183) - s1189) - s1197) - s1206) - s1217) ∧ ((Is G w1221 a1223 (kO 17)) ∧ DP G M_Sb_toString [vA a1223] w1221 c1225 s1226 (fun v1231 w1230 => CI M_Cs_drawn [vR 0, vI x6] (wS w1230) (fun v1232 σ1233 => (v1232 = x9 → WD G M_Cl_lists 264 [(0, vR 0), (1, vA x1), (2, vA x2), (3, vA a8), (4, vI (x4 + 1)), (5, vI (x5 + 1)), (6, vI x6), (7, vL (x7 + v981)), (9, vI x9), (11, vP v1231), (12, vI 0)] [] (uS w1230 σ1233) (((((((((((((((rc - 1) - c987) - c993) - c1001) - c1010) - c1019) - c1028) - c1170) - 1) - c1182) - c1188) - c1196) - c1205) - c1216) - c1225) (((((((((((((((rs - 4) - s988) - s994) - s1002) - s1011) - s1020) - s1029) - s1171) - 4) - s1183) - s1189) - s1197) - s1206) - s1217) - s1226) (yI K)) ∧ (¬ v1232 = x9 → K 0 (uS w1230 σ1233)))))))))))))))))))))) ∧ (¬ 0 ≤ (wI w1175 a124 3) → ∃ a1235 : Nat, v1176 = some a1235 ∧ (∃ c1237 s1238 : Nat, c1237 ≤ ((((((((rc - 1) - c987) - c993) - c1001) - c1010) - c1019) - c1028) - c1170) ∧ s1238 ≤ ((((((((rs - 4) - s988) - s994) - s1002) - s1011) - s1020) - s1029) - s1171) ∧ ((Is G w1175 a1235 (kO 17)) ∧ DP G M_Sb_append_15ec4 [vA a1235, vA (xa G 280)] w1175 c1237 s1238 (fun v1243 w1242 => ∃ a1244 : Nat, v1243 = some a1244 ∧ (∃ c1246 s1247 : Nat, c1246 ≤ (((((((((rc - 1) - c987) - c993) - c1001) - c1010) - c1019) - c1028) - c1170) - c1237) ∧ s1247 ≤ (((((((((rs - 4) - s988) - s994) - s1002) - s1011) - s1020) - s1029) - s1171) - s1238) ∧ ((Is G w1242 a1244 (kO 17)) ∧ DP G M_Sb_toString [vA a1244] w1242 c1246 s1247 (fun v1252 w1251 => CI M_Cs_drawn [vR 0, vI x6] (wS w1251) (fun v1253 σ1254 => (v1253 = x9 → WD G M_Cl_lists 264 [(0, vR 0), (1, vA x1), (2, vA x2), (3, vA a8), (4, vI (x4 + 1)), (5, vI (x5 + 1)), (6, vI x6), (7, vL (x7 + v981)), (9, vI x9), (11, vP v1252), (12, vI 0)] [] (uS w1251 σ1254) ((((((((((rc - 1) - c987) - c993) - c1001) - c1010) - c1019) - c1028) - c1170) - c1237) - c1246) ((((((((((rs - 4) - s988) - s994) - s1002) - s1011) - s1020) - s1029) - s1171) - s1238) - s1247) (yI K)) ∧ (¬ v1253 = x9 → K 0 (uS w1251 σ1254)))))))))))))))))))))))))))))))))) ∧ (¬ v977 = x9 → K 0 (uS (uS w127 σ693) σ978)))))))))))))))) : WD G M_Cl_lists 21 [(0, vR 0), (1, vA x1), (2, vA x2), (3, vP x3), (4, vI x4), (5, vI x5), (6, vI x6), (7, vL x7), (9, vI x9)] [] w rc rs (yI K) := by
  refine x_iload d_Cl_lists_21 rfl (?_ : WD _ _ 23 _ _ _ _ _ _)
  refine x_aload_nP x3 d_Cl_lists_23 rfl (?_ : WD _ _ 24 _ _ _ _ _ _)
  obtain ⟨a8, e9, h⟩ := h
  rw [e9]
  obtain ⟨n10, h⟩ := h
  obtain ⟨k11, h⟩ := h
  obtain ⟨h12, h⟩ := h
  refine x_alenA k11 (fun _ => rfl) h12 d_Cl_lists_24 (?_ : WD _ _ 25 _ _ _ _ _ _)
  refine x_icmp_ge 323 d_Cl_lists_25 rfl ⟨fun c13 => (?_ : WD _ _ 323 _ _ _ _ _ _), fun c13 => (?_ : WD _ _ 28 _ _ _ _ _ _)⟩
  · replace h := h.1 c13
    refine x_aload_nP (some x1) d_Cl_lists_323 rfl (?_ : WD _ _ 324 _ _ _ _ _ _)
    obtain ⟨c14, s15, h16, h17, h⟩ := h
    obtain ⟨k18, h⟩ := h
    refine x_callV (ν := M_Bo_allCoins) [] ok_M_Bo_allCoins okv_M_Bo_allCoins k18 rfl rfl (qm_5 (i := 205) rfl rfl) np_M_Bo_allCoins rfl ⟨Nat.le_of_ble_eq_true rfl, Nat.le_of_ble_eq_true rfl⟩ (Nat.le_of_ble_eq_true rfl) rfl d_Cl_lists_324 h16 h17 (DI.k h (fun v20 w19 gw19 h => (?_ : WD _ _ 327 _ _ _ _ _ _)))
    refine x_if_ne 334 d_Cl_lists_327 rfl ⟨fun c21 => (?_ : WD _ _ 334 _ _ _ _ _ _), fun c21 => (?_ : WD _ _ 330 _ _ _ _ _ _)⟩
    · replace h := h.1 c21
      refine x_ldc2 1000 d_Cl_lists_334 (qm_10 (i := 12) rfl rfl) (by decide) (by decide) (?_ : WD _ _ 337 _ _ _ _ _ _)
      refine x_lload d_Cl_lists_337 rfl (?_ : WD _ _ 339 _ _ _ _ _ _)
      obtain ⟨h22, h⟩ := h
      refine x_lmul d_Cl_lists_339 h22 (?_ : WD _ _ 340 _ _ _ _ _ _)
      refine x_aload_nP (some x1) d_Cl_lists_340 rfl (?_ : WD _ _ 341 _ _ _ _ _ _)
      obtain ⟨c23, s24, h25, h26, h⟩ := h
      refine x_callV (ν := M_Bo_allCoins) [] ok_M_Bo_allCoins okv_M_Bo_allCoins (k18.q gw19.k) rfl rfl (qm_5 (i := 205) rfl rfl) np_M_Bo_allCoins rfl ⟨Nat.le_of_ble_eq_true rfl, Nat.le_of_ble_eq_true rfl⟩ (Nat.le_of_ble_eq_true rfl) rfl d_Cl_lists_341 h25 h26 (DI.k h (fun v28 w27 gw27 h => (?_ : WD _ _ 344 _ _ _ _ _ _)))
      refine x_i2l d_Cl_lists_344 (?_ : WD _ _ 345 _ _ _ _ _ _)
      obtain ⟨h29, h⟩ := h
      obtain ⟨h30, h⟩ := h
      refine x_ldivn d_Cl_lists_345 h29 h30 (?_ : WD _ _ 346 _ _ _ _ _ _)
      obtain ⟨h31, h⟩ := h
      refine x_l2i d_Cl_lists_346 h31 (?_ : WD _ _ 347 _ _ _ _ _ _)
      refine x_istore (ls' := [(9, vI ((1000 * x7) / v28)), (0, vR 0), (1, vA x1), (2, vA x2), (3, vA a8), (4, vI x4), (5, vI x5), (6, vI x6), (7, vL x7)]) d_Cl_lists_347 (by decide) rfl (?_ : WD _ _ 349 _ _ _ _ _ _)
      refine x_aload_n d_Cl_lists_349 rfl (?_ : WD _ _ 350 _ _ _ _ _ _)
      refine x_iconst d_Cl_lists_350 (by decide) (?_ : WD _ _ 351 _ _ _ _ _ _)
      refine x_callC (ν := M_Cs_certain) (k := 0) [vI (-1)] ok_M_Cs_certain okv_M_Cs_certain (by decide) rfl rfl rfl (qm_9 (i := 199) rfl rfl) np_M_Cs_certain rfl ⟨Nat.le_of_ble_eq_true rfl, Nat.le_of_ble_eq_true rfl⟩ (Nat.le_of_ble_eq_true rfl) rfl d_Cl_lists_351 (CI.kd h (fun v32 σ33 h => (?_ : WD _ _ 354 _ _ _ _ _ _)))
      refine x_iload d_Cl_lists_354 rfl (?_ : WD _ _ 356 _ _ _ _ _ _)
      refine x_icmp_ne 494 d_Cl_lists_356 rfl ⟨fun c34 => (?_ : WD _ _ 494 _ _ _ _ _ _), fun c34 => (?_ : WD _ _ 359 _ _ _ _ _ _)⟩
      · replace h := h.1 c34
        refine x_iconst d_Cl_lists_494 (by decide) (?_ : WD _ _ 495 _ _ _ _ _ _)
        exact x_zreturn rfl d_Cl_lists_495 (by decide) h
      · replace h := h.2 c34
        refine x_aload_n d_Cl_lists_359 rfl (?_ : WD _ _ 360 _ _ _ _ _ _)
        refine x_iconst d_Cl_lists_360 (by decide) (?_ : WD _ _ 361 _ _ _ _ _ _)
        refine x_callC (ν := M_Cs_lacking) (k := 0) [vI (-1)] ok_M_Cs_lacking okv_M_Cs_lacking (by decide) rfl rfl rfl (qm_9 (i := 218) rfl rfl) np_M_Cs_lacking rfl ⟨Nat.le_of_ble_eq_true rfl, Nat.le_of_ble_eq_true rfl⟩ (Nat.le_of_ble_eq_true rfl) rfl d_Cl_lists_361 (CI.kd h (fun v35 σ36 h => (?_ : WD _ _ 364 _ _ _ _ _ _)))
        refine x_iload d_Cl_lists_364 rfl (?_ : WD _ _ 366 _ _ _ _ _ _)
        refine x_icmp_ne 494 d_Cl_lists_366 rfl ⟨fun c37 => (?_ : WD _ _ 494 _ _ _ _ _ _), fun c37 => (?_ : WD _ _ 369 _ _ _ _ _ _)⟩
        · replace h := h.1 c37
          refine x_iconst d_Cl_lists_494 (by decide) (?_ : WD _ _ 495 _ _ _ _ _ _)
          exact x_zreturn rfl d_Cl_lists_495 (by decide) h
        · replace h := h.2 c37
          refine x_aload_n d_Cl_lists_369 rfl (?_ : WD _ _ 370 _ _ _ _ _ _)
          refine x_iconst d_Cl_lists_370 (by decide) (?_ : WD _ _ 371 _ _ _ _ _ _)
          refine x_callC (ν := M_Cs_drawn) (k := 0) [vI (-1)] ok_M_Cs_drawn okv_M_Cs_drawn (by decide) rfl rfl rfl (qm_9 (i := 227) rfl rfl) np_M_Cs_drawn rfl ⟨Nat.le_of_ble_eq_true rfl, Nat.le_of_ble_eq_true rfl⟩ (Nat.le_of_ble_eq_true rfl) rfl d_Cl_lists_371 (CI.kd h (fun v38 σ39 h => (?_ : WD _ _ 374 _ _ _ _ _ _)))
          refine x_iload d_Cl_lists_374 rfl (?_ : WD _ _ 376 _ _ _ _ _ _)
          refine x_icmp_ne 494 d_Cl_lists_376 rfl ⟨fun c40 => (?_ : WD _ _ 494 _ _ _ _ _ _), fun c40 => (?_ : WD _ _ 379 _ _ _ _ _ _)⟩
          · replace h := h.1 c40
            refine x_iconst d_Cl_lists_494 (by decide) (?_ : WD _ _ 495 _ _ _ _ _ _)
            exact x_zreturn rfl d_Cl_lists_495 (by decide) h
          · replace h := h.2 c40
            refine x_aload_n d_Cl_lists_379 rfl (?_ : WD _ _ 380 _ _ _ _ _ _)
            refine x_iload d_Cl_lists_380 rfl (?_ : WD _ _ 382 _ _ _ _ _ _)
            refine x_callC (ν := M_Cs_certain) (k := 0) [vI x4] ok_M_Cs_certain okv_M_Cs_certain (by decide) rfl rfl rfl (qm_9 (i := 199) rfl rfl) np_M_Cs_certain rfl ⟨Nat.le_of_ble_eq_true rfl, Nat.le_of_ble_eq_true rfl⟩ (Nat.le_of_ble_eq_true rfl) rfl d_Cl_lists_382 (CI.kd h (fun v41 σ42 h => (?_ : WD _ _ 385 _ _ _ _ _ _)))
            refine x_iconst d_Cl_lists_385 (by decide) (?_ : WD _ _ 386 _ _ _ _ _ _)
            refine x_icmp_ne 494 d_Cl_lists_386 rfl ⟨fun c43 => (?_ : WD _ _ 494 _ _ _ _ _ _), fun c43 => (?_ : WD _ _ 389 _ _ _ _ _ _)⟩
            · replace h := h.1 c43
              refine x_iconst d_Cl_lists_494 (by decide) (?_ : WD _ _ 495 _ _ _ _ _ _)
              exact x_zreturn rfl d_Cl_lists_495 (by decide) h
            · replace h := h.2 c43
              refine x_aload_n d_Cl_lists_389 rfl (?_ : WD _ _ 390 _ _ _ _ _ _)
              refine x_iload d_Cl_lists_390 rfl (?_ : WD _ _ 392 _ _ _ _ _ _)
              refine x_callC (ν := M_Cs_lacking) (k := 0) [vI x5] ok_M_Cs_lacking okv_M_Cs_lacking (by decide) rfl rfl rfl (qm_9 (i := 218) rfl rfl) np_M_Cs_lacking rfl ⟨Nat.le_of_ble_eq_true rfl, Nat.le_of_ble_eq_true rfl⟩ (Nat.le_of_ble_eq_true rfl) rfl d_Cl_lists_392 (CI.kd h (fun v44 σ45 h => (?_ : WD _ _ 395 _ _ _ _ _ _)))
              refine x_iconst d_Cl_lists_395 (by decide) (?_ : WD _ _ 396 _ _ _ _ _ _)
              refine x_icmp_ne 494 d_Cl_lists_396 rfl ⟨fun c46 => (?_ : WD _ _ 494 _ _ _ _ _ _), fun c46 => (?_ : WD _ _ 399 _ _ _ _ _ _)⟩
              · replace h := h.1 c46
                refine x_iconst d_Cl_lists_494 (by decide) (?_ : WD _ _ 495 _ _ _ _ _ _)
                exact x_zreturn rfl d_Cl_lists_495 (by decide) h
              · replace h := h.2 c46
                refine x_aload_n d_Cl_lists_399 rfl (?_ : WD _ _ 400 _ _ _ _ _ _)
                refine x_iload d_Cl_lists_400 rfl (?_ : WD _ _ 402 _ _ _ _ _ _)
                refine x_callC (ν := M_Cs_drawn) (k := 0) [vI x6] ok_M_Cs_drawn okv_M_Cs_drawn (by decide) rfl rfl rfl (qm_9 (i := 227) rfl rfl) np_M_Cs_drawn rfl ⟨Nat.le_of_ble_eq_true rfl, Nat.le_of_ble_eq_true rfl⟩ (Nat.le_of_ble_eq_true rfl) rfl d_Cl_lists_402 (CI.kd h (fun v47 σ48 h => (?_ : WD _ _ 405 _ _ _ _ _ _)))
                refine x_iconst d_Cl_lists_405 (by decide) (?_ : WD _ _ 406 _ _ _ _ _ _)
                refine x_icmp_ne 494 d_Cl_lists_406 rfl ⟨fun c49 => (?_ : WD _ _ 494 _ _ _ _ _ _), fun c49 => (?_ : WD _ _ 409 _ _ _ _ _ _)⟩
                · replace h := h.1 c49
                  refine x_iconst d_Cl_lists_494 (by decide) (?_ : WD _ _ 495 _ _ _ _ _ _)
                  exact x_zreturn rfl d_Cl_lists_495 (by decide) h
                · replace h := h.2 c49
                  refine x_aload_n d_Cl_lists_409 rfl (?_ : WD _ _ 410 _ _ _ _ _ _)
                  refine x_bipush d_Cl_lists_410 (by decide) (by decide) (?_ : WD _ _ 412 _ _ _ _ _ _)
                  refine x_callC (ν := M_Cs_certain) (k := 0) [vI (-2)] ok_M_Cs_certain okv_M_Cs_certain (by decide) rfl rfl rfl (qm_9 (i := 199) rfl rfl) np_M_Cs_certain rfl ⟨Nat.le_of_ble_eq_true rfl, Nat.le_of_ble_eq_true rfl⟩ (Nat.le_of_ble_eq_true rfl) rfl d_Cl_lists_412 (CI.kd h (fun v50 σ51 h => (?_ : WD _ _ 415 _ _ _ _ _ _)))
                  refine x_bipush d_Cl_lists_415 (by decide) (by decide) (?_ : WD _ _ 417 _ _ _ _ _ _)
                  refine x_icmp_ne 494 d_Cl_lists_417 rfl ⟨fun c52 => (?_ : WD _ _ 494 _ _ _ _ _ _), fun c52 => (?_ : WD _ _ 420 _ _ _ _ _ _)⟩
                  · replace h := h.1 c52
                    refine x_iconst d_Cl_lists_494 (by decide) (?_ : WD _ _ 495 _ _ _ _ _ _)
                    exact x_zreturn rfl d_Cl_lists_495 (by decide) h
                  · replace h := h.2 c52
                    refine x_aload_n d_Cl_lists_420 rfl (?_ : WD _ _ 421 _ _ _ _ _ _)
                    refine x_bipush d_Cl_lists_421 (by decide) (by decide) (?_ : WD _ _ 423 _ _ _ _ _ _)
                    refine x_callC (ν := M_Cs_lacking) (k := 0) [vI (-2)] ok_M_Cs_lacking okv_M_Cs_lacking (by decide) rfl rfl rfl (qm_9 (i := 218) rfl rfl) np_M_Cs_lacking rfl ⟨Nat.le_of_ble_eq_true rfl, Nat.le_of_ble_eq_true rfl⟩ (Nat.le_of_ble_eq_true rfl) rfl d_Cl_lists_423 (CI.kd h (fun v53 σ54 h => (?_ : WD _ _ 426 _ _ _ _ _ _)))
                    refine x_bipush d_Cl_lists_426 (by decide) (by decide) (?_ : WD _ _ 428 _ _ _ _ _ _)
                    refine x_icmp_ne 494 d_Cl_lists_428 rfl ⟨fun c55 => (?_ : WD _ _ 494 _ _ _ _ _ _), fun c55 => (?_ : WD _ _ 431 _ _ _ _ _ _)⟩
                    · replace h := h.1 c55
                      refine x_iconst d_Cl_lists_494 (by decide) (?_ : WD _ _ 495 _ _ _ _ _ _)
                      exact x_zreturn rfl d_Cl_lists_495 (by decide) h
                    · replace h := h.2 c55
                      refine x_aload_n d_Cl_lists_431 rfl (?_ : WD _ _ 432 _ _ _ _ _ _)
                      refine x_bipush d_Cl_lists_432 (by decide) (by decide) (?_ : WD _ _ 434 _ _ _ _ _ _)
                      refine x_callC (ν := M_Cs_drawn) (k := 0) [vI (-2)] ok_M_Cs_drawn okv_M_Cs_drawn (by decide) rfl rfl rfl (qm_9 (i := 227) rfl rfl) np_M_Cs_drawn rfl ⟨Nat.le_of_ble_eq_true rfl, Nat.le_of_ble_eq_true rfl⟩ (Nat.le_of_ble_eq_true rfl) rfl d_Cl_lists_434 (CI.kd h (fun v56 σ57 h => (?_ : WD _ _ 437 _ _ _ _ _ _)))
                      refine x_bipush d_Cl_lists_437 (by decide) (by decide) (?_ : WD _ _ 439 _ _ _ _ _ _)
                      refine x_icmp_ne 494 d_Cl_lists_439 rfl ⟨fun c58 => (?_ : WD _ _ 494 _ _ _ _ _ _), fun c58 => (?_ : WD _ _ 442 _ _ _ _ _ _)⟩
                      · replace h := h.1 c58
                        refine x_iconst d_Cl_lists_494 (by decide) (?_ : WD _ _ 495 _ _ _ _ _ _)
                        exact x_zreturn rfl d_Cl_lists_495 (by decide) h
                      · replace h := h.2 c58
                        refine x_aload_n d_Cl_lists_442 rfl (?_ : WD _ _ 443 _ _ _ _ _ _)
                        refine x_iload d_Cl_lists_443 rfl (?_ : WD _ _ 445 _ _ _ _ _ _)
                        refine x_iconst d_Cl_lists_445 (by decide) (?_ : WD _ _ 446 _ _ _ _ _ _)
                        refine x_callC (ν := M_Cs_line) (k := 0) [vI x6, vI 0] ok_M_Cs_line okv_M_Cs_line (by decide) rfl rfl rfl (qm_9 (i := 231) rfl rfl) np_M_Cs_line rfl ⟨Nat.le_of_ble_eq_true rfl, Nat.le_of_ble_eq_true rfl⟩ (Nat.le_of_ble_eq_true rfl) rfl d_Cl_lists_446 (CI.kd h (fun v59 σ60 h => (?_ : WD _ _ 449 _ _ _ _ _ _)))
                        refine x_bipush d_Cl_lists_449 (by decide) (by decide) (?_ : WD _ _ 451 _ _ _ _ _ _)
                        refine x_icmp_ne 494 d_Cl_lists_451 rfl ⟨fun c61 => (?_ : WD _ _ 494 _ _ _ _ _ _), fun c61 => (?_ : WD _ _ 454 _ _ _ _ _ _)⟩
                        · replace h := h.1 c61
                          refine x_iconst d_Cl_lists_494 (by decide) (?_ : WD _ _ 495 _ _ _ _ _ _)
                          exact x_zreturn rfl d_Cl_lists_495 (by decide) h
                        · replace h := h.2 c61
                          refine x_aload_n d_Cl_lists_454 rfl (?_ : WD _ _ 455 _ _ _ _ _ _)
                          refine x_iconst d_Cl_lists_455 (by decide) (?_ : WD _ _ 456 _ _ _ _ _ _)
                          refine x_iconst d_Cl_lists_456 (by decide) (?_ : WD _ _ 457 _ _ _ _ _ _)
                          refine x_callC (ν := M_Cs_line) (k := 0) [vI (-1), vI 0] ok_M_Cs_line okv_M_Cs_line (by decide) rfl rfl rfl (qm_9 (i := 231) rfl rfl) np_M_Cs_line rfl ⟨Nat.le_of_ble_eq_true rfl, Nat.le_of_ble_eq_true rfl⟩ (Nat.le_of_ble_eq_true rfl) rfl d_Cl_lists_457 (CI.kd h (fun v62 σ63 h => (?_ : WD _ _ 460 _ _ _ _ _ _)))
                          refine x_bipush d_Cl_lists_460 (by decide) (by decide) (?_ : WD _ _ 462 _ _ _ _ _ _)
                          refine x_icmp_ne 494 d_Cl_lists_462 rfl ⟨fun c64 => (?_ : WD _ _ 494 _ _ _ _ _ _), fun c64 => (?_ : WD _ _ 465 _ _ _ _ _ _)⟩
                          · replace h := h.1 c64
                            refine x_iconst d_Cl_lists_494 (by decide) (?_ : WD _ _ 495 _ _ _ _ _ _)
                            exact x_zreturn rfl d_Cl_lists_495 (by decide) h
                          · replace h := h.2 c64
                            refine x_iload d_Cl_lists_465 rfl (?_ : WD _ _ 467 _ _ _ _ _ _)
                            refine x_if_eq 481 d_Cl_lists_467 rfl ⟨fun c65 => (?_ : WD _ _ 481 _ _ _ _ _ _), fun c65 => (?_ : WD _ _ 470 _ _ _ _ _ _)⟩
                            · replace h := h.1 c65
                              refine x_aload_n d_Cl_lists_481 rfl (?_ : WD _ _ 482 _ _ _ _ _ _)
                              refine x_callC (ν := M_Cs_covered) (k := 0) [] ok_M_Cs_covered okv_M_Cs_covered (by decide) rfl rfl rfl (qm_10 (i := 13) rfl rfl) np_M_Cs_covered rfl ⟨Nat.le_of_ble_eq_true rfl, Nat.le_of_ble_eq_true rfl⟩ (Nat.le_of_ble_eq_true rfl) rfl d_Cl_lists_482 (CI.kd h (fun v66 σ67 h => (?_ : WD _ _ 485 _ _ _ _ _ _)))
                              refine x_iload d_Cl_lists_485 rfl (?_ : WD _ _ 487 _ _ _ _ _ _)
                              refine x_icmp_ne 494 d_Cl_lists_487 rfl ⟨fun c68 => (?_ : WD _ _ 494 _ _ _ _ _ _), fun c68 => (?_ : WD _ _ 490 _ _ _ _ _ _)⟩
                              · replace h := h.1 c68
                                refine x_iconst d_Cl_lists_494 (by decide) (?_ : WD _ _ 495 _ _ _ _ _ _)
                                exact x_zreturn rfl d_Cl_lists_495 (by decide) h
                              · replace h := h.2 c68
                                refine x_iconst d_Cl_lists_490 (by decide) (?_ : WD _ _ 491 _ _ _ _ _ _)
                                refine x_goto 495 d_Cl_lists_491 rfl ?_
                                exact x_zreturn rfl d_Cl_lists_495 (by decide) h
                            · replace h := h.2 c65
                              refine x_aload_n d_Cl_lists_470 rfl (?_ : WD _ _ 471 _ _ _ _ _ _)
                              refine x_iconst d_Cl_lists_471 (by decide) (?_ : WD _ _ 472 _ _ _ _ _ _)
                              refine x_iconst d_Cl_lists_472 (by decide) (?_ : WD _ _ 473 _ _ _ _ _ _)
                              refine x_callC (ν := M_Cs_line) (k := 0) [vI 0, vI (-1)] ok_M_Cs_line okv_M_Cs_line (by decide) rfl rfl rfl (qm_9 (i := 231) rfl rfl) np_M_Cs_line rfl ⟨Nat.le_of_ble_eq_true rfl, Nat.le_of_ble_eq_true rfl⟩ (Nat.le_of_ble_eq_true rfl) rfl d_Cl_lists_473 (CI.kd h (fun v69 σ70 h => (?_ : WD _ _ 476 _ _ _ _ _ _)))
                              refine x_bipush d_Cl_lists_476 (by decide) (by decide) (?_ : WD _ _ 478 _ _ _ _ _ _)
                              refine x_icmp_ne 494 d_Cl_lists_478 rfl ⟨fun c71 => (?_ : WD _ _ 494 _ _ _ _ _ _), fun c71 => (?_ : WD _ _ 481 _ _ _ _ _ _)⟩
                              · replace h := h.1 c71
                                refine x_iconst d_Cl_lists_494 (by decide) (?_ : WD _ _ 495 _ _ _ _ _ _)
                                exact x_zreturn rfl d_Cl_lists_495 (by decide) h
                              · replace h := h.2 c71
                                refine x_aload_n d_Cl_lists_481 rfl (?_ : WD _ _ 482 _ _ _ _ _ _)
                                refine x_callC (ν := M_Cs_covered) (k := 0) [] ok_M_Cs_covered okv_M_Cs_covered (by decide) rfl rfl rfl (qm_10 (i := 13) rfl rfl) np_M_Cs_covered rfl ⟨Nat.le_of_ble_eq_true rfl, Nat.le_of_ble_eq_true rfl⟩ (Nat.le_of_ble_eq_true rfl) rfl d_Cl_lists_482 (CI.kd h (fun v72 σ73 h => (?_ : WD _ _ 485 _ _ _ _ _ _)))
                                refine x_iload d_Cl_lists_485 rfl (?_ : WD _ _ 487 _ _ _ _ _ _)
                                refine x_icmp_ne 494 d_Cl_lists_487 rfl ⟨fun c74 => (?_ : WD _ _ 494 _ _ _ _ _ _), fun c74 => (?_ : WD _ _ 490 _ _ _ _ _ _)⟩
                                · replace h := h.1 c74
                                  refine x_iconst d_Cl_lists_494 (by decide) (?_ : WD _ _ 495 _ _ _ _ _ _)
                                  exact x_zreturn rfl d_Cl_lists_495 (by decide) h
                                · replace h := h.2 c74
                                  refine x_iconst d_Cl_lists_490 (by decide) (?_ : WD _ _ 491 _ _ _ _ _ _)
                                  refine x_goto 495 d_Cl_lists_491 rfl ?_
                                  exact x_zreturn rfl d_Cl_lists_495 (by decide) h
    · replace h := h.2 c21
      refine x_iconst d_Cl_lists_330 (by decide) (?_ : WD _ _ 331 _ _ _ _ _ _)
      refine x_goto 347 d_Cl_lists_331 rfl ?_
      refine x_istore (ls' := [(9, vI 0), (0, vR 0), (1, vA x1), (2, vA x2), (3, vA a8), (4, vI x4), (5, vI x5), (6, vI x6), (7, vL x7)]) d_Cl_lists_347 (by decide) rfl (?_ : WD _ _ 349 _ _ _ _ _ _)
      refine x_aload_n d_Cl_lists_349 rfl (?_ : WD _ _ 350 _ _ _ _ _ _)
      refine x_iconst d_Cl_lists_350 (by decide) (?_ : WD _ _ 351 _ _ _ _ _ _)
      refine x_callC (ν := M_Cs_certain) (k := 0) [vI (-1)] ok_M_Cs_certain okv_M_Cs_certain (by decide) rfl rfl rfl (qm_9 (i := 199) rfl rfl) np_M_Cs_certain rfl ⟨Nat.le_of_ble_eq_true rfl, Nat.le_of_ble_eq_true rfl⟩ (Nat.le_of_ble_eq_true rfl) rfl d_Cl_lists_351 (CI.kd h (fun v75 σ76 h => (?_ : WD _ _ 354 _ _ _ _ _ _)))
      refine x_iload d_Cl_lists_354 rfl (?_ : WD _ _ 356 _ _ _ _ _ _)
      refine x_icmp_ne 494 d_Cl_lists_356 rfl ⟨fun c77 => (?_ : WD _ _ 494 _ _ _ _ _ _), fun c77 => (?_ : WD _ _ 359 _ _ _ _ _ _)⟩
      · replace h := h.1 c77
        refine x_iconst d_Cl_lists_494 (by decide) (?_ : WD _ _ 495 _ _ _ _ _ _)
        exact x_zreturn rfl d_Cl_lists_495 (by decide) h
      · replace h := h.2 c77
        refine x_aload_n d_Cl_lists_359 rfl (?_ : WD _ _ 360 _ _ _ _ _ _)
        refine x_iconst d_Cl_lists_360 (by decide) (?_ : WD _ _ 361 _ _ _ _ _ _)
        refine x_callC (ν := M_Cs_lacking) (k := 0) [vI (-1)] ok_M_Cs_lacking okv_M_Cs_lacking (by decide) rfl rfl rfl (qm_9 (i := 218) rfl rfl) np_M_Cs_lacking rfl ⟨Nat.le_of_ble_eq_true rfl, Nat.le_of_ble_eq_true rfl⟩ (Nat.le_of_ble_eq_true rfl) rfl d_Cl_lists_361 (CI.kd h (fun v78 σ79 h => (?_ : WD _ _ 364 _ _ _ _ _ _)))
        refine x_iload d_Cl_lists_364 rfl (?_ : WD _ _ 366 _ _ _ _ _ _)
        refine x_icmp_ne 494 d_Cl_lists_366 rfl ⟨fun c80 => (?_ : WD _ _ 494 _ _ _ _ _ _), fun c80 => (?_ : WD _ _ 369 _ _ _ _ _ _)⟩
        · replace h := h.1 c80
          refine x_iconst d_Cl_lists_494 (by decide) (?_ : WD _ _ 495 _ _ _ _ _ _)
          exact x_zreturn rfl d_Cl_lists_495 (by decide) h
        · replace h := h.2 c80
          refine x_aload_n d_Cl_lists_369 rfl (?_ : WD _ _ 370 _ _ _ _ _ _)
          refine x_iconst d_Cl_lists_370 (by decide) (?_ : WD _ _ 371 _ _ _ _ _ _)
          refine x_callC (ν := M_Cs_drawn) (k := 0) [vI (-1)] ok_M_Cs_drawn okv_M_Cs_drawn (by decide) rfl rfl rfl (qm_9 (i := 227) rfl rfl) np_M_Cs_drawn rfl ⟨Nat.le_of_ble_eq_true rfl, Nat.le_of_ble_eq_true rfl⟩ (Nat.le_of_ble_eq_true rfl) rfl d_Cl_lists_371 (CI.kd h (fun v81 σ82 h => (?_ : WD _ _ 374 _ _ _ _ _ _)))
          refine x_iload d_Cl_lists_374 rfl (?_ : WD _ _ 376 _ _ _ _ _ _)
          refine x_icmp_ne 494 d_Cl_lists_376 rfl ⟨fun c83 => (?_ : WD _ _ 494 _ _ _ _ _ _), fun c83 => (?_ : WD _ _ 379 _ _ _ _ _ _)⟩
          · replace h := h.1 c83
            refine x_iconst d_Cl_lists_494 (by decide) (?_ : WD _ _ 495 _ _ _ _ _ _)
            exact x_zreturn rfl d_Cl_lists_495 (by decide) h
          · replace h := h.2 c83
            refine x_aload_n d_Cl_lists_379 rfl (?_ : WD _ _ 380 _ _ _ _ _ _)
            refine x_iload d_Cl_lists_380 rfl (?_ : WD _ _ 382 _ _ _ _ _ _)
            refine x_callC (ν := M_Cs_certain) (k := 0) [vI x4] ok_M_Cs_certain okv_M_Cs_certain (by decide) rfl rfl rfl (qm_9 (i := 199) rfl rfl) np_M_Cs_certain rfl ⟨Nat.le_of_ble_eq_true rfl, Nat.le_of_ble_eq_true rfl⟩ (Nat.le_of_ble_eq_true rfl) rfl d_Cl_lists_382 (CI.kd h (fun v84 σ85 h => (?_ : WD _ _ 385 _ _ _ _ _ _)))
            refine x_iconst d_Cl_lists_385 (by decide) (?_ : WD _ _ 386 _ _ _ _ _ _)
            refine x_icmp_ne 494 d_Cl_lists_386 rfl ⟨fun c86 => (?_ : WD _ _ 494 _ _ _ _ _ _), fun c86 => (?_ : WD _ _ 389 _ _ _ _ _ _)⟩
            · replace h := h.1 c86
              refine x_iconst d_Cl_lists_494 (by decide) (?_ : WD _ _ 495 _ _ _ _ _ _)
              exact x_zreturn rfl d_Cl_lists_495 (by decide) h
            · replace h := h.2 c86
              refine x_aload_n d_Cl_lists_389 rfl (?_ : WD _ _ 390 _ _ _ _ _ _)
              refine x_iload d_Cl_lists_390 rfl (?_ : WD _ _ 392 _ _ _ _ _ _)
              refine x_callC (ν := M_Cs_lacking) (k := 0) [vI x5] ok_M_Cs_lacking okv_M_Cs_lacking (by decide) rfl rfl rfl (qm_9 (i := 218) rfl rfl) np_M_Cs_lacking rfl ⟨Nat.le_of_ble_eq_true rfl, Nat.le_of_ble_eq_true rfl⟩ (Nat.le_of_ble_eq_true rfl) rfl d_Cl_lists_392 (CI.kd h (fun v87 σ88 h => (?_ : WD _ _ 395 _ _ _ _ _ _)))
              refine x_iconst d_Cl_lists_395 (by decide) (?_ : WD _ _ 396 _ _ _ _ _ _)
              refine x_icmp_ne 494 d_Cl_lists_396 rfl ⟨fun c89 => (?_ : WD _ _ 494 _ _ _ _ _ _), fun c89 => (?_ : WD _ _ 399 _ _ _ _ _ _)⟩
              · replace h := h.1 c89
                refine x_iconst d_Cl_lists_494 (by decide) (?_ : WD _ _ 495 _ _ _ _ _ _)
                exact x_zreturn rfl d_Cl_lists_495 (by decide) h
              · replace h := h.2 c89
                refine x_aload_n d_Cl_lists_399 rfl (?_ : WD _ _ 400 _ _ _ _ _ _)
                refine x_iload d_Cl_lists_400 rfl (?_ : WD _ _ 402 _ _ _ _ _ _)
                refine x_callC (ν := M_Cs_drawn) (k := 0) [vI x6] ok_M_Cs_drawn okv_M_Cs_drawn (by decide) rfl rfl rfl (qm_9 (i := 227) rfl rfl) np_M_Cs_drawn rfl ⟨Nat.le_of_ble_eq_true rfl, Nat.le_of_ble_eq_true rfl⟩ (Nat.le_of_ble_eq_true rfl) rfl d_Cl_lists_402 (CI.kd h (fun v90 σ91 h => (?_ : WD _ _ 405 _ _ _ _ _ _)))
                refine x_iconst d_Cl_lists_405 (by decide) (?_ : WD _ _ 406 _ _ _ _ _ _)
                refine x_icmp_ne 494 d_Cl_lists_406 rfl ⟨fun c92 => (?_ : WD _ _ 494 _ _ _ _ _ _), fun c92 => (?_ : WD _ _ 409 _ _ _ _ _ _)⟩
                · replace h := h.1 c92
                  refine x_iconst d_Cl_lists_494 (by decide) (?_ : WD _ _ 495 _ _ _ _ _ _)
                  exact x_zreturn rfl d_Cl_lists_495 (by decide) h
                · replace h := h.2 c92
                  refine x_aload_n d_Cl_lists_409 rfl (?_ : WD _ _ 410 _ _ _ _ _ _)
                  refine x_bipush d_Cl_lists_410 (by decide) (by decide) (?_ : WD _ _ 412 _ _ _ _ _ _)
                  refine x_callC (ν := M_Cs_certain) (k := 0) [vI (-2)] ok_M_Cs_certain okv_M_Cs_certain (by decide) rfl rfl rfl (qm_9 (i := 199) rfl rfl) np_M_Cs_certain rfl ⟨Nat.le_of_ble_eq_true rfl, Nat.le_of_ble_eq_true rfl⟩ (Nat.le_of_ble_eq_true rfl) rfl d_Cl_lists_412 (CI.kd h (fun v93 σ94 h => (?_ : WD _ _ 415 _ _ _ _ _ _)))
                  refine x_bipush d_Cl_lists_415 (by decide) (by decide) (?_ : WD _ _ 417 _ _ _ _ _ _)
                  refine x_icmp_ne 494 d_Cl_lists_417 rfl ⟨fun c95 => (?_ : WD _ _ 494 _ _ _ _ _ _), fun c95 => (?_ : WD _ _ 420 _ _ _ _ _ _)⟩
                  · replace h := h.1 c95
                    refine x_iconst d_Cl_lists_494 (by decide) (?_ : WD _ _ 495 _ _ _ _ _ _)
                    exact x_zreturn rfl d_Cl_lists_495 (by decide) h
                  · replace h := h.2 c95
                    refine x_aload_n d_Cl_lists_420 rfl (?_ : WD _ _ 421 _ _ _ _ _ _)
                    refine x_bipush d_Cl_lists_421 (by decide) (by decide) (?_ : WD _ _ 423 _ _ _ _ _ _)
                    refine x_callC (ν := M_Cs_lacking) (k := 0) [vI (-2)] ok_M_Cs_lacking okv_M_Cs_lacking (by decide) rfl rfl rfl (qm_9 (i := 218) rfl rfl) np_M_Cs_lacking rfl ⟨Nat.le_of_ble_eq_true rfl, Nat.le_of_ble_eq_true rfl⟩ (Nat.le_of_ble_eq_true rfl) rfl d_Cl_lists_423 (CI.kd h (fun v96 σ97 h => (?_ : WD _ _ 426 _ _ _ _ _ _)))
                    refine x_bipush d_Cl_lists_426 (by decide) (by decide) (?_ : WD _ _ 428 _ _ _ _ _ _)
                    refine x_icmp_ne 494 d_Cl_lists_428 rfl ⟨fun c98 => (?_ : WD _ _ 494 _ _ _ _ _ _), fun c98 => (?_ : WD _ _ 431 _ _ _ _ _ _)⟩
                    · replace h := h.1 c98
                      refine x_iconst d_Cl_lists_494 (by decide) (?_ : WD _ _ 495 _ _ _ _ _ _)
                      exact x_zreturn rfl d_Cl_lists_495 (by decide) h
                    · replace h := h.2 c98
                      refine x_aload_n d_Cl_lists_431 rfl (?_ : WD _ _ 432 _ _ _ _ _ _)
                      refine x_bipush d_Cl_lists_432 (by decide) (by decide) (?_ : WD _ _ 434 _ _ _ _ _ _)
                      refine x_callC (ν := M_Cs_drawn) (k := 0) [vI (-2)] ok_M_Cs_drawn okv_M_Cs_drawn (by decide) rfl rfl rfl (qm_9 (i := 227) rfl rfl) np_M_Cs_drawn rfl ⟨Nat.le_of_ble_eq_true rfl, Nat.le_of_ble_eq_true rfl⟩ (Nat.le_of_ble_eq_true rfl) rfl d_Cl_lists_434 (CI.kd h (fun v99 σ100 h => (?_ : WD _ _ 437 _ _ _ _ _ _)))
                      refine x_bipush d_Cl_lists_437 (by decide) (by decide) (?_ : WD _ _ 439 _ _ _ _ _ _)
                      refine x_icmp_ne 494 d_Cl_lists_439 rfl ⟨fun c101 => (?_ : WD _ _ 494 _ _ _ _ _ _), fun c101 => (?_ : WD _ _ 442 _ _ _ _ _ _)⟩
                      · replace h := h.1 c101
                        refine x_iconst d_Cl_lists_494 (by decide) (?_ : WD _ _ 495 _ _ _ _ _ _)
                        exact x_zreturn rfl d_Cl_lists_495 (by decide) h
                      · replace h := h.2 c101
                        refine x_aload_n d_Cl_lists_442 rfl (?_ : WD _ _ 443 _ _ _ _ _ _)
                        refine x_iload d_Cl_lists_443 rfl (?_ : WD _ _ 445 _ _ _ _ _ _)
                        refine x_iconst d_Cl_lists_445 (by decide) (?_ : WD _ _ 446 _ _ _ _ _ _)
                        refine x_callC (ν := M_Cs_line) (k := 0) [vI x6, vI 0] ok_M_Cs_line okv_M_Cs_line (by decide) rfl rfl rfl (qm_9 (i := 231) rfl rfl) np_M_Cs_line rfl ⟨Nat.le_of_ble_eq_true rfl, Nat.le_of_ble_eq_true rfl⟩ (Nat.le_of_ble_eq_true rfl) rfl d_Cl_lists_446 (CI.kd h (fun v102 σ103 h => (?_ : WD _ _ 449 _ _ _ _ _ _)))
                        refine x_bipush d_Cl_lists_449 (by decide) (by decide) (?_ : WD _ _ 451 _ _ _ _ _ _)
                        refine x_icmp_ne 494 d_Cl_lists_451 rfl ⟨fun c104 => (?_ : WD _ _ 494 _ _ _ _ _ _), fun c104 => (?_ : WD _ _ 454 _ _ _ _ _ _)⟩
                        · replace h := h.1 c104
                          refine x_iconst d_Cl_lists_494 (by decide) (?_ : WD _ _ 495 _ _ _ _ _ _)
                          exact x_zreturn rfl d_Cl_lists_495 (by decide) h
                        · replace h := h.2 c104
                          refine x_aload_n d_Cl_lists_454 rfl (?_ : WD _ _ 455 _ _ _ _ _ _)
                          refine x_iconst d_Cl_lists_455 (by decide) (?_ : WD _ _ 456 _ _ _ _ _ _)
                          refine x_iconst d_Cl_lists_456 (by decide) (?_ : WD _ _ 457 _ _ _ _ _ _)
                          refine x_callC (ν := M_Cs_line) (k := 0) [vI (-1), vI 0] ok_M_Cs_line okv_M_Cs_line (by decide) rfl rfl rfl (qm_9 (i := 231) rfl rfl) np_M_Cs_line rfl ⟨Nat.le_of_ble_eq_true rfl, Nat.le_of_ble_eq_true rfl⟩ (Nat.le_of_ble_eq_true rfl) rfl d_Cl_lists_457 (CI.kd h (fun v105 σ106 h => (?_ : WD _ _ 460 _ _ _ _ _ _)))
                          refine x_bipush d_Cl_lists_460 (by decide) (by decide) (?_ : WD _ _ 462 _ _ _ _ _ _)
                          refine x_icmp_ne 494 d_Cl_lists_462 rfl ⟨fun c107 => (?_ : WD _ _ 494 _ _ _ _ _ _), fun c107 => (?_ : WD _ _ 465 _ _ _ _ _ _)⟩
                          · replace h := h.1 c107
                            refine x_iconst d_Cl_lists_494 (by decide) (?_ : WD _ _ 495 _ _ _ _ _ _)
                            exact x_zreturn rfl d_Cl_lists_495 (by decide) h
                          · replace h := h.2 c107
                            refine x_iload d_Cl_lists_465 rfl (?_ : WD _ _ 467 _ _ _ _ _ _)
                            refine x_if_eq 481 d_Cl_lists_467 rfl ⟨fun c108 => (?_ : WD _ _ 481 _ _ _ _ _ _), fun c108 => (?_ : WD _ _ 470 _ _ _ _ _ _)⟩
                            · replace h := h.1 c108
                              refine x_aload_n d_Cl_lists_481 rfl (?_ : WD _ _ 482 _ _ _ _ _ _)
                              refine x_callC (ν := M_Cs_covered) (k := 0) [] ok_M_Cs_covered okv_M_Cs_covered (by decide) rfl rfl rfl (qm_10 (i := 13) rfl rfl) np_M_Cs_covered rfl ⟨Nat.le_of_ble_eq_true rfl, Nat.le_of_ble_eq_true rfl⟩ (Nat.le_of_ble_eq_true rfl) rfl d_Cl_lists_482 (CI.kd h (fun v109 σ110 h => (?_ : WD _ _ 485 _ _ _ _ _ _)))
                              refine x_iload d_Cl_lists_485 rfl (?_ : WD _ _ 487 _ _ _ _ _ _)
                              refine x_icmp_ne 494 d_Cl_lists_487 rfl ⟨fun c111 => (?_ : WD _ _ 494 _ _ _ _ _ _), fun c111 => (?_ : WD _ _ 490 _ _ _ _ _ _)⟩
                              · replace h := h.1 c111
                                refine x_iconst d_Cl_lists_494 (by decide) (?_ : WD _ _ 495 _ _ _ _ _ _)
                                exact x_zreturn rfl d_Cl_lists_495 (by decide) h
                              · replace h := h.2 c111
                                refine x_iconst d_Cl_lists_490 (by decide) (?_ : WD _ _ 491 _ _ _ _ _ _)
                                refine x_goto 495 d_Cl_lists_491 rfl ?_
                                exact x_zreturn rfl d_Cl_lists_495 (by decide) h
                            · replace h := h.2 c108
                              refine x_aload_n d_Cl_lists_470 rfl (?_ : WD _ _ 471 _ _ _ _ _ _)
                              refine x_iconst d_Cl_lists_471 (by decide) (?_ : WD _ _ 472 _ _ _ _ _ _)
                              refine x_iconst d_Cl_lists_472 (by decide) (?_ : WD _ _ 473 _ _ _ _ _ _)
                              refine x_callC (ν := M_Cs_line) (k := 0) [vI 0, vI (-1)] ok_M_Cs_line okv_M_Cs_line (by decide) rfl rfl rfl (qm_9 (i := 231) rfl rfl) np_M_Cs_line rfl ⟨Nat.le_of_ble_eq_true rfl, Nat.le_of_ble_eq_true rfl⟩ (Nat.le_of_ble_eq_true rfl) rfl d_Cl_lists_473 (CI.kd h (fun v112 σ113 h => (?_ : WD _ _ 476 _ _ _ _ _ _)))
                              refine x_bipush d_Cl_lists_476 (by decide) (by decide) (?_ : WD _ _ 478 _ _ _ _ _ _)
                              refine x_icmp_ne 494 d_Cl_lists_478 rfl ⟨fun c114 => (?_ : WD _ _ 494 _ _ _ _ _ _), fun c114 => (?_ : WD _ _ 481 _ _ _ _ _ _)⟩
                              · replace h := h.1 c114
                                refine x_iconst d_Cl_lists_494 (by decide) (?_ : WD _ _ 495 _ _ _ _ _ _)
                                exact x_zreturn rfl d_Cl_lists_495 (by decide) h
                              · replace h := h.2 c114
                                refine x_aload_n d_Cl_lists_481 rfl (?_ : WD _ _ 482 _ _ _ _ _ _)
                                refine x_callC (ν := M_Cs_covered) (k := 0) [] ok_M_Cs_covered okv_M_Cs_covered (by decide) rfl rfl rfl (qm_10 (i := 13) rfl rfl) np_M_Cs_covered rfl ⟨Nat.le_of_ble_eq_true rfl, Nat.le_of_ble_eq_true rfl⟩ (Nat.le_of_ble_eq_true rfl) rfl d_Cl_lists_482 (CI.kd h (fun v115 σ116 h => (?_ : WD _ _ 485 _ _ _ _ _ _)))
                                refine x_iload d_Cl_lists_485 rfl (?_ : WD _ _ 487 _ _ _ _ _ _)
                                refine x_icmp_ne 494 d_Cl_lists_487 rfl ⟨fun c117 => (?_ : WD _ _ 494 _ _ _ _ _ _), fun c117 => (?_ : WD _ _ 490 _ _ _ _ _ _)⟩
                                · replace h := h.1 c117
                                  refine x_iconst d_Cl_lists_494 (by decide) (?_ : WD _ _ 495 _ _ _ _ _ _)
                                  exact x_zreturn rfl d_Cl_lists_495 (by decide) h
                                · replace h := h.2 c117
                                  refine x_iconst d_Cl_lists_490 (by decide) (?_ : WD _ _ 491 _ _ _ _ _ _)
                                  refine x_goto 495 d_Cl_lists_491 rfl ?_
                                  exact x_zreturn rfl d_Cl_lists_495 (by decide) h
  · replace h := h.2 c13
    refine x_aload_nP (some x1) d_Cl_lists_28 rfl (?_ : WD _ _ 29 _ _ _ _ _ _)
    obtain ⟨k118, h⟩ := h
    refine x_getP (ref := "CoinSamplerLaw$Books") (j := 0) 0 k118 clk_11 (by decide) (qm_2 (i := 156) rfl rfl) (Or.inl rfl) rfl rfl d_Cl_lists_29 (y := (wR w x1 0)) rfl (?_ : WD _ _ 32 _ _ _ _ _ _)
    refine x_iload d_Cl_lists_32 rfl (?_ : WD _ _ 34 _ _ _ _ _ _)
    obtain ⟨a119, e120, h⟩ := h
    rw [e120]
    obtain ⟨k121, h⟩ := h
    refine x_callV (ν := M_Al_get) [vI x9] ok_M_Al_get okv_M_Al_get k121 rfl rfl (qm_3 (i := 183) rfl rfl) np_M_Al_get rfl ⟨Nat.le_of_ble_eq_true rfl, Nat.le_of_ble_eq_true rfl⟩ (Nat.le_of_ble_eq_true rfl) rfl d_Cl_lists_34 (Nat.zero_le _) (Nat.zero_le _) (DP.k h (fun v123 w122 gw122 h => (?_ : WD _ _ 37 _ _ _ _ _ _)))
    obtain ⟨a124, e125, h⟩ := h
    rw [e125]
    obtain ⟨k126, h⟩ := h
    refine x_cast k126 rfl (Or.inl rfl) (qm_3 (i := 184) rfl rfl) d_Cl_lists_37 (?_ : WD _ _ 40 _ _ _ _ _ _)
    refine x_astoreP (some a124) (ls' := [(10, vA a124), (0, vR 0), (1, vA x1), (2, vA x2), (3, vA a8), (4, vI x4), (5, vI x5), (6, vI x6), (7, vL x7), (9, vI x9)]) d_Cl_lists_40 (by decide) rfl (?_ : WD _ _ 42 _ _ _ _ _ _)
    refine x_aload_nP (some x1) d_Cl_lists_42 rfl (?_ : WD _ _ 43 _ _ _ _ _ _)
    refine x_aloadP (some a124) d_Cl_lists_43 rfl (?_ : WD _ _ 45 _ _ _ _ _ _)
    refine x_callV (ν := M_Bo_certain) [vA a124] ok_M_Bo_certain okv_M_Bo_certain (k118.q gw122.k) rfl rfl (qm_5 (i := 185) rfl rfl) np_M_Bo_certain rfl ⟨Nat.le_of_ble_eq_true rfl, Nat.le_of_ble_eq_true rfl⟩ (Nat.le_of_ble_eq_true rfl) rfl d_Cl_lists_45 (Nat.zero_le _) (Nat.zero_le _) (DI.k h (fun v128 w127 gw127 h => (?_ : WD _ _ 48 _ _ _ _ _ _)))
    refine x_if_eq 65 d_Cl_lists_48 rfl ⟨fun c129 => (?_ : WD _ _ 65 _ _ _ _ _ _), fun c129 => (?_ : WD _ _ 51 _ _ _ _ _ _)⟩
    · replace h := h.1 c129
      refine x_aload_nP (some a8) d_Cl_lists_65 rfl (?_ : WD _ _ 66 _ _ _ _ _ _)
      refine x_iload d_Cl_lists_66 rfl (?_ : WD _ _ 68 _ _ _ _ _ _)
      obtain ⟨h130, h⟩ := h
      obtain ⟨h131, h⟩ := h
      refine x_zald ((k11.q gw122.k).q gw127.k) d_Cl_lists_68 h130 h131 (y := (wI w127 a8 x9)) rfl (?_ : WD _ _ 69 _ _ _ _ _ _)
      refine x_if_eq 96 d_Cl_lists_69 rfl ⟨fun c132 => (?_ : WD _ _ 96 _ _ _ _ _ _), fun c132 => (?_ : WD _ _ 72 _ _ _ _ _ _)⟩
      · replace h := h.1 c132
        refine x_aload_nP (some a8) d_Cl_lists_96 rfl (?_ : WD _ _ 97 _ _ _ _ _ _)
        refine x_iload d_Cl_lists_97 rfl (?_ : WD _ _ 99 _ _ _ _ _ _)
        refine x_zald ((k11.q gw122.k).q gw127.k) d_Cl_lists_99 h130 h131 (y := (wI w127 a8 x9)) rfl (?_ : WD _ _ 100 _ _ _ _ _ _)
        refine x_if_ne 106 d_Cl_lists_100 rfl ⟨fun hc => absurd c132 hc, fun hc => (?_ : WD _ _ 103 _ _ _ _ _ _)⟩
        refine x_goto 317 d_Cl_lists_103 rfl ?_
        obtain ⟨h133, h⟩ := h
        refine x_iinc (ls' := [(9, vI (x9 + 1)), (10, vA a124), (0, vR 0), (1, vA x1), (2, vA x2), (3, vA a8), (4, vI x4), (5, vI x5), (6, vI x6), (7, vL x7)]) d_Cl_lists_317 rfl h133 (by decide) rfl (?_ : WD _ _ 320 _ _ _ _ _ _)
        refine x_goto 21 d_Cl_lists_320 rfl ?_
        refine x_pick (ls' := [(0, vR 0), (1, vA x1), (2, vA x2), (3, vP (some a8)), (4, vI x4), (5, vI x5), (6, vI x6), (7, vL x7), (9, vI (x9 + 1))]) [2, 3, 4, 5, 6, 7, 8, 9, 0] rfl ?_
        exact h
      · replace h := h.2 c132
        refine x_aloadP (some a124) d_Cl_lists_72 rfl (?_ : WD _ _ 74 _ _ _ _ _ _)
        refine x_getI (ref := "CoinSamplerLaw$Item") (j := 3) 3 (k126.q gw127.k) clk_13 (by decide) (qm_4 (i := 159) rfl rfl) (Or.inl rfl) rfl rfl d_Cl_lists_74 (y := (wI w127 a124 3)) rfl (?_ : WD _ _ 77 _ _ _ _ _ _)
        refine x_if_ge 96 d_Cl_lists_77 rfl ⟨fun c134 => (?_ : WD _ _ 96 _ _ _ _ _ _), fun c134 => (?_ : WD _ _ 80 _ _ _ _ _ _)⟩
        · replace h := h.1 c134
          refine x_aload_nP (some a8) d_Cl_lists_96 rfl (?_ : WD _ _ 97 _ _ _ _ _ _)
          refine x_iload d_Cl_lists_97 rfl (?_ : WD _ _ 99 _ _ _ _ _ _)
          refine x_zald ((k11.q gw122.k).q gw127.k) d_Cl_lists_99 h130 h131 (y := (wI w127 a8 x9)) rfl (?_ : WD _ _ 100 _ _ _ _ _ _)
          refine x_if_ne 106 d_Cl_lists_100 rfl ⟨fun hc => (?_ : WD _ _ 106 _ _ _ _ _ _), fun hc => absurd hc c132⟩
          refine x_lload d_Cl_lists_106 rfl (?_ : WD _ _ 108 _ _ _ _ _ _)
          refine x_aloadP (some a124) d_Cl_lists_108 rfl (?_ : WD _ _ 110 _ _ _ _ _ _)
          refine x_callV (ν := M_It_coins) [] ok_M_It_coins okv_M_It_coins (k126.q gw127.k) rfl rfl (qm_6 (i := 199) rfl rfl) np_M_It_coins rfl ⟨Nat.le_of_ble_eq_true rfl, Nat.le_of_ble_eq_true rfl⟩ (Nat.le_of_ble_eq_true rfl) rfl d_Cl_lists_110 (Nat.zero_le _) (Nat.zero_le _) (DI.k h (fun v136 w135 gw135 h => (?_ : WD _ _ 113 _ _ _ _ _ _)))
          refine x_i2l d_Cl_lists_113 (?_ : WD _ _ 114 _ _ _ _ _ _)
          obtain ⟨h137, h⟩ := h
          refine x_ladd d_Cl_lists_114 h137 (?_ : WD _ _ 115 _ _ _ _ _ _)
          refine x_lstore (ls' := [(7, vL (x7 + v136)), (10, vA a124), (0, vR 0), (1, vA x1), (2, vA x2), (3, vA a8), (4, vI x4), (5, vI x5), (6, vI x6), (9, vI x9)]) d_Cl_lists_115 (by decide) rfl (?_ : WD _ _ 117 _ _ _ _ _ _)
          obtain ⟨h138, h⟩ := h
          obtain ⟨h139, h⟩ := h
          refine x_new d_Cl_lists_117 clk_17 tyJ4_ok (qm_3 (i := 188) rfl rfl) (qm_3 (i := 189) rfl rfl) (qm_1 (i := 19) rfl rfl) hfd_17 h138 h139 (fun q140 fq140 => (?_ : WD _ _ 120 _ _ _ _ _ _))
          replace h := h q140 fq140
          have k141 : Ow (uN w135 q140 (kO 17)) q140 (kO 17) := Ow.nw
          refine x_dup d_Cl_lists_120 rfl (?_ : WD _ _ 121 _ _ _ _ _ _)
          obtain ⟨c142, s143, h144, h145, h⟩ := h
          refine x_callI (ν := M_Sb_init) [] ok_M_Sb_init oki_M_Sb_init rfl rfl (qm_3 (i := 190) rfl rfl) np_M_Sb_init rfl ⟨Nat.le_of_ble_eq_true rfl, Nat.le_of_ble_eq_true rfl⟩ (Nat.le_of_ble_eq_true rfl) rfl d_Cl_lists_121 h144 h145 (DV.k h (fun w146 gw146 h => (?_ : WD _ _ 124 _ _ _ _ _ _)))
          refine x_aloadP (some a124) d_Cl_lists_124 rfl (?_ : WD _ _ 126 _ _ _ _ _ _)
          refine x_getI (ref := "CoinSamplerLaw$Item") (j := 0) 0 ((((k126.q gw127.k).q gw135.k).nu fq140).q gw146.k) clk_13 (by decide) (qm_4 (i := 151) rfl rfl) (Or.inl rfl) rfl rfl d_Cl_lists_126 (y := (wI w146 a124 0)) rfl (?_ : WD _ _ 129 _ _ _ _ _ _)
          obtain ⟨c148, s149, h150, h151, h⟩ := h
          refine x_callV (ν := M_Sb_append_bf812) [vI (wI w146 a124 0)] ok_M_Sb_append_bf812 okv_M_Sb_append_bf812 (k141.q gw146.k).is rfl rfl (qm_4 (i := 100) rfl rfl) np_M_Sb_append_bf812 rfl ⟨Nat.le_of_ble_eq_true rfl, Nat.le_of_ble_eq_true rfl⟩ (Nat.le_of_ble_eq_true rfl) rfl d_Cl_lists_129 h150 h151 (DP.k h (fun v153 w152 gw152 h => (?_ : WD _ _ 132 _ _ _ _ _ _)))
          refine x_ldcwS (q := 274) (tx := "/") d_Cl_lists_132 (by decide) (?_ : WD _ _ 135 _ _ _ _ _ _)
          obtain ⟨a154, e155, h⟩ := h
          rw [e155]
          obtain ⟨c156, s157, h158, h159, h⟩ := h
          obtain ⟨k160, h⟩ := h
          refine x_callV (ν := M_Sb_append_15ec4) [vA (xa G 274)] ok_M_Sb_append_15ec4 okv_M_Sb_append_15ec4 k160 rfl rfl (qm_3 (i := 235) rfl rfl) np_M_Sb_append_15ec4 rfl ⟨Nat.le_of_ble_eq_true rfl, Nat.le_of_ble_eq_true rfl⟩ (Nat.le_of_ble_eq_true rfl) rfl d_Cl_lists_135 h158 h159 (DP.k h (fun v162 w161 gw161 h => (?_ : WD _ _ 138 _ _ _ _ _ _)))
          refine x_aloadP (some a124) d_Cl_lists_138 rfl (?_ : WD _ _ 140 _ _ _ _ _ _)
          refine x_getI (ref := "CoinSamplerLaw$Item") (j := 1) 1 ((((((k126.q gw127.k).q gw135.k).nu fq140).q gw146.k).q gw152.k).q gw161.k) clk_13 (by decide) (qm_4 (i := 153) rfl rfl) (Or.inl rfl) rfl rfl d_Cl_lists_140 (y := (wI w161 a124 1)) rfl (?_ : WD _ _ 143 _ _ _ _ _ _)
          obtain ⟨a163, e164, h⟩ := h
          rw [e164]
          obtain ⟨c165, s166, h167, h168, h⟩ := h
          obtain ⟨k169, h⟩ := h
          refine x_callV (ν := M_Sb_append_bf812) [vI (wI w161 a124 1)] ok_M_Sb_append_bf812 okv_M_Sb_append_bf812 k169 rfl rfl (qm_4 (i := 100) rfl rfl) np_M_Sb_append_bf812 rfl ⟨Nat.le_of_ble_eq_true rfl, Nat.le_of_ble_eq_true rfl⟩ (Nat.le_of_ble_eq_true rfl) rfl d_Cl_lists_143 h167 h168 (DP.k h (fun v171 w170 gw170 h => (?_ : WD _ _ 146 _ _ _ _ _ _)))
          refine x_ldcS (q := 268) (tx := " ") d_Cl_lists_146 (by decide) (?_ : WD _ _ 148 _ _ _ _ _ _)
          obtain ⟨a172, e173, h⟩ := h
          rw [e173]
          obtain ⟨c174, s175, h176, h177, h⟩ := h
          obtain ⟨k178, h⟩ := h
          refine x_callV (ν := M_Sb_append_15ec4) [vA (xa G 268)] ok_M_Sb_append_15ec4 okv_M_Sb_append_15ec4 k178 rfl rfl (qm_3 (i := 235) rfl rfl) np_M_Sb_append_15ec4 rfl ⟨Nat.le_of_ble_eq_true rfl, Nat.le_of_ble_eq_true rfl⟩ (Nat.le_of_ble_eq_true rfl) rfl d_Cl_lists_148 h176 h177 (DP.k h (fun v180 w179 gw179 h => (?_ : WD _ _ 151 _ _ _ _ _ _)))
          refine x_aloadP (some a124) d_Cl_lists_151 rfl (?_ : WD _ _ 153 _ _ _ _ _ _)
          refine x_getI (ref := "CoinSamplerLaw$Item") (j := 2) 2 ((((((((k126.q gw127.k).q gw135.k).nu fq140).q gw146.k).q gw152.k).q gw161.k).q gw170.k).q gw179.k) clk_13 (by decide) (qm_4 (i := 157) rfl rfl) (Or.inl rfl) rfl rfl d_Cl_lists_153 (y := (wI w179 a124 2)) rfl (?_ : WD _ _ 156 _ _ _ _ _ _)
          obtain ⟨a181, e182, h⟩ := h
          rw [e182]
          obtain ⟨c183, s184, h185, h186, h⟩ := h
          obtain ⟨k187, h⟩ := h
          refine x_callV (ν := M_Sb_append_bf812) [vI (wI w179 a124 2)] ok_M_Sb_append_bf812 okv_M_Sb_append_bf812 k187 rfl rfl (qm_4 (i := 100) rfl rfl) np_M_Sb_append_bf812 rfl ⟨Nat.le_of_ble_eq_true rfl, Nat.le_of_ble_eq_true rfl⟩ (Nat.le_of_ble_eq_true rfl) rfl d_Cl_lists_156 h185 h186 (DP.k h (fun v189 w188 gw188 h => (?_ : WD _ _ 159 _ _ _ _ _ _)))
          refine x_aload_nP (some x1) d_Cl_lists_159 rfl (?_ : WD _ _ 160 _ _ _ _ _ _)
          refine x_aloadP (some a124) d_Cl_lists_160 rfl (?_ : WD _ _ 162 _ _ _ _ _ _)
          refine x_callV (ν := M_Bo_certain) [vA a124] ok_M_Bo_certain okv_M_Bo_certain ((((((((((k118.q gw122.k).q gw127.k).q gw135.k).nu fq140).q gw146.k).q gw152.k).q gw161.k).q gw170.k).q gw179.k).q gw188.k) rfl rfl (qm_5 (i := 185) rfl rfl) np_M_Bo_certain rfl ⟨Nat.le_of_ble_eq_true rfl, Nat.le_of_ble_eq_true rfl⟩ (Nat.le_of_ble_eq_true rfl) rfl d_Cl_lists_162 (Nat.zero_le _) (Nat.zero_le _) (DI.k h (fun v191 w190 gw190 h => (?_ : WD _ _ 165 _ _ _ _ _ _)))
          refine x_if_eq 174 d_Cl_lists_165 rfl ⟨fun c192 => (?_ : WD _ _ 174 _ _ _ _ _ _), fun c192 => (?_ : WD _ _ 168 _ _ _ _ _ _)⟩
          · replace h := h.1 c192
            obtain ⟨h193, h⟩ := h
            obtain ⟨h194, h⟩ := h
            refine x_new d_Cl_lists_174 clk_17 tyJ4_ok (qm_3 (i := 188) rfl rfl) (qm_3 (i := 189) rfl rfl) (qm_1 (i := 19) rfl rfl) hfd_17 h193 h194 (fun q195 fq195 => (?_ : WD _ _ 177 _ _ _ _ _ _))
            replace h := h q195 fq195
            have k196 : Ow (uN w190 q195 (kO 17)) q195 (kO 17) := Ow.nw
            refine x_dup d_Cl_lists_177 rfl (?_ : WD _ _ 178 _ _ _ _ _ _)
            obtain ⟨c197, s198, h199, h200, h⟩ := h
            refine x_callI (ν := M_Sb_init) [] ok_M_Sb_init oki_M_Sb_init rfl rfl (qm_3 (i := 190) rfl rfl) np_M_Sb_init rfl ⟨Nat.le_of_ble_eq_true rfl, Nat.le_of_ble_eq_true rfl⟩ (Nat.le_of_ble_eq_true rfl) rfl d_Cl_lists_178 h199 h200 (DV.k h (fun w201 gw201 h => (?_ : WD _ _ 181 _ _ _ _ _ _)))
            refine x_ldcwS (q := 278) (tx := "x") d_Cl_lists_181 (by decide) (?_ : WD _ _ 184 _ _ _ _ _ _)
            obtain ⟨c203, s204, h205, h206, h⟩ := h
            refine x_callV (ν := M_Sb_append_15ec4) [vA (xa G 278)] ok_M_Sb_append_15ec4 okv_M_Sb_append_15ec4 (k196.q gw201.k).is rfl rfl (qm_3 (i := 235) rfl rfl) np_M_Sb_append_15ec4 rfl ⟨Nat.le_of_ble_eq_true rfl, Nat.le_of_ble_eq_true rfl⟩ (Nat.le_of_ble_eq_true rfl) rfl d_Cl_lists_184 h205 h206 (DP.k h (fun v208 w207 gw207 h => (?_ : WD _ _ 187 _ _ _ _ _ _)))
            refine x_aload_nP (some x2) d_Cl_lists_187 rfl (?_ : WD _ _ 188 _ _ _ _ _ _)
            refine x_iload d_Cl_lists_188 rfl (?_ : WD _ _ 190 _ _ _ _ _ _)
            obtain ⟨c209, s210, h211, h212, h⟩ := h
            refine x_callS (ν := M_Cl_oftenOf) [vA x2, vI x9] ok_M_Cl_oftenOf oks_M_Cl_oftenOf (qm_6 (i := 200) rfl rfl) np_M_Cl_oftenOf rfl ⟨Nat.le_of_ble_eq_true rfl, Nat.le_of_ble_eq_true rfl⟩ (Nat.le_of_ble_eq_true rfl) rfl d_Cl_lists_190 h211 h212 (DI.k h (fun v214 w213 gw213 h => (?_ : WD _ _ 193 _ _ _ _ _ _)))
            obtain ⟨a215, e216, h⟩ := h
            rw [e216]
            obtain ⟨c217, s218, h219, h220, h⟩ := h
            obtain ⟨k221, h⟩ := h
            refine x_callV (ν := M_Sb_append_bf812) [vI v214] ok_M_Sb_append_bf812 okv_M_Sb_append_bf812 k221 rfl rfl (qm_4 (i := 100) rfl rfl) np_M_Sb_append_bf812 rfl ⟨Nat.le_of_ble_eq_true rfl, Nat.le_of_ble_eq_true rfl⟩ (Nat.le_of_ble_eq_true rfl) rfl d_Cl_lists_193 h219 h220 (DP.k h (fun v223 w222 gw222 h => (?_ : WD _ _ 196 _ _ _ _ _ _)))
            obtain ⟨a224, e225, h⟩ := h
            rw [e225]
            obtain ⟨c226, s227, h228, h229, h⟩ := h
            obtain ⟨k230, h⟩ := h
            refine x_callV (ν := M_Sb_toString) [] ok_M_Sb_toString okv_M_Sb_toString k230 rfl rfl (qm_4 (i := 182) rfl rfl) np_M_Sb_toString rfl ⟨Nat.le_of_ble_eq_true rfl, Nat.le_of_ble_eq_true rfl⟩ (Nat.le_of_ble_eq_true rfl) rfl d_Cl_lists_196 h228 h229 (DP.k h (fun v232 w231 gw231 h => (?_ : WD _ _ 199 _ _ _ _ _ _)))
            obtain ⟨a233, e234, h⟩ := h
            rw [e234]
            obtain ⟨a235, e236, h⟩ := h
            rw [e236]
            obtain ⟨c237, s238, h239, h240, h⟩ := h
            obtain ⟨k241, h⟩ := h
            refine x_callV (ν := M_Sb_append_15ec4) [vA a235] ok_M_Sb_append_15ec4 okv_M_Sb_append_15ec4 k241 rfl rfl (qm_3 (i := 235) rfl rfl) np_M_Sb_append_15ec4 rfl ⟨Nat.le_of_ble_eq_true rfl, Nat.le_of_ble_eq_true rfl⟩ (Nat.le_of_ble_eq_true rfl) rfl d_Cl_lists_199 h239 h240 (DP.k h (fun v243 w242 gw242 h => (?_ : WD _ _ 202 _ _ _ _ _ _)))
            refine x_aloadP (some a124) d_Cl_lists_202 rfl (?_ : WD _ _ 204 _ _ _ _ _ _)
            refine x_getI (ref := "CoinSamplerLaw$Item") (j := 3) 3 (((((((((((((((((k126.q gw127.k).q gw135.k).nu fq140).q gw146.k).q gw152.k).q gw161.k).q gw170.k).q gw179.k).q gw188.k).q gw190.k).nu fq195).q gw201.k).q gw207.k).q gw213.k).q gw222.k).q gw231.k).q gw242.k) clk_13 (by decide) (qm_4 (i := 159) rfl rfl) (Or.inl rfl) rfl rfl d_Cl_lists_204 (y := (wI w242 a124 3)) rfl (?_ : WD _ _ 207 _ _ _ _ _ _)
            refine x_if_ge 216 d_Cl_lists_207 rfl ⟨fun c244 => (?_ : WD _ _ 216 _ _ _ _ _ _), fun c244 => (?_ : WD _ _ 210 _ _ _ _ _ _)⟩
            · replace h := h.1 c244
              obtain ⟨h245, h⟩ := h
              obtain ⟨h246, h⟩ := h
              refine x_new d_Cl_lists_216 clk_17 tyJ4_ok (qm_3 (i := 188) rfl rfl) (qm_3 (i := 189) rfl rfl) (qm_1 (i := 19) rfl rfl) hfd_17 h245 h246 (fun q247 fq247 => (?_ : WD _ _ 219 _ _ _ _ _ _))
              replace h := h q247 fq247
              have k248 : Ow (uN w242 q247 (kO 17)) q247 (kO 17) := Ow.nw
              refine x_dup d_Cl_lists_219 rfl (?_ : WD _ _ 220 _ _ _ _ _ _)
              obtain ⟨c249, s250, h251, h252, h⟩ := h
              refine x_callI (ν := M_Sb_init) [] ok_M_Sb_init oki_M_Sb_init rfl rfl (qm_3 (i := 190) rfl rfl) np_M_Sb_init rfl ⟨Nat.le_of_ble_eq_true rfl, Nat.le_of_ble_eq_true rfl⟩ (Nat.le_of_ble_eq_true rfl) rfl d_Cl_lists_220 h251 h252 (DV.k h (fun w253 gw253 h => (?_ : WD _ _ 223 _ _ _ _ _ _)))
              refine x_ldcwS (q := 282) (tx := " =") d_Cl_lists_223 (by decide) (?_ : WD _ _ 226 _ _ _ _ _ _)
              obtain ⟨c255, s256, h257, h258, h⟩ := h
              refine x_callV (ν := M_Sb_append_15ec4) [vA (xa G 282)] ok_M_Sb_append_15ec4 okv_M_Sb_append_15ec4 (k248.q gw253.k).is rfl rfl (qm_3 (i := 235) rfl rfl) np_M_Sb_append_15ec4 rfl ⟨Nat.le_of_ble_eq_true rfl, Nat.le_of_ble_eq_true rfl⟩ (Nat.le_of_ble_eq_true rfl) rfl d_Cl_lists_226 h257 h258 (DP.k h (fun v260 w259 gw259 h => (?_ : WD _ _ 229 _ _ _ _ _ _)))
              refine x_aloadP (some a124) d_Cl_lists_229 rfl (?_ : WD _ _ 231 _ _ _ _ _ _)
              refine x_getI (ref := "CoinSamplerLaw$Item") (j := 3) 3 ((((((((((((((((((((k126.q gw127.k).q gw135.k).nu fq140).q gw146.k).q gw152.k).q gw161.k).q gw170.k).q gw179.k).q gw188.k).q gw190.k).nu fq195).q gw201.k).q gw207.k).q gw213.k).q gw222.k).q gw231.k).q gw242.k).nu fq247).q gw253.k).q gw259.k) clk_13 (by decide) (qm_4 (i := 159) rfl rfl) (Or.inl rfl) rfl rfl d_Cl_lists_231 (y := (wI w259 a124 3)) rfl (?_ : WD _ _ 234 _ _ _ _ _ _)
              obtain ⟨a261, e262, h⟩ := h
              rw [e262]
              obtain ⟨c263, s264, h265, h266, h⟩ := h
              obtain ⟨k267, h⟩ := h
              refine x_callV (ν := M_Sb_append_bf812) [vI (wI w259 a124 3)] ok_M_Sb_append_bf812 okv_M_Sb_append_bf812 k267 rfl rfl (qm_4 (i := 100) rfl rfl) np_M_Sb_append_bf812 rfl ⟨Nat.le_of_ble_eq_true rfl, Nat.le_of_ble_eq_true rfl⟩ (Nat.le_of_ble_eq_true rfl) rfl d_Cl_lists_234 h265 h266 (DP.k h (fun v269 w268 gw268 h => (?_ : WD _ _ 237 _ _ _ _ _ _)))
              obtain ⟨a270, e271, h⟩ := h
              rw [e271]
              obtain ⟨c272, s273, h274, h275, h⟩ := h
              obtain ⟨k276, h⟩ := h
              refine x_callV (ν := M_Sb_toString) [] ok_M_Sb_toString okv_M_Sb_toString k276 rfl rfl (qm_4 (i := 182) rfl rfl) np_M_Sb_toString rfl ⟨Nat.le_of_ble_eq_true rfl, Nat.le_of_ble_eq_true rfl⟩ (Nat.le_of_ble_eq_true rfl) rfl d_Cl_lists_237 h274 h275 (DP.k h (fun v278 w277 gw277 h => (?_ : WD _ _ 240 _ _ _ _ _ _)))
              obtain ⟨a279, e280, h⟩ := h
              rw [e280]
              obtain ⟨a281, e282, h⟩ := h
              rw [e282]
              obtain ⟨c283, s284, h285, h286, h⟩ := h
              obtain ⟨k287, h⟩ := h
              refine x_callV (ν := M_Sb_append_15ec4) [vA a281] ok_M_Sb_append_15ec4 okv_M_Sb_append_15ec4 k287 rfl rfl (qm_3 (i := 235) rfl rfl) np_M_Sb_append_15ec4 rfl ⟨Nat.le_of_ble_eq_true rfl, Nat.le_of_ble_eq_true rfl⟩ (Nat.le_of_ble_eq_true rfl) rfl d_Cl_lists_240 h285 h286 (DP.k h (fun v289 w288 gw288 h => (?_ : WD _ _ 243 _ _ _ _ _ _)))
              obtain ⟨a290, e291, h⟩ := h
              rw [e291]
              obtain ⟨c292, s293, h294, h295, h⟩ := h
              obtain ⟨k296, h⟩ := h
              refine x_callV (ν := M_Sb_toString) [] ok_M_Sb_toString okv_M_Sb_toString k296 rfl rfl (qm_4 (i := 182) rfl rfl) np_M_Sb_toString rfl ⟨Nat.le_of_ble_eq_true rfl, Nat.le_of_ble_eq_true rfl⟩ (Nat.le_of_ble_eq_true rfl) rfl d_Cl_lists_243 h294 h295 (DP.k h (fun v298 w297 gw297 h => (?_ : WD _ _ 246 _ _ _ _ _ _)))
              refine x_astoreP v298 (ls' := [(11, vP v298), (7, vL (x7 + v136)), (10, vA a124), (0, vR 0), (1, vA x1), (2, vA x2), (3, vA a8), (4, vI x4), (5, vI x5), (6, vI x6), (9, vI x9)]) d_Cl_lists_246 (by decide) rfl (?_ : WD _ _ 248 _ _ _ _ _ _)
              refine x_aload_n d_Cl_lists_248 rfl (?_ : WD _ _ 249 _ _ _ _ _ _)
              refine x_iload d_Cl_lists_249 rfl (?_ : WD _ _ 251 _ _ _ _ _ _)
              refine x_callC (ν := M_Cs_drawn) (k := 0) [vI x6] ok_M_Cs_drawn okv_M_Cs_drawn (by decide) rfl rfl rfl (qm_9 (i := 227) rfl rfl) np_M_Cs_drawn rfl ⟨Nat.le_of_ble_eq_true rfl, Nat.le_of_ble_eq_true rfl⟩ (Nat.le_of_ble_eq_true rfl) rfl d_Cl_lists_251 (CI.kd h (fun v299 σ300 h => (?_ : WD _ _ 254 _ _ _ _ _ _)))
              refine x_iload d_Cl_lists_254 rfl (?_ : WD _ _ 256 _ _ _ _ _ _)
              refine x_icmp_eq 261 d_Cl_lists_256 rfl ⟨fun c301 => (?_ : WD _ _ 261 _ _ _ _ _ _), fun c301 => (?_ : WD _ _ 259 _ _ _ _ _ _)⟩
              · replace h := h.1 c301
                refine x_iconst d_Cl_lists_261 (by decide) (?_ : WD _ _ 262 _ _ _ _ _ _)
                refine x_istore (ls' := [(12, vI 0), (11, vP v298), (7, vL (x7 + v136)), (10, vA a124), (0, vR 0), (1, vA x1), (2, vA x2), (3, vA a8), (4, vI x4), (5, vI x5), (6, vI x6), (9, vI x9)]) d_Cl_lists_262 (by decide) rfl (?_ : WD _ _ 264 _ _ _ _ _ _)
                refine x_pick (ls' := [(0, vR 0), (1, vA x1), (2, vA x2), (3, vA a8), (4, vI x4), (5, vI x5), (6, vI x6), (7, vL (x7 + v136)), (9, vI x9), (11, vP v298), (12, vI 0)]) [4, 5, 6, 7, 8, 9, 10, 2, 11, 1, 0] rfl ?_
                exact h
              · replace h := h.2 c301
                refine x_iconst d_Cl_lists_259 (by decide) (?_ : WD _ _ 260 _ _ _ _ _ _)
                exact x_zreturn rfl d_Cl_lists_260 (by decide) h
            · replace h := h.2 c244
              refine x_ldcwS (q := 280) (tx := "") d_Cl_lists_210 (by decide) (?_ : WD _ _ 213 _ _ _ _ _ _)
              refine x_goto 240 d_Cl_lists_213 rfl ?_
              obtain ⟨a302, e303, h⟩ := h
              rw [e303]
              obtain ⟨c304, s305, h306, h307, h⟩ := h
              obtain ⟨k308, h⟩ := h
              refine x_callV (ν := M_Sb_append_15ec4) [vA (xa G 280)] ok_M_Sb_append_15ec4 okv_M_Sb_append_15ec4 k308 rfl rfl (qm_3 (i := 235) rfl rfl) np_M_Sb_append_15ec4 rfl ⟨Nat.le_of_ble_eq_true rfl, Nat.le_of_ble_eq_true rfl⟩ (Nat.le_of_ble_eq_true rfl) rfl d_Cl_lists_240 h306 h307 (DP.k h (fun v310 w309 gw309 h => (?_ : WD _ _ 243 _ _ _ _ _ _)))
              obtain ⟨a311, e312, h⟩ := h
              rw [e312]
              obtain ⟨c313, s314, h315, h316, h⟩ := h
              obtain ⟨k317, h⟩ := h
              refine x_callV (ν := M_Sb_toString) [] ok_M_Sb_toString okv_M_Sb_toString k317 rfl rfl (qm_4 (i := 182) rfl rfl) np_M_Sb_toString rfl ⟨Nat.le_of_ble_eq_true rfl, Nat.le_of_ble_eq_true rfl⟩ (Nat.le_of_ble_eq_true rfl) rfl d_Cl_lists_243 h315 h316 (DP.k h (fun v319 w318 gw318 h => (?_ : WD _ _ 246 _ _ _ _ _ _)))
              refine x_astoreP v319 (ls' := [(11, vP v319), (7, vL (x7 + v136)), (10, vA a124), (0, vR 0), (1, vA x1), (2, vA x2), (3, vA a8), (4, vI x4), (5, vI x5), (6, vI x6), (9, vI x9)]) d_Cl_lists_246 (by decide) rfl (?_ : WD _ _ 248 _ _ _ _ _ _)
              refine x_aload_n d_Cl_lists_248 rfl (?_ : WD _ _ 249 _ _ _ _ _ _)
              refine x_iload d_Cl_lists_249 rfl (?_ : WD _ _ 251 _ _ _ _ _ _)
              refine x_callC (ν := M_Cs_drawn) (k := 0) [vI x6] ok_M_Cs_drawn okv_M_Cs_drawn (by decide) rfl rfl rfl (qm_9 (i := 227) rfl rfl) np_M_Cs_drawn rfl ⟨Nat.le_of_ble_eq_true rfl, Nat.le_of_ble_eq_true rfl⟩ (Nat.le_of_ble_eq_true rfl) rfl d_Cl_lists_251 (CI.kd h (fun v320 σ321 h => (?_ : WD _ _ 254 _ _ _ _ _ _)))
              refine x_iload d_Cl_lists_254 rfl (?_ : WD _ _ 256 _ _ _ _ _ _)
              refine x_icmp_eq 261 d_Cl_lists_256 rfl ⟨fun c322 => (?_ : WD _ _ 261 _ _ _ _ _ _), fun c322 => (?_ : WD _ _ 259 _ _ _ _ _ _)⟩
              · replace h := h.1 c322
                refine x_iconst d_Cl_lists_261 (by decide) (?_ : WD _ _ 262 _ _ _ _ _ _)
                refine x_istore (ls' := [(12, vI 0), (11, vP v319), (7, vL (x7 + v136)), (10, vA a124), (0, vR 0), (1, vA x1), (2, vA x2), (3, vA a8), (4, vI x4), (5, vI x5), (6, vI x6), (9, vI x9)]) d_Cl_lists_262 (by decide) rfl (?_ : WD _ _ 264 _ _ _ _ _ _)
                refine x_pick (ls' := [(0, vR 0), (1, vA x1), (2, vA x2), (3, vA a8), (4, vI x4), (5, vI x5), (6, vI x6), (7, vL (x7 + v136)), (9, vI x9), (11, vP v319), (12, vI 0)]) [4, 5, 6, 7, 8, 9, 10, 2, 11, 1, 0] rfl ?_
                exact h
              · replace h := h.2 c322
                refine x_iconst d_Cl_lists_259 (by decide) (?_ : WD _ _ 260 _ _ _ _ _ _)
                exact x_zreturn rfl d_Cl_lists_260 (by decide) h
          · replace h := h.2 c192
            refine x_ldcwS (q := 276) (tx := "!") d_Cl_lists_168 (by decide) (?_ : WD _ _ 171 _ _ _ _ _ _)
            refine x_goto 199 d_Cl_lists_171 rfl ?_
            obtain ⟨a323, e324, h⟩ := h
            rw [e324]
            obtain ⟨c325, s326, h327, h328, h⟩ := h
            obtain ⟨k329, h⟩ := h
            refine x_callV (ν := M_Sb_append_15ec4) [vA (xa G 276)] ok_M_Sb_append_15ec4 okv_M_Sb_append_15ec4 k329 rfl rfl (qm_3 (i := 235) rfl rfl) np_M_Sb_append_15ec4 rfl ⟨Nat.le_of_ble_eq_true rfl, Nat.le_of_ble_eq_true rfl⟩ (Nat.le_of_ble_eq_true rfl) rfl d_Cl_lists_199 h327 h328 (DP.k h (fun v331 w330 gw330 h => (?_ : WD _ _ 202 _ _ _ _ _ _)))
            refine x_aloadP (some a124) d_Cl_lists_202 rfl (?_ : WD _ _ 204 _ _ _ _ _ _)
            refine x_getI (ref := "CoinSamplerLaw$Item") (j := 3) 3 (((((((((((k126.q gw127.k).q gw135.k).nu fq140).q gw146.k).q gw152.k).q gw161.k).q gw170.k).q gw179.k).q gw188.k).q gw190.k).q gw330.k) clk_13 (by decide) (qm_4 (i := 159) rfl rfl) (Or.inl rfl) rfl rfl d_Cl_lists_204 (y := (wI w330 a124 3)) rfl (?_ : WD _ _ 207 _ _ _ _ _ _)
            refine x_if_ge 216 d_Cl_lists_207 rfl ⟨fun c332 => (?_ : WD _ _ 216 _ _ _ _ _ _), fun c332 => (?_ : WD _ _ 210 _ _ _ _ _ _)⟩
            · replace h := h.1 c332
              obtain ⟨h333, h⟩ := h
              obtain ⟨h334, h⟩ := h
              refine x_new d_Cl_lists_216 clk_17 tyJ4_ok (qm_3 (i := 188) rfl rfl) (qm_3 (i := 189) rfl rfl) (qm_1 (i := 19) rfl rfl) hfd_17 h333 h334 (fun q335 fq335 => (?_ : WD _ _ 219 _ _ _ _ _ _))
              replace h := h q335 fq335
              have k336 : Ow (uN w330 q335 (kO 17)) q335 (kO 17) := Ow.nw
              refine x_dup d_Cl_lists_219 rfl (?_ : WD _ _ 220 _ _ _ _ _ _)
              obtain ⟨c337, s338, h339, h340, h⟩ := h
              refine x_callI (ν := M_Sb_init) [] ok_M_Sb_init oki_M_Sb_init rfl rfl (qm_3 (i := 190) rfl rfl) np_M_Sb_init rfl ⟨Nat.le_of_ble_eq_true rfl, Nat.le_of_ble_eq_true rfl⟩ (Nat.le_of_ble_eq_true rfl) rfl d_Cl_lists_220 h339 h340 (DV.k h (fun w341 gw341 h => (?_ : WD _ _ 223 _ _ _ _ _ _)))
              refine x_ldcwS (q := 282) (tx := " =") d_Cl_lists_223 (by decide) (?_ : WD _ _ 226 _ _ _ _ _ _)
              obtain ⟨c343, s344, h345, h346, h⟩ := h
              refine x_callV (ν := M_Sb_append_15ec4) [vA (xa G 282)] ok_M_Sb_append_15ec4 okv_M_Sb_append_15ec4 (k336.q gw341.k).is rfl rfl (qm_3 (i := 235) rfl rfl) np_M_Sb_append_15ec4 rfl ⟨Nat.le_of_ble_eq_true rfl, Nat.le_of_ble_eq_true rfl⟩ (Nat.le_of_ble_eq_true rfl) rfl d_Cl_lists_226 h345 h346 (DP.k h (fun v348 w347 gw347 h => (?_ : WD _ _ 229 _ _ _ _ _ _)))
              refine x_aloadP (some a124) d_Cl_lists_229 rfl (?_ : WD _ _ 231 _ _ _ _ _ _)
              refine x_getI (ref := "CoinSamplerLaw$Item") (j := 3) 3 ((((((((((((((k126.q gw127.k).q gw135.k).nu fq140).q gw146.k).q gw152.k).q gw161.k).q gw170.k).q gw179.k).q gw188.k).q gw190.k).q gw330.k).nu fq335).q gw341.k).q gw347.k) clk_13 (by decide) (qm_4 (i := 159) rfl rfl) (Or.inl rfl) rfl rfl d_Cl_lists_231 (y := (wI w347 a124 3)) rfl (?_ : WD _ _ 234 _ _ _ _ _ _)
              obtain ⟨a349, e350, h⟩ := h
              rw [e350]
              obtain ⟨c351, s352, h353, h354, h⟩ := h
              obtain ⟨k355, h⟩ := h
              refine x_callV (ν := M_Sb_append_bf812) [vI (wI w347 a124 3)] ok_M_Sb_append_bf812 okv_M_Sb_append_bf812 k355 rfl rfl (qm_4 (i := 100) rfl rfl) np_M_Sb_append_bf812 rfl ⟨Nat.le_of_ble_eq_true rfl, Nat.le_of_ble_eq_true rfl⟩ (Nat.le_of_ble_eq_true rfl) rfl d_Cl_lists_234 h353 h354 (DP.k h (fun v357 w356 gw356 h => (?_ : WD _ _ 237 _ _ _ _ _ _)))
              obtain ⟨a358, e359, h⟩ := h
              rw [e359]
              obtain ⟨c360, s361, h362, h363, h⟩ := h
              obtain ⟨k364, h⟩ := h
              refine x_callV (ν := M_Sb_toString) [] ok_M_Sb_toString okv_M_Sb_toString k364 rfl rfl (qm_4 (i := 182) rfl rfl) np_M_Sb_toString rfl ⟨Nat.le_of_ble_eq_true rfl, Nat.le_of_ble_eq_true rfl⟩ (Nat.le_of_ble_eq_true rfl) rfl d_Cl_lists_237 h362 h363 (DP.k h (fun v366 w365 gw365 h => (?_ : WD _ _ 240 _ _ _ _ _ _)))
              obtain ⟨a367, e368, h⟩ := h
              rw [e368]
              obtain ⟨a369, e370, h⟩ := h
              rw [e370]
              obtain ⟨c371, s372, h373, h374, h⟩ := h
              obtain ⟨k375, h⟩ := h
              refine x_callV (ν := M_Sb_append_15ec4) [vA a369] ok_M_Sb_append_15ec4 okv_M_Sb_append_15ec4 k375 rfl rfl (qm_3 (i := 235) rfl rfl) np_M_Sb_append_15ec4 rfl ⟨Nat.le_of_ble_eq_true rfl, Nat.le_of_ble_eq_true rfl⟩ (Nat.le_of_ble_eq_true rfl) rfl d_Cl_lists_240 h373 h374 (DP.k h (fun v377 w376 gw376 h => (?_ : WD _ _ 243 _ _ _ _ _ _)))
              obtain ⟨a378, e379, h⟩ := h
              rw [e379]
              obtain ⟨c380, s381, h382, h383, h⟩ := h
              obtain ⟨k384, h⟩ := h
              refine x_callV (ν := M_Sb_toString) [] ok_M_Sb_toString okv_M_Sb_toString k384 rfl rfl (qm_4 (i := 182) rfl rfl) np_M_Sb_toString rfl ⟨Nat.le_of_ble_eq_true rfl, Nat.le_of_ble_eq_true rfl⟩ (Nat.le_of_ble_eq_true rfl) rfl d_Cl_lists_243 h382 h383 (DP.k h (fun v386 w385 gw385 h => (?_ : WD _ _ 246 _ _ _ _ _ _)))
              refine x_astoreP v386 (ls' := [(11, vP v386), (7, vL (x7 + v136)), (10, vA a124), (0, vR 0), (1, vA x1), (2, vA x2), (3, vA a8), (4, vI x4), (5, vI x5), (6, vI x6), (9, vI x9)]) d_Cl_lists_246 (by decide) rfl (?_ : WD _ _ 248 _ _ _ _ _ _)
              refine x_aload_n d_Cl_lists_248 rfl (?_ : WD _ _ 249 _ _ _ _ _ _)
              refine x_iload d_Cl_lists_249 rfl (?_ : WD _ _ 251 _ _ _ _ _ _)
              refine x_callC (ν := M_Cs_drawn) (k := 0) [vI x6] ok_M_Cs_drawn okv_M_Cs_drawn (by decide) rfl rfl rfl (qm_9 (i := 227) rfl rfl) np_M_Cs_drawn rfl ⟨Nat.le_of_ble_eq_true rfl, Nat.le_of_ble_eq_true rfl⟩ (Nat.le_of_ble_eq_true rfl) rfl d_Cl_lists_251 (CI.kd h (fun v387 σ388 h => (?_ : WD _ _ 254 _ _ _ _ _ _)))
              refine x_iload d_Cl_lists_254 rfl (?_ : WD _ _ 256 _ _ _ _ _ _)
              refine x_icmp_eq 261 d_Cl_lists_256 rfl ⟨fun c389 => (?_ : WD _ _ 261 _ _ _ _ _ _), fun c389 => (?_ : WD _ _ 259 _ _ _ _ _ _)⟩
              · replace h := h.1 c389
                refine x_iconst d_Cl_lists_261 (by decide) (?_ : WD _ _ 262 _ _ _ _ _ _)
                refine x_istore (ls' := [(12, vI 0), (11, vP v386), (7, vL (x7 + v136)), (10, vA a124), (0, vR 0), (1, vA x1), (2, vA x2), (3, vA a8), (4, vI x4), (5, vI x5), (6, vI x6), (9, vI x9)]) d_Cl_lists_262 (by decide) rfl (?_ : WD _ _ 264 _ _ _ _ _ _)
                refine x_pick (ls' := [(0, vR 0), (1, vA x1), (2, vA x2), (3, vA a8), (4, vI x4), (5, vI x5), (6, vI x6), (7, vL (x7 + v136)), (9, vI x9), (11, vP v386), (12, vI 0)]) [4, 5, 6, 7, 8, 9, 10, 2, 11, 1, 0] rfl ?_
                exact h
              · replace h := h.2 c389
                refine x_iconst d_Cl_lists_259 (by decide) (?_ : WD _ _ 260 _ _ _ _ _ _)
                exact x_zreturn rfl d_Cl_lists_260 (by decide) h
            · replace h := h.2 c332
              refine x_ldcwS (q := 280) (tx := "") d_Cl_lists_210 (by decide) (?_ : WD _ _ 213 _ _ _ _ _ _)
              refine x_goto 240 d_Cl_lists_213 rfl ?_
              obtain ⟨a390, e391, h⟩ := h
              rw [e391]
              obtain ⟨c392, s393, h394, h395, h⟩ := h
              obtain ⟨k396, h⟩ := h
              refine x_callV (ν := M_Sb_append_15ec4) [vA (xa G 280)] ok_M_Sb_append_15ec4 okv_M_Sb_append_15ec4 k396 rfl rfl (qm_3 (i := 235) rfl rfl) np_M_Sb_append_15ec4 rfl ⟨Nat.le_of_ble_eq_true rfl, Nat.le_of_ble_eq_true rfl⟩ (Nat.le_of_ble_eq_true rfl) rfl d_Cl_lists_240 h394 h395 (DP.k h (fun v398 w397 gw397 h => (?_ : WD _ _ 243 _ _ _ _ _ _)))
              obtain ⟨a399, e400, h⟩ := h
              rw [e400]
              obtain ⟨c401, s402, h403, h404, h⟩ := h
              obtain ⟨k405, h⟩ := h
              refine x_callV (ν := M_Sb_toString) [] ok_M_Sb_toString okv_M_Sb_toString k405 rfl rfl (qm_4 (i := 182) rfl rfl) np_M_Sb_toString rfl ⟨Nat.le_of_ble_eq_true rfl, Nat.le_of_ble_eq_true rfl⟩ (Nat.le_of_ble_eq_true rfl) rfl d_Cl_lists_243 h403 h404 (DP.k h (fun v407 w406 gw406 h => (?_ : WD _ _ 246 _ _ _ _ _ _)))
              refine x_astoreP v407 (ls' := [(11, vP v407), (7, vL (x7 + v136)), (10, vA a124), (0, vR 0), (1, vA x1), (2, vA x2), (3, vA a8), (4, vI x4), (5, vI x5), (6, vI x6), (9, vI x9)]) d_Cl_lists_246 (by decide) rfl (?_ : WD _ _ 248 _ _ _ _ _ _)
              refine x_aload_n d_Cl_lists_248 rfl (?_ : WD _ _ 249 _ _ _ _ _ _)
              refine x_iload d_Cl_lists_249 rfl (?_ : WD _ _ 251 _ _ _ _ _ _)
              refine x_callC (ν := M_Cs_drawn) (k := 0) [vI x6] ok_M_Cs_drawn okv_M_Cs_drawn (by decide) rfl rfl rfl (qm_9 (i := 227) rfl rfl) np_M_Cs_drawn rfl ⟨Nat.le_of_ble_eq_true rfl, Nat.le_of_ble_eq_true rfl⟩ (Nat.le_of_ble_eq_true rfl) rfl d_Cl_lists_251 (CI.kd h (fun v408 σ409 h => (?_ : WD _ _ 254 _ _ _ _ _ _)))
              refine x_iload d_Cl_lists_254 rfl (?_ : WD _ _ 256 _ _ _ _ _ _)
              refine x_icmp_eq 261 d_Cl_lists_256 rfl ⟨fun c410 => (?_ : WD _ _ 261 _ _ _ _ _ _), fun c410 => (?_ : WD _ _ 259 _ _ _ _ _ _)⟩
              · replace h := h.1 c410
                refine x_iconst d_Cl_lists_261 (by decide) (?_ : WD _ _ 262 _ _ _ _ _ _)
                refine x_istore (ls' := [(12, vI 0), (11, vP v407), (7, vL (x7 + v136)), (10, vA a124), (0, vR 0), (1, vA x1), (2, vA x2), (3, vA a8), (4, vI x4), (5, vI x5), (6, vI x6), (9, vI x9)]) d_Cl_lists_262 (by decide) rfl (?_ : WD _ _ 264 _ _ _ _ _ _)
                refine x_pick (ls' := [(0, vR 0), (1, vA x1), (2, vA x2), (3, vA a8), (4, vI x4), (5, vI x5), (6, vI x6), (7, vL (x7 + v136)), (9, vI x9), (11, vP v407), (12, vI 0)]) [4, 5, 6, 7, 8, 9, 10, 2, 11, 1, 0] rfl ?_
                exact h
              · replace h := h.2 c410
                refine x_iconst d_Cl_lists_259 (by decide) (?_ : WD _ _ 260 _ _ _ _ _ _)
                exact x_zreturn rfl d_Cl_lists_260 (by decide) h
        · replace h := h.2 c134
          refine x_aload_n d_Cl_lists_80 rfl (?_ : WD _ _ 81 _ _ _ _ _ _)
          refine x_iload d_Cl_lists_81 rfl (?_ : WD _ _ 83 _ _ _ _ _ _)
          obtain ⟨h411, h⟩ := h
          refine x_iinc (ls' := [(5, vI (x5 + 1)), (10, vA a124), (0, vR 0), (1, vA x1), (2, vA x2), (3, vA a8), (4, vI x4), (6, vI x6), (7, vL x7), (9, vI x9)]) d_Cl_lists_83 rfl h411 (by decide) rfl (?_ : WD _ _ 86 _ _ _ _ _ _)
          refine x_callC (ν := M_Cs_lacking) (k := 0) [vI x5] ok_M_Cs_lacking okv_M_Cs_lacking (by decide) rfl rfl rfl (qm_9 (i := 218) rfl rfl) np_M_Cs_lacking rfl ⟨Nat.le_of_ble_eq_true rfl, Nat.le_of_ble_eq_true rfl⟩ (Nat.le_of_ble_eq_true rfl) rfl d_Cl_lists_86 (CI.kd h (fun v412 σ413 h => (?_ : WD _ _ 89 _ _ _ _ _ _)))
          refine x_iload d_Cl_lists_89 rfl (?_ : WD _ _ 91 _ _ _ _ _ _)
          refine x_icmp_eq 96 d_Cl_lists_91 rfl ⟨fun c414 => (?_ : WD _ _ 96 _ _ _ _ _ _), fun c414 => (?_ : WD _ _ 94 _ _ _ _ _ _)⟩
          · replace h := h.1 c414
            refine x_aload_nP (some a8) d_Cl_lists_96 rfl (?_ : WD _ _ 97 _ _ _ _ _ _)
            refine x_iload d_Cl_lists_97 rfl (?_ : WD _ _ 99 _ _ _ _ _ _)
            refine x_zald ((k11.q gw122.k).q gw127.k) d_Cl_lists_99 h130 h131 (y := (wI w127 a8 x9)) rfl (?_ : WD _ _ 100 _ _ _ _ _ _)
            refine x_if_ne 106 d_Cl_lists_100 rfl ⟨fun hc => (?_ : WD _ _ 106 _ _ _ _ _ _), fun hc => absurd hc c132⟩
            refine x_lload d_Cl_lists_106 rfl (?_ : WD _ _ 108 _ _ _ _ _ _)
            refine x_aloadP (some a124) d_Cl_lists_108 rfl (?_ : WD _ _ 110 _ _ _ _ _ _)
            refine x_callV (ν := M_It_coins) [] ok_M_It_coins okv_M_It_coins (k126.q gw127.k) rfl rfl (qm_6 (i := 199) rfl rfl) np_M_It_coins rfl ⟨Nat.le_of_ble_eq_true rfl, Nat.le_of_ble_eq_true rfl⟩ (Nat.le_of_ble_eq_true rfl) rfl d_Cl_lists_110 (Nat.zero_le _) (Nat.zero_le _) (DI.k h (fun v416 w415 gw415 h => (?_ : WD _ _ 113 _ _ _ _ _ _)))
            refine x_i2l d_Cl_lists_113 (?_ : WD _ _ 114 _ _ _ _ _ _)
            obtain ⟨h417, h⟩ := h
            refine x_ladd d_Cl_lists_114 h417 (?_ : WD _ _ 115 _ _ _ _ _ _)
            refine x_lstore (ls' := [(7, vL (x7 + v416)), (5, vI (x5 + 1)), (10, vA a124), (0, vR 0), (1, vA x1), (2, vA x2), (3, vA a8), (4, vI x4), (6, vI x6), (9, vI x9)]) d_Cl_lists_115 (by decide) rfl (?_ : WD _ _ 117 _ _ _ _ _ _)
            obtain ⟨h418, h⟩ := h
            obtain ⟨h419, h⟩ := h
            refine x_new d_Cl_lists_117 clk_17 tyJ4_ok (qm_3 (i := 188) rfl rfl) (qm_3 (i := 189) rfl rfl) (qm_1 (i := 19) rfl rfl) hfd_17 h418 h419 (fun q420 fq420 => (?_ : WD _ _ 120 _ _ _ _ _ _))
            replace h := h q420 fq420
            have k421 : Ow (uN w415 q420 (kO 17)) q420 (kO 17) := Ow.nw
            refine x_dup d_Cl_lists_120 rfl (?_ : WD _ _ 121 _ _ _ _ _ _)
            obtain ⟨c422, s423, h424, h425, h⟩ := h
            refine x_callI (ν := M_Sb_init) [] ok_M_Sb_init oki_M_Sb_init rfl rfl (qm_3 (i := 190) rfl rfl) np_M_Sb_init rfl ⟨Nat.le_of_ble_eq_true rfl, Nat.le_of_ble_eq_true rfl⟩ (Nat.le_of_ble_eq_true rfl) rfl d_Cl_lists_121 h424 h425 (DV.k h (fun w426 gw426 h => (?_ : WD _ _ 124 _ _ _ _ _ _)))
            refine x_aloadP (some a124) d_Cl_lists_124 rfl (?_ : WD _ _ 126 _ _ _ _ _ _)
            refine x_getI (ref := "CoinSamplerLaw$Item") (j := 0) 0 ((((k126.q gw127.k).q gw415.k).nu fq420).q gw426.k) clk_13 (by decide) (qm_4 (i := 151) rfl rfl) (Or.inl rfl) rfl rfl d_Cl_lists_126 (y := (wI w426 a124 0)) rfl (?_ : WD _ _ 129 _ _ _ _ _ _)
            obtain ⟨c428, s429, h430, h431, h⟩ := h
            refine x_callV (ν := M_Sb_append_bf812) [vI (wI w426 a124 0)] ok_M_Sb_append_bf812 okv_M_Sb_append_bf812 (k421.q gw426.k).is rfl rfl (qm_4 (i := 100) rfl rfl) np_M_Sb_append_bf812 rfl ⟨Nat.le_of_ble_eq_true rfl, Nat.le_of_ble_eq_true rfl⟩ (Nat.le_of_ble_eq_true rfl) rfl d_Cl_lists_129 h430 h431 (DP.k h (fun v433 w432 gw432 h => (?_ : WD _ _ 132 _ _ _ _ _ _)))
            refine x_ldcwS (q := 274) (tx := "/") d_Cl_lists_132 (by decide) (?_ : WD _ _ 135 _ _ _ _ _ _)
            obtain ⟨a434, e435, h⟩ := h
            rw [e435]
            obtain ⟨c436, s437, h438, h439, h⟩ := h
            obtain ⟨k440, h⟩ := h
            refine x_callV (ν := M_Sb_append_15ec4) [vA (xa G 274)] ok_M_Sb_append_15ec4 okv_M_Sb_append_15ec4 k440 rfl rfl (qm_3 (i := 235) rfl rfl) np_M_Sb_append_15ec4 rfl ⟨Nat.le_of_ble_eq_true rfl, Nat.le_of_ble_eq_true rfl⟩ (Nat.le_of_ble_eq_true rfl) rfl d_Cl_lists_135 h438 h439 (DP.k h (fun v442 w441 gw441 h => (?_ : WD _ _ 138 _ _ _ _ _ _)))
            refine x_aloadP (some a124) d_Cl_lists_138 rfl (?_ : WD _ _ 140 _ _ _ _ _ _)
            refine x_getI (ref := "CoinSamplerLaw$Item") (j := 1) 1 ((((((k126.q gw127.k).q gw415.k).nu fq420).q gw426.k).q gw432.k).q gw441.k) clk_13 (by decide) (qm_4 (i := 153) rfl rfl) (Or.inl rfl) rfl rfl d_Cl_lists_140 (y := (wI w441 a124 1)) rfl (?_ : WD _ _ 143 _ _ _ _ _ _)
            obtain ⟨a443, e444, h⟩ := h
            rw [e444]
            obtain ⟨c445, s446, h447, h448, h⟩ := h
            obtain ⟨k449, h⟩ := h
            refine x_callV (ν := M_Sb_append_bf812) [vI (wI w441 a124 1)] ok_M_Sb_append_bf812 okv_M_Sb_append_bf812 k449 rfl rfl (qm_4 (i := 100) rfl rfl) np_M_Sb_append_bf812 rfl ⟨Nat.le_of_ble_eq_true rfl, Nat.le_of_ble_eq_true rfl⟩ (Nat.le_of_ble_eq_true rfl) rfl d_Cl_lists_143 h447 h448 (DP.k h (fun v451 w450 gw450 h => (?_ : WD _ _ 146 _ _ _ _ _ _)))
            refine x_ldcS (q := 268) (tx := " ") d_Cl_lists_146 (by decide) (?_ : WD _ _ 148 _ _ _ _ _ _)
            obtain ⟨a452, e453, h⟩ := h
            rw [e453]
            obtain ⟨c454, s455, h456, h457, h⟩ := h
            obtain ⟨k458, h⟩ := h
            refine x_callV (ν := M_Sb_append_15ec4) [vA (xa G 268)] ok_M_Sb_append_15ec4 okv_M_Sb_append_15ec4 k458 rfl rfl (qm_3 (i := 235) rfl rfl) np_M_Sb_append_15ec4 rfl ⟨Nat.le_of_ble_eq_true rfl, Nat.le_of_ble_eq_true rfl⟩ (Nat.le_of_ble_eq_true rfl) rfl d_Cl_lists_148 h456 h457 (DP.k h (fun v460 w459 gw459 h => (?_ : WD _ _ 151 _ _ _ _ _ _)))
            refine x_aloadP (some a124) d_Cl_lists_151 rfl (?_ : WD _ _ 153 _ _ _ _ _ _)
            refine x_getI (ref := "CoinSamplerLaw$Item") (j := 2) 2 ((((((((k126.q gw127.k).q gw415.k).nu fq420).q gw426.k).q gw432.k).q gw441.k).q gw450.k).q gw459.k) clk_13 (by decide) (qm_4 (i := 157) rfl rfl) (Or.inl rfl) rfl rfl d_Cl_lists_153 (y := (wI w459 a124 2)) rfl (?_ : WD _ _ 156 _ _ _ _ _ _)
            obtain ⟨a461, e462, h⟩ := h
            rw [e462]
            obtain ⟨c463, s464, h465, h466, h⟩ := h
            obtain ⟨k467, h⟩ := h
            refine x_callV (ν := M_Sb_append_bf812) [vI (wI w459 a124 2)] ok_M_Sb_append_bf812 okv_M_Sb_append_bf812 k467 rfl rfl (qm_4 (i := 100) rfl rfl) np_M_Sb_append_bf812 rfl ⟨Nat.le_of_ble_eq_true rfl, Nat.le_of_ble_eq_true rfl⟩ (Nat.le_of_ble_eq_true rfl) rfl d_Cl_lists_156 h465 h466 (DP.k h (fun v469 w468 gw468 h => (?_ : WD _ _ 159 _ _ _ _ _ _)))
            refine x_aload_nP (some x1) d_Cl_lists_159 rfl (?_ : WD _ _ 160 _ _ _ _ _ _)
            refine x_aloadP (some a124) d_Cl_lists_160 rfl (?_ : WD _ _ 162 _ _ _ _ _ _)
            refine x_callV (ν := M_Bo_certain) [vA a124] ok_M_Bo_certain okv_M_Bo_certain ((((((((((k118.q gw122.k).q gw127.k).q gw415.k).nu fq420).q gw426.k).q gw432.k).q gw441.k).q gw450.k).q gw459.k).q gw468.k) rfl rfl (qm_5 (i := 185) rfl rfl) np_M_Bo_certain rfl ⟨Nat.le_of_ble_eq_true rfl, Nat.le_of_ble_eq_true rfl⟩ (Nat.le_of_ble_eq_true rfl) rfl d_Cl_lists_162 (Nat.zero_le _) (Nat.zero_le _) (DI.k h (fun v471 w470 gw470 h => (?_ : WD _ _ 165 _ _ _ _ _ _)))
            refine x_if_eq 174 d_Cl_lists_165 rfl ⟨fun c472 => (?_ : WD _ _ 174 _ _ _ _ _ _), fun c472 => (?_ : WD _ _ 168 _ _ _ _ _ _)⟩
            · replace h := h.1 c472
              obtain ⟨h473, h⟩ := h
              obtain ⟨h474, h⟩ := h
              refine x_new d_Cl_lists_174 clk_17 tyJ4_ok (qm_3 (i := 188) rfl rfl) (qm_3 (i := 189) rfl rfl) (qm_1 (i := 19) rfl rfl) hfd_17 h473 h474 (fun q475 fq475 => (?_ : WD _ _ 177 _ _ _ _ _ _))
              replace h := h q475 fq475
              have k476 : Ow (uN w470 q475 (kO 17)) q475 (kO 17) := Ow.nw
              refine x_dup d_Cl_lists_177 rfl (?_ : WD _ _ 178 _ _ _ _ _ _)
              obtain ⟨c477, s478, h479, h480, h⟩ := h
              refine x_callI (ν := M_Sb_init) [] ok_M_Sb_init oki_M_Sb_init rfl rfl (qm_3 (i := 190) rfl rfl) np_M_Sb_init rfl ⟨Nat.le_of_ble_eq_true rfl, Nat.le_of_ble_eq_true rfl⟩ (Nat.le_of_ble_eq_true rfl) rfl d_Cl_lists_178 h479 h480 (DV.k h (fun w481 gw481 h => (?_ : WD _ _ 181 _ _ _ _ _ _)))
              refine x_ldcwS (q := 278) (tx := "x") d_Cl_lists_181 (by decide) (?_ : WD _ _ 184 _ _ _ _ _ _)
              obtain ⟨c483, s484, h485, h486, h⟩ := h
              refine x_callV (ν := M_Sb_append_15ec4) [vA (xa G 278)] ok_M_Sb_append_15ec4 okv_M_Sb_append_15ec4 (k476.q gw481.k).is rfl rfl (qm_3 (i := 235) rfl rfl) np_M_Sb_append_15ec4 rfl ⟨Nat.le_of_ble_eq_true rfl, Nat.le_of_ble_eq_true rfl⟩ (Nat.le_of_ble_eq_true rfl) rfl d_Cl_lists_184 h485 h486 (DP.k h (fun v488 w487 gw487 h => (?_ : WD _ _ 187 _ _ _ _ _ _)))
              refine x_aload_nP (some x2) d_Cl_lists_187 rfl (?_ : WD _ _ 188 _ _ _ _ _ _)
              refine x_iload d_Cl_lists_188 rfl (?_ : WD _ _ 190 _ _ _ _ _ _)
              obtain ⟨c489, s490, h491, h492, h⟩ := h
              refine x_callS (ν := M_Cl_oftenOf) [vA x2, vI x9] ok_M_Cl_oftenOf oks_M_Cl_oftenOf (qm_6 (i := 200) rfl rfl) np_M_Cl_oftenOf rfl ⟨Nat.le_of_ble_eq_true rfl, Nat.le_of_ble_eq_true rfl⟩ (Nat.le_of_ble_eq_true rfl) rfl d_Cl_lists_190 h491 h492 (DI.k h (fun v494 w493 gw493 h => (?_ : WD _ _ 193 _ _ _ _ _ _)))
              obtain ⟨a495, e496, h⟩ := h
              rw [e496]
              obtain ⟨c497, s498, h499, h500, h⟩ := h
              obtain ⟨k501, h⟩ := h
              refine x_callV (ν := M_Sb_append_bf812) [vI v494] ok_M_Sb_append_bf812 okv_M_Sb_append_bf812 k501 rfl rfl (qm_4 (i := 100) rfl rfl) np_M_Sb_append_bf812 rfl ⟨Nat.le_of_ble_eq_true rfl, Nat.le_of_ble_eq_true rfl⟩ (Nat.le_of_ble_eq_true rfl) rfl d_Cl_lists_193 h499 h500 (DP.k h (fun v503 w502 gw502 h => (?_ : WD _ _ 196 _ _ _ _ _ _)))
              obtain ⟨a504, e505, h⟩ := h
              rw [e505]
              obtain ⟨c506, s507, h508, h509, h⟩ := h
              obtain ⟨k510, h⟩ := h
              refine x_callV (ν := M_Sb_toString) [] ok_M_Sb_toString okv_M_Sb_toString k510 rfl rfl (qm_4 (i := 182) rfl rfl) np_M_Sb_toString rfl ⟨Nat.le_of_ble_eq_true rfl, Nat.le_of_ble_eq_true rfl⟩ (Nat.le_of_ble_eq_true rfl) rfl d_Cl_lists_196 h508 h509 (DP.k h (fun v512 w511 gw511 h => (?_ : WD _ _ 199 _ _ _ _ _ _)))
              obtain ⟨a513, e514, h⟩ := h
              rw [e514]
              obtain ⟨a515, e516, h⟩ := h
              rw [e516]
              obtain ⟨c517, s518, h519, h520, h⟩ := h
              obtain ⟨k521, h⟩ := h
              refine x_callV (ν := M_Sb_append_15ec4) [vA a515] ok_M_Sb_append_15ec4 okv_M_Sb_append_15ec4 k521 rfl rfl (qm_3 (i := 235) rfl rfl) np_M_Sb_append_15ec4 rfl ⟨Nat.le_of_ble_eq_true rfl, Nat.le_of_ble_eq_true rfl⟩ (Nat.le_of_ble_eq_true rfl) rfl d_Cl_lists_199 h519 h520 (DP.k h (fun v523 w522 gw522 h => (?_ : WD _ _ 202 _ _ _ _ _ _)))
              refine x_aloadP (some a124) d_Cl_lists_202 rfl (?_ : WD _ _ 204 _ _ _ _ _ _)
              refine x_getI (ref := "CoinSamplerLaw$Item") (j := 3) 3 (((((((((((((((((k126.q gw127.k).q gw415.k).nu fq420).q gw426.k).q gw432.k).q gw441.k).q gw450.k).q gw459.k).q gw468.k).q gw470.k).nu fq475).q gw481.k).q gw487.k).q gw493.k).q gw502.k).q gw511.k).q gw522.k) clk_13 (by decide) (qm_4 (i := 159) rfl rfl) (Or.inl rfl) rfl rfl d_Cl_lists_204 (y := (wI w522 a124 3)) rfl (?_ : WD _ _ 207 _ _ _ _ _ _)
              refine x_if_ge 216 d_Cl_lists_207 rfl ⟨fun c524 => (?_ : WD _ _ 216 _ _ _ _ _ _), fun c524 => (?_ : WD _ _ 210 _ _ _ _ _ _)⟩
              · replace h := h.1 c524
                obtain ⟨h525, h⟩ := h
                obtain ⟨h526, h⟩ := h
                refine x_new d_Cl_lists_216 clk_17 tyJ4_ok (qm_3 (i := 188) rfl rfl) (qm_3 (i := 189) rfl rfl) (qm_1 (i := 19) rfl rfl) hfd_17 h525 h526 (fun q527 fq527 => (?_ : WD _ _ 219 _ _ _ _ _ _))
                replace h := h q527 fq527
                have k528 : Ow (uN w522 q527 (kO 17)) q527 (kO 17) := Ow.nw
                refine x_dup d_Cl_lists_219 rfl (?_ : WD _ _ 220 _ _ _ _ _ _)
                obtain ⟨c529, s530, h531, h532, h⟩ := h
                refine x_callI (ν := M_Sb_init) [] ok_M_Sb_init oki_M_Sb_init rfl rfl (qm_3 (i := 190) rfl rfl) np_M_Sb_init rfl ⟨Nat.le_of_ble_eq_true rfl, Nat.le_of_ble_eq_true rfl⟩ (Nat.le_of_ble_eq_true rfl) rfl d_Cl_lists_220 h531 h532 (DV.k h (fun w533 gw533 h => (?_ : WD _ _ 223 _ _ _ _ _ _)))
                refine x_ldcwS (q := 282) (tx := " =") d_Cl_lists_223 (by decide) (?_ : WD _ _ 226 _ _ _ _ _ _)
                obtain ⟨c535, s536, h537, h538, h⟩ := h
                refine x_callV (ν := M_Sb_append_15ec4) [vA (xa G 282)] ok_M_Sb_append_15ec4 okv_M_Sb_append_15ec4 (k528.q gw533.k).is rfl rfl (qm_3 (i := 235) rfl rfl) np_M_Sb_append_15ec4 rfl ⟨Nat.le_of_ble_eq_true rfl, Nat.le_of_ble_eq_true rfl⟩ (Nat.le_of_ble_eq_true rfl) rfl d_Cl_lists_226 h537 h538 (DP.k h (fun v540 w539 gw539 h => (?_ : WD _ _ 229 _ _ _ _ _ _)))
                refine x_aloadP (some a124) d_Cl_lists_229 rfl (?_ : WD _ _ 231 _ _ _ _ _ _)
                refine x_getI (ref := "CoinSamplerLaw$Item") (j := 3) 3 ((((((((((((((((((((k126.q gw127.k).q gw415.k).nu fq420).q gw426.k).q gw432.k).q gw441.k).q gw450.k).q gw459.k).q gw468.k).q gw470.k).nu fq475).q gw481.k).q gw487.k).q gw493.k).q gw502.k).q gw511.k).q gw522.k).nu fq527).q gw533.k).q gw539.k) clk_13 (by decide) (qm_4 (i := 159) rfl rfl) (Or.inl rfl) rfl rfl d_Cl_lists_231 (y := (wI w539 a124 3)) rfl (?_ : WD _ _ 234 _ _ _ _ _ _)
                obtain ⟨a541, e542, h⟩ := h
                rw [e542]
                obtain ⟨c543, s544, h545, h546, h⟩ := h
                obtain ⟨k547, h⟩ := h
                refine x_callV (ν := M_Sb_append_bf812) [vI (wI w539 a124 3)] ok_M_Sb_append_bf812 okv_M_Sb_append_bf812 k547 rfl rfl (qm_4 (i := 100) rfl rfl) np_M_Sb_append_bf812 rfl ⟨Nat.le_of_ble_eq_true rfl, Nat.le_of_ble_eq_true rfl⟩ (Nat.le_of_ble_eq_true rfl) rfl d_Cl_lists_234 h545 h546 (DP.k h (fun v549 w548 gw548 h => (?_ : WD _ _ 237 _ _ _ _ _ _)))
                obtain ⟨a550, e551, h⟩ := h
                rw [e551]
                obtain ⟨c552, s553, h554, h555, h⟩ := h
                obtain ⟨k556, h⟩ := h
                refine x_callV (ν := M_Sb_toString) [] ok_M_Sb_toString okv_M_Sb_toString k556 rfl rfl (qm_4 (i := 182) rfl rfl) np_M_Sb_toString rfl ⟨Nat.le_of_ble_eq_true rfl, Nat.le_of_ble_eq_true rfl⟩ (Nat.le_of_ble_eq_true rfl) rfl d_Cl_lists_237 h554 h555 (DP.k h (fun v558 w557 gw557 h => (?_ : WD _ _ 240 _ _ _ _ _ _)))
                obtain ⟨a559, e560, h⟩ := h
                rw [e560]
                obtain ⟨a561, e562, h⟩ := h
                rw [e562]
                obtain ⟨c563, s564, h565, h566, h⟩ := h
                obtain ⟨k567, h⟩ := h
                refine x_callV (ν := M_Sb_append_15ec4) [vA a561] ok_M_Sb_append_15ec4 okv_M_Sb_append_15ec4 k567 rfl rfl (qm_3 (i := 235) rfl rfl) np_M_Sb_append_15ec4 rfl ⟨Nat.le_of_ble_eq_true rfl, Nat.le_of_ble_eq_true rfl⟩ (Nat.le_of_ble_eq_true rfl) rfl d_Cl_lists_240 h565 h566 (DP.k h (fun v569 w568 gw568 h => (?_ : WD _ _ 243 _ _ _ _ _ _)))
                obtain ⟨a570, e571, h⟩ := h
                rw [e571]
                obtain ⟨c572, s573, h574, h575, h⟩ := h
                obtain ⟨k576, h⟩ := h
                refine x_callV (ν := M_Sb_toString) [] ok_M_Sb_toString okv_M_Sb_toString k576 rfl rfl (qm_4 (i := 182) rfl rfl) np_M_Sb_toString rfl ⟨Nat.le_of_ble_eq_true rfl, Nat.le_of_ble_eq_true rfl⟩ (Nat.le_of_ble_eq_true rfl) rfl d_Cl_lists_243 h574 h575 (DP.k h (fun v578 w577 gw577 h => (?_ : WD _ _ 246 _ _ _ _ _ _)))
                refine x_astoreP v578 (ls' := [(11, vP v578), (7, vL (x7 + v416)), (5, vI (x5 + 1)), (10, vA a124), (0, vR 0), (1, vA x1), (2, vA x2), (3, vA a8), (4, vI x4), (6, vI x6), (9, vI x9)]) d_Cl_lists_246 (by decide) rfl (?_ : WD _ _ 248 _ _ _ _ _ _)
                refine x_aload_n d_Cl_lists_248 rfl (?_ : WD _ _ 249 _ _ _ _ _ _)
                refine x_iload d_Cl_lists_249 rfl (?_ : WD _ _ 251 _ _ _ _ _ _)
                refine x_callC (ν := M_Cs_drawn) (k := 0) [vI x6] ok_M_Cs_drawn okv_M_Cs_drawn (by decide) rfl rfl rfl (qm_9 (i := 227) rfl rfl) np_M_Cs_drawn rfl ⟨Nat.le_of_ble_eq_true rfl, Nat.le_of_ble_eq_true rfl⟩ (Nat.le_of_ble_eq_true rfl) rfl d_Cl_lists_251 (CI.kd h (fun v579 σ580 h => (?_ : WD _ _ 254 _ _ _ _ _ _)))
                refine x_iload d_Cl_lists_254 rfl (?_ : WD _ _ 256 _ _ _ _ _ _)
                refine x_icmp_eq 261 d_Cl_lists_256 rfl ⟨fun c581 => (?_ : WD _ _ 261 _ _ _ _ _ _), fun c581 => (?_ : WD _ _ 259 _ _ _ _ _ _)⟩
                · replace h := h.1 c581
                  refine x_iconst d_Cl_lists_261 (by decide) (?_ : WD _ _ 262 _ _ _ _ _ _)
                  refine x_istore (ls' := [(12, vI 0), (11, vP v578), (7, vL (x7 + v416)), (5, vI (x5 + 1)), (10, vA a124), (0, vR 0), (1, vA x1), (2, vA x2), (3, vA a8), (4, vI x4), (6, vI x6), (9, vI x9)]) d_Cl_lists_262 (by decide) rfl (?_ : WD _ _ 264 _ _ _ _ _ _)
                  refine x_pick (ls' := [(0, vR 0), (1, vA x1), (2, vA x2), (3, vA a8), (4, vI x4), (5, vI (x5 + 1)), (6, vI x6), (7, vL (x7 + v416)), (9, vI x9), (11, vP v578), (12, vI 0)]) [5, 6, 7, 8, 9, 3, 10, 2, 11, 1, 0] rfl ?_
                  exact h
                · replace h := h.2 c581
                  refine x_iconst d_Cl_lists_259 (by decide) (?_ : WD _ _ 260 _ _ _ _ _ _)
                  exact x_zreturn rfl d_Cl_lists_260 (by decide) h
              · replace h := h.2 c524
                refine x_ldcwS (q := 280) (tx := "") d_Cl_lists_210 (by decide) (?_ : WD _ _ 213 _ _ _ _ _ _)
                refine x_goto 240 d_Cl_lists_213 rfl ?_
                obtain ⟨a582, e583, h⟩ := h
                rw [e583]
                obtain ⟨c584, s585, h586, h587, h⟩ := h
                obtain ⟨k588, h⟩ := h
                refine x_callV (ν := M_Sb_append_15ec4) [vA (xa G 280)] ok_M_Sb_append_15ec4 okv_M_Sb_append_15ec4 k588 rfl rfl (qm_3 (i := 235) rfl rfl) np_M_Sb_append_15ec4 rfl ⟨Nat.le_of_ble_eq_true rfl, Nat.le_of_ble_eq_true rfl⟩ (Nat.le_of_ble_eq_true rfl) rfl d_Cl_lists_240 h586 h587 (DP.k h (fun v590 w589 gw589 h => (?_ : WD _ _ 243 _ _ _ _ _ _)))
                obtain ⟨a591, e592, h⟩ := h
                rw [e592]
                obtain ⟨c593, s594, h595, h596, h⟩ := h
                obtain ⟨k597, h⟩ := h
                refine x_callV (ν := M_Sb_toString) [] ok_M_Sb_toString okv_M_Sb_toString k597 rfl rfl (qm_4 (i := 182) rfl rfl) np_M_Sb_toString rfl ⟨Nat.le_of_ble_eq_true rfl, Nat.le_of_ble_eq_true rfl⟩ (Nat.le_of_ble_eq_true rfl) rfl d_Cl_lists_243 h595 h596 (DP.k h (fun v599 w598 gw598 h => (?_ : WD _ _ 246 _ _ _ _ _ _)))
                refine x_astoreP v599 (ls' := [(11, vP v599), (7, vL (x7 + v416)), (5, vI (x5 + 1)), (10, vA a124), (0, vR 0), (1, vA x1), (2, vA x2), (3, vA a8), (4, vI x4), (6, vI x6), (9, vI x9)]) d_Cl_lists_246 (by decide) rfl (?_ : WD _ _ 248 _ _ _ _ _ _)
                refine x_aload_n d_Cl_lists_248 rfl (?_ : WD _ _ 249 _ _ _ _ _ _)
                refine x_iload d_Cl_lists_249 rfl (?_ : WD _ _ 251 _ _ _ _ _ _)
                refine x_callC (ν := M_Cs_drawn) (k := 0) [vI x6] ok_M_Cs_drawn okv_M_Cs_drawn (by decide) rfl rfl rfl (qm_9 (i := 227) rfl rfl) np_M_Cs_drawn rfl ⟨Nat.le_of_ble_eq_true rfl, Nat.le_of_ble_eq_true rfl⟩ (Nat.le_of_ble_eq_true rfl) rfl d_Cl_lists_251 (CI.kd h (fun v600 σ601 h => (?_ : WD _ _ 254 _ _ _ _ _ _)))
                refine x_iload d_Cl_lists_254 rfl (?_ : WD _ _ 256 _ _ _ _ _ _)
                refine x_icmp_eq 261 d_Cl_lists_256 rfl ⟨fun c602 => (?_ : WD _ _ 261 _ _ _ _ _ _), fun c602 => (?_ : WD _ _ 259 _ _ _ _ _ _)⟩
                · replace h := h.1 c602
                  refine x_iconst d_Cl_lists_261 (by decide) (?_ : WD _ _ 262 _ _ _ _ _ _)
                  refine x_istore (ls' := [(12, vI 0), (11, vP v599), (7, vL (x7 + v416)), (5, vI (x5 + 1)), (10, vA a124), (0, vR 0), (1, vA x1), (2, vA x2), (3, vA a8), (4, vI x4), (6, vI x6), (9, vI x9)]) d_Cl_lists_262 (by decide) rfl (?_ : WD _ _ 264 _ _ _ _ _ _)
                  refine x_pick (ls' := [(0, vR 0), (1, vA x1), (2, vA x2), (3, vA a8), (4, vI x4), (5, vI (x5 + 1)), (6, vI x6), (7, vL (x7 + v416)), (9, vI x9), (11, vP v599), (12, vI 0)]) [5, 6, 7, 8, 9, 3, 10, 2, 11, 1, 0] rfl ?_
                  exact h
                · replace h := h.2 c602
                  refine x_iconst d_Cl_lists_259 (by decide) (?_ : WD _ _ 260 _ _ _ _ _ _)
                  exact x_zreturn rfl d_Cl_lists_260 (by decide) h
            · replace h := h.2 c472
              refine x_ldcwS (q := 276) (tx := "!") d_Cl_lists_168 (by decide) (?_ : WD _ _ 171 _ _ _ _ _ _)
              refine x_goto 199 d_Cl_lists_171 rfl ?_
              obtain ⟨a603, e604, h⟩ := h
              rw [e604]
              obtain ⟨c605, s606, h607, h608, h⟩ := h
              obtain ⟨k609, h⟩ := h
              refine x_callV (ν := M_Sb_append_15ec4) [vA (xa G 276)] ok_M_Sb_append_15ec4 okv_M_Sb_append_15ec4 k609 rfl rfl (qm_3 (i := 235) rfl rfl) np_M_Sb_append_15ec4 rfl ⟨Nat.le_of_ble_eq_true rfl, Nat.le_of_ble_eq_true rfl⟩ (Nat.le_of_ble_eq_true rfl) rfl d_Cl_lists_199 h607 h608 (DP.k h (fun v611 w610 gw610 h => (?_ : WD _ _ 202 _ _ _ _ _ _)))
              refine x_aloadP (some a124) d_Cl_lists_202 rfl (?_ : WD _ _ 204 _ _ _ _ _ _)
              refine x_getI (ref := "CoinSamplerLaw$Item") (j := 3) 3 (((((((((((k126.q gw127.k).q gw415.k).nu fq420).q gw426.k).q gw432.k).q gw441.k).q gw450.k).q gw459.k).q gw468.k).q gw470.k).q gw610.k) clk_13 (by decide) (qm_4 (i := 159) rfl rfl) (Or.inl rfl) rfl rfl d_Cl_lists_204 (y := (wI w610 a124 3)) rfl (?_ : WD _ _ 207 _ _ _ _ _ _)
              refine x_if_ge 216 d_Cl_lists_207 rfl ⟨fun c612 => (?_ : WD _ _ 216 _ _ _ _ _ _), fun c612 => (?_ : WD _ _ 210 _ _ _ _ _ _)⟩
              · replace h := h.1 c612
                obtain ⟨h613, h⟩ := h
                obtain ⟨h614, h⟩ := h
                refine x_new d_Cl_lists_216 clk_17 tyJ4_ok (qm_3 (i := 188) rfl rfl) (qm_3 (i := 189) rfl rfl) (qm_1 (i := 19) rfl rfl) hfd_17 h613 h614 (fun q615 fq615 => (?_ : WD _ _ 219 _ _ _ _ _ _))
                replace h := h q615 fq615
                have k616 : Ow (uN w610 q615 (kO 17)) q615 (kO 17) := Ow.nw
                refine x_dup d_Cl_lists_219 rfl (?_ : WD _ _ 220 _ _ _ _ _ _)
                obtain ⟨c617, s618, h619, h620, h⟩ := h
                refine x_callI (ν := M_Sb_init) [] ok_M_Sb_init oki_M_Sb_init rfl rfl (qm_3 (i := 190) rfl rfl) np_M_Sb_init rfl ⟨Nat.le_of_ble_eq_true rfl, Nat.le_of_ble_eq_true rfl⟩ (Nat.le_of_ble_eq_true rfl) rfl d_Cl_lists_220 h619 h620 (DV.k h (fun w621 gw621 h => (?_ : WD _ _ 223 _ _ _ _ _ _)))
                refine x_ldcwS (q := 282) (tx := " =") d_Cl_lists_223 (by decide) (?_ : WD _ _ 226 _ _ _ _ _ _)
                obtain ⟨c623, s624, h625, h626, h⟩ := h
                refine x_callV (ν := M_Sb_append_15ec4) [vA (xa G 282)] ok_M_Sb_append_15ec4 okv_M_Sb_append_15ec4 (k616.q gw621.k).is rfl rfl (qm_3 (i := 235) rfl rfl) np_M_Sb_append_15ec4 rfl ⟨Nat.le_of_ble_eq_true rfl, Nat.le_of_ble_eq_true rfl⟩ (Nat.le_of_ble_eq_true rfl) rfl d_Cl_lists_226 h625 h626 (DP.k h (fun v628 w627 gw627 h => (?_ : WD _ _ 229 _ _ _ _ _ _)))
                refine x_aloadP (some a124) d_Cl_lists_229 rfl (?_ : WD _ _ 231 _ _ _ _ _ _)
                refine x_getI (ref := "CoinSamplerLaw$Item") (j := 3) 3 ((((((((((((((k126.q gw127.k).q gw415.k).nu fq420).q gw426.k).q gw432.k).q gw441.k).q gw450.k).q gw459.k).q gw468.k).q gw470.k).q gw610.k).nu fq615).q gw621.k).q gw627.k) clk_13 (by decide) (qm_4 (i := 159) rfl rfl) (Or.inl rfl) rfl rfl d_Cl_lists_231 (y := (wI w627 a124 3)) rfl (?_ : WD _ _ 234 _ _ _ _ _ _)
                obtain ⟨a629, e630, h⟩ := h
                rw [e630]
                obtain ⟨c631, s632, h633, h634, h⟩ := h
                obtain ⟨k635, h⟩ := h
                refine x_callV (ν := M_Sb_append_bf812) [vI (wI w627 a124 3)] ok_M_Sb_append_bf812 okv_M_Sb_append_bf812 k635 rfl rfl (qm_4 (i := 100) rfl rfl) np_M_Sb_append_bf812 rfl ⟨Nat.le_of_ble_eq_true rfl, Nat.le_of_ble_eq_true rfl⟩ (Nat.le_of_ble_eq_true rfl) rfl d_Cl_lists_234 h633 h634 (DP.k h (fun v637 w636 gw636 h => (?_ : WD _ _ 237 _ _ _ _ _ _)))
                obtain ⟨a638, e639, h⟩ := h
                rw [e639]
                obtain ⟨c640, s641, h642, h643, h⟩ := h
                obtain ⟨k644, h⟩ := h
                refine x_callV (ν := M_Sb_toString) [] ok_M_Sb_toString okv_M_Sb_toString k644 rfl rfl (qm_4 (i := 182) rfl rfl) np_M_Sb_toString rfl ⟨Nat.le_of_ble_eq_true rfl, Nat.le_of_ble_eq_true rfl⟩ (Nat.le_of_ble_eq_true rfl) rfl d_Cl_lists_237 h642 h643 (DP.k h (fun v646 w645 gw645 h => (?_ : WD _ _ 240 _ _ _ _ _ _)))
                obtain ⟨a647, e648, h⟩ := h
                rw [e648]
                obtain ⟨a649, e650, h⟩ := h
                rw [e650]
                obtain ⟨c651, s652, h653, h654, h⟩ := h
                obtain ⟨k655, h⟩ := h
                refine x_callV (ν := M_Sb_append_15ec4) [vA a649] ok_M_Sb_append_15ec4 okv_M_Sb_append_15ec4 k655 rfl rfl (qm_3 (i := 235) rfl rfl) np_M_Sb_append_15ec4 rfl ⟨Nat.le_of_ble_eq_true rfl, Nat.le_of_ble_eq_true rfl⟩ (Nat.le_of_ble_eq_true rfl) rfl d_Cl_lists_240 h653 h654 (DP.k h (fun v657 w656 gw656 h => (?_ : WD _ _ 243 _ _ _ _ _ _)))
                obtain ⟨a658, e659, h⟩ := h
                rw [e659]
                obtain ⟨c660, s661, h662, h663, h⟩ := h
                obtain ⟨k664, h⟩ := h
                refine x_callV (ν := M_Sb_toString) [] ok_M_Sb_toString okv_M_Sb_toString k664 rfl rfl (qm_4 (i := 182) rfl rfl) np_M_Sb_toString rfl ⟨Nat.le_of_ble_eq_true rfl, Nat.le_of_ble_eq_true rfl⟩ (Nat.le_of_ble_eq_true rfl) rfl d_Cl_lists_243 h662 h663 (DP.k h (fun v666 w665 gw665 h => (?_ : WD _ _ 246 _ _ _ _ _ _)))
                refine x_astoreP v666 (ls' := [(11, vP v666), (7, vL (x7 + v416)), (5, vI (x5 + 1)), (10, vA a124), (0, vR 0), (1, vA x1), (2, vA x2), (3, vA a8), (4, vI x4), (6, vI x6), (9, vI x9)]) d_Cl_lists_246 (by decide) rfl (?_ : WD _ _ 248 _ _ _ _ _ _)
                refine x_aload_n d_Cl_lists_248 rfl (?_ : WD _ _ 249 _ _ _ _ _ _)
                refine x_iload d_Cl_lists_249 rfl (?_ : WD _ _ 251 _ _ _ _ _ _)
                refine x_callC (ν := M_Cs_drawn) (k := 0) [vI x6] ok_M_Cs_drawn okv_M_Cs_drawn (by decide) rfl rfl rfl (qm_9 (i := 227) rfl rfl) np_M_Cs_drawn rfl ⟨Nat.le_of_ble_eq_true rfl, Nat.le_of_ble_eq_true rfl⟩ (Nat.le_of_ble_eq_true rfl) rfl d_Cl_lists_251 (CI.kd h (fun v667 σ668 h => (?_ : WD _ _ 254 _ _ _ _ _ _)))
                refine x_iload d_Cl_lists_254 rfl (?_ : WD _ _ 256 _ _ _ _ _ _)
                refine x_icmp_eq 261 d_Cl_lists_256 rfl ⟨fun c669 => (?_ : WD _ _ 261 _ _ _ _ _ _), fun c669 => (?_ : WD _ _ 259 _ _ _ _ _ _)⟩
                · replace h := h.1 c669
                  refine x_iconst d_Cl_lists_261 (by decide) (?_ : WD _ _ 262 _ _ _ _ _ _)
                  refine x_istore (ls' := [(12, vI 0), (11, vP v666), (7, vL (x7 + v416)), (5, vI (x5 + 1)), (10, vA a124), (0, vR 0), (1, vA x1), (2, vA x2), (3, vA a8), (4, vI x4), (6, vI x6), (9, vI x9)]) d_Cl_lists_262 (by decide) rfl (?_ : WD _ _ 264 _ _ _ _ _ _)
                  refine x_pick (ls' := [(0, vR 0), (1, vA x1), (2, vA x2), (3, vA a8), (4, vI x4), (5, vI (x5 + 1)), (6, vI x6), (7, vL (x7 + v416)), (9, vI x9), (11, vP v666), (12, vI 0)]) [5, 6, 7, 8, 9, 3, 10, 2, 11, 1, 0] rfl ?_
                  exact h
                · replace h := h.2 c669
                  refine x_iconst d_Cl_lists_259 (by decide) (?_ : WD _ _ 260 _ _ _ _ _ _)
                  exact x_zreturn rfl d_Cl_lists_260 (by decide) h
              · replace h := h.2 c612
                refine x_ldcwS (q := 280) (tx := "") d_Cl_lists_210 (by decide) (?_ : WD _ _ 213 _ _ _ _ _ _)
                refine x_goto 240 d_Cl_lists_213 rfl ?_
                obtain ⟨a670, e671, h⟩ := h
                rw [e671]
                obtain ⟨c672, s673, h674, h675, h⟩ := h
                obtain ⟨k676, h⟩ := h
                refine x_callV (ν := M_Sb_append_15ec4) [vA (xa G 280)] ok_M_Sb_append_15ec4 okv_M_Sb_append_15ec4 k676 rfl rfl (qm_3 (i := 235) rfl rfl) np_M_Sb_append_15ec4 rfl ⟨Nat.le_of_ble_eq_true rfl, Nat.le_of_ble_eq_true rfl⟩ (Nat.le_of_ble_eq_true rfl) rfl d_Cl_lists_240 h674 h675 (DP.k h (fun v678 w677 gw677 h => (?_ : WD _ _ 243 _ _ _ _ _ _)))
                obtain ⟨a679, e680, h⟩ := h
                rw [e680]
                obtain ⟨c681, s682, h683, h684, h⟩ := h
                obtain ⟨k685, h⟩ := h
                refine x_callV (ν := M_Sb_toString) [] ok_M_Sb_toString okv_M_Sb_toString k685 rfl rfl (qm_4 (i := 182) rfl rfl) np_M_Sb_toString rfl ⟨Nat.le_of_ble_eq_true rfl, Nat.le_of_ble_eq_true rfl⟩ (Nat.le_of_ble_eq_true rfl) rfl d_Cl_lists_243 h683 h684 (DP.k h (fun v687 w686 gw686 h => (?_ : WD _ _ 246 _ _ _ _ _ _)))
                refine x_astoreP v687 (ls' := [(11, vP v687), (7, vL (x7 + v416)), (5, vI (x5 + 1)), (10, vA a124), (0, vR 0), (1, vA x1), (2, vA x2), (3, vA a8), (4, vI x4), (6, vI x6), (9, vI x9)]) d_Cl_lists_246 (by decide) rfl (?_ : WD _ _ 248 _ _ _ _ _ _)
                refine x_aload_n d_Cl_lists_248 rfl (?_ : WD _ _ 249 _ _ _ _ _ _)
                refine x_iload d_Cl_lists_249 rfl (?_ : WD _ _ 251 _ _ _ _ _ _)
                refine x_callC (ν := M_Cs_drawn) (k := 0) [vI x6] ok_M_Cs_drawn okv_M_Cs_drawn (by decide) rfl rfl rfl (qm_9 (i := 227) rfl rfl) np_M_Cs_drawn rfl ⟨Nat.le_of_ble_eq_true rfl, Nat.le_of_ble_eq_true rfl⟩ (Nat.le_of_ble_eq_true rfl) rfl d_Cl_lists_251 (CI.kd h (fun v688 σ689 h => (?_ : WD _ _ 254 _ _ _ _ _ _)))
                refine x_iload d_Cl_lists_254 rfl (?_ : WD _ _ 256 _ _ _ _ _ _)
                refine x_icmp_eq 261 d_Cl_lists_256 rfl ⟨fun c690 => (?_ : WD _ _ 261 _ _ _ _ _ _), fun c690 => (?_ : WD _ _ 259 _ _ _ _ _ _)⟩
                · replace h := h.1 c690
                  refine x_iconst d_Cl_lists_261 (by decide) (?_ : WD _ _ 262 _ _ _ _ _ _)
                  refine x_istore (ls' := [(12, vI 0), (11, vP v687), (7, vL (x7 + v416)), (5, vI (x5 + 1)), (10, vA a124), (0, vR 0), (1, vA x1), (2, vA x2), (3, vA a8), (4, vI x4), (6, vI x6), (9, vI x9)]) d_Cl_lists_262 (by decide) rfl (?_ : WD _ _ 264 _ _ _ _ _ _)
                  refine x_pick (ls' := [(0, vR 0), (1, vA x1), (2, vA x2), (3, vA a8), (4, vI x4), (5, vI (x5 + 1)), (6, vI x6), (7, vL (x7 + v416)), (9, vI x9), (11, vP v687), (12, vI 0)]) [5, 6, 7, 8, 9, 3, 10, 2, 11, 1, 0] rfl ?_
                  exact h
                · replace h := h.2 c690
                  refine x_iconst d_Cl_lists_259 (by decide) (?_ : WD _ _ 260 _ _ _ _ _ _)
                  exact x_zreturn rfl d_Cl_lists_260 (by decide) h
          · replace h := h.2 c414
            refine x_iconst d_Cl_lists_94 (by decide) (?_ : WD _ _ 95 _ _ _ _ _ _)
            exact x_zreturn rfl d_Cl_lists_95 (by decide) h
    · replace h := h.2 c129
      refine x_aload_n d_Cl_lists_51 rfl (?_ : WD _ _ 52 _ _ _ _ _ _)
      refine x_iload d_Cl_lists_52 rfl (?_ : WD _ _ 54 _ _ _ _ _ _)
      obtain ⟨h691, h⟩ := h
      refine x_iinc (ls' := [(4, vI (x4 + 1)), (10, vA a124), (0, vR 0), (1, vA x1), (2, vA x2), (3, vA a8), (5, vI x5), (6, vI x6), (7, vL x7), (9, vI x9)]) d_Cl_lists_54 rfl h691 (by decide) rfl (?_ : WD _ _ 57 _ _ _ _ _ _)
      refine x_callC (ν := M_Cs_certain) (k := 0) [vI x4] ok_M_Cs_certain okv_M_Cs_certain (by decide) rfl rfl rfl (qm_9 (i := 199) rfl rfl) np_M_Cs_certain rfl ⟨Nat.le_of_ble_eq_true rfl, Nat.le_of_ble_eq_true rfl⟩ (Nat.le_of_ble_eq_true rfl) rfl d_Cl_lists_57 (CI.kd h (fun v692 σ693 h => (?_ : WD _ _ 60 _ _ _ _ _ _)))
      refine x_iload d_Cl_lists_60 rfl (?_ : WD _ _ 62 _ _ _ _ _ _)
      refine x_icmp_ne 94 d_Cl_lists_62 rfl ⟨fun c694 => (?_ : WD _ _ 94 _ _ _ _ _ _), fun c694 => (?_ : WD _ _ 65 _ _ _ _ _ _)⟩
      · replace h := h.1 c694
        refine x_iconst d_Cl_lists_94 (by decide) (?_ : WD _ _ 95 _ _ _ _ _ _)
        exact x_zreturn rfl d_Cl_lists_95 (by decide) h
      · replace h := h.2 c694
        refine x_aload_nP (some a8) d_Cl_lists_65 rfl (?_ : WD _ _ 66 _ _ _ _ _ _)
        refine x_iload d_Cl_lists_66 rfl (?_ : WD _ _ 68 _ _ _ _ _ _)
        obtain ⟨h695, h⟩ := h
        obtain ⟨h696, h⟩ := h
        refine x_zald ((k11.q gw122.k).q gw127.k) d_Cl_lists_68 h695 h696 (y := (wI w127 a8 x9)) rfl (?_ : WD _ _ 69 _ _ _ _ _ _)
        refine x_if_eq 96 d_Cl_lists_69 rfl ⟨fun c697 => (?_ : WD _ _ 96 _ _ _ _ _ _), fun c697 => (?_ : WD _ _ 72 _ _ _ _ _ _)⟩
        · replace h := h.1 c697
          refine x_aload_nP (some a8) d_Cl_lists_96 rfl (?_ : WD _ _ 97 _ _ _ _ _ _)
          refine x_iload d_Cl_lists_97 rfl (?_ : WD _ _ 99 _ _ _ _ _ _)
          refine x_zald ((k11.q gw122.k).q gw127.k) d_Cl_lists_99 h695 h696 (y := (wI w127 a8 x9)) rfl (?_ : WD _ _ 100 _ _ _ _ _ _)
          refine x_if_ne 106 d_Cl_lists_100 rfl ⟨fun hc => absurd c697 hc, fun hc => (?_ : WD _ _ 103 _ _ _ _ _ _)⟩
          refine x_goto 317 d_Cl_lists_103 rfl ?_
          obtain ⟨h698, h⟩ := h
          refine x_iinc (ls' := [(9, vI (x9 + 1)), (4, vI (x4 + 1)), (10, vA a124), (0, vR 0), (1, vA x1), (2, vA x2), (3, vA a8), (5, vI x5), (6, vI x6), (7, vL x7)]) d_Cl_lists_317 rfl h698 (by decide) rfl (?_ : WD _ _ 320 _ _ _ _ _ _)
          refine x_goto 21 d_Cl_lists_320 rfl ?_
          refine x_pick (ls' := [(0, vR 0), (1, vA x1), (2, vA x2), (3, vP (some a8)), (4, vI (x4 + 1)), (5, vI x5), (6, vI x6), (7, vL x7), (9, vI (x9 + 1))]) [3, 4, 5, 6, 1, 7, 8, 9, 0] rfl ?_
          exact h
        · replace h := h.2 c697
          refine x_aloadP (some a124) d_Cl_lists_72 rfl (?_ : WD _ _ 74 _ _ _ _ _ _)
          refine x_getI (ref := "CoinSamplerLaw$Item") (j := 3) 3 (k126.q gw127.k) clk_13 (by decide) (qm_4 (i := 159) rfl rfl) (Or.inl rfl) rfl rfl d_Cl_lists_74 (y := (wI w127 a124 3)) rfl (?_ : WD _ _ 77 _ _ _ _ _ _)
          refine x_if_ge 96 d_Cl_lists_77 rfl ⟨fun c699 => (?_ : WD _ _ 96 _ _ _ _ _ _), fun c699 => (?_ : WD _ _ 80 _ _ _ _ _ _)⟩
          · replace h := h.1 c699
            refine x_aload_nP (some a8) d_Cl_lists_96 rfl (?_ : WD _ _ 97 _ _ _ _ _ _)
            refine x_iload d_Cl_lists_97 rfl (?_ : WD _ _ 99 _ _ _ _ _ _)
            refine x_zald ((k11.q gw122.k).q gw127.k) d_Cl_lists_99 h695 h696 (y := (wI w127 a8 x9)) rfl (?_ : WD _ _ 100 _ _ _ _ _ _)
            refine x_if_ne 106 d_Cl_lists_100 rfl ⟨fun hc => (?_ : WD _ _ 106 _ _ _ _ _ _), fun hc => absurd hc c697⟩
            refine x_lload d_Cl_lists_106 rfl (?_ : WD _ _ 108 _ _ _ _ _ _)
            refine x_aloadP (some a124) d_Cl_lists_108 rfl (?_ : WD _ _ 110 _ _ _ _ _ _)
            refine x_callV (ν := M_It_coins) [] ok_M_It_coins okv_M_It_coins (k126.q gw127.k) rfl rfl (qm_6 (i := 199) rfl rfl) np_M_It_coins rfl ⟨Nat.le_of_ble_eq_true rfl, Nat.le_of_ble_eq_true rfl⟩ (Nat.le_of_ble_eq_true rfl) rfl d_Cl_lists_110 (Nat.zero_le _) (Nat.zero_le _) (DI.k h (fun v701 w700 gw700 h => (?_ : WD _ _ 113 _ _ _ _ _ _)))
            refine x_i2l d_Cl_lists_113 (?_ : WD _ _ 114 _ _ _ _ _ _)
            obtain ⟨h702, h⟩ := h
            refine x_ladd d_Cl_lists_114 h702 (?_ : WD _ _ 115 _ _ _ _ _ _)
            refine x_lstore (ls' := [(7, vL (x7 + v701)), (4, vI (x4 + 1)), (10, vA a124), (0, vR 0), (1, vA x1), (2, vA x2), (3, vA a8), (5, vI x5), (6, vI x6), (9, vI x9)]) d_Cl_lists_115 (by decide) rfl (?_ : WD _ _ 117 _ _ _ _ _ _)
            obtain ⟨h703, h⟩ := h
            obtain ⟨h704, h⟩ := h
            refine x_new d_Cl_lists_117 clk_17 tyJ4_ok (qm_3 (i := 188) rfl rfl) (qm_3 (i := 189) rfl rfl) (qm_1 (i := 19) rfl rfl) hfd_17 h703 h704 (fun q705 fq705 => (?_ : WD _ _ 120 _ _ _ _ _ _))
            replace h := h q705 fq705
            have k706 : Ow (uN w700 q705 (kO 17)) q705 (kO 17) := Ow.nw
            refine x_dup d_Cl_lists_120 rfl (?_ : WD _ _ 121 _ _ _ _ _ _)
            obtain ⟨c707, s708, h709, h710, h⟩ := h
            refine x_callI (ν := M_Sb_init) [] ok_M_Sb_init oki_M_Sb_init rfl rfl (qm_3 (i := 190) rfl rfl) np_M_Sb_init rfl ⟨Nat.le_of_ble_eq_true rfl, Nat.le_of_ble_eq_true rfl⟩ (Nat.le_of_ble_eq_true rfl) rfl d_Cl_lists_121 h709 h710 (DV.k h (fun w711 gw711 h => (?_ : WD _ _ 124 _ _ _ _ _ _)))
            refine x_aloadP (some a124) d_Cl_lists_124 rfl (?_ : WD _ _ 126 _ _ _ _ _ _)
            refine x_getI (ref := "CoinSamplerLaw$Item") (j := 0) 0 ((((k126.q gw127.k).q gw700.k).nu fq705).q gw711.k) clk_13 (by decide) (qm_4 (i := 151) rfl rfl) (Or.inl rfl) rfl rfl d_Cl_lists_126 (y := (wI w711 a124 0)) rfl (?_ : WD _ _ 129 _ _ _ _ _ _)
            obtain ⟨c713, s714, h715, h716, h⟩ := h
            refine x_callV (ν := M_Sb_append_bf812) [vI (wI w711 a124 0)] ok_M_Sb_append_bf812 okv_M_Sb_append_bf812 (k706.q gw711.k).is rfl rfl (qm_4 (i := 100) rfl rfl) np_M_Sb_append_bf812 rfl ⟨Nat.le_of_ble_eq_true rfl, Nat.le_of_ble_eq_true rfl⟩ (Nat.le_of_ble_eq_true rfl) rfl d_Cl_lists_129 h715 h716 (DP.k h (fun v718 w717 gw717 h => (?_ : WD _ _ 132 _ _ _ _ _ _)))
            refine x_ldcwS (q := 274) (tx := "/") d_Cl_lists_132 (by decide) (?_ : WD _ _ 135 _ _ _ _ _ _)
            obtain ⟨a719, e720, h⟩ := h
            rw [e720]
            obtain ⟨c721, s722, h723, h724, h⟩ := h
            obtain ⟨k725, h⟩ := h
            refine x_callV (ν := M_Sb_append_15ec4) [vA (xa G 274)] ok_M_Sb_append_15ec4 okv_M_Sb_append_15ec4 k725 rfl rfl (qm_3 (i := 235) rfl rfl) np_M_Sb_append_15ec4 rfl ⟨Nat.le_of_ble_eq_true rfl, Nat.le_of_ble_eq_true rfl⟩ (Nat.le_of_ble_eq_true rfl) rfl d_Cl_lists_135 h723 h724 (DP.k h (fun v727 w726 gw726 h => (?_ : WD _ _ 138 _ _ _ _ _ _)))
            refine x_aloadP (some a124) d_Cl_lists_138 rfl (?_ : WD _ _ 140 _ _ _ _ _ _)
            refine x_getI (ref := "CoinSamplerLaw$Item") (j := 1) 1 ((((((k126.q gw127.k).q gw700.k).nu fq705).q gw711.k).q gw717.k).q gw726.k) clk_13 (by decide) (qm_4 (i := 153) rfl rfl) (Or.inl rfl) rfl rfl d_Cl_lists_140 (y := (wI w726 a124 1)) rfl (?_ : WD _ _ 143 _ _ _ _ _ _)
            obtain ⟨a728, e729, h⟩ := h
            rw [e729]
            obtain ⟨c730, s731, h732, h733, h⟩ := h
            obtain ⟨k734, h⟩ := h
            refine x_callV (ν := M_Sb_append_bf812) [vI (wI w726 a124 1)] ok_M_Sb_append_bf812 okv_M_Sb_append_bf812 k734 rfl rfl (qm_4 (i := 100) rfl rfl) np_M_Sb_append_bf812 rfl ⟨Nat.le_of_ble_eq_true rfl, Nat.le_of_ble_eq_true rfl⟩ (Nat.le_of_ble_eq_true rfl) rfl d_Cl_lists_143 h732 h733 (DP.k h (fun v736 w735 gw735 h => (?_ : WD _ _ 146 _ _ _ _ _ _)))
            refine x_ldcS (q := 268) (tx := " ") d_Cl_lists_146 (by decide) (?_ : WD _ _ 148 _ _ _ _ _ _)
            obtain ⟨a737, e738, h⟩ := h
            rw [e738]
            obtain ⟨c739, s740, h741, h742, h⟩ := h
            obtain ⟨k743, h⟩ := h
            refine x_callV (ν := M_Sb_append_15ec4) [vA (xa G 268)] ok_M_Sb_append_15ec4 okv_M_Sb_append_15ec4 k743 rfl rfl (qm_3 (i := 235) rfl rfl) np_M_Sb_append_15ec4 rfl ⟨Nat.le_of_ble_eq_true rfl, Nat.le_of_ble_eq_true rfl⟩ (Nat.le_of_ble_eq_true rfl) rfl d_Cl_lists_148 h741 h742 (DP.k h (fun v745 w744 gw744 h => (?_ : WD _ _ 151 _ _ _ _ _ _)))
            refine x_aloadP (some a124) d_Cl_lists_151 rfl (?_ : WD _ _ 153 _ _ _ _ _ _)
            refine x_getI (ref := "CoinSamplerLaw$Item") (j := 2) 2 ((((((((k126.q gw127.k).q gw700.k).nu fq705).q gw711.k).q gw717.k).q gw726.k).q gw735.k).q gw744.k) clk_13 (by decide) (qm_4 (i := 157) rfl rfl) (Or.inl rfl) rfl rfl d_Cl_lists_153 (y := (wI w744 a124 2)) rfl (?_ : WD _ _ 156 _ _ _ _ _ _)
            obtain ⟨a746, e747, h⟩ := h
            rw [e747]
            obtain ⟨c748, s749, h750, h751, h⟩ := h
            obtain ⟨k752, h⟩ := h
            refine x_callV (ν := M_Sb_append_bf812) [vI (wI w744 a124 2)] ok_M_Sb_append_bf812 okv_M_Sb_append_bf812 k752 rfl rfl (qm_4 (i := 100) rfl rfl) np_M_Sb_append_bf812 rfl ⟨Nat.le_of_ble_eq_true rfl, Nat.le_of_ble_eq_true rfl⟩ (Nat.le_of_ble_eq_true rfl) rfl d_Cl_lists_156 h750 h751 (DP.k h (fun v754 w753 gw753 h => (?_ : WD _ _ 159 _ _ _ _ _ _)))
            refine x_aload_nP (some x1) d_Cl_lists_159 rfl (?_ : WD _ _ 160 _ _ _ _ _ _)
            refine x_aloadP (some a124) d_Cl_lists_160 rfl (?_ : WD _ _ 162 _ _ _ _ _ _)
            refine x_callV (ν := M_Bo_certain) [vA a124] ok_M_Bo_certain okv_M_Bo_certain ((((((((((k118.q gw122.k).q gw127.k).q gw700.k).nu fq705).q gw711.k).q gw717.k).q gw726.k).q gw735.k).q gw744.k).q gw753.k) rfl rfl (qm_5 (i := 185) rfl rfl) np_M_Bo_certain rfl ⟨Nat.le_of_ble_eq_true rfl, Nat.le_of_ble_eq_true rfl⟩ (Nat.le_of_ble_eq_true rfl) rfl d_Cl_lists_162 (Nat.zero_le _) (Nat.zero_le _) (DI.k h (fun v756 w755 gw755 h => (?_ : WD _ _ 165 _ _ _ _ _ _)))
            refine x_if_eq 174 d_Cl_lists_165 rfl ⟨fun c757 => (?_ : WD _ _ 174 _ _ _ _ _ _), fun c757 => (?_ : WD _ _ 168 _ _ _ _ _ _)⟩
            · replace h := h.1 c757
              obtain ⟨h758, h⟩ := h
              obtain ⟨h759, h⟩ := h
              refine x_new d_Cl_lists_174 clk_17 tyJ4_ok (qm_3 (i := 188) rfl rfl) (qm_3 (i := 189) rfl rfl) (qm_1 (i := 19) rfl rfl) hfd_17 h758 h759 (fun q760 fq760 => (?_ : WD _ _ 177 _ _ _ _ _ _))
              replace h := h q760 fq760
              have k761 : Ow (uN w755 q760 (kO 17)) q760 (kO 17) := Ow.nw
              refine x_dup d_Cl_lists_177 rfl (?_ : WD _ _ 178 _ _ _ _ _ _)
              obtain ⟨c762, s763, h764, h765, h⟩ := h
              refine x_callI (ν := M_Sb_init) [] ok_M_Sb_init oki_M_Sb_init rfl rfl (qm_3 (i := 190) rfl rfl) np_M_Sb_init rfl ⟨Nat.le_of_ble_eq_true rfl, Nat.le_of_ble_eq_true rfl⟩ (Nat.le_of_ble_eq_true rfl) rfl d_Cl_lists_178 h764 h765 (DV.k h (fun w766 gw766 h => (?_ : WD _ _ 181 _ _ _ _ _ _)))
              refine x_ldcwS (q := 278) (tx := "x") d_Cl_lists_181 (by decide) (?_ : WD _ _ 184 _ _ _ _ _ _)
              obtain ⟨c768, s769, h770, h771, h⟩ := h
              refine x_callV (ν := M_Sb_append_15ec4) [vA (xa G 278)] ok_M_Sb_append_15ec4 okv_M_Sb_append_15ec4 (k761.q gw766.k).is rfl rfl (qm_3 (i := 235) rfl rfl) np_M_Sb_append_15ec4 rfl ⟨Nat.le_of_ble_eq_true rfl, Nat.le_of_ble_eq_true rfl⟩ (Nat.le_of_ble_eq_true rfl) rfl d_Cl_lists_184 h770 h771 (DP.k h (fun v773 w772 gw772 h => (?_ : WD _ _ 187 _ _ _ _ _ _)))
              refine x_aload_nP (some x2) d_Cl_lists_187 rfl (?_ : WD _ _ 188 _ _ _ _ _ _)
              refine x_iload d_Cl_lists_188 rfl (?_ : WD _ _ 190 _ _ _ _ _ _)
              obtain ⟨c774, s775, h776, h777, h⟩ := h
              refine x_callS (ν := M_Cl_oftenOf) [vA x2, vI x9] ok_M_Cl_oftenOf oks_M_Cl_oftenOf (qm_6 (i := 200) rfl rfl) np_M_Cl_oftenOf rfl ⟨Nat.le_of_ble_eq_true rfl, Nat.le_of_ble_eq_true rfl⟩ (Nat.le_of_ble_eq_true rfl) rfl d_Cl_lists_190 h776 h777 (DI.k h (fun v779 w778 gw778 h => (?_ : WD _ _ 193 _ _ _ _ _ _)))
              obtain ⟨a780, e781, h⟩ := h
              rw [e781]
              obtain ⟨c782, s783, h784, h785, h⟩ := h
              obtain ⟨k786, h⟩ := h
              refine x_callV (ν := M_Sb_append_bf812) [vI v779] ok_M_Sb_append_bf812 okv_M_Sb_append_bf812 k786 rfl rfl (qm_4 (i := 100) rfl rfl) np_M_Sb_append_bf812 rfl ⟨Nat.le_of_ble_eq_true rfl, Nat.le_of_ble_eq_true rfl⟩ (Nat.le_of_ble_eq_true rfl) rfl d_Cl_lists_193 h784 h785 (DP.k h (fun v788 w787 gw787 h => (?_ : WD _ _ 196 _ _ _ _ _ _)))
              obtain ⟨a789, e790, h⟩ := h
              rw [e790]
              obtain ⟨c791, s792, h793, h794, h⟩ := h
              obtain ⟨k795, h⟩ := h
              refine x_callV (ν := M_Sb_toString) [] ok_M_Sb_toString okv_M_Sb_toString k795 rfl rfl (qm_4 (i := 182) rfl rfl) np_M_Sb_toString rfl ⟨Nat.le_of_ble_eq_true rfl, Nat.le_of_ble_eq_true rfl⟩ (Nat.le_of_ble_eq_true rfl) rfl d_Cl_lists_196 h793 h794 (DP.k h (fun v797 w796 gw796 h => (?_ : WD _ _ 199 _ _ _ _ _ _)))
              obtain ⟨a798, e799, h⟩ := h
              rw [e799]
              obtain ⟨a800, e801, h⟩ := h
              rw [e801]
              obtain ⟨c802, s803, h804, h805, h⟩ := h
              obtain ⟨k806, h⟩ := h
              refine x_callV (ν := M_Sb_append_15ec4) [vA a800] ok_M_Sb_append_15ec4 okv_M_Sb_append_15ec4 k806 rfl rfl (qm_3 (i := 235) rfl rfl) np_M_Sb_append_15ec4 rfl ⟨Nat.le_of_ble_eq_true rfl, Nat.le_of_ble_eq_true rfl⟩ (Nat.le_of_ble_eq_true rfl) rfl d_Cl_lists_199 h804 h805 (DP.k h (fun v808 w807 gw807 h => (?_ : WD _ _ 202 _ _ _ _ _ _)))
              refine x_aloadP (some a124) d_Cl_lists_202 rfl (?_ : WD _ _ 204 _ _ _ _ _ _)
              refine x_getI (ref := "CoinSamplerLaw$Item") (j := 3) 3 (((((((((((((((((k126.q gw127.k).q gw700.k).nu fq705).q gw711.k).q gw717.k).q gw726.k).q gw735.k).q gw744.k).q gw753.k).q gw755.k).nu fq760).q gw766.k).q gw772.k).q gw778.k).q gw787.k).q gw796.k).q gw807.k) clk_13 (by decide) (qm_4 (i := 159) rfl rfl) (Or.inl rfl) rfl rfl d_Cl_lists_204 (y := (wI w807 a124 3)) rfl (?_ : WD _ _ 207 _ _ _ _ _ _)
              refine x_if_ge 216 d_Cl_lists_207 rfl ⟨fun c809 => (?_ : WD _ _ 216 _ _ _ _ _ _), fun c809 => (?_ : WD _ _ 210 _ _ _ _ _ _)⟩
              · replace h := h.1 c809
                obtain ⟨h810, h⟩ := h
                obtain ⟨h811, h⟩ := h
                refine x_new d_Cl_lists_216 clk_17 tyJ4_ok (qm_3 (i := 188) rfl rfl) (qm_3 (i := 189) rfl rfl) (qm_1 (i := 19) rfl rfl) hfd_17 h810 h811 (fun q812 fq812 => (?_ : WD _ _ 219 _ _ _ _ _ _))
                replace h := h q812 fq812
                have k813 : Ow (uN w807 q812 (kO 17)) q812 (kO 17) := Ow.nw
                refine x_dup d_Cl_lists_219 rfl (?_ : WD _ _ 220 _ _ _ _ _ _)
                obtain ⟨c814, s815, h816, h817, h⟩ := h
                refine x_callI (ν := M_Sb_init) [] ok_M_Sb_init oki_M_Sb_init rfl rfl (qm_3 (i := 190) rfl rfl) np_M_Sb_init rfl ⟨Nat.le_of_ble_eq_true rfl, Nat.le_of_ble_eq_true rfl⟩ (Nat.le_of_ble_eq_true rfl) rfl d_Cl_lists_220 h816 h817 (DV.k h (fun w818 gw818 h => (?_ : WD _ _ 223 _ _ _ _ _ _)))
                refine x_ldcwS (q := 282) (tx := " =") d_Cl_lists_223 (by decide) (?_ : WD _ _ 226 _ _ _ _ _ _)
                obtain ⟨c820, s821, h822, h823, h⟩ := h
                refine x_callV (ν := M_Sb_append_15ec4) [vA (xa G 282)] ok_M_Sb_append_15ec4 okv_M_Sb_append_15ec4 (k813.q gw818.k).is rfl rfl (qm_3 (i := 235) rfl rfl) np_M_Sb_append_15ec4 rfl ⟨Nat.le_of_ble_eq_true rfl, Nat.le_of_ble_eq_true rfl⟩ (Nat.le_of_ble_eq_true rfl) rfl d_Cl_lists_226 h822 h823 (DP.k h (fun v825 w824 gw824 h => (?_ : WD _ _ 229 _ _ _ _ _ _)))
                refine x_aloadP (some a124) d_Cl_lists_229 rfl (?_ : WD _ _ 231 _ _ _ _ _ _)
                refine x_getI (ref := "CoinSamplerLaw$Item") (j := 3) 3 ((((((((((((((((((((k126.q gw127.k).q gw700.k).nu fq705).q gw711.k).q gw717.k).q gw726.k).q gw735.k).q gw744.k).q gw753.k).q gw755.k).nu fq760).q gw766.k).q gw772.k).q gw778.k).q gw787.k).q gw796.k).q gw807.k).nu fq812).q gw818.k).q gw824.k) clk_13 (by decide) (qm_4 (i := 159) rfl rfl) (Or.inl rfl) rfl rfl d_Cl_lists_231 (y := (wI w824 a124 3)) rfl (?_ : WD _ _ 234 _ _ _ _ _ _)
                obtain ⟨a826, e827, h⟩ := h
                rw [e827]
                obtain ⟨c828, s829, h830, h831, h⟩ := h
                obtain ⟨k832, h⟩ := h
                refine x_callV (ν := M_Sb_append_bf812) [vI (wI w824 a124 3)] ok_M_Sb_append_bf812 okv_M_Sb_append_bf812 k832 rfl rfl (qm_4 (i := 100) rfl rfl) np_M_Sb_append_bf812 rfl ⟨Nat.le_of_ble_eq_true rfl, Nat.le_of_ble_eq_true rfl⟩ (Nat.le_of_ble_eq_true rfl) rfl d_Cl_lists_234 h830 h831 (DP.k h (fun v834 w833 gw833 h => (?_ : WD _ _ 237 _ _ _ _ _ _)))
                obtain ⟨a835, e836, h⟩ := h
                rw [e836]
                obtain ⟨c837, s838, h839, h840, h⟩ := h
                obtain ⟨k841, h⟩ := h
                refine x_callV (ν := M_Sb_toString) [] ok_M_Sb_toString okv_M_Sb_toString k841 rfl rfl (qm_4 (i := 182) rfl rfl) np_M_Sb_toString rfl ⟨Nat.le_of_ble_eq_true rfl, Nat.le_of_ble_eq_true rfl⟩ (Nat.le_of_ble_eq_true rfl) rfl d_Cl_lists_237 h839 h840 (DP.k h (fun v843 w842 gw842 h => (?_ : WD _ _ 240 _ _ _ _ _ _)))
                obtain ⟨a844, e845, h⟩ := h
                rw [e845]
                obtain ⟨a846, e847, h⟩ := h
                rw [e847]
                obtain ⟨c848, s849, h850, h851, h⟩ := h
                obtain ⟨k852, h⟩ := h
                refine x_callV (ν := M_Sb_append_15ec4) [vA a846] ok_M_Sb_append_15ec4 okv_M_Sb_append_15ec4 k852 rfl rfl (qm_3 (i := 235) rfl rfl) np_M_Sb_append_15ec4 rfl ⟨Nat.le_of_ble_eq_true rfl, Nat.le_of_ble_eq_true rfl⟩ (Nat.le_of_ble_eq_true rfl) rfl d_Cl_lists_240 h850 h851 (DP.k h (fun v854 w853 gw853 h => (?_ : WD _ _ 243 _ _ _ _ _ _)))
                obtain ⟨a855, e856, h⟩ := h
                rw [e856]
                obtain ⟨c857, s858, h859, h860, h⟩ := h
                obtain ⟨k861, h⟩ := h
                refine x_callV (ν := M_Sb_toString) [] ok_M_Sb_toString okv_M_Sb_toString k861 rfl rfl (qm_4 (i := 182) rfl rfl) np_M_Sb_toString rfl ⟨Nat.le_of_ble_eq_true rfl, Nat.le_of_ble_eq_true rfl⟩ (Nat.le_of_ble_eq_true rfl) rfl d_Cl_lists_243 h859 h860 (DP.k h (fun v863 w862 gw862 h => (?_ : WD _ _ 246 _ _ _ _ _ _)))
                refine x_astoreP v863 (ls' := [(11, vP v863), (7, vL (x7 + v701)), (4, vI (x4 + 1)), (10, vA a124), (0, vR 0), (1, vA x1), (2, vA x2), (3, vA a8), (5, vI x5), (6, vI x6), (9, vI x9)]) d_Cl_lists_246 (by decide) rfl (?_ : WD _ _ 248 _ _ _ _ _ _)
                refine x_aload_n d_Cl_lists_248 rfl (?_ : WD _ _ 249 _ _ _ _ _ _)
                refine x_iload d_Cl_lists_249 rfl (?_ : WD _ _ 251 _ _ _ _ _ _)
                refine x_callC (ν := M_Cs_drawn) (k := 0) [vI x6] ok_M_Cs_drawn okv_M_Cs_drawn (by decide) rfl rfl rfl (qm_9 (i := 227) rfl rfl) np_M_Cs_drawn rfl ⟨Nat.le_of_ble_eq_true rfl, Nat.le_of_ble_eq_true rfl⟩ (Nat.le_of_ble_eq_true rfl) rfl d_Cl_lists_251 (CI.kd h (fun v864 σ865 h => (?_ : WD _ _ 254 _ _ _ _ _ _)))
                refine x_iload d_Cl_lists_254 rfl (?_ : WD _ _ 256 _ _ _ _ _ _)
                refine x_icmp_eq 261 d_Cl_lists_256 rfl ⟨fun c866 => (?_ : WD _ _ 261 _ _ _ _ _ _), fun c866 => (?_ : WD _ _ 259 _ _ _ _ _ _)⟩
                · replace h := h.1 c866
                  refine x_iconst d_Cl_lists_261 (by decide) (?_ : WD _ _ 262 _ _ _ _ _ _)
                  refine x_istore (ls' := [(12, vI 0), (11, vP v863), (7, vL (x7 + v701)), (4, vI (x4 + 1)), (10, vA a124), (0, vR 0), (1, vA x1), (2, vA x2), (3, vA a8), (5, vI x5), (6, vI x6), (9, vI x9)]) d_Cl_lists_262 (by decide) rfl (?_ : WD _ _ 264 _ _ _ _ _ _)
                  refine x_pick (ls' := [(0, vR 0), (1, vA x1), (2, vA x2), (3, vA a8), (4, vI (x4 + 1)), (5, vI x5), (6, vI x6), (7, vL (x7 + v701)), (9, vI x9), (11, vP v863), (12, vI 0)]) [5, 6, 7, 8, 3, 9, 10, 2, 11, 1, 0] rfl ?_
                  exact h
                · replace h := h.2 c866
                  refine x_iconst d_Cl_lists_259 (by decide) (?_ : WD _ _ 260 _ _ _ _ _ _)
                  exact x_zreturn rfl d_Cl_lists_260 (by decide) h
              · replace h := h.2 c809
                refine x_ldcwS (q := 280) (tx := "") d_Cl_lists_210 (by decide) (?_ : WD _ _ 213 _ _ _ _ _ _)
                refine x_goto 240 d_Cl_lists_213 rfl ?_
                obtain ⟨a867, e868, h⟩ := h
                rw [e868]
                obtain ⟨c869, s870, h871, h872, h⟩ := h
                obtain ⟨k873, h⟩ := h
                refine x_callV (ν := M_Sb_append_15ec4) [vA (xa G 280)] ok_M_Sb_append_15ec4 okv_M_Sb_append_15ec4 k873 rfl rfl (qm_3 (i := 235) rfl rfl) np_M_Sb_append_15ec4 rfl ⟨Nat.le_of_ble_eq_true rfl, Nat.le_of_ble_eq_true rfl⟩ (Nat.le_of_ble_eq_true rfl) rfl d_Cl_lists_240 h871 h872 (DP.k h (fun v875 w874 gw874 h => (?_ : WD _ _ 243 _ _ _ _ _ _)))
                obtain ⟨a876, e877, h⟩ := h
                rw [e877]
                obtain ⟨c878, s879, h880, h881, h⟩ := h
                obtain ⟨k882, h⟩ := h
                refine x_callV (ν := M_Sb_toString) [] ok_M_Sb_toString okv_M_Sb_toString k882 rfl rfl (qm_4 (i := 182) rfl rfl) np_M_Sb_toString rfl ⟨Nat.le_of_ble_eq_true rfl, Nat.le_of_ble_eq_true rfl⟩ (Nat.le_of_ble_eq_true rfl) rfl d_Cl_lists_243 h880 h881 (DP.k h (fun v884 w883 gw883 h => (?_ : WD _ _ 246 _ _ _ _ _ _)))
                refine x_astoreP v884 (ls' := [(11, vP v884), (7, vL (x7 + v701)), (4, vI (x4 + 1)), (10, vA a124), (0, vR 0), (1, vA x1), (2, vA x2), (3, vA a8), (5, vI x5), (6, vI x6), (9, vI x9)]) d_Cl_lists_246 (by decide) rfl (?_ : WD _ _ 248 _ _ _ _ _ _)
                refine x_aload_n d_Cl_lists_248 rfl (?_ : WD _ _ 249 _ _ _ _ _ _)
                refine x_iload d_Cl_lists_249 rfl (?_ : WD _ _ 251 _ _ _ _ _ _)
                refine x_callC (ν := M_Cs_drawn) (k := 0) [vI x6] ok_M_Cs_drawn okv_M_Cs_drawn (by decide) rfl rfl rfl (qm_9 (i := 227) rfl rfl) np_M_Cs_drawn rfl ⟨Nat.le_of_ble_eq_true rfl, Nat.le_of_ble_eq_true rfl⟩ (Nat.le_of_ble_eq_true rfl) rfl d_Cl_lists_251 (CI.kd h (fun v885 σ886 h => (?_ : WD _ _ 254 _ _ _ _ _ _)))
                refine x_iload d_Cl_lists_254 rfl (?_ : WD _ _ 256 _ _ _ _ _ _)
                refine x_icmp_eq 261 d_Cl_lists_256 rfl ⟨fun c887 => (?_ : WD _ _ 261 _ _ _ _ _ _), fun c887 => (?_ : WD _ _ 259 _ _ _ _ _ _)⟩
                · replace h := h.1 c887
                  refine x_iconst d_Cl_lists_261 (by decide) (?_ : WD _ _ 262 _ _ _ _ _ _)
                  refine x_istore (ls' := [(12, vI 0), (11, vP v884), (7, vL (x7 + v701)), (4, vI (x4 + 1)), (10, vA a124), (0, vR 0), (1, vA x1), (2, vA x2), (3, vA a8), (5, vI x5), (6, vI x6), (9, vI x9)]) d_Cl_lists_262 (by decide) rfl (?_ : WD _ _ 264 _ _ _ _ _ _)
                  refine x_pick (ls' := [(0, vR 0), (1, vA x1), (2, vA x2), (3, vA a8), (4, vI (x4 + 1)), (5, vI x5), (6, vI x6), (7, vL (x7 + v701)), (9, vI x9), (11, vP v884), (12, vI 0)]) [5, 6, 7, 8, 3, 9, 10, 2, 11, 1, 0] rfl ?_
                  exact h
                · replace h := h.2 c887
                  refine x_iconst d_Cl_lists_259 (by decide) (?_ : WD _ _ 260 _ _ _ _ _ _)
                  exact x_zreturn rfl d_Cl_lists_260 (by decide) h
            · replace h := h.2 c757
              refine x_ldcwS (q := 276) (tx := "!") d_Cl_lists_168 (by decide) (?_ : WD _ _ 171 _ _ _ _ _ _)
              refine x_goto 199 d_Cl_lists_171 rfl ?_
              obtain ⟨a888, e889, h⟩ := h
              rw [e889]
              obtain ⟨c890, s891, h892, h893, h⟩ := h
              obtain ⟨k894, h⟩ := h
              refine x_callV (ν := M_Sb_append_15ec4) [vA (xa G 276)] ok_M_Sb_append_15ec4 okv_M_Sb_append_15ec4 k894 rfl rfl (qm_3 (i := 235) rfl rfl) np_M_Sb_append_15ec4 rfl ⟨Nat.le_of_ble_eq_true rfl, Nat.le_of_ble_eq_true rfl⟩ (Nat.le_of_ble_eq_true rfl) rfl d_Cl_lists_199 h892 h893 (DP.k h (fun v896 w895 gw895 h => (?_ : WD _ _ 202 _ _ _ _ _ _)))
              refine x_aloadP (some a124) d_Cl_lists_202 rfl (?_ : WD _ _ 204 _ _ _ _ _ _)
              refine x_getI (ref := "CoinSamplerLaw$Item") (j := 3) 3 (((((((((((k126.q gw127.k).q gw700.k).nu fq705).q gw711.k).q gw717.k).q gw726.k).q gw735.k).q gw744.k).q gw753.k).q gw755.k).q gw895.k) clk_13 (by decide) (qm_4 (i := 159) rfl rfl) (Or.inl rfl) rfl rfl d_Cl_lists_204 (y := (wI w895 a124 3)) rfl (?_ : WD _ _ 207 _ _ _ _ _ _)
              refine x_if_ge 216 d_Cl_lists_207 rfl ⟨fun c897 => (?_ : WD _ _ 216 _ _ _ _ _ _), fun c897 => (?_ : WD _ _ 210 _ _ _ _ _ _)⟩
              · replace h := h.1 c897
                obtain ⟨h898, h⟩ := h
                obtain ⟨h899, h⟩ := h
                refine x_new d_Cl_lists_216 clk_17 tyJ4_ok (qm_3 (i := 188) rfl rfl) (qm_3 (i := 189) rfl rfl) (qm_1 (i := 19) rfl rfl) hfd_17 h898 h899 (fun q900 fq900 => (?_ : WD _ _ 219 _ _ _ _ _ _))
                replace h := h q900 fq900
                have k901 : Ow (uN w895 q900 (kO 17)) q900 (kO 17) := Ow.nw
                refine x_dup d_Cl_lists_219 rfl (?_ : WD _ _ 220 _ _ _ _ _ _)
                obtain ⟨c902, s903, h904, h905, h⟩ := h
                refine x_callI (ν := M_Sb_init) [] ok_M_Sb_init oki_M_Sb_init rfl rfl (qm_3 (i := 190) rfl rfl) np_M_Sb_init rfl ⟨Nat.le_of_ble_eq_true rfl, Nat.le_of_ble_eq_true rfl⟩ (Nat.le_of_ble_eq_true rfl) rfl d_Cl_lists_220 h904 h905 (DV.k h (fun w906 gw906 h => (?_ : WD _ _ 223 _ _ _ _ _ _)))
                refine x_ldcwS (q := 282) (tx := " =") d_Cl_lists_223 (by decide) (?_ : WD _ _ 226 _ _ _ _ _ _)
                obtain ⟨c908, s909, h910, h911, h⟩ := h
                refine x_callV (ν := M_Sb_append_15ec4) [vA (xa G 282)] ok_M_Sb_append_15ec4 okv_M_Sb_append_15ec4 (k901.q gw906.k).is rfl rfl (qm_3 (i := 235) rfl rfl) np_M_Sb_append_15ec4 rfl ⟨Nat.le_of_ble_eq_true rfl, Nat.le_of_ble_eq_true rfl⟩ (Nat.le_of_ble_eq_true rfl) rfl d_Cl_lists_226 h910 h911 (DP.k h (fun v913 w912 gw912 h => (?_ : WD _ _ 229 _ _ _ _ _ _)))
                refine x_aloadP (some a124) d_Cl_lists_229 rfl (?_ : WD _ _ 231 _ _ _ _ _ _)
                refine x_getI (ref := "CoinSamplerLaw$Item") (j := 3) 3 ((((((((((((((k126.q gw127.k).q gw700.k).nu fq705).q gw711.k).q gw717.k).q gw726.k).q gw735.k).q gw744.k).q gw753.k).q gw755.k).q gw895.k).nu fq900).q gw906.k).q gw912.k) clk_13 (by decide) (qm_4 (i := 159) rfl rfl) (Or.inl rfl) rfl rfl d_Cl_lists_231 (y := (wI w912 a124 3)) rfl (?_ : WD _ _ 234 _ _ _ _ _ _)
                obtain ⟨a914, e915, h⟩ := h
                rw [e915]
                obtain ⟨c916, s917, h918, h919, h⟩ := h
                obtain ⟨k920, h⟩ := h
                refine x_callV (ν := M_Sb_append_bf812) [vI (wI w912 a124 3)] ok_M_Sb_append_bf812 okv_M_Sb_append_bf812 k920 rfl rfl (qm_4 (i := 100) rfl rfl) np_M_Sb_append_bf812 rfl ⟨Nat.le_of_ble_eq_true rfl, Nat.le_of_ble_eq_true rfl⟩ (Nat.le_of_ble_eq_true rfl) rfl d_Cl_lists_234 h918 h919 (DP.k h (fun v922 w921 gw921 h => (?_ : WD _ _ 237 _ _ _ _ _ _)))
                obtain ⟨a923, e924, h⟩ := h
                rw [e924]
                obtain ⟨c925, s926, h927, h928, h⟩ := h
                obtain ⟨k929, h⟩ := h
                refine x_callV (ν := M_Sb_toString) [] ok_M_Sb_toString okv_M_Sb_toString k929 rfl rfl (qm_4 (i := 182) rfl rfl) np_M_Sb_toString rfl ⟨Nat.le_of_ble_eq_true rfl, Nat.le_of_ble_eq_true rfl⟩ (Nat.le_of_ble_eq_true rfl) rfl d_Cl_lists_237 h927 h928 (DP.k h (fun v931 w930 gw930 h => (?_ : WD _ _ 240 _ _ _ _ _ _)))
                obtain ⟨a932, e933, h⟩ := h
                rw [e933]
                obtain ⟨a934, e935, h⟩ := h
                rw [e935]
                obtain ⟨c936, s937, h938, h939, h⟩ := h
                obtain ⟨k940, h⟩ := h
                refine x_callV (ν := M_Sb_append_15ec4) [vA a934] ok_M_Sb_append_15ec4 okv_M_Sb_append_15ec4 k940 rfl rfl (qm_3 (i := 235) rfl rfl) np_M_Sb_append_15ec4 rfl ⟨Nat.le_of_ble_eq_true rfl, Nat.le_of_ble_eq_true rfl⟩ (Nat.le_of_ble_eq_true rfl) rfl d_Cl_lists_240 h938 h939 (DP.k h (fun v942 w941 gw941 h => (?_ : WD _ _ 243 _ _ _ _ _ _)))
                obtain ⟨a943, e944, h⟩ := h
                rw [e944]
                obtain ⟨c945, s946, h947, h948, h⟩ := h
                obtain ⟨k949, h⟩ := h
                refine x_callV (ν := M_Sb_toString) [] ok_M_Sb_toString okv_M_Sb_toString k949 rfl rfl (qm_4 (i := 182) rfl rfl) np_M_Sb_toString rfl ⟨Nat.le_of_ble_eq_true rfl, Nat.le_of_ble_eq_true rfl⟩ (Nat.le_of_ble_eq_true rfl) rfl d_Cl_lists_243 h947 h948 (DP.k h (fun v951 w950 gw950 h => (?_ : WD _ _ 246 _ _ _ _ _ _)))
                refine x_astoreP v951 (ls' := [(11, vP v951), (7, vL (x7 + v701)), (4, vI (x4 + 1)), (10, vA a124), (0, vR 0), (1, vA x1), (2, vA x2), (3, vA a8), (5, vI x5), (6, vI x6), (9, vI x9)]) d_Cl_lists_246 (by decide) rfl (?_ : WD _ _ 248 _ _ _ _ _ _)
                refine x_aload_n d_Cl_lists_248 rfl (?_ : WD _ _ 249 _ _ _ _ _ _)
                refine x_iload d_Cl_lists_249 rfl (?_ : WD _ _ 251 _ _ _ _ _ _)
                refine x_callC (ν := M_Cs_drawn) (k := 0) [vI x6] ok_M_Cs_drawn okv_M_Cs_drawn (by decide) rfl rfl rfl (qm_9 (i := 227) rfl rfl) np_M_Cs_drawn rfl ⟨Nat.le_of_ble_eq_true rfl, Nat.le_of_ble_eq_true rfl⟩ (Nat.le_of_ble_eq_true rfl) rfl d_Cl_lists_251 (CI.kd h (fun v952 σ953 h => (?_ : WD _ _ 254 _ _ _ _ _ _)))
                refine x_iload d_Cl_lists_254 rfl (?_ : WD _ _ 256 _ _ _ _ _ _)
                refine x_icmp_eq 261 d_Cl_lists_256 rfl ⟨fun c954 => (?_ : WD _ _ 261 _ _ _ _ _ _), fun c954 => (?_ : WD _ _ 259 _ _ _ _ _ _)⟩
                · replace h := h.1 c954
                  refine x_iconst d_Cl_lists_261 (by decide) (?_ : WD _ _ 262 _ _ _ _ _ _)
                  refine x_istore (ls' := [(12, vI 0), (11, vP v951), (7, vL (x7 + v701)), (4, vI (x4 + 1)), (10, vA a124), (0, vR 0), (1, vA x1), (2, vA x2), (3, vA a8), (5, vI x5), (6, vI x6), (9, vI x9)]) d_Cl_lists_262 (by decide) rfl (?_ : WD _ _ 264 _ _ _ _ _ _)
                  refine x_pick (ls' := [(0, vR 0), (1, vA x1), (2, vA x2), (3, vA a8), (4, vI (x4 + 1)), (5, vI x5), (6, vI x6), (7, vL (x7 + v701)), (9, vI x9), (11, vP v951), (12, vI 0)]) [5, 6, 7, 8, 3, 9, 10, 2, 11, 1, 0] rfl ?_
                  exact h
                · replace h := h.2 c954
                  refine x_iconst d_Cl_lists_259 (by decide) (?_ : WD _ _ 260 _ _ _ _ _ _)
                  exact x_zreturn rfl d_Cl_lists_260 (by decide) h
              · replace h := h.2 c897
                refine x_ldcwS (q := 280) (tx := "") d_Cl_lists_210 (by decide) (?_ : WD _ _ 213 _ _ _ _ _ _)
                refine x_goto 240 d_Cl_lists_213 rfl ?_
                obtain ⟨a955, e956, h⟩ := h
                rw [e956]
                obtain ⟨c957, s958, h959, h960, h⟩ := h
                obtain ⟨k961, h⟩ := h
                refine x_callV (ν := M_Sb_append_15ec4) [vA (xa G 280)] ok_M_Sb_append_15ec4 okv_M_Sb_append_15ec4 k961 rfl rfl (qm_3 (i := 235) rfl rfl) np_M_Sb_append_15ec4 rfl ⟨Nat.le_of_ble_eq_true rfl, Nat.le_of_ble_eq_true rfl⟩ (Nat.le_of_ble_eq_true rfl) rfl d_Cl_lists_240 h959 h960 (DP.k h (fun v963 w962 gw962 h => (?_ : WD _ _ 243 _ _ _ _ _ _)))
                obtain ⟨a964, e965, h⟩ := h
                rw [e965]
                obtain ⟨c966, s967, h968, h969, h⟩ := h
                obtain ⟨k970, h⟩ := h
                refine x_callV (ν := M_Sb_toString) [] ok_M_Sb_toString okv_M_Sb_toString k970 rfl rfl (qm_4 (i := 182) rfl rfl) np_M_Sb_toString rfl ⟨Nat.le_of_ble_eq_true rfl, Nat.le_of_ble_eq_true rfl⟩ (Nat.le_of_ble_eq_true rfl) rfl d_Cl_lists_243 h968 h969 (DP.k h (fun v972 w971 gw971 h => (?_ : WD _ _ 246 _ _ _ _ _ _)))
                refine x_astoreP v972 (ls' := [(11, vP v972), (7, vL (x7 + v701)), (4, vI (x4 + 1)), (10, vA a124), (0, vR 0), (1, vA x1), (2, vA x2), (3, vA a8), (5, vI x5), (6, vI x6), (9, vI x9)]) d_Cl_lists_246 (by decide) rfl (?_ : WD _ _ 248 _ _ _ _ _ _)
                refine x_aload_n d_Cl_lists_248 rfl (?_ : WD _ _ 249 _ _ _ _ _ _)
                refine x_iload d_Cl_lists_249 rfl (?_ : WD _ _ 251 _ _ _ _ _ _)
                refine x_callC (ν := M_Cs_drawn) (k := 0) [vI x6] ok_M_Cs_drawn okv_M_Cs_drawn (by decide) rfl rfl rfl (qm_9 (i := 227) rfl rfl) np_M_Cs_drawn rfl ⟨Nat.le_of_ble_eq_true rfl, Nat.le_of_ble_eq_true rfl⟩ (Nat.le_of_ble_eq_true rfl) rfl d_Cl_lists_251 (CI.kd h (fun v973 σ974 h => (?_ : WD _ _ 254 _ _ _ _ _ _)))
                refine x_iload d_Cl_lists_254 rfl (?_ : WD _ _ 256 _ _ _ _ _ _)
                refine x_icmp_eq 261 d_Cl_lists_256 rfl ⟨fun c975 => (?_ : WD _ _ 261 _ _ _ _ _ _), fun c975 => (?_ : WD _ _ 259 _ _ _ _ _ _)⟩
                · replace h := h.1 c975
                  refine x_iconst d_Cl_lists_261 (by decide) (?_ : WD _ _ 262 _ _ _ _ _ _)
                  refine x_istore (ls' := [(12, vI 0), (11, vP v972), (7, vL (x7 + v701)), (4, vI (x4 + 1)), (10, vA a124), (0, vR 0), (1, vA x1), (2, vA x2), (3, vA a8), (5, vI x5), (6, vI x6), (9, vI x9)]) d_Cl_lists_262 (by decide) rfl (?_ : WD _ _ 264 _ _ _ _ _ _)
                  refine x_pick (ls' := [(0, vR 0), (1, vA x1), (2, vA x2), (3, vA a8), (4, vI (x4 + 1)), (5, vI x5), (6, vI x6), (7, vL (x7 + v701)), (9, vI x9), (11, vP v972), (12, vI 0)]) [5, 6, 7, 8, 3, 9, 10, 2, 11, 1, 0] rfl ?_
                  exact h
                · replace h := h.2 c975
                  refine x_iconst d_Cl_lists_259 (by decide) (?_ : WD _ _ 260 _ _ _ _ _ _)
                  exact x_zreturn rfl d_Cl_lists_260 (by decide) h
          · replace h := h.2 c699
            refine x_aload_n d_Cl_lists_80 rfl (?_ : WD _ _ 81 _ _ _ _ _ _)
            refine x_iload d_Cl_lists_81 rfl (?_ : WD _ _ 83 _ _ _ _ _ _)
            obtain ⟨h976, h⟩ := h
            refine x_iinc (ls' := [(5, vI (x5 + 1)), (4, vI (x4 + 1)), (10, vA a124), (0, vR 0), (1, vA x1), (2, vA x2), (3, vA a8), (6, vI x6), (7, vL x7), (9, vI x9)]) d_Cl_lists_83 rfl h976 (by decide) rfl (?_ : WD _ _ 86 _ _ _ _ _ _)
            refine x_callC (ν := M_Cs_lacking) (k := 0) [vI x5] ok_M_Cs_lacking okv_M_Cs_lacking (by decide) rfl rfl rfl (qm_9 (i := 218) rfl rfl) np_M_Cs_lacking rfl ⟨Nat.le_of_ble_eq_true rfl, Nat.le_of_ble_eq_true rfl⟩ (Nat.le_of_ble_eq_true rfl) rfl d_Cl_lists_86 (CI.kd h (fun v977 σ978 h => (?_ : WD _ _ 89 _ _ _ _ _ _)))
            refine x_iload d_Cl_lists_89 rfl (?_ : WD _ _ 91 _ _ _ _ _ _)
            refine x_icmp_eq 96 d_Cl_lists_91 rfl ⟨fun c979 => (?_ : WD _ _ 96 _ _ _ _ _ _), fun c979 => (?_ : WD _ _ 94 _ _ _ _ _ _)⟩
            · replace h := h.1 c979
              refine x_aload_nP (some a8) d_Cl_lists_96 rfl (?_ : WD _ _ 97 _ _ _ _ _ _)
              refine x_iload d_Cl_lists_97 rfl (?_ : WD _ _ 99 _ _ _ _ _ _)
              refine x_zald ((k11.q gw122.k).q gw127.k) d_Cl_lists_99 h695 h696 (y := (wI w127 a8 x9)) rfl (?_ : WD _ _ 100 _ _ _ _ _ _)
              refine x_if_ne 106 d_Cl_lists_100 rfl ⟨fun hc => (?_ : WD _ _ 106 _ _ _ _ _ _), fun hc => absurd hc c697⟩
              refine x_lload d_Cl_lists_106 rfl (?_ : WD _ _ 108 _ _ _ _ _ _)
              refine x_aloadP (some a124) d_Cl_lists_108 rfl (?_ : WD _ _ 110 _ _ _ _ _ _)
              refine x_callV (ν := M_It_coins) [] ok_M_It_coins okv_M_It_coins (k126.q gw127.k) rfl rfl (qm_6 (i := 199) rfl rfl) np_M_It_coins rfl ⟨Nat.le_of_ble_eq_true rfl, Nat.le_of_ble_eq_true rfl⟩ (Nat.le_of_ble_eq_true rfl) rfl d_Cl_lists_110 (Nat.zero_le _) (Nat.zero_le _) (DI.k h (fun v981 w980 gw980 h => (?_ : WD _ _ 113 _ _ _ _ _ _)))
              refine x_i2l d_Cl_lists_113 (?_ : WD _ _ 114 _ _ _ _ _ _)
              obtain ⟨h982, h⟩ := h
              refine x_ladd d_Cl_lists_114 h982 (?_ : WD _ _ 115 _ _ _ _ _ _)
              refine x_lstore (ls' := [(7, vL (x7 + v981)), (5, vI (x5 + 1)), (4, vI (x4 + 1)), (10, vA a124), (0, vR 0), (1, vA x1), (2, vA x2), (3, vA a8), (6, vI x6), (9, vI x9)]) d_Cl_lists_115 (by decide) rfl (?_ : WD _ _ 117 _ _ _ _ _ _)
              obtain ⟨h983, h⟩ := h
              obtain ⟨h984, h⟩ := h
              refine x_new d_Cl_lists_117 clk_17 tyJ4_ok (qm_3 (i := 188) rfl rfl) (qm_3 (i := 189) rfl rfl) (qm_1 (i := 19) rfl rfl) hfd_17 h983 h984 (fun q985 fq985 => (?_ : WD _ _ 120 _ _ _ _ _ _))
              replace h := h q985 fq985
              have k986 : Ow (uN w980 q985 (kO 17)) q985 (kO 17) := Ow.nw
              refine x_dup d_Cl_lists_120 rfl (?_ : WD _ _ 121 _ _ _ _ _ _)
              obtain ⟨c987, s988, h989, h990, h⟩ := h
              refine x_callI (ν := M_Sb_init) [] ok_M_Sb_init oki_M_Sb_init rfl rfl (qm_3 (i := 190) rfl rfl) np_M_Sb_init rfl ⟨Nat.le_of_ble_eq_true rfl, Nat.le_of_ble_eq_true rfl⟩ (Nat.le_of_ble_eq_true rfl) rfl d_Cl_lists_121 h989 h990 (DV.k h (fun w991 gw991 h => (?_ : WD _ _ 124 _ _ _ _ _ _)))
              refine x_aloadP (some a124) d_Cl_lists_124 rfl (?_ : WD _ _ 126 _ _ _ _ _ _)
              refine x_getI (ref := "CoinSamplerLaw$Item") (j := 0) 0 ((((k126.q gw127.k).q gw980.k).nu fq985).q gw991.k) clk_13 (by decide) (qm_4 (i := 151) rfl rfl) (Or.inl rfl) rfl rfl d_Cl_lists_126 (y := (wI w991 a124 0)) rfl (?_ : WD _ _ 129 _ _ _ _ _ _)
              obtain ⟨c993, s994, h995, h996, h⟩ := h
              refine x_callV (ν := M_Sb_append_bf812) [vI (wI w991 a124 0)] ok_M_Sb_append_bf812 okv_M_Sb_append_bf812 (k986.q gw991.k).is rfl rfl (qm_4 (i := 100) rfl rfl) np_M_Sb_append_bf812 rfl ⟨Nat.le_of_ble_eq_true rfl, Nat.le_of_ble_eq_true rfl⟩ (Nat.le_of_ble_eq_true rfl) rfl d_Cl_lists_129 h995 h996 (DP.k h (fun v998 w997 gw997 h => (?_ : WD _ _ 132 _ _ _ _ _ _)))
              refine x_ldcwS (q := 274) (tx := "/") d_Cl_lists_132 (by decide) (?_ : WD _ _ 135 _ _ _ _ _ _)
              obtain ⟨a999, e1000, h⟩ := h
              rw [e1000]
              obtain ⟨c1001, s1002, h1003, h1004, h⟩ := h
              obtain ⟨k1005, h⟩ := h
              refine x_callV (ν := M_Sb_append_15ec4) [vA (xa G 274)] ok_M_Sb_append_15ec4 okv_M_Sb_append_15ec4 k1005 rfl rfl (qm_3 (i := 235) rfl rfl) np_M_Sb_append_15ec4 rfl ⟨Nat.le_of_ble_eq_true rfl, Nat.le_of_ble_eq_true rfl⟩ (Nat.le_of_ble_eq_true rfl) rfl d_Cl_lists_135 h1003 h1004 (DP.k h (fun v1007 w1006 gw1006 h => (?_ : WD _ _ 138 _ _ _ _ _ _)))
              refine x_aloadP (some a124) d_Cl_lists_138 rfl (?_ : WD _ _ 140 _ _ _ _ _ _)
              refine x_getI (ref := "CoinSamplerLaw$Item") (j := 1) 1 ((((((k126.q gw127.k).q gw980.k).nu fq985).q gw991.k).q gw997.k).q gw1006.k) clk_13 (by decide) (qm_4 (i := 153) rfl rfl) (Or.inl rfl) rfl rfl d_Cl_lists_140 (y := (wI w1006 a124 1)) rfl (?_ : WD _ _ 143 _ _ _ _ _ _)
              obtain ⟨a1008, e1009, h⟩ := h
              rw [e1009]
              obtain ⟨c1010, s1011, h1012, h1013, h⟩ := h
              obtain ⟨k1014, h⟩ := h
              refine x_callV (ν := M_Sb_append_bf812) [vI (wI w1006 a124 1)] ok_M_Sb_append_bf812 okv_M_Sb_append_bf812 k1014 rfl rfl (qm_4 (i := 100) rfl rfl) np_M_Sb_append_bf812 rfl ⟨Nat.le_of_ble_eq_true rfl, Nat.le_of_ble_eq_true rfl⟩ (Nat.le_of_ble_eq_true rfl) rfl d_Cl_lists_143 h1012 h1013 (DP.k h (fun v1016 w1015 gw1015 h => (?_ : WD _ _ 146 _ _ _ _ _ _)))
              refine x_ldcS (q := 268) (tx := " ") d_Cl_lists_146 (by decide) (?_ : WD _ _ 148 _ _ _ _ _ _)
              obtain ⟨a1017, e1018, h⟩ := h
              rw [e1018]
              obtain ⟨c1019, s1020, h1021, h1022, h⟩ := h
              obtain ⟨k1023, h⟩ := h
              refine x_callV (ν := M_Sb_append_15ec4) [vA (xa G 268)] ok_M_Sb_append_15ec4 okv_M_Sb_append_15ec4 k1023 rfl rfl (qm_3 (i := 235) rfl rfl) np_M_Sb_append_15ec4 rfl ⟨Nat.le_of_ble_eq_true rfl, Nat.le_of_ble_eq_true rfl⟩ (Nat.le_of_ble_eq_true rfl) rfl d_Cl_lists_148 h1021 h1022 (DP.k h (fun v1025 w1024 gw1024 h => (?_ : WD _ _ 151 _ _ _ _ _ _)))
              refine x_aloadP (some a124) d_Cl_lists_151 rfl (?_ : WD _ _ 153 _ _ _ _ _ _)
              refine x_getI (ref := "CoinSamplerLaw$Item") (j := 2) 2 ((((((((k126.q gw127.k).q gw980.k).nu fq985).q gw991.k).q gw997.k).q gw1006.k).q gw1015.k).q gw1024.k) clk_13 (by decide) (qm_4 (i := 157) rfl rfl) (Or.inl rfl) rfl rfl d_Cl_lists_153 (y := (wI w1024 a124 2)) rfl (?_ : WD _ _ 156 _ _ _ _ _ _)
              obtain ⟨a1026, e1027, h⟩ := h
              rw [e1027]
              obtain ⟨c1028, s1029, h1030, h1031, h⟩ := h
              obtain ⟨k1032, h⟩ := h
              refine x_callV (ν := M_Sb_append_bf812) [vI (wI w1024 a124 2)] ok_M_Sb_append_bf812 okv_M_Sb_append_bf812 k1032 rfl rfl (qm_4 (i := 100) rfl rfl) np_M_Sb_append_bf812 rfl ⟨Nat.le_of_ble_eq_true rfl, Nat.le_of_ble_eq_true rfl⟩ (Nat.le_of_ble_eq_true rfl) rfl d_Cl_lists_156 h1030 h1031 (DP.k h (fun v1034 w1033 gw1033 h => (?_ : WD _ _ 159 _ _ _ _ _ _)))
              refine x_aload_nP (some x1) d_Cl_lists_159 rfl (?_ : WD _ _ 160 _ _ _ _ _ _)
              refine x_aloadP (some a124) d_Cl_lists_160 rfl (?_ : WD _ _ 162 _ _ _ _ _ _)
              refine x_callV (ν := M_Bo_certain) [vA a124] ok_M_Bo_certain okv_M_Bo_certain ((((((((((k118.q gw122.k).q gw127.k).q gw980.k).nu fq985).q gw991.k).q gw997.k).q gw1006.k).q gw1015.k).q gw1024.k).q gw1033.k) rfl rfl (qm_5 (i := 185) rfl rfl) np_M_Bo_certain rfl ⟨Nat.le_of_ble_eq_true rfl, Nat.le_of_ble_eq_true rfl⟩ (Nat.le_of_ble_eq_true rfl) rfl d_Cl_lists_162 (Nat.zero_le _) (Nat.zero_le _) (DI.k h (fun v1036 w1035 gw1035 h => (?_ : WD _ _ 165 _ _ _ _ _ _)))
              refine x_if_eq 174 d_Cl_lists_165 rfl ⟨fun c1037 => (?_ : WD _ _ 174 _ _ _ _ _ _), fun c1037 => (?_ : WD _ _ 168 _ _ _ _ _ _)⟩
              · replace h := h.1 c1037
                obtain ⟨h1038, h⟩ := h
                obtain ⟨h1039, h⟩ := h
                refine x_new d_Cl_lists_174 clk_17 tyJ4_ok (qm_3 (i := 188) rfl rfl) (qm_3 (i := 189) rfl rfl) (qm_1 (i := 19) rfl rfl) hfd_17 h1038 h1039 (fun q1040 fq1040 => (?_ : WD _ _ 177 _ _ _ _ _ _))
                replace h := h q1040 fq1040
                have k1041 : Ow (uN w1035 q1040 (kO 17)) q1040 (kO 17) := Ow.nw
                refine x_dup d_Cl_lists_177 rfl (?_ : WD _ _ 178 _ _ _ _ _ _)
                obtain ⟨c1042, s1043, h1044, h1045, h⟩ := h
                refine x_callI (ν := M_Sb_init) [] ok_M_Sb_init oki_M_Sb_init rfl rfl (qm_3 (i := 190) rfl rfl) np_M_Sb_init rfl ⟨Nat.le_of_ble_eq_true rfl, Nat.le_of_ble_eq_true rfl⟩ (Nat.le_of_ble_eq_true rfl) rfl d_Cl_lists_178 h1044 h1045 (DV.k h (fun w1046 gw1046 h => (?_ : WD _ _ 181 _ _ _ _ _ _)))
                refine x_ldcwS (q := 278) (tx := "x") d_Cl_lists_181 (by decide) (?_ : WD _ _ 184 _ _ _ _ _ _)
                obtain ⟨c1048, s1049, h1050, h1051, h⟩ := h
                refine x_callV (ν := M_Sb_append_15ec4) [vA (xa G 278)] ok_M_Sb_append_15ec4 okv_M_Sb_append_15ec4 (k1041.q gw1046.k).is rfl rfl (qm_3 (i := 235) rfl rfl) np_M_Sb_append_15ec4 rfl ⟨Nat.le_of_ble_eq_true rfl, Nat.le_of_ble_eq_true rfl⟩ (Nat.le_of_ble_eq_true rfl) rfl d_Cl_lists_184 h1050 h1051 (DP.k h (fun v1053 w1052 gw1052 h => (?_ : WD _ _ 187 _ _ _ _ _ _)))
                refine x_aload_nP (some x2) d_Cl_lists_187 rfl (?_ : WD _ _ 188 _ _ _ _ _ _)
                refine x_iload d_Cl_lists_188 rfl (?_ : WD _ _ 190 _ _ _ _ _ _)
                obtain ⟨c1054, s1055, h1056, h1057, h⟩ := h
                refine x_callS (ν := M_Cl_oftenOf) [vA x2, vI x9] ok_M_Cl_oftenOf oks_M_Cl_oftenOf (qm_6 (i := 200) rfl rfl) np_M_Cl_oftenOf rfl ⟨Nat.le_of_ble_eq_true rfl, Nat.le_of_ble_eq_true rfl⟩ (Nat.le_of_ble_eq_true rfl) rfl d_Cl_lists_190 h1056 h1057 (DI.k h (fun v1059 w1058 gw1058 h => (?_ : WD _ _ 193 _ _ _ _ _ _)))
                obtain ⟨a1060, e1061, h⟩ := h
                rw [e1061]
                obtain ⟨c1062, s1063, h1064, h1065, h⟩ := h
                obtain ⟨k1066, h⟩ := h
                refine x_callV (ν := M_Sb_append_bf812) [vI v1059] ok_M_Sb_append_bf812 okv_M_Sb_append_bf812 k1066 rfl rfl (qm_4 (i := 100) rfl rfl) np_M_Sb_append_bf812 rfl ⟨Nat.le_of_ble_eq_true rfl, Nat.le_of_ble_eq_true rfl⟩ (Nat.le_of_ble_eq_true rfl) rfl d_Cl_lists_193 h1064 h1065 (DP.k h (fun v1068 w1067 gw1067 h => (?_ : WD _ _ 196 _ _ _ _ _ _)))
                obtain ⟨a1069, e1070, h⟩ := h
                rw [e1070]
                obtain ⟨c1071, s1072, h1073, h1074, h⟩ := h
                obtain ⟨k1075, h⟩ := h
                refine x_callV (ν := M_Sb_toString) [] ok_M_Sb_toString okv_M_Sb_toString k1075 rfl rfl (qm_4 (i := 182) rfl rfl) np_M_Sb_toString rfl ⟨Nat.le_of_ble_eq_true rfl, Nat.le_of_ble_eq_true rfl⟩ (Nat.le_of_ble_eq_true rfl) rfl d_Cl_lists_196 h1073 h1074 (DP.k h (fun v1077 w1076 gw1076 h => (?_ : WD _ _ 199 _ _ _ _ _ _)))
                obtain ⟨a1078, e1079, h⟩ := h
                rw [e1079]
                obtain ⟨a1080, e1081, h⟩ := h
                rw [e1081]
                obtain ⟨c1082, s1083, h1084, h1085, h⟩ := h
                obtain ⟨k1086, h⟩ := h
                refine x_callV (ν := M_Sb_append_15ec4) [vA a1080] ok_M_Sb_append_15ec4 okv_M_Sb_append_15ec4 k1086 rfl rfl (qm_3 (i := 235) rfl rfl) np_M_Sb_append_15ec4 rfl ⟨Nat.le_of_ble_eq_true rfl, Nat.le_of_ble_eq_true rfl⟩ (Nat.le_of_ble_eq_true rfl) rfl d_Cl_lists_199 h1084 h1085 (DP.k h (fun v1088 w1087 gw1087 h => (?_ : WD _ _ 202 _ _ _ _ _ _)))
                refine x_aloadP (some a124) d_Cl_lists_202 rfl (?_ : WD _ _ 204 _ _ _ _ _ _)
                refine x_getI (ref := "CoinSamplerLaw$Item") (j := 3) 3 (((((((((((((((((k126.q gw127.k).q gw980.k).nu fq985).q gw991.k).q gw997.k).q gw1006.k).q gw1015.k).q gw1024.k).q gw1033.k).q gw1035.k).nu fq1040).q gw1046.k).q gw1052.k).q gw1058.k).q gw1067.k).q gw1076.k).q gw1087.k) clk_13 (by decide) (qm_4 (i := 159) rfl rfl) (Or.inl rfl) rfl rfl d_Cl_lists_204 (y := (wI w1087 a124 3)) rfl (?_ : WD _ _ 207 _ _ _ _ _ _)
                refine x_if_ge 216 d_Cl_lists_207 rfl ⟨fun c1089 => (?_ : WD _ _ 216 _ _ _ _ _ _), fun c1089 => (?_ : WD _ _ 210 _ _ _ _ _ _)⟩
                · replace h := h.1 c1089
                  obtain ⟨h1090, h⟩ := h
                  obtain ⟨h1091, h⟩ := h
                  refine x_new d_Cl_lists_216 clk_17 tyJ4_ok (qm_3 (i := 188) rfl rfl) (qm_3 (i := 189) rfl rfl) (qm_1 (i := 19) rfl rfl) hfd_17 h1090 h1091 (fun q1092 fq1092 => (?_ : WD _ _ 219 _ _ _ _ _ _))
                  replace h := h q1092 fq1092
                  have k1093 : Ow (uN w1087 q1092 (kO 17)) q1092 (kO 17) := Ow.nw
                  refine x_dup d_Cl_lists_219 rfl (?_ : WD _ _ 220 _ _ _ _ _ _)
                  obtain ⟨c1094, s1095, h1096, h1097, h⟩ := h
                  refine x_callI (ν := M_Sb_init) [] ok_M_Sb_init oki_M_Sb_init rfl rfl (qm_3 (i := 190) rfl rfl) np_M_Sb_init rfl ⟨Nat.le_of_ble_eq_true rfl, Nat.le_of_ble_eq_true rfl⟩ (Nat.le_of_ble_eq_true rfl) rfl d_Cl_lists_220 h1096 h1097 (DV.k h (fun w1098 gw1098 h => (?_ : WD _ _ 223 _ _ _ _ _ _)))
                  refine x_ldcwS (q := 282) (tx := " =") d_Cl_lists_223 (by decide) (?_ : WD _ _ 226 _ _ _ _ _ _)
                  obtain ⟨c1100, s1101, h1102, h1103, h⟩ := h
                  refine x_callV (ν := M_Sb_append_15ec4) [vA (xa G 282)] ok_M_Sb_append_15ec4 okv_M_Sb_append_15ec4 (k1093.q gw1098.k).is rfl rfl (qm_3 (i := 235) rfl rfl) np_M_Sb_append_15ec4 rfl ⟨Nat.le_of_ble_eq_true rfl, Nat.le_of_ble_eq_true rfl⟩ (Nat.le_of_ble_eq_true rfl) rfl d_Cl_lists_226 h1102 h1103 (DP.k h (fun v1105 w1104 gw1104 h => (?_ : WD _ _ 229 _ _ _ _ _ _)))
                  refine x_aloadP (some a124) d_Cl_lists_229 rfl (?_ : WD _ _ 231 _ _ _ _ _ _)
                  refine x_getI (ref := "CoinSamplerLaw$Item") (j := 3) 3 ((((((((((((((((((((k126.q gw127.k).q gw980.k).nu fq985).q gw991.k).q gw997.k).q gw1006.k).q gw1015.k).q gw1024.k).q gw1033.k).q gw1035.k).nu fq1040).q gw1046.k).q gw1052.k).q gw1058.k).q gw1067.k).q gw1076.k).q gw1087.k).nu fq1092).q gw1098.k).q gw1104.k) clk_13 (by decide) (qm_4 (i := 159) rfl rfl) (Or.inl rfl) rfl rfl d_Cl_lists_231 (y := (wI w1104 a124 3)) rfl (?_ : WD _ _ 234 _ _ _ _ _ _)
                  obtain ⟨a1106, e1107, h⟩ := h
                  rw [e1107]
                  obtain ⟨c1108, s1109, h1110, h1111, h⟩ := h
                  obtain ⟨k1112, h⟩ := h
                  refine x_callV (ν := M_Sb_append_bf812) [vI (wI w1104 a124 3)] ok_M_Sb_append_bf812 okv_M_Sb_append_bf812 k1112 rfl rfl (qm_4 (i := 100) rfl rfl) np_M_Sb_append_bf812 rfl ⟨Nat.le_of_ble_eq_true rfl, Nat.le_of_ble_eq_true rfl⟩ (Nat.le_of_ble_eq_true rfl) rfl d_Cl_lists_234 h1110 h1111 (DP.k h (fun v1114 w1113 gw1113 h => (?_ : WD _ _ 237 _ _ _ _ _ _)))
                  obtain ⟨a1115, e1116, h⟩ := h
                  rw [e1116]
                  obtain ⟨c1117, s1118, h1119, h1120, h⟩ := h
                  obtain ⟨k1121, h⟩ := h
                  refine x_callV (ν := M_Sb_toString) [] ok_M_Sb_toString okv_M_Sb_toString k1121 rfl rfl (qm_4 (i := 182) rfl rfl) np_M_Sb_toString rfl ⟨Nat.le_of_ble_eq_true rfl, Nat.le_of_ble_eq_true rfl⟩ (Nat.le_of_ble_eq_true rfl) rfl d_Cl_lists_237 h1119 h1120 (DP.k h (fun v1123 w1122 gw1122 h => (?_ : WD _ _ 240 _ _ _ _ _ _)))
                  obtain ⟨a1124, e1125, h⟩ := h
                  rw [e1125]
                  obtain ⟨a1126, e1127, h⟩ := h
                  rw [e1127]
                  obtain ⟨c1128, s1129, h1130, h1131, h⟩ := h
                  obtain ⟨k1132, h⟩ := h
                  refine x_callV (ν := M_Sb_append_15ec4) [vA a1126] ok_M_Sb_append_15ec4 okv_M_Sb_append_15ec4 k1132 rfl rfl (qm_3 (i := 235) rfl rfl) np_M_Sb_append_15ec4 rfl ⟨Nat.le_of_ble_eq_true rfl, Nat.le_of_ble_eq_true rfl⟩ (Nat.le_of_ble_eq_true rfl) rfl d_Cl_lists_240 h1130 h1131 (DP.k h (fun v1134 w1133 gw1133 h => (?_ : WD _ _ 243 _ _ _ _ _ _)))
                  obtain ⟨a1135, e1136, h⟩ := h
                  rw [e1136]
                  obtain ⟨c1137, s1138, h1139, h1140, h⟩ := h
                  obtain ⟨k1141, h⟩ := h
                  refine x_callV (ν := M_Sb_toString) [] ok_M_Sb_toString okv_M_Sb_toString k1141 rfl rfl (qm_4 (i := 182) rfl rfl) np_M_Sb_toString rfl ⟨Nat.le_of_ble_eq_true rfl, Nat.le_of_ble_eq_true rfl⟩ (Nat.le_of_ble_eq_true rfl) rfl d_Cl_lists_243 h1139 h1140 (DP.k h (fun v1143 w1142 gw1142 h => (?_ : WD _ _ 246 _ _ _ _ _ _)))
                  refine x_astoreP v1143 (ls' := [(11, vP v1143), (7, vL (x7 + v981)), (5, vI (x5 + 1)), (4, vI (x4 + 1)), (10, vA a124), (0, vR 0), (1, vA x1), (2, vA x2), (3, vA a8), (6, vI x6), (9, vI x9)]) d_Cl_lists_246 (by decide) rfl (?_ : WD _ _ 248 _ _ _ _ _ _)
                  refine x_aload_n d_Cl_lists_248 rfl (?_ : WD _ _ 249 _ _ _ _ _ _)
                  refine x_iload d_Cl_lists_249 rfl (?_ : WD _ _ 251 _ _ _ _ _ _)
                  refine x_callC (ν := M_Cs_drawn) (k := 0) [vI x6] ok_M_Cs_drawn okv_M_Cs_drawn (by decide) rfl rfl rfl (qm_9 (i := 227) rfl rfl) np_M_Cs_drawn rfl ⟨Nat.le_of_ble_eq_true rfl, Nat.le_of_ble_eq_true rfl⟩ (Nat.le_of_ble_eq_true rfl) rfl d_Cl_lists_251 (CI.kd h (fun v1144 σ1145 h => (?_ : WD _ _ 254 _ _ _ _ _ _)))
                  refine x_iload d_Cl_lists_254 rfl (?_ : WD _ _ 256 _ _ _ _ _ _)
                  refine x_icmp_eq 261 d_Cl_lists_256 rfl ⟨fun c1146 => (?_ : WD _ _ 261 _ _ _ _ _ _), fun c1146 => (?_ : WD _ _ 259 _ _ _ _ _ _)⟩
                  · replace h := h.1 c1146
                    refine x_iconst d_Cl_lists_261 (by decide) (?_ : WD _ _ 262 _ _ _ _ _ _)
                    refine x_istore (ls' := [(12, vI 0), (11, vP v1143), (7, vL (x7 + v981)), (5, vI (x5 + 1)), (4, vI (x4 + 1)), (10, vA a124), (0, vR 0), (1, vA x1), (2, vA x2), (3, vA a8), (6, vI x6), (9, vI x9)]) d_Cl_lists_262 (by decide) rfl (?_ : WD _ _ 264 _ _ _ _ _ _)
                    refine x_pick (ls' := [(0, vR 0), (1, vA x1), (2, vA x2), (3, vA a8), (4, vI (x4 + 1)), (5, vI (x5 + 1)), (6, vI x6), (7, vL (x7 + v981)), (9, vI x9), (11, vP v1143), (12, vI 0)]) [6, 7, 8, 9, 4, 3, 10, 2, 11, 1, 0] rfl ?_
                    exact h
                  · replace h := h.2 c1146
                    refine x_iconst d_Cl_lists_259 (by decide) (?_ : WD _ _ 260 _ _ _ _ _ _)
                    exact x_zreturn rfl d_Cl_lists_260 (by decide) h
                · replace h := h.2 c1089
                  refine x_ldcwS (q := 280) (tx := "") d_Cl_lists_210 (by decide) (?_ : WD _ _ 213 _ _ _ _ _ _)
                  refine x_goto 240 d_Cl_lists_213 rfl ?_
                  obtain ⟨a1147, e1148, h⟩ := h
                  rw [e1148]
                  obtain ⟨c1149, s1150, h1151, h1152, h⟩ := h
                  obtain ⟨k1153, h⟩ := h
                  refine x_callV (ν := M_Sb_append_15ec4) [vA (xa G 280)] ok_M_Sb_append_15ec4 okv_M_Sb_append_15ec4 k1153 rfl rfl (qm_3 (i := 235) rfl rfl) np_M_Sb_append_15ec4 rfl ⟨Nat.le_of_ble_eq_true rfl, Nat.le_of_ble_eq_true rfl⟩ (Nat.le_of_ble_eq_true rfl) rfl d_Cl_lists_240 h1151 h1152 (DP.k h (fun v1155 w1154 gw1154 h => (?_ : WD _ _ 243 _ _ _ _ _ _)))
                  obtain ⟨a1156, e1157, h⟩ := h
                  rw [e1157]
                  obtain ⟨c1158, s1159, h1160, h1161, h⟩ := h
                  obtain ⟨k1162, h⟩ := h
                  refine x_callV (ν := M_Sb_toString) [] ok_M_Sb_toString okv_M_Sb_toString k1162 rfl rfl (qm_4 (i := 182) rfl rfl) np_M_Sb_toString rfl ⟨Nat.le_of_ble_eq_true rfl, Nat.le_of_ble_eq_true rfl⟩ (Nat.le_of_ble_eq_true rfl) rfl d_Cl_lists_243 h1160 h1161 (DP.k h (fun v1164 w1163 gw1163 h => (?_ : WD _ _ 246 _ _ _ _ _ _)))
                  refine x_astoreP v1164 (ls' := [(11, vP v1164), (7, vL (x7 + v981)), (5, vI (x5 + 1)), (4, vI (x4 + 1)), (10, vA a124), (0, vR 0), (1, vA x1), (2, vA x2), (3, vA a8), (6, vI x6), (9, vI x9)]) d_Cl_lists_246 (by decide) rfl (?_ : WD _ _ 248 _ _ _ _ _ _)
                  refine x_aload_n d_Cl_lists_248 rfl (?_ : WD _ _ 249 _ _ _ _ _ _)
                  refine x_iload d_Cl_lists_249 rfl (?_ : WD _ _ 251 _ _ _ _ _ _)
                  refine x_callC (ν := M_Cs_drawn) (k := 0) [vI x6] ok_M_Cs_drawn okv_M_Cs_drawn (by decide) rfl rfl rfl (qm_9 (i := 227) rfl rfl) np_M_Cs_drawn rfl ⟨Nat.le_of_ble_eq_true rfl, Nat.le_of_ble_eq_true rfl⟩ (Nat.le_of_ble_eq_true rfl) rfl d_Cl_lists_251 (CI.kd h (fun v1165 σ1166 h => (?_ : WD _ _ 254 _ _ _ _ _ _)))
                  refine x_iload d_Cl_lists_254 rfl (?_ : WD _ _ 256 _ _ _ _ _ _)
                  refine x_icmp_eq 261 d_Cl_lists_256 rfl ⟨fun c1167 => (?_ : WD _ _ 261 _ _ _ _ _ _), fun c1167 => (?_ : WD _ _ 259 _ _ _ _ _ _)⟩
                  · replace h := h.1 c1167
                    refine x_iconst d_Cl_lists_261 (by decide) (?_ : WD _ _ 262 _ _ _ _ _ _)
                    refine x_istore (ls' := [(12, vI 0), (11, vP v1164), (7, vL (x7 + v981)), (5, vI (x5 + 1)), (4, vI (x4 + 1)), (10, vA a124), (0, vR 0), (1, vA x1), (2, vA x2), (3, vA a8), (6, vI x6), (9, vI x9)]) d_Cl_lists_262 (by decide) rfl (?_ : WD _ _ 264 _ _ _ _ _ _)
                    refine x_pick (ls' := [(0, vR 0), (1, vA x1), (2, vA x2), (3, vA a8), (4, vI (x4 + 1)), (5, vI (x5 + 1)), (6, vI x6), (7, vL (x7 + v981)), (9, vI x9), (11, vP v1164), (12, vI 0)]) [6, 7, 8, 9, 4, 3, 10, 2, 11, 1, 0] rfl ?_
                    exact h
                  · replace h := h.2 c1167
                    refine x_iconst d_Cl_lists_259 (by decide) (?_ : WD _ _ 260 _ _ _ _ _ _)
                    exact x_zreturn rfl d_Cl_lists_260 (by decide) h
              · replace h := h.2 c1037
                refine x_ldcwS (q := 276) (tx := "!") d_Cl_lists_168 (by decide) (?_ : WD _ _ 171 _ _ _ _ _ _)
                refine x_goto 199 d_Cl_lists_171 rfl ?_
                obtain ⟨a1168, e1169, h⟩ := h
                rw [e1169]
                obtain ⟨c1170, s1171, h1172, h1173, h⟩ := h
                obtain ⟨k1174, h⟩ := h
                refine x_callV (ν := M_Sb_append_15ec4) [vA (xa G 276)] ok_M_Sb_append_15ec4 okv_M_Sb_append_15ec4 k1174 rfl rfl (qm_3 (i := 235) rfl rfl) np_M_Sb_append_15ec4 rfl ⟨Nat.le_of_ble_eq_true rfl, Nat.le_of_ble_eq_true rfl⟩ (Nat.le_of_ble_eq_true rfl) rfl d_Cl_lists_199 h1172 h1173 (DP.k h (fun v1176 w1175 gw1175 h => (?_ : WD _ _ 202 _ _ _ _ _ _)))
                refine x_aloadP (some a124) d_Cl_lists_202 rfl (?_ : WD _ _ 204 _ _ _ _ _ _)
                refine x_getI (ref := "CoinSamplerLaw$Item") (j := 3) 3 (((((((((((k126.q gw127.k).q gw980.k).nu fq985).q gw991.k).q gw997.k).q gw1006.k).q gw1015.k).q gw1024.k).q gw1033.k).q gw1035.k).q gw1175.k) clk_13 (by decide) (qm_4 (i := 159) rfl rfl) (Or.inl rfl) rfl rfl d_Cl_lists_204 (y := (wI w1175 a124 3)) rfl (?_ : WD _ _ 207 _ _ _ _ _ _)
                refine x_if_ge 216 d_Cl_lists_207 rfl ⟨fun c1177 => (?_ : WD _ _ 216 _ _ _ _ _ _), fun c1177 => (?_ : WD _ _ 210 _ _ _ _ _ _)⟩
                · replace h := h.1 c1177
                  obtain ⟨h1178, h⟩ := h
                  obtain ⟨h1179, h⟩ := h
                  refine x_new d_Cl_lists_216 clk_17 tyJ4_ok (qm_3 (i := 188) rfl rfl) (qm_3 (i := 189) rfl rfl) (qm_1 (i := 19) rfl rfl) hfd_17 h1178 h1179 (fun q1180 fq1180 => (?_ : WD _ _ 219 _ _ _ _ _ _))
                  replace h := h q1180 fq1180
                  have k1181 : Ow (uN w1175 q1180 (kO 17)) q1180 (kO 17) := Ow.nw
                  refine x_dup d_Cl_lists_219 rfl (?_ : WD _ _ 220 _ _ _ _ _ _)
                  obtain ⟨c1182, s1183, h1184, h1185, h⟩ := h
                  refine x_callI (ν := M_Sb_init) [] ok_M_Sb_init oki_M_Sb_init rfl rfl (qm_3 (i := 190) rfl rfl) np_M_Sb_init rfl ⟨Nat.le_of_ble_eq_true rfl, Nat.le_of_ble_eq_true rfl⟩ (Nat.le_of_ble_eq_true rfl) rfl d_Cl_lists_220 h1184 h1185 (DV.k h (fun w1186 gw1186 h => (?_ : WD _ _ 223 _ _ _ _ _ _)))
                  refine x_ldcwS (q := 282) (tx := " =") d_Cl_lists_223 (by decide) (?_ : WD _ _ 226 _ _ _ _ _ _)
                  obtain ⟨c1188, s1189, h1190, h1191, h⟩ := h
                  refine x_callV (ν := M_Sb_append_15ec4) [vA (xa G 282)] ok_M_Sb_append_15ec4 okv_M_Sb_append_15ec4 (k1181.q gw1186.k).is rfl rfl (qm_3 (i := 235) rfl rfl) np_M_Sb_append_15ec4 rfl ⟨Nat.le_of_ble_eq_true rfl, Nat.le_of_ble_eq_true rfl⟩ (Nat.le_of_ble_eq_true rfl) rfl d_Cl_lists_226 h1190 h1191 (DP.k h (fun v1193 w1192 gw1192 h => (?_ : WD _ _ 229 _ _ _ _ _ _)))
                  refine x_aloadP (some a124) d_Cl_lists_229 rfl (?_ : WD _ _ 231 _ _ _ _ _ _)
                  refine x_getI (ref := "CoinSamplerLaw$Item") (j := 3) 3 ((((((((((((((k126.q gw127.k).q gw980.k).nu fq985).q gw991.k).q gw997.k).q gw1006.k).q gw1015.k).q gw1024.k).q gw1033.k).q gw1035.k).q gw1175.k).nu fq1180).q gw1186.k).q gw1192.k) clk_13 (by decide) (qm_4 (i := 159) rfl rfl) (Or.inl rfl) rfl rfl d_Cl_lists_231 (y := (wI w1192 a124 3)) rfl (?_ : WD _ _ 234 _ _ _ _ _ _)
                  obtain ⟨a1194, e1195, h⟩ := h
                  rw [e1195]
                  obtain ⟨c1196, s1197, h1198, h1199, h⟩ := h
                  obtain ⟨k1200, h⟩ := h
                  refine x_callV (ν := M_Sb_append_bf812) [vI (wI w1192 a124 3)] ok_M_Sb_append_bf812 okv_M_Sb_append_bf812 k1200 rfl rfl (qm_4 (i := 100) rfl rfl) np_M_Sb_append_bf812 rfl ⟨Nat.le_of_ble_eq_true rfl, Nat.le_of_ble_eq_true rfl⟩ (Nat.le_of_ble_eq_true rfl) rfl d_Cl_lists_234 h1198 h1199 (DP.k h (fun v1202 w1201 gw1201 h => (?_ : WD _ _ 237 _ _ _ _ _ _)))
                  obtain ⟨a1203, e1204, h⟩ := h
                  rw [e1204]
                  obtain ⟨c1205, s1206, h1207, h1208, h⟩ := h
                  obtain ⟨k1209, h⟩ := h
                  refine x_callV (ν := M_Sb_toString) [] ok_M_Sb_toString okv_M_Sb_toString k1209 rfl rfl (qm_4 (i := 182) rfl rfl) np_M_Sb_toString rfl ⟨Nat.le_of_ble_eq_true rfl, Nat.le_of_ble_eq_true rfl⟩ (Nat.le_of_ble_eq_true rfl) rfl d_Cl_lists_237 h1207 h1208 (DP.k h (fun v1211 w1210 gw1210 h => (?_ : WD _ _ 240 _ _ _ _ _ _)))
                  obtain ⟨a1212, e1213, h⟩ := h
                  rw [e1213]
                  obtain ⟨a1214, e1215, h⟩ := h
                  rw [e1215]
                  obtain ⟨c1216, s1217, h1218, h1219, h⟩ := h
                  obtain ⟨k1220, h⟩ := h
                  refine x_callV (ν := M_Sb_append_15ec4) [vA a1214] ok_M_Sb_append_15ec4 okv_M_Sb_append_15ec4 k1220 rfl rfl (qm_3 (i := 235) rfl rfl) np_M_Sb_append_15ec4 rfl ⟨Nat.le_of_ble_eq_true rfl, Nat.le_of_ble_eq_true rfl⟩ (Nat.le_of_ble_eq_true rfl) rfl d_Cl_lists_240 h1218 h1219 (DP.k h (fun v1222 w1221 gw1221 h => (?_ : WD _ _ 243 _ _ _ _ _ _)))
                  obtain ⟨a1223, e1224, h⟩ := h
                  rw [e1224]
                  obtain ⟨c1225, s1226, h1227, h1228, h⟩ := h
                  obtain ⟨k1229, h⟩ := h
                  refine x_callV (ν := M_Sb_toString) [] ok_M_Sb_toString okv_M_Sb_toString k1229 rfl rfl (qm_4 (i := 182) rfl rfl) np_M_Sb_toString rfl ⟨Nat.le_of_ble_eq_true rfl, Nat.le_of_ble_eq_true rfl⟩ (Nat.le_of_ble_eq_true rfl) rfl d_Cl_lists_243 h1227 h1228 (DP.k h (fun v1231 w1230 gw1230 h => (?_ : WD _ _ 246 _ _ _ _ _ _)))
                  refine x_astoreP v1231 (ls' := [(11, vP v1231), (7, vL (x7 + v981)), (5, vI (x5 + 1)), (4, vI (x4 + 1)), (10, vA a124), (0, vR 0), (1, vA x1), (2, vA x2), (3, vA a8), (6, vI x6), (9, vI x9)]) d_Cl_lists_246 (by decide) rfl (?_ : WD _ _ 248 _ _ _ _ _ _)
                  refine x_aload_n d_Cl_lists_248 rfl (?_ : WD _ _ 249 _ _ _ _ _ _)
                  refine x_iload d_Cl_lists_249 rfl (?_ : WD _ _ 251 _ _ _ _ _ _)
                  refine x_callC (ν := M_Cs_drawn) (k := 0) [vI x6] ok_M_Cs_drawn okv_M_Cs_drawn (by decide) rfl rfl rfl (qm_9 (i := 227) rfl rfl) np_M_Cs_drawn rfl ⟨Nat.le_of_ble_eq_true rfl, Nat.le_of_ble_eq_true rfl⟩ (Nat.le_of_ble_eq_true rfl) rfl d_Cl_lists_251 (CI.kd h (fun v1232 σ1233 h => (?_ : WD _ _ 254 _ _ _ _ _ _)))
                  refine x_iload d_Cl_lists_254 rfl (?_ : WD _ _ 256 _ _ _ _ _ _)
                  refine x_icmp_eq 261 d_Cl_lists_256 rfl ⟨fun c1234 => (?_ : WD _ _ 261 _ _ _ _ _ _), fun c1234 => (?_ : WD _ _ 259 _ _ _ _ _ _)⟩
                  · replace h := h.1 c1234
                    refine x_iconst d_Cl_lists_261 (by decide) (?_ : WD _ _ 262 _ _ _ _ _ _)
                    refine x_istore (ls' := [(12, vI 0), (11, vP v1231), (7, vL (x7 + v981)), (5, vI (x5 + 1)), (4, vI (x4 + 1)), (10, vA a124), (0, vR 0), (1, vA x1), (2, vA x2), (3, vA a8), (6, vI x6), (9, vI x9)]) d_Cl_lists_262 (by decide) rfl (?_ : WD _ _ 264 _ _ _ _ _ _)
                    refine x_pick (ls' := [(0, vR 0), (1, vA x1), (2, vA x2), (3, vA a8), (4, vI (x4 + 1)), (5, vI (x5 + 1)), (6, vI x6), (7, vL (x7 + v981)), (9, vI x9), (11, vP v1231), (12, vI 0)]) [6, 7, 8, 9, 4, 3, 10, 2, 11, 1, 0] rfl ?_
                    exact h
                  · replace h := h.2 c1234
                    refine x_iconst d_Cl_lists_259 (by decide) (?_ : WD _ _ 260 _ _ _ _ _ _)
                    exact x_zreturn rfl d_Cl_lists_260 (by decide) h
                · replace h := h.2 c1177
                  refine x_ldcwS (q := 280) (tx := "") d_Cl_lists_210 (by decide) (?_ : WD _ _ 213 _ _ _ _ _ _)
                  refine x_goto 240 d_Cl_lists_213 rfl ?_
                  obtain ⟨a1235, e1236, h⟩ := h
                  rw [e1236]
                  obtain ⟨c1237, s1238, h1239, h1240, h⟩ := h
                  obtain ⟨k1241, h⟩ := h
                  refine x_callV (ν := M_Sb_append_15ec4) [vA (xa G 280)] ok_M_Sb_append_15ec4 okv_M_Sb_append_15ec4 k1241 rfl rfl (qm_3 (i := 235) rfl rfl) np_M_Sb_append_15ec4 rfl ⟨Nat.le_of_ble_eq_true rfl, Nat.le_of_ble_eq_true rfl⟩ (Nat.le_of_ble_eq_true rfl) rfl d_Cl_lists_240 h1239 h1240 (DP.k h (fun v1243 w1242 gw1242 h => (?_ : WD _ _ 243 _ _ _ _ _ _)))
                  obtain ⟨a1244, e1245, h⟩ := h
                  rw [e1245]
                  obtain ⟨c1246, s1247, h1248, h1249, h⟩ := h
                  obtain ⟨k1250, h⟩ := h
                  refine x_callV (ν := M_Sb_toString) [] ok_M_Sb_toString okv_M_Sb_toString k1250 rfl rfl (qm_4 (i := 182) rfl rfl) np_M_Sb_toString rfl ⟨Nat.le_of_ble_eq_true rfl, Nat.le_of_ble_eq_true rfl⟩ (Nat.le_of_ble_eq_true rfl) rfl d_Cl_lists_243 h1248 h1249 (DP.k h (fun v1252 w1251 gw1251 h => (?_ : WD _ _ 246 _ _ _ _ _ _)))
                  refine x_astoreP v1252 (ls' := [(11, vP v1252), (7, vL (x7 + v981)), (5, vI (x5 + 1)), (4, vI (x4 + 1)), (10, vA a124), (0, vR 0), (1, vA x1), (2, vA x2), (3, vA a8), (6, vI x6), (9, vI x9)]) d_Cl_lists_246 (by decide) rfl (?_ : WD _ _ 248 _ _ _ _ _ _)
                  refine x_aload_n d_Cl_lists_248 rfl (?_ : WD _ _ 249 _ _ _ _ _ _)
                  refine x_iload d_Cl_lists_249 rfl (?_ : WD _ _ 251 _ _ _ _ _ _)
                  refine x_callC (ν := M_Cs_drawn) (k := 0) [vI x6] ok_M_Cs_drawn okv_M_Cs_drawn (by decide) rfl rfl rfl (qm_9 (i := 227) rfl rfl) np_M_Cs_drawn rfl ⟨Nat.le_of_ble_eq_true rfl, Nat.le_of_ble_eq_true rfl⟩ (Nat.le_of_ble_eq_true rfl) rfl d_Cl_lists_251 (CI.kd h (fun v1253 σ1254 h => (?_ : WD _ _ 254 _ _ _ _ _ _)))
                  refine x_iload d_Cl_lists_254 rfl (?_ : WD _ _ 256 _ _ _ _ _ _)
                  refine x_icmp_eq 261 d_Cl_lists_256 rfl ⟨fun c1255 => (?_ : WD _ _ 261 _ _ _ _ _ _), fun c1255 => (?_ : WD _ _ 259 _ _ _ _ _ _)⟩
                  · replace h := h.1 c1255
                    refine x_iconst d_Cl_lists_261 (by decide) (?_ : WD _ _ 262 _ _ _ _ _ _)
                    refine x_istore (ls' := [(12, vI 0), (11, vP v1252), (7, vL (x7 + v981)), (5, vI (x5 + 1)), (4, vI (x4 + 1)), (10, vA a124), (0, vR 0), (1, vA x1), (2, vA x2), (3, vA a8), (6, vI x6), (9, vI x9)]) d_Cl_lists_262 (by decide) rfl (?_ : WD _ _ 264 _ _ _ _ _ _)
                    refine x_pick (ls' := [(0, vR 0), (1, vA x1), (2, vA x2), (3, vA a8), (4, vI (x4 + 1)), (5, vI (x5 + 1)), (6, vI x6), (7, vL (x7 + v981)), (9, vI x9), (11, vP v1252), (12, vI 0)]) [6, 7, 8, 9, 4, 3, 10, 2, 11, 1, 0] rfl ?_
                    exact h
                  · replace h := h.2 c1255
                    refine x_iconst d_Cl_lists_259 (by decide) (?_ : WD _ _ 260 _ _ _ _ _ _)
                    exact x_zreturn rfl d_Cl_lists_260 (by decide) h
            · replace h := h.2 c979
              refine x_iconst d_Cl_lists_94 (by decide) (?_ : WD _ _ 95 _ _ _ _ _ _)
              exact x_zreturn rfl d_Cl_lists_95 (by decide) h
set_option maxRecDepth 20000 in
theorem l_Cl_lists_2 {G : Gq} {K : Int → Wd → Prop} {w : Wd} {rc rs : Nat} (x1 : Nat) (x2 : Nat) (x3 : Nat) (x4 : Int) (x5 : Int) (x6 : Int) (x7 : Int) (x9 : Int) (x11 : Option Nat) (x12 : Int) (h : ∃ a1256 : Nat, x11 = some a1256 ∧ ((Is G w a1256 (kO 18)) ∧ DI G M_Sg_length [vA a1256] w 0 0 (fun v1260 w1259 => (v1260 < x12 → (inR (x6 + 1)) ∧ (inR (x9 + 1)) ∧ WD G M_Cl_lists 21 [(0, vR 0), (1, vA x1), (2, vA x2), (3, vP (some x3)), (4, vI x4), (5, vI x5), (6, vI (x6 + 1)), (7, vL x7), (9, vI (x9 + 1))] [] w1259 rc rs (yI K)) ∧ (¬ v1260 < x12 → CI M_Cs_line [vR 0, vI x6, vI x12] (wS w1259) (fun v1264 σ1265 => DI G M_Sg_length [vA a1256] (uS w1259 σ1265) 0 0 (fun v1267 w1266 => (v1267 ≤ x12 → (v1264 = (-1) → (inR (x12 + 1)) ∧ WD G M_Cl_lists 264 [(0, vR 0), (1, vA x1), (2, vA x2), (3, vA x3), (4, vI x4), (5, vI x5), (6, vI x6), (7, vL x7), (9, vI x9), (11, vP (some a1256)), (12, vI (x12 + 1))] [] w1266 rc rs (yI K)) ∧ (¬ v1264 = (-1) → K 0 w1266)) ∧ (¬ v1267 ≤ x12 → DI G M_Sg_charAt [vA a1256, vI x12] w1266 0 0 (fun v1272 w1271 => (v1264 = v1272 → (inR (x12 + 1)) ∧ WD G M_Cl_lists 264 [(0, vR 0), (1, vA x1), (2, vA x2), (3, vA x3), (4, vI x4), (5, vI x5), (6, vI x6), (7, vL x7), (9, vI x9), (11, vP (some a1256)), (12, vI (x12 + 1))] [] w1271 rc rs (yI K)) ∧ (¬ v1264 = v1272 → K 0 w1271))))))))) : WD G M_Cl_lists 264 [(0, vR 0), (1, vA x1), (2, vA x2), (3, vA x3), (4, vI x4), (5, vI x5), (6, vI x6), (7, vL x7), (9, vI x9), (11, vP x11), (12, vI x12)] [] w rc rs (yI K) := by
  refine x_iload d_Cl_lists_264 rfl (?_ : WD _ _ 266 _ _ _ _ _ _)
  refine x_aloadP x11 d_Cl_lists_266 rfl (?_ : WD _ _ 268 _ _ _ _ _ _)
  obtain ⟨a1256, e1257, h⟩ := h
  rw [e1257]
  obtain ⟨k1258, h⟩ := h
  refine x_callV (ν := M_Sg_length) [] ok_M_Sg_length okv_M_Sg_length k1258 rfl rfl (qm_5 (i := 115) rfl rfl) np_M_Sg_length rfl ⟨Nat.le_of_ble_eq_true rfl, Nat.le_of_ble_eq_true rfl⟩ (Nat.le_of_ble_eq_true rfl) rfl d_Cl_lists_268 (Nat.zero_le _) (Nat.zero_le _) (DI.k h (fun v1260 w1259 gw1259 h => (?_ : WD _ _ 271 _ _ _ _ _ _)))
  refine x_icmp_gt 314 d_Cl_lists_271 rfl ⟨fun c1261 => (?_ : WD _ _ 314 _ _ _ _ _ _), fun c1261 => (?_ : WD _ _ 274 _ _ _ _ _ _)⟩
  · replace h := h.1 c1261
    obtain ⟨h1262, h⟩ := h
    refine x_iinc (ls' := [(6, vI (x6 + 1)), (0, vR 0), (1, vA x1), (2, vA x2), (3, vA x3), (4, vI x4), (5, vI x5), (7, vL x7), (9, vI x9), (11, vA a1256), (12, vI x12)]) d_Cl_lists_314 rfl h1262 (by decide) rfl (?_ : WD _ _ 317 _ _ _ _ _ _)
    obtain ⟨h1263, h⟩ := h
    refine x_iinc (ls' := [(9, vI (x9 + 1)), (6, vI (x6 + 1)), (0, vR 0), (1, vA x1), (2, vA x2), (3, vA x3), (4, vI x4), (5, vI x5), (7, vL x7), (11, vA a1256), (12, vI x12)]) d_Cl_lists_317 rfl h1263 (by decide) rfl (?_ : WD _ _ 320 _ _ _ _ _ _)
    refine x_goto 21 d_Cl_lists_320 rfl ?_
    refine x_pick (ls' := [(0, vR 0), (1, vA x1), (2, vA x2), (3, vP (some x3)), (4, vI x4), (5, vI x5), (6, vI (x6 + 1)), (7, vL x7), (9, vI (x9 + 1))]) [2, 3, 4, 5, 6, 7, 1, 8, 0] rfl ?_
    exact h
  · replace h := h.2 c1261
    refine x_aload_n d_Cl_lists_274 rfl (?_ : WD _ _ 275 _ _ _ _ _ _)
    refine x_iload d_Cl_lists_275 rfl (?_ : WD _ _ 277 _ _ _ _ _ _)
    refine x_iload d_Cl_lists_277 rfl (?_ : WD _ _ 279 _ _ _ _ _ _)
    refine x_callC (ν := M_Cs_line) (k := 0) [vI x6, vI x12] ok_M_Cs_line okv_M_Cs_line (by decide) rfl rfl rfl (qm_9 (i := 231) rfl rfl) np_M_Cs_line rfl ⟨Nat.le_of_ble_eq_true rfl, Nat.le_of_ble_eq_true rfl⟩ (Nat.le_of_ble_eq_true rfl) rfl d_Cl_lists_279 (CI.kd h (fun v1264 σ1265 h => (?_ : WD _ _ 282 _ _ _ _ _ _)))
    refine x_iload d_Cl_lists_282 rfl (?_ : WD _ _ 284 _ _ _ _ _ _)
    refine x_aloadP (some a1256) d_Cl_lists_284 rfl (?_ : WD _ _ 286 _ _ _ _ _ _)
    refine x_callV (ν := M_Sg_length) [] ok_M_Sg_length okv_M_Sg_length (k1258.q gw1259.k) rfl rfl (qm_5 (i := 115) rfl rfl) np_M_Sg_length rfl ⟨Nat.le_of_ble_eq_true rfl, Nat.le_of_ble_eq_true rfl⟩ (Nat.le_of_ble_eq_true rfl) rfl d_Cl_lists_286 (Nat.zero_le _) (Nat.zero_le _) (DI.k h (fun v1267 w1266 gw1266 h => (?_ : WD _ _ 289 _ _ _ _ _ _)))
    refine x_icmp_ge 302 d_Cl_lists_289 rfl ⟨fun c1268 => (?_ : WD _ _ 302 _ _ _ _ _ _), fun c1268 => (?_ : WD _ _ 292 _ _ _ _ _ _)⟩
    · replace h := h.1 c1268
      refine x_iconst d_Cl_lists_302 (by decide) (?_ : WD _ _ 303 _ _ _ _ _ _)
      refine x_icmp_eq 308 d_Cl_lists_303 rfl ⟨fun c1269 => (?_ : WD _ _ 308 _ _ _ _ _ _), fun c1269 => (?_ : WD _ _ 306 _ _ _ _ _ _)⟩
      · replace h := h.1 c1269
        obtain ⟨h1270, h⟩ := h
        refine x_iinc (ls' := [(12, vI (x12 + 1)), (0, vR 0), (1, vA x1), (2, vA x2), (3, vA x3), (4, vI x4), (5, vI x5), (6, vI x6), (7, vL x7), (9, vI x9), (11, vA a1256)]) d_Cl_lists_308 rfl h1270 (by decide) rfl (?_ : WD _ _ 311 _ _ _ _ _ _)
        refine x_goto 264 d_Cl_lists_311 rfl ?_
        refine x_pick (ls' := [(0, vR 0), (1, vA x1), (2, vA x2), (3, vA x3), (4, vI x4), (5, vI x5), (6, vI x6), (7, vL x7), (9, vI x9), (11, vP (some a1256)), (12, vI (x12 + 1))]) [1, 2, 3, 4, 5, 6, 7, 8, 9, 10, 0] rfl ?_
        exact h
      · replace h := h.2 c1269
        refine x_iconst d_Cl_lists_306 (by decide) (?_ : WD _ _ 307 _ _ _ _ _ _)
        exact x_zreturn rfl d_Cl_lists_307 (by decide) h
    · replace h := h.2 c1268
      refine x_aloadP (some a1256) d_Cl_lists_292 rfl (?_ : WD _ _ 294 _ _ _ _ _ _)
      refine x_iload d_Cl_lists_294 rfl (?_ : WD _ _ 296 _ _ _ _ _ _)
      refine x_callV (ν := M_Sg_charAt) [vI x12] ok_M_Sg_charAt okv_M_Sg_charAt ((k1258.q gw1259.k).q gw1266.k) rfl rfl (qm_5 (i := 116) rfl rfl) np_M_Sg_charAt rfl ⟨Nat.le_of_ble_eq_true rfl, Nat.le_of_ble_eq_true rfl⟩ (Nat.le_of_ble_eq_true rfl) rfl d_Cl_lists_296 (Nat.zero_le _) (Nat.zero_le _) (DI.k h (fun v1272 w1271 gw1271 h => (?_ : WD _ _ 299 _ _ _ _ _ _)))
      refine x_goto 303 d_Cl_lists_299 rfl ?_
      refine x_icmp_eq 308 d_Cl_lists_303 rfl ⟨fun c1273 => (?_ : WD _ _ 308 _ _ _ _ _ _), fun c1273 => (?_ : WD _ _ 306 _ _ _ _ _ _)⟩
      · replace h := h.1 c1273
        obtain ⟨h1274, h⟩ := h
        refine x_iinc (ls' := [(12, vI (x12 + 1)), (0, vR 0), (1, vA x1), (2, vA x2), (3, vA x3), (4, vI x4), (5, vI x5), (6, vI x6), (7, vL x7), (9, vI x9), (11, vA a1256)]) d_Cl_lists_308 rfl h1274 (by decide) rfl (?_ : WD _ _ 311 _ _ _ _ _ _)
        refine x_goto 264 d_Cl_lists_311 rfl ?_
        refine x_pick (ls' := [(0, vR 0), (1, vA x1), (2, vA x2), (3, vA x3), (4, vI x4), (5, vI x5), (6, vI x6), (7, vL x7), (9, vI x9), (11, vP (some a1256)), (12, vI (x12 + 1))]) [1, 2, 3, 4, 5, 6, 7, 8, 9, 10, 0] rfl ?_
        exact h
      · replace h := h.2 c1273
        refine x_iconst d_Cl_lists_306 (by decide) (?_ : WD _ _ 307 _ _ _ _ _ _)
        exact x_zreturn rfl d_Cl_lists_307 (by decide) h
set_option maxRecDepth 20000 in
theorem e_Cl_makes {G : Gq} {K : Int → Wd → Prop} {w : Wd} {mc ms : Nat} (x1 : Nat) (x2 : Nat) (h : (Is G w x1 (kO 11)) ∧ ∃ a2 : Nat, (wR w x1 1) = some a2 ∧ ((Is G w a2 (kO 14)) ∧ DI G M_Al_size [vA a2] w 0 0 (fun v6 w5 => (Is G w5 x2 (kO 14)) ∧ DI G M_Al_size [vA x2] w5 0 0 (fun v9 w8 => CI M_Cs_lacking [vR 0, vI (-1)] (wS w8) (fun v10 σ11 => (¬ v6 = 0 → ∃ c13 s14 : Nat, c13 ≤ mc ∧ s14 ≤ ms ∧ (DI G M_Bo_projected [vA x1, vA x2, vI v6, vI 1] (uS w8 σ11) c13 s14 (fun v18 w17 => ∃ c19 s20 : Nat, c19 ≤ (mc - c13) ∧ s20 ≤ (ms - s14) ∧ (DI G M_Bo_projected [vA x1, vA x2, vI v6, vI (-1)] w17 c19 s20 (fun v24 w23 => ∃ c25 s26 : Nat, c25 ≤ ((mc - c13) - c19) ∧ s26 ≤ ((ms - s14) - s20) ∧ (DI G M_Bo_known [vA x1, vI 1] w23 c25 s26 (fun v30 w29 => ∃ c31 s32 : Nat, c31 ≤ (((mc - c13) - c19) - c25) ∧ s32 ≤ (((ms - s14) - s20) - s26) ∧ (DI G M_Bo_known [vA x1, vI (-1)] w29 c31 s32 (fun v36 w35 => ∃ c37 s38 : Nat, c37 ≤ ((((mc - c13) - c19) - c25) - c31) ∧ s38 ≤ ((((ms - s14) - s20) - s26) - s32) ∧ (DI G M_Bo_bound [vA x1, vI 1, vI v6, vI 0] w35 c37 s38 (fun v42 w41 => CI M_Cs_projected [vR 0, vI 0] (wS w41) (fun v43 σ44 => (¬ v43 = v18 → K 0 (uS w41 σ44)) ∧ (v43 = v18 → CI M_Cs_projected [vR 0, vI 1] (wS (uS w41 σ44)) (fun v46 σ47 => (¬ v46 = v24 → K 0 (uS (uS w41 σ44) σ47)) ∧ (v46 = v24 → CI M_Cs_projected [vR 0, vI 2] (wS (uS (uS w41 σ44) σ47)) (fun v49 σ50 => (¬ v49 = v30 → K 0 (uS (uS (uS w41 σ44) σ47) σ50)) ∧ (v49 = v30 → CI M_Cs_projected [vR 0, vI 3] (wS (uS (uS (uS w41 σ44) σ47) σ50)) (fun v52 σ53 => (¬ v52 = v36 → K 0 (uS (uS (uS (uS w41 σ44) σ47) σ50) σ53)) ∧ (v52 = v36 → CI M_Cs_projected [vR 0, vI 4] (wS (uS (uS (uS (uS w41 σ44) σ47) σ50) σ53)) (fun v55 σ56 => (inR (v18 + v30)) ∧ (inR ((v18 + v30) - v24)) ∧ (inR (((v18 + v30) - v24) - v36)) ∧ (¬ v55 = (((v18 + v30) - v24) - v36) → K 0 (uS (uS (uS (uS (uS w41 σ44) σ47) σ50) σ53) σ56)) ∧ (v55 = (((v18 + v30) - v24) - v36) → CI M_Cs_projected [vR 0, vI 5] (wS (uS (uS (uS (uS (uS w41 σ44) σ47) σ50) σ53) σ56)) (fun v61 σ62 => (v61 = (-10000000) → CI M_Cs_bound [vR 0, vI 0] (wS (uS (uS (uS (uS (uS (uS w41 σ44) σ47) σ50) σ53) σ56) σ62)) (fun v64 σ65 => ∃ c66 s67 : Nat, c66 ≤ (((((mc - c13) - c19) - c25) - c31) - c37) ∧ s67 ≤ (((((ms - s14) - s20) - s26) - s32) - s38) ∧ (DI G M_Bo_basic [vA x1, vI v9] (uS (uS (uS (uS (uS (uS (uS w41 σ44) σ47) σ50) σ53) σ56) σ62) σ65) c66 s67 (fun v71 w70 => (¬ v64 = v71 → K 0 w70) ∧ (v64 = v71 → CI M_Cs_bound [vR 0, vI 1] (wS w70) (fun v73 σ74 => ∃ c75 s76 : Nat, c75 ≤ ((((((mc - c13) - c19) - c25) - c31) - c37) - c66) ∧ s76 ≤ ((((((ms - s14) - s20) - s26) - s32) - s38) - s67) ∧ (DI G M_Bo_rises [vA x1, vA x2, vI 1, vI v9] (uS w70 σ74) c75 s76 (fun v80 w79 => (¬ v73 = v80 → K 0 w79) ∧ (v73 = v80 → CI M_Cs_bound [vR 0, vI 2] (wS w79) (fun v82 σ83 => (¬ v82 = v30 → K 0 (uS w79 σ83)) ∧ (v82 = v30 → CI M_Cs_bound [vR 0, vI 3] (wS (uS w79 σ83)) (fun v85 σ86 => (¬ v85 = v42 → K 0 (uS (uS w79 σ83) σ86)) ∧ (v85 = v42 → CI M_Cs_bound [vR 0, vI 4] (wS (uS (uS w79 σ83) σ86)) (fun v88 σ89 => ∃ a90 : Nat, (wR w79 x1 2) = some a90 ∧ (∃ n92 : Nat, ((Is G (uS (uS (uS w79 σ83) σ86) σ89) a90 (kA 0 n92)) ∧ (0 < (n92 : Int)) ∧ (inR ((wI w79 a90 0) - v42)) ∧ (¬ v88 = ((wI w79 a90 0) - v42) → K 0 (uS (uS (uS w79 σ83) σ86) σ89)) ∧ (v88 = ((wI w79 a90 0) - v42) → CI M_Cs_bound [vR 0, vI 5] (wS (uS (uS (uS w79 σ83) σ86) σ89)) (fun v97 σ98 => (v97 = (-10000000) → CI M_Cs_below [vR 0, vI 0] (wS (uS (uS (uS (uS w79 σ83) σ86) σ89) σ98)) (fun v100 σ101 => ∃ c102 s103 : Nat, c102 ≤ (((((((mc - c13) - c19) - c25) - c31) - c37) - c66) - c75) ∧ s103 ≤ (((((((ms - s14) - s20) - s26) - s32) - s38) - s67) - s76) ∧ (DI G M_Bo_basic [vA x1, vI v9] (uS (uS (uS (uS (uS w79 σ83) σ86) σ89) σ98) σ101) c102 s103 (fun v107 w106 => (¬ v100 = v107 → K 0 w106) ∧ (v100 = v107 → CI M_Cs_below [vR 0, vI 1] (wS w106) (fun v109 σ110 => ∃ c111 s112 : Nat, c111 ≤ ((((((((mc - c13) - c19) - c25) - c31) - c37) - c66) - c75) - c102) ∧ s112 ≤ ((((((((ms - s14) - s20) - s26) - s32) - s38) - s67) - s76) - s103) ∧ (DI G M_Bo_rises [vA x1, vA x2, vI (-1), vI v9] (uS w106 σ110) c111 s112 (fun v116 w115 => (¬ v109 = v116 → K 0 w115) ∧ (v109 = v116 → CI M_Cs_below [vR 0, vI 2] (wS w115) (fun v118 σ119 => (¬ v118 = v36 → K 0 (uS w115 σ119)) ∧ (v118 = v36 → CI M_Cs_below [vR 0, vI 3] (wS (uS w115 σ119)) (fun v121 σ122 => ∃ c123 s124 : Nat, c123 ≤ (((((((((mc - c13) - c19) - c25) - c31) - c37) - c66) - c75) - c102) - c111) ∧ s124 ≤ (((((((((ms - s14) - s20) - s26) - s32) - s38) - s67) - s76) - s103) - s112) ∧ (DI G M_Bo_bound [vA x1, vI (-1), vI v6, vI 0] (uS (uS w115 σ119) σ122) c123 s124 (fun v128 w127 => (¬ v121 = v128 → K 0 w127) ∧ (v121 = v128 → CI M_Cs_below [vR 0, vI 4] (wS w127) (fun v130 σ131 => (v130 = (-10000000) → ∃ c133 s134 : Nat, c133 ≤ ((((((((((mc - c13) - c19) - c25) - c31) - c37) - c66) - c75) - c102) - c111) - c123) ∧ s134 ≤ ((((((((((ms - s14) - s20) - s26) - s32) - s38) - s67) - s76) - s103) - s112) - s124) ∧ (DP G M_Bo_ranked [vA x1, vA x2, vI 1] (uS w127 σ131) c133 s134 (fun v138 w137 => ∃ c139 s140 : Nat, c139 ≤ (((((((((((mc - c13) - c19) - c25) - c31) - c37) - c66) - c75) - c102) - c111) - c123) - c133) ∧ s140 ≤ (((((((((((ms - s14) - s20) - s26) - s32) - s38) - s67) - s76) - s103) - s112) - s124) - s134) ∧ (DP G M_Bo_owners [vA x1] w137 c139 s140 (fun v144 w143 => ∃ a145 : Nat, v144 = some a145 ∧ (∃ n147 : Nat, ((Is G w143 a145 (kA 0 n147)) ∧ (inR (n147 : Int)) ∧ WD G M_Cl_makes 355 [(0, vR 0), (1, vA x1), (2, vA x2), (4, vI v9), (5, vI v10), (10, vI v42), (11, vP v138), (12, vI (n147 : Int)), (13, vI 0)] [] w143 ((((((((((((mc - c13) - c19) - c25) - c31) - c37) - c66) - c75) - c102) - c111) - c123) - c133) - c139) ((((((((((((ms - s14) - s20) - s26) - s32) - s38) - s67) - s76) - s103) - s112) - s124) - s134) - s140) (yI K)))))))) ∧ (¬ v130 = (-10000000) → K 0 (uS w127 σ131)))))))))))))))))) ∧ (¬ v97 = (-10000000) → K 0 (uS (uS (uS (uS w79 σ83) σ86) σ89) σ98)))))))))))))))))))) ∧ (¬ v61 = (-10000000) → K 0 (uS (uS (uS (uS (uS (uS w41 σ44) σ47) σ50) σ53) σ56) σ62)))))))))))))))))))))))) ∧ (v6 = 0 → CI M_Cs_projected [vR 0, vI 0] (wS (uS w8 σ11)) (fun v150 σ151 => (¬ v150 = (-10000000) → K 0 (uS (uS w8 σ11) σ151)) ∧ (v150 = (-10000000) → CI M_Cs_bound [vR 0, vI 3] (wS (uS (uS w8 σ11) σ151)) (fun v153 σ154 => (¬ v153 = (-10000000) → K 0 (uS (uS (uS w8 σ11) σ151) σ154)) ∧ (v153 = (-10000000) → CI M_Cs_below [vR 0, vI 3] (wS (uS (uS (uS w8 σ11) σ151) σ154)) (fun v156 σ157 => (¬ v156 = (-10000000) → K 0 (uS (uS (uS (uS w8 σ11) σ151) σ154) σ157)) ∧ (v156 = (-10000000) → CI M_Cs_taint [vR 0, vI 0, vI 0] (wS (uS (uS (uS (uS w8 σ11) σ151) σ154) σ157)) (fun v159 σ160 => (¬ v159 = (-2) → K 0 (uS (uS (uS (uS (uS w8 σ11) σ151) σ154) σ157) σ160)) ∧ (v159 = (-2) → CI M_Cs_judged [vR 0] (wS (uS (uS (uS (uS (uS w8 σ11) σ151) σ154) σ157) σ160)) (fun v162 σ163 => (¬ v162 = 0 → K 0 (uS (uS (uS (uS (uS (uS w8 σ11) σ151) σ154) σ157) σ160) σ163)) ∧ (v162 = 0 → K 1 (uS (uS (uS (uS (uS (uS w8 σ11) σ151) σ154) σ157) σ160) σ163))))))))))))))))) : DI G M_Cl_makes [vR 0, vA x1, vA x2] w mc ms K := by
  refine DC.of ok_M_Cl_makes (ls := [(0, vR 0), (1, vA x1), (2, vA x2)]) rfl (Nat.le_of_ble_eq_true rfl) ?_
  refine x_aload_nP (some x1) d_Cl_makes_0 rfl (?_ : WD _ _ 1 _ _ _ _ _ _)
  obtain ⟨k1, h⟩ := h
  refine x_getP (ref := "CoinSamplerLaw$Books") (j := 1) 1 k1 clk_11 (by decide) (qm_2 (i := 158) rfl rfl) (Or.inl rfl) rfl rfl d_Cl_makes_1 (y := (wR w x1 1)) rfl (?_ : WD _ _ 4 _ _ _ _ _ _)
  obtain ⟨a2, e3, h⟩ := h
  rw [e3]
  obtain ⟨k4, h⟩ := h
  refine x_callV (ν := M_Al_size) [] ok_M_Al_size okv_M_Al_size k4 rfl rfl (qm_3 (i := 178) rfl rfl) np_M_Al_size rfl ⟨Nat.le_of_ble_eq_true rfl, Nat.le_of_ble_eq_true rfl⟩ (Nat.le_of_ble_eq_true rfl) rfl d_Cl_makes_4 (Nat.zero_le _) (Nat.zero_le _) (DI.k h (fun v6 w5 gw5 h => (?_ : WD _ _ 7 _ _ _ _ _ _)))
  refine x_istore_n (ls' := [(3, vI v6), (0, vR 0), (1, vA x1), (2, vA x2)]) d_Cl_makes_7 rfl (by decide) rfl (?_ : WD _ _ 8 _ _ _ _ _ _)
  refine x_aload_nP (some x2) d_Cl_makes_8 rfl (?_ : WD _ _ 9 _ _ _ _ _ _)
  obtain ⟨k7, h⟩ := h
  refine x_callV (ν := M_Al_size) [] ok_M_Al_size okv_M_Al_size k7 rfl rfl (qm_3 (i := 178) rfl rfl) np_M_Al_size rfl ⟨Nat.le_of_ble_eq_true rfl, Nat.le_of_ble_eq_true rfl⟩ (Nat.le_of_ble_eq_true rfl) rfl d_Cl_makes_9 (Nat.zero_le _) (Nat.zero_le _) (DI.k h (fun v9 w8 gw8 h => (?_ : WD _ _ 12 _ _ _ _ _ _)))
  refine x_istore (ls' := [(4, vI v9), (3, vI v6), (0, vR 0), (1, vA x1), (2, vA x2)]) d_Cl_makes_12 (by decide) rfl (?_ : WD _ _ 14 _ _ _ _ _ _)
  refine x_aload_n d_Cl_makes_14 rfl (?_ : WD _ _ 15 _ _ _ _ _ _)
  refine x_iconst d_Cl_makes_15 (by decide) (?_ : WD _ _ 16 _ _ _ _ _ _)
  refine x_callC (ν := M_Cs_lacking) (k := 0) [vI (-1)] ok_M_Cs_lacking okv_M_Cs_lacking (by decide) rfl rfl rfl (qm_9 (i := 218) rfl rfl) np_M_Cs_lacking rfl ⟨Nat.le_of_ble_eq_true rfl, Nat.le_of_ble_eq_true rfl⟩ (Nat.le_of_ble_eq_true rfl) rfl d_Cl_makes_16 (CI.kd h (fun v10 σ11 h => (?_ : WD _ _ 19 _ _ _ _ _ _)))
  refine x_istore (ls' := [(5, vI v10), (4, vI v9), (3, vI v6), (0, vR 0), (1, vA x1), (2, vA x2)]) d_Cl_makes_19 (by decide) rfl (?_ : WD _ _ 21 _ _ _ _ _ _)
  refine x_iload_n d_Cl_makes_21 rfl (?_ : WD _ _ 22 _ _ _ _ _ _)
  refine x_if_ne 79 d_Cl_makes_22 rfl ⟨fun c12 => (?_ : WD _ _ 79 _ _ _ _ _ _), fun c12 => (?_ : WD _ _ 25 _ _ _ _ _ _)⟩
  · replace h := h.1 c12
    refine x_aload_nP (some x1) d_Cl_makes_79 rfl (?_ : WD _ _ 80 _ _ _ _ _ _)
    refine x_aload_nP (some x2) d_Cl_makes_80 rfl (?_ : WD _ _ 81 _ _ _ _ _ _)
    refine x_iload_n d_Cl_makes_81 rfl (?_ : WD _ _ 82 _ _ _ _ _ _)
    refine x_iconst d_Cl_makes_82 (by decide) (?_ : WD _ _ 83 _ _ _ _ _ _)
    obtain ⟨c13, s14, h15, h16, h⟩ := h
    refine x_callV (ν := M_Bo_projected) [vA x2, vI v6, vI 1] ok_M_Bo_projected okv_M_Bo_projected ((k1.q gw5.k).q gw8.k) rfl rfl (qm_10 (i := 107) rfl rfl) np_M_Bo_projected rfl ⟨Nat.le_of_ble_eq_true rfl, Nat.le_of_ble_eq_true rfl⟩ (Nat.le_of_ble_eq_true rfl) rfl d_Cl_makes_83 h15 h16 (DI.k h (fun v18 w17 gw17 h => (?_ : WD _ _ 86 _ _ _ _ _ _)))
    refine x_istore (ls' := [(6, vI v18), (5, vI v10), (4, vI v9), (3, vI v6), (0, vR 0), (1, vA x1), (2, vA x2)]) d_Cl_makes_86 (by decide) rfl (?_ : WD _ _ 88 _ _ _ _ _ _)
    refine x_aload_nP (some x1) d_Cl_makes_88 rfl (?_ : WD _ _ 89 _ _ _ _ _ _)
    refine x_aload_nP (some x2) d_Cl_makes_89 rfl (?_ : WD _ _ 90 _ _ _ _ _ _)
    refine x_iload_n d_Cl_makes_90 rfl (?_ : WD _ _ 91 _ _ _ _ _ _)
    refine x_iconst d_Cl_makes_91 (by decide) (?_ : WD _ _ 92 _ _ _ _ _ _)
    obtain ⟨c19, s20, h21, h22, h⟩ := h
    refine x_callV (ν := M_Bo_projected) [vA x2, vI v6, vI (-1)] ok_M_Bo_projected okv_M_Bo_projected (((k1.q gw5.k).q gw8.k).q gw17.k) rfl rfl (qm_10 (i := 107) rfl rfl) np_M_Bo_projected rfl ⟨Nat.le_of_ble_eq_true rfl, Nat.le_of_ble_eq_true rfl⟩ (Nat.le_of_ble_eq_true rfl) rfl d_Cl_makes_92 h21 h22 (DI.k h (fun v24 w23 gw23 h => (?_ : WD _ _ 95 _ _ _ _ _ _)))
    refine x_istore (ls' := [(7, vI v24), (6, vI v18), (5, vI v10), (4, vI v9), (3, vI v6), (0, vR 0), (1, vA x1), (2, vA x2)]) d_Cl_makes_95 (by decide) rfl (?_ : WD _ _ 97 _ _ _ _ _ _)
    refine x_aload_nP (some x1) d_Cl_makes_97 rfl (?_ : WD _ _ 98 _ _ _ _ _ _)
    refine x_iconst d_Cl_makes_98 (by decide) (?_ : WD _ _ 99 _ _ _ _ _ _)
    obtain ⟨c25, s26, h27, h28, h⟩ := h
    refine x_callV (ν := M_Bo_known) [vI 1] ok_M_Bo_known okv_M_Bo_known ((((k1.q gw5.k).q gw8.k).q gw17.k).q gw23.k) rfl rfl (qm_10 (i := 113) rfl rfl) np_M_Bo_known rfl ⟨Nat.le_of_ble_eq_true rfl, Nat.le_of_ble_eq_true rfl⟩ (Nat.le_of_ble_eq_true rfl) rfl d_Cl_makes_99 h27 h28 (DI.k h (fun v30 w29 gw29 h => (?_ : WD _ _ 102 _ _ _ _ _ _)))
    refine x_istore (ls' := [(8, vI v30), (7, vI v24), (6, vI v18), (5, vI v10), (4, vI v9), (3, vI v6), (0, vR 0), (1, vA x1), (2, vA x2)]) d_Cl_makes_102 (by decide) rfl (?_ : WD _ _ 104 _ _ _ _ _ _)
    refine x_aload_nP (some x1) d_Cl_makes_104 rfl (?_ : WD _ _ 105 _ _ _ _ _ _)
    refine x_iconst d_Cl_makes_105 (by decide) (?_ : WD _ _ 106 _ _ _ _ _ _)
    obtain ⟨c31, s32, h33, h34, h⟩ := h
    refine x_callV (ν := M_Bo_known) [vI (-1)] ok_M_Bo_known okv_M_Bo_known (((((k1.q gw5.k).q gw8.k).q gw17.k).q gw23.k).q gw29.k) rfl rfl (qm_10 (i := 113) rfl rfl) np_M_Bo_known rfl ⟨Nat.le_of_ble_eq_true rfl, Nat.le_of_ble_eq_true rfl⟩ (Nat.le_of_ble_eq_true rfl) rfl d_Cl_makes_106 h33 h34 (DI.k h (fun v36 w35 gw35 h => (?_ : WD _ _ 109 _ _ _ _ _ _)))
    refine x_istore (ls' := [(9, vI v36), (8, vI v30), (7, vI v24), (6, vI v18), (5, vI v10), (4, vI v9), (3, vI v6), (0, vR 0), (1, vA x1), (2, vA x2)]) d_Cl_makes_109 (by decide) rfl (?_ : WD _ _ 111 _ _ _ _ _ _)
    refine x_aload_nP (some x1) d_Cl_makes_111 rfl (?_ : WD _ _ 112 _ _ _ _ _ _)
    refine x_iconst d_Cl_makes_112 (by decide) (?_ : WD _ _ 113 _ _ _ _ _ _)
    refine x_iload_n d_Cl_makes_113 rfl (?_ : WD _ _ 114 _ _ _ _ _ _)
    refine x_iconst d_Cl_makes_114 (by decide) (?_ : WD _ _ 115 _ _ _ _ _ _)
    obtain ⟨c37, s38, h39, h40, h⟩ := h
    refine x_callV (ν := M_Bo_bound) [vI 1, vI v6, vI 0] ok_M_Bo_bound okv_M_Bo_bound ((((((k1.q gw5.k).q gw8.k).q gw17.k).q gw23.k).q gw29.k).q gw35.k) rfl rfl (qm_10 (i := 118) rfl rfl) np_M_Bo_bound rfl ⟨Nat.le_of_ble_eq_true rfl, Nat.le_of_ble_eq_true rfl⟩ (Nat.le_of_ble_eq_true rfl) rfl d_Cl_makes_115 h39 h40 (DI.k h (fun v42 w41 gw41 h => (?_ : WD _ _ 118 _ _ _ _ _ _)))
    refine x_istore (ls' := [(10, vI v42), (9, vI v36), (8, vI v30), (7, vI v24), (6, vI v18), (5, vI v10), (4, vI v9), (3, vI v6), (0, vR 0), (1, vA x1), (2, vA x2)]) d_Cl_makes_118 (by decide) rfl (?_ : WD _ _ 120 _ _ _ _ _ _)
    refine x_aload_n d_Cl_makes_120 rfl (?_ : WD _ _ 121 _ _ _ _ _ _)
    refine x_iconst d_Cl_makes_121 (by decide) (?_ : WD _ _ 122 _ _ _ _ _ _)
    refine x_callC (ν := M_Cs_projected) (k := 0) [vI 0] ok_M_Cs_projected okv_M_Cs_projected (by decide) rfl rfl rfl (qm_10 (i := 21) rfl rfl) np_M_Cs_projected rfl ⟨Nat.le_of_ble_eq_true rfl, Nat.le_of_ble_eq_true rfl⟩ (Nat.le_of_ble_eq_true rfl) rfl d_Cl_makes_122 (CI.kd h (fun v43 σ44 h => (?_ : WD _ _ 125 _ _ _ _ _ _)))
    refine x_iload d_Cl_makes_125 rfl (?_ : WD _ _ 127 _ _ _ _ _ _)
    refine x_icmp_ne 189 d_Cl_makes_127 rfl ⟨fun c45 => (?_ : WD _ _ 189 _ _ _ _ _ _), fun c45 => (?_ : WD _ _ 130 _ _ _ _ _ _)⟩
    · replace h := h.1 c45
      refine x_iconst d_Cl_makes_189 (by decide) (?_ : WD _ _ 190 _ _ _ _ _ _)
      exact x_zreturn rfl d_Cl_makes_190 (by decide) h
    · replace h := h.2 c45
      refine x_aload_n d_Cl_makes_130 rfl (?_ : WD _ _ 131 _ _ _ _ _ _)
      refine x_iconst d_Cl_makes_131 (by decide) (?_ : WD _ _ 132 _ _ _ _ _ _)
      refine x_callC (ν := M_Cs_projected) (k := 0) [vI 1] ok_M_Cs_projected okv_M_Cs_projected (by decide) rfl rfl rfl (qm_10 (i := 21) rfl rfl) np_M_Cs_projected rfl ⟨Nat.le_of_ble_eq_true rfl, Nat.le_of_ble_eq_true rfl⟩ (Nat.le_of_ble_eq_true rfl) rfl d_Cl_makes_132 (CI.kd h (fun v46 σ47 h => (?_ : WD _ _ 135 _ _ _ _ _ _)))
      refine x_iload d_Cl_makes_135 rfl (?_ : WD _ _ 137 _ _ _ _ _ _)
      refine x_icmp_ne 189 d_Cl_makes_137 rfl ⟨fun c48 => (?_ : WD _ _ 189 _ _ _ _ _ _), fun c48 => (?_ : WD _ _ 140 _ _ _ _ _ _)⟩
      · replace h := h.1 c48
        refine x_iconst d_Cl_makes_189 (by decide) (?_ : WD _ _ 190 _ _ _ _ _ _)
        exact x_zreturn rfl d_Cl_makes_190 (by decide) h
      · replace h := h.2 c48
        refine x_aload_n d_Cl_makes_140 rfl (?_ : WD _ _ 141 _ _ _ _ _ _)
        refine x_iconst d_Cl_makes_141 (by decide) (?_ : WD _ _ 142 _ _ _ _ _ _)
        refine x_callC (ν := M_Cs_projected) (k := 0) [vI 2] ok_M_Cs_projected okv_M_Cs_projected (by decide) rfl rfl rfl (qm_10 (i := 21) rfl rfl) np_M_Cs_projected rfl ⟨Nat.le_of_ble_eq_true rfl, Nat.le_of_ble_eq_true rfl⟩ (Nat.le_of_ble_eq_true rfl) rfl d_Cl_makes_142 (CI.kd h (fun v49 σ50 h => (?_ : WD _ _ 145 _ _ _ _ _ _)))
        refine x_iload d_Cl_makes_145 rfl (?_ : WD _ _ 147 _ _ _ _ _ _)
        refine x_icmp_ne 189 d_Cl_makes_147 rfl ⟨fun c51 => (?_ : WD _ _ 189 _ _ _ _ _ _), fun c51 => (?_ : WD _ _ 150 _ _ _ _ _ _)⟩
        · replace h := h.1 c51
          refine x_iconst d_Cl_makes_189 (by decide) (?_ : WD _ _ 190 _ _ _ _ _ _)
          exact x_zreturn rfl d_Cl_makes_190 (by decide) h
        · replace h := h.2 c51
          refine x_aload_n d_Cl_makes_150 rfl (?_ : WD _ _ 151 _ _ _ _ _ _)
          refine x_iconst d_Cl_makes_151 (by decide) (?_ : WD _ _ 152 _ _ _ _ _ _)
          refine x_callC (ν := M_Cs_projected) (k := 0) [vI 3] ok_M_Cs_projected okv_M_Cs_projected (by decide) rfl rfl rfl (qm_10 (i := 21) rfl rfl) np_M_Cs_projected rfl ⟨Nat.le_of_ble_eq_true rfl, Nat.le_of_ble_eq_true rfl⟩ (Nat.le_of_ble_eq_true rfl) rfl d_Cl_makes_152 (CI.kd h (fun v52 σ53 h => (?_ : WD _ _ 155 _ _ _ _ _ _)))
          refine x_iload d_Cl_makes_155 rfl (?_ : WD _ _ 157 _ _ _ _ _ _)
          refine x_icmp_ne 189 d_Cl_makes_157 rfl ⟨fun c54 => (?_ : WD _ _ 189 _ _ _ _ _ _), fun c54 => (?_ : WD _ _ 160 _ _ _ _ _ _)⟩
          · replace h := h.1 c54
            refine x_iconst d_Cl_makes_189 (by decide) (?_ : WD _ _ 190 _ _ _ _ _ _)
            exact x_zreturn rfl d_Cl_makes_190 (by decide) h
          · replace h := h.2 c54
            refine x_aload_n d_Cl_makes_160 rfl (?_ : WD _ _ 161 _ _ _ _ _ _)
            refine x_iconst d_Cl_makes_161 (by decide) (?_ : WD _ _ 162 _ _ _ _ _ _)
            refine x_callC (ν := M_Cs_projected) (k := 0) [vI 4] ok_M_Cs_projected okv_M_Cs_projected (by decide) rfl rfl rfl (qm_10 (i := 21) rfl rfl) np_M_Cs_projected rfl ⟨Nat.le_of_ble_eq_true rfl, Nat.le_of_ble_eq_true rfl⟩ (Nat.le_of_ble_eq_true rfl) rfl d_Cl_makes_162 (CI.kd h (fun v55 σ56 h => (?_ : WD _ _ 165 _ _ _ _ _ _)))
            refine x_iload d_Cl_makes_165 rfl (?_ : WD _ _ 167 _ _ _ _ _ _)
            refine x_iload d_Cl_makes_167 rfl (?_ : WD _ _ 169 _ _ _ _ _ _)
            obtain ⟨h57, h⟩ := h
            refine x_iadd d_Cl_makes_169 h57 (?_ : WD _ _ 170 _ _ _ _ _ _)
            refine x_iload d_Cl_makes_170 rfl (?_ : WD _ _ 172 _ _ _ _ _ _)
            obtain ⟨h58, h⟩ := h
            refine x_isub d_Cl_makes_172 h58 (?_ : WD _ _ 173 _ _ _ _ _ _)
            refine x_iload d_Cl_makes_173 rfl (?_ : WD _ _ 175 _ _ _ _ _ _)
            obtain ⟨h59, h⟩ := h
            refine x_isub d_Cl_makes_175 h59 (?_ : WD _ _ 176 _ _ _ _ _ _)
            refine x_icmp_ne 189 d_Cl_makes_176 rfl ⟨fun c60 => (?_ : WD _ _ 189 _ _ _ _ _ _), fun c60 => (?_ : WD _ _ 179 _ _ _ _ _ _)⟩
            · replace h := h.1 c60
              refine x_iconst d_Cl_makes_189 (by decide) (?_ : WD _ _ 190 _ _ _ _ _ _)
              exact x_zreturn rfl d_Cl_makes_190 (by decide) h
            · replace h := h.2 c60
              refine x_aload_n d_Cl_makes_179 rfl (?_ : WD _ _ 180 _ _ _ _ _ _)
              refine x_iconst d_Cl_makes_180 (by decide) (?_ : WD _ _ 181 _ _ _ _ _ _)
              refine x_callC (ν := M_Cs_projected) (k := 0) [vI 5] ok_M_Cs_projected okv_M_Cs_projected (by decide) rfl rfl rfl (qm_10 (i := 21) rfl rfl) np_M_Cs_projected rfl ⟨Nat.le_of_ble_eq_true rfl, Nat.le_of_ble_eq_true rfl⟩ (Nat.le_of_ble_eq_true rfl) rfl d_Cl_makes_181 (CI.kd h (fun v61 σ62 h => (?_ : WD _ _ 184 _ _ _ _ _ _)))
              refine x_ldc (-10000000) d_Cl_makes_184 (qm_5 (i := 163) rfl rfl) (by decide) (by decide) (?_ : WD _ _ 186 _ _ _ _ _ _)
              refine x_icmp_eq 191 d_Cl_makes_186 rfl ⟨fun c63 => (?_ : WD _ _ 191 _ _ _ _ _ _), fun c63 => (?_ : WD _ _ 189 _ _ _ _ _ _)⟩
              · replace h := h.1 c63
                refine x_aload_n d_Cl_makes_191 rfl (?_ : WD _ _ 192 _ _ _ _ _ _)
                refine x_iconst d_Cl_makes_192 (by decide) (?_ : WD _ _ 193 _ _ _ _ _ _)
                refine x_callC (ν := M_Cs_bound) (k := 0) [vI 0] ok_M_Cs_bound okv_M_Cs_bound (by decide) rfl rfl rfl (qm_10 (i := 38) rfl rfl) np_M_Cs_bound rfl ⟨Nat.le_of_ble_eq_true rfl, Nat.le_of_ble_eq_true rfl⟩ (Nat.le_of_ble_eq_true rfl) rfl d_Cl_makes_193 (CI.kd h (fun v64 σ65 h => (?_ : WD _ _ 196 _ _ _ _ _ _)))
                refine x_aload_nP (some x1) d_Cl_makes_196 rfl (?_ : WD _ _ 197 _ _ _ _ _ _)
                refine x_iload d_Cl_makes_197 rfl (?_ : WD _ _ 199 _ _ _ _ _ _)
                obtain ⟨c66, s67, h68, h69, h⟩ := h
                refine x_callV (ν := M_Bo_basic) [vI v9] ok_M_Bo_basic okv_M_Bo_basic (((((((k1.q gw5.k).q gw8.k).q gw17.k).q gw23.k).q gw29.k).q gw35.k).q gw41.k) rfl rfl (qm_10 (i := 147) rfl rfl) np_M_Bo_basic rfl ⟨Nat.le_of_ble_eq_true rfl, Nat.le_of_ble_eq_true rfl⟩ (Nat.le_of_ble_eq_true rfl) rfl d_Cl_makes_199 h68 h69 (DI.k h (fun v71 w70 gw70 h => (?_ : WD _ _ 202 _ _ _ _ _ _)))
                refine x_icmp_ne 268 d_Cl_makes_202 rfl ⟨fun c72 => (?_ : WD _ _ 268 _ _ _ _ _ _), fun c72 => (?_ : WD _ _ 205 _ _ _ _ _ _)⟩
                · replace h := h.1 c72
                  refine x_iconst d_Cl_makes_268 (by decide) (?_ : WD _ _ 269 _ _ _ _ _ _)
                  exact x_zreturn rfl d_Cl_makes_269 (by decide) h
                · replace h := h.2 c72
                  refine x_aload_n d_Cl_makes_205 rfl (?_ : WD _ _ 206 _ _ _ _ _ _)
                  refine x_iconst d_Cl_makes_206 (by decide) (?_ : WD _ _ 207 _ _ _ _ _ _)
                  refine x_callC (ν := M_Cs_bound) (k := 0) [vI 1] ok_M_Cs_bound okv_M_Cs_bound (by decide) rfl rfl rfl (qm_10 (i := 38) rfl rfl) np_M_Cs_bound rfl ⟨Nat.le_of_ble_eq_true rfl, Nat.le_of_ble_eq_true rfl⟩ (Nat.le_of_ble_eq_true rfl) rfl d_Cl_makes_207 (CI.kd h (fun v73 σ74 h => (?_ : WD _ _ 210 _ _ _ _ _ _)))
                  refine x_aload_nP (some x1) d_Cl_makes_210 rfl (?_ : WD _ _ 211 _ _ _ _ _ _)
                  refine x_aload_nP (some x2) d_Cl_makes_211 rfl (?_ : WD _ _ 212 _ _ _ _ _ _)
                  refine x_iconst d_Cl_makes_212 (by decide) (?_ : WD _ _ 213 _ _ _ _ _ _)
                  refine x_iload d_Cl_makes_213 rfl (?_ : WD _ _ 215 _ _ _ _ _ _)
                  obtain ⟨c75, s76, h77, h78, h⟩ := h
                  refine x_callV (ν := M_Bo_rises) [vA x2, vI 1, vI v9] ok_M_Bo_rises okv_M_Bo_rises ((((((((k1.q gw5.k).q gw8.k).q gw17.k).q gw23.k).q gw29.k).q gw35.k).q gw41.k).q gw70.k) rfl rfl (qm_10 (i := 148) rfl rfl) np_M_Bo_rises rfl ⟨Nat.le_of_ble_eq_true rfl, Nat.le_of_ble_eq_true rfl⟩ (Nat.le_of_ble_eq_true rfl) rfl d_Cl_makes_215 h77 h78 (DI.k h (fun v80 w79 gw79 h => (?_ : WD _ _ 218 _ _ _ _ _ _)))
                  refine x_icmp_ne 268 d_Cl_makes_218 rfl ⟨fun c81 => (?_ : WD _ _ 268 _ _ _ _ _ _), fun c81 => (?_ : WD _ _ 221 _ _ _ _ _ _)⟩
                  · replace h := h.1 c81
                    refine x_iconst d_Cl_makes_268 (by decide) (?_ : WD _ _ 269 _ _ _ _ _ _)
                    exact x_zreturn rfl d_Cl_makes_269 (by decide) h
                  · replace h := h.2 c81
                    refine x_aload_n d_Cl_makes_221 rfl (?_ : WD _ _ 222 _ _ _ _ _ _)
                    refine x_iconst d_Cl_makes_222 (by decide) (?_ : WD _ _ 223 _ _ _ _ _ _)
                    refine x_callC (ν := M_Cs_bound) (k := 0) [vI 2] ok_M_Cs_bound okv_M_Cs_bound (by decide) rfl rfl rfl (qm_10 (i := 38) rfl rfl) np_M_Cs_bound rfl ⟨Nat.le_of_ble_eq_true rfl, Nat.le_of_ble_eq_true rfl⟩ (Nat.le_of_ble_eq_true rfl) rfl d_Cl_makes_223 (CI.kd h (fun v82 σ83 h => (?_ : WD _ _ 226 _ _ _ _ _ _)))
                    refine x_iload d_Cl_makes_226 rfl (?_ : WD _ _ 228 _ _ _ _ _ _)
                    refine x_icmp_ne 268 d_Cl_makes_228 rfl ⟨fun c84 => (?_ : WD _ _ 268 _ _ _ _ _ _), fun c84 => (?_ : WD _ _ 231 _ _ _ _ _ _)⟩
                    · replace h := h.1 c84
                      refine x_iconst d_Cl_makes_268 (by decide) (?_ : WD _ _ 269 _ _ _ _ _ _)
                      exact x_zreturn rfl d_Cl_makes_269 (by decide) h
                    · replace h := h.2 c84
                      refine x_aload_n d_Cl_makes_231 rfl (?_ : WD _ _ 232 _ _ _ _ _ _)
                      refine x_iconst d_Cl_makes_232 (by decide) (?_ : WD _ _ 233 _ _ _ _ _ _)
                      refine x_callC (ν := M_Cs_bound) (k := 0) [vI 3] ok_M_Cs_bound okv_M_Cs_bound (by decide) rfl rfl rfl (qm_10 (i := 38) rfl rfl) np_M_Cs_bound rfl ⟨Nat.le_of_ble_eq_true rfl, Nat.le_of_ble_eq_true rfl⟩ (Nat.le_of_ble_eq_true rfl) rfl d_Cl_makes_233 (CI.kd h (fun v85 σ86 h => (?_ : WD _ _ 236 _ _ _ _ _ _)))
                      refine x_iload d_Cl_makes_236 rfl (?_ : WD _ _ 238 _ _ _ _ _ _)
                      refine x_icmp_ne 268 d_Cl_makes_238 rfl ⟨fun c87 => (?_ : WD _ _ 268 _ _ _ _ _ _), fun c87 => (?_ : WD _ _ 241 _ _ _ _ _ _)⟩
                      · replace h := h.1 c87
                        refine x_iconst d_Cl_makes_268 (by decide) (?_ : WD _ _ 269 _ _ _ _ _ _)
                        exact x_zreturn rfl d_Cl_makes_269 (by decide) h
                      · replace h := h.2 c87
                        refine x_aload_n d_Cl_makes_241 rfl (?_ : WD _ _ 242 _ _ _ _ _ _)
                        refine x_iconst d_Cl_makes_242 (by decide) (?_ : WD _ _ 243 _ _ _ _ _ _)
                        refine x_callC (ν := M_Cs_bound) (k := 0) [vI 4] ok_M_Cs_bound okv_M_Cs_bound (by decide) rfl rfl rfl (qm_10 (i := 38) rfl rfl) np_M_Cs_bound rfl ⟨Nat.le_of_ble_eq_true rfl, Nat.le_of_ble_eq_true rfl⟩ (Nat.le_of_ble_eq_true rfl) rfl d_Cl_makes_243 (CI.kd h (fun v88 σ89 h => (?_ : WD _ _ 246 _ _ _ _ _ _)))
                        refine x_aload_nP (some x1) d_Cl_makes_246 rfl (?_ : WD _ _ 247 _ _ _ _ _ _)
                        refine x_getP (ref := "CoinSamplerLaw$Books") (j := 2) 2 (((((((((k1.q gw5.k).q gw8.k).q gw17.k).q gw23.k).q gw29.k).q gw35.k).q gw41.k).q gw70.k).q gw79.k) clk_11 (by decide) (qm_2 (i := 160) rfl rfl) (Or.inl rfl) rfl rfl d_Cl_makes_247 (y := (wR w79 x1 2)) rfl (?_ : WD _ _ 250 _ _ _ _ _ _)
                        refine x_iconst d_Cl_makes_250 (by decide) (?_ : WD _ _ 251 _ _ _ _ _ _)
                        obtain ⟨a90, e91, h⟩ := h
                        rw [e91]
                        obtain ⟨n92, h⟩ := h
                        obtain ⟨k93, h⟩ := h
                        obtain ⟨h94, h⟩ := h
                        refine x_iald k93 d_Cl_makes_251 (by decide) h94 (y := (wI w79 a90 0)) rfl (?_ : WD _ _ 252 _ _ _ _ _ _)
                        refine x_iload d_Cl_makes_252 rfl (?_ : WD _ _ 254 _ _ _ _ _ _)
                        obtain ⟨h95, h⟩ := h
                        refine x_isub d_Cl_makes_254 h95 (?_ : WD _ _ 255 _ _ _ _ _ _)
                        refine x_icmp_ne 268 d_Cl_makes_255 rfl ⟨fun c96 => (?_ : WD _ _ 268 _ _ _ _ _ _), fun c96 => (?_ : WD _ _ 258 _ _ _ _ _ _)⟩
                        · replace h := h.1 c96
                          refine x_iconst d_Cl_makes_268 (by decide) (?_ : WD _ _ 269 _ _ _ _ _ _)
                          exact x_zreturn rfl d_Cl_makes_269 (by decide) h
                        · replace h := h.2 c96
                          refine x_aload_n d_Cl_makes_258 rfl (?_ : WD _ _ 259 _ _ _ _ _ _)
                          refine x_iconst d_Cl_makes_259 (by decide) (?_ : WD _ _ 260 _ _ _ _ _ _)
                          refine x_callC (ν := M_Cs_bound) (k := 0) [vI 5] ok_M_Cs_bound okv_M_Cs_bound (by decide) rfl rfl rfl (qm_10 (i := 38) rfl rfl) np_M_Cs_bound rfl ⟨Nat.le_of_ble_eq_true rfl, Nat.le_of_ble_eq_true rfl⟩ (Nat.le_of_ble_eq_true rfl) rfl d_Cl_makes_260 (CI.kd h (fun v97 σ98 h => (?_ : WD _ _ 263 _ _ _ _ _ _)))
                          refine x_ldc (-10000000) d_Cl_makes_263 (qm_5 (i := 163) rfl rfl) (by decide) (by decide) (?_ : WD _ _ 265 _ _ _ _ _ _)
                          refine x_icmp_eq 270 d_Cl_makes_265 rfl ⟨fun c99 => (?_ : WD _ _ 270 _ _ _ _ _ _), fun c99 => (?_ : WD _ _ 268 _ _ _ _ _ _)⟩
                          · replace h := h.1 c99
                            refine x_aload_n d_Cl_makes_270 rfl (?_ : WD _ _ 271 _ _ _ _ _ _)
                            refine x_iconst d_Cl_makes_271 (by decide) (?_ : WD _ _ 272 _ _ _ _ _ _)
                            refine x_callC (ν := M_Cs_below) (k := 0) [vI 0] ok_M_Cs_below okv_M_Cs_below (by decide) rfl rfl rfl (qm_10 (i := 82) rfl rfl) np_M_Cs_below rfl ⟨Nat.le_of_ble_eq_true rfl, Nat.le_of_ble_eq_true rfl⟩ (Nat.le_of_ble_eq_true rfl) rfl d_Cl_makes_272 (CI.kd h (fun v100 σ101 h => (?_ : WD _ _ 275 _ _ _ _ _ _)))
                            refine x_aload_nP (some x1) d_Cl_makes_275 rfl (?_ : WD _ _ 276 _ _ _ _ _ _)
                            refine x_iload d_Cl_makes_276 rfl (?_ : WD _ _ 278 _ _ _ _ _ _)
                            obtain ⟨c102, s103, h104, h105, h⟩ := h
                            refine x_callV (ν := M_Bo_basic) [vI v9] ok_M_Bo_basic okv_M_Bo_basic (((((((((k1.q gw5.k).q gw8.k).q gw17.k).q gw23.k).q gw29.k).q gw35.k).q gw41.k).q gw70.k).q gw79.k) rfl rfl (qm_10 (i := 147) rfl rfl) np_M_Bo_basic rfl ⟨Nat.le_of_ble_eq_true rfl, Nat.le_of_ble_eq_true rfl⟩ (Nat.le_of_ble_eq_true rfl) rfl d_Cl_makes_278 h104 h105 (DI.k h (fun v107 w106 gw106 h => (?_ : WD _ _ 281 _ _ _ _ _ _)))
                            refine x_icmp_ne 335 d_Cl_makes_281 rfl ⟨fun c108 => (?_ : WD _ _ 335 _ _ _ _ _ _), fun c108 => (?_ : WD _ _ 284 _ _ _ _ _ _)⟩
                            · replace h := h.1 c108
                              refine x_iconst d_Cl_makes_335 (by decide) (?_ : WD _ _ 336 _ _ _ _ _ _)
                              exact x_zreturn rfl d_Cl_makes_336 (by decide) h
                            · replace h := h.2 c108
                              refine x_aload_n d_Cl_makes_284 rfl (?_ : WD _ _ 285 _ _ _ _ _ _)
                              refine x_iconst d_Cl_makes_285 (by decide) (?_ : WD _ _ 286 _ _ _ _ _ _)
                              refine x_callC (ν := M_Cs_below) (k := 0) [vI 1] ok_M_Cs_below okv_M_Cs_below (by decide) rfl rfl rfl (qm_10 (i := 82) rfl rfl) np_M_Cs_below rfl ⟨Nat.le_of_ble_eq_true rfl, Nat.le_of_ble_eq_true rfl⟩ (Nat.le_of_ble_eq_true rfl) rfl d_Cl_makes_286 (CI.kd h (fun v109 σ110 h => (?_ : WD _ _ 289 _ _ _ _ _ _)))
                              refine x_aload_nP (some x1) d_Cl_makes_289 rfl (?_ : WD _ _ 290 _ _ _ _ _ _)
                              refine x_aload_nP (some x2) d_Cl_makes_290 rfl (?_ : WD _ _ 291 _ _ _ _ _ _)
                              refine x_iconst d_Cl_makes_291 (by decide) (?_ : WD _ _ 292 _ _ _ _ _ _)
                              refine x_iload d_Cl_makes_292 rfl (?_ : WD _ _ 294 _ _ _ _ _ _)
                              obtain ⟨c111, s112, h113, h114, h⟩ := h
                              refine x_callV (ν := M_Bo_rises) [vA x2, vI (-1), vI v9] ok_M_Bo_rises okv_M_Bo_rises ((((((((((k1.q gw5.k).q gw8.k).q gw17.k).q gw23.k).q gw29.k).q gw35.k).q gw41.k).q gw70.k).q gw79.k).q gw106.k) rfl rfl (qm_10 (i := 148) rfl rfl) np_M_Bo_rises rfl ⟨Nat.le_of_ble_eq_true rfl, Nat.le_of_ble_eq_true rfl⟩ (Nat.le_of_ble_eq_true rfl) rfl d_Cl_makes_294 h113 h114 (DI.k h (fun v116 w115 gw115 h => (?_ : WD _ _ 297 _ _ _ _ _ _)))
                              refine x_icmp_ne 335 d_Cl_makes_297 rfl ⟨fun c117 => (?_ : WD _ _ 335 _ _ _ _ _ _), fun c117 => (?_ : WD _ _ 300 _ _ _ _ _ _)⟩
                              · replace h := h.1 c117
                                refine x_iconst d_Cl_makes_335 (by decide) (?_ : WD _ _ 336 _ _ _ _ _ _)
                                exact x_zreturn rfl d_Cl_makes_336 (by decide) h
                              · replace h := h.2 c117
                                refine x_aload_n d_Cl_makes_300 rfl (?_ : WD _ _ 301 _ _ _ _ _ _)
                                refine x_iconst d_Cl_makes_301 (by decide) (?_ : WD _ _ 302 _ _ _ _ _ _)
                                refine x_callC (ν := M_Cs_below) (k := 0) [vI 2] ok_M_Cs_below okv_M_Cs_below (by decide) rfl rfl rfl (qm_10 (i := 82) rfl rfl) np_M_Cs_below rfl ⟨Nat.le_of_ble_eq_true rfl, Nat.le_of_ble_eq_true rfl⟩ (Nat.le_of_ble_eq_true rfl) rfl d_Cl_makes_302 (CI.kd h (fun v118 σ119 h => (?_ : WD _ _ 305 _ _ _ _ _ _)))
                                refine x_iload d_Cl_makes_305 rfl (?_ : WD _ _ 307 _ _ _ _ _ _)
                                refine x_icmp_ne 335 d_Cl_makes_307 rfl ⟨fun c120 => (?_ : WD _ _ 335 _ _ _ _ _ _), fun c120 => (?_ : WD _ _ 310 _ _ _ _ _ _)⟩
                                · replace h := h.1 c120
                                  refine x_iconst d_Cl_makes_335 (by decide) (?_ : WD _ _ 336 _ _ _ _ _ _)
                                  exact x_zreturn rfl d_Cl_makes_336 (by decide) h
                                · replace h := h.2 c120
                                  refine x_aload_n d_Cl_makes_310 rfl (?_ : WD _ _ 311 _ _ _ _ _ _)
                                  refine x_iconst d_Cl_makes_311 (by decide) (?_ : WD _ _ 312 _ _ _ _ _ _)
                                  refine x_callC (ν := M_Cs_below) (k := 0) [vI 3] ok_M_Cs_below okv_M_Cs_below (by decide) rfl rfl rfl (qm_10 (i := 82) rfl rfl) np_M_Cs_below rfl ⟨Nat.le_of_ble_eq_true rfl, Nat.le_of_ble_eq_true rfl⟩ (Nat.le_of_ble_eq_true rfl) rfl d_Cl_makes_312 (CI.kd h (fun v121 σ122 h => (?_ : WD _ _ 315 _ _ _ _ _ _)))
                                  refine x_aload_nP (some x1) d_Cl_makes_315 rfl (?_ : WD _ _ 316 _ _ _ _ _ _)
                                  refine x_iconst d_Cl_makes_316 (by decide) (?_ : WD _ _ 317 _ _ _ _ _ _)
                                  refine x_iload_n d_Cl_makes_317 rfl (?_ : WD _ _ 318 _ _ _ _ _ _)
                                  refine x_iconst d_Cl_makes_318 (by decide) (?_ : WD _ _ 319 _ _ _ _ _ _)
                                  obtain ⟨c123, s124, h125, h126, h⟩ := h
                                  refine x_callV (ν := M_Bo_bound) [vI (-1), vI v6, vI 0] ok_M_Bo_bound okv_M_Bo_bound (((((((((((k1.q gw5.k).q gw8.k).q gw17.k).q gw23.k).q gw29.k).q gw35.k).q gw41.k).q gw70.k).q gw79.k).q gw106.k).q gw115.k) rfl rfl (qm_10 (i := 118) rfl rfl) np_M_Bo_bound rfl ⟨Nat.le_of_ble_eq_true rfl, Nat.le_of_ble_eq_true rfl⟩ (Nat.le_of_ble_eq_true rfl) rfl d_Cl_makes_319 h125 h126 (DI.k h (fun v128 w127 gw127 h => (?_ : WD _ _ 322 _ _ _ _ _ _)))
                                  refine x_icmp_ne 335 d_Cl_makes_322 rfl ⟨fun c129 => (?_ : WD _ _ 335 _ _ _ _ _ _), fun c129 => (?_ : WD _ _ 325 _ _ _ _ _ _)⟩
                                  · replace h := h.1 c129
                                    refine x_iconst d_Cl_makes_335 (by decide) (?_ : WD _ _ 336 _ _ _ _ _ _)
                                    exact x_zreturn rfl d_Cl_makes_336 (by decide) h
                                  · replace h := h.2 c129
                                    refine x_aload_n d_Cl_makes_325 rfl (?_ : WD _ _ 326 _ _ _ _ _ _)
                                    refine x_iconst d_Cl_makes_326 (by decide) (?_ : WD _ _ 327 _ _ _ _ _ _)
                                    refine x_callC (ν := M_Cs_below) (k := 0) [vI 4] ok_M_Cs_below okv_M_Cs_below (by decide) rfl rfl rfl (qm_10 (i := 82) rfl rfl) np_M_Cs_below rfl ⟨Nat.le_of_ble_eq_true rfl, Nat.le_of_ble_eq_true rfl⟩ (Nat.le_of_ble_eq_true rfl) rfl d_Cl_makes_327 (CI.kd h (fun v130 σ131 h => (?_ : WD _ _ 330 _ _ _ _ _ _)))
                                    refine x_ldc (-10000000) d_Cl_makes_330 (qm_5 (i := 163) rfl rfl) (by decide) (by decide) (?_ : WD _ _ 332 _ _ _ _ _ _)
                                    refine x_icmp_eq 337 d_Cl_makes_332 rfl ⟨fun c132 => (?_ : WD _ _ 337 _ _ _ _ _ _), fun c132 => (?_ : WD _ _ 335 _ _ _ _ _ _)⟩
                                    · replace h := h.1 c132
                                      refine x_aload_nP (some x1) d_Cl_makes_337 rfl (?_ : WD _ _ 338 _ _ _ _ _ _)
                                      refine x_aload_nP (some x2) d_Cl_makes_338 rfl (?_ : WD _ _ 339 _ _ _ _ _ _)
                                      refine x_iconst d_Cl_makes_339 (by decide) (?_ : WD _ _ 340 _ _ _ _ _ _)
                                      obtain ⟨c133, s134, h135, h136, h⟩ := h
                                      refine x_callV (ν := M_Bo_ranked) [vA x2, vI 1] ok_M_Bo_ranked okv_M_Bo_ranked ((((((((((((k1.q gw5.k).q gw8.k).q gw17.k).q gw23.k).q gw29.k).q gw35.k).q gw41.k).q gw70.k).q gw79.k).q gw106.k).q gw115.k).q gw127.k) rfl rfl (qm_10 (i := 149) rfl rfl) np_M_Bo_ranked rfl ⟨Nat.le_of_ble_eq_true rfl, Nat.le_of_ble_eq_true rfl⟩ (Nat.le_of_ble_eq_true rfl) rfl d_Cl_makes_340 h135 h136 (DP.k h (fun v138 w137 gw137 h => (?_ : WD _ _ 343 _ _ _ _ _ _)))
                                      refine x_astoreP v138 (ls' := [(11, vP v138), (10, vI v42), (9, vI v36), (8, vI v30), (7, vI v24), (6, vI v18), (5, vI v10), (4, vI v9), (3, vI v6), (0, vR 0), (1, vA x1), (2, vA x2)]) d_Cl_makes_343 (by decide) rfl (?_ : WD _ _ 345 _ _ _ _ _ _)
                                      refine x_aload_nP (some x1) d_Cl_makes_345 rfl (?_ : WD _ _ 346 _ _ _ _ _ _)
                                      obtain ⟨c139, s140, h141, h142, h⟩ := h
                                      refine x_callV (ν := M_Bo_owners) [] ok_M_Bo_owners okv_M_Bo_owners (((((((((((((k1.q gw5.k).q gw8.k).q gw17.k).q gw23.k).q gw29.k).q gw35.k).q gw41.k).q gw70.k).q gw79.k).q gw106.k).q gw115.k).q gw127.k).q gw137.k) rfl rfl (qm_9 (i := 169) rfl rfl) np_M_Bo_owners rfl ⟨Nat.le_of_ble_eq_true rfl, Nat.le_of_ble_eq_true rfl⟩ (Nat.le_of_ble_eq_true rfl) rfl d_Cl_makes_346 h141 h142 (DP.k h (fun v144 w143 gw143 h => (?_ : WD _ _ 349 _ _ _ _ _ _)))
                                      obtain ⟨a145, e146, h⟩ := h
                                      rw [e146]
                                      obtain ⟨n147, h⟩ := h
                                      obtain ⟨k148, h⟩ := h
                                      obtain ⟨h149, h⟩ := h
                                      refine x_alenA k148 (fun _ => rfl) h149 d_Cl_makes_349 (?_ : WD _ _ 350 _ _ _ _ _ _)
                                      refine x_istore (ls' := [(12, vI (n147 : Int)), (11, vP v138), (10, vI v42), (9, vI v36), (8, vI v30), (7, vI v24), (6, vI v18), (5, vI v10), (4, vI v9), (3, vI v6), (0, vR 0), (1, vA x1), (2, vA x2)]) d_Cl_makes_350 (by decide) rfl (?_ : WD _ _ 352 _ _ _ _ _ _)
                                      refine x_iconst d_Cl_makes_352 (by decide) (?_ : WD _ _ 353 _ _ _ _ _ _)
                                      refine x_istore (ls' := [(13, vI 0), (12, vI (n147 : Int)), (11, vP v138), (10, vI v42), (9, vI v36), (8, vI v30), (7, vI v24), (6, vI v18), (5, vI v10), (4, vI v9), (3, vI v6), (0, vR 0), (1, vA x1), (2, vA x2)]) d_Cl_makes_353 (by decide) rfl (?_ : WD _ _ 355 _ _ _ _ _ _)
                                      refine x_pick (ls' := [(0, vR 0), (1, vA x1), (2, vA x2), (4, vI v9), (5, vI v10), (10, vI v42), (11, vP v138), (12, vI (n147 : Int)), (13, vI 0)]) [11, 12, 13, 9, 8, 3, 2, 1, 0] rfl ?_
                                      exact h
                                    · replace h := h.2 c132
                                      refine x_iconst d_Cl_makes_335 (by decide) (?_ : WD _ _ 336 _ _ _ _ _ _)
                                      exact x_zreturn rfl d_Cl_makes_336 (by decide) h
                          · replace h := h.2 c99
                            refine x_iconst d_Cl_makes_268 (by decide) (?_ : WD _ _ 269 _ _ _ _ _ _)
                            exact x_zreturn rfl d_Cl_makes_269 (by decide) h
              · replace h := h.2 c63
                refine x_iconst d_Cl_makes_189 (by decide) (?_ : WD _ _ 190 _ _ _ _ _ _)
                exact x_zreturn rfl d_Cl_makes_190 (by decide) h
  · replace h := h.2 c12
    refine x_aload_n d_Cl_makes_25 rfl (?_ : WD _ _ 26 _ _ _ _ _ _)
    refine x_iconst d_Cl_makes_26 (by decide) (?_ : WD _ _ 27 _ _ _ _ _ _)
    refine x_callC (ν := M_Cs_projected) (k := 0) [vI 0] ok_M_Cs_projected okv_M_Cs_projected (by decide) rfl rfl rfl (qm_10 (i := 21) rfl rfl) np_M_Cs_projected rfl ⟨Nat.le_of_ble_eq_true rfl, Nat.le_of_ble_eq_true rfl⟩ (Nat.le_of_ble_eq_true rfl) rfl d_Cl_makes_27 (CI.kd h (fun v150 σ151 h => (?_ : WD _ _ 30 _ _ _ _ _ _)))
    refine x_ldc (-10000000) d_Cl_makes_30 (qm_5 (i := 163) rfl rfl) (by decide) (by decide) (?_ : WD _ _ 32 _ _ _ _ _ _)
    refine x_icmp_ne 77 d_Cl_makes_32 rfl ⟨fun c152 => (?_ : WD _ _ 77 _ _ _ _ _ _), fun c152 => (?_ : WD _ _ 35 _ _ _ _ _ _)⟩
    · replace h := h.1 c152
      refine x_iconst d_Cl_makes_77 (by decide) (?_ : WD _ _ 78 _ _ _ _ _ _)
      exact x_zreturn rfl d_Cl_makes_78 (by decide) h
    · replace h := h.2 c152
      refine x_aload_n d_Cl_makes_35 rfl (?_ : WD _ _ 36 _ _ _ _ _ _)
      refine x_iconst d_Cl_makes_36 (by decide) (?_ : WD _ _ 37 _ _ _ _ _ _)
      refine x_callC (ν := M_Cs_bound) (k := 0) [vI 3] ok_M_Cs_bound okv_M_Cs_bound (by decide) rfl rfl rfl (qm_10 (i := 38) rfl rfl) np_M_Cs_bound rfl ⟨Nat.le_of_ble_eq_true rfl, Nat.le_of_ble_eq_true rfl⟩ (Nat.le_of_ble_eq_true rfl) rfl d_Cl_makes_37 (CI.kd h (fun v153 σ154 h => (?_ : WD _ _ 40 _ _ _ _ _ _)))
      refine x_ldc (-10000000) d_Cl_makes_40 (qm_5 (i := 163) rfl rfl) (by decide) (by decide) (?_ : WD _ _ 42 _ _ _ _ _ _)
      refine x_icmp_ne 77 d_Cl_makes_42 rfl ⟨fun c155 => (?_ : WD _ _ 77 _ _ _ _ _ _), fun c155 => (?_ : WD _ _ 45 _ _ _ _ _ _)⟩
      · replace h := h.1 c155
        refine x_iconst d_Cl_makes_77 (by decide) (?_ : WD _ _ 78 _ _ _ _ _ _)
        exact x_zreturn rfl d_Cl_makes_78 (by decide) h
      · replace h := h.2 c155
        refine x_aload_n d_Cl_makes_45 rfl (?_ : WD _ _ 46 _ _ _ _ _ _)
        refine x_iconst d_Cl_makes_46 (by decide) (?_ : WD _ _ 47 _ _ _ _ _ _)
        refine x_callC (ν := M_Cs_below) (k := 0) [vI 3] ok_M_Cs_below okv_M_Cs_below (by decide) rfl rfl rfl (qm_10 (i := 82) rfl rfl) np_M_Cs_below rfl ⟨Nat.le_of_ble_eq_true rfl, Nat.le_of_ble_eq_true rfl⟩ (Nat.le_of_ble_eq_true rfl) rfl d_Cl_makes_47 (CI.kd h (fun v156 σ157 h => (?_ : WD _ _ 50 _ _ _ _ _ _)))
        refine x_ldc (-10000000) d_Cl_makes_50 (qm_5 (i := 163) rfl rfl) (by decide) (by decide) (?_ : WD _ _ 52 _ _ _ _ _ _)
        refine x_icmp_ne 77 d_Cl_makes_52 rfl ⟨fun c158 => (?_ : WD _ _ 77 _ _ _ _ _ _), fun c158 => (?_ : WD _ _ 55 _ _ _ _ _ _)⟩
        · replace h := h.1 c158
          refine x_iconst d_Cl_makes_77 (by decide) (?_ : WD _ _ 78 _ _ _ _ _ _)
          exact x_zreturn rfl d_Cl_makes_78 (by decide) h
        · replace h := h.2 c158
          refine x_aload_n d_Cl_makes_55 rfl (?_ : WD _ _ 56 _ _ _ _ _ _)
          refine x_iconst d_Cl_makes_56 (by decide) (?_ : WD _ _ 57 _ _ _ _ _ _)
          refine x_iconst d_Cl_makes_57 (by decide) (?_ : WD _ _ 58 _ _ _ _ _ _)
          refine x_callC (ν := M_Cs_taint) (k := 0) [vI 0, vI 0] ok_M_Cs_taint okv_M_Cs_taint (by decide) rfl rfl rfl (qm_10 (i := 86) rfl rfl) np_M_Cs_taint rfl ⟨Nat.le_of_ble_eq_true rfl, Nat.le_of_ble_eq_true rfl⟩ (Nat.le_of_ble_eq_true rfl) rfl d_Cl_makes_58 (CI.kd h (fun v159 σ160 h => (?_ : WD _ _ 61 _ _ _ _ _ _)))
          refine x_bipush d_Cl_makes_61 (by decide) (by decide) (?_ : WD _ _ 63 _ _ _ _ _ _)
          refine x_icmp_ne 77 d_Cl_makes_63 rfl ⟨fun c161 => (?_ : WD _ _ 77 _ _ _ _ _ _), fun c161 => (?_ : WD _ _ 66 _ _ _ _ _ _)⟩
          · replace h := h.1 c161
            refine x_iconst d_Cl_makes_77 (by decide) (?_ : WD _ _ 78 _ _ _ _ _ _)
            exact x_zreturn rfl d_Cl_makes_78 (by decide) h
          · replace h := h.2 c161
            refine x_aload_n d_Cl_makes_66 rfl (?_ : WD _ _ 67 _ _ _ _ _ _)
            refine x_callC (ν := M_Cs_judged) (k := 0) [] ok_M_Cs_judged okv_M_Cs_judged (by decide) rfl rfl rfl (qm_10 (i := 93) rfl rfl) np_M_Cs_judged rfl ⟨Nat.le_of_ble_eq_true rfl, Nat.le_of_ble_eq_true rfl⟩ (Nat.le_of_ble_eq_true rfl) rfl d_Cl_makes_67 (CI.kd h (fun v162 σ163 h => (?_ : WD _ _ 70 _ _ _ _ _ _)))
            refine x_if_ne 77 d_Cl_makes_70 rfl ⟨fun c164 => (?_ : WD _ _ 77 _ _ _ _ _ _), fun c164 => (?_ : WD _ _ 73 _ _ _ _ _ _)⟩
            · replace h := h.1 c164
              refine x_iconst d_Cl_makes_77 (by decide) (?_ : WD _ _ 78 _ _ _ _ _ _)
              exact x_zreturn rfl d_Cl_makes_78 (by decide) h
            · replace h := h.2 c164
              refine x_iconst d_Cl_makes_73 (by decide) (?_ : WD _ _ 74 _ _ _ _ _ _)
              refine x_goto 78 d_Cl_makes_74 rfl ?_
              exact x_zreturn rfl d_Cl_makes_78 (by decide) h
set_option maxRecDepth 20000 in
theorem l_Cl_makes_1 {G : Gq} {K : Int → Wd → Prop} {w : Wd} {rc rs : Nat} (x1 : Nat) (x2 : Nat) (x4 : Int) (x5 : Int) (x10 : Int) (x11 : Option Nat) (x12 : Int) (x13 : Int) (h : ∃ a165 : Nat, x11 = some a165 ∧ ((Is G w a165 (kO 14)) ∧ DI G M_Al_size [vA a165] w 0 0 (fun v169 w168 => (v169 ≤ x13 → DI G M_Al_size [vA a165] w168 0 0 (fun v172 w171 => CI M_Cs_taint [vR 0, vI v172, vI 0] (wS w171) (fun v173 σ174 => (¬ v173 = (-2) → K 0 (uS w171 σ174)) ∧ (v173 = (-2) → CI M_Cs_judged [vR 0] (wS (uS w171 σ174)) (fun v176 σ177 => (x5 ≤ 0 → (Is G (uS (uS w171 σ174) σ177) x1 (kO 11)) ∧ ∃ a180 : Nat, (wR w171 x1 2) = some a180 ∧ (∃ n182 : Nat, ((Is G (uS (uS w171 σ174) σ177) a180 (kA 0 n182)) ∧ (0 < (n182 : Int)) ∧ ((wI w171 a180 0) < x10 → (¬ v176 = 3 → K 0 (uS (uS w171 σ174) σ177)) ∧ (v176 = 3 → K 1 (uS (uS w171 σ174) σ177))) ∧ (¬ (wI w171 a180 0) < x10 → (¬ v176 = 2 → K 0 (uS (uS w171 σ174) σ177)) ∧ (v176 = 2 → K 1 (uS (uS w171 σ174) σ177)))))) ∧ (¬ x5 ≤ 0 → (¬ v176 = 1 → K 0 (uS (uS w171 σ174) σ177)) ∧ (v176 = 1 → K 1 (uS (uS w171 σ174) σ177)))))))) ∧ (¬ v169 ≤ x13 → CI M_Cs_taint [vR 0, vI x13, vI 0] (wS w168) (fun v189 σ190 => DP G M_Al_get [vA a165, vI x13] (uS w168 σ190) 0 0 (fun v192 w191 => ∃ a193 : Nat, v192 = some a193 ∧ ((Is G w191 x2 (kO 14)) ∧ DI G M_Al_indexOf [vA x2, vA a193] w191 0 0 (fun v197 w196 => (¬ v189 = v197 → K 0 w196) ∧ (v189 = v197 → CI M_Cs_taint [vR 0, vI x13, vI 1] (wS w196) (fun v199 σ200 => (Is G (uS w196 σ200) x1 (kO 11)) ∧ DP G M_Al_get [vA a165, vI x13] (uS w196 σ200) 0 0 (fun v203 w202 => ∃ a204 : Nat, v203 = some a204 ∧ ((Is G w202 a204 (kO 12)) ∧ ∃ a207 : Nat, (wR w196 x1 0) = some a207 ∧ ((Is G w202 a207 (kO 14)) ∧ DP G M_Al_get [vA a207, vI (wI w202 a204 0)] w202 0 0 (fun v211 w210 => ∃ a212 : Nat, v211 = some a212 ∧ ((Is G w210 a212 (kO 13)) ∧ DI G M_It_taint [vA a212] w210 0 0 (fun v216 w215 => (¬ v199 = v216 → K 0 w215) ∧ (v199 = v216 → (4 ≤ x13 → (inR (x13 + 1)) ∧ WD G M_Cl_makes 355 [(0, vR 0), (1, vA x1), (2, vA x2), (4, vI x4), (5, vI x5), (10, vI x10), (11, vP (some a165)), (12, vI x12), (13, vI (x13 + 1))] [] w215 rc rs (yI K)) ∧ (¬ 4 ≤ x13 → CI M_Cs_taint [vR 0, vI x13, vI 2] (wS w215) (fun v220 σ221 => (inR (x13 + 1)) ∧ DI G M_Bo_rise [vA x1, vA a165, vI (x13 + 1), vI x4, vI x12] (uS w215 σ221) 0 0 (fun v224 w223 => (v220 = v224 → WD G M_Cl_makes 355 [(0, vR 0), (1, vA x1), (2, vA x2), (4, vI x4), (5, vI x5), (10, vI x10), (11, vP (some a165)), (12, vI x12), (13, vI (x13 + 1))] [] w223 rc rs (yI K)) ∧ (¬ v220 = v224 → K 0 w223))))))))))))))))))))) : WD G M_Cl_makes 355 [(0, vR 0), (1, vA x1), (2, vA x2), (4, vI x4), (5, vI x5), (10, vI x10), (11, vP x11), (12, vI x12), (13, vI x13)] [] w rc rs (yI K) := by
  refine x_iload d_Cl_makes_355 rfl (?_ : WD _ _ 357 _ _ _ _ _ _)
  refine x_aloadP x11 d_Cl_makes_357 rfl (?_ : WD _ _ 359 _ _ _ _ _ _)
  obtain ⟨a165, e166, h⟩ := h
  rw [e166]
  obtain ⟨k167, h⟩ := h
  refine x_callV (ν := M_Al_size) [] ok_M_Al_size okv_M_Al_size k167 rfl rfl (qm_3 (i := 178) rfl rfl) np_M_Al_size rfl ⟨Nat.le_of_ble_eq_true rfl, Nat.le_of_ble_eq_true rfl⟩ (Nat.le_of_ble_eq_true rfl) rfl d_Cl_makes_359 (Nat.zero_le _) (Nat.zero_le _) (DI.k h (fun v169 w168 gw168 h => (?_ : WD _ _ 362 _ _ _ _ _ _)))
  refine x_icmp_ge 460 d_Cl_makes_362 rfl ⟨fun c170 => (?_ : WD _ _ 460 _ _ _ _ _ _), fun c170 => (?_ : WD _ _ 365 _ _ _ _ _ _)⟩
  · replace h := h.1 c170
    refine x_aload_n d_Cl_makes_460 rfl (?_ : WD _ _ 461 _ _ _ _ _ _)
    refine x_aloadP (some a165) d_Cl_makes_461 rfl (?_ : WD _ _ 463 _ _ _ _ _ _)
    refine x_callV (ν := M_Al_size) [] ok_M_Al_size okv_M_Al_size (k167.q gw168.k) rfl rfl (qm_3 (i := 178) rfl rfl) np_M_Al_size rfl ⟨Nat.le_of_ble_eq_true rfl, Nat.le_of_ble_eq_true rfl⟩ (Nat.le_of_ble_eq_true rfl) rfl d_Cl_makes_463 (Nat.zero_le _) (Nat.zero_le _) (DI.k h (fun v172 w171 gw171 h => (?_ : WD _ _ 466 _ _ _ _ _ _)))
    refine x_iconst d_Cl_makes_466 (by decide) (?_ : WD _ _ 467 _ _ _ _ _ _)
    refine x_callC (ν := M_Cs_taint) (k := 0) [vI v172, vI 0] ok_M_Cs_taint okv_M_Cs_taint (by decide) rfl rfl rfl (qm_10 (i := 86) rfl rfl) np_M_Cs_taint rfl ⟨Nat.le_of_ble_eq_true rfl, Nat.le_of_ble_eq_true rfl⟩ (Nat.le_of_ble_eq_true rfl) rfl d_Cl_makes_467 (CI.kd h (fun v173 σ174 h => (?_ : WD _ _ 470 _ _ _ _ _ _)))
    refine x_bipush d_Cl_makes_470 (by decide) (by decide) (?_ : WD _ _ 472 _ _ _ _ _ _)
    refine x_icmp_ne 511 d_Cl_makes_472 rfl ⟨fun c175 => (?_ : WD _ _ 511 _ _ _ _ _ _), fun c175 => (?_ : WD _ _ 475 _ _ _ _ _ _)⟩
    · replace h := h.1 c175
      refine x_iconst d_Cl_makes_511 (by decide) (?_ : WD _ _ 512 _ _ _ _ _ _)
      exact x_zreturn rfl d_Cl_makes_512 (by decide) h
    · replace h := h.2 c175
      refine x_aload_n d_Cl_makes_475 rfl (?_ : WD _ _ 476 _ _ _ _ _ _)
      refine x_callC (ν := M_Cs_judged) (k := 0) [] ok_M_Cs_judged okv_M_Cs_judged (by decide) rfl rfl rfl (qm_10 (i := 93) rfl rfl) np_M_Cs_judged rfl ⟨Nat.le_of_ble_eq_true rfl, Nat.le_of_ble_eq_true rfl⟩ (Nat.le_of_ble_eq_true rfl) rfl d_Cl_makes_476 (CI.kd h (fun v176 σ177 h => (?_ : WD _ _ 479 _ _ _ _ _ _)))
      refine x_iload d_Cl_makes_479 rfl (?_ : WD _ _ 481 _ _ _ _ _ _)
      refine x_if_le 488 d_Cl_makes_481 rfl ⟨fun c178 => (?_ : WD _ _ 488 _ _ _ _ _ _), fun c178 => (?_ : WD _ _ 484 _ _ _ _ _ _)⟩
      · replace h := h.1 c178
        refine x_iload d_Cl_makes_488 rfl (?_ : WD _ _ 490 _ _ _ _ _ _)
        refine x_aload_nP (some x1) d_Cl_makes_490 rfl (?_ : WD _ _ 491 _ _ _ _ _ _)
        obtain ⟨k179, h⟩ := h
        refine x_getP (ref := "CoinSamplerLaw$Books") (j := 2) 2 k179 clk_11 (by decide) (qm_2 (i := 160) rfl rfl) (Or.inl rfl) rfl rfl d_Cl_makes_491 (y := (wR w171 x1 2)) rfl (?_ : WD _ _ 494 _ _ _ _ _ _)
        refine x_iconst d_Cl_makes_494 (by decide) (?_ : WD _ _ 495 _ _ _ _ _ _)
        obtain ⟨a180, e181, h⟩ := h
        rw [e181]
        obtain ⟨n182, h⟩ := h
        obtain ⟨k183, h⟩ := h
        obtain ⟨h184, h⟩ := h
        refine x_iald k183 d_Cl_makes_495 (by decide) h184 (y := (wI w171 a180 0)) rfl (?_ : WD _ _ 496 _ _ _ _ _ _)
        refine x_icmp_gt 503 d_Cl_makes_496 rfl ⟨fun c185 => (?_ : WD _ _ 503 _ _ _ _ _ _), fun c185 => (?_ : WD _ _ 499 _ _ _ _ _ _)⟩
        · replace h := h.1 c185
          refine x_iconst d_Cl_makes_503 (by decide) (?_ : WD _ _ 504 _ _ _ _ _ _)
          refine x_icmp_ne 511 d_Cl_makes_504 rfl ⟨fun c186 => (?_ : WD _ _ 511 _ _ _ _ _ _), fun c186 => (?_ : WD _ _ 507 _ _ _ _ _ _)⟩
          · replace h := h.1 c186
            refine x_iconst d_Cl_makes_511 (by decide) (?_ : WD _ _ 512 _ _ _ _ _ _)
            exact x_zreturn rfl d_Cl_makes_512 (by decide) h
          · replace h := h.2 c186
            refine x_iconst d_Cl_makes_507 (by decide) (?_ : WD _ _ 508 _ _ _ _ _ _)
            refine x_goto 512 d_Cl_makes_508 rfl ?_
            exact x_zreturn rfl d_Cl_makes_512 (by decide) h
        · replace h := h.2 c185
          refine x_iconst d_Cl_makes_499 (by decide) (?_ : WD _ _ 500 _ _ _ _ _ _)
          refine x_goto 504 d_Cl_makes_500 rfl ?_
          refine x_icmp_ne 511 d_Cl_makes_504 rfl ⟨fun c187 => (?_ : WD _ _ 511 _ _ _ _ _ _), fun c187 => (?_ : WD _ _ 507 _ _ _ _ _ _)⟩
          · replace h := h.1 c187
            refine x_iconst d_Cl_makes_511 (by decide) (?_ : WD _ _ 512 _ _ _ _ _ _)
            exact x_zreturn rfl d_Cl_makes_512 (by decide) h
          · replace h := h.2 c187
            refine x_iconst d_Cl_makes_507 (by decide) (?_ : WD _ _ 508 _ _ _ _ _ _)
            refine x_goto 512 d_Cl_makes_508 rfl ?_
            exact x_zreturn rfl d_Cl_makes_512 (by decide) h
      · replace h := h.2 c178
        refine x_iconst d_Cl_makes_484 (by decide) (?_ : WD _ _ 485 _ _ _ _ _ _)
        refine x_goto 504 d_Cl_makes_485 rfl ?_
        refine x_icmp_ne 511 d_Cl_makes_504 rfl ⟨fun c188 => (?_ : WD _ _ 511 _ _ _ _ _ _), fun c188 => (?_ : WD _ _ 507 _ _ _ _ _ _)⟩
        · replace h := h.1 c188
          refine x_iconst d_Cl_makes_511 (by decide) (?_ : WD _ _ 512 _ _ _ _ _ _)
          exact x_zreturn rfl d_Cl_makes_512 (by decide) h
        · replace h := h.2 c188
          refine x_iconst d_Cl_makes_507 (by decide) (?_ : WD _ _ 508 _ _ _ _ _ _)
          refine x_goto 512 d_Cl_makes_508 rfl ?_
          exact x_zreturn rfl d_Cl_makes_512 (by decide) h
  · replace h := h.2 c170
    refine x_aload_n d_Cl_makes_365 rfl (?_ : WD _ _ 366 _ _ _ _ _ _)
    refine x_iload d_Cl_makes_366 rfl (?_ : WD _ _ 368 _ _ _ _ _ _)
    refine x_iconst d_Cl_makes_368 (by decide) (?_ : WD _ _ 369 _ _ _ _ _ _)
    refine x_callC (ν := M_Cs_taint) (k := 0) [vI x13, vI 0] ok_M_Cs_taint okv_M_Cs_taint (by decide) rfl rfl rfl (qm_10 (i := 86) rfl rfl) np_M_Cs_taint rfl ⟨Nat.le_of_ble_eq_true rfl, Nat.le_of_ble_eq_true rfl⟩ (Nat.le_of_ble_eq_true rfl) rfl d_Cl_makes_369 (CI.kd h (fun v189 σ190 h => (?_ : WD _ _ 372 _ _ _ _ _ _)))
    refine x_aload_nP (some x2) d_Cl_makes_372 rfl (?_ : WD _ _ 373 _ _ _ _ _ _)
    refine x_aloadP (some a165) d_Cl_makes_373 rfl (?_ : WD _ _ 375 _ _ _ _ _ _)
    refine x_iload d_Cl_makes_375 rfl (?_ : WD _ _ 377 _ _ _ _ _ _)
    refine x_callV (ν := M_Al_get) [vI x13] ok_M_Al_get okv_M_Al_get (k167.q gw168.k) rfl rfl (qm_3 (i := 183) rfl rfl) np_M_Al_get rfl ⟨Nat.le_of_ble_eq_true rfl, Nat.le_of_ble_eq_true rfl⟩ (Nat.le_of_ble_eq_true rfl) rfl d_Cl_makes_377 (Nat.zero_le _) (Nat.zero_le _) (DP.k h (fun v192 w191 gw191 h => (?_ : WD _ _ 380 _ _ _ _ _ _)))
    obtain ⟨a193, e194, h⟩ := h
    rw [e194]
    obtain ⟨k195, h⟩ := h
    refine x_callV (ν := M_Al_indexOf) [vA a193] ok_M_Al_indexOf okv_M_Al_indexOf k195 rfl rfl (qm_10 (i := 150) rfl rfl) np_M_Al_indexOf rfl ⟨Nat.le_of_ble_eq_true rfl, Nat.le_of_ble_eq_true rfl⟩ (Nat.le_of_ble_eq_true rfl) rfl d_Cl_makes_380 (Nat.zero_le _) (Nat.zero_le _) (DI.k h (fun v197 w196 gw196 h => (?_ : WD _ _ 383 _ _ _ _ _ _)))
    refine x_icmp_ne 452 d_Cl_makes_383 rfl ⟨fun c198 => (?_ : WD _ _ 452 _ _ _ _ _ _), fun c198 => (?_ : WD _ _ 386 _ _ _ _ _ _)⟩
    · replace h := h.1 c198
      refine x_iconst d_Cl_makes_452 (by decide) (?_ : WD _ _ 453 _ _ _ _ _ _)
      exact x_zreturn rfl d_Cl_makes_453 (by decide) h
    · replace h := h.2 c198
      refine x_aload_n d_Cl_makes_386 rfl (?_ : WD _ _ 387 _ _ _ _ _ _)
      refine x_iload d_Cl_makes_387 rfl (?_ : WD _ _ 389 _ _ _ _ _ _)
      refine x_iconst d_Cl_makes_389 (by decide) (?_ : WD _ _ 390 _ _ _ _ _ _)
      refine x_callC (ν := M_Cs_taint) (k := 0) [vI x13, vI 1] ok_M_Cs_taint okv_M_Cs_taint (by decide) rfl rfl rfl (qm_10 (i := 86) rfl rfl) np_M_Cs_taint rfl ⟨Nat.le_of_ble_eq_true rfl, Nat.le_of_ble_eq_true rfl⟩ (Nat.le_of_ble_eq_true rfl) rfl d_Cl_makes_390 (CI.kd h (fun v199 σ200 h => (?_ : WD _ _ 393 _ _ _ _ _ _)))
      refine x_aload_nP (some x1) d_Cl_makes_393 rfl (?_ : WD _ _ 394 _ _ _ _ _ _)
      obtain ⟨k201, h⟩ := h
      refine x_getP (ref := "CoinSamplerLaw$Books") (j := 0) 0 k201 clk_11 (by decide) (qm_2 (i := 156) rfl rfl) (Or.inl rfl) rfl rfl d_Cl_makes_394 (y := (wR w196 x1 0)) rfl (?_ : WD _ _ 397 _ _ _ _ _ _)
      refine x_aloadP (some a165) d_Cl_makes_397 rfl (?_ : WD _ _ 399 _ _ _ _ _ _)
      refine x_iload d_Cl_makes_399 rfl (?_ : WD _ _ 401 _ _ _ _ _ _)
      refine x_callV (ν := M_Al_get) [vI x13] ok_M_Al_get okv_M_Al_get (((k167.q gw168.k).q gw191.k).q gw196.k) rfl rfl (qm_3 (i := 183) rfl rfl) np_M_Al_get rfl ⟨Nat.le_of_ble_eq_true rfl, Nat.le_of_ble_eq_true rfl⟩ (Nat.le_of_ble_eq_true rfl) rfl d_Cl_makes_401 (Nat.zero_le _) (Nat.zero_le _) (DP.k h (fun v203 w202 gw202 h => (?_ : WD _ _ 404 _ _ _ _ _ _)))
      obtain ⟨a204, e205, h⟩ := h
      rw [e205]
      obtain ⟨k206, h⟩ := h
      refine x_cast k206 rfl (Or.inl rfl) (qm_6 (i := 203) rfl rfl) d_Cl_makes_404 (?_ : WD _ _ 407 _ _ _ _ _ _)
      refine x_getI (ref := "CoinSamplerLaw$Hit") (j := 0) 0 k206 clk_12 (by decide) (qm_3 (i := 85) rfl rfl) (Or.inl rfl) rfl rfl d_Cl_makes_407 (y := (wI w202 a204 0)) rfl (?_ : WD _ _ 410 _ _ _ _ _ _)
      obtain ⟨a207, e208, h⟩ := h
      rw [e208]
      obtain ⟨k209, h⟩ := h
      refine x_callV (ν := M_Al_get) [vI (wI w202 a204 0)] ok_M_Al_get okv_M_Al_get k209 rfl rfl (qm_3 (i := 183) rfl rfl) np_M_Al_get rfl ⟨Nat.le_of_ble_eq_true rfl, Nat.le_of_ble_eq_true rfl⟩ (Nat.le_of_ble_eq_true rfl) rfl d_Cl_makes_410 (Nat.zero_le _) (Nat.zero_le _) (DP.k h (fun v211 w210 gw210 h => (?_ : WD _ _ 413 _ _ _ _ _ _)))
      obtain ⟨a212, e213, h⟩ := h
      rw [e213]
      obtain ⟨k214, h⟩ := h
      refine x_cast k214 rfl (Or.inl rfl) (qm_3 (i := 184) rfl rfl) d_Cl_makes_413 (?_ : WD _ _ 416 _ _ _ _ _ _)
      refine x_callV (ν := M_It_taint) [] ok_M_It_taint okv_M_It_taint k214 rfl rfl (qm_6 (i := 208) rfl rfl) np_M_It_taint rfl ⟨Nat.le_of_ble_eq_true rfl, Nat.le_of_ble_eq_true rfl⟩ (Nat.le_of_ble_eq_true rfl) rfl d_Cl_makes_416 (Nat.zero_le _) (Nat.zero_le _) (DI.k h (fun v216 w215 gw215 h => (?_ : WD _ _ 419 _ _ _ _ _ _)))
      refine x_icmp_ne 452 d_Cl_makes_419 rfl ⟨fun c217 => (?_ : WD _ _ 452 _ _ _ _ _ _), fun c217 => (?_ : WD _ _ 422 _ _ _ _ _ _)⟩
      · replace h := h.1 c217
        refine x_iconst d_Cl_makes_452 (by decide) (?_ : WD _ _ 453 _ _ _ _ _ _)
        exact x_zreturn rfl d_Cl_makes_453 (by decide) h
      · replace h := h.2 c217
        refine x_iload d_Cl_makes_422 rfl (?_ : WD _ _ 424 _ _ _ _ _ _)
        refine x_iconst d_Cl_makes_424 (by decide) (?_ : WD _ _ 425 _ _ _ _ _ _)
        refine x_icmp_ge 454 d_Cl_makes_425 rfl ⟨fun c218 => (?_ : WD _ _ 454 _ _ _ _ _ _), fun c218 => (?_ : WD _ _ 428 _ _ _ _ _ _)⟩
        · replace h := h.1 c218
          obtain ⟨h219, h⟩ := h
          refine x_iinc (ls' := [(13, vI (x13 + 1)), (0, vR 0), (1, vA x1), (2, vA x2), (4, vI x4), (5, vI x5), (10, vI x10), (11, vA a165), (12, vI x12)]) d_Cl_makes_454 rfl h219 (by decide) rfl (?_ : WD _ _ 457 _ _ _ _ _ _)
          refine x_goto 355 d_Cl_makes_457 rfl ?_
          refine x_pick (ls' := [(0, vR 0), (1, vA x1), (2, vA x2), (4, vI x4), (5, vI x5), (10, vI x10), (11, vP (some a165)), (12, vI x12), (13, vI (x13 + 1))]) [1, 2, 3, 4, 5, 6, 7, 8, 0] rfl ?_
          exact h
        · replace h := h.2 c218
          refine x_aload_n d_Cl_makes_428 rfl (?_ : WD _ _ 429 _ _ _ _ _ _)
          refine x_iload d_Cl_makes_429 rfl (?_ : WD _ _ 431 _ _ _ _ _ _)
          refine x_iconst d_Cl_makes_431 (by decide) (?_ : WD _ _ 432 _ _ _ _ _ _)
          refine x_callC (ν := M_Cs_taint) (k := 0) [vI x13, vI 2] ok_M_Cs_taint okv_M_Cs_taint (by decide) rfl rfl rfl (qm_10 (i := 86) rfl rfl) np_M_Cs_taint rfl ⟨Nat.le_of_ble_eq_true rfl, Nat.le_of_ble_eq_true rfl⟩ (Nat.le_of_ble_eq_true rfl) rfl d_Cl_makes_432 (CI.kd h (fun v220 σ221 h => (?_ : WD _ _ 435 _ _ _ _ _ _)))
          refine x_aload_nP (some x1) d_Cl_makes_435 rfl (?_ : WD _ _ 436 _ _ _ _ _ _)
          refine x_aloadP (some a165) d_Cl_makes_436 rfl (?_ : WD _ _ 438 _ _ _ _ _ _)
          refine x_iload d_Cl_makes_438 rfl (?_ : WD _ _ 440 _ _ _ _ _ _)
          refine x_iconst d_Cl_makes_440 (by decide) (?_ : WD _ _ 441 _ _ _ _ _ _)
          obtain ⟨h222, h⟩ := h
          refine x_iadd d_Cl_makes_441 h222 (?_ : WD _ _ 442 _ _ _ _ _ _)
          refine x_iload d_Cl_makes_442 rfl (?_ : WD _ _ 444 _ _ _ _ _ _)
          refine x_iload d_Cl_makes_444 rfl (?_ : WD _ _ 446 _ _ _ _ _ _)
          refine x_callV (ν := M_Bo_rise) [vA a165, vI (x13 + 1), vI x4, vI x12] ok_M_Bo_rise okv_M_Bo_rise (((k201.q gw202.k).q gw210.k).q gw215.k) rfl rfl (qm_10 (i := 151) rfl rfl) np_M_Bo_rise rfl ⟨Nat.le_of_ble_eq_true rfl, Nat.le_of_ble_eq_true rfl⟩ (Nat.le_of_ble_eq_true rfl) rfl d_Cl_makes_446 (Nat.zero_le _) (Nat.zero_le _) (DI.k h (fun v224 w223 gw223 h => (?_ : WD _ _ 449 _ _ _ _ _ _)))
          refine x_icmp_eq 454 d_Cl_makes_449 rfl ⟨fun c225 => (?_ : WD _ _ 454 _ _ _ _ _ _), fun c225 => (?_ : WD _ _ 452 _ _ _ _ _ _)⟩
          · replace h := h.1 c225
            refine x_iinc (ls' := [(13, vI (x13 + 1)), (0, vR 0), (1, vA x1), (2, vA x2), (4, vI x4), (5, vI x5), (10, vI x10), (11, vA a165), (12, vI x12)]) d_Cl_makes_454 rfl h222 (by decide) rfl (?_ : WD _ _ 457 _ _ _ _ _ _)
            refine x_goto 355 d_Cl_makes_457 rfl ?_
            refine x_pick (ls' := [(0, vR 0), (1, vA x1), (2, vA x2), (4, vI x4), (5, vI x5), (10, vI x10), (11, vP (some a165)), (12, vI x12), (13, vI (x13 + 1))]) [1, 2, 3, 4, 5, 6, 7, 8, 0] rfl ?_
            exact h
          · replace h := h.2 c225
            refine x_iconst d_Cl_makes_452 (by decide) (?_ : WD _ _ 453 _ _ _ _ _ _)
            exact x_zreturn rfl d_Cl_makes_453 (by decide) h
set_option maxRecDepth 20000 in
theorem e_Cl_counts {G : Gq} {K : Int → Wd → Prop} {w : Wd} {mc ms : Nat} (x1 : Nat) (x2 : Nat) (h : WD G M_Cl_counts 8 [(0, vR 0), (1, vA x1), (2, vA x2), (3, vI 0), (4, vI 0), (5, vI 0)] [] w mc ms (yI K)) : DI G M_Cl_counts [vR 0, vA x1, vA x2] w mc ms K := by
  refine DC.of ok_M_Cl_counts (ls := [(0, vR 0), (1, vA x1), (2, vA x2)]) rfl (Nat.le_of_ble_eq_true rfl) ?_
  refine x_iconst d_Cl_counts_0 (by decide) (?_ : WD _ _ 1 _ _ _ _ _ _)
  refine x_istore_n (ls' := [(3, vI 0), (0, vR 0), (1, vA x1), (2, vA x2)]) d_Cl_counts_1 rfl (by decide) rfl (?_ : WD _ _ 2 _ _ _ _ _ _)
  refine x_iconst d_Cl_counts_2 (by decide) (?_ : WD _ _ 3 _ _ _ _ _ _)
  refine x_istore (ls' := [(4, vI 0), (3, vI 0), (0, vR 0), (1, vA x1), (2, vA x2)]) d_Cl_counts_3 (by decide) rfl (?_ : WD _ _ 5 _ _ _ _ _ _)
  refine x_iconst d_Cl_counts_5 (by decide) (?_ : WD _ _ 6 _ _ _ _ _ _)
  refine x_istore (ls' := [(5, vI 0), (4, vI 0), (3, vI 0), (0, vR 0), (1, vA x1), (2, vA x2)]) d_Cl_counts_6 (by decide) rfl (?_ : WD _ _ 8 _ _ _ _ _ _)
  refine x_pick (ls' := [(0, vR 0), (1, vA x1), (2, vA x2), (3, vI 0), (4, vI 0), (5, vI 0)]) [3, 4, 5, 2, 1, 0] rfl ?_
  exact h
set_option maxRecDepth 20000 in
theorem l_Cl_counts_1 {G : Gq} {K : Int → Wd → Prop} {w : Wd} {rc rs : Nat} (x1 : Nat) (x2 : Nat) (x3 : Int) (x4 : Int) (x5 : Int) (h : (Is G w x1 (kO 11)) ∧ ∃ a2 : Nat, (wR w x1 0) = some a2 ∧ ((Is G w a2 (kO 14)) ∧ DI G M_Al_size [vA a2] w 0 0 (fun v6 w5 => (v6 ≤ x5 → (1 ≤ rc) ∧ (10 ≤ rs) ∧ ∀ q10 : Nat, Fr G w5 q10 → (∃ a12 : Nat, (wR w5 x1 0) = some a12 ∧ ((Is G (uN w5 q10 (kA 0 10)) a12 (kO 14)) ∧ DI G M_Al_size [vA a12] (uN w5 q10 (kA 0 10)) 0 0 (fun v16 w15 => (0 < (10 : Int)) ∧ ∃ c18 s19 : Nat, c18 ≤ (rc - 1) ∧ s19 ≤ (rs - 10) ∧ (DI G M_Bo_allCoins [vA x1] (uI w15 q10 0 v16) c18 s19 (fun v23 w22 => (1 < (10 : Int)) ∧ ∃ c25 s26 : Nat, c25 ≤ ((rc - 1) - c18) ∧ s26 ≤ ((rs - 10) - s19) ∧ (DP G M_Bo_owners [vA x1] (uI w22 q10 1 v23) c25 s26 (fun v30 w29 => ∃ a31 : Nat, v30 = some a31 ∧ (∃ n33 : Nat, ((Is G w29 a31 (kA 0 n33)) ∧ (inR (n33 : Int)) ∧ (2 < (10 : Int)) ∧ (3 < (10 : Int)) ∧ ∃ a38 : Nat, (wR w29 x1 1) = some a38 ∧ ((Is G (uI (uI w29 q10 2 (n33 : Int)) q10 3 (wI w29 x1 3)) a38 (kO 14)) ∧ DI G M_Al_size [vA a38] (uI (uI w29 q10 2 (n33 : Int)) q10 3 (wI w29 x1 3)) 0 0 (fun v42 w41 => (4 < (10 : Int)) ∧ (Is G (uI w41 q10 4 v42) x2 (kO 14)) ∧ DI G M_Al_size [vA x2] (uI w41 q10 4 v42) 0 0 (fun v46 w45 => (5 < (10 : Int)) ∧ (6 < (10 : Int)) ∧ (7 < (10 : Int)) ∧ (8 < (10 : Int)) ∧ (9 < (10 : Int)) ∧ WD G M_Cl_counts 153 [(0, vR 0), (1, vA x1), (5, vA q10), (6, vI 0)] [] (uI (uI (uI (uI (uI w45 q10 5 v46) q10 6 x3) q10 7 0) q10 8 x4) q10 9 (wI w45 x1 4)) (((rc - 1) - c18) - c25) (((rs - 10) - s19) - s26) (yI K)))))))))))))) ∧ (¬ v6 ≤ x5 → ∃ c52 s53 : Nat, c52 ≤ rc ∧ s53 ≤ rs ∧ (DI G M_Cl_oftenOf [vA x2, vI x5] w5 c52 s53 (fun v57 w56 => (v57 ≤ 0 → (inR (x3 + 0)) ∧ ∃ a60 : Nat, (wR w56 x1 0) = some a60 ∧ ((Is G w56 a60 (kO 14)) ∧ DP G M_Al_get [vA a60, vI x5] w56 0 0 (fun v64 w63 => ∃ a65 : Nat, v64 = some a65 ∧ ((Is G w63 a65 (kO 13)) ∧ (0 ≤ (wI w63 a65 3) → (inR (x4 + 1)) ∧ (inR (x5 + 1)) ∧ WD G M_Cl_counts 8 [(0, vR 0), (1, vA x1), (2, vA x2), (3, vI (x3 + 0)), (4, vI (x4 + 1)), (5, vI (x5 + 1))] [] w63 (rc - c52) (rs - s53) (yI K)) ∧ (¬ 0 ≤ (wI w63 a65 3) → (inR (x4 + 0)) ∧ (inR (x5 + 1)) ∧ WD G M_Cl_counts 8 [(0, vR 0), (1, vA x1), (2, vA x2), (3, vI (x3 + 0)), (4, vI (x4 + 0)), (5, vI (x5 + 1))] [] w63 (rc - c52) (rs - s53) (yI K)))))) ∧ (¬ v57 ≤ 0 → (inR (x3 + 1)) ∧ ∃ a74 : Nat, (wR w56 x1 0) = some a74 ∧ ((Is G w56 a74 (kO 14)) ∧ DP G M_Al_get [vA a74, vI x5] w56 0 0 (fun v78 w77 => ∃ a79 : Nat, v78 = some a79 ∧ ((Is G w77 a79 (kO 13)) ∧ (0 ≤ (wI w77 a79 3) → (inR (x4 + 1)) ∧ (inR (x5 + 1)) ∧ WD G M_Cl_counts 8 [(0, vR 0), (1, vA x1), (2, vA x2), (3, vI (x3 + 1)), (4, vI (x4 + 1)), (5, vI (x5 + 1))] [] w77 (rc - c52) (rs - s53) (yI K)) ∧ (¬ 0 ≤ (wI w77 a79 3) → (inR (x4 + 0)) ∧ (inR (x5 + 1)) ∧ WD G M_Cl_counts 8 [(0, vR 0), (1, vA x1), (2, vA x2), (3, vI (x3 + 1)), (4, vI (x4 + 0)), (5, vI (x5 + 1))] [] w77 (rc - c52) (rs - s53) (yI K)))))))))))) : WD G M_Cl_counts 8 [(0, vR 0), (1, vA x1), (2, vA x2), (3, vI x3), (4, vI x4), (5, vI x5)] [] w rc rs (yI K) := by
  refine x_iload d_Cl_counts_8 rfl (?_ : WD _ _ 10 _ _ _ _ _ _)
  refine x_aload_nP (some x1) d_Cl_counts_10 rfl (?_ : WD _ _ 11 _ _ _ _ _ _)
  obtain ⟨k1, h⟩ := h
  refine x_getP (ref := "CoinSamplerLaw$Books") (j := 0) 0 k1 clk_11 (by decide) (qm_2 (i := 156) rfl rfl) (Or.inl rfl) rfl rfl d_Cl_counts_11 (y := (wR w x1 0)) rfl (?_ : WD _ _ 14 _ _ _ _ _ _)
  obtain ⟨a2, e3, h⟩ := h
  rw [e3]
  obtain ⟨k4, h⟩ := h
  refine x_callV (ν := M_Al_size) [] ok_M_Al_size okv_M_Al_size k4 rfl rfl (qm_3 (i := 178) rfl rfl) np_M_Al_size rfl ⟨Nat.le_of_ble_eq_true rfl, Nat.le_of_ble_eq_true rfl⟩ (Nat.le_of_ble_eq_true rfl) rfl d_Cl_counts_14 (Nat.zero_le _) (Nat.zero_le _) (DI.k h (fun v6 w5 gw5 h => (?_ : WD _ _ 17 _ _ _ _ _ _)))
  refine x_icmp_ge 71 d_Cl_counts_17 rfl ⟨fun c7 => (?_ : WD _ _ 71 _ _ _ _ _ _), fun c7 => (?_ : WD _ _ 20 _ _ _ _ _ _)⟩
  · replace h := h.1 c7
    refine x_bipush d_Cl_counts_71 (by decide) (by decide) (?_ : WD _ _ 73 _ _ _ _ _ _)
    obtain ⟨h8, h⟩ := h
    obtain ⟨h9, h⟩ := h
    refine x_newa (t := 0) 10 rfl d_Cl_counts_73 rfl (qm_1 (i := 107) rfl rfl) (fun _ => rfl) (fun _ _ => rfl) (fun _ => rfl) (by decide) (by decide) h8 h9 (fun q10 fq10 => (?_ : WD _ _ 75 _ _ _ _ _ _))
    replace h := h q10 fq10
    have k11 : Ow (uN w5 q10 (kA 0 10)) q10 (kA 0 10) := Ow.nw
    refine x_dup d_Cl_counts_75 rfl (?_ : WD _ _ 76 _ _ _ _ _ _)
    refine x_iconst d_Cl_counts_76 (by decide) (?_ : WD _ _ 77 _ _ _ _ _ _)
    refine x_aload_nP (some x1) d_Cl_counts_77 rfl (?_ : WD _ _ 78 _ _ _ _ _ _)
    refine x_getP (ref := "CoinSamplerLaw$Books") (j := 0) 0 ((k1.q gw5.k).nu fq10) clk_11 (by decide) (qm_2 (i := 156) rfl rfl) (Or.inl rfl) rfl rfl d_Cl_counts_78 (y := (wR w5 x1 0)) (wR_uN (fq10.ne (k1.q gw5.k))) (?_ : WD _ _ 81 _ _ _ _ _ _)
    obtain ⟨a12, e13, h⟩ := h
    rw [e13]
    obtain ⟨k14, h⟩ := h
    refine x_callV (ν := M_Al_size) [] ok_M_Al_size okv_M_Al_size k14 rfl rfl (qm_3 (i := 178) rfl rfl) np_M_Al_size rfl ⟨Nat.le_of_ble_eq_true rfl, Nat.le_of_ble_eq_true rfl⟩ (Nat.le_of_ble_eq_true rfl) rfl d_Cl_counts_81 (Nat.zero_le _) (Nat.zero_le _) (DI.k h (fun v16 w15 gw15 h => (?_ : WD _ _ 84 _ _ _ _ _ _)))
    obtain ⟨h17, h⟩ := h
    refine x_iast (k11.q gw15.k) d_Cl_counts_84 (by decide) h17 (?_ : WD _ _ 85 _ _ _ _ _ _)
    refine x_dup d_Cl_counts_85 rfl (?_ : WD _ _ 86 _ _ _ _ _ _)
    refine x_iconst d_Cl_counts_86 (by decide) (?_ : WD _ _ 87 _ _ _ _ _ _)
    refine x_aload_nP (some x1) d_Cl_counts_87 rfl (?_ : WD _ _ 88 _ _ _ _ _ _)
    obtain ⟨c18, s19, h20, h21, h⟩ := h
    refine x_callV (ν := M_Bo_allCoins) [] ok_M_Bo_allCoins okv_M_Bo_allCoins (((k1.q gw5.k).nu fq10).q gw15.k) rfl rfl (qm_5 (i := 205) rfl rfl) np_M_Bo_allCoins rfl ⟨Nat.le_of_ble_eq_true rfl, Nat.le_of_ble_eq_true rfl⟩ (Nat.le_of_ble_eq_true rfl) rfl d_Cl_counts_88 h20 h21 (DI.k h (fun v23 w22 gw22 h => (?_ : WD _ _ 91 _ _ _ _ _ _)))
    obtain ⟨h24, h⟩ := h
    refine x_iast ((k11.q gw15.k).q gw22.k) d_Cl_counts_91 (by decide) h24 (?_ : WD _ _ 92 _ _ _ _ _ _)
    refine x_dup d_Cl_counts_92 rfl (?_ : WD _ _ 93 _ _ _ _ _ _)
    refine x_iconst d_Cl_counts_93 (by decide) (?_ : WD _ _ 94 _ _ _ _ _ _)
    refine x_aload_nP (some x1) d_Cl_counts_94 rfl (?_ : WD _ _ 95 _ _ _ _ _ _)
    obtain ⟨c25, s26, h27, h28, h⟩ := h
    refine x_callV (ν := M_Bo_owners) [] ok_M_Bo_owners okv_M_Bo_owners ((((k1.q gw5.k).nu fq10).q gw15.k).q gw22.k) rfl rfl (qm_9 (i := 169) rfl rfl) np_M_Bo_owners rfl ⟨Nat.le_of_ble_eq_true rfl, Nat.le_of_ble_eq_true rfl⟩ (Nat.le_of_ble_eq_true rfl) rfl d_Cl_counts_95 h27 h28 (DP.k h (fun v30 w29 gw29 h => (?_ : WD _ _ 98 _ _ _ _ _ _)))
    obtain ⟨a31, e32, h⟩ := h
    rw [e32]
    obtain ⟨n33, h⟩ := h
    obtain ⟨k34, h⟩ := h
    obtain ⟨h35, h⟩ := h
    refine x_alenA k34 (fun _ => rfl) h35 d_Cl_counts_98 (?_ : WD _ _ 99 _ _ _ _ _ _)
    obtain ⟨h36, h⟩ := h
    refine x_iast (((k11.q gw15.k).q gw22.k).q gw29.k) d_Cl_counts_99 (by decide) h36 (?_ : WD _ _ 100 _ _ _ _ _ _)
    refine x_dup d_Cl_counts_100 rfl (?_ : WD _ _ 101 _ _ _ _ _ _)
    refine x_iconst d_Cl_counts_101 (by decide) (?_ : WD _ _ 102 _ _ _ _ _ _)
    refine x_aload_nP (some x1) d_Cl_counts_102 rfl (?_ : WD _ _ 103 _ _ _ _ _ _)
    refine x_getI (ref := "CoinSamplerLaw$Books") (j := 3) 3 (((((k1.q gw5.k).nu fq10).q gw15.k).q gw22.k).q gw29.k) clk_11 (by decide) (qm_2 (i := 162) rfl rfl) (Or.inl rfl) rfl rfl d_Cl_counts_103 (y := (wI w29 x1 3)) (wI_uI_a (fq10.ne (k1.q gw5.k))) (?_ : WD _ _ 106 _ _ _ _ _ _)
    obtain ⟨h37, h⟩ := h
    refine x_iast (((k11.q gw15.k).q gw22.k).q gw29.k) d_Cl_counts_106 (by decide) h37 (?_ : WD _ _ 107 _ _ _ _ _ _)
    refine x_dup d_Cl_counts_107 rfl (?_ : WD _ _ 108 _ _ _ _ _ _)
    refine x_iconst d_Cl_counts_108 (by decide) (?_ : WD _ _ 109 _ _ _ _ _ _)
    refine x_aload_nP (some x1) d_Cl_counts_109 rfl (?_ : WD _ _ 110 _ _ _ _ _ _)
    refine x_getP (ref := "CoinSamplerLaw$Books") (j := 1) 1 (((((k1.q gw5.k).nu fq10).q gw15.k).q gw22.k).q gw29.k) clk_11 (by decide) (qm_2 (i := 158) rfl rfl) (Or.inl rfl) rfl rfl d_Cl_counts_110 (y := (wR w29 x1 1)) rfl (?_ : WD _ _ 113 _ _ _ _ _ _)
    obtain ⟨a38, e39, h⟩ := h
    rw [e39]
    obtain ⟨k40, h⟩ := h
    refine x_callV (ν := M_Al_size) [] ok_M_Al_size okv_M_Al_size k40 rfl rfl (qm_3 (i := 178) rfl rfl) np_M_Al_size rfl ⟨Nat.le_of_ble_eq_true rfl, Nat.le_of_ble_eq_true rfl⟩ (Nat.le_of_ble_eq_true rfl) rfl d_Cl_counts_113 (Nat.zero_le _) (Nat.zero_le _) (DI.k h (fun v42 w41 gw41 h => (?_ : WD _ _ 116 _ _ _ _ _ _)))
    obtain ⟨h43, h⟩ := h
    refine x_iast ((((k11.q gw15.k).q gw22.k).q gw29.k).q gw41.k) d_Cl_counts_116 (by decide) h43 (?_ : WD _ _ 117 _ _ _ _ _ _)
    refine x_dup d_Cl_counts_117 rfl (?_ : WD _ _ 118 _ _ _ _ _ _)
    refine x_iconst d_Cl_counts_118 (by decide) (?_ : WD _ _ 119 _ _ _ _ _ _)
    refine x_aload_nP (some x2) d_Cl_counts_119 rfl (?_ : WD _ _ 120 _ _ _ _ _ _)
    obtain ⟨k44, h⟩ := h
    refine x_callV (ν := M_Al_size) [] ok_M_Al_size okv_M_Al_size k44 rfl rfl (qm_3 (i := 178) rfl rfl) np_M_Al_size rfl ⟨Nat.le_of_ble_eq_true rfl, Nat.le_of_ble_eq_true rfl⟩ (Nat.le_of_ble_eq_true rfl) rfl d_Cl_counts_120 (Nat.zero_le _) (Nat.zero_le _) (DI.k h (fun v46 w45 gw45 h => (?_ : WD _ _ 123 _ _ _ _ _ _)))
    obtain ⟨h47, h⟩ := h
    refine x_iast (((((k11.q gw15.k).q gw22.k).q gw29.k).q gw41.k).q gw45.k) d_Cl_counts_123 (by decide) h47 (?_ : WD _ _ 124 _ _ _ _ _ _)
    refine x_dup d_Cl_counts_124 rfl (?_ : WD _ _ 125 _ _ _ _ _ _)
    refine x_bipush d_Cl_counts_125 (by decide) (by decide) (?_ : WD _ _ 127 _ _ _ _ _ _)
    refine x_iload_n d_Cl_counts_127 rfl (?_ : WD _ _ 128 _ _ _ _ _ _)
    obtain ⟨h48, h⟩ := h
    refine x_iast (((((k11.q gw15.k).q gw22.k).q gw29.k).q gw41.k).q gw45.k) d_Cl_counts_128 (by decide) h48 (?_ : WD _ _ 129 _ _ _ _ _ _)
    refine x_dup d_Cl_counts_129 rfl (?_ : WD _ _ 130 _ _ _ _ _ _)
    refine x_bipush d_Cl_counts_130 (by decide) (by decide) (?_ : WD _ _ 132 _ _ _ _ _ _)
    refine x_iconst d_Cl_counts_132 (by decide) (?_ : WD _ _ 133 _ _ _ _ _ _)
    obtain ⟨h49, h⟩ := h
    refine x_iast (((((k11.q gw15.k).q gw22.k).q gw29.k).q gw41.k).q gw45.k) d_Cl_counts_133 (by decide) h49 (?_ : WD _ _ 134 _ _ _ _ _ _)
    refine x_dup d_Cl_counts_134 rfl (?_ : WD _ _ 135 _ _ _ _ _ _)
    refine x_bipush d_Cl_counts_135 (by decide) (by decide) (?_ : WD _ _ 137 _ _ _ _ _ _)
    refine x_iload d_Cl_counts_137 rfl (?_ : WD _ _ 139 _ _ _ _ _ _)
    obtain ⟨h50, h⟩ := h
    refine x_iast (((((k11.q gw15.k).q gw22.k).q gw29.k).q gw41.k).q gw45.k) d_Cl_counts_139 (by decide) h50 (?_ : WD _ _ 140 _ _ _ _ _ _)
    refine x_dup d_Cl_counts_140 rfl (?_ : WD _ _ 141 _ _ _ _ _ _)
    refine x_bipush d_Cl_counts_141 (by decide) (by decide) (?_ : WD _ _ 143 _ _ _ _ _ _)
    refine x_aload_nP (some x1) d_Cl_counts_143 rfl (?_ : WD _ _ 144 _ _ _ _ _ _)
    refine x_getI (ref := "CoinSamplerLaw$Books") (j := 4) 4 (((((((k1.q gw5.k).nu fq10).q gw15.k).q gw22.k).q gw29.k).q gw41.k).q gw45.k) clk_11 (by decide) (qm_2 (i := 164) rfl rfl) (Or.inl rfl) rfl rfl d_Cl_counts_144 (y := (wI w45 x1 4)) ((wI_uI_a (fq10.ne (k1.q gw5.k))).trans ((wI_uI_a (fq10.ne (k1.q gw5.k))).trans ((wI_uI_a (fq10.ne (k1.q gw5.k))).trans (wI_uI_a (fq10.ne (k1.q gw5.k)))))) (?_ : WD _ _ 147 _ _ _ _ _ _)
    obtain ⟨h51, h⟩ := h
    refine x_iast (((((k11.q gw15.k).q gw22.k).q gw29.k).q gw41.k).q gw45.k) d_Cl_counts_147 (by decide) h51 (?_ : WD _ _ 148 _ _ _ _ _ _)
    refine x_astoreP (some q10) (ls' := [(5, vA q10), (0, vR 0), (1, vA x1), (2, vA x2), (3, vI x3), (4, vI x4)]) d_Cl_counts_148 (by decide) rfl (?_ : WD _ _ 150 _ _ _ _ _ _)
    refine x_iconst d_Cl_counts_150 (by decide) (?_ : WD _ _ 151 _ _ _ _ _ _)
    refine x_istore (ls' := [(6, vI 0), (5, vA q10), (0, vR 0), (1, vA x1), (2, vA x2), (3, vI x3), (4, vI x4)]) d_Cl_counts_151 (by decide) rfl (?_ : WD _ _ 153 _ _ _ _ _ _)
    refine x_pick (ls' := [(0, vR 0), (1, vA x1), (5, vA q10), (6, vI 0)]) [2, 3, 1, 0] rfl ?_
    exact h
  · replace h := h.2 c7
    refine x_iload_n d_Cl_counts_20 rfl (?_ : WD _ _ 21 _ _ _ _ _ _)
    refine x_aload_nP (some x2) d_Cl_counts_21 rfl (?_ : WD _ _ 22 _ _ _ _ _ _)
    refine x_iload d_Cl_counts_22 rfl (?_ : WD _ _ 24 _ _ _ _ _ _)
    obtain ⟨c52, s53, h54, h55, h⟩ := h
    refine x_callS (ν := M_Cl_oftenOf) [vA x2, vI x5] ok_M_Cl_oftenOf oks_M_Cl_oftenOf (qm_6 (i := 200) rfl rfl) np_M_Cl_oftenOf rfl ⟨Nat.le_of_ble_eq_true rfl, Nat.le_of_ble_eq_true rfl⟩ (Nat.le_of_ble_eq_true rfl) rfl d_Cl_counts_24 h54 h55 (DI.k h (fun v57 w56 gw56 h => (?_ : WD _ _ 27 _ _ _ _ _ _)))
    refine x_if_le 34 d_Cl_counts_27 rfl ⟨fun c58 => (?_ : WD _ _ 34 _ _ _ _ _ _), fun c58 => (?_ : WD _ _ 30 _ _ _ _ _ _)⟩
    · replace h := h.1 c58
      refine x_iconst d_Cl_counts_34 (by decide) (?_ : WD _ _ 35 _ _ _ _ _ _)
      obtain ⟨h59, h⟩ := h
      refine x_iadd d_Cl_counts_35 h59 (?_ : WD _ _ 36 _ _ _ _ _ _)
      refine x_istore_n (ls' := [(3, vI (x3 + 0)), (0, vR 0), (1, vA x1), (2, vA x2), (4, vI x4), (5, vI x5)]) d_Cl_counts_36 rfl (by decide) rfl (?_ : WD _ _ 37 _ _ _ _ _ _)
      refine x_iload d_Cl_counts_37 rfl (?_ : WD _ _ 39 _ _ _ _ _ _)
      refine x_aload_nP (some x1) d_Cl_counts_39 rfl (?_ : WD _ _ 40 _ _ _ _ _ _)
      refine x_getP (ref := "CoinSamplerLaw$Books") (j := 0) 0 ((k1.q gw5.k).q gw56.k) clk_11 (by decide) (qm_2 (i := 156) rfl rfl) (Or.inl rfl) rfl rfl d_Cl_counts_40 (y := (wR w56 x1 0)) rfl (?_ : WD _ _ 43 _ _ _ _ _ _)
      refine x_iload d_Cl_counts_43 rfl (?_ : WD _ _ 45 _ _ _ _ _ _)
      obtain ⟨a60, e61, h⟩ := h
      rw [e61]
      obtain ⟨k62, h⟩ := h
      refine x_callV (ν := M_Al_get) [vI x5] ok_M_Al_get okv_M_Al_get k62 rfl rfl (qm_3 (i := 183) rfl rfl) np_M_Al_get rfl ⟨Nat.le_of_ble_eq_true rfl, Nat.le_of_ble_eq_true rfl⟩ (Nat.le_of_ble_eq_true rfl) rfl d_Cl_counts_45 (Nat.zero_le _) (Nat.zero_le _) (DP.k h (fun v64 w63 gw63 h => (?_ : WD _ _ 48 _ _ _ _ _ _)))
      obtain ⟨a65, e66, h⟩ := h
      rw [e66]
      obtain ⟨k67, h⟩ := h
      refine x_cast k67 rfl (Or.inl rfl) (qm_3 (i := 184) rfl rfl) d_Cl_counts_48 (?_ : WD _ _ 51 _ _ _ _ _ _)
      refine x_getI (ref := "CoinSamplerLaw$Item") (j := 3) 3 k67 clk_13 (by decide) (qm_4 (i := 159) rfl rfl) (Or.inl rfl) rfl rfl d_Cl_counts_51 (y := (wI w63 a65 3)) rfl (?_ : WD _ _ 54 _ _ _ _ _ _)
      refine x_if_ge 61 d_Cl_counts_54 rfl ⟨fun c68 => (?_ : WD _ _ 61 _ _ _ _ _ _), fun c68 => (?_ : WD _ _ 57 _ _ _ _ _ _)⟩
      · replace h := h.1 c68
        refine x_iconst d_Cl_counts_61 (by decide) (?_ : WD _ _ 62 _ _ _ _ _ _)
        obtain ⟨h69, h⟩ := h
        refine x_iadd d_Cl_counts_62 h69 (?_ : WD _ _ 63 _ _ _ _ _ _)
        refine x_istore (ls' := [(4, vI (x4 + 1)), (3, vI (x3 + 0)), (0, vR 0), (1, vA x1), (2, vA x2), (5, vI x5)]) d_Cl_counts_63 (by decide) rfl (?_ : WD _ _ 65 _ _ _ _ _ _)
        obtain ⟨h70, h⟩ := h
        refine x_iinc (ls' := [(5, vI (x5 + 1)), (4, vI (x4 + 1)), (3, vI (x3 + 0)), (0, vR 0), (1, vA x1), (2, vA x2)]) d_Cl_counts_65 rfl h70 (by decide) rfl (?_ : WD _ _ 68 _ _ _ _ _ _)
        refine x_goto 8 d_Cl_counts_68 rfl ?_
        refine x_pick (ls' := [(0, vR 0), (1, vA x1), (2, vA x2), (3, vI (x3 + 0)), (4, vI (x4 + 1)), (5, vI (x5 + 1))]) [3, 4, 5, 2, 1, 0] rfl ?_
        exact h
      · replace h := h.2 c68
        refine x_iconst d_Cl_counts_57 (by decide) (?_ : WD _ _ 58 _ _ _ _ _ _)
        refine x_goto 62 d_Cl_counts_58 rfl ?_
        obtain ⟨h71, h⟩ := h
        refine x_iadd d_Cl_counts_62 h71 (?_ : WD _ _ 63 _ _ _ _ _ _)
        refine x_istore (ls' := [(4, vI (x4 + 0)), (3, vI (x3 + 0)), (0, vR 0), (1, vA x1), (2, vA x2), (5, vI x5)]) d_Cl_counts_63 (by decide) rfl (?_ : WD _ _ 65 _ _ _ _ _ _)
        obtain ⟨h72, h⟩ := h
        refine x_iinc (ls' := [(5, vI (x5 + 1)), (4, vI (x4 + 0)), (3, vI (x3 + 0)), (0, vR 0), (1, vA x1), (2, vA x2)]) d_Cl_counts_65 rfl h72 (by decide) rfl (?_ : WD _ _ 68 _ _ _ _ _ _)
        refine x_goto 8 d_Cl_counts_68 rfl ?_
        refine x_pick (ls' := [(0, vR 0), (1, vA x1), (2, vA x2), (3, vI (x3 + 0)), (4, vI (x4 + 0)), (5, vI (x5 + 1))]) [3, 4, 5, 2, 1, 0] rfl ?_
        exact h
    · replace h := h.2 c58
      refine x_iconst d_Cl_counts_30 (by decide) (?_ : WD _ _ 31 _ _ _ _ _ _)
      refine x_goto 35 d_Cl_counts_31 rfl ?_
      obtain ⟨h73, h⟩ := h
      refine x_iadd d_Cl_counts_35 h73 (?_ : WD _ _ 36 _ _ _ _ _ _)
      refine x_istore_n (ls' := [(3, vI (x3 + 1)), (0, vR 0), (1, vA x1), (2, vA x2), (4, vI x4), (5, vI x5)]) d_Cl_counts_36 rfl (by decide) rfl (?_ : WD _ _ 37 _ _ _ _ _ _)
      refine x_iload d_Cl_counts_37 rfl (?_ : WD _ _ 39 _ _ _ _ _ _)
      refine x_aload_nP (some x1) d_Cl_counts_39 rfl (?_ : WD _ _ 40 _ _ _ _ _ _)
      refine x_getP (ref := "CoinSamplerLaw$Books") (j := 0) 0 ((k1.q gw5.k).q gw56.k) clk_11 (by decide) (qm_2 (i := 156) rfl rfl) (Or.inl rfl) rfl rfl d_Cl_counts_40 (y := (wR w56 x1 0)) rfl (?_ : WD _ _ 43 _ _ _ _ _ _)
      refine x_iload d_Cl_counts_43 rfl (?_ : WD _ _ 45 _ _ _ _ _ _)
      obtain ⟨a74, e75, h⟩ := h
      rw [e75]
      obtain ⟨k76, h⟩ := h
      refine x_callV (ν := M_Al_get) [vI x5] ok_M_Al_get okv_M_Al_get k76 rfl rfl (qm_3 (i := 183) rfl rfl) np_M_Al_get rfl ⟨Nat.le_of_ble_eq_true rfl, Nat.le_of_ble_eq_true rfl⟩ (Nat.le_of_ble_eq_true rfl) rfl d_Cl_counts_45 (Nat.zero_le _) (Nat.zero_le _) (DP.k h (fun v78 w77 gw77 h => (?_ : WD _ _ 48 _ _ _ _ _ _)))
      obtain ⟨a79, e80, h⟩ := h
      rw [e80]
      obtain ⟨k81, h⟩ := h
      refine x_cast k81 rfl (Or.inl rfl) (qm_3 (i := 184) rfl rfl) d_Cl_counts_48 (?_ : WD _ _ 51 _ _ _ _ _ _)
      refine x_getI (ref := "CoinSamplerLaw$Item") (j := 3) 3 k81 clk_13 (by decide) (qm_4 (i := 159) rfl rfl) (Or.inl rfl) rfl rfl d_Cl_counts_51 (y := (wI w77 a79 3)) rfl (?_ : WD _ _ 54 _ _ _ _ _ _)
      refine x_if_ge 61 d_Cl_counts_54 rfl ⟨fun c82 => (?_ : WD _ _ 61 _ _ _ _ _ _), fun c82 => (?_ : WD _ _ 57 _ _ _ _ _ _)⟩
      · replace h := h.1 c82
        refine x_iconst d_Cl_counts_61 (by decide) (?_ : WD _ _ 62 _ _ _ _ _ _)
        obtain ⟨h83, h⟩ := h
        refine x_iadd d_Cl_counts_62 h83 (?_ : WD _ _ 63 _ _ _ _ _ _)
        refine x_istore (ls' := [(4, vI (x4 + 1)), (3, vI (x3 + 1)), (0, vR 0), (1, vA x1), (2, vA x2), (5, vI x5)]) d_Cl_counts_63 (by decide) rfl (?_ : WD _ _ 65 _ _ _ _ _ _)
        obtain ⟨h84, h⟩ := h
        refine x_iinc (ls' := [(5, vI (x5 + 1)), (4, vI (x4 + 1)), (3, vI (x3 + 1)), (0, vR 0), (1, vA x1), (2, vA x2)]) d_Cl_counts_65 rfl h84 (by decide) rfl (?_ : WD _ _ 68 _ _ _ _ _ _)
        refine x_goto 8 d_Cl_counts_68 rfl ?_
        refine x_pick (ls' := [(0, vR 0), (1, vA x1), (2, vA x2), (3, vI (x3 + 1)), (4, vI (x4 + 1)), (5, vI (x5 + 1))]) [3, 4, 5, 2, 1, 0] rfl ?_
        exact h
      · replace h := h.2 c82
        refine x_iconst d_Cl_counts_57 (by decide) (?_ : WD _ _ 58 _ _ _ _ _ _)
        refine x_goto 62 d_Cl_counts_58 rfl ?_
        obtain ⟨h85, h⟩ := h
        refine x_iadd d_Cl_counts_62 h85 (?_ : WD _ _ 63 _ _ _ _ _ _)
        refine x_istore (ls' := [(4, vI (x4 + 0)), (3, vI (x3 + 1)), (0, vR 0), (1, vA x1), (2, vA x2), (5, vI x5)]) d_Cl_counts_63 (by decide) rfl (?_ : WD _ _ 65 _ _ _ _ _ _)
        obtain ⟨h86, h⟩ := h
        refine x_iinc (ls' := [(5, vI (x5 + 1)), (4, vI (x4 + 0)), (3, vI (x3 + 1)), (0, vR 0), (1, vA x1), (2, vA x2)]) d_Cl_counts_65 rfl h86 (by decide) rfl (?_ : WD _ _ 68 _ _ _ _ _ _)
        refine x_goto 8 d_Cl_counts_68 rfl ?_
        refine x_pick (ls' := [(0, vR 0), (1, vA x1), (2, vA x2), (3, vI (x3 + 1)), (4, vI (x4 + 0)), (5, vI (x5 + 1))]) [3, 4, 5, 2, 1, 0] rfl ?_
        exact h
set_option maxRecDepth 20000 in
theorem l_Cl_counts_2 {G : Gq} {K : Int → Wd → Prop} {w : Wd} {rc rs : Nat} (x1 : Nat) (x5 : Nat) (x6 : Int) (h : (10 ≤ x6 → WD G M_Cl_counts 185 [(0, vR 0), (1, vA x1), (6, vI 0)] [] w rc rs (yI K)) ∧ (¬ 10 ≤ x6 → CI M_Cs_count [vR 0, vI x6] (wS w) (fun v88 σ89 => ∃ n90 : Nat, ((Is G (uS w σ89) x5 (kA 0 n90)) ∧ (0 ≤ x6) ∧ (x6 < (n90 : Int)) ∧ (v88 = (wI w x5 x6) → (inR (x6 + 1)) ∧ WD G M_Cl_counts 153 [(0, vR 0), (1, vA x1), (5, vA x5), (6, vI (x6 + 1))] [] (uS w σ89) rc rs (yI K)) ∧ (¬ v88 = (wI w x5 x6) → K 0 (uS w σ89)))))) : WD G M_Cl_counts 153 [(0, vR 0), (1, vA x1), (5, vA x5), (6, vI x6)] [] w rc rs (yI K) := by
  refine x_iload d_Cl_counts_153 rfl (?_ : WD _ _ 155 _ _ _ _ _ _)
  refine x_bipush d_Cl_counts_155 (by decide) (by decide) (?_ : WD _ _ 157 _ _ _ _ _ _)
  refine x_icmp_ge 182 d_Cl_counts_157 rfl ⟨fun c87 => (?_ : WD _ _ 182 _ _ _ _ _ _), fun c87 => (?_ : WD _ _ 160 _ _ _ _ _ _)⟩
  · replace h := h.1 c87
    refine x_iconst d_Cl_counts_182 (by decide) (?_ : WD _ _ 183 _ _ _ _ _ _)
    refine x_istore (ls' := [(6, vI 0), (0, vR 0), (1, vA x1), (5, vA x5)]) d_Cl_counts_183 (by decide) rfl (?_ : WD _ _ 185 _ _ _ _ _ _)
    refine x_pick (ls' := [(0, vR 0), (1, vA x1), (6, vI 0)]) [1, 2, 0] rfl ?_
    exact h
  · replace h := h.2 c87
    refine x_aload_n d_Cl_counts_160 rfl (?_ : WD _ _ 161 _ _ _ _ _ _)
    refine x_iload d_Cl_counts_161 rfl (?_ : WD _ _ 163 _ _ _ _ _ _)
    refine x_callC (ν := M_Cs_count) (k := 0) [vI x6] ok_M_Cs_count okv_M_Cs_count (by decide) rfl rfl rfl (qm_10 (i := 158) rfl rfl) np_M_Cs_count rfl ⟨Nat.le_of_ble_eq_true rfl, Nat.le_of_ble_eq_true rfl⟩ (Nat.le_of_ble_eq_true rfl) rfl d_Cl_counts_163 (CI.kd h (fun v88 σ89 h => (?_ : WD _ _ 166 _ _ _ _ _ _)))
    refine x_aloadP (some x5) d_Cl_counts_166 rfl (?_ : WD _ _ 168 _ _ _ _ _ _)
    refine x_iload d_Cl_counts_168 rfl (?_ : WD _ _ 170 _ _ _ _ _ _)
    obtain ⟨n90, h⟩ := h
    obtain ⟨k91, h⟩ := h
    obtain ⟨h92, h⟩ := h
    obtain ⟨h93, h⟩ := h
    refine x_iald k91 d_Cl_counts_170 h92 h93 (y := (wI w x5 x6)) rfl (?_ : WD _ _ 171 _ _ _ _ _ _)
    refine x_icmp_eq 176 d_Cl_counts_171 rfl ⟨fun c94 => (?_ : WD _ _ 176 _ _ _ _ _ _), fun c94 => (?_ : WD _ _ 174 _ _ _ _ _ _)⟩
    · replace h := h.1 c94
      obtain ⟨h95, h⟩ := h
      refine x_iinc (ls' := [(6, vI (x6 + 1)), (0, vR 0), (1, vA x1), (5, vA x5)]) d_Cl_counts_176 rfl h95 (by decide) rfl (?_ : WD _ _ 179 _ _ _ _ _ _)
      refine x_goto 153 d_Cl_counts_179 rfl ?_
      refine x_pick (ls' := [(0, vR 0), (1, vA x1), (5, vA x5), (6, vI (x6 + 1))]) [1, 2, 3, 0] rfl ?_
      exact h
    · replace h := h.2 c94
      refine x_iconst d_Cl_counts_174 (by decide) (?_ : WD _ _ 175 _ _ _ _ _ _)
      exact x_zreturn rfl d_Cl_counts_175 (by decide) h
set_option maxRecDepth 20000 in
theorem l_Cl_counts_3 {G : Gq} {K : Int → Wd → Prop} {w : Wd} {rc rs : Nat} (x1 : Nat) (x6 : Int) (h : (5 ≤ x6 → CI M_Cs_count [vR 0, vI 15] (wS w) (fun v97 σ98 => (¬ v97 = (-1) → K 0 (uS w σ98)) ∧ (v97 = (-1) → CI M_Cs_count [vR 0, vI (-1)] (wS (uS w σ98)) (fun v100 σ101 => (¬ v100 = (-1) → K 0 (uS (uS w σ98) σ101)) ∧ (v100 = (-1) → K 1 (uS (uS w σ98) σ101)))))) ∧ (¬ 5 ≤ x6 → (inR (10 + x6)) ∧ CI M_Cs_count [vR 0, vI (10 + x6)] (wS w) (fun v104 σ105 => (Is G (uS w σ105) x1 (kO 11)) ∧ ∃ a107 : Nat, (wR w x1 2) = some a107 ∧ (∃ n109 : Nat, ((Is G (uS w σ105) a107 (kA 0 n109)) ∧ (0 ≤ x6) ∧ (x6 < (n109 : Int)) ∧ (v104 = (wI w a107 x6) → (inR (x6 + 1)) ∧ WD G M_Cl_counts 185 [(0, vR 0), (1, vA x1), (6, vI (x6 + 1))] [] (uS w σ105) rc rs (yI K)) ∧ (¬ v104 = (wI w a107 x6) → K 0 (uS w σ105))))))) : WD G M_Cl_counts 185 [(0, vR 0), (1, vA x1), (6, vI x6)] [] w rc rs (yI K) := by
  refine x_iload d_Cl_counts_185 rfl (?_ : WD _ _ 187 _ _ _ _ _ _)
  refine x_iconst d_Cl_counts_187 (by decide) (?_ : WD _ _ 188 _ _ _ _ _ _)
  refine x_icmp_ge 218 d_Cl_counts_188 rfl ⟨fun c96 => (?_ : WD _ _ 218 _ _ _ _ _ _), fun c96 => (?_ : WD _ _ 191 _ _ _ _ _ _)⟩
  · replace h := h.1 c96
    refine x_aload_n d_Cl_counts_218 rfl (?_ : WD _ _ 219 _ _ _ _ _ _)
    refine x_bipush d_Cl_counts_219 (by decide) (by decide) (?_ : WD _ _ 221 _ _ _ _ _ _)
    refine x_callC (ν := M_Cs_count) (k := 0) [vI 15] ok_M_Cs_count okv_M_Cs_count (by decide) rfl rfl rfl (qm_10 (i := 158) rfl rfl) np_M_Cs_count rfl ⟨Nat.le_of_ble_eq_true rfl, Nat.le_of_ble_eq_true rfl⟩ (Nat.le_of_ble_eq_true rfl) rfl d_Cl_counts_221 (CI.kd h (fun v97 σ98 h => (?_ : WD _ _ 224 _ _ _ _ _ _)))
    refine x_iconst d_Cl_counts_224 (by decide) (?_ : WD _ _ 225 _ _ _ _ _ _)
    refine x_icmp_ne 241 d_Cl_counts_225 rfl ⟨fun c99 => (?_ : WD _ _ 241 _ _ _ _ _ _), fun c99 => (?_ : WD _ _ 228 _ _ _ _ _ _)⟩
    · replace h := h.1 c99
      refine x_iconst d_Cl_counts_241 (by decide) (?_ : WD _ _ 242 _ _ _ _ _ _)
      exact x_zreturn rfl d_Cl_counts_242 (by decide) h
    · replace h := h.2 c99
      refine x_aload_n d_Cl_counts_228 rfl (?_ : WD _ _ 229 _ _ _ _ _ _)
      refine x_iconst d_Cl_counts_229 (by decide) (?_ : WD _ _ 230 _ _ _ _ _ _)
      refine x_callC (ν := M_Cs_count) (k := 0) [vI (-1)] ok_M_Cs_count okv_M_Cs_count (by decide) rfl rfl rfl (qm_10 (i := 158) rfl rfl) np_M_Cs_count rfl ⟨Nat.le_of_ble_eq_true rfl, Nat.le_of_ble_eq_true rfl⟩ (Nat.le_of_ble_eq_true rfl) rfl d_Cl_counts_230 (CI.kd h (fun v100 σ101 h => (?_ : WD _ _ 233 _ _ _ _ _ _)))
      refine x_iconst d_Cl_counts_233 (by decide) (?_ : WD _ _ 234 _ _ _ _ _ _)
      refine x_icmp_ne 241 d_Cl_counts_234 rfl ⟨fun c102 => (?_ : WD _ _ 241 _ _ _ _ _ _), fun c102 => (?_ : WD _ _ 237 _ _ _ _ _ _)⟩
      · replace h := h.1 c102
        refine x_iconst d_Cl_counts_241 (by decide) (?_ : WD _ _ 242 _ _ _ _ _ _)
        exact x_zreturn rfl d_Cl_counts_242 (by decide) h
      · replace h := h.2 c102
        refine x_iconst d_Cl_counts_237 (by decide) (?_ : WD _ _ 238 _ _ _ _ _ _)
        refine x_goto 242 d_Cl_counts_238 rfl ?_
        exact x_zreturn rfl d_Cl_counts_242 (by decide) h
  · replace h := h.2 c96
    refine x_aload_n d_Cl_counts_191 rfl (?_ : WD _ _ 192 _ _ _ _ _ _)
    refine x_bipush d_Cl_counts_192 (by decide) (by decide) (?_ : WD _ _ 194 _ _ _ _ _ _)
    refine x_iload d_Cl_counts_194 rfl (?_ : WD _ _ 196 _ _ _ _ _ _)
    obtain ⟨h103, h⟩ := h
    refine x_iadd d_Cl_counts_196 h103 (?_ : WD _ _ 197 _ _ _ _ _ _)
    refine x_callC (ν := M_Cs_count) (k := 0) [vI (10 + x6)] ok_M_Cs_count okv_M_Cs_count (by decide) rfl rfl rfl (qm_10 (i := 158) rfl rfl) np_M_Cs_count rfl ⟨Nat.le_of_ble_eq_true rfl, Nat.le_of_ble_eq_true rfl⟩ (Nat.le_of_ble_eq_true rfl) rfl d_Cl_counts_197 (CI.kd h (fun v104 σ105 h => (?_ : WD _ _ 200 _ _ _ _ _ _)))
    refine x_aload_nP (some x1) d_Cl_counts_200 rfl (?_ : WD _ _ 201 _ _ _ _ _ _)
    obtain ⟨k106, h⟩ := h
    refine x_getP (ref := "CoinSamplerLaw$Books") (j := 2) 2 k106 clk_11 (by decide) (qm_2 (i := 160) rfl rfl) (Or.inl rfl) rfl rfl d_Cl_counts_201 (y := (wR w x1 2)) rfl (?_ : WD _ _ 204 _ _ _ _ _ _)
    refine x_iload d_Cl_counts_204 rfl (?_ : WD _ _ 206 _ _ _ _ _ _)
    obtain ⟨a107, e108, h⟩ := h
    rw [e108]
    obtain ⟨n109, h⟩ := h
    obtain ⟨k110, h⟩ := h
    obtain ⟨h111, h⟩ := h
    obtain ⟨h112, h⟩ := h
    refine x_iald k110 d_Cl_counts_206 h111 h112 (y := (wI w a107 x6)) rfl (?_ : WD _ _ 207 _ _ _ _ _ _)
    refine x_icmp_eq 212 d_Cl_counts_207 rfl ⟨fun c113 => (?_ : WD _ _ 212 _ _ _ _ _ _), fun c113 => (?_ : WD _ _ 210 _ _ _ _ _ _)⟩
    · replace h := h.1 c113
      obtain ⟨h114, h⟩ := h
      refine x_iinc (ls' := [(6, vI (x6 + 1)), (0, vR 0), (1, vA x1)]) d_Cl_counts_212 rfl h114 (by decide) rfl (?_ : WD _ _ 215 _ _ _ _ _ _)
      refine x_goto 185 d_Cl_counts_215 rfl ?_
      refine x_pick (ls' := [(0, vR 0), (1, vA x1), (6, vI (x6 + 1))]) [1, 2, 0] rfl ?_
      exact h
    · replace h := h.2 c113
      refine x_iconst d_Cl_counts_210 (by decide) (?_ : WD _ _ 211 _ _ _ _ _ _)
      exact x_zreturn rfl d_Cl_counts_211 (by decide) h
set_option maxRecDepth 20000 in
theorem e_Cl_draw {G : Gq} {K : Int → Wd → Prop} {w : Wd} {mc ms : Nat} (x0 : Nat) (x1 : Int) (h : ∃ n1 : Nat, ((Is G w x0 (kA 0 n1)) ∧ (0 < (n1 : Int)) ∧ (Ow w x0 (kA 0 n1)) ∧ (0 ≤ (iushrq (wr ((wr (1103515245 * (wI w x0 0))) + 12345)) 16)) ∧ (0 < x1) ∧ K ((iushrq (wr ((wr (1103515245 * (wI w x0 0))) + 12345)) 16) % x1) (uI w x0 0 (wr ((wr (1103515245 * (wI w x0 0))) + 12345))))) : DI G M_Cl_draw [vA x0, vI x1] w mc ms K := by
  refine DC.of ok_M_Cl_draw (ls := [(0, vA x0), (1, vI x1)]) rfl (Nat.le_of_ble_eq_true rfl) ?_
  refine x_aload_nP (some x0) d_Cl_draw_0 rfl (?_ : WD _ _ 1 _ _ _ _ _ _)
  refine x_iconst d_Cl_draw_1 (by decide) (?_ : WD _ _ 2 _ _ _ _ _ _)
  refine x_ldc 1103515245 d_Cl_draw_2 (qm_3 (i := 182) rfl rfl) (by decide) (by decide) (?_ : WD _ _ 4 _ _ _ _ _ _)
  refine x_aload_nP (some x0) d_Cl_draw_4 rfl (?_ : WD _ _ 5 _ _ _ _ _ _)
  refine x_iconst d_Cl_draw_5 (by decide) (?_ : WD _ _ 6 _ _ _ _ _ _)
  obtain ⟨n1, h⟩ := h
  obtain ⟨k2, h⟩ := h
  obtain ⟨h3, h⟩ := h
  refine x_iald k2 d_Cl_draw_6 (by decide) h3 (y := (wI w x0 0)) rfl (?_ : WD _ _ 7 _ _ _ _ _ _)
  refine x_imulw d_Cl_draw_7 (?_ : WD _ _ 8 _ _ _ _ _ _)
  refine x_sipush d_Cl_draw_8 (by decide) (by decide) (?_ : WD _ _ 11 _ _ _ _ _ _)
  refine x_iaddw d_Cl_draw_11 (?_ : WD _ _ 12 _ _ _ _ _ _)
  obtain ⟨k4, h⟩ := h
  refine x_iast k4 d_Cl_draw_12 (by decide) h3 (?_ : WD _ _ 13 _ _ _ _ _ _)
  refine x_aload_nP (some x0) d_Cl_draw_13 rfl (?_ : WD _ _ 14 _ _ _ _ _ _)
  refine x_iconst d_Cl_draw_14 (by decide) (?_ : WD _ _ 15 _ _ _ _ _ _)
  refine x_iald k4.is d_Cl_draw_15 (by decide) h3 (y := (wr ((wr (1103515245 * (wI w x0 0))) + 12345))) (wI_uI_s) (?_ : WD _ _ 16 _ _ _ _ _ _)
  refine x_bipush d_Cl_draw_16 (by decide) (by decide) (?_ : WD _ _ 18 _ _ _ _ _ _)
  refine x_iushrq d_Cl_draw_18 (?_ : WD _ _ 19 _ _ _ _ _ _)
  refine x_iload_n d_Cl_draw_19 rfl (?_ : WD _ _ 20 _ _ _ _ _ _)
  obtain ⟨h5, h⟩ := h
  obtain ⟨h6, h⟩ := h
  refine x_iremn d_Cl_draw_20 h5 h6 (?_ : WD _ _ 21 _ _ _ _ _ _)
  exact x_ireturn rfl d_Cl_draw_21 h
set_option maxRecDepth 20000 in
theorem e_Cl_drawn {G : Gq} {K : Option Nat → Wd → Prop} {w : Wd} {mc ms : Nat} (x0 : Nat) (x1 : Nat) (h : (1 ≤ mc) ∧ (4 ≤ ms) ∧ ∀ q3 : Nat, Fr G w q3 → (∃ c5 s6 : Nat, c5 ≤ (mc - 1) ∧ s6 ≤ (ms - 4) ∧ (DV G M_Sb_init [vA q3] (uN w q3 (kO 17)) c5 s6 (fun w9 => (Is G w9 x0 (kO 11)) ∧ ∃ a12 : Nat, (wR w9 x0 0) = some a12 ∧ ((Is G w9 a12 (kO 14)) ∧ DV G M_Al_clear [vA a12] w9 0 0 (fun w15 => ∃ a17 : Nat, (wR w15 x0 1) = some a17 ∧ ((Is G w15 a17 (kO 14)) ∧ DV G M_Al_clear [vA a17] w15 0 0 (fun w20 => (Ow w20 x0 (kO 11)) ∧ ∃ a23 : Nat, (wR w20 x0 2) = some a23 ∧ (∃ n25 : Nat, ((Is G (uI w20 x0 3 0) a23 (kA 0 n25)) ∧ (4 < (n25 : Int)) ∧ DI G M_Cl_draw [vA x1, vI 6] (uI (uI w20 x0 3 0) x0 4 (wI (uI w20 x0 3 0) a23 4)) 0 0 (fun v29 w28 => (¬ v29 = 0 → DI G M_Cl_draw [vA x1, vI 26] w28 0 0 (fun v32 w31 => (inR (3 + v32)) ∧ DI G M_Cl_draw [vA x1, vI 3] w31 0 0 (fun v35 w34 => (¬ v35 = 0 → WD G M_Cl_drawn 82 [(0, vA x0), (1, vA x1), (2, vA q3), (3, vI (3 + v32)), (4, vI 180)] [] w34 ((mc - 1) - c5) ((ms - 4) - s6) (yP K)) ∧ (v35 = 0 → WD G M_Cl_drawn 82 [(0, vA x0), (1, vA x1), (2, vA q3), (3, vI (3 + v32)), (4, vI 900)] [] w34 ((mc - 1) - c5) ((ms - 4) - s6) (yP K))))) ∧ (v29 = 0 → DI G M_Cl_draw [vA x1, vI 3] w28 0 0 (fun v38 w37 => DI G M_Cl_draw [vA x1, vI 3] w37 0 0 (fun v40 w39 => (¬ v40 = 0 → WD G M_Cl_drawn 82 [(0, vA x0), (1, vA x1), (2, vA q3), (3, vI v38), (4, vI 180)] [] w39 ((mc - 1) - c5) ((ms - 4) - s6) (yP K)) ∧ (v40 = 0 → WD G M_Cl_drawn 82 [(0, vA x0), (1, vA x1), (2, vA q3), (3, vI v38), (4, vI 900)] [] w39 ((mc - 1) - c5) ((ms - 4) - s6) (yP K)))))))))))))))) : DP G M_Cl_drawn [vA x0, vA x1] w mc ms K := by
  refine DC.of ok_M_Cl_drawn (ls := [(0, vA x0), (1, vA x1)]) rfl (Nat.le_of_ble_eq_true rfl) ?_
  obtain ⟨h1, h⟩ := h
  obtain ⟨h2, h⟩ := h
  refine x_new d_Cl_drawn_0 clk_17 tyJ4_ok (qm_3 (i := 188) rfl rfl) (qm_3 (i := 189) rfl rfl) (qm_1 (i := 19) rfl rfl) hfd_17 h1 h2 (fun q3 fq3 => (?_ : WD _ _ 3 _ _ _ _ _ _))
  replace h := h q3 fq3
  have k4 : Ow (uN w q3 (kO 17)) q3 (kO 17) := Ow.nw
  refine x_dup d_Cl_drawn_3 rfl (?_ : WD _ _ 4 _ _ _ _ _ _)
  obtain ⟨c5, s6, h7, h8, h⟩ := h
  refine x_callI (ν := M_Sb_init) [] ok_M_Sb_init oki_M_Sb_init rfl rfl (qm_3 (i := 190) rfl rfl) np_M_Sb_init rfl ⟨Nat.le_of_ble_eq_true rfl, Nat.le_of_ble_eq_true rfl⟩ (Nat.le_of_ble_eq_true rfl) rfl d_Cl_drawn_4 h7 h8 (DV.k h (fun w9 gw9 h => (?_ : WD _ _ 7 _ _ _ _ _ _)))
  refine x_astore_nP (some q3) (ls' := [(2, vA q3), (0, vA x0), (1, vA x1)]) d_Cl_drawn_7 rfl (by decide) rfl (?_ : WD _ _ 8 _ _ _ _ _ _)
  refine x_aload_nP (some x0) d_Cl_drawn_8 rfl (?_ : WD _ _ 9 _ _ _ _ _ _)
  obtain ⟨k11, h⟩ := h
  refine x_getP (ref := "CoinSamplerLaw$Books") (j := 0) 0 k11 clk_11 (by decide) (qm_2 (i := 156) rfl rfl) (Or.inl rfl) rfl rfl d_Cl_drawn_9 (y := (wR w9 x0 0)) rfl (?_ : WD _ _ 12 _ _ _ _ _ _)
  obtain ⟨a12, e13, h⟩ := h
  rw [e13]
  obtain ⟨k14, h⟩ := h
  refine x_callV (ν := M_Al_clear) [] ok_M_Al_clear okv_M_Al_clear k14 rfl rfl (qm_3 (i := 219) rfl rfl) np_M_Al_clear rfl ⟨Nat.le_of_ble_eq_true rfl, Nat.le_of_ble_eq_true rfl⟩ (Nat.le_of_ble_eq_true rfl) rfl d_Cl_drawn_12 (Nat.zero_le _) (Nat.zero_le _) (DV.k h (fun w15 gw15 h => (?_ : WD _ _ 15 _ _ _ _ _ _)))
  refine x_aload_nP (some x0) d_Cl_drawn_15 rfl (?_ : WD _ _ 16 _ _ _ _ _ _)
  refine x_getP (ref := "CoinSamplerLaw$Books") (j := 1) 1 (k11.q gw15.k) clk_11 (by decide) (qm_2 (i := 158) rfl rfl) (Or.inl rfl) rfl rfl d_Cl_drawn_16 (y := (wR w15 x0 1)) rfl (?_ : WD _ _ 19 _ _ _ _ _ _)
  obtain ⟨a17, e18, h⟩ := h
  rw [e18]
  obtain ⟨k19, h⟩ := h
  refine x_callV (ν := M_Al_clear) [] ok_M_Al_clear okv_M_Al_clear k19 rfl rfl (qm_3 (i := 219) rfl rfl) np_M_Al_clear rfl ⟨Nat.le_of_ble_eq_true rfl, Nat.le_of_ble_eq_true rfl⟩ (Nat.le_of_ble_eq_true rfl) rfl d_Cl_drawn_19 (Nat.zero_le _) (Nat.zero_le _) (DV.k h (fun w20 gw20 h => (?_ : WD _ _ 22 _ _ _ _ _ _)))
  refine x_aload_nP (some x0) d_Cl_drawn_22 rfl (?_ : WD _ _ 23 _ _ _ _ _ _)
  refine x_iconst d_Cl_drawn_23 (by decide) (?_ : WD _ _ 24 _ _ _ _ _ _)
  obtain ⟨k22, h⟩ := h
  refine x_putI (ref := "CoinSamplerLaw$Books") (j := 3) 3 k22 clk_11 (by decide) (qm_2 (i := 162) rfl rfl) (Or.inl rfl) (Or.inl rfl) tyX11_ok rfl nmX11 d_Cl_drawn_24 rfl rfl (fun _ => rfl) rfl (?_ : WD _ _ 27 _ _ _ _ _ _)
  refine x_aload_nP (some x0) d_Cl_drawn_27 rfl (?_ : WD _ _ 28 _ _ _ _ _ _)
  refine x_aload_nP (some x0) d_Cl_drawn_28 rfl (?_ : WD _ _ 29 _ _ _ _ _ _)
  refine x_getP (ref := "CoinSamplerLaw$Books") (j := 2) 2 k22.is clk_11 (by decide) (qm_2 (i := 160) rfl rfl) (Or.inl rfl) rfl rfl d_Cl_drawn_29 (y := (wR w20 x0 2)) rfl (?_ : WD _ _ 32 _ _ _ _ _ _)
  refine x_iconst d_Cl_drawn_32 (by decide) (?_ : WD _ _ 33 _ _ _ _ _ _)
  obtain ⟨a23, e24, h⟩ := h
  rw [e24]
  obtain ⟨n25, h⟩ := h
  obtain ⟨k26, h⟩ := h
  obtain ⟨h27, h⟩ := h
  refine x_iald k26 d_Cl_drawn_33 (by decide) h27 (y := (wI (uI w20 x0 3 0) a23 4)) rfl (?_ : WD _ _ 34 _ _ _ _ _ _)
  refine x_putI (ref := "CoinSamplerLaw$Books") (j := 4) 4 k22 clk_11 (by decide) (qm_2 (i := 164) rfl rfl) (Or.inl rfl) (Or.inl rfl) tyX11_ok rfl nmX11 d_Cl_drawn_34 rfl rfl (fun _ => rfl) rfl (?_ : WD _ _ 37 _ _ _ _ _ _)
  refine x_aload_nP (some x1) d_Cl_drawn_37 rfl (?_ : WD _ _ 38 _ _ _ _ _ _)
  refine x_bipush d_Cl_drawn_38 (by decide) (by decide) (?_ : WD _ _ 40 _ _ _ _ _ _)
  refine x_callS (ν := M_Cl_draw) [vA x1, vI 6] ok_M_Cl_draw oks_M_Cl_draw (qm_3 (i := 179) rfl rfl) np_M_Cl_draw rfl ⟨Nat.le_of_ble_eq_true rfl, Nat.le_of_ble_eq_true rfl⟩ (Nat.le_of_ble_eq_true rfl) rfl d_Cl_drawn_40 (Nat.zero_le _) (Nat.zero_le _) (DI.k h (fun v29 w28 gw28 h => (?_ : WD _ _ 43 _ _ _ _ _ _)))
  refine x_if_ne 54 d_Cl_drawn_43 rfl ⟨fun c30 => (?_ : WD _ _ 54 _ _ _ _ _ _), fun c30 => (?_ : WD _ _ 46 _ _ _ _ _ _)⟩
  · replace h := h.1 c30
    refine x_iconst d_Cl_drawn_54 (by decide) (?_ : WD _ _ 55 _ _ _ _ _ _)
    refine x_aload_nP (some x1) d_Cl_drawn_55 rfl (?_ : WD _ _ 56 _ _ _ _ _ _)
    refine x_bipush d_Cl_drawn_56 (by decide) (by decide) (?_ : WD _ _ 58 _ _ _ _ _ _)
    refine x_callS (ν := M_Cl_draw) [vA x1, vI 26] ok_M_Cl_draw oks_M_Cl_draw (qm_3 (i := 179) rfl rfl) np_M_Cl_draw rfl ⟨Nat.le_of_ble_eq_true rfl, Nat.le_of_ble_eq_true rfl⟩ (Nat.le_of_ble_eq_true rfl) rfl d_Cl_drawn_58 (Nat.zero_le _) (Nat.zero_le _) (DI.k h (fun v32 w31 gw31 h => (?_ : WD _ _ 61 _ _ _ _ _ _)))
    obtain ⟨h33, h⟩ := h
    refine x_iadd d_Cl_drawn_61 h33 (?_ : WD _ _ 62 _ _ _ _ _ _)
    refine x_istore_n (ls' := [(3, vI (3 + v32)), (2, vA q3), (0, vA x0), (1, vA x1)]) d_Cl_drawn_62 rfl (by decide) rfl (?_ : WD _ _ 63 _ _ _ _ _ _)
    refine x_aload_nP (some x1) d_Cl_drawn_63 rfl (?_ : WD _ _ 64 _ _ _ _ _ _)
    refine x_iconst d_Cl_drawn_64 (by decide) (?_ : WD _ _ 65 _ _ _ _ _ _)
    refine x_callS (ν := M_Cl_draw) [vA x1, vI 3] ok_M_Cl_draw oks_M_Cl_draw (qm_3 (i := 179) rfl rfl) np_M_Cl_draw rfl ⟨Nat.le_of_ble_eq_true rfl, Nat.le_of_ble_eq_true rfl⟩ (Nat.le_of_ble_eq_true rfl) rfl d_Cl_drawn_65 (Nat.zero_le _) (Nat.zero_le _) (DI.k h (fun v35 w34 gw34 h => (?_ : WD _ _ 68 _ _ _ _ _ _)))
    refine x_if_ne 77 d_Cl_drawn_68 rfl ⟨fun c36 => (?_ : WD _ _ 77 _ _ _ _ _ _), fun c36 => (?_ : WD _ _ 71 _ _ _ _ _ _)⟩
    · replace h := h.1 c36
      refine x_sipush d_Cl_drawn_77 (by decide) (by decide) (?_ : WD _ _ 80 _ _ _ _ _ _)
      refine x_istore (ls' := [(4, vI 180), (3, vI (3 + v32)), (2, vA q3), (0, vA x0), (1, vA x1)]) d_Cl_drawn_80 (by decide) rfl (?_ : WD _ _ 82 _ _ _ _ _ _)
      refine x_pick (ls' := [(0, vA x0), (1, vA x1), (2, vA q3), (3, vI (3 + v32)), (4, vI 180)]) [3, 4, 2, 1, 0] rfl ?_
      exact h
    · replace h := h.2 c36
      refine x_sipush d_Cl_drawn_71 (by decide) (by decide) (?_ : WD _ _ 74 _ _ _ _ _ _)
      refine x_goto 80 d_Cl_drawn_74 rfl ?_
      refine x_istore (ls' := [(4, vI 900), (3, vI (3 + v32)), (2, vA q3), (0, vA x0), (1, vA x1)]) d_Cl_drawn_80 (by decide) rfl (?_ : WD _ _ 82 _ _ _ _ _ _)
      refine x_pick (ls' := [(0, vA x0), (1, vA x1), (2, vA q3), (3, vI (3 + v32)), (4, vI 900)]) [3, 4, 2, 1, 0] rfl ?_
      exact h
  · replace h := h.2 c30
    refine x_aload_nP (some x1) d_Cl_drawn_46 rfl (?_ : WD _ _ 47 _ _ _ _ _ _)
    refine x_iconst d_Cl_drawn_47 (by decide) (?_ : WD _ _ 48 _ _ _ _ _ _)
    refine x_callS (ν := M_Cl_draw) [vA x1, vI 3] ok_M_Cl_draw oks_M_Cl_draw (qm_3 (i := 179) rfl rfl) np_M_Cl_draw rfl ⟨Nat.le_of_ble_eq_true rfl, Nat.le_of_ble_eq_true rfl⟩ (Nat.le_of_ble_eq_true rfl) rfl d_Cl_drawn_48 (Nat.zero_le _) (Nat.zero_le _) (DI.k h (fun v38 w37 gw37 h => (?_ : WD _ _ 51 _ _ _ _ _ _)))
    refine x_goto 62 d_Cl_drawn_51 rfl ?_
    refine x_istore_n (ls' := [(3, vI v38), (2, vA q3), (0, vA x0), (1, vA x1)]) d_Cl_drawn_62 rfl (by decide) rfl (?_ : WD _ _ 63 _ _ _ _ _ _)
    refine x_aload_nP (some x1) d_Cl_drawn_63 rfl (?_ : WD _ _ 64 _ _ _ _ _ _)
    refine x_iconst d_Cl_drawn_64 (by decide) (?_ : WD _ _ 65 _ _ _ _ _ _)
    refine x_callS (ν := M_Cl_draw) [vA x1, vI 3] ok_M_Cl_draw oks_M_Cl_draw (qm_3 (i := 179) rfl rfl) np_M_Cl_draw rfl ⟨Nat.le_of_ble_eq_true rfl, Nat.le_of_ble_eq_true rfl⟩ (Nat.le_of_ble_eq_true rfl) rfl d_Cl_drawn_65 (Nat.zero_le _) (Nat.zero_le _) (DI.k h (fun v40 w39 gw39 h => (?_ : WD _ _ 68 _ _ _ _ _ _)))
    refine x_if_ne 77 d_Cl_drawn_68 rfl ⟨fun c41 => (?_ : WD _ _ 77 _ _ _ _ _ _), fun c41 => (?_ : WD _ _ 71 _ _ _ _ _ _)⟩
    · replace h := h.1 c41
      refine x_sipush d_Cl_drawn_77 (by decide) (by decide) (?_ : WD _ _ 80 _ _ _ _ _ _)
      refine x_istore (ls' := [(4, vI 180), (3, vI v38), (2, vA q3), (0, vA x0), (1, vA x1)]) d_Cl_drawn_80 (by decide) rfl (?_ : WD _ _ 82 _ _ _ _ _ _)
      refine x_pick (ls' := [(0, vA x0), (1, vA x1), (2, vA q3), (3, vI v38), (4, vI 180)]) [3, 4, 2, 1, 0] rfl ?_
      exact h
    · replace h := h.2 c41
      refine x_sipush d_Cl_drawn_71 (by decide) (by decide) (?_ : WD _ _ 74 _ _ _ _ _ _)
      refine x_goto 80 d_Cl_drawn_74 rfl ?_
      refine x_istore (ls' := [(4, vI 900), (3, vI v38), (2, vA q3), (0, vA x0), (1, vA x1)]) d_Cl_drawn_80 (by decide) rfl (?_ : WD _ _ 82 _ _ _ _ _ _)
      refine x_pick (ls' := [(0, vA x0), (1, vA x1), (2, vA q3), (3, vI v38), (4, vI 900)]) [3, 4, 2, 1, 0] rfl ?_
      exact h
set_option maxRecDepth 20000 in
theorem l_Cl_drawn_1 {G : Gq} {K : Option Nat → Wd → Prop} {w : Wd} {rc rs : Nat} (x0 : Nat) (x1 : Nat) (x2 : Nat) (x3 : Int) (x4 : Int) (h : (inR (x3 + (-1))) ∧ (x3 ≤ 0 → ∃ c44 s45 : Nat, c44 ≤ rc ∧ s45 ≤ rs ∧ ((Is G w x2 (kO 17)) ∧ DP G M_Sb_toString [vA x2] w c44 s45 (fun v50 w49 => K v50 w49))) ∧ (¬ x3 ≤ 0 → (Is G w x2 (kO 17)) ∧ DI G M_Sb_length [vA x2] w 0 0 (fun v53 w52 => (860 ≤ v53 → ∃ c55 s56 : Nat, c55 ≤ rc ∧ s56 ≤ rs ∧ (DP G M_Sb_toString [vA x2] w52 c55 s56 (fun v60 w59 => K v60 w59))) ∧ (¬ 860 ≤ v53 → (Is G w52 x0 (kO 11)) ∧ ∃ a62 : Nat, (wR w52 x0 0) = some a62 ∧ ((Is G w52 a62 (kO 14)) ∧ DI G M_Al_isEmpty [vA a62] w52 0 0 (fun v66 w65 => (¬ v66 = 0 → (1 ≤ rc) ∧ (4 ≤ rs) ∧ ∀ q70 : Nat, Fr G w65 q70 → (DV G M_It_init [vA q70] (uN w65 q70 (kO 13)) 0 0 (fun w72 => DI G M_Cl_draw [vA x1, vI 5] w72 0 0 (fun v75 w74 => DI G M_Cl_draw [vA x1, vI 300] (uI w74 q70 0 v75) 0 0 (fun v77 w76 => DI G M_Cl_draw [vA x1, vI 8] (uI w76 q70 1 v77) 0 0 (fun v79 w78 => (¬ v79 = 0 → DI G M_Cl_draw [vA x1, vI x4] w78 0 0 (fun v82 w81 => (inR (1 + v82)) ∧ DI G M_Cl_draw [vA x1, vI (1 + v82)] w81 0 0 (fun v85 w84 => DI G M_Bo_find [vA x0, vI (wI w84 q70 0), vI (wI w84 q70 1)] (uI w84 q70 2 v85) 0 0 (fun v87 w86 => (0 ≤ v87 → WD G M_Cl_drawn 82 [(0, vA x0), (1, vA x1), (2, vA x2), (3, vI (x3 + (-1))), (4, vI x4)] [] w86 (rc - 1) (rs - 4) (yP K)) ∧ (¬ 0 ≤ v87 → ∃ a89 : Nat, (wR w86 x0 0) = some a89 ∧ ((Is G w86 a89 (kO 14)) ∧ DI G M_Al_size [vA a89] w86 0 0 (fun v93 w92 => (¬ v93 = 48 → ∃ c95 s96 : Nat, c95 ≤ (rc - 1) ∧ s96 ≤ (rs - 4) ∧ (DP G M_Sb_append_15ec4 [vA x2, vA (xa G 264)] w92 c95 s96 (fun v100 w99 => ∃ a101 : Nat, v100 = some a101 ∧ (∃ c103 s104 : Nat, c103 ≤ ((rc - 1) - c95) ∧ s104 ≤ ((rs - 4) - s96) ∧ ((Is G w99 a101 (kO 17)) ∧ DP G M_Sb_append_bf812 [vA a101, vI (wI w99 q70 0)] w99 c103 s104 (fun v109 w108 => ∃ a110 : Nat, v109 = some a110 ∧ (∃ c112 s113 : Nat, c112 ≤ (((rc - 1) - c95) - c103) ∧ s113 ≤ (((rs - 4) - s96) - s104) ∧ ((Is G w108 a110 (kO 17)) ∧ DP G M_Sb_append_cf468 [vA a110, vI 32] w108 c112 s113 (fun v118 w117 => ∃ a119 : Nat, v118 = some a119 ∧ (∃ c121 s122 : Nat, c121 ≤ ((((rc - 1) - c95) - c103) - c112) ∧ s122 ≤ ((((rs - 4) - s96) - s104) - s113) ∧ ((Is G w117 a119 (kO 17)) ∧ DP G M_Sb_append_bf812 [vA a119, vI (wI w117 q70 1)] w117 c121 s122 (fun v127 w126 => (0 ≤ (wI w126 q70 2) → ∃ a129 : Nat, v127 = some a129 ∧ (∃ c131 s132 : Nat, c131 ≤ (((((rc - 1) - c95) - c103) - c112) - c121) ∧ s132 ≤ (((((rs - 4) - s96) - s104) - s113) - s122) ∧ ((Is G w126 a129 (kO 17)) ∧ DP G M_Sb_append_15ec4 [vA a129, vA (xa G 268)] w126 c131 s132 (fun v137 w136 => DI G M_Ma_abs [vI (wI w136 q70 2)] w136 0 0 (fun v139 w138 => ∃ a140 : Nat, v137 = some a140 ∧ (∃ c142 s143 : Nat, c142 ≤ ((((((rc - 1) - c95) - c103) - c112) - c121) - c131) ∧ s143 ≤ ((((((rs - 4) - s96) - s104) - s113) - s122) - s132) ∧ ((Is G w138 a140 (kO 17)) ∧ DP G M_Sb_append_bf812 [vA a140, vI v139] w138 c142 s143 (fun v148 w147 => DI G M_Cl_draw [vA x1, vI 3] w147 0 0 (fun v150 w149 => (¬ v150 = 0 → ∃ a152 : Nat, v148 = some a152 ∧ (∃ c154 s155 : Nat, c154 ≤ (((((((rc - 1) - c95) - c103) - c112) - c121) - c131) - c142) ∧ s155 ≤ (((((((rs - 4) - s96) - s104) - s113) - s122) - s132) - s143) ∧ ((Is G w149 a152 (kO 17)) ∧ DP G M_Sb_append_15ec4 [vA a152, vA (xa G 272)] w149 c154 s155 (fun v160 w159 => ∃ a161 : Nat, (wR w159 x0 0) = some a161 ∧ (∃ c163 s164 : Nat, c163 ≤ ((((((((rc - 1) - c95) - c103) - c112) - c121) - c131) - c142) - c154) ∧ s164 ≤ ((((((((rs - 4) - s96) - s104) - s113) - s122) - s132) - s143) - s155) ∧ ((Is G w159 a161 (kO 14)) ∧ DI G M_Al_add_9ea2d [vA a161, vA q70] w159 c163 s164 (fun v169 w168 => WD G M_Cl_drawn 82 [(0, vA x0), (1, vA x1), (2, vA x2), (3, vI (x3 + (-1))), (4, vI x4)] [] w168 (((((((((rc - 1) - c95) - c103) - c112) - c121) - c131) - c142) - c154) - c163) (((((((((rs - 4) - s96) - s104) - s113) - s122) - s132) - s143) - s155) - s164) (yP K)))))))) ∧ (v150 = 0 → ∃ a170 : Nat, v148 = some a170 ∧ (∃ c172 s173 : Nat, c172 ≤ (((((((rc - 1) - c95) - c103) - c112) - c121) - c131) - c142) ∧ s173 ≤ (((((((rs - 4) - s96) - s104) - s113) - s122) - s132) - s143) ∧ ((Is G w149 a170 (kO 17)) ∧ DP G M_Sb_append_15ec4 [vA a170, vA (xa G 270)] w149 c172 s173 (fun v178 w177 => ∃ a179 : Nat, (wR w177 x0 0) = some a179 ∧ (∃ c181 s182 : Nat, c181 ≤ ((((((((rc - 1) - c95) - c103) - c112) - c121) - c131) - c142) - c172) ∧ s182 ≤ ((((((((rs - 4) - s96) - s104) - s113) - s122) - s132) - s143) - s173) ∧ ((Is G w177 a179 (kO 14)) ∧ DI G M_Al_add_9ea2d [vA a179, vA q70] w177 c181 s182 (fun v187 w186 => WD G M_Cl_drawn 82 [(0, vA x0), (1, vA x1), (2, vA x2), (3, vI (x3 + (-1))), (4, vI x4)] [] w186 (((((((((rc - 1) - c95) - c103) - c112) - c121) - c131) - c142) - c172) - c181) (((((((((rs - 4) - s96) - s104) - s113) - s122) - s132) - s143) - s173) - s182) (yP K))))))))))))))))) ∧ (¬ 0 ≤ (wI w126 q70 2) → ∃ a188 : Nat, v127 = some a188 ∧ (∃ c190 s191 : Nat, c190 ≤ (((((rc - 1) - c95) - c103) - c112) - c121) ∧ s191 ≤ (((((rs - 4) - s96) - s104) - s113) - s122) ∧ ((Is G w126 a188 (kO 17)) ∧ DP G M_Sb_append_15ec4 [vA a188, vA (xa G 266)] w126 c190 s191 (fun v196 w195 => DI G M_Ma_abs [vI (wI w195 q70 2)] w195 0 0 (fun v198 w197 => ∃ a199 : Nat, v196 = some a199 ∧ (∃ c201 s202 : Nat, c201 ≤ ((((((rc - 1) - c95) - c103) - c112) - c121) - c190) ∧ s202 ≤ ((((((rs - 4) - s96) - s104) - s113) - s122) - s191) ∧ ((Is G w197 a199 (kO 17)) ∧ DP G M_Sb_append_bf812 [vA a199, vI v198] w197 c201 s202 (fun v207 w206 => DI G M_Cl_draw [vA x1, vI 3] w206 0 0 (fun v209 w208 => (¬ v209 = 0 → ∃ a211 : Nat, v207 = some a211 ∧ (∃ c213 s214 : Nat, c213 ≤ (((((((rc - 1) - c95) - c103) - c112) - c121) - c190) - c201) ∧ s214 ≤ (((((((rs - 4) - s96) - s104) - s113) - s122) - s191) - s202) ∧ ((Is G w208 a211 (kO 17)) ∧ DP G M_Sb_append_15ec4 [vA a211, vA (xa G 272)] w208 c213 s214 (fun v219 w218 => ∃ a220 : Nat, (wR w218 x0 0) = some a220 ∧ (∃ c222 s223 : Nat, c222 ≤ ((((((((rc - 1) - c95) - c103) - c112) - c121) - c190) - c201) - c213) ∧ s223 ≤ ((((((((rs - 4) - s96) - s104) - s113) - s122) - s191) - s202) - s214) ∧ ((Is G w218 a220 (kO 14)) ∧ DI G M_Al_add_9ea2d [vA a220, vA q70] w218 c222 s223 (fun v228 w227 => WD G M_Cl_drawn 82 [(0, vA x0), (1, vA x1), (2, vA x2), (3, vI (x3 + (-1))), (4, vI x4)] [] w227 (((((((((rc - 1) - c95) - c103) - c112) - c121) - c190) - c201) - c213) - c222) (((((((((rs - 4) - s96) - s104) - s113) - s122) - s191) - s202) - s214) - s223) (yP K)))))))) ∧ (v209 = 0 → ∃ a229 : Nat, v207 = some a229 ∧ (∃ c231 s232 : Nat, c231 ≤ (((((((rc - 1) - c95) - c103) - c112) - c121) - c190) - c201) ∧ s232 ≤ (((((((rs - 4) - s96) - s104) - s113) - s122) - s191) - s202) ∧ ((Is G w208 a229 (kO 17)) ∧ DP G M_Sb_append_15ec4 [vA a229, vA (xa G 270)] w208 c231 s232 (fun v237 w236 => ∃ a238 : Nat, (wR w236 x0 0) = some a238 ∧ (∃ c240 s241 : Nat, c240 ≤ ((((((((rc - 1) - c95) - c103) - c112) - c121) - c190) - c201) - c231) ∧ s241 ≤ ((((((((rs - 4) - s96) - s104) - s113) - s122) - s191) - s202) - s232) ∧ ((Is G w236 a238 (kO 14)) ∧ DI G M_Al_add_9ea2d [vA a238, vA q70] w236 c240 s241 (fun v246 w245 => WD G M_Cl_drawn 82 [(0, vA x0), (1, vA x1), (2, vA x2), (3, vI (x3 + (-1))), (4, vI x4)] [] w245 (((((((((rc - 1) - c95) - c103) - c112) - c121) - c190) - c201) - c231) - c240) (((((((((rs - 4) - s96) - s104) - s113) - s122) - s191) - s202) - s232) - s241) (yP K))))))))))))))))))))))))))))) ∧ (v93 = 48 → WD G M_Cl_drawn 82 [(0, vA x0), (1, vA x1), (2, vA x2), (3, vI (x3 + (-1))), (4, vI x4)] [] w92 (rc - 1) (rs - 4) (yP K))))))))) ∧ (v79 = 0 → DI G M_Cl_draw [vA x1, vI 50] w78 0 0 (fun v248 w247 => (inR (-v248)) ∧ DI G M_Bo_find [vA x0, vI (wI w247 q70 0), vI (wI w247 q70 1)] (uI w247 q70 2 (-v248)) 0 0 (fun v251 w250 => (0 ≤ v251 → WD G M_Cl_drawn 82 [(0, vA x0), (1, vA x1), (2, vA x2), (3, vI (x3 + (-1))), (4, vI x4)] [] w250 (rc - 1) (rs - 4) (yP K)) ∧ (¬ 0 ≤ v251 → ∃ a253 : Nat, (wR w250 x0 0) = some a253 ∧ ((Is G w250 a253 (kO 14)) ∧ DI G M_Al_size [vA a253] w250 0 0 (fun v257 w256 => (¬ v257 = 48 → ∃ c259 s260 : Nat, c259 ≤ (rc - 1) ∧ s260 ≤ (rs - 4) ∧ (DP G M_Sb_append_15ec4 [vA x2, vA (xa G 264)] w256 c259 s260 (fun v264 w263 => ∃ a265 : Nat, v264 = some a265 ∧ (∃ c267 s268 : Nat, c267 ≤ ((rc - 1) - c259) ∧ s268 ≤ ((rs - 4) - s260) ∧ ((Is G w263 a265 (kO 17)) ∧ DP G M_Sb_append_bf812 [vA a265, vI (wI w263 q70 0)] w263 c267 s268 (fun v273 w272 => ∃ a274 : Nat, v273 = some a274 ∧ (∃ c276 s277 : Nat, c276 ≤ (((rc - 1) - c259) - c267) ∧ s277 ≤ (((rs - 4) - s260) - s268) ∧ ((Is G w272 a274 (kO 17)) ∧ DP G M_Sb_append_cf468 [vA a274, vI 32] w272 c276 s277 (fun v282 w281 => ∃ a283 : Nat, v282 = some a283 ∧ (∃ c285 s286 : Nat, c285 ≤ ((((rc - 1) - c259) - c267) - c276) ∧ s286 ≤ ((((rs - 4) - s260) - s268) - s277) ∧ ((Is G w281 a283 (kO 17)) ∧ DP G M_Sb_append_bf812 [vA a283, vI (wI w281 q70 1)] w281 c285 s286 (fun v291 w290 => (0 ≤ (wI w290 q70 2) → ∃ a293 : Nat, v291 = some a293 ∧ (∃ c295 s296 : Nat, c295 ≤ (((((rc - 1) - c259) - c267) - c276) - c285) ∧ s296 ≤ (((((rs - 4) - s260) - s268) - s277) - s286) ∧ ((Is G w290 a293 (kO 17)) ∧ DP G M_Sb_append_15ec4 [vA a293, vA (xa G 268)] w290 c295 s296 (fun v301 w300 => DI G M_Ma_abs [vI (wI w300 q70 2)] w300 0 0 (fun v303 w302 => ∃ a304 : Nat, v301 = some a304 ∧ (∃ c306 s307 : Nat, c306 ≤ ((((((rc - 1) - c259) - c267) - c276) - c285) - c295) ∧ s307 ≤ ((((((rs - 4) - s260) - s268) - s277) - s286) - s296) ∧ ((Is G w302 a304 (kO 17)) ∧ DP G M_Sb_append_bf812 [vA a304, vI v303] w302 c306 s307 (fun v312 w311 => DI G M_Cl_draw [vA x1, vI 3] w311 0 0 (fun v314 w313 => (¬ v314 = 0 → ∃ a316 : Nat, v312 = some a316 ∧ (∃ c318 s319 : Nat, c318 ≤ (((((((rc - 1) - c259) - c267) - c276) - c285) - c295) - c306) ∧ s319 ≤ (((((((rs - 4) - s260) - s268) - s277) - s286) - s296) - s307) ∧ ((Is G w313 a316 (kO 17)) ∧ DP G M_Sb_append_15ec4 [vA a316, vA (xa G 272)] w313 c318 s319 (fun v324 w323 => ∃ a325 : Nat, (wR w323 x0 0) = some a325 ∧ (∃ c327 s328 : Nat, c327 ≤ ((((((((rc - 1) - c259) - c267) - c276) - c285) - c295) - c306) - c318) ∧ s328 ≤ ((((((((rs - 4) - s260) - s268) - s277) - s286) - s296) - s307) - s319) ∧ ((Is G w323 a325 (kO 14)) ∧ DI G M_Al_add_9ea2d [vA a325, vA q70] w323 c327 s328 (fun v333 w332 => WD G M_Cl_drawn 82 [(0, vA x0), (1, vA x1), (2, vA x2), (3, vI (x3 + (-1))), (4, vI x4)] [] w332 (((((((((rc - 1) - c259) - c267) - c276) - c285) - c295) - c306) - c318) - c327) (((((((((rs - 4) - s260) - s268) - s277) - s286) - s296) - s307) - s319) - s328) (yP K)))))))) ∧ (v314 = 0 → ∃ a334 : Nat, v312 = some a334 ∧ (∃ c336 s337 : Nat, c336 ≤ (((((((rc - 1) - c259) - c267) - c276) - c285) - c295) - c306) ∧ s337 ≤ (((((((rs - 4) - s260) - s268) - s277) - s286) - s296) - s307) ∧ ((Is G w313 a334 (kO 17)) ∧ DP G M_Sb_append_15ec4 [vA a334, vA (xa G 270)] w313 c336 s337 (fun v342 w341 => ∃ a343 : Nat, (wR w341 x0 0) = some a343 ∧ (∃ c345 s346 : Nat, c345 ≤ ((((((((rc - 1) - c259) - c267) - c276) - c285) - c295) - c306) - c336) ∧ s346 ≤ ((((((((rs - 4) - s260) - s268) - s277) - s286) - s296) - s307) - s337) ∧ ((Is G w341 a343 (kO 14)) ∧ DI G M_Al_add_9ea2d [vA a343, vA q70] w341 c345 s346 (fun v351 w350 => WD G M_Cl_drawn 82 [(0, vA x0), (1, vA x1), (2, vA x2), (3, vI (x3 + (-1))), (4, vI x4)] [] w350 (((((((((rc - 1) - c259) - c267) - c276) - c285) - c295) - c306) - c336) - c345) (((((((((rs - 4) - s260) - s268) - s277) - s286) - s296) - s307) - s337) - s346) (yP K))))))))))))))))) ∧ (¬ 0 ≤ (wI w290 q70 2) → ∃ a352 : Nat, v291 = some a352 ∧ (∃ c354 s355 : Nat, c354 ≤ (((((rc - 1) - c259) - c267) - c276) - c285) ∧ s355 ≤ (((((rs - 4) - s260) - s268) - s277) - s286) ∧ ((Is G w290 a352 (kO 17)) ∧ DP G M_Sb_append_15ec4 [vA a352, vA (xa G 266)] w290 c354 s355 (fun v360 w359 => DI G M_Ma_abs [vI (wI w359 q70 2)] w359 0 0 (fun v362 w361 => ∃ a363 : Nat, v360 = some a363 ∧ (∃ c365 s366 : Nat, c365 ≤ ((((((rc - 1) - c259) - c267) - c276) - c285) - c354) ∧ s366 ≤ ((((((rs - 4) - s260) - s268) - s277) - s286) - s355) ∧ ((Is G w361 a363 (kO 17)) ∧ DP G M_Sb_append_bf812 [vA a363, vI v362] w361 c365 s366 (fun v371 w370 => DI G M_Cl_draw [vA x1, vI 3] w370 0 0 (fun v373 w372 => (¬ v373 = 0 → ∃ a375 : Nat, v371 = some a375 ∧ (∃ c377 s378 : Nat, c377 ≤ (((((((rc - 1) - c259) - c267) - c276) - c285) - c354) - c365) ∧ s378 ≤ (((((((rs - 4) - s260) - s268) - s277) - s286) - s355) - s366) ∧ ((Is G w372 a375 (kO 17)) ∧ DP G M_Sb_append_15ec4 [vA a375, vA (xa G 272)] w372 c377 s378 (fun v383 w382 => ∃ a384 : Nat, (wR w382 x0 0) = some a384 ∧ (∃ c386 s387 : Nat, c386 ≤ ((((((((rc - 1) - c259) - c267) - c276) - c285) - c354) - c365) - c377) ∧ s387 ≤ ((((((((rs - 4) - s260) - s268) - s277) - s286) - s355) - s366) - s378) ∧ ((Is G w382 a384 (kO 14)) ∧ DI G M_Al_add_9ea2d [vA a384, vA q70] w382 c386 s387 (fun v392 w391 => WD G M_Cl_drawn 82 [(0, vA x0), (1, vA x1), (2, vA x2), (3, vI (x3 + (-1))), (4, vI x4)] [] w391 (((((((((rc - 1) - c259) - c267) - c276) - c285) - c354) - c365) - c377) - c386) (((((((((rs - 4) - s260) - s268) - s277) - s286) - s355) - s366) - s378) - s387) (yP K)))))))) ∧ (v373 = 0 → ∃ a393 : Nat, v371 = some a393 ∧ (∃ c395 s396 : Nat, c395 ≤ (((((((rc - 1) - c259) - c267) - c276) - c285) - c354) - c365) ∧ s396 ≤ (((((((rs - 4) - s260) - s268) - s277) - s286) - s355) - s366) ∧ ((Is G w372 a393 (kO 17)) ∧ DP G M_Sb_append_15ec4 [vA a393, vA (xa G 270)] w372 c395 s396 (fun v401 w400 => ∃ a402 : Nat, (wR w400 x0 0) = some a402 ∧ (∃ c404 s405 : Nat, c404 ≤ ((((((((rc - 1) - c259) - c267) - c276) - c285) - c354) - c365) - c395) ∧ s405 ≤ ((((((((rs - 4) - s260) - s268) - s277) - s286) - s355) - s366) - s396) ∧ ((Is G w400 a402 (kO 14)) ∧ DI G M_Al_add_9ea2d [vA a402, vA q70] w400 c404 s405 (fun v410 w409 => WD G M_Cl_drawn 82 [(0, vA x0), (1, vA x1), (2, vA x2), (3, vI (x3 + (-1))), (4, vI x4)] [] w409 (((((((((rc - 1) - c259) - c267) - c276) - c285) - c354) - c365) - c395) - c404) (((((((((rs - 4) - s260) - s268) - s277) - s286) - s355) - s366) - s396) - s405) (yP K))))))))))))))))))))))))))))) ∧ (v257 = 48 → WD G M_Cl_drawn 82 [(0, vA x0), (1, vA x1), (2, vA x2), (3, vI (x3 + (-1))), (4, vI x4)] [] w256 (rc - 1) (rs - 4) (yP K)))))))))))))) ∧ (v66 = 0 → DI G M_Cl_draw [vA x1, vI 4] w65 0 0 (fun v412 w411 => (v412 ≤ 0 → ∃ a414 : Nat, (wR w411 x0 0) = some a414 ∧ ((Is G w411 a414 (kO 14)) ∧ DI G M_Al_size [vA a414] w411 0 0 (fun v418 w417 => DI G M_Cl_draw [vA x1, vI v418] w417 0 0 (fun v420 w419 => DP G M_Al_get [vA a414, vI v420] w419 0 0 (fun v422 w421 => ∃ a423 : Nat, v422 = some a423 ∧ ((Is G w421 a423 (kO 13)) ∧ (1 ≤ (wI w421 a423 2) → DI G M_Cl_draw [vA x1, vI 3] w421 0 0 (fun v428 w427 => (¬ v428 = 0 → (inR (2 * (wI w427 a423 2))) ∧ (inR ((2 * (wI w427 a423 2)) + 1)) ∧ DI G M_Cl_draw [vA x1, vI ((2 * (wI w427 a423 2)) + 1)] w427 0 0 (fun v433 w432 => (Ow w432 a423 (kO 13)) ∧ ∃ c435 s436 : Nat, c435 ≤ rc ∧ s436 ≤ rs ∧ (DP G M_Sb_append_15ec4 [vA x2, vA (xa G 260)] (uI w432 a423 3 v433) c435 s436 (fun v440 w439 => ∃ a441 : Nat, v440 = some a441 ∧ (∃ c443 s444 : Nat, c443 ≤ (rc - c435) ∧ s444 ≤ (rs - s436) ∧ ((Is G w439 a441 (kO 17)) ∧ DP G M_Sb_append_bf812 [vA a441, vI (wI w439 a423 0)] w439 c443 s444 (fun v449 w448 => ∃ a450 : Nat, v449 = some a450 ∧ (∃ c452 s453 : Nat, c452 ≤ ((rc - c435) - c443) ∧ s453 ≤ ((rs - s436) - s444) ∧ ((Is G w448 a450 (kO 17)) ∧ DP G M_Sb_append_cf468 [vA a450, vI 32] w448 c452 s453 (fun v458 w457 => ∃ a459 : Nat, v458 = some a459 ∧ (∃ c461 s462 : Nat, c461 ≤ (((rc - c435) - c443) - c452) ∧ s462 ≤ (((rs - s436) - s444) - s453) ∧ ((Is G w457 a459 (kO 17)) ∧ DP G M_Sb_append_bf812 [vA a459, vI (wI w457 a423 1)] w457 c461 s462 (fun v467 w466 => ∃ a468 : Nat, v467 = some a468 ∧ (∃ c470 s471 : Nat, c470 ≤ ((((rc - c435) - c443) - c452) - c461) ∧ s471 ≤ ((((rs - s436) - s444) - s453) - s462) ∧ ((Is G w466 a468 (kO 17)) ∧ DP G M_Sb_append_15ec4 [vA a468, vA (xa G 262)] w466 c470 s471 (fun v476 w475 => ∃ a477 : Nat, v476 = some a477 ∧ (∃ c479 s480 : Nat, c479 ≤ (((((rc - c435) - c443) - c452) - c461) - c470) ∧ s480 ≤ (((((rs - s436) - s444) - s453) - s462) - s471) ∧ ((Is G w475 a477 (kO 17)) ∧ DP G M_Sb_append_bf812 [vA a477, vI (wI w475 a423 3)] w475 c479 s480 (fun v485 w484 => ∃ a486 : Nat, v485 = some a486 ∧ (∃ c488 s489 : Nat, c488 ≤ ((((((rc - c435) - c443) - c452) - c461) - c470) - c479) ∧ s489 ≤ ((((((rs - s436) - s444) - s453) - s462) - s471) - s480) ∧ ((Is G w484 a486 (kO 17)) ∧ DP G M_Sb_append_cf468 [vA a486, vI 59] w484 c488 s489 (fun v494 w493 => WD G M_Cl_drawn 82 [(0, vA x0), (1, vA x1), (2, vA x2), (3, vI (x3 + (-1))), (4, vI x4)] [] w493 (((((((rc - c435) - c443) - c452) - c461) - c470) - c479) - c488) (((((((rs - s436) - s444) - s453) - s462) - s471) - s480) - s489) (yP K))))))))))))))))))))))) ∧ (v428 = 0 → (Ow w427 a423 (kO 13)) ∧ ∃ c496 s497 : Nat, c496 ≤ rc ∧ s497 ≤ rs ∧ (DP G M_Sb_append_15ec4 [vA x2, vA (xa G 260)] (uI w427 a423 3 (wI w427 a423 2)) c496 s497 (fun v501 w500 => ∃ a502 : Nat, v501 = some a502 ∧ (∃ c504 s505 : Nat, c504 ≤ (rc - c496) ∧ s505 ≤ (rs - s497) ∧ ((Is G w500 a502 (kO 17)) ∧ DP G M_Sb_append_bf812 [vA a502, vI (wI w500 a423 0)] w500 c504 s505 (fun v510 w509 => ∃ a511 : Nat, v510 = some a511 ∧ (∃ c513 s514 : Nat, c513 ≤ ((rc - c496) - c504) ∧ s514 ≤ ((rs - s497) - s505) ∧ ((Is G w509 a511 (kO 17)) ∧ DP G M_Sb_append_cf468 [vA a511, vI 32] w509 c513 s514 (fun v519 w518 => ∃ a520 : Nat, v519 = some a520 ∧ (∃ c522 s523 : Nat, c522 ≤ (((rc - c496) - c504) - c513) ∧ s523 ≤ (((rs - s497) - s505) - s514) ∧ ((Is G w518 a520 (kO 17)) ∧ DP G M_Sb_append_bf812 [vA a520, vI (wI w518 a423 1)] w518 c522 s523 (fun v528 w527 => ∃ a529 : Nat, v528 = some a529 ∧ (∃ c531 s532 : Nat, c531 ≤ ((((rc - c496) - c504) - c513) - c522) ∧ s532 ≤ ((((rs - s497) - s505) - s514) - s523) ∧ ((Is G w527 a529 (kO 17)) ∧ DP G M_Sb_append_15ec4 [vA a529, vA (xa G 262)] w527 c531 s532 (fun v537 w536 => ∃ a538 : Nat, v537 = some a538 ∧ (∃ c540 s541 : Nat, c540 ≤ (((((rc - c496) - c504) - c513) - c522) - c531) ∧ s541 ≤ (((((rs - s497) - s505) - s514) - s523) - s532) ∧ ((Is G w536 a538 (kO 17)) ∧ DP G M_Sb_append_bf812 [vA a538, vI (wI w536 a423 3)] w536 c540 s541 (fun v546 w545 => ∃ a547 : Nat, v546 = some a547 ∧ (∃ c549 s550 : Nat, c549 ≤ ((((((rc - c496) - c504) - c513) - c522) - c531) - c540) ∧ s550 ≤ ((((((rs - s497) - s505) - s514) - s523) - s532) - s541) ∧ ((Is G w545 a547 (kO 17)) ∧ DP G M_Sb_append_cf468 [vA a547, vI 59] w545 c549 s550 (fun v555 w554 => WD G M_Cl_drawn 82 [(0, vA x0), (1, vA x1), (2, vA x2), (3, vI (x3 + (-1))), (4, vI x4)] [] w554 (((((((rc - c496) - c504) - c513) - c522) - c531) - c540) - c549) (((((((rs - s497) - s505) - s514) - s523) - s532) - s541) - s550) (yP K)))))))))))))))))))))))) ∧ (¬ 1 ≤ (wI w421 a423 2) → WD G M_Cl_drawn 82 [(0, vA x0), (1, vA x1), (2, vA x2), (3, vI (x3 + (-1))), (4, vI x4)] [] w421 rc rs (yP K)))))))) ∧ (¬ v412 ≤ 0 → (1 ≤ rc) ∧ (4 ≤ rs) ∧ ∀ q558 : Nat, Fr G w411 q558 → (DV G M_It_init [vA q558] (uN w411 q558 (kO 13)) 0 0 (fun w560 => DI G M_Cl_draw [vA x1, vI 5] w560 0 0 (fun v563 w562 => DI G M_Cl_draw [vA x1, vI 300] (uI w562 q558 0 v563) 0 0 (fun v565 w564 => DI G M_Cl_draw [vA x1, vI 8] (uI w564 q558 1 v565) 0 0 (fun v567 w566 => (¬ v567 = 0 → DI G M_Cl_draw [vA x1, vI x4] w566 0 0 (fun v570 w569 => (inR (1 + v570)) ∧ DI G M_Cl_draw [vA x1, vI (1 + v570)] w569 0 0 (fun v573 w572 => DI G M_Bo_find [vA x0, vI (wI w572 q558 0), vI (wI w572 q558 1)] (uI w572 q558 2 v573) 0 0 (fun v575 w574 => (0 ≤ v575 → WD G M_Cl_drawn 82 [(0, vA x0), (1, vA x1), (2, vA x2), (3, vI (x3 + (-1))), (4, vI x4)] [] w574 (rc - 1) (rs - 4) (yP K)) ∧ (¬ 0 ≤ v575 → ∃ a577 : Nat, (wR w574 x0 0) = some a577 ∧ ((Is G w574 a577 (kO 14)) ∧ DI G M_Al_size [vA a577] w574 0 0 (fun v581 w580 => (¬ v581 = 48 → ∃ c583 s584 : Nat, c583 ≤ (rc - 1) ∧ s584 ≤ (rs - 4) ∧ (DP G M_Sb_append_15ec4 [vA x2, vA (xa G 264)] w580 c583 s584 (fun v588 w587 => ∃ a589 : Nat, v588 = some a589 ∧ (∃ c591 s592 : Nat, c591 ≤ ((rc - 1) - c583) ∧ s592 ≤ ((rs - 4) - s584) ∧ ((Is G w587 a589 (kO 17)) ∧ DP G M_Sb_append_bf812 [vA a589, vI (wI w587 q558 0)] w587 c591 s592 (fun v597 w596 => ∃ a598 : Nat, v597 = some a598 ∧ (∃ c600 s601 : Nat, c600 ≤ (((rc - 1) - c583) - c591) ∧ s601 ≤ (((rs - 4) - s584) - s592) ∧ ((Is G w596 a598 (kO 17)) ∧ DP G M_Sb_append_cf468 [vA a598, vI 32] w596 c600 s601 (fun v606 w605 => ∃ a607 : Nat, v606 = some a607 ∧ (∃ c609 s610 : Nat, c609 ≤ ((((rc - 1) - c583) - c591) - c600) ∧ s610 ≤ ((((rs - 4) - s584) - s592) - s601) ∧ ((Is G w605 a607 (kO 17)) ∧ DP G M_Sb_append_bf812 [vA a607, vI (wI w605 q558 1)] w605 c609 s610 (fun v615 w614 => (0 ≤ (wI w614 q558 2) → ∃ a617 : Nat, v615 = some a617 ∧ (∃ c619 s620 : Nat, c619 ≤ (((((rc - 1) - c583) - c591) - c600) - c609) ∧ s620 ≤ (((((rs - 4) - s584) - s592) - s601) - s610) ∧ ((Is G w614 a617 (kO 17)) ∧ DP G M_Sb_append_15ec4 [vA a617, vA (xa G 268)] w614 c619 s620 (fun v625 w624 => DI G M_Ma_abs [vI (wI w624 q558 2)] w624 0 0 (fun v627 w626 => ∃ a628 : Nat, v625 = some a628 ∧ (∃ c630 s631 : Nat, c630 ≤ ((((((rc - 1) - c583) - c591) - c600) - c609) - c619) ∧ s631 ≤ ((((((rs - 4) - s584) - s592) - s601) - s610) - s620) ∧ ((Is G w626 a628 (kO 17)) ∧ DP G M_Sb_append_bf812 [vA a628, vI v627] w626 c630 s631 (fun v636 w635 => DI G M_Cl_draw [vA x1, vI 3] w635 0 0 (fun v638 w637 => (¬ v638 = 0 → ∃ a640 : Nat, v636 = some a640 ∧ (∃ c642 s643 : Nat, c642 ≤ (((((((rc - 1) - c583) - c591) - c600) - c609) - c619) - c630) ∧ s643 ≤ (((((((rs - 4) - s584) - s592) - s601) - s610) - s620) - s631) ∧ ((Is G w637 a640 (kO 17)) ∧ DP G M_Sb_append_15ec4 [vA a640, vA (xa G 272)] w637 c642 s643 (fun v648 w647 => ∃ a649 : Nat, (wR w647 x0 0) = some a649 ∧ (∃ c651 s652 : Nat, c651 ≤ ((((((((rc - 1) - c583) - c591) - c600) - c609) - c619) - c630) - c642) ∧ s652 ≤ ((((((((rs - 4) - s584) - s592) - s601) - s610) - s620) - s631) - s643) ∧ ((Is G w647 a649 (kO 14)) ∧ DI G M_Al_add_9ea2d [vA a649, vA q558] w647 c651 s652 (fun v657 w656 => WD G M_Cl_drawn 82 [(0, vA x0), (1, vA x1), (2, vA x2), (3, vI (x3 + (-1))), (4, vI x4)] [] w656 (((((((((rc - 1) - c583) - c591) - c600) - c609) - c619) - c630) - c642) - c651) (((((((((rs - 4) - s584) - s592) - s601) - s610) - s620) - s631) - s643) - s652) (yP K)))))))) ∧ (v638 = 0 → ∃ a658 : Nat, v636 = some a658 ∧ (∃ c660 s661 : Nat, c660 ≤ (((((((rc - 1) - c583) - c591) - c600) - c609) - c619) - c630) ∧ s661 ≤ (((((((rs - 4) - s584) - s592) - s601) - s610) - s620) - s631) ∧ ((Is G w637 a658 (kO 17)) ∧ DP G M_Sb_append_15ec4 [vA a658, vA (xa G 270)] w637 c660 s661 (fun v666 w665 => ∃ a667 : Nat, (wR w665 x0 0) = some a667 ∧ (∃ c669 s670 : Nat, c669 ≤ ((((((((rc - 1) - c583) - c591) - c600) - c609) - c619) - c630) - c660) ∧ s670 ≤ ((((((((rs - 4) - s584) - s592) - s601) - s610) - s620) - s631) - s661) ∧ ((Is G w665 a667 (kO 14)) ∧ DI G M_Al_add_9ea2d [vA a667, vA q558] w665 c669 s670 (fun v675 w674 => WD G M_Cl_drawn 82 [(0, vA x0), (1, vA x1), (2, vA x2), (3, vI (x3 + (-1))), (4, vI x4)] [] w674 (((((((((rc - 1) - c583) - c591) - c600) - c609) - c619) - c630) - c660) - c669) (((((((((rs - 4) - s584) - s592) - s601) - s610) - s620) - s631) - s661) - s670) (yP K))))))))))))))))) ∧ (¬ 0 ≤ (wI w614 q558 2) → ∃ a676 : Nat, v615 = some a676 ∧ (∃ c678 s679 : Nat, c678 ≤ (((((rc - 1) - c583) - c591) - c600) - c609) ∧ s679 ≤ (((((rs - 4) - s584) - s592) - s601) - s610) ∧ ((Is G w614 a676 (kO 17)) ∧ DP G M_Sb_append_15ec4 [vA a676, vA (xa G 266)] w614 c678 s679 (fun v684 w683 => DI G M_Ma_abs [vI (wI w683 q558 2)] w683 0 0 (fun v686 w685 => ∃ a687 : Nat, v684 = some a687 ∧ (∃ c689 s690 : Nat, c689 ≤ ((((((rc - 1) - c583) - c591) - c600) - c609) - c678) ∧ s690 ≤ ((((((rs - 4) - s584) - s592) - s601) - s610) - s679) ∧ ((Is G w685 a687 (kO 17)) ∧ DP G M_Sb_append_bf812 [vA a687, vI v686] w685 c689 s690 (fun v695 w694 => DI G M_Cl_draw [vA x1, vI 3] w694 0 0 (fun v697 w696 => (¬ v697 = 0 → ∃ a699 : Nat, v695 = some a699 ∧ (∃ c701 s702 : Nat, c701 ≤ (((((((rc - 1) - c583) - c591) - c600) - c609) - c678) - c689) ∧ s702 ≤ (((((((rs - 4) - s584) - s592) - s601) - s610) - s679) - s690) ∧ ((Is G w696 a699 (kO 17)) ∧ DP G M_Sb_append_15ec4 [vA a699, vA (xa G 272)] w696 c701 s702 (fun v707 w706 => ∃ a708 : Nat, (wR w706 x0 0) = some a708 ∧ (∃ c710 s711 : Nat, c710 ≤ ((((((((rc - 1) - c583) - c591) - c600) - c609) - c678) - c689) - c701) ∧ s711 ≤ ((((((((rs - 4) - s584) - s592) - s601) - s610) - s679) - s690) - s702) ∧ ((Is G w706 a708 (kO 14)) ∧ DI G M_Al_add_9ea2d [vA a708, vA q558] w706 c710 s711 (fun v716 w715 => WD G M_Cl_drawn 82 [(0, vA x0), (1, vA x1), (2, vA x2), (3, vI (x3 + (-1))), (4, vI x4)] [] w715 (((((((((rc - 1) - c583) - c591) - c600) - c609) - c678) - c689) - c701) - c710) (((((((((rs - 4) - s584) - s592) - s601) - s610) - s679) - s690) - s702) - s711) (yP K)))))))) ∧ (v697 = 0 → ∃ a717 : Nat, v695 = some a717 ∧ (∃ c719 s720 : Nat, c719 ≤ (((((((rc - 1) - c583) - c591) - c600) - c609) - c678) - c689) ∧ s720 ≤ (((((((rs - 4) - s584) - s592) - s601) - s610) - s679) - s690) ∧ ((Is G w696 a717 (kO 17)) ∧ DP G M_Sb_append_15ec4 [vA a717, vA (xa G 270)] w696 c719 s720 (fun v725 w724 => ∃ a726 : Nat, (wR w724 x0 0) = some a726 ∧ (∃ c728 s729 : Nat, c728 ≤ ((((((((rc - 1) - c583) - c591) - c600) - c609) - c678) - c689) - c719) ∧ s729 ≤ ((((((((rs - 4) - s584) - s592) - s601) - s610) - s679) - s690) - s720) ∧ ((Is G w724 a726 (kO 14)) ∧ DI G M_Al_add_9ea2d [vA a726, vA q558] w724 c728 s729 (fun v734 w733 => WD G M_Cl_drawn 82 [(0, vA x0), (1, vA x1), (2, vA x2), (3, vI (x3 + (-1))), (4, vI x4)] [] w733 (((((((((rc - 1) - c583) - c591) - c600) - c609) - c678) - c689) - c719) - c728) (((((((((rs - 4) - s584) - s592) - s601) - s610) - s679) - s690) - s720) - s729) (yP K))))))))))))))))))))))))))))) ∧ (v581 = 48 → WD G M_Cl_drawn 82 [(0, vA x0), (1, vA x1), (2, vA x2), (3, vI (x3 + (-1))), (4, vI x4)] [] w580 (rc - 1) (rs - 4) (yP K))))))))) ∧ (v567 = 0 → DI G M_Cl_draw [vA x1, vI 50] w566 0 0 (fun v736 w735 => (inR (-v736)) ∧ DI G M_Bo_find [vA x0, vI (wI w735 q558 0), vI (wI w735 q558 1)] (uI w735 q558 2 (-v736)) 0 0 (fun v739 w738 => (0 ≤ v739 → WD G M_Cl_drawn 82 [(0, vA x0), (1, vA x1), (2, vA x2), (3, vI (x3 + (-1))), (4, vI x4)] [] w738 (rc - 1) (rs - 4) (yP K)) ∧ (¬ 0 ≤ v739 → ∃ a741 : Nat, (wR w738 x0 0) = some a741 ∧ ((Is G w738 a741 (kO 14)) ∧ DI G M_Al_size [vA a741] w738 0 0 (fun v745 w744 => (¬ v745 = 48 → ∃ c747 s748 : Nat, c747 ≤ (rc - 1) ∧ s748 ≤ (rs - 4) ∧ (DP G M_Sb_append_15ec4 [vA x2, vA (xa G 264)] w744 c747 s748 (fun v752 w751 => ∃ a753 : Nat, v752 = some a753 ∧ (∃ c755 s756 : Nat, c755 ≤ ((rc - 1) - c747) ∧ s756 ≤ ((rs - 4) - s748) ∧ ((Is G w751 a753 (kO 17)) ∧ DP G M_Sb_append_bf812 [vA a753, vI (wI w751 q558 0)] w751 c755 s756 (fun v761 w760 => ∃ a762 : Nat, v761 = some a762 ∧ (∃ c764 s765 : Nat, c764 ≤ (((rc - 1) - c747) - c755) ∧ s765 ≤ (((rs - 4) - s748) - s756) ∧ ((Is G w760 a762 (kO 17)) ∧ DP G M_Sb_append_cf468 [vA a762, vI 32] w760 c764 s765 (fun v770 w769 => ∃ a771 : Nat, v770 = some a771 ∧ (∃ c773 s774 : Nat, c773 ≤ ((((rc - 1) - c747) - c755) - c764) ∧ s774 ≤ ((((rs - 4) - s748) - s756) - s765) ∧ ((Is G w769 a771 (kO 17)) ∧ DP G M_Sb_append_bf812 [vA a771, vI (wI w769 q558 1)] w769 c773 s774 (fun v779 w778 => (0 ≤ (wI w778 q558 2) → ∃ a781 : Nat, v779 = some a781 ∧ (∃ c783 s784 : Nat, c783 ≤ (((((rc - 1) - c747) - c755) - c764) - c773) ∧ s784 ≤ (((((rs - 4) - s748) - s756) - s765) - s774) ∧ ((Is G w778 a781 (kO 17)) ∧ DP G M_Sb_append_15ec4 [vA a781, vA (xa G 268)] w778 c783 s784 (fun v789 w788 => DI G M_Ma_abs [vI (wI w788 q558 2)] w788 0 0 (fun v791 w790 => ∃ a792 : Nat, v789 = some a792 ∧ (∃ c794 s795 : Nat, c794 ≤ ((((((rc - 1) - c747) - c755) - c764) - c773) - c783) ∧ s795 ≤ ((((((rs - 4) - s748) - s756) - s765) - s774) - s784) ∧ ((Is G w790 a792 (kO 17)) ∧ DP G M_Sb_append_bf812 [vA a792, vI v791] w790 c794 s795 (fun v800 w799 => DI G M_Cl_draw [vA x1, vI 3] w799 0 0 (fun v802 w801 => (¬ v802 = 0 → ∃ a804 : Nat, v800 = some a804 ∧ (∃ c806 s807 : Nat, c806 ≤ (((((((rc - 1) - c747) - c755) - c764) - c773) - c783) - c794) ∧ s807 ≤ (((((((rs - 4) - s748) - s756) - s765) - s774) - s784) - s795) ∧ ((Is G w801 a804 (kO 17)) ∧ DP G M_Sb_append_15ec4 [vA a804, vA (xa G 272)] w801 c806 s807 (fun v812 w811 => ∃ a813 : Nat, (wR w811 x0 0) = some a813 ∧ (∃ c815 s816 : Nat, c815 ≤ ((((((((rc - 1) - c747) - c755) - c764) - c773) - c783) - c794) - c806) ∧ s816 ≤ ((((((((rs - 4) - s748) - s756) - s765) - s774) - s784) - s795) - s807) ∧ ((Is G w811 a813 (kO 14)) ∧ DI G M_Al_add_9ea2d [vA a813, vA q558] w811 c815 s816 (fun v821 w820 => WD G M_Cl_drawn 82 [(0, vA x0), (1, vA x1), (2, vA x2), (3, vI (x3 + (-1))), (4, vI x4)] [] w820 (((((((((rc - 1) - c747) - c755) - c764) - c773) - c783) - c794) - c806) - c815) (((((((((rs - 4) - s748) - s756) - s765) - s774) - s784) - s795) - s807) - s816) (yP K)))))))) ∧ (v802 = 0 → ∃ a822 : Nat, v800 = some a822 ∧ (∃ c824 s825 : Nat, c824 ≤ (((((((rc - 1) - c747) - c755) - c764) - c773) - c783) - c794) ∧ s825 ≤ (((((((rs - 4) - s748) - s756) - s765) - s774) - s784) - s795) ∧ ((Is G w801 a822 (kO 17)) ∧ DP G M_Sb_append_15ec4 [vA a822, vA (xa G 270)] w801 c824 s825 (fun v830 w829 => ∃ a831 : Nat, (wR w829 x0 0) = some a831 ∧ (∃ c833 s834 : Nat, c833 ≤ ((((((((rc - 1) - c747) - c755) - c764) - c773) - c783) - c794) - c824) ∧ s834 ≤ ((((((((rs - 4) - s748) - s756) - s765) - s774) - s784) - s795) - s825) ∧ ((Is G w829 a831 (kO 14)) ∧ DI G M_Al_add_9ea2d [vA a831, vA q558] w829 c833 s834 (fun v839 w838 => WD G M_Cl_drawn 82 [(0, vA x0), (1, vA x1), (2, vA x2), (3, vI (x3 + (-1))), (4, vI x4)] [] w838 (((((((((rc - 1) - c747) - c755) - c764) - c773) - c783) - c794) - c824) - c833) (((((((((rs - 4) - s748) - s756) - s765) - s774) - s784) - s795) - s825) - s834) (yP K))))))))))))))))) ∧ (¬ 0 ≤ (wI w778 q558 2) → ∃ a840 : Nat, v779 = some a840 ∧ (∃ c842 s843 : Nat, c842 ≤ (((((rc - 1) - c747) - c755) - c764) - c773) ∧ s843 ≤ (((((rs - 4) - s748) - s756) - s765) - s774) ∧ ((Is G w778 a840 (kO 17)) ∧ DP G M_Sb_append_15ec4 [vA a840, vA (xa G 266)] w778 c842 s843 (fun v848 w847 => DI G M_Ma_abs [vI (wI w847 q558 2)] w847 0 0 (fun v850 w849 => ∃ a851 : Nat, v848 = some a851 ∧ (∃ c853 s854 : Nat, c853 ≤ ((((((rc - 1) - c747) - c755) - c764) - c773) - c842) ∧ s854 ≤ ((((((rs - 4) - s748) - s756) - s765) - s774) - s843) ∧ ((Is G w849 a851 (kO 17)) ∧ DP G M_Sb_append_bf812 [vA a851, vI v850] w849 c853 s854 (fun v859 w858 => DI G M_Cl_draw [vA x1, vI 3] w858 0 0 (fun v861 w860 => (¬ v861 = 0 → ∃ a863 : Nat, v859 = some a863 ∧ (∃ c865 s866 : Nat, c865 ≤ (((((((rc - 1) - c747) - c755) - c764) - c773) - c842) - c853) ∧ s866 ≤ (((((((rs - 4) - s748) - s756) - s765) - s774) - s843) - s854) ∧ ((Is G w860 a863 (kO 17)) ∧ DP G M_Sb_append_15ec4 [vA a863, vA (xa G 272)] w860 c865 s866 (fun v871 w870 => ∃ a872 : Nat, (wR w870 x0 0) = some a872 ∧ (∃ c874 s875 : Nat, c874 ≤ ((((((((rc - 1) - c747) - c755) - c764) - c773) - c842) - c853) - c865) ∧ s875 ≤ ((((((((rs - 4) - s748) - s756) - s765) - s774) - s843) - s854) - s866) ∧ ((Is G w870 a872 (kO 14)) ∧ DI G M_Al_add_9ea2d [vA a872, vA q558] w870 c874 s875 (fun v880 w879 => WD G M_Cl_drawn 82 [(0, vA x0), (1, vA x1), (2, vA x2), (3, vI (x3 + (-1))), (4, vI x4)] [] w879 (((((((((rc - 1) - c747) - c755) - c764) - c773) - c842) - c853) - c865) - c874) (((((((((rs - 4) - s748) - s756) - s765) - s774) - s843) - s854) - s866) - s875) (yP K)))))))) ∧ (v861 = 0 → ∃ a881 : Nat, v859 = some a881 ∧ (∃ c883 s884 : Nat, c883 ≤ (((((((rc - 1) - c747) - c755) - c764) - c773) - c842) - c853) ∧ s884 ≤ (((((((rs - 4) - s748) - s756) - s765) - s774) - s843) - s854) ∧ ((Is G w860 a881 (kO 17)) ∧ DP G M_Sb_append_15ec4 [vA a881, vA (xa G 270)] w860 c883 s884 (fun v889 w888 => ∃ a890 : Nat, (wR w888 x0 0) = some a890 ∧ (∃ c892 s893 : Nat, c892 ≤ ((((((((rc - 1) - c747) - c755) - c764) - c773) - c842) - c853) - c883) ∧ s893 ≤ ((((((((rs - 4) - s748) - s756) - s765) - s774) - s843) - s854) - s884) ∧ ((Is G w888 a890 (kO 14)) ∧ DI G M_Al_add_9ea2d [vA a890, vA q558] w888 c892 s893 (fun v898 w897 => WD G M_Cl_drawn 82 [(0, vA x0), (1, vA x1), (2, vA x2), (3, vI (x3 + (-1))), (4, vI x4)] [] w897 (((((((((rc - 1) - c747) - c755) - c764) - c773) - c842) - c853) - c883) - c892) (((((((((rs - 4) - s748) - s756) - s765) - s774) - s843) - s854) - s884) - s893) (yP K))))))))))))))))))))))))))))) ∧ (v745 = 48 → WD G M_Cl_drawn 82 [(0, vA x0), (1, vA x1), (2, vA x2), (3, vI (x3 + (-1))), (4, vI x4)] [] w744 (rc - 1) (rs - 4) (yP K)))))))))))))))))))))) : WD G M_Cl_drawn 82 [(0, vA x0), (1, vA x1), (2, vA x2), (3, vI x3), (4, vI x4)] [] w rc rs (yP K) := by
  refine x_iload_n d_Cl_drawn_82 rfl (?_ : WD _ _ 83 _ _ _ _ _ _)
  obtain ⟨h42, h⟩ := h
  refine x_iinc (ls' := [(3, vI (x3 + (-1))), (0, vA x0), (1, vA x1), (2, vA x2), (4, vI x4)]) d_Cl_drawn_83 rfl h42 (by decide) rfl (?_ : WD _ _ 86 _ _ _ _ _ _)
  refine x_if_le 431 d_Cl_drawn_86 rfl ⟨fun c43 => (?_ : WD _ _ 431 _ _ _ _ _ _), fun c43 => (?_ : WD _ _ 89 _ _ _ _ _ _)⟩
  · replace h := h.1 c43
    refine x_aload_nP (some x2) d_Cl_drawn_431 rfl (?_ : WD _ _ 432 _ _ _ _ _ _)
    obtain ⟨c44, s45, h46, h47, h⟩ := h
    obtain ⟨k48, h⟩ := h
    refine x_callV (ν := M_Sb_toString) [] ok_M_Sb_toString okv_M_Sb_toString k48 rfl rfl (qm_4 (i := 182) rfl rfl) np_M_Sb_toString rfl ⟨Nat.le_of_ble_eq_true rfl, Nat.le_of_ble_eq_true rfl⟩ (Nat.le_of_ble_eq_true rfl) rfl d_Cl_drawn_432 h46 h47 (DP.k h (fun v50 w49 gw49 h => (?_ : WD _ _ 435 _ _ _ _ _ _)))
    exact x_areturn v50 rfl (Or.inl ⟨_, rfl⟩) d_Cl_drawn_435 h
  · replace h := h.2 c43
    refine x_aload_nP (some x2) d_Cl_drawn_89 rfl (?_ : WD _ _ 90 _ _ _ _ _ _)
    obtain ⟨k51, h⟩ := h
    refine x_callV (ν := M_Sb_length) [] ok_M_Sb_length okv_M_Sb_length k51 rfl rfl (qm_3 (i := 223) rfl rfl) np_M_Sb_length rfl ⟨Nat.le_of_ble_eq_true rfl, Nat.le_of_ble_eq_true rfl⟩ (Nat.le_of_ble_eq_true rfl) rfl d_Cl_drawn_90 (Nat.zero_le _) (Nat.zero_le _) (DI.k h (fun v53 w52 gw52 h => (?_ : WD _ _ 93 _ _ _ _ _ _)))
    refine x_sipush d_Cl_drawn_93 (by decide) (by decide) (?_ : WD _ _ 96 _ _ _ _ _ _)
    refine x_icmp_ge 431 d_Cl_drawn_96 rfl ⟨fun c54 => (?_ : WD _ _ 431 _ _ _ _ _ _), fun c54 => (?_ : WD _ _ 99 _ _ _ _ _ _)⟩
    · replace h := h.1 c54
      refine x_aload_nP (some x2) d_Cl_drawn_431 rfl (?_ : WD _ _ 432 _ _ _ _ _ _)
      obtain ⟨c55, s56, h57, h58, h⟩ := h
      refine x_callV (ν := M_Sb_toString) [] ok_M_Sb_toString okv_M_Sb_toString (k51.q gw52.k) rfl rfl (qm_4 (i := 182) rfl rfl) np_M_Sb_toString rfl ⟨Nat.le_of_ble_eq_true rfl, Nat.le_of_ble_eq_true rfl⟩ (Nat.le_of_ble_eq_true rfl) rfl d_Cl_drawn_432 h57 h58 (DP.k h (fun v60 w59 gw59 h => (?_ : WD _ _ 435 _ _ _ _ _ _)))
      exact x_areturn v60 rfl (Or.inl ⟨_, rfl⟩) d_Cl_drawn_435 h
    · replace h := h.2 c54
      refine x_aload_nP (some x0) d_Cl_drawn_99 rfl (?_ : WD _ _ 100 _ _ _ _ _ _)
      obtain ⟨k61, h⟩ := h
      refine x_getP (ref := "CoinSamplerLaw$Books") (j := 0) 0 k61 clk_11 (by decide) (qm_2 (i := 156) rfl rfl) (Or.inl rfl) rfl rfl d_Cl_drawn_100 (y := (wR w52 x0 0)) rfl (?_ : WD _ _ 103 _ _ _ _ _ _)
      obtain ⟨a62, e63, h⟩ := h
      rw [e63]
      obtain ⟨k64, h⟩ := h
      refine x_callV (ν := M_Al_isEmpty) [] ok_M_Al_isEmpty okv_M_Al_isEmpty k64 rfl rfl (qm_3 (i := 230) rfl rfl) np_M_Al_isEmpty rfl ⟨Nat.le_of_ble_eq_true rfl, Nat.le_of_ble_eq_true rfl⟩ (Nat.le_of_ble_eq_true rfl) rfl d_Cl_drawn_103 (Nat.zero_le _) (Nat.zero_le _) (DI.k h (fun v66 w65 gw65 h => (?_ : WD _ _ 106 _ _ _ _ _ _)))
      refine x_if_ne 117 d_Cl_drawn_106 rfl ⟨fun c67 => (?_ : WD _ _ 117 _ _ _ _ _ _), fun c67 => (?_ : WD _ _ 109 _ _ _ _ _ _)⟩
      · replace h := h.1 c67
        refine x_null d_Cl_drawn_117 (?_ : WD _ _ 118 _ _ _ _ _ _)
        refine x_goto 142 d_Cl_drawn_118 rfl ?_
        refine x_astoreP none (ls' := [(5, vP none), (3, vI (x3 + (-1))), (0, vA x0), (1, vA x1), (2, vA x2), (4, vI x4)]) d_Cl_drawn_142 (by decide) rfl (?_ : WD _ _ 144 _ _ _ _ _ _)
        refine x_aloadP none d_Cl_drawn_144 rfl (?_ : WD _ _ 146 _ _ _ _ _ _)
        refine x_ifnull (r := none) 244 d_Cl_drawn_146 rfl ⟨fun _ => (?_ : WD _ _ 244 _ _ _ _ _ _), fun _ hz => absurd hz (by simp)⟩
        obtain ⟨h68, h⟩ := h
        obtain ⟨h69, h⟩ := h
        refine x_new d_Cl_drawn_244 clk_13 tyX13_ok (qm_3 (i := 184) rfl rfl) (qm_4 (i := 146) rfl rfl) (qm_1 (i := 29) rfl rfl) hfd_13 h68 h69 (fun q70 fq70 => (?_ : WD _ _ 247 _ _ _ _ _ _))
        replace h := h q70 fq70
        have k71 : Ow (uN w65 q70 (kO 13)) q70 (kO 13) := Ow.nw
        refine x_dup d_Cl_drawn_247 rfl (?_ : WD _ _ 248 _ _ _ _ _ _)
        refine x_callIN (ν := M_It_init) "CoinSamplerLaw" [] ok_M_It_init oki_M_It_init rfl rfl (by decide) np_M_It_init rfl ⟨Nat.le_of_ble_eq_true rfl, Nat.le_of_ble_eq_true rfl⟩ (Nat.le_of_ble_eq_true rfl) rfl d_Cl_drawn_248 (Nat.zero_le _) (Nat.zero_le _) (DV.k h (fun w72 gw72 h => (?_ : WD _ _ 251 _ _ _ _ _ _)))
        refine x_astoreP (some q70) (ls' := [(5, vA q70), (3, vI (x3 + (-1))), (0, vA x0), (1, vA x1), (2, vA x2), (4, vI x4)]) d_Cl_drawn_251 (by decide) rfl (?_ : WD _ _ 253 _ _ _ _ _ _)
        refine x_aloadP (some q70) d_Cl_drawn_253 rfl (?_ : WD _ _ 255 _ _ _ _ _ _)
        refine x_aload_nP (some x1) d_Cl_drawn_255 rfl (?_ : WD _ _ 256 _ _ _ _ _ _)
        refine x_iconst d_Cl_drawn_256 (by decide) (?_ : WD _ _ 257 _ _ _ _ _ _)
        refine x_callS (ν := M_Cl_draw) [vA x1, vI 5] ok_M_Cl_draw oks_M_Cl_draw (qm_3 (i := 179) rfl rfl) np_M_Cl_draw rfl ⟨Nat.le_of_ble_eq_true rfl, Nat.le_of_ble_eq_true rfl⟩ (Nat.le_of_ble_eq_true rfl) rfl d_Cl_drawn_257 (Nat.zero_le _) (Nat.zero_le _) (DI.k h (fun v75 w74 gw74 h => (?_ : WD _ _ 260 _ _ _ _ _ _)))
        refine x_putI (ref := "CoinSamplerLaw$Item") (j := 0) 0 ((k71.q gw72.k).q gw74.k) clk_13 (by decide) (qm_4 (i := 151) rfl rfl) (Or.inl rfl) (Or.inl rfl) tyX13_ok rfl nmX13 d_Cl_drawn_260 rfl rfl (fun _ => rfl) rfl (?_ : WD _ _ 263 _ _ _ _ _ _)
        refine x_aloadP (some q70) d_Cl_drawn_263 rfl (?_ : WD _ _ 265 _ _ _ _ _ _)
        refine x_aload_nP (some x1) d_Cl_drawn_265 rfl (?_ : WD _ _ 266 _ _ _ _ _ _)
        refine x_sipush d_Cl_drawn_266 (by decide) (by decide) (?_ : WD _ _ 269 _ _ _ _ _ _)
        refine x_callS (ν := M_Cl_draw) [vA x1, vI 300] ok_M_Cl_draw oks_M_Cl_draw (qm_3 (i := 179) rfl rfl) np_M_Cl_draw rfl ⟨Nat.le_of_ble_eq_true rfl, Nat.le_of_ble_eq_true rfl⟩ (Nat.le_of_ble_eq_true rfl) rfl d_Cl_drawn_269 (Nat.zero_le _) (Nat.zero_le _) (DI.k h (fun v77 w76 gw76 h => (?_ : WD _ _ 272 _ _ _ _ _ _)))
        refine x_putI (ref := "CoinSamplerLaw$Item") (j := 1) 1 (((k71.q gw72.k).q gw74.k).q gw76.k) clk_13 (by decide) (qm_4 (i := 153) rfl rfl) (Or.inl rfl) (Or.inl rfl) tyX13_ok rfl nmX13 d_Cl_drawn_272 rfl rfl (fun _ => rfl) rfl (?_ : WD _ _ 275 _ _ _ _ _ _)
        refine x_aloadP (some q70) d_Cl_drawn_275 rfl (?_ : WD _ _ 277 _ _ _ _ _ _)
        refine x_aload_nP (some x1) d_Cl_drawn_277 rfl (?_ : WD _ _ 278 _ _ _ _ _ _)
        refine x_bipush d_Cl_drawn_278 (by decide) (by decide) (?_ : WD _ _ 280 _ _ _ _ _ _)
        refine x_callS (ν := M_Cl_draw) [vA x1, vI 8] ok_M_Cl_draw oks_M_Cl_draw (qm_3 (i := 179) rfl rfl) np_M_Cl_draw rfl ⟨Nat.le_of_ble_eq_true rfl, Nat.le_of_ble_eq_true rfl⟩ (Nat.le_of_ble_eq_true rfl) rfl d_Cl_drawn_280 (Nat.zero_le _) (Nat.zero_le _) (DI.k h (fun v79 w78 gw78 h => (?_ : WD _ _ 283 _ _ _ _ _ _)))
        refine x_if_ne 296 d_Cl_drawn_283 rfl ⟨fun c80 => (?_ : WD _ _ 296 _ _ _ _ _ _), fun c80 => (?_ : WD _ _ 286 _ _ _ _ _ _)⟩
        · replace h := h.1 c80
          refine x_aload_nP (some x1) d_Cl_drawn_296 rfl (?_ : WD _ _ 297 _ _ _ _ _ _)
          refine x_iconst d_Cl_drawn_297 (by decide) (?_ : WD _ _ 298 _ _ _ _ _ _)
          refine x_aload_nP (some x1) d_Cl_drawn_298 rfl (?_ : WD _ _ 299 _ _ _ _ _ _)
          refine x_iload d_Cl_drawn_299 rfl (?_ : WD _ _ 301 _ _ _ _ _ _)
          refine x_callS (ν := M_Cl_draw) [vA x1, vI x4] ok_M_Cl_draw oks_M_Cl_draw (qm_3 (i := 179) rfl rfl) np_M_Cl_draw rfl ⟨Nat.le_of_ble_eq_true rfl, Nat.le_of_ble_eq_true rfl⟩ (Nat.le_of_ble_eq_true rfl) rfl d_Cl_drawn_301 (Nat.zero_le _) (Nat.zero_le _) (DI.k h (fun v82 w81 gw81 h => (?_ : WD _ _ 304 _ _ _ _ _ _)))
          obtain ⟨h83, h⟩ := h
          refine x_iadd d_Cl_drawn_304 h83 (?_ : WD _ _ 305 _ _ _ _ _ _)
          refine x_callS (ν := M_Cl_draw) [vA x1, vI (1 + v82)] ok_M_Cl_draw oks_M_Cl_draw (qm_3 (i := 179) rfl rfl) np_M_Cl_draw rfl ⟨Nat.le_of_ble_eq_true rfl, Nat.le_of_ble_eq_true rfl⟩ (Nat.le_of_ble_eq_true rfl) rfl d_Cl_drawn_305 (Nat.zero_le _) (Nat.zero_le _) (DI.k h (fun v85 w84 gw84 h => (?_ : WD _ _ 308 _ _ _ _ _ _)))
          refine x_putI (ref := "CoinSamplerLaw$Item") (j := 2) 2 ((((((k71.q gw72.k).q gw74.k).q gw76.k).q gw78.k).q gw81.k).q gw84.k) clk_13 (by decide) (qm_4 (i := 157) rfl rfl) (Or.inl rfl) (Or.inl rfl) tyX13_ok rfl nmX13 d_Cl_drawn_308 rfl rfl (fun _ => rfl) rfl (?_ : WD _ _ 311 _ _ _ _ _ _)
          refine x_aload_nP (some x0) d_Cl_drawn_311 rfl (?_ : WD _ _ 312 _ _ _ _ _ _)
          refine x_aloadP (some q70) d_Cl_drawn_312 rfl (?_ : WD _ _ 314 _ _ _ _ _ _)
          refine x_getI (ref := "CoinSamplerLaw$Item") (j := 0) 0 ((((((k71.q gw72.k).q gw74.k).q gw76.k).q gw78.k).q gw81.k).q gw84.k).is clk_13 (by decide) (qm_4 (i := 151) rfl rfl) (Or.inl rfl) rfl rfl d_Cl_drawn_314 (y := (wI w84 q70 0)) (wI_uI_j (by decide)) (?_ : WD _ _ 317 _ _ _ _ _ _)
          refine x_aloadP (some q70) d_Cl_drawn_317 rfl (?_ : WD _ _ 319 _ _ _ _ _ _)
          refine x_getI (ref := "CoinSamplerLaw$Item") (j := 1) 1 ((((((k71.q gw72.k).q gw74.k).q gw76.k).q gw78.k).q gw81.k).q gw84.k).is clk_13 (by decide) (qm_4 (i := 153) rfl rfl) (Or.inl rfl) rfl rfl d_Cl_drawn_319 (y := (wI w84 q70 1)) (wI_uI_j (by decide)) (?_ : WD _ _ 322 _ _ _ _ _ _)
          refine x_callV (ν := M_Bo_find) [vI (wI w84 q70 0), vI (wI w84 q70 1)] ok_M_Bo_find okv_M_Bo_find ((((((((k61.q gw65.k).nu fq70).q gw72.k).q gw74.k).q gw76.k).q gw78.k).q gw81.k).q gw84.k) rfl rfl (qm_4 (i := 169) rfl rfl) np_M_Bo_find rfl ⟨Nat.le_of_ble_eq_true rfl, Nat.le_of_ble_eq_true rfl⟩ (Nat.le_of_ble_eq_true rfl) rfl d_Cl_drawn_322 (Nat.zero_le _) (Nat.zero_le _) (DI.k h (fun v87 w86 gw86 h => (?_ : WD _ _ 325 _ _ _ _ _ _)))
          refine x_if_ge 82 d_Cl_drawn_325 rfl ⟨fun c88 => (?_ : WD _ _ 82 _ _ _ _ _ _), fun c88 => (?_ : WD _ _ 328 _ _ _ _ _ _)⟩
          · replace h := h.1 c88
            refine x_pick (ls' := [(0, vA x0), (1, vA x1), (2, vA x2), (3, vI (x3 + (-1))), (4, vI x4)]) [2, 3, 4, 1, 5] rfl ?_
            exact h
          · replace h := h.2 c88
            refine x_aload_nP (some x0) d_Cl_drawn_328 rfl (?_ : WD _ _ 329 _ _ _ _ _ _)
            refine x_getP (ref := "CoinSamplerLaw$Books") (j := 0) 0 (((((((((k61.q gw65.k).nu fq70).q gw72.k).q gw74.k).q gw76.k).q gw78.k).q gw81.k).q gw84.k).q gw86.k) clk_11 (by decide) (qm_2 (i := 156) rfl rfl) (Or.inl rfl) rfl rfl d_Cl_drawn_329 (y := (wR w86 x0 0)) rfl (?_ : WD _ _ 332 _ _ _ _ _ _)
            obtain ⟨a89, e90, h⟩ := h
            rw [e90]
            obtain ⟨k91, h⟩ := h
            refine x_callV (ν := M_Al_size) [] ok_M_Al_size okv_M_Al_size k91 rfl rfl (qm_3 (i := 178) rfl rfl) np_M_Al_size rfl ⟨Nat.le_of_ble_eq_true rfl, Nat.le_of_ble_eq_true rfl⟩ (Nat.le_of_ble_eq_true rfl) rfl d_Cl_drawn_332 (Nat.zero_le _) (Nat.zero_le _) (DI.k h (fun v93 w92 gw92 h => (?_ : WD _ _ 335 _ _ _ _ _ _)))
            refine x_bipush d_Cl_drawn_335 (by decide) (by decide) (?_ : WD _ _ 337 _ _ _ _ _ _)
            refine x_icmp_ne 343 d_Cl_drawn_337 rfl ⟨fun c94 => (?_ : WD _ _ 343 _ _ _ _ _ _), fun c94 => (?_ : WD _ _ 340 _ _ _ _ _ _)⟩
            · replace h := h.1 c94
              refine x_aload_nP (some x2) d_Cl_drawn_343 rfl (?_ : WD _ _ 344 _ _ _ _ _ _)
              refine x_ldcS (q := 264) (tx := "item") d_Cl_drawn_344 (by decide) (?_ : WD _ _ 346 _ _ _ _ _ _)
              obtain ⟨c95, s96, h97, h98, h⟩ := h
              refine x_callV (ν := M_Sb_append_15ec4) [vA (xa G 264)] ok_M_Sb_append_15ec4 okv_M_Sb_append_15ec4 (((((((((((k51.q gw52.k).q gw65.k).nu fq70).q gw72.k).q gw74.k).q gw76.k).q gw78.k).q gw81.k).q gw84.k).q gw86.k).q gw92.k) rfl rfl (qm_3 (i := 235) rfl rfl) np_M_Sb_append_15ec4 rfl ⟨Nat.le_of_ble_eq_true rfl, Nat.le_of_ble_eq_true rfl⟩ (Nat.le_of_ble_eq_true rfl) rfl d_Cl_drawn_346 h97 h98 (DP.k h (fun v100 w99 gw99 h => (?_ : WD _ _ 349 _ _ _ _ _ _)))
              refine x_aloadP (some q70) d_Cl_drawn_349 rfl (?_ : WD _ _ 351 _ _ _ _ _ _)
              refine x_getI (ref := "CoinSamplerLaw$Item") (j := 0) 0 (((((((((k71.q gw72.k).q gw74.k).q gw76.k).q gw78.k).q gw81.k).q gw84.k).q gw86.k).q gw92.k).q gw99.k).is clk_13 (by decide) (qm_4 (i := 151) rfl rfl) (Or.inl rfl) rfl rfl d_Cl_drawn_351 (y := (wI w99 q70 0)) rfl (?_ : WD _ _ 354 _ _ _ _ _ _)
              obtain ⟨a101, e102, h⟩ := h
              rw [e102]
              obtain ⟨c103, s104, h105, h106, h⟩ := h
              obtain ⟨k107, h⟩ := h
              refine x_callV (ν := M_Sb_append_bf812) [vI (wI w99 q70 0)] ok_M_Sb_append_bf812 okv_M_Sb_append_bf812 k107 rfl rfl (qm_4 (i := 100) rfl rfl) np_M_Sb_append_bf812 rfl ⟨Nat.le_of_ble_eq_true rfl, Nat.le_of_ble_eq_true rfl⟩ (Nat.le_of_ble_eq_true rfl) rfl d_Cl_drawn_354 h105 h106 (DP.k h (fun v109 w108 gw108 h => (?_ : WD _ _ 357 _ _ _ _ _ _)))
              refine x_bipush d_Cl_drawn_357 (by decide) (by decide) (?_ : WD _ _ 359 _ _ _ _ _ _)
              obtain ⟨a110, e111, h⟩ := h
              rw [e111]
              obtain ⟨c112, s113, h114, h115, h⟩ := h
              obtain ⟨k116, h⟩ := h
              refine x_callV (ν := M_Sb_append_cf468) [vI 32] ok_M_Sb_append_cf468 okv_M_Sb_append_cf468 k116 rfl rfl (qm_4 (i := 125) rfl rfl) np_M_Sb_append_cf468 rfl ⟨Nat.le_of_ble_eq_true rfl, Nat.le_of_ble_eq_true rfl⟩ (Nat.le_of_ble_eq_true rfl) rfl d_Cl_drawn_359 h114 h115 (DP.k h (fun v118 w117 gw117 h => (?_ : WD _ _ 362 _ _ _ _ _ _)))
              refine x_aloadP (some q70) d_Cl_drawn_362 rfl (?_ : WD _ _ 364 _ _ _ _ _ _)
              refine x_getI (ref := "CoinSamplerLaw$Item") (j := 1) 1 (((((((((((k71.q gw72.k).q gw74.k).q gw76.k).q gw78.k).q gw81.k).q gw84.k).q gw86.k).q gw92.k).q gw99.k).q gw108.k).q gw117.k).is clk_13 (by decide) (qm_4 (i := 153) rfl rfl) (Or.inl rfl) rfl rfl d_Cl_drawn_364 (y := (wI w117 q70 1)) rfl (?_ : WD _ _ 367 _ _ _ _ _ _)
              obtain ⟨a119, e120, h⟩ := h
              rw [e120]
              obtain ⟨c121, s122, h123, h124, h⟩ := h
              obtain ⟨k125, h⟩ := h
              refine x_callV (ν := M_Sb_append_bf812) [vI (wI w117 q70 1)] ok_M_Sb_append_bf812 okv_M_Sb_append_bf812 k125 rfl rfl (qm_4 (i := 100) rfl rfl) np_M_Sb_append_bf812 rfl ⟨Nat.le_of_ble_eq_true rfl, Nat.le_of_ble_eq_true rfl⟩ (Nat.le_of_ble_eq_true rfl) rfl d_Cl_drawn_367 h123 h124 (DP.k h (fun v127 w126 gw126 h => (?_ : WD _ _ 370 _ _ _ _ _ _)))
              refine x_aloadP (some q70) d_Cl_drawn_370 rfl (?_ : WD _ _ 372 _ _ _ _ _ _)
              refine x_getI (ref := "CoinSamplerLaw$Item") (j := 2) 2 ((((((((((((k71.q gw72.k).q gw74.k).q gw76.k).q gw78.k).q gw81.k).q gw84.k).q gw86.k).q gw92.k).q gw99.k).q gw108.k).q gw117.k).q gw126.k).is clk_13 (by decide) (qm_4 (i := 157) rfl rfl) (Or.inl rfl) rfl rfl d_Cl_drawn_372 (y := (wI w126 q70 2)) rfl (?_ : WD _ _ 375 _ _ _ _ _ _)
              refine x_if_ge 383 d_Cl_drawn_375 rfl ⟨fun c128 => (?_ : WD _ _ 383 _ _ _ _ _ _), fun c128 => (?_ : WD _ _ 378 _ _ _ _ _ _)⟩
              · replace h := h.1 c128
                refine x_ldcS (q := 268) (tx := " ") d_Cl_drawn_383 (by decide) (?_ : WD _ _ 385 _ _ _ _ _ _)
                obtain ⟨a129, e130, h⟩ := h
                rw [e130]
                obtain ⟨c131, s132, h133, h134, h⟩ := h
                obtain ⟨k135, h⟩ := h
                refine x_callV (ν := M_Sb_append_15ec4) [vA (xa G 268)] ok_M_Sb_append_15ec4 okv_M_Sb_append_15ec4 k135 rfl rfl (qm_3 (i := 235) rfl rfl) np_M_Sb_append_15ec4 rfl ⟨Nat.le_of_ble_eq_true rfl, Nat.le_of_ble_eq_true rfl⟩ (Nat.le_of_ble_eq_true rfl) rfl d_Cl_drawn_385 h133 h134 (DP.k h (fun v137 w136 gw136 h => (?_ : WD _ _ 388 _ _ _ _ _ _)))
                refine x_aloadP (some q70) d_Cl_drawn_388 rfl (?_ : WD _ _ 390 _ _ _ _ _ _)
                refine x_getI (ref := "CoinSamplerLaw$Item") (j := 2) 2 (((((((((((((k71.q gw72.k).q gw74.k).q gw76.k).q gw78.k).q gw81.k).q gw84.k).q gw86.k).q gw92.k).q gw99.k).q gw108.k).q gw117.k).q gw126.k).q gw136.k).is clk_13 (by decide) (qm_4 (i := 157) rfl rfl) (Or.inl rfl) rfl rfl d_Cl_drawn_390 (y := (wI w136 q70 2)) rfl (?_ : WD _ _ 393 _ _ _ _ _ _)
                refine x_callS (ν := M_Ma_abs) [vI (wI w136 q70 2)] ok_M_Ma_abs oks_M_Ma_abs (qm_4 (i := 176) rfl rfl) np_M_Ma_abs rfl ⟨Nat.le_of_ble_eq_true rfl, Nat.le_of_ble_eq_true rfl⟩ (Nat.le_of_ble_eq_true rfl) rfl d_Cl_drawn_393 (Nat.zero_le _) (Nat.zero_le _) (DI.k h (fun v139 w138 gw138 h => (?_ : WD _ _ 396 _ _ _ _ _ _)))
                obtain ⟨a140, e141, h⟩ := h
                rw [e141]
                obtain ⟨c142, s143, h144, h145, h⟩ := h
                obtain ⟨k146, h⟩ := h
                refine x_callV (ν := M_Sb_append_bf812) [vI v139] ok_M_Sb_append_bf812 okv_M_Sb_append_bf812 k146 rfl rfl (qm_4 (i := 100) rfl rfl) np_M_Sb_append_bf812 rfl ⟨Nat.le_of_ble_eq_true rfl, Nat.le_of_ble_eq_true rfl⟩ (Nat.le_of_ble_eq_true rfl) rfl d_Cl_drawn_396 h144 h145 (DP.k h (fun v148 w147 gw147 h => (?_ : WD _ _ 399 _ _ _ _ _ _)))
                refine x_aload_nP (some x1) d_Cl_drawn_399 rfl (?_ : WD _ _ 400 _ _ _ _ _ _)
                refine x_iconst d_Cl_drawn_400 (by decide) (?_ : WD _ _ 401 _ _ _ _ _ _)
                refine x_callS (ν := M_Cl_draw) [vA x1, vI 3] ok_M_Cl_draw oks_M_Cl_draw (qm_3 (i := 179) rfl rfl) np_M_Cl_draw rfl ⟨Nat.le_of_ble_eq_true rfl, Nat.le_of_ble_eq_true rfl⟩ (Nat.le_of_ble_eq_true rfl) rfl d_Cl_drawn_401 (Nat.zero_le _) (Nat.zero_le _) (DI.k h (fun v150 w149 gw149 h => (?_ : WD _ _ 404 _ _ _ _ _ _)))
                refine x_if_ne 412 d_Cl_drawn_404 rfl ⟨fun c151 => (?_ : WD _ _ 412 _ _ _ _ _ _), fun c151 => (?_ : WD _ _ 407 _ _ _ _ _ _)⟩
                · replace h := h.1 c151
                  refine x_ldcS (q := 272) (tx := ";") d_Cl_drawn_412 (by decide) (?_ : WD _ _ 414 _ _ _ _ _ _)
                  obtain ⟨a152, e153, h⟩ := h
                  rw [e153]
                  obtain ⟨c154, s155, h156, h157, h⟩ := h
                  obtain ⟨k158, h⟩ := h
                  refine x_callV (ν := M_Sb_append_15ec4) [vA (xa G 272)] ok_M_Sb_append_15ec4 okv_M_Sb_append_15ec4 k158 rfl rfl (qm_3 (i := 235) rfl rfl) np_M_Sb_append_15ec4 rfl ⟨Nat.le_of_ble_eq_true rfl, Nat.le_of_ble_eq_true rfl⟩ (Nat.le_of_ble_eq_true rfl) rfl d_Cl_drawn_414 h156 h157 (DP.k h (fun v160 w159 gw159 h => (?_ : WD _ _ 417 _ _ _ _ _ _)))
                  refine x_pop d_Cl_drawn_417 rfl (?_ : WD _ _ 418 _ _ _ _ _ _)
                  refine x_aload_nP (some x0) d_Cl_drawn_418 rfl (?_ : WD _ _ 419 _ _ _ _ _ _)
                  refine x_getP (ref := "CoinSamplerLaw$Books") (j := 0) 0 (((((((((((((((((((k61.q gw65.k).nu fq70).q gw72.k).q gw74.k).q gw76.k).q gw78.k).q gw81.k).q gw84.k).q gw86.k).q gw92.k).q gw99.k).q gw108.k).q gw117.k).q gw126.k).q gw136.k).q gw138.k).q gw147.k).q gw149.k).q gw159.k) clk_11 (by decide) (qm_2 (i := 156) rfl rfl) (Or.inl rfl) rfl rfl d_Cl_drawn_419 (y := (wR w159 x0 0)) rfl (?_ : WD _ _ 422 _ _ _ _ _ _)
                  refine x_aloadP (some q70) d_Cl_drawn_422 rfl (?_ : WD _ _ 424 _ _ _ _ _ _)
                  obtain ⟨a161, e162, h⟩ := h
                  rw [e162]
                  obtain ⟨c163, s164, h165, h166, h⟩ := h
                  obtain ⟨k167, h⟩ := h
                  refine x_callV (ν := M_Al_add_9ea2d) [vA q70] ok_M_Al_add_9ea2d okv_M_Al_add_9ea2d k167 rfl rfl (qm_4 (i := 181) rfl rfl) np_M_Al_add_9ea2d rfl ⟨Nat.le_of_ble_eq_true rfl, Nat.le_of_ble_eq_true rfl⟩ (Nat.le_of_ble_eq_true rfl) rfl d_Cl_drawn_424 h165 h166 (DI.k h (fun v169 w168 gw168 h => (?_ : WD _ _ 427 _ _ _ _ _ _)))
                  refine x_pop d_Cl_drawn_427 rfl (?_ : WD _ _ 428 _ _ _ _ _ _)
                  refine x_goto 82 d_Cl_drawn_428 rfl ?_
                  refine x_pick (ls' := [(0, vA x0), (1, vA x1), (2, vA x2), (3, vI (x3 + (-1))), (4, vI x4)]) [2, 3, 4, 1, 5] rfl ?_
                  exact h
                · replace h := h.2 c151
                  refine x_ldcS (q := 270) (tx := "; ") d_Cl_drawn_407 (by decide) (?_ : WD _ _ 409 _ _ _ _ _ _)
                  refine x_goto 414 d_Cl_drawn_409 rfl ?_
                  obtain ⟨a170, e171, h⟩ := h
                  rw [e171]
                  obtain ⟨c172, s173, h174, h175, h⟩ := h
                  obtain ⟨k176, h⟩ := h
                  refine x_callV (ν := M_Sb_append_15ec4) [vA (xa G 270)] ok_M_Sb_append_15ec4 okv_M_Sb_append_15ec4 k176 rfl rfl (qm_3 (i := 235) rfl rfl) np_M_Sb_append_15ec4 rfl ⟨Nat.le_of_ble_eq_true rfl, Nat.le_of_ble_eq_true rfl⟩ (Nat.le_of_ble_eq_true rfl) rfl d_Cl_drawn_414 h174 h175 (DP.k h (fun v178 w177 gw177 h => (?_ : WD _ _ 417 _ _ _ _ _ _)))
                  refine x_pop d_Cl_drawn_417 rfl (?_ : WD _ _ 418 _ _ _ _ _ _)
                  refine x_aload_nP (some x0) d_Cl_drawn_418 rfl (?_ : WD _ _ 419 _ _ _ _ _ _)
                  refine x_getP (ref := "CoinSamplerLaw$Books") (j := 0) 0 (((((((((((((((((((k61.q gw65.k).nu fq70).q gw72.k).q gw74.k).q gw76.k).q gw78.k).q gw81.k).q gw84.k).q gw86.k).q gw92.k).q gw99.k).q gw108.k).q gw117.k).q gw126.k).q gw136.k).q gw138.k).q gw147.k).q gw149.k).q gw177.k) clk_11 (by decide) (qm_2 (i := 156) rfl rfl) (Or.inl rfl) rfl rfl d_Cl_drawn_419 (y := (wR w177 x0 0)) rfl (?_ : WD _ _ 422 _ _ _ _ _ _)
                  refine x_aloadP (some q70) d_Cl_drawn_422 rfl (?_ : WD _ _ 424 _ _ _ _ _ _)
                  obtain ⟨a179, e180, h⟩ := h
                  rw [e180]
                  obtain ⟨c181, s182, h183, h184, h⟩ := h
                  obtain ⟨k185, h⟩ := h
                  refine x_callV (ν := M_Al_add_9ea2d) [vA q70] ok_M_Al_add_9ea2d okv_M_Al_add_9ea2d k185 rfl rfl (qm_4 (i := 181) rfl rfl) np_M_Al_add_9ea2d rfl ⟨Nat.le_of_ble_eq_true rfl, Nat.le_of_ble_eq_true rfl⟩ (Nat.le_of_ble_eq_true rfl) rfl d_Cl_drawn_424 h183 h184 (DI.k h (fun v187 w186 gw186 h => (?_ : WD _ _ 427 _ _ _ _ _ _)))
                  refine x_pop d_Cl_drawn_427 rfl (?_ : WD _ _ 428 _ _ _ _ _ _)
                  refine x_goto 82 d_Cl_drawn_428 rfl ?_
                  refine x_pick (ls' := [(0, vA x0), (1, vA x1), (2, vA x2), (3, vI (x3 + (-1))), (4, vI x4)]) [2, 3, 4, 1, 5] rfl ?_
                  exact h
              · replace h := h.2 c128
                refine x_ldcS (q := 266) (tx := " - ") d_Cl_drawn_378 (by decide) (?_ : WD _ _ 380 _ _ _ _ _ _)
                refine x_goto 385 d_Cl_drawn_380 rfl ?_
                obtain ⟨a188, e189, h⟩ := h
                rw [e189]
                obtain ⟨c190, s191, h192, h193, h⟩ := h
                obtain ⟨k194, h⟩ := h
                refine x_callV (ν := M_Sb_append_15ec4) [vA (xa G 266)] ok_M_Sb_append_15ec4 okv_M_Sb_append_15ec4 k194 rfl rfl (qm_3 (i := 235) rfl rfl) np_M_Sb_append_15ec4 rfl ⟨Nat.le_of_ble_eq_true rfl, Nat.le_of_ble_eq_true rfl⟩ (Nat.le_of_ble_eq_true rfl) rfl d_Cl_drawn_385 h192 h193 (DP.k h (fun v196 w195 gw195 h => (?_ : WD _ _ 388 _ _ _ _ _ _)))
                refine x_aloadP (some q70) d_Cl_drawn_388 rfl (?_ : WD _ _ 390 _ _ _ _ _ _)
                refine x_getI (ref := "CoinSamplerLaw$Item") (j := 2) 2 (((((((((((((k71.q gw72.k).q gw74.k).q gw76.k).q gw78.k).q gw81.k).q gw84.k).q gw86.k).q gw92.k).q gw99.k).q gw108.k).q gw117.k).q gw126.k).q gw195.k).is clk_13 (by decide) (qm_4 (i := 157) rfl rfl) (Or.inl rfl) rfl rfl d_Cl_drawn_390 (y := (wI w195 q70 2)) rfl (?_ : WD _ _ 393 _ _ _ _ _ _)
                refine x_callS (ν := M_Ma_abs) [vI (wI w195 q70 2)] ok_M_Ma_abs oks_M_Ma_abs (qm_4 (i := 176) rfl rfl) np_M_Ma_abs rfl ⟨Nat.le_of_ble_eq_true rfl, Nat.le_of_ble_eq_true rfl⟩ (Nat.le_of_ble_eq_true rfl) rfl d_Cl_drawn_393 (Nat.zero_le _) (Nat.zero_le _) (DI.k h (fun v198 w197 gw197 h => (?_ : WD _ _ 396 _ _ _ _ _ _)))
                obtain ⟨a199, e200, h⟩ := h
                rw [e200]
                obtain ⟨c201, s202, h203, h204, h⟩ := h
                obtain ⟨k205, h⟩ := h
                refine x_callV (ν := M_Sb_append_bf812) [vI v198] ok_M_Sb_append_bf812 okv_M_Sb_append_bf812 k205 rfl rfl (qm_4 (i := 100) rfl rfl) np_M_Sb_append_bf812 rfl ⟨Nat.le_of_ble_eq_true rfl, Nat.le_of_ble_eq_true rfl⟩ (Nat.le_of_ble_eq_true rfl) rfl d_Cl_drawn_396 h203 h204 (DP.k h (fun v207 w206 gw206 h => (?_ : WD _ _ 399 _ _ _ _ _ _)))
                refine x_aload_nP (some x1) d_Cl_drawn_399 rfl (?_ : WD _ _ 400 _ _ _ _ _ _)
                refine x_iconst d_Cl_drawn_400 (by decide) (?_ : WD _ _ 401 _ _ _ _ _ _)
                refine x_callS (ν := M_Cl_draw) [vA x1, vI 3] ok_M_Cl_draw oks_M_Cl_draw (qm_3 (i := 179) rfl rfl) np_M_Cl_draw rfl ⟨Nat.le_of_ble_eq_true rfl, Nat.le_of_ble_eq_true rfl⟩ (Nat.le_of_ble_eq_true rfl) rfl d_Cl_drawn_401 (Nat.zero_le _) (Nat.zero_le _) (DI.k h (fun v209 w208 gw208 h => (?_ : WD _ _ 404 _ _ _ _ _ _)))
                refine x_if_ne 412 d_Cl_drawn_404 rfl ⟨fun c210 => (?_ : WD _ _ 412 _ _ _ _ _ _), fun c210 => (?_ : WD _ _ 407 _ _ _ _ _ _)⟩
                · replace h := h.1 c210
                  refine x_ldcS (q := 272) (tx := ";") d_Cl_drawn_412 (by decide) (?_ : WD _ _ 414 _ _ _ _ _ _)
                  obtain ⟨a211, e212, h⟩ := h
                  rw [e212]
                  obtain ⟨c213, s214, h215, h216, h⟩ := h
                  obtain ⟨k217, h⟩ := h
                  refine x_callV (ν := M_Sb_append_15ec4) [vA (xa G 272)] ok_M_Sb_append_15ec4 okv_M_Sb_append_15ec4 k217 rfl rfl (qm_3 (i := 235) rfl rfl) np_M_Sb_append_15ec4 rfl ⟨Nat.le_of_ble_eq_true rfl, Nat.le_of_ble_eq_true rfl⟩ (Nat.le_of_ble_eq_true rfl) rfl d_Cl_drawn_414 h215 h216 (DP.k h (fun v219 w218 gw218 h => (?_ : WD _ _ 417 _ _ _ _ _ _)))
                  refine x_pop d_Cl_drawn_417 rfl (?_ : WD _ _ 418 _ _ _ _ _ _)
                  refine x_aload_nP (some x0) d_Cl_drawn_418 rfl (?_ : WD _ _ 419 _ _ _ _ _ _)
                  refine x_getP (ref := "CoinSamplerLaw$Books") (j := 0) 0 (((((((((((((((((((k61.q gw65.k).nu fq70).q gw72.k).q gw74.k).q gw76.k).q gw78.k).q gw81.k).q gw84.k).q gw86.k).q gw92.k).q gw99.k).q gw108.k).q gw117.k).q gw126.k).q gw195.k).q gw197.k).q gw206.k).q gw208.k).q gw218.k) clk_11 (by decide) (qm_2 (i := 156) rfl rfl) (Or.inl rfl) rfl rfl d_Cl_drawn_419 (y := (wR w218 x0 0)) rfl (?_ : WD _ _ 422 _ _ _ _ _ _)
                  refine x_aloadP (some q70) d_Cl_drawn_422 rfl (?_ : WD _ _ 424 _ _ _ _ _ _)
                  obtain ⟨a220, e221, h⟩ := h
                  rw [e221]
                  obtain ⟨c222, s223, h224, h225, h⟩ := h
                  obtain ⟨k226, h⟩ := h
                  refine x_callV (ν := M_Al_add_9ea2d) [vA q70] ok_M_Al_add_9ea2d okv_M_Al_add_9ea2d k226 rfl rfl (qm_4 (i := 181) rfl rfl) np_M_Al_add_9ea2d rfl ⟨Nat.le_of_ble_eq_true rfl, Nat.le_of_ble_eq_true rfl⟩ (Nat.le_of_ble_eq_true rfl) rfl d_Cl_drawn_424 h224 h225 (DI.k h (fun v228 w227 gw227 h => (?_ : WD _ _ 427 _ _ _ _ _ _)))
                  refine x_pop d_Cl_drawn_427 rfl (?_ : WD _ _ 428 _ _ _ _ _ _)
                  refine x_goto 82 d_Cl_drawn_428 rfl ?_
                  refine x_pick (ls' := [(0, vA x0), (1, vA x1), (2, vA x2), (3, vI (x3 + (-1))), (4, vI x4)]) [2, 3, 4, 1, 5] rfl ?_
                  exact h
                · replace h := h.2 c210
                  refine x_ldcS (q := 270) (tx := "; ") d_Cl_drawn_407 (by decide) (?_ : WD _ _ 409 _ _ _ _ _ _)
                  refine x_goto 414 d_Cl_drawn_409 rfl ?_
                  obtain ⟨a229, e230, h⟩ := h
                  rw [e230]
                  obtain ⟨c231, s232, h233, h234, h⟩ := h
                  obtain ⟨k235, h⟩ := h
                  refine x_callV (ν := M_Sb_append_15ec4) [vA (xa G 270)] ok_M_Sb_append_15ec4 okv_M_Sb_append_15ec4 k235 rfl rfl (qm_3 (i := 235) rfl rfl) np_M_Sb_append_15ec4 rfl ⟨Nat.le_of_ble_eq_true rfl, Nat.le_of_ble_eq_true rfl⟩ (Nat.le_of_ble_eq_true rfl) rfl d_Cl_drawn_414 h233 h234 (DP.k h (fun v237 w236 gw236 h => (?_ : WD _ _ 417 _ _ _ _ _ _)))
                  refine x_pop d_Cl_drawn_417 rfl (?_ : WD _ _ 418 _ _ _ _ _ _)
                  refine x_aload_nP (some x0) d_Cl_drawn_418 rfl (?_ : WD _ _ 419 _ _ _ _ _ _)
                  refine x_getP (ref := "CoinSamplerLaw$Books") (j := 0) 0 (((((((((((((((((((k61.q gw65.k).nu fq70).q gw72.k).q gw74.k).q gw76.k).q gw78.k).q gw81.k).q gw84.k).q gw86.k).q gw92.k).q gw99.k).q gw108.k).q gw117.k).q gw126.k).q gw195.k).q gw197.k).q gw206.k).q gw208.k).q gw236.k) clk_11 (by decide) (qm_2 (i := 156) rfl rfl) (Or.inl rfl) rfl rfl d_Cl_drawn_419 (y := (wR w236 x0 0)) rfl (?_ : WD _ _ 422 _ _ _ _ _ _)
                  refine x_aloadP (some q70) d_Cl_drawn_422 rfl (?_ : WD _ _ 424 _ _ _ _ _ _)
                  obtain ⟨a238, e239, h⟩ := h
                  rw [e239]
                  obtain ⟨c240, s241, h242, h243, h⟩ := h
                  obtain ⟨k244, h⟩ := h
                  refine x_callV (ν := M_Al_add_9ea2d) [vA q70] ok_M_Al_add_9ea2d okv_M_Al_add_9ea2d k244 rfl rfl (qm_4 (i := 181) rfl rfl) np_M_Al_add_9ea2d rfl ⟨Nat.le_of_ble_eq_true rfl, Nat.le_of_ble_eq_true rfl⟩ (Nat.le_of_ble_eq_true rfl) rfl d_Cl_drawn_424 h242 h243 (DI.k h (fun v246 w245 gw245 h => (?_ : WD _ _ 427 _ _ _ _ _ _)))
                  refine x_pop d_Cl_drawn_427 rfl (?_ : WD _ _ 428 _ _ _ _ _ _)
                  refine x_goto 82 d_Cl_drawn_428 rfl ?_
                  refine x_pick (ls' := [(0, vA x0), (1, vA x1), (2, vA x2), (3, vI (x3 + (-1))), (4, vI x4)]) [2, 3, 4, 1, 5] rfl ?_
                  exact h
            · replace h := h.2 c94
              refine x_goto 82 d_Cl_drawn_340 rfl ?_
              refine x_pick (ls' := [(0, vA x0), (1, vA x1), (2, vA x2), (3, vI (x3 + (-1))), (4, vI x4)]) [2, 3, 4, 1, 5] rfl ?_
              exact h
        · replace h := h.2 c80
          refine x_aload_nP (some x1) d_Cl_drawn_286 rfl (?_ : WD _ _ 287 _ _ _ _ _ _)
          refine x_bipush d_Cl_drawn_287 (by decide) (by decide) (?_ : WD _ _ 289 _ _ _ _ _ _)
          refine x_callS (ν := M_Cl_draw) [vA x1, vI 50] ok_M_Cl_draw oks_M_Cl_draw (qm_3 (i := 179) rfl rfl) np_M_Cl_draw rfl ⟨Nat.le_of_ble_eq_true rfl, Nat.le_of_ble_eq_true rfl⟩ (Nat.le_of_ble_eq_true rfl) rfl d_Cl_drawn_289 (Nat.zero_le _) (Nat.zero_le _) (DI.k h (fun v248 w247 gw247 h => (?_ : WD _ _ 292 _ _ _ _ _ _)))
          obtain ⟨h249, h⟩ := h
          refine x_ineg d_Cl_drawn_292 h249 (?_ : WD _ _ 293 _ _ _ _ _ _)
          refine x_goto 308 d_Cl_drawn_293 rfl ?_
          refine x_putI (ref := "CoinSamplerLaw$Item") (j := 2) 2 (((((k71.q gw72.k).q gw74.k).q gw76.k).q gw78.k).q gw247.k) clk_13 (by decide) (qm_4 (i := 157) rfl rfl) (Or.inl rfl) (Or.inl rfl) tyX13_ok rfl nmX13 d_Cl_drawn_308 rfl rfl (fun _ => rfl) rfl (?_ : WD _ _ 311 _ _ _ _ _ _)
          refine x_aload_nP (some x0) d_Cl_drawn_311 rfl (?_ : WD _ _ 312 _ _ _ _ _ _)
          refine x_aloadP (some q70) d_Cl_drawn_312 rfl (?_ : WD _ _ 314 _ _ _ _ _ _)
          refine x_getI (ref := "CoinSamplerLaw$Item") (j := 0) 0 (((((k71.q gw72.k).q gw74.k).q gw76.k).q gw78.k).q gw247.k).is clk_13 (by decide) (qm_4 (i := 151) rfl rfl) (Or.inl rfl) rfl rfl d_Cl_drawn_314 (y := (wI w247 q70 0)) (wI_uI_j (by decide)) (?_ : WD _ _ 317 _ _ _ _ _ _)
          refine x_aloadP (some q70) d_Cl_drawn_317 rfl (?_ : WD _ _ 319 _ _ _ _ _ _)
          refine x_getI (ref := "CoinSamplerLaw$Item") (j := 1) 1 (((((k71.q gw72.k).q gw74.k).q gw76.k).q gw78.k).q gw247.k).is clk_13 (by decide) (qm_4 (i := 153) rfl rfl) (Or.inl rfl) rfl rfl d_Cl_drawn_319 (y := (wI w247 q70 1)) (wI_uI_j (by decide)) (?_ : WD _ _ 322 _ _ _ _ _ _)
          refine x_callV (ν := M_Bo_find) [vI (wI w247 q70 0), vI (wI w247 q70 1)] ok_M_Bo_find okv_M_Bo_find (((((((k61.q gw65.k).nu fq70).q gw72.k).q gw74.k).q gw76.k).q gw78.k).q gw247.k) rfl rfl (qm_4 (i := 169) rfl rfl) np_M_Bo_find rfl ⟨Nat.le_of_ble_eq_true rfl, Nat.le_of_ble_eq_true rfl⟩ (Nat.le_of_ble_eq_true rfl) rfl d_Cl_drawn_322 (Nat.zero_le _) (Nat.zero_le _) (DI.k h (fun v251 w250 gw250 h => (?_ : WD _ _ 325 _ _ _ _ _ _)))
          refine x_if_ge 82 d_Cl_drawn_325 rfl ⟨fun c252 => (?_ : WD _ _ 82 _ _ _ _ _ _), fun c252 => (?_ : WD _ _ 328 _ _ _ _ _ _)⟩
          · replace h := h.1 c252
            refine x_pick (ls' := [(0, vA x0), (1, vA x1), (2, vA x2), (3, vI (x3 + (-1))), (4, vI x4)]) [2, 3, 4, 1, 5] rfl ?_
            exact h
          · replace h := h.2 c252
            refine x_aload_nP (some x0) d_Cl_drawn_328 rfl (?_ : WD _ _ 329 _ _ _ _ _ _)
            refine x_getP (ref := "CoinSamplerLaw$Books") (j := 0) 0 ((((((((k61.q gw65.k).nu fq70).q gw72.k).q gw74.k).q gw76.k).q gw78.k).q gw247.k).q gw250.k) clk_11 (by decide) (qm_2 (i := 156) rfl rfl) (Or.inl rfl) rfl rfl d_Cl_drawn_329 (y := (wR w250 x0 0)) rfl (?_ : WD _ _ 332 _ _ _ _ _ _)
            obtain ⟨a253, e254, h⟩ := h
            rw [e254]
            obtain ⟨k255, h⟩ := h
            refine x_callV (ν := M_Al_size) [] ok_M_Al_size okv_M_Al_size k255 rfl rfl (qm_3 (i := 178) rfl rfl) np_M_Al_size rfl ⟨Nat.le_of_ble_eq_true rfl, Nat.le_of_ble_eq_true rfl⟩ (Nat.le_of_ble_eq_true rfl) rfl d_Cl_drawn_332 (Nat.zero_le _) (Nat.zero_le _) (DI.k h (fun v257 w256 gw256 h => (?_ : WD _ _ 335 _ _ _ _ _ _)))
            refine x_bipush d_Cl_drawn_335 (by decide) (by decide) (?_ : WD _ _ 337 _ _ _ _ _ _)
            refine x_icmp_ne 343 d_Cl_drawn_337 rfl ⟨fun c258 => (?_ : WD _ _ 343 _ _ _ _ _ _), fun c258 => (?_ : WD _ _ 340 _ _ _ _ _ _)⟩
            · replace h := h.1 c258
              refine x_aload_nP (some x2) d_Cl_drawn_343 rfl (?_ : WD _ _ 344 _ _ _ _ _ _)
              refine x_ldcS (q := 264) (tx := "item") d_Cl_drawn_344 (by decide) (?_ : WD _ _ 346 _ _ _ _ _ _)
              obtain ⟨c259, s260, h261, h262, h⟩ := h
              refine x_callV (ν := M_Sb_append_15ec4) [vA (xa G 264)] ok_M_Sb_append_15ec4 okv_M_Sb_append_15ec4 ((((((((((k51.q gw52.k).q gw65.k).nu fq70).q gw72.k).q gw74.k).q gw76.k).q gw78.k).q gw247.k).q gw250.k).q gw256.k) rfl rfl (qm_3 (i := 235) rfl rfl) np_M_Sb_append_15ec4 rfl ⟨Nat.le_of_ble_eq_true rfl, Nat.le_of_ble_eq_true rfl⟩ (Nat.le_of_ble_eq_true rfl) rfl d_Cl_drawn_346 h261 h262 (DP.k h (fun v264 w263 gw263 h => (?_ : WD _ _ 349 _ _ _ _ _ _)))
              refine x_aloadP (some q70) d_Cl_drawn_349 rfl (?_ : WD _ _ 351 _ _ _ _ _ _)
              refine x_getI (ref := "CoinSamplerLaw$Item") (j := 0) 0 ((((((((k71.q gw72.k).q gw74.k).q gw76.k).q gw78.k).q gw247.k).q gw250.k).q gw256.k).q gw263.k).is clk_13 (by decide) (qm_4 (i := 151) rfl rfl) (Or.inl rfl) rfl rfl d_Cl_drawn_351 (y := (wI w263 q70 0)) rfl (?_ : WD _ _ 354 _ _ _ _ _ _)
              obtain ⟨a265, e266, h⟩ := h
              rw [e266]
              obtain ⟨c267, s268, h269, h270, h⟩ := h
              obtain ⟨k271, h⟩ := h
              refine x_callV (ν := M_Sb_append_bf812) [vI (wI w263 q70 0)] ok_M_Sb_append_bf812 okv_M_Sb_append_bf812 k271 rfl rfl (qm_4 (i := 100) rfl rfl) np_M_Sb_append_bf812 rfl ⟨Nat.le_of_ble_eq_true rfl, Nat.le_of_ble_eq_true rfl⟩ (Nat.le_of_ble_eq_true rfl) rfl d_Cl_drawn_354 h269 h270 (DP.k h (fun v273 w272 gw272 h => (?_ : WD _ _ 357 _ _ _ _ _ _)))
              refine x_bipush d_Cl_drawn_357 (by decide) (by decide) (?_ : WD _ _ 359 _ _ _ _ _ _)
              obtain ⟨a274, e275, h⟩ := h
              rw [e275]
              obtain ⟨c276, s277, h278, h279, h⟩ := h
              obtain ⟨k280, h⟩ := h
              refine x_callV (ν := M_Sb_append_cf468) [vI 32] ok_M_Sb_append_cf468 okv_M_Sb_append_cf468 k280 rfl rfl (qm_4 (i := 125) rfl rfl) np_M_Sb_append_cf468 rfl ⟨Nat.le_of_ble_eq_true rfl, Nat.le_of_ble_eq_true rfl⟩ (Nat.le_of_ble_eq_true rfl) rfl d_Cl_drawn_359 h278 h279 (DP.k h (fun v282 w281 gw281 h => (?_ : WD _ _ 362 _ _ _ _ _ _)))
              refine x_aloadP (some q70) d_Cl_drawn_362 rfl (?_ : WD _ _ 364 _ _ _ _ _ _)
              refine x_getI (ref := "CoinSamplerLaw$Item") (j := 1) 1 ((((((((((k71.q gw72.k).q gw74.k).q gw76.k).q gw78.k).q gw247.k).q gw250.k).q gw256.k).q gw263.k).q gw272.k).q gw281.k).is clk_13 (by decide) (qm_4 (i := 153) rfl rfl) (Or.inl rfl) rfl rfl d_Cl_drawn_364 (y := (wI w281 q70 1)) rfl (?_ : WD _ _ 367 _ _ _ _ _ _)
              obtain ⟨a283, e284, h⟩ := h
              rw [e284]
              obtain ⟨c285, s286, h287, h288, h⟩ := h
              obtain ⟨k289, h⟩ := h
              refine x_callV (ν := M_Sb_append_bf812) [vI (wI w281 q70 1)] ok_M_Sb_append_bf812 okv_M_Sb_append_bf812 k289 rfl rfl (qm_4 (i := 100) rfl rfl) np_M_Sb_append_bf812 rfl ⟨Nat.le_of_ble_eq_true rfl, Nat.le_of_ble_eq_true rfl⟩ (Nat.le_of_ble_eq_true rfl) rfl d_Cl_drawn_367 h287 h288 (DP.k h (fun v291 w290 gw290 h => (?_ : WD _ _ 370 _ _ _ _ _ _)))
              refine x_aloadP (some q70) d_Cl_drawn_370 rfl (?_ : WD _ _ 372 _ _ _ _ _ _)
              refine x_getI (ref := "CoinSamplerLaw$Item") (j := 2) 2 (((((((((((k71.q gw72.k).q gw74.k).q gw76.k).q gw78.k).q gw247.k).q gw250.k).q gw256.k).q gw263.k).q gw272.k).q gw281.k).q gw290.k).is clk_13 (by decide) (qm_4 (i := 157) rfl rfl) (Or.inl rfl) rfl rfl d_Cl_drawn_372 (y := (wI w290 q70 2)) rfl (?_ : WD _ _ 375 _ _ _ _ _ _)
              refine x_if_ge 383 d_Cl_drawn_375 rfl ⟨fun c292 => (?_ : WD _ _ 383 _ _ _ _ _ _), fun c292 => (?_ : WD _ _ 378 _ _ _ _ _ _)⟩
              · replace h := h.1 c292
                refine x_ldcS (q := 268) (tx := " ") d_Cl_drawn_383 (by decide) (?_ : WD _ _ 385 _ _ _ _ _ _)
                obtain ⟨a293, e294, h⟩ := h
                rw [e294]
                obtain ⟨c295, s296, h297, h298, h⟩ := h
                obtain ⟨k299, h⟩ := h
                refine x_callV (ν := M_Sb_append_15ec4) [vA (xa G 268)] ok_M_Sb_append_15ec4 okv_M_Sb_append_15ec4 k299 rfl rfl (qm_3 (i := 235) rfl rfl) np_M_Sb_append_15ec4 rfl ⟨Nat.le_of_ble_eq_true rfl, Nat.le_of_ble_eq_true rfl⟩ (Nat.le_of_ble_eq_true rfl) rfl d_Cl_drawn_385 h297 h298 (DP.k h (fun v301 w300 gw300 h => (?_ : WD _ _ 388 _ _ _ _ _ _)))
                refine x_aloadP (some q70) d_Cl_drawn_388 rfl (?_ : WD _ _ 390 _ _ _ _ _ _)
                refine x_getI (ref := "CoinSamplerLaw$Item") (j := 2) 2 ((((((((((((k71.q gw72.k).q gw74.k).q gw76.k).q gw78.k).q gw247.k).q gw250.k).q gw256.k).q gw263.k).q gw272.k).q gw281.k).q gw290.k).q gw300.k).is clk_13 (by decide) (qm_4 (i := 157) rfl rfl) (Or.inl rfl) rfl rfl d_Cl_drawn_390 (y := (wI w300 q70 2)) rfl (?_ : WD _ _ 393 _ _ _ _ _ _)
                refine x_callS (ν := M_Ma_abs) [vI (wI w300 q70 2)] ok_M_Ma_abs oks_M_Ma_abs (qm_4 (i := 176) rfl rfl) np_M_Ma_abs rfl ⟨Nat.le_of_ble_eq_true rfl, Nat.le_of_ble_eq_true rfl⟩ (Nat.le_of_ble_eq_true rfl) rfl d_Cl_drawn_393 (Nat.zero_le _) (Nat.zero_le _) (DI.k h (fun v303 w302 gw302 h => (?_ : WD _ _ 396 _ _ _ _ _ _)))
                obtain ⟨a304, e305, h⟩ := h
                rw [e305]
                obtain ⟨c306, s307, h308, h309, h⟩ := h
                obtain ⟨k310, h⟩ := h
                refine x_callV (ν := M_Sb_append_bf812) [vI v303] ok_M_Sb_append_bf812 okv_M_Sb_append_bf812 k310 rfl rfl (qm_4 (i := 100) rfl rfl) np_M_Sb_append_bf812 rfl ⟨Nat.le_of_ble_eq_true rfl, Nat.le_of_ble_eq_true rfl⟩ (Nat.le_of_ble_eq_true rfl) rfl d_Cl_drawn_396 h308 h309 (DP.k h (fun v312 w311 gw311 h => (?_ : WD _ _ 399 _ _ _ _ _ _)))
                refine x_aload_nP (some x1) d_Cl_drawn_399 rfl (?_ : WD _ _ 400 _ _ _ _ _ _)
                refine x_iconst d_Cl_drawn_400 (by decide) (?_ : WD _ _ 401 _ _ _ _ _ _)
                refine x_callS (ν := M_Cl_draw) [vA x1, vI 3] ok_M_Cl_draw oks_M_Cl_draw (qm_3 (i := 179) rfl rfl) np_M_Cl_draw rfl ⟨Nat.le_of_ble_eq_true rfl, Nat.le_of_ble_eq_true rfl⟩ (Nat.le_of_ble_eq_true rfl) rfl d_Cl_drawn_401 (Nat.zero_le _) (Nat.zero_le _) (DI.k h (fun v314 w313 gw313 h => (?_ : WD _ _ 404 _ _ _ _ _ _)))
                refine x_if_ne 412 d_Cl_drawn_404 rfl ⟨fun c315 => (?_ : WD _ _ 412 _ _ _ _ _ _), fun c315 => (?_ : WD _ _ 407 _ _ _ _ _ _)⟩
                · replace h := h.1 c315
                  refine x_ldcS (q := 272) (tx := ";") d_Cl_drawn_412 (by decide) (?_ : WD _ _ 414 _ _ _ _ _ _)
                  obtain ⟨a316, e317, h⟩ := h
                  rw [e317]
                  obtain ⟨c318, s319, h320, h321, h⟩ := h
                  obtain ⟨k322, h⟩ := h
                  refine x_callV (ν := M_Sb_append_15ec4) [vA (xa G 272)] ok_M_Sb_append_15ec4 okv_M_Sb_append_15ec4 k322 rfl rfl (qm_3 (i := 235) rfl rfl) np_M_Sb_append_15ec4 rfl ⟨Nat.le_of_ble_eq_true rfl, Nat.le_of_ble_eq_true rfl⟩ (Nat.le_of_ble_eq_true rfl) rfl d_Cl_drawn_414 h320 h321 (DP.k h (fun v324 w323 gw323 h => (?_ : WD _ _ 417 _ _ _ _ _ _)))
                  refine x_pop d_Cl_drawn_417 rfl (?_ : WD _ _ 418 _ _ _ _ _ _)
                  refine x_aload_nP (some x0) d_Cl_drawn_418 rfl (?_ : WD _ _ 419 _ _ _ _ _ _)
                  refine x_getP (ref := "CoinSamplerLaw$Books") (j := 0) 0 ((((((((((((((((((k61.q gw65.k).nu fq70).q gw72.k).q gw74.k).q gw76.k).q gw78.k).q gw247.k).q gw250.k).q gw256.k).q gw263.k).q gw272.k).q gw281.k).q gw290.k).q gw300.k).q gw302.k).q gw311.k).q gw313.k).q gw323.k) clk_11 (by decide) (qm_2 (i := 156) rfl rfl) (Or.inl rfl) rfl rfl d_Cl_drawn_419 (y := (wR w323 x0 0)) rfl (?_ : WD _ _ 422 _ _ _ _ _ _)
                  refine x_aloadP (some q70) d_Cl_drawn_422 rfl (?_ : WD _ _ 424 _ _ _ _ _ _)
                  obtain ⟨a325, e326, h⟩ := h
                  rw [e326]
                  obtain ⟨c327, s328, h329, h330, h⟩ := h
                  obtain ⟨k331, h⟩ := h
                  refine x_callV (ν := M_Al_add_9ea2d) [vA q70] ok_M_Al_add_9ea2d okv_M_Al_add_9ea2d k331 rfl rfl (qm_4 (i := 181) rfl rfl) np_M_Al_add_9ea2d rfl ⟨Nat.le_of_ble_eq_true rfl, Nat.le_of_ble_eq_true rfl⟩ (Nat.le_of_ble_eq_true rfl) rfl d_Cl_drawn_424 h329 h330 (DI.k h (fun v333 w332 gw332 h => (?_ : WD _ _ 427 _ _ _ _ _ _)))
                  refine x_pop d_Cl_drawn_427 rfl (?_ : WD _ _ 428 _ _ _ _ _ _)
                  refine x_goto 82 d_Cl_drawn_428 rfl ?_
                  refine x_pick (ls' := [(0, vA x0), (1, vA x1), (2, vA x2), (3, vI (x3 + (-1))), (4, vI x4)]) [2, 3, 4, 1, 5] rfl ?_
                  exact h
                · replace h := h.2 c315
                  refine x_ldcS (q := 270) (tx := "; ") d_Cl_drawn_407 (by decide) (?_ : WD _ _ 409 _ _ _ _ _ _)
                  refine x_goto 414 d_Cl_drawn_409 rfl ?_
                  obtain ⟨a334, e335, h⟩ := h
                  rw [e335]
                  obtain ⟨c336, s337, h338, h339, h⟩ := h
                  obtain ⟨k340, h⟩ := h
                  refine x_callV (ν := M_Sb_append_15ec4) [vA (xa G 270)] ok_M_Sb_append_15ec4 okv_M_Sb_append_15ec4 k340 rfl rfl (qm_3 (i := 235) rfl rfl) np_M_Sb_append_15ec4 rfl ⟨Nat.le_of_ble_eq_true rfl, Nat.le_of_ble_eq_true rfl⟩ (Nat.le_of_ble_eq_true rfl) rfl d_Cl_drawn_414 h338 h339 (DP.k h (fun v342 w341 gw341 h => (?_ : WD _ _ 417 _ _ _ _ _ _)))
                  refine x_pop d_Cl_drawn_417 rfl (?_ : WD _ _ 418 _ _ _ _ _ _)
                  refine x_aload_nP (some x0) d_Cl_drawn_418 rfl (?_ : WD _ _ 419 _ _ _ _ _ _)
                  refine x_getP (ref := "CoinSamplerLaw$Books") (j := 0) 0 ((((((((((((((((((k61.q gw65.k).nu fq70).q gw72.k).q gw74.k).q gw76.k).q gw78.k).q gw247.k).q gw250.k).q gw256.k).q gw263.k).q gw272.k).q gw281.k).q gw290.k).q gw300.k).q gw302.k).q gw311.k).q gw313.k).q gw341.k) clk_11 (by decide) (qm_2 (i := 156) rfl rfl) (Or.inl rfl) rfl rfl d_Cl_drawn_419 (y := (wR w341 x0 0)) rfl (?_ : WD _ _ 422 _ _ _ _ _ _)
                  refine x_aloadP (some q70) d_Cl_drawn_422 rfl (?_ : WD _ _ 424 _ _ _ _ _ _)
                  obtain ⟨a343, e344, h⟩ := h
                  rw [e344]
                  obtain ⟨c345, s346, h347, h348, h⟩ := h
                  obtain ⟨k349, h⟩ := h
                  refine x_callV (ν := M_Al_add_9ea2d) [vA q70] ok_M_Al_add_9ea2d okv_M_Al_add_9ea2d k349 rfl rfl (qm_4 (i := 181) rfl rfl) np_M_Al_add_9ea2d rfl ⟨Nat.le_of_ble_eq_true rfl, Nat.le_of_ble_eq_true rfl⟩ (Nat.le_of_ble_eq_true rfl) rfl d_Cl_drawn_424 h347 h348 (DI.k h (fun v351 w350 gw350 h => (?_ : WD _ _ 427 _ _ _ _ _ _)))
                  refine x_pop d_Cl_drawn_427 rfl (?_ : WD _ _ 428 _ _ _ _ _ _)
                  refine x_goto 82 d_Cl_drawn_428 rfl ?_
                  refine x_pick (ls' := [(0, vA x0), (1, vA x1), (2, vA x2), (3, vI (x3 + (-1))), (4, vI x4)]) [2, 3, 4, 1, 5] rfl ?_
                  exact h
              · replace h := h.2 c292
                refine x_ldcS (q := 266) (tx := " - ") d_Cl_drawn_378 (by decide) (?_ : WD _ _ 380 _ _ _ _ _ _)
                refine x_goto 385 d_Cl_drawn_380 rfl ?_
                obtain ⟨a352, e353, h⟩ := h
                rw [e353]
                obtain ⟨c354, s355, h356, h357, h⟩ := h
                obtain ⟨k358, h⟩ := h
                refine x_callV (ν := M_Sb_append_15ec4) [vA (xa G 266)] ok_M_Sb_append_15ec4 okv_M_Sb_append_15ec4 k358 rfl rfl (qm_3 (i := 235) rfl rfl) np_M_Sb_append_15ec4 rfl ⟨Nat.le_of_ble_eq_true rfl, Nat.le_of_ble_eq_true rfl⟩ (Nat.le_of_ble_eq_true rfl) rfl d_Cl_drawn_385 h356 h357 (DP.k h (fun v360 w359 gw359 h => (?_ : WD _ _ 388 _ _ _ _ _ _)))
                refine x_aloadP (some q70) d_Cl_drawn_388 rfl (?_ : WD _ _ 390 _ _ _ _ _ _)
                refine x_getI (ref := "CoinSamplerLaw$Item") (j := 2) 2 ((((((((((((k71.q gw72.k).q gw74.k).q gw76.k).q gw78.k).q gw247.k).q gw250.k).q gw256.k).q gw263.k).q gw272.k).q gw281.k).q gw290.k).q gw359.k).is clk_13 (by decide) (qm_4 (i := 157) rfl rfl) (Or.inl rfl) rfl rfl d_Cl_drawn_390 (y := (wI w359 q70 2)) rfl (?_ : WD _ _ 393 _ _ _ _ _ _)
                refine x_callS (ν := M_Ma_abs) [vI (wI w359 q70 2)] ok_M_Ma_abs oks_M_Ma_abs (qm_4 (i := 176) rfl rfl) np_M_Ma_abs rfl ⟨Nat.le_of_ble_eq_true rfl, Nat.le_of_ble_eq_true rfl⟩ (Nat.le_of_ble_eq_true rfl) rfl d_Cl_drawn_393 (Nat.zero_le _) (Nat.zero_le _) (DI.k h (fun v362 w361 gw361 h => (?_ : WD _ _ 396 _ _ _ _ _ _)))
                obtain ⟨a363, e364, h⟩ := h
                rw [e364]
                obtain ⟨c365, s366, h367, h368, h⟩ := h
                obtain ⟨k369, h⟩ := h
                refine x_callV (ν := M_Sb_append_bf812) [vI v362] ok_M_Sb_append_bf812 okv_M_Sb_append_bf812 k369 rfl rfl (qm_4 (i := 100) rfl rfl) np_M_Sb_append_bf812 rfl ⟨Nat.le_of_ble_eq_true rfl, Nat.le_of_ble_eq_true rfl⟩ (Nat.le_of_ble_eq_true rfl) rfl d_Cl_drawn_396 h367 h368 (DP.k h (fun v371 w370 gw370 h => (?_ : WD _ _ 399 _ _ _ _ _ _)))
                refine x_aload_nP (some x1) d_Cl_drawn_399 rfl (?_ : WD _ _ 400 _ _ _ _ _ _)
                refine x_iconst d_Cl_drawn_400 (by decide) (?_ : WD _ _ 401 _ _ _ _ _ _)
                refine x_callS (ν := M_Cl_draw) [vA x1, vI 3] ok_M_Cl_draw oks_M_Cl_draw (qm_3 (i := 179) rfl rfl) np_M_Cl_draw rfl ⟨Nat.le_of_ble_eq_true rfl, Nat.le_of_ble_eq_true rfl⟩ (Nat.le_of_ble_eq_true rfl) rfl d_Cl_drawn_401 (Nat.zero_le _) (Nat.zero_le _) (DI.k h (fun v373 w372 gw372 h => (?_ : WD _ _ 404 _ _ _ _ _ _)))
                refine x_if_ne 412 d_Cl_drawn_404 rfl ⟨fun c374 => (?_ : WD _ _ 412 _ _ _ _ _ _), fun c374 => (?_ : WD _ _ 407 _ _ _ _ _ _)⟩
                · replace h := h.1 c374
                  refine x_ldcS (q := 272) (tx := ";") d_Cl_drawn_412 (by decide) (?_ : WD _ _ 414 _ _ _ _ _ _)
                  obtain ⟨a375, e376, h⟩ := h
                  rw [e376]
                  obtain ⟨c377, s378, h379, h380, h⟩ := h
                  obtain ⟨k381, h⟩ := h
                  refine x_callV (ν := M_Sb_append_15ec4) [vA (xa G 272)] ok_M_Sb_append_15ec4 okv_M_Sb_append_15ec4 k381 rfl rfl (qm_3 (i := 235) rfl rfl) np_M_Sb_append_15ec4 rfl ⟨Nat.le_of_ble_eq_true rfl, Nat.le_of_ble_eq_true rfl⟩ (Nat.le_of_ble_eq_true rfl) rfl d_Cl_drawn_414 h379 h380 (DP.k h (fun v383 w382 gw382 h => (?_ : WD _ _ 417 _ _ _ _ _ _)))
                  refine x_pop d_Cl_drawn_417 rfl (?_ : WD _ _ 418 _ _ _ _ _ _)
                  refine x_aload_nP (some x0) d_Cl_drawn_418 rfl (?_ : WD _ _ 419 _ _ _ _ _ _)
                  refine x_getP (ref := "CoinSamplerLaw$Books") (j := 0) 0 ((((((((((((((((((k61.q gw65.k).nu fq70).q gw72.k).q gw74.k).q gw76.k).q gw78.k).q gw247.k).q gw250.k).q gw256.k).q gw263.k).q gw272.k).q gw281.k).q gw290.k).q gw359.k).q gw361.k).q gw370.k).q gw372.k).q gw382.k) clk_11 (by decide) (qm_2 (i := 156) rfl rfl) (Or.inl rfl) rfl rfl d_Cl_drawn_419 (y := (wR w382 x0 0)) rfl (?_ : WD _ _ 422 _ _ _ _ _ _)
                  refine x_aloadP (some q70) d_Cl_drawn_422 rfl (?_ : WD _ _ 424 _ _ _ _ _ _)
                  obtain ⟨a384, e385, h⟩ := h
                  rw [e385]
                  obtain ⟨c386, s387, h388, h389, h⟩ := h
                  obtain ⟨k390, h⟩ := h
                  refine x_callV (ν := M_Al_add_9ea2d) [vA q70] ok_M_Al_add_9ea2d okv_M_Al_add_9ea2d k390 rfl rfl (qm_4 (i := 181) rfl rfl) np_M_Al_add_9ea2d rfl ⟨Nat.le_of_ble_eq_true rfl, Nat.le_of_ble_eq_true rfl⟩ (Nat.le_of_ble_eq_true rfl) rfl d_Cl_drawn_424 h388 h389 (DI.k h (fun v392 w391 gw391 h => (?_ : WD _ _ 427 _ _ _ _ _ _)))
                  refine x_pop d_Cl_drawn_427 rfl (?_ : WD _ _ 428 _ _ _ _ _ _)
                  refine x_goto 82 d_Cl_drawn_428 rfl ?_
                  refine x_pick (ls' := [(0, vA x0), (1, vA x1), (2, vA x2), (3, vI (x3 + (-1))), (4, vI x4)]) [2, 3, 4, 1, 5] rfl ?_
                  exact h
                · replace h := h.2 c374
                  refine x_ldcS (q := 270) (tx := "; ") d_Cl_drawn_407 (by decide) (?_ : WD _ _ 409 _ _ _ _ _ _)
                  refine x_goto 414 d_Cl_drawn_409 rfl ?_
                  obtain ⟨a393, e394, h⟩ := h
                  rw [e394]
                  obtain ⟨c395, s396, h397, h398, h⟩ := h
                  obtain ⟨k399, h⟩ := h
                  refine x_callV (ν := M_Sb_append_15ec4) [vA (xa G 270)] ok_M_Sb_append_15ec4 okv_M_Sb_append_15ec4 k399 rfl rfl (qm_3 (i := 235) rfl rfl) np_M_Sb_append_15ec4 rfl ⟨Nat.le_of_ble_eq_true rfl, Nat.le_of_ble_eq_true rfl⟩ (Nat.le_of_ble_eq_true rfl) rfl d_Cl_drawn_414 h397 h398 (DP.k h (fun v401 w400 gw400 h => (?_ : WD _ _ 417 _ _ _ _ _ _)))
                  refine x_pop d_Cl_drawn_417 rfl (?_ : WD _ _ 418 _ _ _ _ _ _)
                  refine x_aload_nP (some x0) d_Cl_drawn_418 rfl (?_ : WD _ _ 419 _ _ _ _ _ _)
                  refine x_getP (ref := "CoinSamplerLaw$Books") (j := 0) 0 ((((((((((((((((((k61.q gw65.k).nu fq70).q gw72.k).q gw74.k).q gw76.k).q gw78.k).q gw247.k).q gw250.k).q gw256.k).q gw263.k).q gw272.k).q gw281.k).q gw290.k).q gw359.k).q gw361.k).q gw370.k).q gw372.k).q gw400.k) clk_11 (by decide) (qm_2 (i := 156) rfl rfl) (Or.inl rfl) rfl rfl d_Cl_drawn_419 (y := (wR w400 x0 0)) rfl (?_ : WD _ _ 422 _ _ _ _ _ _)
                  refine x_aloadP (some q70) d_Cl_drawn_422 rfl (?_ : WD _ _ 424 _ _ _ _ _ _)
                  obtain ⟨a402, e403, h⟩ := h
                  rw [e403]
                  obtain ⟨c404, s405, h406, h407, h⟩ := h
                  obtain ⟨k408, h⟩ := h
                  refine x_callV (ν := M_Al_add_9ea2d) [vA q70] ok_M_Al_add_9ea2d okv_M_Al_add_9ea2d k408 rfl rfl (qm_4 (i := 181) rfl rfl) np_M_Al_add_9ea2d rfl ⟨Nat.le_of_ble_eq_true rfl, Nat.le_of_ble_eq_true rfl⟩ (Nat.le_of_ble_eq_true rfl) rfl d_Cl_drawn_424 h406 h407 (DI.k h (fun v410 w409 gw409 h => (?_ : WD _ _ 427 _ _ _ _ _ _)))
                  refine x_pop d_Cl_drawn_427 rfl (?_ : WD _ _ 428 _ _ _ _ _ _)
                  refine x_goto 82 d_Cl_drawn_428 rfl ?_
                  refine x_pick (ls' := [(0, vA x0), (1, vA x1), (2, vA x2), (3, vI (x3 + (-1))), (4, vI x4)]) [2, 3, 4, 1, 5] rfl ?_
                  exact h
            · replace h := h.2 c258
              refine x_goto 82 d_Cl_drawn_340 rfl ?_
              refine x_pick (ls' := [(0, vA x0), (1, vA x1), (2, vA x2), (3, vI (x3 + (-1))), (4, vI x4)]) [2, 3, 4, 1, 5] rfl ?_
              exact h
      · replace h := h.2 c67
        refine x_aload_nP (some x1) d_Cl_drawn_109 rfl (?_ : WD _ _ 110 _ _ _ _ _ _)
        refine x_iconst d_Cl_drawn_110 (by decide) (?_ : WD _ _ 111 _ _ _ _ _ _)
        refine x_callS (ν := M_Cl_draw) [vA x1, vI 4] ok_M_Cl_draw oks_M_Cl_draw (qm_3 (i := 179) rfl rfl) np_M_Cl_draw rfl ⟨Nat.le_of_ble_eq_true rfl, Nat.le_of_ble_eq_true rfl⟩ (Nat.le_of_ble_eq_true rfl) rfl d_Cl_drawn_111 (Nat.zero_le _) (Nat.zero_le _) (DI.k h (fun v412 w411 gw411 h => (?_ : WD _ _ 114 _ _ _ _ _ _)))
        refine x_if_le 121 d_Cl_drawn_114 rfl ⟨fun c413 => (?_ : WD _ _ 121 _ _ _ _ _ _), fun c413 => (?_ : WD _ _ 117 _ _ _ _ _ _)⟩
        · replace h := h.1 c413
          refine x_aload_nP (some x0) d_Cl_drawn_121 rfl (?_ : WD _ _ 122 _ _ _ _ _ _)
          refine x_getP (ref := "CoinSamplerLaw$Books") (j := 0) 0 ((k61.q gw65.k).q gw411.k) clk_11 (by decide) (qm_2 (i := 156) rfl rfl) (Or.inl rfl) rfl rfl d_Cl_drawn_122 (y := (wR w411 x0 0)) rfl (?_ : WD _ _ 125 _ _ _ _ _ _)
          refine x_aload_nP (some x1) d_Cl_drawn_125 rfl (?_ : WD _ _ 126 _ _ _ _ _ _)
          refine x_aload_nP (some x0) d_Cl_drawn_126 rfl (?_ : WD _ _ 127 _ _ _ _ _ _)
          refine x_getP (ref := "CoinSamplerLaw$Books") (j := 0) 0 ((k61.q gw65.k).q gw411.k) clk_11 (by decide) (qm_2 (i := 156) rfl rfl) (Or.inl rfl) rfl rfl d_Cl_drawn_127 (y := (wR w411 x0 0)) rfl (?_ : WD _ _ 130 _ _ _ _ _ _)
          obtain ⟨a414, e415, h⟩ := h
          rw [e415]
          obtain ⟨k416, h⟩ := h
          refine x_callV (ν := M_Al_size) [] ok_M_Al_size okv_M_Al_size k416 rfl rfl (qm_3 (i := 178) rfl rfl) np_M_Al_size rfl ⟨Nat.le_of_ble_eq_true rfl, Nat.le_of_ble_eq_true rfl⟩ (Nat.le_of_ble_eq_true rfl) rfl d_Cl_drawn_130 (Nat.zero_le _) (Nat.zero_le _) (DI.k h (fun v418 w417 gw417 h => (?_ : WD _ _ 133 _ _ _ _ _ _)))
          refine x_callS (ν := M_Cl_draw) [vA x1, vI v418] ok_M_Cl_draw oks_M_Cl_draw (qm_3 (i := 179) rfl rfl) np_M_Cl_draw rfl ⟨Nat.le_of_ble_eq_true rfl, Nat.le_of_ble_eq_true rfl⟩ (Nat.le_of_ble_eq_true rfl) rfl d_Cl_drawn_133 (Nat.zero_le _) (Nat.zero_le _) (DI.k h (fun v420 w419 gw419 h => (?_ : WD _ _ 136 _ _ _ _ _ _)))
          refine x_callV (ν := M_Al_get) [vI v420] ok_M_Al_get okv_M_Al_get ((k416.q gw417.k).q gw419.k) rfl rfl (qm_3 (i := 183) rfl rfl) np_M_Al_get rfl ⟨Nat.le_of_ble_eq_true rfl, Nat.le_of_ble_eq_true rfl⟩ (Nat.le_of_ble_eq_true rfl) rfl d_Cl_drawn_136 (Nat.zero_le _) (Nat.zero_le _) (DP.k h (fun v422 w421 gw421 h => (?_ : WD _ _ 139 _ _ _ _ _ _)))
          obtain ⟨a423, e424, h⟩ := h
          rw [e424]
          obtain ⟨k425, h⟩ := h
          refine x_cast k425 rfl (Or.inl rfl) (qm_3 (i := 184) rfl rfl) d_Cl_drawn_139 (?_ : WD _ _ 142 _ _ _ _ _ _)
          refine x_astoreP (some a423) (ls' := [(5, vA a423), (3, vI (x3 + (-1))), (0, vA x0), (1, vA x1), (2, vA x2), (4, vI x4)]) d_Cl_drawn_142 (by decide) rfl (?_ : WD _ _ 144 _ _ _ _ _ _)
          refine x_aloadP (some a423) d_Cl_drawn_144 rfl (?_ : WD _ _ 146 _ _ _ _ _ _)
          refine x_ifnull (r := some a423) 244 d_Cl_drawn_146 rfl ⟨fun hz => absurd hz (by simp), fun _ _ => (?_ : WD _ _ 149 _ _ _ _ _ _)⟩
          refine x_aloadP (some a423) d_Cl_drawn_149 rfl (?_ : WD _ _ 151 _ _ _ _ _ _)
          refine x_getI (ref := "CoinSamplerLaw$Item") (j := 2) 2 k425 clk_13 (by decide) (qm_4 (i := 157) rfl rfl) (Or.inl rfl) rfl rfl d_Cl_drawn_151 (y := (wI w421 a423 2)) rfl (?_ : WD _ _ 154 _ _ _ _ _ _)
          refine x_iconst d_Cl_drawn_154 (by decide) (?_ : WD _ _ 155 _ _ _ _ _ _)
          refine x_icmp_ge 161 d_Cl_drawn_155 rfl ⟨fun c426 => (?_ : WD _ _ 161 _ _ _ _ _ _), fun c426 => (?_ : WD _ _ 158 _ _ _ _ _ _)⟩
          · replace h := h.1 c426
            refine x_aloadP (some a423) d_Cl_drawn_161 rfl (?_ : WD _ _ 163 _ _ _ _ _ _)
            refine x_aload_nP (some x1) d_Cl_drawn_163 rfl (?_ : WD _ _ 164 _ _ _ _ _ _)
            refine x_iconst d_Cl_drawn_164 (by decide) (?_ : WD _ _ 165 _ _ _ _ _ _)
            refine x_callS (ν := M_Cl_draw) [vA x1, vI 3] ok_M_Cl_draw oks_M_Cl_draw (qm_3 (i := 179) rfl rfl) np_M_Cl_draw rfl ⟨Nat.le_of_ble_eq_true rfl, Nat.le_of_ble_eq_true rfl⟩ (Nat.le_of_ble_eq_true rfl) rfl d_Cl_drawn_165 (Nat.zero_le _) (Nat.zero_le _) (DI.k h (fun v428 w427 gw427 h => (?_ : WD _ _ 168 _ _ _ _ _ _)))
            refine x_if_ne 179 d_Cl_drawn_168 rfl ⟨fun c429 => (?_ : WD _ _ 179 _ _ _ _ _ _), fun c429 => (?_ : WD _ _ 171 _ _ _ _ _ _)⟩
            · replace h := h.1 c429
              refine x_aload_nP (some x1) d_Cl_drawn_179 rfl (?_ : WD _ _ 180 _ _ _ _ _ _)
              refine x_iconst d_Cl_drawn_180 (by decide) (?_ : WD _ _ 181 _ _ _ _ _ _)
              refine x_aloadP (some a423) d_Cl_drawn_181 rfl (?_ : WD _ _ 183 _ _ _ _ _ _)
              refine x_getI (ref := "CoinSamplerLaw$Item") (j := 2) 2 (k425.q gw427.k) clk_13 (by decide) (qm_4 (i := 157) rfl rfl) (Or.inl rfl) rfl rfl d_Cl_drawn_183 (y := (wI w427 a423 2)) rfl (?_ : WD _ _ 186 _ _ _ _ _ _)
              obtain ⟨h430, h⟩ := h
              refine x_imul d_Cl_drawn_186 h430 (?_ : WD _ _ 187 _ _ _ _ _ _)
              refine x_iconst d_Cl_drawn_187 (by decide) (?_ : WD _ _ 188 _ _ _ _ _ _)
              obtain ⟨h431, h⟩ := h
              refine x_iadd d_Cl_drawn_188 h431 (?_ : WD _ _ 189 _ _ _ _ _ _)
              refine x_callS (ν := M_Cl_draw) [vA x1, vI ((2 * (wI w427 a423 2)) + 1)] ok_M_Cl_draw oks_M_Cl_draw (qm_3 (i := 179) rfl rfl) np_M_Cl_draw rfl ⟨Nat.le_of_ble_eq_true rfl, Nat.le_of_ble_eq_true rfl⟩ (Nat.le_of_ble_eq_true rfl) rfl d_Cl_drawn_189 (Nat.zero_le _) (Nat.zero_le _) (DI.k h (fun v433 w432 gw432 h => (?_ : WD _ _ 192 _ _ _ _ _ _)))
              obtain ⟨k434, h⟩ := h
              refine x_putI (ref := "CoinSamplerLaw$Item") (j := 3) 3 k434 clk_13 (by decide) (qm_4 (i := 159) rfl rfl) (Or.inl rfl) (Or.inl rfl) tyX13_ok rfl nmX13 d_Cl_drawn_192 rfl rfl (fun _ => rfl) rfl (?_ : WD _ _ 195 _ _ _ _ _ _)
              refine x_aload_nP (some x2) d_Cl_drawn_195 rfl (?_ : WD _ _ 196 _ _ _ _ _ _)
              refine x_ldcS (q := 260) (tx := "audit ") d_Cl_drawn_196 (by decide) (?_ : WD _ _ 198 _ _ _ _ _ _)
              obtain ⟨c435, s436, h437, h438, h⟩ := h
              refine x_callV (ν := M_Sb_append_15ec4) [vA (xa G 260)] ok_M_Sb_append_15ec4 okv_M_Sb_append_15ec4 ((((((((k51.q gw52.k).q gw65.k).q gw411.k).q gw417.k).q gw419.k).q gw421.k).q gw427.k).q gw432.k) rfl rfl (qm_3 (i := 235) rfl rfl) np_M_Sb_append_15ec4 rfl ⟨Nat.le_of_ble_eq_true rfl, Nat.le_of_ble_eq_true rfl⟩ (Nat.le_of_ble_eq_true rfl) rfl d_Cl_drawn_198 h437 h438 (DP.k h (fun v440 w439 gw439 h => (?_ : WD _ _ 201 _ _ _ _ _ _)))
              refine x_aloadP (some a423) d_Cl_drawn_201 rfl (?_ : WD _ _ 203 _ _ _ _ _ _)
              refine x_getI (ref := "CoinSamplerLaw$Item") (j := 0) 0 (k434.q gw439.k).is clk_13 (by decide) (qm_4 (i := 151) rfl rfl) (Or.inl rfl) rfl rfl d_Cl_drawn_203 (y := (wI w439 a423 0)) rfl (?_ : WD _ _ 206 _ _ _ _ _ _)
              obtain ⟨a441, e442, h⟩ := h
              rw [e442]
              obtain ⟨c443, s444, h445, h446, h⟩ := h
              obtain ⟨k447, h⟩ := h
              refine x_callV (ν := M_Sb_append_bf812) [vI (wI w439 a423 0)] ok_M_Sb_append_bf812 okv_M_Sb_append_bf812 k447 rfl rfl (qm_4 (i := 100) rfl rfl) np_M_Sb_append_bf812 rfl ⟨Nat.le_of_ble_eq_true rfl, Nat.le_of_ble_eq_true rfl⟩ (Nat.le_of_ble_eq_true rfl) rfl d_Cl_drawn_206 h445 h446 (DP.k h (fun v449 w448 gw448 h => (?_ : WD _ _ 209 _ _ _ _ _ _)))
              refine x_bipush d_Cl_drawn_209 (by decide) (by decide) (?_ : WD _ _ 211 _ _ _ _ _ _)
              obtain ⟨a450, e451, h⟩ := h
              rw [e451]
              obtain ⟨c452, s453, h454, h455, h⟩ := h
              obtain ⟨k456, h⟩ := h
              refine x_callV (ν := M_Sb_append_cf468) [vI 32] ok_M_Sb_append_cf468 okv_M_Sb_append_cf468 k456 rfl rfl (qm_4 (i := 125) rfl rfl) np_M_Sb_append_cf468 rfl ⟨Nat.le_of_ble_eq_true rfl, Nat.le_of_ble_eq_true rfl⟩ (Nat.le_of_ble_eq_true rfl) rfl d_Cl_drawn_211 h454 h455 (DP.k h (fun v458 w457 gw457 h => (?_ : WD _ _ 214 _ _ _ _ _ _)))
              refine x_aloadP (some a423) d_Cl_drawn_214 rfl (?_ : WD _ _ 216 _ _ _ _ _ _)
              refine x_getI (ref := "CoinSamplerLaw$Item") (j := 1) 1 (((k434.q gw439.k).q gw448.k).q gw457.k).is clk_13 (by decide) (qm_4 (i := 153) rfl rfl) (Or.inl rfl) rfl rfl d_Cl_drawn_216 (y := (wI w457 a423 1)) rfl (?_ : WD _ _ 219 _ _ _ _ _ _)
              obtain ⟨a459, e460, h⟩ := h
              rw [e460]
              obtain ⟨c461, s462, h463, h464, h⟩ := h
              obtain ⟨k465, h⟩ := h
              refine x_callV (ν := M_Sb_append_bf812) [vI (wI w457 a423 1)] ok_M_Sb_append_bf812 okv_M_Sb_append_bf812 k465 rfl rfl (qm_4 (i := 100) rfl rfl) np_M_Sb_append_bf812 rfl ⟨Nat.le_of_ble_eq_true rfl, Nat.le_of_ble_eq_true rfl⟩ (Nat.le_of_ble_eq_true rfl) rfl d_Cl_drawn_219 h463 h464 (DP.k h (fun v467 w466 gw466 h => (?_ : WD _ _ 222 _ _ _ _ _ _)))
              refine x_ldcS (q := 262) (tx := "  ") d_Cl_drawn_222 (by decide) (?_ : WD _ _ 224 _ _ _ _ _ _)
              obtain ⟨a468, e469, h⟩ := h
              rw [e469]
              obtain ⟨c470, s471, h472, h473, h⟩ := h
              obtain ⟨k474, h⟩ := h
              refine x_callV (ν := M_Sb_append_15ec4) [vA (xa G 262)] ok_M_Sb_append_15ec4 okv_M_Sb_append_15ec4 k474 rfl rfl (qm_3 (i := 235) rfl rfl) np_M_Sb_append_15ec4 rfl ⟨Nat.le_of_ble_eq_true rfl, Nat.le_of_ble_eq_true rfl⟩ (Nat.le_of_ble_eq_true rfl) rfl d_Cl_drawn_224 h472 h473 (DP.k h (fun v476 w475 gw475 h => (?_ : WD _ _ 227 _ _ _ _ _ _)))
              refine x_aloadP (some a423) d_Cl_drawn_227 rfl (?_ : WD _ _ 229 _ _ _ _ _ _)
              refine x_getI (ref := "CoinSamplerLaw$Item") (j := 3) 3 (((((k434.q gw439.k).q gw448.k).q gw457.k).q gw466.k).q gw475.k).is clk_13 (by decide) (qm_4 (i := 159) rfl rfl) (Or.inl rfl) rfl rfl d_Cl_drawn_229 (y := (wI w475 a423 3)) rfl (?_ : WD _ _ 232 _ _ _ _ _ _)
              obtain ⟨a477, e478, h⟩ := h
              rw [e478]
              obtain ⟨c479, s480, h481, h482, h⟩ := h
              obtain ⟨k483, h⟩ := h
              refine x_callV (ν := M_Sb_append_bf812) [vI (wI w475 a423 3)] ok_M_Sb_append_bf812 okv_M_Sb_append_bf812 k483 rfl rfl (qm_4 (i := 100) rfl rfl) np_M_Sb_append_bf812 rfl ⟨Nat.le_of_ble_eq_true rfl, Nat.le_of_ble_eq_true rfl⟩ (Nat.le_of_ble_eq_true rfl) rfl d_Cl_drawn_232 h481 h482 (DP.k h (fun v485 w484 gw484 h => (?_ : WD _ _ 235 _ _ _ _ _ _)))
              refine x_bipush d_Cl_drawn_235 (by decide) (by decide) (?_ : WD _ _ 237 _ _ _ _ _ _)
              obtain ⟨a486, e487, h⟩ := h
              rw [e487]
              obtain ⟨c488, s489, h490, h491, h⟩ := h
              obtain ⟨k492, h⟩ := h
              refine x_callV (ν := M_Sb_append_cf468) [vI 59] ok_M_Sb_append_cf468 okv_M_Sb_append_cf468 k492 rfl rfl (qm_4 (i := 125) rfl rfl) np_M_Sb_append_cf468 rfl ⟨Nat.le_of_ble_eq_true rfl, Nat.le_of_ble_eq_true rfl⟩ (Nat.le_of_ble_eq_true rfl) rfl d_Cl_drawn_237 h490 h491 (DP.k h (fun v494 w493 gw493 h => (?_ : WD _ _ 240 _ _ _ _ _ _)))
              refine x_pop d_Cl_drawn_240 rfl (?_ : WD _ _ 241 _ _ _ _ _ _)
              refine x_goto 82 d_Cl_drawn_241 rfl ?_
              refine x_pick (ls' := [(0, vA x0), (1, vA x1), (2, vA x2), (3, vI (x3 + (-1))), (4, vI x4)]) [2, 3, 4, 1, 5] rfl ?_
              exact h
            · replace h := h.2 c429
              refine x_aloadP (some a423) d_Cl_drawn_171 rfl (?_ : WD _ _ 173 _ _ _ _ _ _)
              refine x_getI (ref := "CoinSamplerLaw$Item") (j := 2) 2 (k425.q gw427.k) clk_13 (by decide) (qm_4 (i := 157) rfl rfl) (Or.inl rfl) rfl rfl d_Cl_drawn_173 (y := (wI w427 a423 2)) rfl (?_ : WD _ _ 176 _ _ _ _ _ _)
              refine x_goto 192 d_Cl_drawn_176 rfl ?_
              obtain ⟨k495, h⟩ := h
              refine x_putI (ref := "CoinSamplerLaw$Item") (j := 3) 3 k495 clk_13 (by decide) (qm_4 (i := 159) rfl rfl) (Or.inl rfl) (Or.inl rfl) tyX13_ok rfl nmX13 d_Cl_drawn_192 rfl rfl (fun _ => rfl) rfl (?_ : WD _ _ 195 _ _ _ _ _ _)
              refine x_aload_nP (some x2) d_Cl_drawn_195 rfl (?_ : WD _ _ 196 _ _ _ _ _ _)
              refine x_ldcS (q := 260) (tx := "audit ") d_Cl_drawn_196 (by decide) (?_ : WD _ _ 198 _ _ _ _ _ _)
              obtain ⟨c496, s497, h498, h499, h⟩ := h
              refine x_callV (ν := M_Sb_append_15ec4) [vA (xa G 260)] ok_M_Sb_append_15ec4 okv_M_Sb_append_15ec4 (((((((k51.q gw52.k).q gw65.k).q gw411.k).q gw417.k).q gw419.k).q gw421.k).q gw427.k) rfl rfl (qm_3 (i := 235) rfl rfl) np_M_Sb_append_15ec4 rfl ⟨Nat.le_of_ble_eq_true rfl, Nat.le_of_ble_eq_true rfl⟩ (Nat.le_of_ble_eq_true rfl) rfl d_Cl_drawn_198 h498 h499 (DP.k h (fun v501 w500 gw500 h => (?_ : WD _ _ 201 _ _ _ _ _ _)))
              refine x_aloadP (some a423) d_Cl_drawn_201 rfl (?_ : WD _ _ 203 _ _ _ _ _ _)
              refine x_getI (ref := "CoinSamplerLaw$Item") (j := 0) 0 (k495.q gw500.k).is clk_13 (by decide) (qm_4 (i := 151) rfl rfl) (Or.inl rfl) rfl rfl d_Cl_drawn_203 (y := (wI w500 a423 0)) rfl (?_ : WD _ _ 206 _ _ _ _ _ _)
              obtain ⟨a502, e503, h⟩ := h
              rw [e503]
              obtain ⟨c504, s505, h506, h507, h⟩ := h
              obtain ⟨k508, h⟩ := h
              refine x_callV (ν := M_Sb_append_bf812) [vI (wI w500 a423 0)] ok_M_Sb_append_bf812 okv_M_Sb_append_bf812 k508 rfl rfl (qm_4 (i := 100) rfl rfl) np_M_Sb_append_bf812 rfl ⟨Nat.le_of_ble_eq_true rfl, Nat.le_of_ble_eq_true rfl⟩ (Nat.le_of_ble_eq_true rfl) rfl d_Cl_drawn_206 h506 h507 (DP.k h (fun v510 w509 gw509 h => (?_ : WD _ _ 209 _ _ _ _ _ _)))
              refine x_bipush d_Cl_drawn_209 (by decide) (by decide) (?_ : WD _ _ 211 _ _ _ _ _ _)
              obtain ⟨a511, e512, h⟩ := h
              rw [e512]
              obtain ⟨c513, s514, h515, h516, h⟩ := h
              obtain ⟨k517, h⟩ := h
              refine x_callV (ν := M_Sb_append_cf468) [vI 32] ok_M_Sb_append_cf468 okv_M_Sb_append_cf468 k517 rfl rfl (qm_4 (i := 125) rfl rfl) np_M_Sb_append_cf468 rfl ⟨Nat.le_of_ble_eq_true rfl, Nat.le_of_ble_eq_true rfl⟩ (Nat.le_of_ble_eq_true rfl) rfl d_Cl_drawn_211 h515 h516 (DP.k h (fun v519 w518 gw518 h => (?_ : WD _ _ 214 _ _ _ _ _ _)))
              refine x_aloadP (some a423) d_Cl_drawn_214 rfl (?_ : WD _ _ 216 _ _ _ _ _ _)
              refine x_getI (ref := "CoinSamplerLaw$Item") (j := 1) 1 (((k495.q gw500.k).q gw509.k).q gw518.k).is clk_13 (by decide) (qm_4 (i := 153) rfl rfl) (Or.inl rfl) rfl rfl d_Cl_drawn_216 (y := (wI w518 a423 1)) rfl (?_ : WD _ _ 219 _ _ _ _ _ _)
              obtain ⟨a520, e521, h⟩ := h
              rw [e521]
              obtain ⟨c522, s523, h524, h525, h⟩ := h
              obtain ⟨k526, h⟩ := h
              refine x_callV (ν := M_Sb_append_bf812) [vI (wI w518 a423 1)] ok_M_Sb_append_bf812 okv_M_Sb_append_bf812 k526 rfl rfl (qm_4 (i := 100) rfl rfl) np_M_Sb_append_bf812 rfl ⟨Nat.le_of_ble_eq_true rfl, Nat.le_of_ble_eq_true rfl⟩ (Nat.le_of_ble_eq_true rfl) rfl d_Cl_drawn_219 h524 h525 (DP.k h (fun v528 w527 gw527 h => (?_ : WD _ _ 222 _ _ _ _ _ _)))
              refine x_ldcS (q := 262) (tx := "  ") d_Cl_drawn_222 (by decide) (?_ : WD _ _ 224 _ _ _ _ _ _)
              obtain ⟨a529, e530, h⟩ := h
              rw [e530]
              obtain ⟨c531, s532, h533, h534, h⟩ := h
              obtain ⟨k535, h⟩ := h
              refine x_callV (ν := M_Sb_append_15ec4) [vA (xa G 262)] ok_M_Sb_append_15ec4 okv_M_Sb_append_15ec4 k535 rfl rfl (qm_3 (i := 235) rfl rfl) np_M_Sb_append_15ec4 rfl ⟨Nat.le_of_ble_eq_true rfl, Nat.le_of_ble_eq_true rfl⟩ (Nat.le_of_ble_eq_true rfl) rfl d_Cl_drawn_224 h533 h534 (DP.k h (fun v537 w536 gw536 h => (?_ : WD _ _ 227 _ _ _ _ _ _)))
              refine x_aloadP (some a423) d_Cl_drawn_227 rfl (?_ : WD _ _ 229 _ _ _ _ _ _)
              refine x_getI (ref := "CoinSamplerLaw$Item") (j := 3) 3 (((((k495.q gw500.k).q gw509.k).q gw518.k).q gw527.k).q gw536.k).is clk_13 (by decide) (qm_4 (i := 159) rfl rfl) (Or.inl rfl) rfl rfl d_Cl_drawn_229 (y := (wI w536 a423 3)) rfl (?_ : WD _ _ 232 _ _ _ _ _ _)
              obtain ⟨a538, e539, h⟩ := h
              rw [e539]
              obtain ⟨c540, s541, h542, h543, h⟩ := h
              obtain ⟨k544, h⟩ := h
              refine x_callV (ν := M_Sb_append_bf812) [vI (wI w536 a423 3)] ok_M_Sb_append_bf812 okv_M_Sb_append_bf812 k544 rfl rfl (qm_4 (i := 100) rfl rfl) np_M_Sb_append_bf812 rfl ⟨Nat.le_of_ble_eq_true rfl, Nat.le_of_ble_eq_true rfl⟩ (Nat.le_of_ble_eq_true rfl) rfl d_Cl_drawn_232 h542 h543 (DP.k h (fun v546 w545 gw545 h => (?_ : WD _ _ 235 _ _ _ _ _ _)))
              refine x_bipush d_Cl_drawn_235 (by decide) (by decide) (?_ : WD _ _ 237 _ _ _ _ _ _)
              obtain ⟨a547, e548, h⟩ := h
              rw [e548]
              obtain ⟨c549, s550, h551, h552, h⟩ := h
              obtain ⟨k553, h⟩ := h
              refine x_callV (ν := M_Sb_append_cf468) [vI 59] ok_M_Sb_append_cf468 okv_M_Sb_append_cf468 k553 rfl rfl (qm_4 (i := 125) rfl rfl) np_M_Sb_append_cf468 rfl ⟨Nat.le_of_ble_eq_true rfl, Nat.le_of_ble_eq_true rfl⟩ (Nat.le_of_ble_eq_true rfl) rfl d_Cl_drawn_237 h551 h552 (DP.k h (fun v555 w554 gw554 h => (?_ : WD _ _ 240 _ _ _ _ _ _)))
              refine x_pop d_Cl_drawn_240 rfl (?_ : WD _ _ 241 _ _ _ _ _ _)
              refine x_goto 82 d_Cl_drawn_241 rfl ?_
              refine x_pick (ls' := [(0, vA x0), (1, vA x1), (2, vA x2), (3, vI (x3 + (-1))), (4, vI x4)]) [2, 3, 4, 1, 5] rfl ?_
              exact h
          · replace h := h.2 c426
            refine x_goto 82 d_Cl_drawn_158 rfl ?_
            refine x_pick (ls' := [(0, vA x0), (1, vA x1), (2, vA x2), (3, vI (x3 + (-1))), (4, vI x4)]) [2, 3, 4, 1, 5] rfl ?_
            exact h
        · replace h := h.2 c413
          refine x_null d_Cl_drawn_117 (?_ : WD _ _ 118 _ _ _ _ _ _)
          refine x_goto 142 d_Cl_drawn_118 rfl ?_
          refine x_astoreP none (ls' := [(5, vP none), (3, vI (x3 + (-1))), (0, vA x0), (1, vA x1), (2, vA x2), (4, vI x4)]) d_Cl_drawn_142 (by decide) rfl (?_ : WD _ _ 144 _ _ _ _ _ _)
          refine x_aloadP none d_Cl_drawn_144 rfl (?_ : WD _ _ 146 _ _ _ _ _ _)
          refine x_ifnull (r := none) 244 d_Cl_drawn_146 rfl ⟨fun _ => (?_ : WD _ _ 244 _ _ _ _ _ _), fun _ hz => absurd hz (by simp)⟩
          obtain ⟨h556, h⟩ := h
          obtain ⟨h557, h⟩ := h
          refine x_new d_Cl_drawn_244 clk_13 tyX13_ok (qm_3 (i := 184) rfl rfl) (qm_4 (i := 146) rfl rfl) (qm_1 (i := 29) rfl rfl) hfd_13 h556 h557 (fun q558 fq558 => (?_ : WD _ _ 247 _ _ _ _ _ _))
          replace h := h q558 fq558
          have k559 : Ow (uN w411 q558 (kO 13)) q558 (kO 13) := Ow.nw
          refine x_dup d_Cl_drawn_247 rfl (?_ : WD _ _ 248 _ _ _ _ _ _)
          refine x_callIN (ν := M_It_init) "CoinSamplerLaw" [] ok_M_It_init oki_M_It_init rfl rfl (by decide) np_M_It_init rfl ⟨Nat.le_of_ble_eq_true rfl, Nat.le_of_ble_eq_true rfl⟩ (Nat.le_of_ble_eq_true rfl) rfl d_Cl_drawn_248 (Nat.zero_le _) (Nat.zero_le _) (DV.k h (fun w560 gw560 h => (?_ : WD _ _ 251 _ _ _ _ _ _)))
          refine x_astoreP (some q558) (ls' := [(5, vA q558), (3, vI (x3 + (-1))), (0, vA x0), (1, vA x1), (2, vA x2), (4, vI x4)]) d_Cl_drawn_251 (by decide) rfl (?_ : WD _ _ 253 _ _ _ _ _ _)
          refine x_aloadP (some q558) d_Cl_drawn_253 rfl (?_ : WD _ _ 255 _ _ _ _ _ _)
          refine x_aload_nP (some x1) d_Cl_drawn_255 rfl (?_ : WD _ _ 256 _ _ _ _ _ _)
          refine x_iconst d_Cl_drawn_256 (by decide) (?_ : WD _ _ 257 _ _ _ _ _ _)
          refine x_callS (ν := M_Cl_draw) [vA x1, vI 5] ok_M_Cl_draw oks_M_Cl_draw (qm_3 (i := 179) rfl rfl) np_M_Cl_draw rfl ⟨Nat.le_of_ble_eq_true rfl, Nat.le_of_ble_eq_true rfl⟩ (Nat.le_of_ble_eq_true rfl) rfl d_Cl_drawn_257 (Nat.zero_le _) (Nat.zero_le _) (DI.k h (fun v563 w562 gw562 h => (?_ : WD _ _ 260 _ _ _ _ _ _)))
          refine x_putI (ref := "CoinSamplerLaw$Item") (j := 0) 0 ((k559.q gw560.k).q gw562.k) clk_13 (by decide) (qm_4 (i := 151) rfl rfl) (Or.inl rfl) (Or.inl rfl) tyX13_ok rfl nmX13 d_Cl_drawn_260 rfl rfl (fun _ => rfl) rfl (?_ : WD _ _ 263 _ _ _ _ _ _)
          refine x_aloadP (some q558) d_Cl_drawn_263 rfl (?_ : WD _ _ 265 _ _ _ _ _ _)
          refine x_aload_nP (some x1) d_Cl_drawn_265 rfl (?_ : WD _ _ 266 _ _ _ _ _ _)
          refine x_sipush d_Cl_drawn_266 (by decide) (by decide) (?_ : WD _ _ 269 _ _ _ _ _ _)
          refine x_callS (ν := M_Cl_draw) [vA x1, vI 300] ok_M_Cl_draw oks_M_Cl_draw (qm_3 (i := 179) rfl rfl) np_M_Cl_draw rfl ⟨Nat.le_of_ble_eq_true rfl, Nat.le_of_ble_eq_true rfl⟩ (Nat.le_of_ble_eq_true rfl) rfl d_Cl_drawn_269 (Nat.zero_le _) (Nat.zero_le _) (DI.k h (fun v565 w564 gw564 h => (?_ : WD _ _ 272 _ _ _ _ _ _)))
          refine x_putI (ref := "CoinSamplerLaw$Item") (j := 1) 1 (((k559.q gw560.k).q gw562.k).q gw564.k) clk_13 (by decide) (qm_4 (i := 153) rfl rfl) (Or.inl rfl) (Or.inl rfl) tyX13_ok rfl nmX13 d_Cl_drawn_272 rfl rfl (fun _ => rfl) rfl (?_ : WD _ _ 275 _ _ _ _ _ _)
          refine x_aloadP (some q558) d_Cl_drawn_275 rfl (?_ : WD _ _ 277 _ _ _ _ _ _)
          refine x_aload_nP (some x1) d_Cl_drawn_277 rfl (?_ : WD _ _ 278 _ _ _ _ _ _)
          refine x_bipush d_Cl_drawn_278 (by decide) (by decide) (?_ : WD _ _ 280 _ _ _ _ _ _)
          refine x_callS (ν := M_Cl_draw) [vA x1, vI 8] ok_M_Cl_draw oks_M_Cl_draw (qm_3 (i := 179) rfl rfl) np_M_Cl_draw rfl ⟨Nat.le_of_ble_eq_true rfl, Nat.le_of_ble_eq_true rfl⟩ (Nat.le_of_ble_eq_true rfl) rfl d_Cl_drawn_280 (Nat.zero_le _) (Nat.zero_le _) (DI.k h (fun v567 w566 gw566 h => (?_ : WD _ _ 283 _ _ _ _ _ _)))
          refine x_if_ne 296 d_Cl_drawn_283 rfl ⟨fun c568 => (?_ : WD _ _ 296 _ _ _ _ _ _), fun c568 => (?_ : WD _ _ 286 _ _ _ _ _ _)⟩
          · replace h := h.1 c568
            refine x_aload_nP (some x1) d_Cl_drawn_296 rfl (?_ : WD _ _ 297 _ _ _ _ _ _)
            refine x_iconst d_Cl_drawn_297 (by decide) (?_ : WD _ _ 298 _ _ _ _ _ _)
            refine x_aload_nP (some x1) d_Cl_drawn_298 rfl (?_ : WD _ _ 299 _ _ _ _ _ _)
            refine x_iload d_Cl_drawn_299 rfl (?_ : WD _ _ 301 _ _ _ _ _ _)
            refine x_callS (ν := M_Cl_draw) [vA x1, vI x4] ok_M_Cl_draw oks_M_Cl_draw (qm_3 (i := 179) rfl rfl) np_M_Cl_draw rfl ⟨Nat.le_of_ble_eq_true rfl, Nat.le_of_ble_eq_true rfl⟩ (Nat.le_of_ble_eq_true rfl) rfl d_Cl_drawn_301 (Nat.zero_le _) (Nat.zero_le _) (DI.k h (fun v570 w569 gw569 h => (?_ : WD _ _ 304 _ _ _ _ _ _)))
            obtain ⟨h571, h⟩ := h
            refine x_iadd d_Cl_drawn_304 h571 (?_ : WD _ _ 305 _ _ _ _ _ _)
            refine x_callS (ν := M_Cl_draw) [vA x1, vI (1 + v570)] ok_M_Cl_draw oks_M_Cl_draw (qm_3 (i := 179) rfl rfl) np_M_Cl_draw rfl ⟨Nat.le_of_ble_eq_true rfl, Nat.le_of_ble_eq_true rfl⟩ (Nat.le_of_ble_eq_true rfl) rfl d_Cl_drawn_305 (Nat.zero_le _) (Nat.zero_le _) (DI.k h (fun v573 w572 gw572 h => (?_ : WD _ _ 308 _ _ _ _ _ _)))
            refine x_putI (ref := "CoinSamplerLaw$Item") (j := 2) 2 ((((((k559.q gw560.k).q gw562.k).q gw564.k).q gw566.k).q gw569.k).q gw572.k) clk_13 (by decide) (qm_4 (i := 157) rfl rfl) (Or.inl rfl) (Or.inl rfl) tyX13_ok rfl nmX13 d_Cl_drawn_308 rfl rfl (fun _ => rfl) rfl (?_ : WD _ _ 311 _ _ _ _ _ _)
            refine x_aload_nP (some x0) d_Cl_drawn_311 rfl (?_ : WD _ _ 312 _ _ _ _ _ _)
            refine x_aloadP (some q558) d_Cl_drawn_312 rfl (?_ : WD _ _ 314 _ _ _ _ _ _)
            refine x_getI (ref := "CoinSamplerLaw$Item") (j := 0) 0 ((((((k559.q gw560.k).q gw562.k).q gw564.k).q gw566.k).q gw569.k).q gw572.k).is clk_13 (by decide) (qm_4 (i := 151) rfl rfl) (Or.inl rfl) rfl rfl d_Cl_drawn_314 (y := (wI w572 q558 0)) (wI_uI_j (by decide)) (?_ : WD _ _ 317 _ _ _ _ _ _)
            refine x_aloadP (some q558) d_Cl_drawn_317 rfl (?_ : WD _ _ 319 _ _ _ _ _ _)
            refine x_getI (ref := "CoinSamplerLaw$Item") (j := 1) 1 ((((((k559.q gw560.k).q gw562.k).q gw564.k).q gw566.k).q gw569.k).q gw572.k).is clk_13 (by decide) (qm_4 (i := 153) rfl rfl) (Or.inl rfl) rfl rfl d_Cl_drawn_319 (y := (wI w572 q558 1)) (wI_uI_j (by decide)) (?_ : WD _ _ 322 _ _ _ _ _ _)
            refine x_callV (ν := M_Bo_find) [vI (wI w572 q558 0), vI (wI w572 q558 1)] ok_M_Bo_find okv_M_Bo_find (((((((((k61.q gw65.k).q gw411.k).nu fq558).q gw560.k).q gw562.k).q gw564.k).q gw566.k).q gw569.k).q gw572.k) rfl rfl (qm_4 (i := 169) rfl rfl) np_M_Bo_find rfl ⟨Nat.le_of_ble_eq_true rfl, Nat.le_of_ble_eq_true rfl⟩ (Nat.le_of_ble_eq_true rfl) rfl d_Cl_drawn_322 (Nat.zero_le _) (Nat.zero_le _) (DI.k h (fun v575 w574 gw574 h => (?_ : WD _ _ 325 _ _ _ _ _ _)))
            refine x_if_ge 82 d_Cl_drawn_325 rfl ⟨fun c576 => (?_ : WD _ _ 82 _ _ _ _ _ _), fun c576 => (?_ : WD _ _ 328 _ _ _ _ _ _)⟩
            · replace h := h.1 c576
              refine x_pick (ls' := [(0, vA x0), (1, vA x1), (2, vA x2), (3, vI (x3 + (-1))), (4, vI x4)]) [2, 3, 4, 1, 5] rfl ?_
              exact h
            · replace h := h.2 c576
              refine x_aload_nP (some x0) d_Cl_drawn_328 rfl (?_ : WD _ _ 329 _ _ _ _ _ _)
              refine x_getP (ref := "CoinSamplerLaw$Books") (j := 0) 0 ((((((((((k61.q gw65.k).q gw411.k).nu fq558).q gw560.k).q gw562.k).q gw564.k).q gw566.k).q gw569.k).q gw572.k).q gw574.k) clk_11 (by decide) (qm_2 (i := 156) rfl rfl) (Or.inl rfl) rfl rfl d_Cl_drawn_329 (y := (wR w574 x0 0)) rfl (?_ : WD _ _ 332 _ _ _ _ _ _)
              obtain ⟨a577, e578, h⟩ := h
              rw [e578]
              obtain ⟨k579, h⟩ := h
              refine x_callV (ν := M_Al_size) [] ok_M_Al_size okv_M_Al_size k579 rfl rfl (qm_3 (i := 178) rfl rfl) np_M_Al_size rfl ⟨Nat.le_of_ble_eq_true rfl, Nat.le_of_ble_eq_true rfl⟩ (Nat.le_of_ble_eq_true rfl) rfl d_Cl_drawn_332 (Nat.zero_le _) (Nat.zero_le _) (DI.k h (fun v581 w580 gw580 h => (?_ : WD _ _ 335 _ _ _ _ _ _)))
              refine x_bipush d_Cl_drawn_335 (by decide) (by decide) (?_ : WD _ _ 337 _ _ _ _ _ _)
              refine x_icmp_ne 343 d_Cl_drawn_337 rfl ⟨fun c582 => (?_ : WD _ _ 343 _ _ _ _ _ _), fun c582 => (?_ : WD _ _ 340 _ _ _ _ _ _)⟩
              · replace h := h.1 c582
                refine x_aload_nP (some x2) d_Cl_drawn_343 rfl (?_ : WD _ _ 344 _ _ _ _ _ _)
                refine x_ldcS (q := 264) (tx := "item") d_Cl_drawn_344 (by decide) (?_ : WD _ _ 346 _ _ _ _ _ _)
                obtain ⟨c583, s584, h585, h586, h⟩ := h
                refine x_callV (ν := M_Sb_append_15ec4) [vA (xa G 264)] ok_M_Sb_append_15ec4 okv_M_Sb_append_15ec4 ((((((((((((k51.q gw52.k).q gw65.k).q gw411.k).nu fq558).q gw560.k).q gw562.k).q gw564.k).q gw566.k).q gw569.k).q gw572.k).q gw574.k).q gw580.k) rfl rfl (qm_3 (i := 235) rfl rfl) np_M_Sb_append_15ec4 rfl ⟨Nat.le_of_ble_eq_true rfl, Nat.le_of_ble_eq_true rfl⟩ (Nat.le_of_ble_eq_true rfl) rfl d_Cl_drawn_346 h585 h586 (DP.k h (fun v588 w587 gw587 h => (?_ : WD _ _ 349 _ _ _ _ _ _)))
                refine x_aloadP (some q558) d_Cl_drawn_349 rfl (?_ : WD _ _ 351 _ _ _ _ _ _)
                refine x_getI (ref := "CoinSamplerLaw$Item") (j := 0) 0 (((((((((k559.q gw560.k).q gw562.k).q gw564.k).q gw566.k).q gw569.k).q gw572.k).q gw574.k).q gw580.k).q gw587.k).is clk_13 (by decide) (qm_4 (i := 151) rfl rfl) (Or.inl rfl) rfl rfl d_Cl_drawn_351 (y := (wI w587 q558 0)) rfl (?_ : WD _ _ 354 _ _ _ _ _ _)
                obtain ⟨a589, e590, h⟩ := h
                rw [e590]
                obtain ⟨c591, s592, h593, h594, h⟩ := h
                obtain ⟨k595, h⟩ := h
                refine x_callV (ν := M_Sb_append_bf812) [vI (wI w587 q558 0)] ok_M_Sb_append_bf812 okv_M_Sb_append_bf812 k595 rfl rfl (qm_4 (i := 100) rfl rfl) np_M_Sb_append_bf812 rfl ⟨Nat.le_of_ble_eq_true rfl, Nat.le_of_ble_eq_true rfl⟩ (Nat.le_of_ble_eq_true rfl) rfl d_Cl_drawn_354 h593 h594 (DP.k h (fun v597 w596 gw596 h => (?_ : WD _ _ 357 _ _ _ _ _ _)))
                refine x_bipush d_Cl_drawn_357 (by decide) (by decide) (?_ : WD _ _ 359 _ _ _ _ _ _)
                obtain ⟨a598, e599, h⟩ := h
                rw [e599]
                obtain ⟨c600, s601, h602, h603, h⟩ := h
                obtain ⟨k604, h⟩ := h
                refine x_callV (ν := M_Sb_append_cf468) [vI 32] ok_M_Sb_append_cf468 okv_M_Sb_append_cf468 k604 rfl rfl (qm_4 (i := 125) rfl rfl) np_M_Sb_append_cf468 rfl ⟨Nat.le_of_ble_eq_true rfl, Nat.le_of_ble_eq_true rfl⟩ (Nat.le_of_ble_eq_true rfl) rfl d_Cl_drawn_359 h602 h603 (DP.k h (fun v606 w605 gw605 h => (?_ : WD _ _ 362 _ _ _ _ _ _)))
                refine x_aloadP (some q558) d_Cl_drawn_362 rfl (?_ : WD _ _ 364 _ _ _ _ _ _)
                refine x_getI (ref := "CoinSamplerLaw$Item") (j := 1) 1 (((((((((((k559.q gw560.k).q gw562.k).q gw564.k).q gw566.k).q gw569.k).q gw572.k).q gw574.k).q gw580.k).q gw587.k).q gw596.k).q gw605.k).is clk_13 (by decide) (qm_4 (i := 153) rfl rfl) (Or.inl rfl) rfl rfl d_Cl_drawn_364 (y := (wI w605 q558 1)) rfl (?_ : WD _ _ 367 _ _ _ _ _ _)
                obtain ⟨a607, e608, h⟩ := h
                rw [e608]
                obtain ⟨c609, s610, h611, h612, h⟩ := h
                obtain ⟨k613, h⟩ := h
                refine x_callV (ν := M_Sb_append_bf812) [vI (wI w605 q558 1)] ok_M_Sb_append_bf812 okv_M_Sb_append_bf812 k613 rfl rfl (qm_4 (i := 100) rfl rfl) np_M_Sb_append_bf812 rfl ⟨Nat.le_of_ble_eq_true rfl, Nat.le_of_ble_eq_true rfl⟩ (Nat.le_of_ble_eq_true rfl) rfl d_Cl_drawn_367 h611 h612 (DP.k h (fun v615 w614 gw614 h => (?_ : WD _ _ 370 _ _ _ _ _ _)))
                refine x_aloadP (some q558) d_Cl_drawn_370 rfl (?_ : WD _ _ 372 _ _ _ _ _ _)
                refine x_getI (ref := "CoinSamplerLaw$Item") (j := 2) 2 ((((((((((((k559.q gw560.k).q gw562.k).q gw564.k).q gw566.k).q gw569.k).q gw572.k).q gw574.k).q gw580.k).q gw587.k).q gw596.k).q gw605.k).q gw614.k).is clk_13 (by decide) (qm_4 (i := 157) rfl rfl) (Or.inl rfl) rfl rfl d_Cl_drawn_372 (y := (wI w614 q558 2)) rfl (?_ : WD _ _ 375 _ _ _ _ _ _)
                refine x_if_ge 383 d_Cl_drawn_375 rfl ⟨fun c616 => (?_ : WD _ _ 383 _ _ _ _ _ _), fun c616 => (?_ : WD _ _ 378 _ _ _ _ _ _)⟩
                · replace h := h.1 c616
                  refine x_ldcS (q := 268) (tx := " ") d_Cl_drawn_383 (by decide) (?_ : WD _ _ 385 _ _ _ _ _ _)
                  obtain ⟨a617, e618, h⟩ := h
                  rw [e618]
                  obtain ⟨c619, s620, h621, h622, h⟩ := h
                  obtain ⟨k623, h⟩ := h
                  refine x_callV (ν := M_Sb_append_15ec4) [vA (xa G 268)] ok_M_Sb_append_15ec4 okv_M_Sb_append_15ec4 k623 rfl rfl (qm_3 (i := 235) rfl rfl) np_M_Sb_append_15ec4 rfl ⟨Nat.le_of_ble_eq_true rfl, Nat.le_of_ble_eq_true rfl⟩ (Nat.le_of_ble_eq_true rfl) rfl d_Cl_drawn_385 h621 h622 (DP.k h (fun v625 w624 gw624 h => (?_ : WD _ _ 388 _ _ _ _ _ _)))
                  refine x_aloadP (some q558) d_Cl_drawn_388 rfl (?_ : WD _ _ 390 _ _ _ _ _ _)
                  refine x_getI (ref := "CoinSamplerLaw$Item") (j := 2) 2 (((((((((((((k559.q gw560.k).q gw562.k).q gw564.k).q gw566.k).q gw569.k).q gw572.k).q gw574.k).q gw580.k).q gw587.k).q gw596.k).q gw605.k).q gw614.k).q gw624.k).is clk_13 (by decide) (qm_4 (i := 157) rfl rfl) (Or.inl rfl) rfl rfl d_Cl_drawn_390 (y := (wI w624 q558 2)) rfl (?_ : WD _ _ 393 _ _ _ _ _ _)
                  refine x_callS (ν := M_Ma_abs) [vI (wI w624 q558 2)] ok_M_Ma_abs oks_M_Ma_abs (qm_4 (i := 176) rfl rfl) np_M_Ma_abs rfl ⟨Nat.le_of_ble_eq_true rfl, Nat.le_of_ble_eq_true rfl⟩ (Nat.le_of_ble_eq_true rfl) rfl d_Cl_drawn_393 (Nat.zero_le _) (Nat.zero_le _) (DI.k h (fun v627 w626 gw626 h => (?_ : WD _ _ 396 _ _ _ _ _ _)))
                  obtain ⟨a628, e629, h⟩ := h
                  rw [e629]
                  obtain ⟨c630, s631, h632, h633, h⟩ := h
                  obtain ⟨k634, h⟩ := h
                  refine x_callV (ν := M_Sb_append_bf812) [vI v627] ok_M_Sb_append_bf812 okv_M_Sb_append_bf812 k634 rfl rfl (qm_4 (i := 100) rfl rfl) np_M_Sb_append_bf812 rfl ⟨Nat.le_of_ble_eq_true rfl, Nat.le_of_ble_eq_true rfl⟩ (Nat.le_of_ble_eq_true rfl) rfl d_Cl_drawn_396 h632 h633 (DP.k h (fun v636 w635 gw635 h => (?_ : WD _ _ 399 _ _ _ _ _ _)))
                  refine x_aload_nP (some x1) d_Cl_drawn_399 rfl (?_ : WD _ _ 400 _ _ _ _ _ _)
                  refine x_iconst d_Cl_drawn_400 (by decide) (?_ : WD _ _ 401 _ _ _ _ _ _)
                  refine x_callS (ν := M_Cl_draw) [vA x1, vI 3] ok_M_Cl_draw oks_M_Cl_draw (qm_3 (i := 179) rfl rfl) np_M_Cl_draw rfl ⟨Nat.le_of_ble_eq_true rfl, Nat.le_of_ble_eq_true rfl⟩ (Nat.le_of_ble_eq_true rfl) rfl d_Cl_drawn_401 (Nat.zero_le _) (Nat.zero_le _) (DI.k h (fun v638 w637 gw637 h => (?_ : WD _ _ 404 _ _ _ _ _ _)))
                  refine x_if_ne 412 d_Cl_drawn_404 rfl ⟨fun c639 => (?_ : WD _ _ 412 _ _ _ _ _ _), fun c639 => (?_ : WD _ _ 407 _ _ _ _ _ _)⟩
                  · replace h := h.1 c639
                    refine x_ldcS (q := 272) (tx := ";") d_Cl_drawn_412 (by decide) (?_ : WD _ _ 414 _ _ _ _ _ _)
                    obtain ⟨a640, e641, h⟩ := h
                    rw [e641]
                    obtain ⟨c642, s643, h644, h645, h⟩ := h
                    obtain ⟨k646, h⟩ := h
                    refine x_callV (ν := M_Sb_append_15ec4) [vA (xa G 272)] ok_M_Sb_append_15ec4 okv_M_Sb_append_15ec4 k646 rfl rfl (qm_3 (i := 235) rfl rfl) np_M_Sb_append_15ec4 rfl ⟨Nat.le_of_ble_eq_true rfl, Nat.le_of_ble_eq_true rfl⟩ (Nat.le_of_ble_eq_true rfl) rfl d_Cl_drawn_414 h644 h645 (DP.k h (fun v648 w647 gw647 h => (?_ : WD _ _ 417 _ _ _ _ _ _)))
                    refine x_pop d_Cl_drawn_417 rfl (?_ : WD _ _ 418 _ _ _ _ _ _)
                    refine x_aload_nP (some x0) d_Cl_drawn_418 rfl (?_ : WD _ _ 419 _ _ _ _ _ _)
                    refine x_getP (ref := "CoinSamplerLaw$Books") (j := 0) 0 ((((((((((((((((((((k61.q gw65.k).q gw411.k).nu fq558).q gw560.k).q gw562.k).q gw564.k).q gw566.k).q gw569.k).q gw572.k).q gw574.k).q gw580.k).q gw587.k).q gw596.k).q gw605.k).q gw614.k).q gw624.k).q gw626.k).q gw635.k).q gw637.k).q gw647.k) clk_11 (by decide) (qm_2 (i := 156) rfl rfl) (Or.inl rfl) rfl rfl d_Cl_drawn_419 (y := (wR w647 x0 0)) rfl (?_ : WD _ _ 422 _ _ _ _ _ _)
                    refine x_aloadP (some q558) d_Cl_drawn_422 rfl (?_ : WD _ _ 424 _ _ _ _ _ _)
                    obtain ⟨a649, e650, h⟩ := h
                    rw [e650]
                    obtain ⟨c651, s652, h653, h654, h⟩ := h
                    obtain ⟨k655, h⟩ := h
                    refine x_callV (ν := M_Al_add_9ea2d) [vA q558] ok_M_Al_add_9ea2d okv_M_Al_add_9ea2d k655 rfl rfl (qm_4 (i := 181) rfl rfl) np_M_Al_add_9ea2d rfl ⟨Nat.le_of_ble_eq_true rfl, Nat.le_of_ble_eq_true rfl⟩ (Nat.le_of_ble_eq_true rfl) rfl d_Cl_drawn_424 h653 h654 (DI.k h (fun v657 w656 gw656 h => (?_ : WD _ _ 427 _ _ _ _ _ _)))
                    refine x_pop d_Cl_drawn_427 rfl (?_ : WD _ _ 428 _ _ _ _ _ _)
                    refine x_goto 82 d_Cl_drawn_428 rfl ?_
                    refine x_pick (ls' := [(0, vA x0), (1, vA x1), (2, vA x2), (3, vI (x3 + (-1))), (4, vI x4)]) [2, 3, 4, 1, 5] rfl ?_
                    exact h
                  · replace h := h.2 c639
                    refine x_ldcS (q := 270) (tx := "; ") d_Cl_drawn_407 (by decide) (?_ : WD _ _ 409 _ _ _ _ _ _)
                    refine x_goto 414 d_Cl_drawn_409 rfl ?_
                    obtain ⟨a658, e659, h⟩ := h
                    rw [e659]
                    obtain ⟨c660, s661, h662, h663, h⟩ := h
                    obtain ⟨k664, h⟩ := h
                    refine x_callV (ν := M_Sb_append_15ec4) [vA (xa G 270)] ok_M_Sb_append_15ec4 okv_M_Sb_append_15ec4 k664 rfl rfl (qm_3 (i := 235) rfl rfl) np_M_Sb_append_15ec4 rfl ⟨Nat.le_of_ble_eq_true rfl, Nat.le_of_ble_eq_true rfl⟩ (Nat.le_of_ble_eq_true rfl) rfl d_Cl_drawn_414 h662 h663 (DP.k h (fun v666 w665 gw665 h => (?_ : WD _ _ 417 _ _ _ _ _ _)))
                    refine x_pop d_Cl_drawn_417 rfl (?_ : WD _ _ 418 _ _ _ _ _ _)
                    refine x_aload_nP (some x0) d_Cl_drawn_418 rfl (?_ : WD _ _ 419 _ _ _ _ _ _)
                    refine x_getP (ref := "CoinSamplerLaw$Books") (j := 0) 0 ((((((((((((((((((((k61.q gw65.k).q gw411.k).nu fq558).q gw560.k).q gw562.k).q gw564.k).q gw566.k).q gw569.k).q gw572.k).q gw574.k).q gw580.k).q gw587.k).q gw596.k).q gw605.k).q gw614.k).q gw624.k).q gw626.k).q gw635.k).q gw637.k).q gw665.k) clk_11 (by decide) (qm_2 (i := 156) rfl rfl) (Or.inl rfl) rfl rfl d_Cl_drawn_419 (y := (wR w665 x0 0)) rfl (?_ : WD _ _ 422 _ _ _ _ _ _)
                    refine x_aloadP (some q558) d_Cl_drawn_422 rfl (?_ : WD _ _ 424 _ _ _ _ _ _)
                    obtain ⟨a667, e668, h⟩ := h
                    rw [e668]
                    obtain ⟨c669, s670, h671, h672, h⟩ := h
                    obtain ⟨k673, h⟩ := h
                    refine x_callV (ν := M_Al_add_9ea2d) [vA q558] ok_M_Al_add_9ea2d okv_M_Al_add_9ea2d k673 rfl rfl (qm_4 (i := 181) rfl rfl) np_M_Al_add_9ea2d rfl ⟨Nat.le_of_ble_eq_true rfl, Nat.le_of_ble_eq_true rfl⟩ (Nat.le_of_ble_eq_true rfl) rfl d_Cl_drawn_424 h671 h672 (DI.k h (fun v675 w674 gw674 h => (?_ : WD _ _ 427 _ _ _ _ _ _)))
                    refine x_pop d_Cl_drawn_427 rfl (?_ : WD _ _ 428 _ _ _ _ _ _)
                    refine x_goto 82 d_Cl_drawn_428 rfl ?_
                    refine x_pick (ls' := [(0, vA x0), (1, vA x1), (2, vA x2), (3, vI (x3 + (-1))), (4, vI x4)]) [2, 3, 4, 1, 5] rfl ?_
                    exact h
                · replace h := h.2 c616
                  refine x_ldcS (q := 266) (tx := " - ") d_Cl_drawn_378 (by decide) (?_ : WD _ _ 380 _ _ _ _ _ _)
                  refine x_goto 385 d_Cl_drawn_380 rfl ?_
                  obtain ⟨a676, e677, h⟩ := h
                  rw [e677]
                  obtain ⟨c678, s679, h680, h681, h⟩ := h
                  obtain ⟨k682, h⟩ := h
                  refine x_callV (ν := M_Sb_append_15ec4) [vA (xa G 266)] ok_M_Sb_append_15ec4 okv_M_Sb_append_15ec4 k682 rfl rfl (qm_3 (i := 235) rfl rfl) np_M_Sb_append_15ec4 rfl ⟨Nat.le_of_ble_eq_true rfl, Nat.le_of_ble_eq_true rfl⟩ (Nat.le_of_ble_eq_true rfl) rfl d_Cl_drawn_385 h680 h681 (DP.k h (fun v684 w683 gw683 h => (?_ : WD _ _ 388 _ _ _ _ _ _)))
                  refine x_aloadP (some q558) d_Cl_drawn_388 rfl (?_ : WD _ _ 390 _ _ _ _ _ _)
                  refine x_getI (ref := "CoinSamplerLaw$Item") (j := 2) 2 (((((((((((((k559.q gw560.k).q gw562.k).q gw564.k).q gw566.k).q gw569.k).q gw572.k).q gw574.k).q gw580.k).q gw587.k).q gw596.k).q gw605.k).q gw614.k).q gw683.k).is clk_13 (by decide) (qm_4 (i := 157) rfl rfl) (Or.inl rfl) rfl rfl d_Cl_drawn_390 (y := (wI w683 q558 2)) rfl (?_ : WD _ _ 393 _ _ _ _ _ _)
                  refine x_callS (ν := M_Ma_abs) [vI (wI w683 q558 2)] ok_M_Ma_abs oks_M_Ma_abs (qm_4 (i := 176) rfl rfl) np_M_Ma_abs rfl ⟨Nat.le_of_ble_eq_true rfl, Nat.le_of_ble_eq_true rfl⟩ (Nat.le_of_ble_eq_true rfl) rfl d_Cl_drawn_393 (Nat.zero_le _) (Nat.zero_le _) (DI.k h (fun v686 w685 gw685 h => (?_ : WD _ _ 396 _ _ _ _ _ _)))
                  obtain ⟨a687, e688, h⟩ := h
                  rw [e688]
                  obtain ⟨c689, s690, h691, h692, h⟩ := h
                  obtain ⟨k693, h⟩ := h
                  refine x_callV (ν := M_Sb_append_bf812) [vI v686] ok_M_Sb_append_bf812 okv_M_Sb_append_bf812 k693 rfl rfl (qm_4 (i := 100) rfl rfl) np_M_Sb_append_bf812 rfl ⟨Nat.le_of_ble_eq_true rfl, Nat.le_of_ble_eq_true rfl⟩ (Nat.le_of_ble_eq_true rfl) rfl d_Cl_drawn_396 h691 h692 (DP.k h (fun v695 w694 gw694 h => (?_ : WD _ _ 399 _ _ _ _ _ _)))
                  refine x_aload_nP (some x1) d_Cl_drawn_399 rfl (?_ : WD _ _ 400 _ _ _ _ _ _)
                  refine x_iconst d_Cl_drawn_400 (by decide) (?_ : WD _ _ 401 _ _ _ _ _ _)
                  refine x_callS (ν := M_Cl_draw) [vA x1, vI 3] ok_M_Cl_draw oks_M_Cl_draw (qm_3 (i := 179) rfl rfl) np_M_Cl_draw rfl ⟨Nat.le_of_ble_eq_true rfl, Nat.le_of_ble_eq_true rfl⟩ (Nat.le_of_ble_eq_true rfl) rfl d_Cl_drawn_401 (Nat.zero_le _) (Nat.zero_le _) (DI.k h (fun v697 w696 gw696 h => (?_ : WD _ _ 404 _ _ _ _ _ _)))
                  refine x_if_ne 412 d_Cl_drawn_404 rfl ⟨fun c698 => (?_ : WD _ _ 412 _ _ _ _ _ _), fun c698 => (?_ : WD _ _ 407 _ _ _ _ _ _)⟩
                  · replace h := h.1 c698
                    refine x_ldcS (q := 272) (tx := ";") d_Cl_drawn_412 (by decide) (?_ : WD _ _ 414 _ _ _ _ _ _)
                    obtain ⟨a699, e700, h⟩ := h
                    rw [e700]
                    obtain ⟨c701, s702, h703, h704, h⟩ := h
                    obtain ⟨k705, h⟩ := h
                    refine x_callV (ν := M_Sb_append_15ec4) [vA (xa G 272)] ok_M_Sb_append_15ec4 okv_M_Sb_append_15ec4 k705 rfl rfl (qm_3 (i := 235) rfl rfl) np_M_Sb_append_15ec4 rfl ⟨Nat.le_of_ble_eq_true rfl, Nat.le_of_ble_eq_true rfl⟩ (Nat.le_of_ble_eq_true rfl) rfl d_Cl_drawn_414 h703 h704 (DP.k h (fun v707 w706 gw706 h => (?_ : WD _ _ 417 _ _ _ _ _ _)))
                    refine x_pop d_Cl_drawn_417 rfl (?_ : WD _ _ 418 _ _ _ _ _ _)
                    refine x_aload_nP (some x0) d_Cl_drawn_418 rfl (?_ : WD _ _ 419 _ _ _ _ _ _)
                    refine x_getP (ref := "CoinSamplerLaw$Books") (j := 0) 0 ((((((((((((((((((((k61.q gw65.k).q gw411.k).nu fq558).q gw560.k).q gw562.k).q gw564.k).q gw566.k).q gw569.k).q gw572.k).q gw574.k).q gw580.k).q gw587.k).q gw596.k).q gw605.k).q gw614.k).q gw683.k).q gw685.k).q gw694.k).q gw696.k).q gw706.k) clk_11 (by decide) (qm_2 (i := 156) rfl rfl) (Or.inl rfl) rfl rfl d_Cl_drawn_419 (y := (wR w706 x0 0)) rfl (?_ : WD _ _ 422 _ _ _ _ _ _)
                    refine x_aloadP (some q558) d_Cl_drawn_422 rfl (?_ : WD _ _ 424 _ _ _ _ _ _)
                    obtain ⟨a708, e709, h⟩ := h
                    rw [e709]
                    obtain ⟨c710, s711, h712, h713, h⟩ := h
                    obtain ⟨k714, h⟩ := h
                    refine x_callV (ν := M_Al_add_9ea2d) [vA q558] ok_M_Al_add_9ea2d okv_M_Al_add_9ea2d k714 rfl rfl (qm_4 (i := 181) rfl rfl) np_M_Al_add_9ea2d rfl ⟨Nat.le_of_ble_eq_true rfl, Nat.le_of_ble_eq_true rfl⟩ (Nat.le_of_ble_eq_true rfl) rfl d_Cl_drawn_424 h712 h713 (DI.k h (fun v716 w715 gw715 h => (?_ : WD _ _ 427 _ _ _ _ _ _)))
                    refine x_pop d_Cl_drawn_427 rfl (?_ : WD _ _ 428 _ _ _ _ _ _)
                    refine x_goto 82 d_Cl_drawn_428 rfl ?_
                    refine x_pick (ls' := [(0, vA x0), (1, vA x1), (2, vA x2), (3, vI (x3 + (-1))), (4, vI x4)]) [2, 3, 4, 1, 5] rfl ?_
                    exact h
                  · replace h := h.2 c698
                    refine x_ldcS (q := 270) (tx := "; ") d_Cl_drawn_407 (by decide) (?_ : WD _ _ 409 _ _ _ _ _ _)
                    refine x_goto 414 d_Cl_drawn_409 rfl ?_
                    obtain ⟨a717, e718, h⟩ := h
                    rw [e718]
                    obtain ⟨c719, s720, h721, h722, h⟩ := h
                    obtain ⟨k723, h⟩ := h
                    refine x_callV (ν := M_Sb_append_15ec4) [vA (xa G 270)] ok_M_Sb_append_15ec4 okv_M_Sb_append_15ec4 k723 rfl rfl (qm_3 (i := 235) rfl rfl) np_M_Sb_append_15ec4 rfl ⟨Nat.le_of_ble_eq_true rfl, Nat.le_of_ble_eq_true rfl⟩ (Nat.le_of_ble_eq_true rfl) rfl d_Cl_drawn_414 h721 h722 (DP.k h (fun v725 w724 gw724 h => (?_ : WD _ _ 417 _ _ _ _ _ _)))
                    refine x_pop d_Cl_drawn_417 rfl (?_ : WD _ _ 418 _ _ _ _ _ _)
                    refine x_aload_nP (some x0) d_Cl_drawn_418 rfl (?_ : WD _ _ 419 _ _ _ _ _ _)
                    refine x_getP (ref := "CoinSamplerLaw$Books") (j := 0) 0 ((((((((((((((((((((k61.q gw65.k).q gw411.k).nu fq558).q gw560.k).q gw562.k).q gw564.k).q gw566.k).q gw569.k).q gw572.k).q gw574.k).q gw580.k).q gw587.k).q gw596.k).q gw605.k).q gw614.k).q gw683.k).q gw685.k).q gw694.k).q gw696.k).q gw724.k) clk_11 (by decide) (qm_2 (i := 156) rfl rfl) (Or.inl rfl) rfl rfl d_Cl_drawn_419 (y := (wR w724 x0 0)) rfl (?_ : WD _ _ 422 _ _ _ _ _ _)
                    refine x_aloadP (some q558) d_Cl_drawn_422 rfl (?_ : WD _ _ 424 _ _ _ _ _ _)
                    obtain ⟨a726, e727, h⟩ := h
                    rw [e727]
                    obtain ⟨c728, s729, h730, h731, h⟩ := h
                    obtain ⟨k732, h⟩ := h
                    refine x_callV (ν := M_Al_add_9ea2d) [vA q558] ok_M_Al_add_9ea2d okv_M_Al_add_9ea2d k732 rfl rfl (qm_4 (i := 181) rfl rfl) np_M_Al_add_9ea2d rfl ⟨Nat.le_of_ble_eq_true rfl, Nat.le_of_ble_eq_true rfl⟩ (Nat.le_of_ble_eq_true rfl) rfl d_Cl_drawn_424 h730 h731 (DI.k h (fun v734 w733 gw733 h => (?_ : WD _ _ 427 _ _ _ _ _ _)))
                    refine x_pop d_Cl_drawn_427 rfl (?_ : WD _ _ 428 _ _ _ _ _ _)
                    refine x_goto 82 d_Cl_drawn_428 rfl ?_
                    refine x_pick (ls' := [(0, vA x0), (1, vA x1), (2, vA x2), (3, vI (x3 + (-1))), (4, vI x4)]) [2, 3, 4, 1, 5] rfl ?_
                    exact h
              · replace h := h.2 c582
                refine x_goto 82 d_Cl_drawn_340 rfl ?_
                refine x_pick (ls' := [(0, vA x0), (1, vA x1), (2, vA x2), (3, vI (x3 + (-1))), (4, vI x4)]) [2, 3, 4, 1, 5] rfl ?_
                exact h
          · replace h := h.2 c568
            refine x_aload_nP (some x1) d_Cl_drawn_286 rfl (?_ : WD _ _ 287 _ _ _ _ _ _)
            refine x_bipush d_Cl_drawn_287 (by decide) (by decide) (?_ : WD _ _ 289 _ _ _ _ _ _)
            refine x_callS (ν := M_Cl_draw) [vA x1, vI 50] ok_M_Cl_draw oks_M_Cl_draw (qm_3 (i := 179) rfl rfl) np_M_Cl_draw rfl ⟨Nat.le_of_ble_eq_true rfl, Nat.le_of_ble_eq_true rfl⟩ (Nat.le_of_ble_eq_true rfl) rfl d_Cl_drawn_289 (Nat.zero_le _) (Nat.zero_le _) (DI.k h (fun v736 w735 gw735 h => (?_ : WD _ _ 292 _ _ _ _ _ _)))
            obtain ⟨h737, h⟩ := h
            refine x_ineg d_Cl_drawn_292 h737 (?_ : WD _ _ 293 _ _ _ _ _ _)
            refine x_goto 308 d_Cl_drawn_293 rfl ?_
            refine x_putI (ref := "CoinSamplerLaw$Item") (j := 2) 2 (((((k559.q gw560.k).q gw562.k).q gw564.k).q gw566.k).q gw735.k) clk_13 (by decide) (qm_4 (i := 157) rfl rfl) (Or.inl rfl) (Or.inl rfl) tyX13_ok rfl nmX13 d_Cl_drawn_308 rfl rfl (fun _ => rfl) rfl (?_ : WD _ _ 311 _ _ _ _ _ _)
            refine x_aload_nP (some x0) d_Cl_drawn_311 rfl (?_ : WD _ _ 312 _ _ _ _ _ _)
            refine x_aloadP (some q558) d_Cl_drawn_312 rfl (?_ : WD _ _ 314 _ _ _ _ _ _)
            refine x_getI (ref := "CoinSamplerLaw$Item") (j := 0) 0 (((((k559.q gw560.k).q gw562.k).q gw564.k).q gw566.k).q gw735.k).is clk_13 (by decide) (qm_4 (i := 151) rfl rfl) (Or.inl rfl) rfl rfl d_Cl_drawn_314 (y := (wI w735 q558 0)) (wI_uI_j (by decide)) (?_ : WD _ _ 317 _ _ _ _ _ _)
            refine x_aloadP (some q558) d_Cl_drawn_317 rfl (?_ : WD _ _ 319 _ _ _ _ _ _)
            refine x_getI (ref := "CoinSamplerLaw$Item") (j := 1) 1 (((((k559.q gw560.k).q gw562.k).q gw564.k).q gw566.k).q gw735.k).is clk_13 (by decide) (qm_4 (i := 153) rfl rfl) (Or.inl rfl) rfl rfl d_Cl_drawn_319 (y := (wI w735 q558 1)) (wI_uI_j (by decide)) (?_ : WD _ _ 322 _ _ _ _ _ _)
            refine x_callV (ν := M_Bo_find) [vI (wI w735 q558 0), vI (wI w735 q558 1)] ok_M_Bo_find okv_M_Bo_find ((((((((k61.q gw65.k).q gw411.k).nu fq558).q gw560.k).q gw562.k).q gw564.k).q gw566.k).q gw735.k) rfl rfl (qm_4 (i := 169) rfl rfl) np_M_Bo_find rfl ⟨Nat.le_of_ble_eq_true rfl, Nat.le_of_ble_eq_true rfl⟩ (Nat.le_of_ble_eq_true rfl) rfl d_Cl_drawn_322 (Nat.zero_le _) (Nat.zero_le _) (DI.k h (fun v739 w738 gw738 h => (?_ : WD _ _ 325 _ _ _ _ _ _)))
            refine x_if_ge 82 d_Cl_drawn_325 rfl ⟨fun c740 => (?_ : WD _ _ 82 _ _ _ _ _ _), fun c740 => (?_ : WD _ _ 328 _ _ _ _ _ _)⟩
            · replace h := h.1 c740
              refine x_pick (ls' := [(0, vA x0), (1, vA x1), (2, vA x2), (3, vI (x3 + (-1))), (4, vI x4)]) [2, 3, 4, 1, 5] rfl ?_
              exact h
            · replace h := h.2 c740
              refine x_aload_nP (some x0) d_Cl_drawn_328 rfl (?_ : WD _ _ 329 _ _ _ _ _ _)
              refine x_getP (ref := "CoinSamplerLaw$Books") (j := 0) 0 (((((((((k61.q gw65.k).q gw411.k).nu fq558).q gw560.k).q gw562.k).q gw564.k).q gw566.k).q gw735.k).q gw738.k) clk_11 (by decide) (qm_2 (i := 156) rfl rfl) (Or.inl rfl) rfl rfl d_Cl_drawn_329 (y := (wR w738 x0 0)) rfl (?_ : WD _ _ 332 _ _ _ _ _ _)
              obtain ⟨a741, e742, h⟩ := h
              rw [e742]
              obtain ⟨k743, h⟩ := h
              refine x_callV (ν := M_Al_size) [] ok_M_Al_size okv_M_Al_size k743 rfl rfl (qm_3 (i := 178) rfl rfl) np_M_Al_size rfl ⟨Nat.le_of_ble_eq_true rfl, Nat.le_of_ble_eq_true rfl⟩ (Nat.le_of_ble_eq_true rfl) rfl d_Cl_drawn_332 (Nat.zero_le _) (Nat.zero_le _) (DI.k h (fun v745 w744 gw744 h => (?_ : WD _ _ 335 _ _ _ _ _ _)))
              refine x_bipush d_Cl_drawn_335 (by decide) (by decide) (?_ : WD _ _ 337 _ _ _ _ _ _)
              refine x_icmp_ne 343 d_Cl_drawn_337 rfl ⟨fun c746 => (?_ : WD _ _ 343 _ _ _ _ _ _), fun c746 => (?_ : WD _ _ 340 _ _ _ _ _ _)⟩
              · replace h := h.1 c746
                refine x_aload_nP (some x2) d_Cl_drawn_343 rfl (?_ : WD _ _ 344 _ _ _ _ _ _)
                refine x_ldcS (q := 264) (tx := "item") d_Cl_drawn_344 (by decide) (?_ : WD _ _ 346 _ _ _ _ _ _)
                obtain ⟨c747, s748, h749, h750, h⟩ := h
                refine x_callV (ν := M_Sb_append_15ec4) [vA (xa G 264)] ok_M_Sb_append_15ec4 okv_M_Sb_append_15ec4 (((((((((((k51.q gw52.k).q gw65.k).q gw411.k).nu fq558).q gw560.k).q gw562.k).q gw564.k).q gw566.k).q gw735.k).q gw738.k).q gw744.k) rfl rfl (qm_3 (i := 235) rfl rfl) np_M_Sb_append_15ec4 rfl ⟨Nat.le_of_ble_eq_true rfl, Nat.le_of_ble_eq_true rfl⟩ (Nat.le_of_ble_eq_true rfl) rfl d_Cl_drawn_346 h749 h750 (DP.k h (fun v752 w751 gw751 h => (?_ : WD _ _ 349 _ _ _ _ _ _)))
                refine x_aloadP (some q558) d_Cl_drawn_349 rfl (?_ : WD _ _ 351 _ _ _ _ _ _)
                refine x_getI (ref := "CoinSamplerLaw$Item") (j := 0) 0 ((((((((k559.q gw560.k).q gw562.k).q gw564.k).q gw566.k).q gw735.k).q gw738.k).q gw744.k).q gw751.k).is clk_13 (by decide) (qm_4 (i := 151) rfl rfl) (Or.inl rfl) rfl rfl d_Cl_drawn_351 (y := (wI w751 q558 0)) rfl (?_ : WD _ _ 354 _ _ _ _ _ _)
                obtain ⟨a753, e754, h⟩ := h
                rw [e754]
                obtain ⟨c755, s756, h757, h758, h⟩ := h
                obtain ⟨k759, h⟩ := h
                refine x_callV (ν := M_Sb_append_bf812) [vI (wI w751 q558 0)] ok_M_Sb_append_bf812 okv_M_Sb_append_bf812 k759 rfl rfl (qm_4 (i := 100) rfl rfl) np_M_Sb_append_bf812 rfl ⟨Nat.le_of_ble_eq_true rfl, Nat.le_of_ble_eq_true rfl⟩ (Nat.le_of_ble_eq_true rfl) rfl d_Cl_drawn_354 h757 h758 (DP.k h (fun v761 w760 gw760 h => (?_ : WD _ _ 357 _ _ _ _ _ _)))
                refine x_bipush d_Cl_drawn_357 (by decide) (by decide) (?_ : WD _ _ 359 _ _ _ _ _ _)
                obtain ⟨a762, e763, h⟩ := h
                rw [e763]
                obtain ⟨c764, s765, h766, h767, h⟩ := h
                obtain ⟨k768, h⟩ := h
                refine x_callV (ν := M_Sb_append_cf468) [vI 32] ok_M_Sb_append_cf468 okv_M_Sb_append_cf468 k768 rfl rfl (qm_4 (i := 125) rfl rfl) np_M_Sb_append_cf468 rfl ⟨Nat.le_of_ble_eq_true rfl, Nat.le_of_ble_eq_true rfl⟩ (Nat.le_of_ble_eq_true rfl) rfl d_Cl_drawn_359 h766 h767 (DP.k h (fun v770 w769 gw769 h => (?_ : WD _ _ 362 _ _ _ _ _ _)))
                refine x_aloadP (some q558) d_Cl_drawn_362 rfl (?_ : WD _ _ 364 _ _ _ _ _ _)
                refine x_getI (ref := "CoinSamplerLaw$Item") (j := 1) 1 ((((((((((k559.q gw560.k).q gw562.k).q gw564.k).q gw566.k).q gw735.k).q gw738.k).q gw744.k).q gw751.k).q gw760.k).q gw769.k).is clk_13 (by decide) (qm_4 (i := 153) rfl rfl) (Or.inl rfl) rfl rfl d_Cl_drawn_364 (y := (wI w769 q558 1)) rfl (?_ : WD _ _ 367 _ _ _ _ _ _)
                obtain ⟨a771, e772, h⟩ := h
                rw [e772]
                obtain ⟨c773, s774, h775, h776, h⟩ := h
                obtain ⟨k777, h⟩ := h
                refine x_callV (ν := M_Sb_append_bf812) [vI (wI w769 q558 1)] ok_M_Sb_append_bf812 okv_M_Sb_append_bf812 k777 rfl rfl (qm_4 (i := 100) rfl rfl) np_M_Sb_append_bf812 rfl ⟨Nat.le_of_ble_eq_true rfl, Nat.le_of_ble_eq_true rfl⟩ (Nat.le_of_ble_eq_true rfl) rfl d_Cl_drawn_367 h775 h776 (DP.k h (fun v779 w778 gw778 h => (?_ : WD _ _ 370 _ _ _ _ _ _)))
                refine x_aloadP (some q558) d_Cl_drawn_370 rfl (?_ : WD _ _ 372 _ _ _ _ _ _)
                refine x_getI (ref := "CoinSamplerLaw$Item") (j := 2) 2 (((((((((((k559.q gw560.k).q gw562.k).q gw564.k).q gw566.k).q gw735.k).q gw738.k).q gw744.k).q gw751.k).q gw760.k).q gw769.k).q gw778.k).is clk_13 (by decide) (qm_4 (i := 157) rfl rfl) (Or.inl rfl) rfl rfl d_Cl_drawn_372 (y := (wI w778 q558 2)) rfl (?_ : WD _ _ 375 _ _ _ _ _ _)
                refine x_if_ge 383 d_Cl_drawn_375 rfl ⟨fun c780 => (?_ : WD _ _ 383 _ _ _ _ _ _), fun c780 => (?_ : WD _ _ 378 _ _ _ _ _ _)⟩
                · replace h := h.1 c780
                  refine x_ldcS (q := 268) (tx := " ") d_Cl_drawn_383 (by decide) (?_ : WD _ _ 385 _ _ _ _ _ _)
                  obtain ⟨a781, e782, h⟩ := h
                  rw [e782]
                  obtain ⟨c783, s784, h785, h786, h⟩ := h
                  obtain ⟨k787, h⟩ := h
                  refine x_callV (ν := M_Sb_append_15ec4) [vA (xa G 268)] ok_M_Sb_append_15ec4 okv_M_Sb_append_15ec4 k787 rfl rfl (qm_3 (i := 235) rfl rfl) np_M_Sb_append_15ec4 rfl ⟨Nat.le_of_ble_eq_true rfl, Nat.le_of_ble_eq_true rfl⟩ (Nat.le_of_ble_eq_true rfl) rfl d_Cl_drawn_385 h785 h786 (DP.k h (fun v789 w788 gw788 h => (?_ : WD _ _ 388 _ _ _ _ _ _)))
                  refine x_aloadP (some q558) d_Cl_drawn_388 rfl (?_ : WD _ _ 390 _ _ _ _ _ _)
                  refine x_getI (ref := "CoinSamplerLaw$Item") (j := 2) 2 ((((((((((((k559.q gw560.k).q gw562.k).q gw564.k).q gw566.k).q gw735.k).q gw738.k).q gw744.k).q gw751.k).q gw760.k).q gw769.k).q gw778.k).q gw788.k).is clk_13 (by decide) (qm_4 (i := 157) rfl rfl) (Or.inl rfl) rfl rfl d_Cl_drawn_390 (y := (wI w788 q558 2)) rfl (?_ : WD _ _ 393 _ _ _ _ _ _)
                  refine x_callS (ν := M_Ma_abs) [vI (wI w788 q558 2)] ok_M_Ma_abs oks_M_Ma_abs (qm_4 (i := 176) rfl rfl) np_M_Ma_abs rfl ⟨Nat.le_of_ble_eq_true rfl, Nat.le_of_ble_eq_true rfl⟩ (Nat.le_of_ble_eq_true rfl) rfl d_Cl_drawn_393 (Nat.zero_le _) (Nat.zero_le _) (DI.k h (fun v791 w790 gw790 h => (?_ : WD _ _ 396 _ _ _ _ _ _)))
                  obtain ⟨a792, e793, h⟩ := h
                  rw [e793]
                  obtain ⟨c794, s795, h796, h797, h⟩ := h
                  obtain ⟨k798, h⟩ := h
                  refine x_callV (ν := M_Sb_append_bf812) [vI v791] ok_M_Sb_append_bf812 okv_M_Sb_append_bf812 k798 rfl rfl (qm_4 (i := 100) rfl rfl) np_M_Sb_append_bf812 rfl ⟨Nat.le_of_ble_eq_true rfl, Nat.le_of_ble_eq_true rfl⟩ (Nat.le_of_ble_eq_true rfl) rfl d_Cl_drawn_396 h796 h797 (DP.k h (fun v800 w799 gw799 h => (?_ : WD _ _ 399 _ _ _ _ _ _)))
                  refine x_aload_nP (some x1) d_Cl_drawn_399 rfl (?_ : WD _ _ 400 _ _ _ _ _ _)
                  refine x_iconst d_Cl_drawn_400 (by decide) (?_ : WD _ _ 401 _ _ _ _ _ _)
                  refine x_callS (ν := M_Cl_draw) [vA x1, vI 3] ok_M_Cl_draw oks_M_Cl_draw (qm_3 (i := 179) rfl rfl) np_M_Cl_draw rfl ⟨Nat.le_of_ble_eq_true rfl, Nat.le_of_ble_eq_true rfl⟩ (Nat.le_of_ble_eq_true rfl) rfl d_Cl_drawn_401 (Nat.zero_le _) (Nat.zero_le _) (DI.k h (fun v802 w801 gw801 h => (?_ : WD _ _ 404 _ _ _ _ _ _)))
                  refine x_if_ne 412 d_Cl_drawn_404 rfl ⟨fun c803 => (?_ : WD _ _ 412 _ _ _ _ _ _), fun c803 => (?_ : WD _ _ 407 _ _ _ _ _ _)⟩
                  · replace h := h.1 c803
                    refine x_ldcS (q := 272) (tx := ";") d_Cl_drawn_412 (by decide) (?_ : WD _ _ 414 _ _ _ _ _ _)
                    obtain ⟨a804, e805, h⟩ := h
                    rw [e805]
                    obtain ⟨c806, s807, h808, h809, h⟩ := h
                    obtain ⟨k810, h⟩ := h
                    refine x_callV (ν := M_Sb_append_15ec4) [vA (xa G 272)] ok_M_Sb_append_15ec4 okv_M_Sb_append_15ec4 k810 rfl rfl (qm_3 (i := 235) rfl rfl) np_M_Sb_append_15ec4 rfl ⟨Nat.le_of_ble_eq_true rfl, Nat.le_of_ble_eq_true rfl⟩ (Nat.le_of_ble_eq_true rfl) rfl d_Cl_drawn_414 h808 h809 (DP.k h (fun v812 w811 gw811 h => (?_ : WD _ _ 417 _ _ _ _ _ _)))
                    refine x_pop d_Cl_drawn_417 rfl (?_ : WD _ _ 418 _ _ _ _ _ _)
                    refine x_aload_nP (some x0) d_Cl_drawn_418 rfl (?_ : WD _ _ 419 _ _ _ _ _ _)
                    refine x_getP (ref := "CoinSamplerLaw$Books") (j := 0) 0 (((((((((((((((((((k61.q gw65.k).q gw411.k).nu fq558).q gw560.k).q gw562.k).q gw564.k).q gw566.k).q gw735.k).q gw738.k).q gw744.k).q gw751.k).q gw760.k).q gw769.k).q gw778.k).q gw788.k).q gw790.k).q gw799.k).q gw801.k).q gw811.k) clk_11 (by decide) (qm_2 (i := 156) rfl rfl) (Or.inl rfl) rfl rfl d_Cl_drawn_419 (y := (wR w811 x0 0)) rfl (?_ : WD _ _ 422 _ _ _ _ _ _)
                    refine x_aloadP (some q558) d_Cl_drawn_422 rfl (?_ : WD _ _ 424 _ _ _ _ _ _)
                    obtain ⟨a813, e814, h⟩ := h
                    rw [e814]
                    obtain ⟨c815, s816, h817, h818, h⟩ := h
                    obtain ⟨k819, h⟩ := h
                    refine x_callV (ν := M_Al_add_9ea2d) [vA q558] ok_M_Al_add_9ea2d okv_M_Al_add_9ea2d k819 rfl rfl (qm_4 (i := 181) rfl rfl) np_M_Al_add_9ea2d rfl ⟨Nat.le_of_ble_eq_true rfl, Nat.le_of_ble_eq_true rfl⟩ (Nat.le_of_ble_eq_true rfl) rfl d_Cl_drawn_424 h817 h818 (DI.k h (fun v821 w820 gw820 h => (?_ : WD _ _ 427 _ _ _ _ _ _)))
                    refine x_pop d_Cl_drawn_427 rfl (?_ : WD _ _ 428 _ _ _ _ _ _)
                    refine x_goto 82 d_Cl_drawn_428 rfl ?_
                    refine x_pick (ls' := [(0, vA x0), (1, vA x1), (2, vA x2), (3, vI (x3 + (-1))), (4, vI x4)]) [2, 3, 4, 1, 5] rfl ?_
                    exact h
                  · replace h := h.2 c803
                    refine x_ldcS (q := 270) (tx := "; ") d_Cl_drawn_407 (by decide) (?_ : WD _ _ 409 _ _ _ _ _ _)
                    refine x_goto 414 d_Cl_drawn_409 rfl ?_
                    obtain ⟨a822, e823, h⟩ := h
                    rw [e823]
                    obtain ⟨c824, s825, h826, h827, h⟩ := h
                    obtain ⟨k828, h⟩ := h
                    refine x_callV (ν := M_Sb_append_15ec4) [vA (xa G 270)] ok_M_Sb_append_15ec4 okv_M_Sb_append_15ec4 k828 rfl rfl (qm_3 (i := 235) rfl rfl) np_M_Sb_append_15ec4 rfl ⟨Nat.le_of_ble_eq_true rfl, Nat.le_of_ble_eq_true rfl⟩ (Nat.le_of_ble_eq_true rfl) rfl d_Cl_drawn_414 h826 h827 (DP.k h (fun v830 w829 gw829 h => (?_ : WD _ _ 417 _ _ _ _ _ _)))
                    refine x_pop d_Cl_drawn_417 rfl (?_ : WD _ _ 418 _ _ _ _ _ _)
                    refine x_aload_nP (some x0) d_Cl_drawn_418 rfl (?_ : WD _ _ 419 _ _ _ _ _ _)
                    refine x_getP (ref := "CoinSamplerLaw$Books") (j := 0) 0 (((((((((((((((((((k61.q gw65.k).q gw411.k).nu fq558).q gw560.k).q gw562.k).q gw564.k).q gw566.k).q gw735.k).q gw738.k).q gw744.k).q gw751.k).q gw760.k).q gw769.k).q gw778.k).q gw788.k).q gw790.k).q gw799.k).q gw801.k).q gw829.k) clk_11 (by decide) (qm_2 (i := 156) rfl rfl) (Or.inl rfl) rfl rfl d_Cl_drawn_419 (y := (wR w829 x0 0)) rfl (?_ : WD _ _ 422 _ _ _ _ _ _)
                    refine x_aloadP (some q558) d_Cl_drawn_422 rfl (?_ : WD _ _ 424 _ _ _ _ _ _)
                    obtain ⟨a831, e832, h⟩ := h
                    rw [e832]
                    obtain ⟨c833, s834, h835, h836, h⟩ := h
                    obtain ⟨k837, h⟩ := h
                    refine x_callV (ν := M_Al_add_9ea2d) [vA q558] ok_M_Al_add_9ea2d okv_M_Al_add_9ea2d k837 rfl rfl (qm_4 (i := 181) rfl rfl) np_M_Al_add_9ea2d rfl ⟨Nat.le_of_ble_eq_true rfl, Nat.le_of_ble_eq_true rfl⟩ (Nat.le_of_ble_eq_true rfl) rfl d_Cl_drawn_424 h835 h836 (DI.k h (fun v839 w838 gw838 h => (?_ : WD _ _ 427 _ _ _ _ _ _)))
                    refine x_pop d_Cl_drawn_427 rfl (?_ : WD _ _ 428 _ _ _ _ _ _)
                    refine x_goto 82 d_Cl_drawn_428 rfl ?_
                    refine x_pick (ls' := [(0, vA x0), (1, vA x1), (2, vA x2), (3, vI (x3 + (-1))), (4, vI x4)]) [2, 3, 4, 1, 5] rfl ?_
                    exact h
                · replace h := h.2 c780
                  refine x_ldcS (q := 266) (tx := " - ") d_Cl_drawn_378 (by decide) (?_ : WD _ _ 380 _ _ _ _ _ _)
                  refine x_goto 385 d_Cl_drawn_380 rfl ?_
                  obtain ⟨a840, e841, h⟩ := h
                  rw [e841]
                  obtain ⟨c842, s843, h844, h845, h⟩ := h
                  obtain ⟨k846, h⟩ := h
                  refine x_callV (ν := M_Sb_append_15ec4) [vA (xa G 266)] ok_M_Sb_append_15ec4 okv_M_Sb_append_15ec4 k846 rfl rfl (qm_3 (i := 235) rfl rfl) np_M_Sb_append_15ec4 rfl ⟨Nat.le_of_ble_eq_true rfl, Nat.le_of_ble_eq_true rfl⟩ (Nat.le_of_ble_eq_true rfl) rfl d_Cl_drawn_385 h844 h845 (DP.k h (fun v848 w847 gw847 h => (?_ : WD _ _ 388 _ _ _ _ _ _)))
                  refine x_aloadP (some q558) d_Cl_drawn_388 rfl (?_ : WD _ _ 390 _ _ _ _ _ _)
                  refine x_getI (ref := "CoinSamplerLaw$Item") (j := 2) 2 ((((((((((((k559.q gw560.k).q gw562.k).q gw564.k).q gw566.k).q gw735.k).q gw738.k).q gw744.k).q gw751.k).q gw760.k).q gw769.k).q gw778.k).q gw847.k).is clk_13 (by decide) (qm_4 (i := 157) rfl rfl) (Or.inl rfl) rfl rfl d_Cl_drawn_390 (y := (wI w847 q558 2)) rfl (?_ : WD _ _ 393 _ _ _ _ _ _)
                  refine x_callS (ν := M_Ma_abs) [vI (wI w847 q558 2)] ok_M_Ma_abs oks_M_Ma_abs (qm_4 (i := 176) rfl rfl) np_M_Ma_abs rfl ⟨Nat.le_of_ble_eq_true rfl, Nat.le_of_ble_eq_true rfl⟩ (Nat.le_of_ble_eq_true rfl) rfl d_Cl_drawn_393 (Nat.zero_le _) (Nat.zero_le _) (DI.k h (fun v850 w849 gw849 h => (?_ : WD _ _ 396 _ _ _ _ _ _)))
                  obtain ⟨a851, e852, h⟩ := h
                  rw [e852]
                  obtain ⟨c853, s854, h855, h856, h⟩ := h
                  obtain ⟨k857, h⟩ := h
                  refine x_callV (ν := M_Sb_append_bf812) [vI v850] ok_M_Sb_append_bf812 okv_M_Sb_append_bf812 k857 rfl rfl (qm_4 (i := 100) rfl rfl) np_M_Sb_append_bf812 rfl ⟨Nat.le_of_ble_eq_true rfl, Nat.le_of_ble_eq_true rfl⟩ (Nat.le_of_ble_eq_true rfl) rfl d_Cl_drawn_396 h855 h856 (DP.k h (fun v859 w858 gw858 h => (?_ : WD _ _ 399 _ _ _ _ _ _)))
                  refine x_aload_nP (some x1) d_Cl_drawn_399 rfl (?_ : WD _ _ 400 _ _ _ _ _ _)
                  refine x_iconst d_Cl_drawn_400 (by decide) (?_ : WD _ _ 401 _ _ _ _ _ _)
                  refine x_callS (ν := M_Cl_draw) [vA x1, vI 3] ok_M_Cl_draw oks_M_Cl_draw (qm_3 (i := 179) rfl rfl) np_M_Cl_draw rfl ⟨Nat.le_of_ble_eq_true rfl, Nat.le_of_ble_eq_true rfl⟩ (Nat.le_of_ble_eq_true rfl) rfl d_Cl_drawn_401 (Nat.zero_le _) (Nat.zero_le _) (DI.k h (fun v861 w860 gw860 h => (?_ : WD _ _ 404 _ _ _ _ _ _)))
                  refine x_if_ne 412 d_Cl_drawn_404 rfl ⟨fun c862 => (?_ : WD _ _ 412 _ _ _ _ _ _), fun c862 => (?_ : WD _ _ 407 _ _ _ _ _ _)⟩
                  · replace h := h.1 c862
                    refine x_ldcS (q := 272) (tx := ";") d_Cl_drawn_412 (by decide) (?_ : WD _ _ 414 _ _ _ _ _ _)
                    obtain ⟨a863, e864, h⟩ := h
                    rw [e864]
                    obtain ⟨c865, s866, h867, h868, h⟩ := h
                    obtain ⟨k869, h⟩ := h
                    refine x_callV (ν := M_Sb_append_15ec4) [vA (xa G 272)] ok_M_Sb_append_15ec4 okv_M_Sb_append_15ec4 k869 rfl rfl (qm_3 (i := 235) rfl rfl) np_M_Sb_append_15ec4 rfl ⟨Nat.le_of_ble_eq_true rfl, Nat.le_of_ble_eq_true rfl⟩ (Nat.le_of_ble_eq_true rfl) rfl d_Cl_drawn_414 h867 h868 (DP.k h (fun v871 w870 gw870 h => (?_ : WD _ _ 417 _ _ _ _ _ _)))
                    refine x_pop d_Cl_drawn_417 rfl (?_ : WD _ _ 418 _ _ _ _ _ _)
                    refine x_aload_nP (some x0) d_Cl_drawn_418 rfl (?_ : WD _ _ 419 _ _ _ _ _ _)
                    refine x_getP (ref := "CoinSamplerLaw$Books") (j := 0) 0 (((((((((((((((((((k61.q gw65.k).q gw411.k).nu fq558).q gw560.k).q gw562.k).q gw564.k).q gw566.k).q gw735.k).q gw738.k).q gw744.k).q gw751.k).q gw760.k).q gw769.k).q gw778.k).q gw847.k).q gw849.k).q gw858.k).q gw860.k).q gw870.k) clk_11 (by decide) (qm_2 (i := 156) rfl rfl) (Or.inl rfl) rfl rfl d_Cl_drawn_419 (y := (wR w870 x0 0)) rfl (?_ : WD _ _ 422 _ _ _ _ _ _)
                    refine x_aloadP (some q558) d_Cl_drawn_422 rfl (?_ : WD _ _ 424 _ _ _ _ _ _)
                    obtain ⟨a872, e873, h⟩ := h
                    rw [e873]
                    obtain ⟨c874, s875, h876, h877, h⟩ := h
                    obtain ⟨k878, h⟩ := h
                    refine x_callV (ν := M_Al_add_9ea2d) [vA q558] ok_M_Al_add_9ea2d okv_M_Al_add_9ea2d k878 rfl rfl (qm_4 (i := 181) rfl rfl) np_M_Al_add_9ea2d rfl ⟨Nat.le_of_ble_eq_true rfl, Nat.le_of_ble_eq_true rfl⟩ (Nat.le_of_ble_eq_true rfl) rfl d_Cl_drawn_424 h876 h877 (DI.k h (fun v880 w879 gw879 h => (?_ : WD _ _ 427 _ _ _ _ _ _)))
                    refine x_pop d_Cl_drawn_427 rfl (?_ : WD _ _ 428 _ _ _ _ _ _)
                    refine x_goto 82 d_Cl_drawn_428 rfl ?_
                    refine x_pick (ls' := [(0, vA x0), (1, vA x1), (2, vA x2), (3, vI (x3 + (-1))), (4, vI x4)]) [2, 3, 4, 1, 5] rfl ?_
                    exact h
                  · replace h := h.2 c862
                    refine x_ldcS (q := 270) (tx := "; ") d_Cl_drawn_407 (by decide) (?_ : WD _ _ 409 _ _ _ _ _ _)
                    refine x_goto 414 d_Cl_drawn_409 rfl ?_
                    obtain ⟨a881, e882, h⟩ := h
                    rw [e882]
                    obtain ⟨c883, s884, h885, h886, h⟩ := h
                    obtain ⟨k887, h⟩ := h
                    refine x_callV (ν := M_Sb_append_15ec4) [vA (xa G 270)] ok_M_Sb_append_15ec4 okv_M_Sb_append_15ec4 k887 rfl rfl (qm_3 (i := 235) rfl rfl) np_M_Sb_append_15ec4 rfl ⟨Nat.le_of_ble_eq_true rfl, Nat.le_of_ble_eq_true rfl⟩ (Nat.le_of_ble_eq_true rfl) rfl d_Cl_drawn_414 h885 h886 (DP.k h (fun v889 w888 gw888 h => (?_ : WD _ _ 417 _ _ _ _ _ _)))
                    refine x_pop d_Cl_drawn_417 rfl (?_ : WD _ _ 418 _ _ _ _ _ _)
                    refine x_aload_nP (some x0) d_Cl_drawn_418 rfl (?_ : WD _ _ 419 _ _ _ _ _ _)
                    refine x_getP (ref := "CoinSamplerLaw$Books") (j := 0) 0 (((((((((((((((((((k61.q gw65.k).q gw411.k).nu fq558).q gw560.k).q gw562.k).q gw564.k).q gw566.k).q gw735.k).q gw738.k).q gw744.k).q gw751.k).q gw760.k).q gw769.k).q gw778.k).q gw847.k).q gw849.k).q gw858.k).q gw860.k).q gw888.k) clk_11 (by decide) (qm_2 (i := 156) rfl rfl) (Or.inl rfl) rfl rfl d_Cl_drawn_419 (y := (wR w888 x0 0)) rfl (?_ : WD _ _ 422 _ _ _ _ _ _)
                    refine x_aloadP (some q558) d_Cl_drawn_422 rfl (?_ : WD _ _ 424 _ _ _ _ _ _)
                    obtain ⟨a890, e891, h⟩ := h
                    rw [e891]
                    obtain ⟨c892, s893, h894, h895, h⟩ := h
                    obtain ⟨k896, h⟩ := h
                    refine x_callV (ν := M_Al_add_9ea2d) [vA q558] ok_M_Al_add_9ea2d okv_M_Al_add_9ea2d k896 rfl rfl (qm_4 (i := 181) rfl rfl) np_M_Al_add_9ea2d rfl ⟨Nat.le_of_ble_eq_true rfl, Nat.le_of_ble_eq_true rfl⟩ (Nat.le_of_ble_eq_true rfl) rfl d_Cl_drawn_424 h894 h895 (DI.k h (fun v898 w897 gw897 h => (?_ : WD _ _ 427 _ _ _ _ _ _)))
                    refine x_pop d_Cl_drawn_427 rfl (?_ : WD _ _ 428 _ _ _ _ _ _)
                    refine x_goto 82 d_Cl_drawn_428 rfl ?_
                    refine x_pick (ls' := [(0, vA x0), (1, vA x1), (2, vA x2), (3, vI (x3 + (-1))), (4, vI x4)]) [2, 3, 4, 1, 5] rfl ?_
                    exact h
              · replace h := h.2 c746
                refine x_goto 82 d_Cl_drawn_340 rfl ?_
                refine x_pick (ls' := [(0, vA x0), (1, vA x1), (2, vA x2), (3, vI (x3 + (-1))), (4, vI x4)]) [2, 3, 4, 1, 5] rfl ?_
                exact h
set_option maxRecDepth 20000 in
theorem e_Cl_feeds {G : Gq} {K : Int → Wd → Prop} {w : Wd} {mc ms : Nat} (x1 : Nat) (h : WD G M_Cl_feeds 2 [(0, vR 0), (1, vA x1), (2, vI 0)] [] w mc ms (yI K)) : DI G M_Cl_feeds [vR 0, vA x1] w mc ms K := by
  refine DC.of ok_M_Cl_feeds (ls := [(0, vR 0), (1, vA x1)]) rfl (Nat.le_of_ble_eq_true rfl) ?_
  refine x_iconst d_Cl_feeds_0 (by decide) (?_ : WD _ _ 1 _ _ _ _ _ _)
  refine x_istore_n (ls' := [(2, vI 0), (0, vR 0), (1, vA x1)]) d_Cl_feeds_1 rfl (by decide) rfl (?_ : WD _ _ 2 _ _ _ _ _ _)
  refine x_pick (ls' := [(0, vR 0), (1, vA x1), (2, vI 0)]) [1, 2, 0] rfl ?_
  exact h
set_option maxRecDepth 20000 in
theorem l_Cl_feeds_1 {G : Gq} {K : Int → Wd → Prop} {w : Wd} {rc rs : Nat} (x1 : Nat) (x2 : Int) (h : (Is G w x1 (kO 18)) ∧ DI G M_Sg_length [vA x1] w 0 0 (fun v3 w2 => (v3 ≤ x2 → DI G M_Sg_length [vA x1] w2 0 0 (fun v6 w5 => K v6 w5)) ∧ (¬ v3 ≤ x2 → (1 ≤ rc) ∧ (5 ≤ rs) ∧ ∀ q9 : Nat, Fr G w2 q9 → (WD G M_Cl_feeds 17 [(0, vR 0), (1, vA x1), (2, vI x2), (3, vA q9), (4, vI 0)] [] (uN w2 q9 (kA 0 5)) (rc - 1) (rs - 5) (yI K))))) : WD G M_Cl_feeds 2 [(0, vR 0), (1, vA x1), (2, vI x2)] [] w rc rs (yI K) := by
  refine x_iload_n d_Cl_feeds_2 rfl (?_ : WD _ _ 3 _ _ _ _ _ _)
  refine x_aload_nP (some x1) d_Cl_feeds_3 rfl (?_ : WD _ _ 4 _ _ _ _ _ _)
  obtain ⟨k1, h⟩ := h
  refine x_callV (ν := M_Sg_length) [] ok_M_Sg_length okv_M_Sg_length k1 rfl rfl (qm_5 (i := 115) rfl rfl) np_M_Sg_length rfl ⟨Nat.le_of_ble_eq_true rfl, Nat.le_of_ble_eq_true rfl⟩ (Nat.le_of_ble_eq_true rfl) rfl d_Cl_feeds_4 (Nat.zero_le _) (Nat.zero_le _) (DI.k h (fun v3 w2 gw2 h => (?_ : WD _ _ 7 _ _ _ _ _ _)))
  refine x_icmp_ge 96 d_Cl_feeds_7 rfl ⟨fun c4 => (?_ : WD _ _ 96 _ _ _ _ _ _), fun c4 => (?_ : WD _ _ 10 _ _ _ _ _ _)⟩
  · replace h := h.1 c4
    refine x_aload_nP (some x1) d_Cl_feeds_96 rfl (?_ : WD _ _ 97 _ _ _ _ _ _)
    refine x_callV (ν := M_Sg_length) [] ok_M_Sg_length okv_M_Sg_length (k1.q gw2.k) rfl rfl (qm_5 (i := 115) rfl rfl) np_M_Sg_length rfl ⟨Nat.le_of_ble_eq_true rfl, Nat.le_of_ble_eq_true rfl⟩ (Nat.le_of_ble_eq_true rfl) rfl d_Cl_feeds_97 (Nat.zero_le _) (Nat.zero_le _) (DI.k h (fun v6 w5 gw5 h => (?_ : WD _ _ 100 _ _ _ _ _ _)))
    exact x_ireturn rfl d_Cl_feeds_100 h
  · replace h := h.2 c4
    refine x_iconst d_Cl_feeds_10 (by decide) (?_ : WD _ _ 11 _ _ _ _ _ _)
    obtain ⟨h7, h⟩ := h
    obtain ⟨h8, h⟩ := h
    refine x_newa (t := 0) 5 rfl d_Cl_feeds_11 rfl (qm_1 (i := 107) rfl rfl) (fun _ => rfl) (fun _ _ => rfl) (fun _ => rfl) (by decide) (by decide) h7 h8 (fun q9 fq9 => (?_ : WD _ _ 13 _ _ _ _ _ _))
    replace h := h q9 fq9
    have k10 : Ow (uN w2 q9 (kA 0 5)) q9 (kA 0 5) := Ow.nw
    refine x_astore_nP (some q9) (ls' := [(3, vA q9), (0, vR 0), (1, vA x1), (2, vI x2)]) d_Cl_feeds_13 rfl (by decide) rfl (?_ : WD _ _ 14 _ _ _ _ _ _)
    refine x_iconst d_Cl_feeds_14 (by decide) (?_ : WD _ _ 15 _ _ _ _ _ _)
    refine x_istore (ls' := [(4, vI 0), (3, vA q9), (0, vR 0), (1, vA x1), (2, vI x2)]) d_Cl_feeds_15 (by decide) rfl (?_ : WD _ _ 17 _ _ _ _ _ _)
    refine x_pick (ls' := [(0, vR 0), (1, vA x1), (2, vI x2), (3, vA q9), (4, vI 0)]) [2, 3, 4, 1, 0] rfl ?_
    exact h
set_option maxRecDepth 20000 in
theorem l_Cl_feeds_2 {G : Gq} {K : Int → Wd → Prop} {w : Wd} {rc rs : Nat} (x1 : Nat) (x2 : Int) (x3 : Nat) (x4 : Int) (h : (20 ≤ x4 → ∃ n12 : Nat, ((Is G w x3 (kA 0 n12)) ∧ (0 < (n12 : Int)) ∧ (1 < (n12 : Int)) ∧ (2 < (n12 : Int)) ∧ (3 < (n12 : Int)) ∧ (4 < (n12 : Int)) ∧ CI M_Cs_feed [vR 0, vI (wI w x3 0), vI (wI w x3 1), vI (wI w x3 2), vI (wI w x3 3), vI (wI w x3 4)] (wS w) (fun v19 σ20 => (inR (x2 + 20)) ∧ WD G M_Cl_feeds 2 [(0, vR 0), (1, vA x1), (2, vI (x2 + 20))] [] (uS w σ20) rc rs (yI K)))) ∧ (¬ 20 ≤ x4 → (0 ≤ x4) ∧ ∃ n23 : Nat, ((Is G w x3 (kA 0 n23)) ∧ (0 ≤ (x4 / 4)) ∧ ((x4 / 4) < (n23 : Int)) ∧ (inR (x2 + x4)) ∧ (Is G w x1 (kO 18)) ∧ DI G M_Sg_length [vA x1] w 0 0 (fun v30 w29 => (v30 ≤ (x2 + x4) → (Ow w29 x3 (kA 0 n23)) ∧ (inR (x4 + 1)) ∧ WD G M_Cl_feeds 17 [(0, vR 0), (1, vA x1), (2, vI x2), (3, vA x3), (4, vI (x4 + 1))] [] (uI w29 x3 (x4 / 4) (iorq (ishlq (wI w x3 (x4 / 4)) 8) 32)) rc rs (yI K)) ∧ (¬ v30 ≤ (x2 + x4) → DI G M_Sg_charAt [vA x1, vI (x2 + x4)] w29 0 0 (fun v35 w34 => (Ow w34 x3 (kA 0 n23)) ∧ (inR (x4 + 1)) ∧ WD G M_Cl_feeds 17 [(0, vR 0), (1, vA x1), (2, vI x2), (3, vA x3), (4, vI (x4 + 1))] [] (uI w34 x3 (x4 / 4) (iorq (ishlq (wI w x3 (x4 / 4)) 8) v35)) rc rs (yI K))))))) : WD G M_Cl_feeds 17 [(0, vR 0), (1, vA x1), (2, vI x2), (3, vA x3), (4, vI x4)] [] w rc rs (yI K) := by
  refine x_iload d_Cl_feeds_17 rfl (?_ : WD _ _ 19 _ _ _ _ _ _)
  refine x_bipush d_Cl_feeds_19 (by decide) (by decide) (?_ : WD _ _ 21 _ _ _ _ _ _)
  refine x_icmp_ge 70 d_Cl_feeds_21 rfl ⟨fun c11 => (?_ : WD _ _ 70 _ _ _ _ _ _), fun c11 => (?_ : WD _ _ 24 _ _ _ _ _ _)⟩
  · replace h := h.1 c11
    refine x_aload_n d_Cl_feeds_70 rfl (?_ : WD _ _ 71 _ _ _ _ _ _)
    refine x_aload_nP (some x3) d_Cl_feeds_71 rfl (?_ : WD _ _ 72 _ _ _ _ _ _)
    refine x_iconst d_Cl_feeds_72 (by decide) (?_ : WD _ _ 73 _ _ _ _ _ _)
    obtain ⟨n12, h⟩ := h
    obtain ⟨k13, h⟩ := h
    obtain ⟨h14, h⟩ := h
    refine x_iald k13 d_Cl_feeds_73 (by decide) h14 (y := (wI w x3 0)) rfl (?_ : WD _ _ 74 _ _ _ _ _ _)
    refine x_aload_nP (some x3) d_Cl_feeds_74 rfl (?_ : WD _ _ 75 _ _ _ _ _ _)
    refine x_iconst d_Cl_feeds_75 (by decide) (?_ : WD _ _ 76 _ _ _ _ _ _)
    obtain ⟨h15, h⟩ := h
    refine x_iald k13 d_Cl_feeds_76 (by decide) h15 (y := (wI w x3 1)) rfl (?_ : WD _ _ 77 _ _ _ _ _ _)
    refine x_aload_nP (some x3) d_Cl_feeds_77 rfl (?_ : WD _ _ 78 _ _ _ _ _ _)
    refine x_iconst d_Cl_feeds_78 (by decide) (?_ : WD _ _ 79 _ _ _ _ _ _)
    obtain ⟨h16, h⟩ := h
    refine x_iald k13 d_Cl_feeds_79 (by decide) h16 (y := (wI w x3 2)) rfl (?_ : WD _ _ 80 _ _ _ _ _ _)
    refine x_aload_nP (some x3) d_Cl_feeds_80 rfl (?_ : WD _ _ 81 _ _ _ _ _ _)
    refine x_iconst d_Cl_feeds_81 (by decide) (?_ : WD _ _ 82 _ _ _ _ _ _)
    obtain ⟨h17, h⟩ := h
    refine x_iald k13 d_Cl_feeds_82 (by decide) h17 (y := (wI w x3 3)) rfl (?_ : WD _ _ 83 _ _ _ _ _ _)
    refine x_aload_nP (some x3) d_Cl_feeds_83 rfl (?_ : WD _ _ 84 _ _ _ _ _ _)
    refine x_iconst d_Cl_feeds_84 (by decide) (?_ : WD _ _ 85 _ _ _ _ _ _)
    obtain ⟨h18, h⟩ := h
    refine x_iald k13 d_Cl_feeds_85 (by decide) h18 (y := (wI w x3 4)) rfl (?_ : WD _ _ 86 _ _ _ _ _ _)
    refine x_callC (ν := M_Cs_feed) (k := 0) [vI (wI w x3 0), vI (wI w x3 1), vI (wI w x3 2), vI (wI w x3 3), vI (wI w x3 4)] ok_M_Cs_feed okv_M_Cs_feed (by decide) rfl rfl rfl (qm_5 (i := 117) rfl rfl) np_M_Cs_feed rfl ⟨Nat.le_of_ble_eq_true rfl, Nat.le_of_ble_eq_true rfl⟩ (Nat.le_of_ble_eq_true rfl) rfl d_Cl_feeds_86 (CI.kd h (fun v19 σ20 h => (?_ : WD _ _ 89 _ _ _ _ _ _)))
    refine x_pop d_Cl_feeds_89 rfl (?_ : WD _ _ 90 _ _ _ _ _ _)
    obtain ⟨h21, h⟩ := h
    refine x_iinc (ls' := [(2, vI (x2 + 20)), (0, vR 0), (1, vA x1), (3, vA x3), (4, vI x4)]) d_Cl_feeds_90 rfl h21 (by decide) rfl (?_ : WD _ _ 93 _ _ _ _ _ _)
    refine x_goto 2 d_Cl_feeds_93 rfl ?_
    refine x_pick (ls' := [(0, vR 0), (1, vA x1), (2, vI (x2 + 20))]) [1, 2, 0] rfl ?_
    exact h
  · replace h := h.2 c11
    refine x_aload_nP (some x3) d_Cl_feeds_24 rfl (?_ : WD _ _ 25 _ _ _ _ _ _)
    refine x_iload d_Cl_feeds_25 rfl (?_ : WD _ _ 27 _ _ _ _ _ _)
    refine x_iconst d_Cl_feeds_27 (by decide) (?_ : WD _ _ 28 _ _ _ _ _ _)
    obtain ⟨h22, h⟩ := h
    refine x_idivn d_Cl_feeds_28 h22 (by decide) (?_ : WD _ _ 29 _ _ _ _ _ _)
    refine x_aload_nP (some x3) d_Cl_feeds_29 rfl (?_ : WD _ _ 30 _ _ _ _ _ _)
    refine x_iload d_Cl_feeds_30 rfl (?_ : WD _ _ 32 _ _ _ _ _ _)
    refine x_iconst d_Cl_feeds_32 (by decide) (?_ : WD _ _ 33 _ _ _ _ _ _)
    refine x_idivn d_Cl_feeds_33 h22 (by decide) (?_ : WD _ _ 34 _ _ _ _ _ _)
    obtain ⟨n23, h⟩ := h
    obtain ⟨k24, h⟩ := h
    obtain ⟨h25, h⟩ := h
    obtain ⟨h26, h⟩ := h
    refine x_iald k24 d_Cl_feeds_34 h25 h26 (y := (wI w x3 (x4 / 4))) rfl (?_ : WD _ _ 35 _ _ _ _ _ _)
    refine x_bipush d_Cl_feeds_35 (by decide) (by decide) (?_ : WD _ _ 37 _ _ _ _ _ _)
    refine x_ishlq d_Cl_feeds_37 (?_ : WD _ _ 38 _ _ _ _ _ _)
    refine x_iload_n d_Cl_feeds_38 rfl (?_ : WD _ _ 39 _ _ _ _ _ _)
    refine x_iload d_Cl_feeds_39 rfl (?_ : WD _ _ 41 _ _ _ _ _ _)
    obtain ⟨h27, h⟩ := h
    refine x_iadd d_Cl_feeds_41 h27 (?_ : WD _ _ 42 _ _ _ _ _ _)
    refine x_aload_nP (some x1) d_Cl_feeds_42 rfl (?_ : WD _ _ 43 _ _ _ _ _ _)
    obtain ⟨k28, h⟩ := h
    refine x_callV (ν := M_Sg_length) [] ok_M_Sg_length okv_M_Sg_length k28 rfl rfl (qm_5 (i := 115) rfl rfl) np_M_Sg_length rfl ⟨Nat.le_of_ble_eq_true rfl, Nat.le_of_ble_eq_true rfl⟩ (Nat.le_of_ble_eq_true rfl) rfl d_Cl_feeds_43 (Nat.zero_le _) (Nat.zero_le _) (DI.k h (fun v30 w29 gw29 h => (?_ : WD _ _ 46 _ _ _ _ _ _)))
    refine x_icmp_ge 60 d_Cl_feeds_46 rfl ⟨fun c31 => (?_ : WD _ _ 60 _ _ _ _ _ _), fun c31 => (?_ : WD _ _ 49 _ _ _ _ _ _)⟩
    · replace h := h.1 c31
      refine x_bipush d_Cl_feeds_60 (by decide) (by decide) (?_ : WD _ _ 62 _ _ _ _ _ _)
      refine x_iorq d_Cl_feeds_62 (?_ : WD _ _ 63 _ _ _ _ _ _)
      obtain ⟨k32, h⟩ := h
      refine x_iast k32 d_Cl_feeds_63 h25 h26 (?_ : WD _ _ 64 _ _ _ _ _ _)
      obtain ⟨h33, h⟩ := h
      refine x_iinc (ls' := [(4, vI (x4 + 1)), (0, vR 0), (1, vA x1), (2, vI x2), (3, vA x3)]) d_Cl_feeds_64 rfl h33 (by decide) rfl (?_ : WD _ _ 67 _ _ _ _ _ _)
      refine x_goto 17 d_Cl_feeds_67 rfl ?_
      refine x_pick (ls' := [(0, vR 0), (1, vA x1), (2, vI x2), (3, vA x3), (4, vI (x4 + 1))]) [1, 2, 3, 4, 0] rfl ?_
      exact h
    · replace h := h.2 c31
      refine x_aload_nP (some x1) d_Cl_feeds_49 rfl (?_ : WD _ _ 50 _ _ _ _ _ _)
      refine x_iload_n d_Cl_feeds_50 rfl (?_ : WD _ _ 51 _ _ _ _ _ _)
      refine x_iload d_Cl_feeds_51 rfl (?_ : WD _ _ 53 _ _ _ _ _ _)
      refine x_iadd d_Cl_feeds_53 h27 (?_ : WD _ _ 54 _ _ _ _ _ _)
      refine x_callV (ν := M_Sg_charAt) [vI (x2 + x4)] ok_M_Sg_charAt okv_M_Sg_charAt (k28.q gw29.k) rfl rfl (qm_5 (i := 116) rfl rfl) np_M_Sg_charAt rfl ⟨Nat.le_of_ble_eq_true rfl, Nat.le_of_ble_eq_true rfl⟩ (Nat.le_of_ble_eq_true rfl) rfl d_Cl_feeds_54 (Nat.zero_le _) (Nat.zero_le _) (DI.k h (fun v35 w34 gw34 h => (?_ : WD _ _ 57 _ _ _ _ _ _)))
      refine x_goto 62 d_Cl_feeds_57 rfl ?_
      refine x_iorq d_Cl_feeds_62 (?_ : WD _ _ 63 _ _ _ _ _ _)
      obtain ⟨k36, h⟩ := h
      refine x_iast k36 d_Cl_feeds_63 h25 h26 (?_ : WD _ _ 64 _ _ _ _ _ _)
      obtain ⟨h37, h⟩ := h
      refine x_iinc (ls' := [(4, vI (x4 + 1)), (0, vR 0), (1, vA x1), (2, vI x2), (3, vA x3)]) d_Cl_feeds_64 rfl h37 (by decide) rfl (?_ : WD _ _ 67 _ _ _ _ _ _)
      refine x_goto 17 d_Cl_feeds_67 rfl ?_
      refine x_pick (ls' := [(0, vR 0), (1, vA x1), (2, vI x2), (3, vA x3), (4, vI (x4 + 1))]) [1, 2, 3, 4, 0] rfl ?_
      exact h
set_option maxRecDepth 20000 in
theorem e_Cl_oftenOf {G : Gq} {K : Int → Wd → Prop} {w : Wd} {mc ms : Nat} (x0 : Nat) (x1 : Int) (h : ∃ c1 s2 : Nat, c1 ≤ mc ∧ s2 ≤ ms ∧ ((Is G w x0 (kO 14)) ∧ DP G M_Al_iterator [vA x0] w c1 s2 (fun v7 w6 => WD G M_Cl_oftenOf 7 [(1, vI x1), (2, vI 0), (3, vP v7)] [] w6 (mc - c1) (ms - s2) (yI K)))) : DI G M_Cl_oftenOf [vA x0, vI x1] w mc ms K := by
  refine DC.of ok_M_Cl_oftenOf (ls := [(0, vA x0), (1, vI x1)]) rfl (Nat.le_of_ble_eq_true rfl) ?_
  refine x_iconst d_Cl_oftenOf_0 (by decide) (?_ : WD _ _ 1 _ _ _ _ _ _)
  refine x_istore_n (ls' := [(2, vI 0), (0, vA x0), (1, vI x1)]) d_Cl_oftenOf_1 rfl (by decide) rfl (?_ : WD _ _ 2 _ _ _ _ _ _)
  refine x_aload_nP (some x0) d_Cl_oftenOf_2 rfl (?_ : WD _ _ 3 _ _ _ _ _ _)
  obtain ⟨c1, s2, h3, h4, h⟩ := h
  obtain ⟨k5, h⟩ := h
  refine x_callV (ν := M_Al_iterator) [] ok_M_Al_iterator okv_M_Al_iterator k5 rfl rfl (qm_5 (i := 180) rfl rfl) np_M_Al_iterator rfl ⟨Nat.le_of_ble_eq_true rfl, Nat.le_of_ble_eq_true rfl⟩ (Nat.le_of_ble_eq_true rfl) rfl d_Cl_oftenOf_3 h3 h4 (DP.k h (fun v7 w6 gw6 h => (?_ : WD _ _ 6 _ _ _ _ _ _)))
  refine x_astore_nP v7 (ls' := [(3, vP v7), (2, vI 0), (0, vA x0), (1, vI x1)]) d_Cl_oftenOf_6 rfl (by decide) rfl (?_ : WD _ _ 7 _ _ _ _ _ _)
  refine x_pick (ls' := [(1, vI x1), (2, vI 0), (3, vP v7)]) [3, 1, 0] rfl ?_
  exact h
set_option maxRecDepth 20000 in
theorem l_Cl_oftenOf_1 {G : Gq} {K : Int → Wd → Prop} {w : Wd} {rc rs : Nat} (x1 : Int) (x2 : Int) (x3 : Option Nat) (h : ∃ a8 : Nat, x3 = some a8 ∧ ((Is G w a8 (kO 15)) ∧ DI G M_Ai_hasNext [vA a8] w 0 0 (fun v12 w11 => (v12 = 0 → K x2 w11) ∧ (¬ v12 = 0 → DP G M_Ai_next [vA a8] w11 0 0 (fun v15 w14 => ∃ a16 : Nat, v15 = some a16 ∧ ((Is G w14 a16 (kO 12)) ∧ (¬ (wI w14 a16 0) = x1 → (inR (x2 + 0)) ∧ WD G M_Cl_oftenOf 7 [(1, vI x1), (2, vI (x2 + 0)), (3, vP (some a8))] [] w14 rc rs (yI K)) ∧ ((wI w14 a16 0) = x1 → (inR (x2 + 1)) ∧ WD G M_Cl_oftenOf 7 [(1, vI x1), (2, vI (x2 + 1)), (3, vP (some a8))] [] w14 rc rs (yI K)))))))) : WD G M_Cl_oftenOf 7 [(1, vI x1), (2, vI x2), (3, vP x3)] [] w rc rs (yI K) := by
  refine x_aload_nP x3 d_Cl_oftenOf_7 rfl (?_ : WD _ _ 8 _ _ _ _ _ _)
  obtain ⟨a8, e9, h⟩ := h
  rw [e9]
  obtain ⟨k10, h⟩ := h
  refine x_callF (ν := M_Ai_hasNext) ⟨"java/util/Iterator", "hasNext", "()Z"⟩ [] ok_M_Ai_hasNext oki_M_Ai_hasNext k10 rfl (qm_2 (i := 226) rfl rfl) (by decide) (qm_5 (i := 182) rfl rfl) (show _ = some 0 from by decide +kernel) rfl ⟨Nat.le_of_ble_eq_true rfl, Nat.le_of_ble_eq_true rfl⟩ (Nat.le_of_ble_eq_true rfl) rfl d_Cl_oftenOf_8 (Nat.zero_le _) (Nat.zero_le _) (DI.k h (fun v12 w11 gw11 h => (?_ : WD _ _ 13 _ _ _ _ _ _)))
  refine x_if_eq 47 d_Cl_oftenOf_13 rfl ⟨fun c13 => (?_ : WD _ _ 47 _ _ _ _ _ _), fun c13 => (?_ : WD _ _ 16 _ _ _ _ _ _)⟩
  · replace h := h.1 c13
    refine x_iload_n d_Cl_oftenOf_47 rfl (?_ : WD _ _ 48 _ _ _ _ _ _)
    exact x_ireturn rfl d_Cl_oftenOf_48 h
  · replace h := h.2 c13
    refine x_aload_nP (some a8) d_Cl_oftenOf_16 rfl (?_ : WD _ _ 17 _ _ _ _ _ _)
    refine x_callF (ν := M_Ai_next) ⟨"java/util/Iterator", "next", "()Ljava/lang/Object;"⟩ [] ok_M_Ai_next oki_M_Ai_next (k10.q gw11.k) rfl (qm_3 (i := 7) rfl rfl) (by decide) (qm_5 (i := 184) rfl rfl) (show _ = some 0 from by decide +kernel) rfl ⟨Nat.le_of_ble_eq_true rfl, Nat.le_of_ble_eq_true rfl⟩ (Nat.le_of_ble_eq_true rfl) rfl d_Cl_oftenOf_17 (Nat.zero_le _) (Nat.zero_le _) (DP.k h (fun v15 w14 gw14 h => (?_ : WD _ _ 22 _ _ _ _ _ _)))
    obtain ⟨a16, e17, h⟩ := h
    rw [e17]
    obtain ⟨k18, h⟩ := h
    refine x_cast k18 rfl (Or.inl rfl) (qm_6 (i := 203) rfl rfl) d_Cl_oftenOf_22 (?_ : WD _ _ 25 _ _ _ _ _ _)
    refine x_astoreP (some a16) (ls' := [(4, vA a16), (1, vI x1), (2, vI x2), (3, vA a8)]) d_Cl_oftenOf_25 (by decide) rfl (?_ : WD _ _ 27 _ _ _ _ _ _)
    refine x_iload_n d_Cl_oftenOf_27 rfl (?_ : WD _ _ 28 _ _ _ _ _ _)
    refine x_aloadP (some a16) d_Cl_oftenOf_28 rfl (?_ : WD _ _ 30 _ _ _ _ _ _)
    refine x_getI (ref := "CoinSamplerLaw$Hit") (j := 0) 0 k18 clk_12 (by decide) (qm_3 (i := 85) rfl rfl) (Or.inl rfl) rfl rfl d_Cl_oftenOf_30 (y := (wI w14 a16 0)) rfl (?_ : WD _ _ 33 _ _ _ _ _ _)
    refine x_iload_n d_Cl_oftenOf_33 rfl (?_ : WD _ _ 34 _ _ _ _ _ _)
    refine x_icmp_ne 41 d_Cl_oftenOf_34 rfl ⟨fun c19 => (?_ : WD _ _ 41 _ _ _ _ _ _), fun c19 => (?_ : WD _ _ 37 _ _ _ _ _ _)⟩
    · replace h := h.1 c19
      refine x_iconst d_Cl_oftenOf_41 (by decide) (?_ : WD _ _ 42 _ _ _ _ _ _)
      obtain ⟨h20, h⟩ := h
      refine x_iadd d_Cl_oftenOf_42 h20 (?_ : WD _ _ 43 _ _ _ _ _ _)
      refine x_istore_n (ls' := [(2, vI (x2 + 0)), (4, vA a16), (1, vI x1), (3, vA a8)]) d_Cl_oftenOf_43 rfl (by decide) rfl (?_ : WD _ _ 44 _ _ _ _ _ _)
      refine x_goto 7 d_Cl_oftenOf_44 rfl ?_
      refine x_pick (ls' := [(1, vI x1), (2, vI (x2 + 0)), (3, vP (some a8))]) [2, 0, 3] rfl ?_
      exact h
    · replace h := h.2 c19
      refine x_iconst d_Cl_oftenOf_37 (by decide) (?_ : WD _ _ 38 _ _ _ _ _ _)
      refine x_goto 42 d_Cl_oftenOf_38 rfl ?_
      obtain ⟨h21, h⟩ := h
      refine x_iadd d_Cl_oftenOf_42 h21 (?_ : WD _ _ 43 _ _ _ _ _ _)
      refine x_istore_n (ls' := [(2, vI (x2 + 1)), (4, vA a16), (1, vI x1), (3, vA a8)]) d_Cl_oftenOf_43 rfl (by decide) rfl (?_ : WD _ _ 44 _ _ _ _ _ _)
      refine x_goto 7 d_Cl_oftenOf_44 rfl ?_
      refine x_pick (ls' := [(1, vI x1), (2, vI (x2 + 1)), (3, vP (some a8))]) [2, 0, 3] rfl ?_
      exact h
