-- what each stretch of a method asks (printed by wip/gen/gen_dout.py)
set_option maxRecDepth 20000 in
theorem e_Cl_cell {G : Gq} {K : Int → Wd → Prop} {w : Wd} {mc ms : Nat} (x0 : Nat) (x1 : Int) (h : ∃ n1 : Nat, ((Is G w x0 (kA 0 n1)) ∧ (inR (n1 : Int)) ∧ ((n1 : Int) ≤ x1 → K 0 w) ∧ (¬ (n1 : Int) ≤ x1 → (0 ≤ x1) ∧ (x1 < (n1 : Int)) ∧ K (wI w x0 x1) w))) : DI G M_Cl_cell [vA x0, vI x1] w mc ms K := by
  refine DC.of ok_M_Cl_cell (ls := [(0, vA x0), (1, vI x1)]) rfl (Nat.le_of_ble_eq_true rfl) ?_
  refine x_iload_n d_Cl_cell_0 rfl (?_ : WD _ _ 1 _ _ _ _ _ _)
  refine x_aload_nP (some x0) d_Cl_cell_1 rfl (?_ : WD _ _ 2 _ _ _ _ _ _)
  obtain ⟨n1, h⟩ := h
  obtain ⟨k2, h⟩ := h
  obtain ⟨h3, h⟩ := h
  refine x_alenA k2 (fun _ => rfl) h3 d_Cl_cell_2 (?_ : WD _ _ 3 _ _ _ _ _ _)
  refine x_icmp_ge 12 d_Cl_cell_3 rfl ⟨fun c4 => (?_ : WD _ _ 12 _ _ _ _ _ _), fun c4 => (?_ : WD _ _ 6 _ _ _ _ _ _)⟩
  · replace h := h.1 c4
    refine x_iconst d_Cl_cell_12 (by decide) (?_ : WD _ _ 13 _ _ _ _ _ _)
    exact x_ireturn rfl d_Cl_cell_13 h
  · replace h := h.2 c4
    refine x_aload_nP (some x0) d_Cl_cell_6 rfl (?_ : WD _ _ 7 _ _ _ _ _ _)
    refine x_iload_n d_Cl_cell_7 rfl (?_ : WD _ _ 8 _ _ _ _ _ _)
    obtain ⟨h5, h⟩ := h
    obtain ⟨h6, h⟩ := h
    refine x_iald k2 d_Cl_cell_8 h5 h6 (y := (wI w x0 x1)) rfl (?_ : WD _ _ 9 _ _ _ _ _ _)
    refine x_goto 13 d_Cl_cell_9 rfl ?_
    exact x_ireturn rfl d_Cl_cell_13 h
set_option maxRecDepth 20000 in
theorem e_Cl_items {G : Gq} {K : Int → Wd → Prop} {w : Wd} {mc ms : Nat} (x1 : Nat) (x2 : Nat) (h : (Is G w x1 (kO 11)) ∧ ∃ a2 : Nat, (wR w x1 0) = some a2 ∧ ((Is G w a2 (kO 14)) ∧ DI G M_Al_size [vA a2] w 0 0 (fun v6 w5 => (1 + 100 ≤ mc) ∧ (100 + 100 * 6 ≤ ms) ∧ ∀ (q9 : Nat) (r10 : Nat → Nat), MnF G w5 q9 r10 100 → ((1 ≤ (mc - (1 + 100))) ∧ (1 ≤ (ms - (100 + 100 * 6))) ∧ ∀ q13 : Nat, Fr G (mna w5 q9 100 6 r10 100) q13 → (∃ c15 s16 : Nat, c15 ≤ ((mc - (1 + 100)) - 1) ∧ s16 ≤ ((ms - (100 + 100 * 6)) - 1) ∧ (DV G M_Lx_init [vA q13] (uN (mna w5 q9 100 6 r10 100) q13 (kO 19)) c15 s16 (fun w19 => WD G M_Cl_items 33 [(0, vR 0), (1, vA x1), (2, vA x2), (3, vI 1), (4, vI v6), (5, vA q9), (6, vA q13), (7, vI 0)] [] w19 (((mc - (1 + 100)) - 1) - c15) (((ms - (100 + 100 * 6)) - 1) - s16) (yI K)))))))) : DI G M_Cl_items [vR 0, vA x1, vA x2] w mc ms K := by
  refine DC.of ok_M_Cl_items (ls := [(0, vR 0), (1, vA x1), (2, vA x2)]) rfl (Nat.le_of_ble_eq_true rfl) ?_
  refine x_iconst d_Cl_items_0 (by decide) (?_ : WD _ _ 1 _ _ _ _ _ _)
  refine x_istore_n (ls' := [(3, vI 1), (0, vR 0), (1, vA x1), (2, vA x2)]) d_Cl_items_1 rfl (by decide) rfl (?_ : WD _ _ 2 _ _ _ _ _ _)
  refine x_aload_nP (some x1) d_Cl_items_2 rfl (?_ : WD _ _ 3 _ _ _ _ _ _)
  obtain ⟨k1, h⟩ := h
  refine x_getP (ref := "CoinSamplerLaw$Books") (j := 0) 0 k1 clk_11 (by decide) (qm_2 (i := 156) rfl rfl) (Or.inl rfl) rfl rfl d_Cl_items_3 (y := (wR w x1 0)) rfl (?_ : WD _ _ 6 _ _ _ _ _ _)
  obtain ⟨a2, e3, h⟩ := h
  rw [e3]
  obtain ⟨k4, h⟩ := h
  refine x_callV (ν := M_Al_size) [] ok_M_Al_size okv_M_Al_size k4 rfl rfl (qm_3 (i := 178) rfl rfl) np_M_Al_size rfl ⟨Nat.le_of_ble_eq_true rfl, Nat.le_of_ble_eq_true rfl⟩ (Nat.le_of_ble_eq_true rfl) rfl d_Cl_items_6 (Nat.zero_le _) (Nat.zero_le _) (DI.k h (fun v6 w5 gw5 h => (?_ : WD _ _ 9 _ _ _ _ _ _)))
  refine x_istore (ls' := [(4, vI v6), (3, vI 1), (0, vR 0), (1, vA x1), (2, vA x2)]) d_Cl_items_9 (by decide) rfl (?_ : WD _ _ 11 _ _ _ _ _ _)
  refine x_bipush d_Cl_items_11 (by decide) (by decide) (?_ : WD _ _ 13 _ _ _ _ _ _)
  refine x_bipush d_Cl_items_13 (by decide) (by decide) (?_ : WD _ _ 15 _ _ _ _ _ _)
  obtain ⟨h7, h⟩ := h
  obtain ⟨h8, h⟩ := h
  refine x_mna (N := 100) (K := 6) (qm_6 (i := 111) rfl rfl) (qm_1 (i := 107) rfl rfl) d_Cl_items_15 (by decide) (by decide) h7 h8 (fun q9 r10 fq9 => (?_ : WD _ _ 19 _ _ _ _ _ _))
  replace h := h q9 r10 fq9
  refine x_astoreP (some q9) (ls' := [(5, vA q9), (4, vI v6), (3, vI 1), (0, vR 0), (1, vA x1), (2, vA x2)]) d_Cl_items_19 (by decide) rfl (?_ : WD _ _ 21 _ _ _ _ _ _)
  obtain ⟨h11, h⟩ := h
  obtain ⟨h12, h⟩ := h
  refine x_new d_Cl_items_21 clk_19 tyX29_ok (qm_6 (i := 113) rfl rfl) (qm_6 (i := 114) rfl rfl) (qm_1 (i := 35) rfl rfl) hfd_19 h11 h12 (fun q13 fq13 => (?_ : WD _ _ 24 _ _ _ _ _ _))
  replace h := h q13 fq13
  have k14 : Ow (uN (mna w5 q9 100 6 r10 100) q13 (kO 19)) q13 (kO 19) := Ow.nw
  refine x_dup d_Cl_items_24 rfl (?_ : WD _ _ 25 _ _ _ _ _ _)
  obtain ⟨c15, s16, h17, h18, h⟩ := h
  refine x_callI (ν := M_Lx_init) [] ok_M_Lx_init oki_M_Lx_init rfl rfl (qm_6 (i := 115) rfl rfl) np_M_Lx_init rfl ⟨Nat.le_of_ble_eq_true rfl, Nat.le_of_ble_eq_true rfl⟩ (Nat.le_of_ble_eq_true rfl) rfl d_Cl_items_25 h17 h18 (DV.k h (fun w19 gw19 h => (?_ : WD _ _ 28 _ _ _ _ _ _)))
  refine x_astoreP (some q13) (ls' := [(6, vA q13), (5, vA q9), (4, vI v6), (3, vI 1), (0, vR 0), (1, vA x1), (2, vA x2)]) d_Cl_items_28 (by decide) rfl (?_ : WD _ _ 30 _ _ _ _ _ _)
  refine x_iconst d_Cl_items_30 (by decide) (?_ : WD _ _ 31 _ _ _ _ _ _)
  refine x_istore (ls' := [(7, vI 0), (6, vA q13), (5, vA q9), (4, vI v6), (3, vI 1), (0, vR 0), (1, vA x1), (2, vA x2)]) d_Cl_items_31 (by decide) rfl (?_ : WD _ _ 33 _ _ _ _ _ _)
  refine x_pick (ls' := [(0, vR 0), (1, vA x1), (2, vA x2), (3, vI 1), (4, vI v6), (5, vA q9), (6, vA q13), (7, vI 0)]) [5, 6, 7, 4, 3, 2, 1, 0] rfl ?_
  exact h
set_option maxRecDepth 20000 in
theorem l_Cl_items_1 {G : Gq} {K : Int → Wd → Prop} {w : Wd} {rc rs : Nat} (x1 : Nat) (x2 : Nat) (x3 : Int) (x4 : Int) (x5 : Nat) (x6 : Nat) (x7 : Int) (h : (x4 ≤ x7 → ∃ c22 s23 : Nat, c22 ≤ rc ∧ s23 ≤ rs ∧ ((Is G w x2 (kO 14)) ∧ DP G M_Al_iterator [vA x2] w c22 s23 (fun v28 w27 => WD G M_Cl_items 344 [(0, vR 0), (1, vA x1), (4, vI x4), (5, vA x5), (6, vA x6), (7, vP v28)] [] w27 (rc - c22) (rs - s23) (yI K)))) ∧ (¬ x4 ≤ x7 → (Is G w x1 (kO 11)) ∧ ∃ a30 : Nat, (wR w x1 0) = some a30 ∧ ((Is G w a30 (kO 14)) ∧ DP G M_Al_get [vA a30, vI x7] w 0 0 (fun v34 w33 => ∃ a35 : Nat, v34 = some a35 ∧ ((Is G w33 a35 (kO 13)) ∧ DI G M_Bo_certain [vA x1, vA a35] w33 0 0 (fun v39 w38 => (¬ v39 = 0 → WD G M_Cl_items 80 [(0, vR 0), (1, vA x1), (2, vA x2), (3, vI x3), (4, vI x4), (5, vA x5), (6, vA x6), (7, vI x7), (8, vA a35), (9, vI v39)] [vI 0] w38 rc rs (yI K)) ∧ (v39 = 0 → DI G M_It_coins [vA a35] w38 0 0 (fun v42 w41 => (v42 ≤ 0 → WD G M_Cl_items 80 [(0, vR 0), (1, vA x1), (2, vA x2), (3, vI x3), (4, vI x4), (5, vA x5), (6, vA x6), (7, vI x7), (8, vA a35), (9, vI v39)] [vI 0] w41 rc rs (yI K)) ∧ (¬ v42 ≤ 0 → WD G M_Cl_items 80 [(0, vR 0), (1, vA x1), (2, vA x2), (3, vI x3), (4, vI x4), (5, vA x5), (6, vA x6), (7, vI x7), (8, vA a35), (9, vI v39)] [vI 1] w41 rc rs (yI K)))))))))) : WD G M_Cl_items 33 [(0, vR 0), (1, vA x1), (2, vA x2), (3, vI x3), (4, vI x4), (5, vA x5), (6, vA x6), (7, vI x7)] [] w rc rs (yI K) := by
  refine x_iload d_Cl_items_33 rfl (?_ : WD _ _ 35 _ _ _ _ _ _)
  refine x_iload d_Cl_items_35 rfl (?_ : WD _ _ 37 _ _ _ _ _ _)
  refine x_icmp_ge 338 d_Cl_items_37 rfl ⟨fun c21 => (?_ : WD _ _ 338 _ _ _ _ _ _), fun c21 => (?_ : WD _ _ 40 _ _ _ _ _ _)⟩
  · replace h := h.1 c21
    refine x_aload_nP (some x2) d_Cl_items_338 rfl (?_ : WD _ _ 339 _ _ _ _ _ _)
    obtain ⟨c22, s23, h24, h25, h⟩ := h
    obtain ⟨k26, h⟩ := h
    refine x_callV (ν := M_Al_iterator) [] ok_M_Al_iterator okv_M_Al_iterator k26 rfl rfl (qm_5 (i := 180) rfl rfl) np_M_Al_iterator rfl ⟨Nat.le_of_ble_eq_true rfl, Nat.le_of_ble_eq_true rfl⟩ (Nat.le_of_ble_eq_true rfl) rfl d_Cl_items_339 h24 h25 (DP.k h (fun v28 w27 gw27 h => (?_ : WD _ _ 342 _ _ _ _ _ _)))
    refine x_astoreP v28 (ls' := [(7, vP v28), (0, vR 0), (1, vA x1), (2, vA x2), (3, vI x3), (4, vI x4), (5, vA x5), (6, vA x6)]) d_Cl_items_342 (by decide) rfl (?_ : WD _ _ 344 _ _ _ _ _ _)
    refine x_pick (ls' := [(0, vR 0), (1, vA x1), (4, vI x4), (5, vA x5), (6, vA x6), (7, vP v28)]) [1, 2, 5, 6, 7, 0] rfl ?_
    exact h
  · replace h := h.2 c21
    refine x_aload_nP (some x1) d_Cl_items_40 rfl (?_ : WD _ _ 41 _ _ _ _ _ _)
    obtain ⟨k29, h⟩ := h
    refine x_getP (ref := "CoinSamplerLaw$Books") (j := 0) 0 k29 clk_11 (by decide) (qm_2 (i := 156) rfl rfl) (Or.inl rfl) rfl rfl d_Cl_items_41 (y := (wR w x1 0)) rfl (?_ : WD _ _ 44 _ _ _ _ _ _)
    refine x_iload d_Cl_items_44 rfl (?_ : WD _ _ 46 _ _ _ _ _ _)
    obtain ⟨a30, e31, h⟩ := h
    rw [e31]
    obtain ⟨k32, h⟩ := h
    refine x_callV (ν := M_Al_get) [vI x7] ok_M_Al_get okv_M_Al_get k32 rfl rfl (qm_3 (i := 183) rfl rfl) np_M_Al_get rfl ⟨Nat.le_of_ble_eq_true rfl, Nat.le_of_ble_eq_true rfl⟩ (Nat.le_of_ble_eq_true rfl) rfl d_Cl_items_46 (Nat.zero_le _) (Nat.zero_le _) (DP.k h (fun v34 w33 gw33 h => (?_ : WD _ _ 49 _ _ _ _ _ _)))
    obtain ⟨a35, e36, h⟩ := h
    rw [e36]
    obtain ⟨k37, h⟩ := h
    refine x_cast k37 rfl (Or.inl rfl) (qm_3 (i := 184) rfl rfl) d_Cl_items_49 (?_ : WD _ _ 52 _ _ _ _ _ _)
    refine x_astoreP (some a35) (ls' := [(8, vA a35), (0, vR 0), (1, vA x1), (2, vA x2), (3, vI x3), (4, vI x4), (5, vA x5), (6, vA x6), (7, vI x7)]) d_Cl_items_52 (by decide) rfl (?_ : WD _ _ 54 _ _ _ _ _ _)
    refine x_aload_nP (some x1) d_Cl_items_54 rfl (?_ : WD _ _ 55 _ _ _ _ _ _)
    refine x_aloadP (some a35) d_Cl_items_55 rfl (?_ : WD _ _ 57 _ _ _ _ _ _)
    refine x_callV (ν := M_Bo_certain) [vA a35] ok_M_Bo_certain okv_M_Bo_certain (k29.q gw33.k) rfl rfl (qm_5 (i := 185) rfl rfl) np_M_Bo_certain rfl ⟨Nat.le_of_ble_eq_true rfl, Nat.le_of_ble_eq_true rfl⟩ (Nat.le_of_ble_eq_true rfl) rfl d_Cl_items_57 (Nat.zero_le _) (Nat.zero_le _) (DI.k h (fun v39 w38 gw38 h => (?_ : WD _ _ 60 _ _ _ _ _ _)))
    refine x_istore (ls' := [(9, vI v39), (8, vA a35), (0, vR 0), (1, vA x1), (2, vA x2), (3, vI x3), (4, vI x4), (5, vA x5), (6, vA x6), (7, vI x7)]) d_Cl_items_60 (by decide) rfl (?_ : WD _ _ 62 _ _ _ _ _ _)
    refine x_iload d_Cl_items_62 rfl (?_ : WD _ _ 64 _ _ _ _ _ _)
    refine x_if_ne 79 d_Cl_items_64 rfl ⟨fun c40 => (?_ : WD _ _ 79 _ _ _ _ _ _), fun c40 => (?_ : WD _ _ 67 _ _ _ _ _ _)⟩
    · replace h := h.1 c40
      refine x_iconst d_Cl_items_79 (by decide) (?_ : WD _ _ 80 _ _ _ _ _ _)
      refine x_pick (ls' := [(0, vR 0), (1, vA x1), (2, vA x2), (3, vI x3), (4, vI x4), (5, vA x5), (6, vA x6), (7, vI x7), (8, vA a35), (9, vI v39)]) [2, 3, 4, 5, 6, 7, 8, 9, 1, 0] rfl ?_
      exact h
    · replace h := h.2 c40
      refine x_aloadP (some a35) d_Cl_items_67 rfl (?_ : WD _ _ 69 _ _ _ _ _ _)
      refine x_callV (ν := M_It_coins) [] ok_M_It_coins okv_M_It_coins (k37.q gw38.k) rfl rfl (qm_6 (i := 199) rfl rfl) np_M_It_coins rfl ⟨Nat.le_of_ble_eq_true rfl, Nat.le_of_ble_eq_true rfl⟩ (Nat.le_of_ble_eq_true rfl) rfl d_Cl_items_69 (Nat.zero_le _) (Nat.zero_le _) (DI.k h (fun v42 w41 gw41 h => (?_ : WD _ _ 72 _ _ _ _ _ _)))
      refine x_if_le 79 d_Cl_items_72 rfl ⟨fun c43 => (?_ : WD _ _ 79 _ _ _ _ _ _), fun c43 => (?_ : WD _ _ 75 _ _ _ _ _ _)⟩
      · replace h := h.1 c43
        refine x_iconst d_Cl_items_79 (by decide) (?_ : WD _ _ 80 _ _ _ _ _ _)
        refine x_pick (ls' := [(0, vR 0), (1, vA x1), (2, vA x2), (3, vI x3), (4, vI x4), (5, vA x5), (6, vA x6), (7, vI x7), (8, vA a35), (9, vI v39)]) [2, 3, 4, 5, 6, 7, 8, 9, 1, 0] rfl ?_
        exact h
      · replace h := h.2 c43
        refine x_iconst d_Cl_items_75 (by decide) (?_ : WD _ _ 76 _ _ _ _ _ _)
        refine x_goto 80 d_Cl_items_76 rfl ?_
        refine x_pick (ls' := [(0, vR 0), (1, vA x1), (2, vA x2), (3, vI x3), (4, vI x4), (5, vA x5), (6, vA x6), (7, vI x7), (8, vA a35), (9, vI v39)]) [2, 3, 4, 5, 6, 7, 8, 9, 1, 0] rfl ?_
        exact h
set_option maxRecDepth 20000 in
theorem l_Cl_items_2 {G : Gq} {K : Int → Wd → Prop} {w : Wd} {rc rs : Nat} (x1 : Nat) (x2 : Nat) (x3 : Int) (x4 : Int) (x5 : Nat) (x6 : Nat) (x7 : Int) (x8 : Nat) (x9 : Int) (y0 : Int) (h : ∃ c44 s45 : Nat, c44 ≤ rc ∧ s45 ≤ rs ∧ (DI G M_Cl_oftenOf [vA x2, vI x7] w c44 s45 (fun v49 w48 => (1 ≤ (rc - c44)) ∧ (9 ≤ (rs - s45)) ∧ ∀ q52 : Nat, Fr G w48 q52 → ((Is G (uN w48 q52 (kA 0 9)) x8 (kO 13)) ∧ (0 < (9 : Int)) ∧ (1 < (9 : Int)) ∧ (2 < (9 : Int)) ∧ (3 < (9 : Int)) ∧ DI G M_It_error [vA x8] (uI (uI (uI (uI (uN w48 q52 (kA 0 9)) q52 0 (wI (uN w48 q52 (kA 0 9)) x8 0)) q52 1 (wI (uI (uN w48 q52 (kA 0 9)) q52 0 (wI (uN w48 q52 (kA 0 9)) x8 0)) x8 1)) q52 2 (wI (uI (uI (uN w48 q52 (kA 0 9)) q52 0 (wI (uN w48 q52 (kA 0 9)) x8 0)) q52 1 (wI (uI (uN w48 q52 (kA 0 9)) q52 0 (wI (uN w48 q52 (kA 0 9)) x8 0)) x8 1)) x8 2)) q52 3 (wI (uI (uI (uI (uN w48 q52 (kA 0 9)) q52 0 (wI (uN w48 q52 (kA 0 9)) x8 0)) q52 1 (wI (uI (uN w48 q52 (kA 0 9)) q52 0 (wI (uN w48 q52 (kA 0 9)) x8 0)) x8 1)) q52 2 (wI (uI (uI (uN w48 q52 (kA 0 9)) q52 0 (wI (uN w48 q52 (kA 0 9)) x8 0)) q52 1 (wI (uI (uN w48 q52 (kA 0 9)) q52 0 (wI (uN w48 q52 (kA 0 9)) x8 0)) x8 1)) x8 2)) x8 3)) 0 0 (fun v60 w59 => (4 < (9 : Int)) ∧ DI G M_It_taint [vA x8] (uI w59 q52 4 v60) 0 0 (fun v63 w62 => (5 < (9 : Int)) ∧ (x9 = 0 → WD G M_Cl_items 155 [(0, vR 0), (1, vA x1), (2, vA x2), (3, vI x3), (4, vI x4), (5, vA x5), (6, vA x6), (7, vI x7), (8, vA x8), (9, vI x9), (10, vI y0), (11, vI v49)] [vI 0, vI 6, vA q52, vA q52] (uI w62 q52 5 v63) ((rc - c44) - 1) ((rs - s45) - 9) (yI K)) ∧ (¬ x9 = 0 → WD G M_Cl_items 155 [(0, vR 0), (1, vA x1), (2, vA x2), (3, vI x3), (4, vI x4), (5, vA x5), (6, vA x6), (7, vI x7), (8, vA x8), (9, vI x9), (10, vI y0), (11, vI v49)] [vI 1, vI 6, vA q52, vA q52] (uI w62 q52 5 v63) ((rc - c44) - 1) ((rs - s45) - 9) (yI K)))))))) : WD G M_Cl_items 80 [(0, vR 0), (1, vA x1), (2, vA x2), (3, vI x3), (4, vI x4), (5, vA x5), (6, vA x6), (7, vI x7), (8, vA x8), (9, vI x9)] [vI y0] w rc rs (yI K) := by
  refine x_istore (ls' := [(10, vI y0), (0, vR 0), (1, vA x1), (2, vA x2), (3, vI x3), (4, vI x4), (5, vA x5), (6, vA x6), (7, vI x7), (8, vA x8), (9, vI x9)]) d_Cl_items_80 (by decide) rfl (?_ : WD _ _ 82 _ _ _ _ _ _)
  refine x_aload_nP (some x2) d_Cl_items_82 rfl (?_ : WD _ _ 83 _ _ _ _ _ _)
  refine x_iload d_Cl_items_83 rfl (?_ : WD _ _ 85 _ _ _ _ _ _)
  obtain ⟨c44, s45, h46, h47, h⟩ := h
  refine x_callS (ν := M_Cl_oftenOf) [vA x2, vI x7] ok_M_Cl_oftenOf oks_M_Cl_oftenOf (qm_6 (i := 200) rfl rfl) np_M_Cl_oftenOf rfl ⟨Nat.le_of_ble_eq_true rfl, Nat.le_of_ble_eq_true rfl⟩ (Nat.le_of_ble_eq_true rfl) rfl d_Cl_items_85 h46 h47 (DI.k h (fun v49 w48 gw48 h => (?_ : WD _ _ 88 _ _ _ _ _ _)))
  refine x_istore (ls' := [(11, vI v49), (10, vI y0), (0, vR 0), (1, vA x1), (2, vA x2), (3, vI x3), (4, vI x4), (5, vA x5), (6, vA x6), (7, vI x7), (8, vA x8), (9, vI x9)]) d_Cl_items_88 (by decide) rfl (?_ : WD _ _ 90 _ _ _ _ _ _)
  refine x_bipush d_Cl_items_90 (by decide) (by decide) (?_ : WD _ _ 92 _ _ _ _ _ _)
  obtain ⟨h50, h⟩ := h
  obtain ⟨h51, h⟩ := h
  refine x_newa (t := 0) 9 rfl d_Cl_items_92 rfl (qm_1 (i := 107) rfl rfl) (fun _ => rfl) (fun _ _ => rfl) (fun _ => rfl) (by decide) (by decide) h50 h51 (fun q52 fq52 => (?_ : WD _ _ 94 _ _ _ _ _ _))
  replace h := h q52 fq52
  have k53 : Ow (uN w48 q52 (kA 0 9)) q52 (kA 0 9) := Ow.nw
  refine x_dup d_Cl_items_94 rfl (?_ : WD _ _ 95 _ _ _ _ _ _)
  refine x_iconst d_Cl_items_95 (by decide) (?_ : WD _ _ 96 _ _ _ _ _ _)
  refine x_aloadP (some x8) d_Cl_items_96 rfl (?_ : WD _ _ 98 _ _ _ _ _ _)
  obtain ⟨k54, h⟩ := h
  refine x_getI (ref := "CoinSamplerLaw$Item") (j := 0) 0 k54 clk_13 (by decide) (qm_4 (i := 151) rfl rfl) (Or.inl rfl) rfl rfl d_Cl_items_98 (y := (wI (uN w48 q52 (kA 0 9)) x8 0)) rfl (?_ : WD _ _ 101 _ _ _ _ _ _)
  obtain ⟨h55, h⟩ := h
  refine x_iast k53 d_Cl_items_101 (by decide) h55 (?_ : WD _ _ 102 _ _ _ _ _ _)
  refine x_dup d_Cl_items_102 rfl (?_ : WD _ _ 103 _ _ _ _ _ _)
  refine x_iconst d_Cl_items_103 (by decide) (?_ : WD _ _ 104 _ _ _ _ _ _)
  refine x_aloadP (some x8) d_Cl_items_104 rfl (?_ : WD _ _ 106 _ _ _ _ _ _)
  refine x_getI (ref := "CoinSamplerLaw$Item") (j := 1) 1 k54 clk_13 (by decide) (qm_4 (i := 153) rfl rfl) (Or.inl rfl) rfl rfl d_Cl_items_106 (y := (wI (uI (uN w48 q52 (kA 0 9)) q52 0 (wI (uN w48 q52 (kA 0 9)) x8 0)) x8 1)) rfl (?_ : WD _ _ 109 _ _ _ _ _ _)
  obtain ⟨h56, h⟩ := h
  refine x_iast k53 d_Cl_items_109 (by decide) h56 (?_ : WD _ _ 110 _ _ _ _ _ _)
  refine x_dup d_Cl_items_110 rfl (?_ : WD _ _ 111 _ _ _ _ _ _)
  refine x_iconst d_Cl_items_111 (by decide) (?_ : WD _ _ 112 _ _ _ _ _ _)
  refine x_aloadP (some x8) d_Cl_items_112 rfl (?_ : WD _ _ 114 _ _ _ _ _ _)
  refine x_getI (ref := "CoinSamplerLaw$Item") (j := 2) 2 k54 clk_13 (by decide) (qm_4 (i := 157) rfl rfl) (Or.inl rfl) rfl rfl d_Cl_items_114 (y := (wI (uI (uI (uN w48 q52 (kA 0 9)) q52 0 (wI (uN w48 q52 (kA 0 9)) x8 0)) q52 1 (wI (uI (uN w48 q52 (kA 0 9)) q52 0 (wI (uN w48 q52 (kA 0 9)) x8 0)) x8 1)) x8 2)) rfl (?_ : WD _ _ 117 _ _ _ _ _ _)
  obtain ⟨h57, h⟩ := h
  refine x_iast k53 d_Cl_items_117 (by decide) h57 (?_ : WD _ _ 118 _ _ _ _ _ _)
  refine x_dup d_Cl_items_118 rfl (?_ : WD _ _ 119 _ _ _ _ _ _)
  refine x_iconst d_Cl_items_119 (by decide) (?_ : WD _ _ 120 _ _ _ _ _ _)
  refine x_aloadP (some x8) d_Cl_items_120 rfl (?_ : WD _ _ 122 _ _ _ _ _ _)
  refine x_getI (ref := "CoinSamplerLaw$Item") (j := 3) 3 k54 clk_13 (by decide) (qm_4 (i := 159) rfl rfl) (Or.inl rfl) rfl rfl d_Cl_items_122 (y := (wI (uI (uI (uI (uN w48 q52 (kA 0 9)) q52 0 (wI (uN w48 q52 (kA 0 9)) x8 0)) q52 1 (wI (uI (uN w48 q52 (kA 0 9)) q52 0 (wI (uN w48 q52 (kA 0 9)) x8 0)) x8 1)) q52 2 (wI (uI (uI (uN w48 q52 (kA 0 9)) q52 0 (wI (uN w48 q52 (kA 0 9)) x8 0)) q52 1 (wI (uI (uN w48 q52 (kA 0 9)) q52 0 (wI (uN w48 q52 (kA 0 9)) x8 0)) x8 1)) x8 2)) x8 3)) rfl (?_ : WD _ _ 125 _ _ _ _ _ _)
  obtain ⟨h58, h⟩ := h
  refine x_iast k53 d_Cl_items_125 (by decide) h58 (?_ : WD _ _ 126 _ _ _ _ _ _)
  refine x_dup d_Cl_items_126 rfl (?_ : WD _ _ 127 _ _ _ _ _ _)
  refine x_iconst d_Cl_items_127 (by decide) (?_ : WD _ _ 128 _ _ _ _ _ _)
  refine x_aloadP (some x8) d_Cl_items_128 rfl (?_ : WD _ _ 130 _ _ _ _ _ _)
  refine x_callV (ν := M_It_error) [] ok_M_It_error okv_M_It_error k54 rfl rfl (qm_6 (i := 204) rfl rfl) np_M_It_error rfl ⟨Nat.le_of_ble_eq_true rfl, Nat.le_of_ble_eq_true rfl⟩ (Nat.le_of_ble_eq_true rfl) rfl d_Cl_items_130 (Nat.zero_le _) (Nat.zero_le _) (DI.k h (fun v60 w59 gw59 h => (?_ : WD _ _ 133 _ _ _ _ _ _)))
  obtain ⟨h61, h⟩ := h
  refine x_iast (k53.q gw59.k) d_Cl_items_133 (by decide) h61 (?_ : WD _ _ 134 _ _ _ _ _ _)
  refine x_dup d_Cl_items_134 rfl (?_ : WD _ _ 135 _ _ _ _ _ _)
  refine x_iconst d_Cl_items_135 (by decide) (?_ : WD _ _ 136 _ _ _ _ _ _)
  refine x_aloadP (some x8) d_Cl_items_136 rfl (?_ : WD _ _ 138 _ _ _ _ _ _)
  refine x_callV (ν := M_It_taint) [] ok_M_It_taint okv_M_It_taint (k54.q gw59.k) rfl rfl (qm_6 (i := 208) rfl rfl) np_M_It_taint rfl ⟨Nat.le_of_ble_eq_true rfl, Nat.le_of_ble_eq_true rfl⟩ (Nat.le_of_ble_eq_true rfl) rfl d_Cl_items_138 (Nat.zero_le _) (Nat.zero_le _) (DI.k h (fun v63 w62 gw62 h => (?_ : WD _ _ 141 _ _ _ _ _ _)))
  obtain ⟨h64, h⟩ := h
  refine x_iast ((k53.q gw59.k).q gw62.k) d_Cl_items_141 (by decide) h64 (?_ : WD _ _ 142 _ _ _ _ _ _)
  refine x_dup d_Cl_items_142 rfl (?_ : WD _ _ 143 _ _ _ _ _ _)
  refine x_bipush d_Cl_items_143 (by decide) (by decide) (?_ : WD _ _ 145 _ _ _ _ _ _)
  refine x_iload d_Cl_items_145 rfl (?_ : WD _ _ 147 _ _ _ _ _ _)
  refine x_if_eq 154 d_Cl_items_147 rfl ⟨fun c65 => (?_ : WD _ _ 154 _ _ _ _ _ _), fun c65 => (?_ : WD _ _ 150 _ _ _ _ _ _)⟩
  · replace h := h.1 c65
    refine x_iconst d_Cl_items_154 (by decide) (?_ : WD _ _ 155 _ _ _ _ _ _)
    refine x_pick (ls' := [(0, vR 0), (1, vA x1), (2, vA x2), (3, vI x3), (4, vI x4), (5, vA x5), (6, vA x6), (7, vI x7), (8, vA x8), (9, vI x9), (10, vI y0), (11, vI v49)]) [2, 3, 4, 5, 6, 7, 8, 9, 10, 11, 1, 0] rfl ?_
    exact h
  · replace h := h.2 c65
    refine x_iconst d_Cl_items_150 (by decide) (?_ : WD _ _ 151 _ _ _ _ _ _)
    refine x_goto 155 d_Cl_items_151 rfl ?_
    refine x_pick (ls' := [(0, vR 0), (1, vA x1), (2, vA x2), (3, vI x3), (4, vI x4), (5, vA x5), (6, vA x6), (7, vI x7), (8, vA x8), (9, vI x9), (10, vI y0), (11, vI v49)]) [2, 3, 4, 5, 6, 7, 8, 9, 10, 11, 1, 0] rfl ?_
    exact h
set_option maxRecDepth 20000 in
theorem l_Cl_items_8 {G : Gq} {K : Int → Wd → Prop} {w : Wd} {rc rs : Nat} (x1 : Nat) (x4 : Int) (x5 : Nat) (x6 : Nat) (x7 : Option Nat) (h : ∃ a66 : Nat, x7 = some a66 ∧ ((Is G w a66 (kO 15)) ∧ DI G M_Ai_hasNext [vA a66] w 0 0 (fun v70 w69 => (v70 = 0 → WD G M_Cl_items 411 [(0, vR 0), (4, vI x4), (5, vA x5), (6, vA x6), (7, vI 0)] [] w69 rc rs (yI K)) ∧ (¬ v70 = 0 → DP G M_Ai_next [vA a66] w69 0 0 (fun v73 w72 => ∃ a74 : Nat, v73 = some a74 ∧ ((Is G w72 a74 (kO 12)) ∧ (Is G w72 x1 (kO 11)) ∧ ∃ a78 : Nat, (wR w72 x1 0) = some a78 ∧ ((Is G w72 a78 (kO 14)) ∧ DP G M_Al_get [vA a78, vI (wI w72 a74 0)] w72 0 0 (fun v82 w81 => ∃ a83 : Nat, v82 = some a83 ∧ ((Is G w81 a83 (kO 13)) ∧ ∃ n86 : Nat, ((Is G w81 x5 (kR 6 n86)) ∧ (0 ≤ (wI w81 a83 0)) ∧ ((wI w81 a83 0) < (n86 : Int)) ∧ (Ow w81 x5 (kR 6 n86)) ∧ ∃ a91 : Nat, (wR w81 x5 (wI w81 a83 0)) = some a91 ∧ (∃ n93 : Nat, ((Is G w81 a91 (kA 0 n93)) ∧ (5 < (n93 : Int)) ∧ ∃ a96 : Nat, (wR w81 x1 1) = some a96 ∧ ((Is G w81 a96 (kO 14)) ∧ DI G M_Al_size [vA a96] w81 0 0 (fun v100 w99 => DI G M_Bo_part [vA x1, vA a74, vI v100] w99 0 0 (fun v102 w101 => (inR ((wI w81 a91 5) + v102)) ∧ (Ow w101 a91 (kA 0 n93)) ∧ WD G M_Cl_items 344 [(0, vR 0), (1, vA x1), (4, vI x4), (5, vA x5), (6, vA x6), (7, vP (some a66))] [] (uI w101 a91 5 ((wI w81 a91 5) + v102)) rc rs (yI K)))))))))))))))) : WD G M_Cl_items 344 [(0, vR 0), (1, vA x1), (4, vI x4), (5, vA x5), (6, vA x6), (7, vP x7)] [] w rc rs (yI K) := by
  refine x_aloadP x7 d_Cl_items_344 rfl (?_ : WD _ _ 346 _ _ _ _ _ _)
  obtain ⟨a66, e67, h⟩ := h
  rw [e67]
  obtain ⟨k68, h⟩ := h
  refine x_callF (ν := M_Ai_hasNext) ⟨"java/util/Iterator", "hasNext", "()Z"⟩ [] ok_M_Ai_hasNext oki_M_Ai_hasNext k68 rfl (qm_2 (i := 226) rfl rfl) (by decide) (qm_5 (i := 182) rfl rfl) (show _ = some 0 from by decide +kernel) rfl ⟨Nat.le_of_ble_eq_true rfl, Nat.le_of_ble_eq_true rfl⟩ (Nat.le_of_ble_eq_true rfl) rfl d_Cl_items_346 (Nat.zero_le _) (Nat.zero_le _) (DI.k h (fun v70 w69 gw69 h => (?_ : WD _ _ 351 _ _ _ _ _ _)))
  refine x_if_eq 408 d_Cl_items_351 rfl ⟨fun c71 => (?_ : WD _ _ 408 _ _ _ _ _ _), fun c71 => (?_ : WD _ _ 354 _ _ _ _ _ _)⟩
  · replace h := h.1 c71
    refine x_iconst d_Cl_items_408 (by decide) (?_ : WD _ _ 409 _ _ _ _ _ _)
    refine x_istore (ls' := [(7, vI 0), (0, vR 0), (1, vA x1), (4, vI x4), (5, vA x5), (6, vA x6)]) d_Cl_items_409 (by decide) rfl (?_ : WD _ _ 411 _ _ _ _ _ _)
    refine x_pick (ls' := [(0, vR 0), (4, vI x4), (5, vA x5), (6, vA x6), (7, vI 0)]) [1, 3, 4, 5, 0] rfl ?_
    exact h
  · replace h := h.2 c71
    refine x_aloadP (some a66) d_Cl_items_354 rfl (?_ : WD _ _ 356 _ _ _ _ _ _)
    refine x_callF (ν := M_Ai_next) ⟨"java/util/Iterator", "next", "()Ljava/lang/Object;"⟩ [] ok_M_Ai_next oki_M_Ai_next (k68.q gw69.k) rfl (qm_3 (i := 7) rfl rfl) (by decide) (qm_5 (i := 184) rfl rfl) (show _ = some 0 from by decide +kernel) rfl ⟨Nat.le_of_ble_eq_true rfl, Nat.le_of_ble_eq_true rfl⟩ (Nat.le_of_ble_eq_true rfl) rfl d_Cl_items_356 (Nat.zero_le _) (Nat.zero_le _) (DP.k h (fun v73 w72 gw72 h => (?_ : WD _ _ 361 _ _ _ _ _ _)))
    obtain ⟨a74, e75, h⟩ := h
    rw [e75]
    obtain ⟨k76, h⟩ := h
    refine x_cast k76 rfl (Or.inl rfl) (qm_6 (i := 203) rfl rfl) d_Cl_items_361 (?_ : WD _ _ 364 _ _ _ _ _ _)
    refine x_astoreP (some a74) (ls' := [(8, vA a74), (0, vR 0), (1, vA x1), (4, vI x4), (5, vA x5), (6, vA x6), (7, vA a66)]) d_Cl_items_364 (by decide) rfl (?_ : WD _ _ 366 _ _ _ _ _ _)
    refine x_aloadP (some x5) d_Cl_items_366 rfl (?_ : WD _ _ 368 _ _ _ _ _ _)
    refine x_aload_nP (some x1) d_Cl_items_368 rfl (?_ : WD _ _ 369 _ _ _ _ _ _)
    obtain ⟨k77, h⟩ := h
    refine x_getP (ref := "CoinSamplerLaw$Books") (j := 0) 0 k77 clk_11 (by decide) (qm_2 (i := 156) rfl rfl) (Or.inl rfl) rfl rfl d_Cl_items_369 (y := (wR w72 x1 0)) rfl (?_ : WD _ _ 372 _ _ _ _ _ _)
    refine x_aloadP (some a74) d_Cl_items_372 rfl (?_ : WD _ _ 374 _ _ _ _ _ _)
    refine x_getI (ref := "CoinSamplerLaw$Hit") (j := 0) 0 k76 clk_12 (by decide) (qm_3 (i := 85) rfl rfl) (Or.inl rfl) rfl rfl d_Cl_items_374 (y := (wI w72 a74 0)) rfl (?_ : WD _ _ 377 _ _ _ _ _ _)
    obtain ⟨a78, e79, h⟩ := h
    rw [e79]
    obtain ⟨k80, h⟩ := h
    refine x_callV (ν := M_Al_get) [vI (wI w72 a74 0)] ok_M_Al_get okv_M_Al_get k80 rfl rfl (qm_3 (i := 183) rfl rfl) np_M_Al_get rfl ⟨Nat.le_of_ble_eq_true rfl, Nat.le_of_ble_eq_true rfl⟩ (Nat.le_of_ble_eq_true rfl) rfl d_Cl_items_377 (Nat.zero_le _) (Nat.zero_le _) (DP.k h (fun v82 w81 gw81 h => (?_ : WD _ _ 380 _ _ _ _ _ _)))
    obtain ⟨a83, e84, h⟩ := h
    rw [e84]
    obtain ⟨k85, h⟩ := h
    refine x_cast k85 rfl (Or.inl rfl) (qm_3 (i := 184) rfl rfl) d_Cl_items_380 (?_ : WD _ _ 383 _ _ _ _ _ _)
    refine x_getI (ref := "CoinSamplerLaw$Item") (j := 0) 0 k85 clk_13 (by decide) (qm_4 (i := 151) rfl rfl) (Or.inl rfl) rfl rfl d_Cl_items_383 (y := (wI w81 a83 0)) rfl (?_ : WD _ _ 386 _ _ _ _ _ _)
    obtain ⟨n86, h⟩ := h
    obtain ⟨k87, h⟩ := h
    obtain ⟨h88, h⟩ := h
    obtain ⟨h89, h⟩ := h
    obtain ⟨k90, h⟩ := h
    refine x_aaldA k90 d_Cl_items_386 h88 h89 (y := (wR w81 x5 (wI w81 a83 0))) rfl (?_ : WD _ _ 387 _ _ _ _ _ _)
    refine x_iconst d_Cl_items_387 (by decide) (?_ : WD _ _ 388 _ _ _ _ _ _)
    refine x_dup2 d_Cl_items_388 rfl rfl (?_ : WD _ _ 389 _ _ _ _ _ _)
    obtain ⟨a91, e92, h⟩ := h
    rw [e92]
    obtain ⟨n93, h⟩ := h
    obtain ⟨k94, h⟩ := h
    obtain ⟨h95, h⟩ := h
    refine x_iald k94 d_Cl_items_389 (by decide) h95 (y := (wI w81 a91 5)) rfl (?_ : WD _ _ 390 _ _ _ _ _ _)
    refine x_aload_nP (some x1) d_Cl_items_390 rfl (?_ : WD _ _ 391 _ _ _ _ _ _)
    refine x_aloadP (some a74) d_Cl_items_391 rfl (?_ : WD _ _ 393 _ _ _ _ _ _)
    refine x_aload_nP (some x1) d_Cl_items_393 rfl (?_ : WD _ _ 394 _ _ _ _ _ _)
    refine x_getP (ref := "CoinSamplerLaw$Books") (j := 1) 1 (k77.q gw81.k) clk_11 (by decide) (qm_2 (i := 158) rfl rfl) (Or.inl rfl) rfl rfl d_Cl_items_394 (y := (wR w81 x1 1)) rfl (?_ : WD _ _ 397 _ _ _ _ _ _)
    obtain ⟨a96, e97, h⟩ := h
    rw [e97]
    obtain ⟨k98, h⟩ := h
    refine x_callV (ν := M_Al_size) [] ok_M_Al_size okv_M_Al_size k98 rfl rfl (qm_3 (i := 178) rfl rfl) np_M_Al_size rfl ⟨Nat.le_of_ble_eq_true rfl, Nat.le_of_ble_eq_true rfl⟩ (Nat.le_of_ble_eq_true rfl) rfl d_Cl_items_397 (Nat.zero_le _) (Nat.zero_le _) (DI.k h (fun v100 w99 gw99 h => (?_ : WD _ _ 400 _ _ _ _ _ _)))
    refine x_callV (ν := M_Bo_part) [vA a74, vI v100] ok_M_Bo_part okv_M_Bo_part ((k77.q gw81.k).q gw99.k) rfl rfl (qm_9 (i := 26) rfl rfl) np_M_Bo_part rfl ⟨Nat.le_of_ble_eq_true rfl, Nat.le_of_ble_eq_true rfl⟩ (Nat.le_of_ble_eq_true rfl) rfl d_Cl_items_400 (Nat.zero_le _) (Nat.zero_le _) (DI.k h (fun v102 w101 gw101 h => (?_ : WD _ _ 403 _ _ _ _ _ _)))
    obtain ⟨h103, h⟩ := h
    refine x_iadd d_Cl_items_403 h103 (?_ : WD _ _ 404 _ _ _ _ _ _)
    obtain ⟨k104, h⟩ := h
    refine x_iast k104 d_Cl_items_404 (by decide) h95 (?_ : WD _ _ 405 _ _ _ _ _ _)
    refine x_goto 344 d_Cl_items_405 rfl ?_
    refine x_pick (ls' := [(0, vR 0), (1, vA x1), (4, vI x4), (5, vA x5), (6, vA x6), (7, vP (some a66))]) [1, 2, 3, 4, 5, 6] rfl ?_
    exact h
set_option maxRecDepth 20000 in
theorem l_Cl_items_3 {G : Gq} {K : Int → Wd → Prop} {w : Wd} {rc rs : Nat} (x1 : Nat) (x2 : Nat) (x3 : Int) (x4 : Int) (x5 : Nat) (x6 : Nat) (x7 : Int) (x8 : Nat) (x9 : Int) (x10 : Int) (x11 : Int) (y0 : Int) (y1 : Int) (y2 : Nat) (y3 : Nat) (h : ∃ n105 : Nat, ((Ow w y2 (kA 0 n105)) ∧ (0 ≤ y1) ∧ (y1 < (n105 : Int)) ∧ ∃ n109 : Nat, ((Ow (uI w y2 y1 y0) y3 (kA 0 n109)) ∧ (7 < (n109 : Int)) ∧ (x10 = 0 → WD G M_Cl_items 175 [(0, vR 0), (1, vA x1), (2, vA x2), (3, vI x3), (4, vI x4), (5, vA x5), (6, vA x6), (7, vI x7), (8, vA x8), (9, vI x9), (10, vI x10), (11, vI x11)] [vI 0, vI 8, vA y3, vA y3] (uI (uI w y2 y1 y0) y3 7 x11) rc rs (yI K)) ∧ (¬ x10 = 0 → WD G M_Cl_items 175 [(0, vR 0), (1, vA x1), (2, vA x2), (3, vI x3), (4, vI x4), (5, vA x5), (6, vA x6), (7, vI x7), (8, vA x8), (9, vI x9), (10, vI x10), (11, vI x11)] [vI x3, vI 8, vA y3, vA y3] (uI (uI w y2 y1 y0) y3 7 x11) rc rs (yI K))))) : WD G M_Cl_items 155 [(0, vR 0), (1, vA x1), (2, vA x2), (3, vI x3), (4, vI x4), (5, vA x5), (6, vA x6), (7, vI x7), (8, vA x8), (9, vI x9), (10, vI x10), (11, vI x11)] [vI y0, vI y1, vA y2, vA y3] w rc rs (yI K) := by
  obtain ⟨n105, h⟩ := h
  obtain ⟨k106, h⟩ := h
  obtain ⟨h107, h⟩ := h
  obtain ⟨h108, h⟩ := h
  refine x_iast k106 d_Cl_items_155 h107 h108 (?_ : WD _ _ 156 _ _ _ _ _ _)
  refine x_dup d_Cl_items_156 rfl (?_ : WD _ _ 157 _ _ _ _ _ _)
  refine x_bipush d_Cl_items_157 (by decide) (by decide) (?_ : WD _ _ 159 _ _ _ _ _ _)
  refine x_iload d_Cl_items_159 rfl (?_ : WD _ _ 161 _ _ _ _ _ _)
  obtain ⟨n109, h⟩ := h
  obtain ⟨k110, h⟩ := h
  obtain ⟨h111, h⟩ := h
  refine x_iast k110 d_Cl_items_161 (by decide) h111 (?_ : WD _ _ 162 _ _ _ _ _ _)
  refine x_dup d_Cl_items_162 rfl (?_ : WD _ _ 163 _ _ _ _ _ _)
  refine x_bipush d_Cl_items_163 (by decide) (by decide) (?_ : WD _ _ 165 _ _ _ _ _ _)
  refine x_iload d_Cl_items_165 rfl (?_ : WD _ _ 167 _ _ _ _ _ _)
  refine x_if_eq 174 d_Cl_items_167 rfl ⟨fun c112 => (?_ : WD _ _ 174 _ _ _ _ _ _), fun c112 => (?_ : WD _ _ 170 _ _ _ _ _ _)⟩
  · replace h := h.1 c112
    refine x_iconst d_Cl_items_174 (by decide) (?_ : WD _ _ 175 _ _ _ _ _ _)
    exact h
  · replace h := h.2 c112
    refine x_iload_n d_Cl_items_170 rfl (?_ : WD _ _ 171 _ _ _ _ _ _)
    refine x_goto 175 d_Cl_items_171 rfl ?_
    exact h
set_option maxRecDepth 20000 in
theorem l_Cl_items_9 {G : Gq} {K : Int → Wd → Prop} {w : Wd} {rc rs : Nat} (x4 : Int) (x5 : Nat) (x6 : Nat) (x7 : Int) (h : (7 ≤ x7 → ∃ c114 s115 : Nat, c114 ≤ rc ∧ s115 ≤ rs ∧ ((Is G w x6 (kO 19)) ∧ DP G M_Hs_iterator [vA x6] w c114 s115 (fun v120 w119 => WD G M_Cl_items 471 [(0, vR 0), (4, vI x4), (7, vI 0), (8, vP v120)] [] w119 (rc - c114) (rs - s115) (yI K)))) ∧ (¬ 7 ≤ x7 → WD G M_Cl_items 421 [(0, vR 0), (4, vI x4), (5, vA x5), (6, vA x6), (7, vI x7), (8, vI 0)] [] w rc rs (yI K))) : WD G M_Cl_items 411 [(0, vR 0), (4, vI x4), (5, vA x5), (6, vA x6), (7, vI x7)] [] w rc rs (yI K) := by
  refine x_iload d_Cl_items_411 rfl (?_ : WD _ _ 413 _ _ _ _ _ _)
  refine x_bipush d_Cl_items_413 (by decide) (by decide) (?_ : WD _ _ 415 _ _ _ _ _ _)
  refine x_icmp_ge 461 d_Cl_items_415 rfl ⟨fun c113 => (?_ : WD _ _ 461 _ _ _ _ _ _), fun c113 => (?_ : WD _ _ 418 _ _ _ _ _ _)⟩
  · replace h := h.1 c113
    refine x_iconst d_Cl_items_461 (by decide) (?_ : WD _ _ 462 _ _ _ _ _ _)
    refine x_istore (ls' := [(7, vI 0), (0, vR 0), (4, vI x4), (5, vA x5), (6, vA x6)]) d_Cl_items_462 (by decide) rfl (?_ : WD _ _ 464 _ _ _ _ _ _)
    refine x_aloadP (some x6) d_Cl_items_464 rfl (?_ : WD _ _ 466 _ _ _ _ _ _)
    obtain ⟨c114, s115, h116, h117, h⟩ := h
    obtain ⟨k118, h⟩ := h
    refine x_callU (ν := M_Hs_iterator) ⟨"java/util/LinkedHashSet", "iterator", "()Ljava/util/Iterator;"⟩ "java/util/HashSet" [] ok_M_Hs_iterator oki_M_Hs_iterator k118 rfl (sel_in (qm_9 (i := 58) rfl rfl)) (qm_9 (i := 56) rfl rfl) (Or.inr (Or.inl rfl)) (by decide) (qm_9 (i := 55) rfl rfl) (show _ = some 0 from by decide +kernel) rfl ⟨Nat.le_of_ble_eq_true rfl, Nat.le_of_ble_eq_true rfl⟩ (Nat.le_of_ble_eq_true rfl) rfl d_Cl_items_466 h116 h117 (DP.k h (fun v120 w119 gw119 h => (?_ : WD _ _ 469 _ _ _ _ _ _)))
    refine x_astoreP v120 (ls' := [(8, vP v120), (7, vI 0), (0, vR 0), (4, vI x4), (5, vA x5), (6, vA x6)]) d_Cl_items_469 (by decide) rfl (?_ : WD _ _ 471 _ _ _ _ _ _)
    refine x_pick (ls' := [(0, vR 0), (4, vI x4), (7, vI 0), (8, vP v120)]) [2, 3, 1, 0] rfl ?_
    exact h
  · replace h := h.2 c113
    refine x_iconst d_Cl_items_418 (by decide) (?_ : WD _ _ 419 _ _ _ _ _ _)
    refine x_istore (ls' := [(8, vI 0), (0, vR 0), (4, vI x4), (5, vA x5), (6, vA x6), (7, vI x7)]) d_Cl_items_419 (by decide) rfl (?_ : WD _ _ 421 _ _ _ _ _ _)
    refine x_pick (ls' := [(0, vR 0), (4, vI x4), (5, vA x5), (6, vA x6), (7, vI x7), (8, vI 0)]) [1, 2, 3, 4, 5, 0] rfl ?_
    exact h
set_option maxRecDepth 20000 in
theorem l_Cl_items_4 {G : Gq} {K : Int → Wd → Prop} {w : Wd} {rc rs : Nat} (x1 : Nat) (x2 : Nat) (x3 : Int) (x4 : Int) (x5 : Nat) (x6 : Nat) (x7 : Int) (x8 : Nat) (x9 : Int) (x10 : Int) (x11 : Int) (y0 : Int) (y1 : Int) (y2 : Nat) (y3 : Nat) (h : ∃ n121 : Nat, ((Ow w y2 (kA 0 n121)) ∧ (0 ≤ y1) ∧ (y1 < (n121 : Int)) ∧ WD G M_Cl_items 181 [(0, vR 0), (1, vA x1), (2, vA x2), (3, vI x3), (4, vI x4), (5, vA x5), (6, vA x6), (7, vI x7), (8, vA x8), (9, vI x9), (10, vI x10), (11, vI x11), (12, vA y3), (13, vI 0)] [] (uI w y2 y1 y0) rc rs (yI K))) : WD G M_Cl_items 175 [(0, vR 0), (1, vA x1), (2, vA x2), (3, vI x3), (4, vI x4), (5, vA x5), (6, vA x6), (7, vI x7), (8, vA x8), (9, vI x9), (10, vI x10), (11, vI x11)] [vI y0, vI y1, vA y2, vA y3] w rc rs (yI K) := by
  obtain ⟨n121, h⟩ := h
  obtain ⟨k122, h⟩ := h
  obtain ⟨h123, h⟩ := h
  obtain ⟨h124, h⟩ := h
  refine x_iast k122 d_Cl_items_175 h123 h124 (?_ : WD _ _ 176 _ _ _ _ _ _)
  refine x_astoreP (some y3) (ls' := [(12, vA y3), (0, vR 0), (1, vA x1), (2, vA x2), (3, vI x3), (4, vI x4), (5, vA x5), (6, vA x6), (7, vI x7), (8, vA x8), (9, vI x9), (10, vI x10), (11, vI x11)]) d_Cl_items_176 (by decide) rfl (?_ : WD _ _ 178 _ _ _ _ _ _)
  refine x_iconst d_Cl_items_178 (by decide) (?_ : WD _ _ 179 _ _ _ _ _ _)
  refine x_istore (ls' := [(13, vI 0), (12, vA y3), (0, vR 0), (1, vA x1), (2, vA x2), (3, vI x3), (4, vI x4), (5, vA x5), (6, vA x6), (7, vI x7), (8, vA x8), (9, vI x9), (10, vI x10), (11, vI x11)]) d_Cl_items_179 (by decide) rfl (?_ : WD _ _ 181 _ _ _ _ _ _)
  refine x_pick (ls' := [(0, vR 0), (1, vA x1), (2, vA x2), (3, vI x3), (4, vI x4), (5, vA x5), (6, vA x6), (7, vI x7), (8, vA x8), (9, vI x9), (10, vI x10), (11, vI x11), (12, vA y3), (13, vI 0)]) [2, 3, 4, 5, 6, 7, 8, 9, 10, 11, 12, 13, 1, 0] rfl ?_
  exact h
set_option maxRecDepth 20000 in
theorem l_Cl_items_10 {G : Gq} {K : Int → Wd → Prop} {w : Wd} {rc rs : Nat} (x4 : Int) (x5 : Nat) (x6 : Nat) (x7 : Int) (x8 : Int) (h : (6 ≤ x8 → (inR (x7 + 1)) ∧ WD G M_Cl_items 411 [(0, vR 0), (4, vI x4), (5, vA x5), (6, vA x6), (7, vI (x7 + 1))] [] w rc rs (yI K)) ∧ (¬ 6 ≤ x8 → CI M_Cs_account [vR 0, vI x7, vI x8] (wS w) (fun v127 σ128 => ∃ n129 : Nat, ((Is G (uS w σ128) x5 (kR 6 n129)) ∧ (0 ≤ x7) ∧ (x7 < (n129 : Int)) ∧ (Ow (uS w σ128) x5 (kR 6 n129)) ∧ ∃ a134 : Nat, (wR w x5 x7) = some a134 ∧ (∃ n136 : Nat, ((Is G (uS w σ128) a134 (kA 0 n136)) ∧ (0 ≤ x8) ∧ (x8 < (n136 : Int)) ∧ (v127 = (wI w a134 x8) → (inR (x8 + 1)) ∧ WD G M_Cl_items 421 [(0, vR 0), (4, vI x4), (5, vA x5), (6, vA x6), (7, vI x7), (8, vI (x8 + 1))] [] (uS w σ128) rc rs (yI K)) ∧ (¬ v127 = (wI w a134 x8) → K 0 (uS w σ128)))))))) : WD G M_Cl_items 421 [(0, vR 0), (4, vI x4), (5, vA x5), (6, vA x6), (7, vI x7), (8, vI x8)] [] w rc rs (yI K) := by
  refine x_iload d_Cl_items_421 rfl (?_ : WD _ _ 423 _ _ _ _ _ _)
  refine x_bipush d_Cl_items_423 (by decide) (by decide) (?_ : WD _ _ 425 _ _ _ _ _ _)
  refine x_icmp_ge 455 d_Cl_items_425 rfl ⟨fun c125 => (?_ : WD _ _ 455 _ _ _ _ _ _), fun c125 => (?_ : WD _ _ 428 _ _ _ _ _ _)⟩
  · replace h := h.1 c125
    obtain ⟨h126, h⟩ := h
    refine x_iinc (ls' := [(7, vI (x7 + 1)), (0, vR 0), (4, vI x4), (5, vA x5), (6, vA x6), (8, vI x8)]) d_Cl_items_455 rfl h126 (by decide) rfl (?_ : WD _ _ 458 _ _ _ _ _ _)
    refine x_goto 411 d_Cl_items_458 rfl ?_
    refine x_pick (ls' := [(0, vR 0), (4, vI x4), (5, vA x5), (6, vA x6), (7, vI (x7 + 1))]) [1, 2, 3, 4, 0] rfl ?_
    exact h
  · replace h := h.2 c125
    refine x_aload_n d_Cl_items_428 rfl (?_ : WD _ _ 429 _ _ _ _ _ _)
    refine x_iload d_Cl_items_429 rfl (?_ : WD _ _ 431 _ _ _ _ _ _)
    refine x_iload d_Cl_items_431 rfl (?_ : WD _ _ 433 _ _ _ _ _ _)
    refine x_callC (ν := M_Cs_account) (k := 0) [vI x7, vI x8] ok_M_Cs_account okv_M_Cs_account (by decide) rfl rfl rfl (qm_9 (i := 32) rfl rfl) np_M_Cs_account rfl ⟨Nat.le_of_ble_eq_true rfl, Nat.le_of_ble_eq_true rfl⟩ (Nat.le_of_ble_eq_true rfl) rfl d_Cl_items_433 (CI.kd h (fun v127 σ128 h => (?_ : WD _ _ 436 _ _ _ _ _ _)))
    refine x_aloadP (some x5) d_Cl_items_436 rfl (?_ : WD _ _ 438 _ _ _ _ _ _)
    refine x_iload d_Cl_items_438 rfl (?_ : WD _ _ 440 _ _ _ _ _ _)
    obtain ⟨n129, h⟩ := h
    obtain ⟨k130, h⟩ := h
    obtain ⟨h131, h⟩ := h
    obtain ⟨h132, h⟩ := h
    obtain ⟨k133, h⟩ := h
    refine x_aaldA k133 d_Cl_items_440 h131 h132 (y := (wR w x5 x7)) rfl (?_ : WD _ _ 441 _ _ _ _ _ _)
    refine x_iload d_Cl_items_441 rfl (?_ : WD _ _ 443 _ _ _ _ _ _)
    obtain ⟨a134, e135, h⟩ := h
    rw [e135]
    obtain ⟨n136, h⟩ := h
    obtain ⟨k137, h⟩ := h
    obtain ⟨h138, h⟩ := h
    obtain ⟨h139, h⟩ := h
    refine x_iald k137 d_Cl_items_443 h138 h139 (y := (wI w a134 x8)) rfl (?_ : WD _ _ 444 _ _ _ _ _ _)
    refine x_icmp_eq 449 d_Cl_items_444 rfl ⟨fun c140 => (?_ : WD _ _ 449 _ _ _ _ _ _), fun c140 => (?_ : WD _ _ 447 _ _ _ _ _ _)⟩
    · replace h := h.1 c140
      obtain ⟨h141, h⟩ := h
      refine x_iinc (ls' := [(8, vI (x8 + 1)), (0, vR 0), (4, vI x4), (5, vA x5), (6, vA x6), (7, vI x7)]) d_Cl_items_449 rfl h141 (by decide) rfl (?_ : WD _ _ 452 _ _ _ _ _ _)
      refine x_goto 421 d_Cl_items_452 rfl ?_
      refine x_pick (ls' := [(0, vR 0), (4, vI x4), (5, vA x5), (6, vA x6), (7, vI x7), (8, vI (x8 + 1))]) [1, 2, 3, 4, 5, 0] rfl ?_
      exact h
    · replace h := h.2 c140
      refine x_iconst d_Cl_items_447 (by decide) (?_ : WD _ _ 448 _ _ _ _ _ _)
      exact x_zreturn rfl d_Cl_items_448 (by decide) h
set_option maxRecDepth 20000 in
theorem l_Cl_items_11 {G : Gq} {K : Int → Wd → Prop} {w : Wd} {rc rs : Nat} (x4 : Int) (x7 : Int) (x8 : Option Nat) (h : ∃ a142 : Nat, x8 = some a142 ∧ ((Is G w a142 (kO 23)) ∧ DI G M_Lh_hasNext [vA a142] w 0 0 (fun v146 w145 => (v146 = 0 → CI M_Cs_accounts [vR 0, vI x7] (wS w145) (fun v148 σ149 => (¬ v148 = (-1) → K 0 (uS w145 σ149)) ∧ (v148 = (-1) → CI M_Cs_accounts [vR 0, vI (-1)] (wS (uS w145 σ149)) (fun v151 σ152 => (¬ v151 = x7 → K 0 (uS (uS w145 σ149) σ152)) ∧ (v151 = x7 → CI M_Cs_accounts [vR 0, vI (-2)] (wS (uS (uS w145 σ149) σ152)) (fun v154 σ155 => (¬ v154 = (-3) → K 0 (uS (uS (uS w145 σ149) σ152) σ155)) ∧ (v154 = (-3) → CI M_Cs_account [vR 0, vI 100, vI 0] (wS (uS (uS (uS w145 σ149) σ152) σ155)) (fun v157 σ158 => (¬ v157 = (-10000000) → K 0 (uS (uS (uS (uS w145 σ149) σ152) σ155) σ158)) ∧ (v157 = (-10000000) → CI M_Cs_account [vR 0, vI 0, vI 6] (wS (uS (uS (uS (uS w145 σ149) σ152) σ155) σ158)) (fun v160 σ161 => (¬ v160 = (-10000000) → K 0 (uS (uS (uS (uS (uS w145 σ149) σ152) σ155) σ158) σ161)) ∧ (v160 = (-10000000) → CI M_Cs_item [vR 0, vI x4, vI 0] (wS (uS (uS (uS (uS (uS w145 σ149) σ152) σ155) σ158) σ161)) (fun v163 σ164 => (¬ v163 = (-10000000) → K 0 (uS (uS (uS (uS (uS (uS w145 σ149) σ152) σ155) σ158) σ161) σ164)) ∧ (v163 = (-10000000) → CI M_Cs_item [vR 0, vI (-1), vI 0] (wS (uS (uS (uS (uS (uS (uS w145 σ149) σ152) σ155) σ158) σ161) σ164)) (fun v166 σ167 => (¬ v166 = (-10000000) → K 0 (uS (uS (uS (uS (uS (uS (uS w145 σ149) σ152) σ155) σ158) σ161) σ164) σ167)) ∧ (v166 = (-10000000) → CI M_Cs_find [vR 0, vI 99, vI 9999] (wS (uS (uS (uS (uS (uS (uS (uS w145 σ149) σ152) σ155) σ158) σ161) σ164) σ167)) (fun v169 σ170 => (¬ v169 = (-1) → K 0 (uS (uS (uS (uS (uS (uS (uS (uS w145 σ149) σ152) σ155) σ158) σ161) σ164) σ167) σ170)) ∧ (v169 = (-1) → K 1 (uS (uS (uS (uS (uS (uS (uS (uS w145 σ149) σ152) σ155) σ158) σ161) σ164) σ167) σ170)))))))))))))))))) ∧ (¬ v146 = 0 → DP G M_Lk_next [vA a142] w145 0 0 (fun v173 w172 => ∃ a174 : Nat, v173 = some a174 ∧ ((Is G w172 a174 (kO 16)) ∧ DI G M_In_intValue [vA a174] w172 0 0 (fun v178 w177 => (inR (x7 + 1)) ∧ CI M_Cs_accounts [vR 0, vI x7] (wS w177) (fun v180 σ181 => (v180 = v178 → WD G M_Cl_items 471 [(0, vR 0), (4, vI x4), (7, vI (x7 + 1)), (8, vP (some a142))] [] (uS w177 σ181) rc rs (yI K)) ∧ (¬ v180 = v178 → K 0 (uS w177 σ181)))))))))) : WD G M_Cl_items 471 [(0, vR 0), (4, vI x4), (7, vI x7), (8, vP x8)] [] w rc rs (yI K) := by
  refine x_aloadP x8 d_Cl_items_471 rfl (?_ : WD _ _ 473 _ _ _ _ _ _)
  obtain ⟨a142, e143, h⟩ := h
  rw [e143]
  obtain ⟨k144, h⟩ := h
  refine x_callF (ν := M_Lh_hasNext) ⟨"java/util/Iterator", "hasNext", "()Z"⟩ [] ok_M_Lh_hasNext oki_M_Lh_hasNext k144 rfl (qm_2 (i := 238) rfl rfl) (by decide) (qm_5 (i := 182) rfl rfl) (show _ = some 0 from by decide +kernel) rfl ⟨Nat.le_of_ble_eq_true rfl, Nat.le_of_ble_eq_true rfl⟩ (Nat.le_of_ble_eq_true rfl) rfl d_Cl_items_473 (Nat.zero_le _) (Nat.zero_le _) (DI.k h (fun v146 w145 gw145 h => (?_ : WD _ _ 478 _ _ _ _ _ _)))
  refine x_if_eq 515 d_Cl_items_478 rfl ⟨fun c147 => (?_ : WD _ _ 515 _ _ _ _ _ _), fun c147 => (?_ : WD _ _ 481 _ _ _ _ _ _)⟩
  · replace h := h.1 c147
    refine x_aload_n d_Cl_items_515 rfl (?_ : WD _ _ 516 _ _ _ _ _ _)
    refine x_iload d_Cl_items_516 rfl (?_ : WD _ _ 518 _ _ _ _ _ _)
    refine x_callC (ν := M_Cs_accounts) (k := 0) [vI x7] ok_M_Cs_accounts okv_M_Cs_accounts (by decide) rfl rfl rfl (qm_9 (i := 158) rfl rfl) np_M_Cs_accounts rfl ⟨Nat.le_of_ble_eq_true rfl, Nat.le_of_ble_eq_true rfl⟩ (Nat.le_of_ble_eq_true rfl) rfl d_Cl_items_518 (CI.kd h (fun v148 σ149 h => (?_ : WD _ _ 521 _ _ _ _ _ _)))
    refine x_iconst d_Cl_items_521 (by decide) (?_ : WD _ _ 522 _ _ _ _ _ _)
    refine x_icmp_ne 610 d_Cl_items_522 rfl ⟨fun c150 => (?_ : WD _ _ 610 _ _ _ _ _ _), fun c150 => (?_ : WD _ _ 525 _ _ _ _ _ _)⟩
    · replace h := h.1 c150
      refine x_iconst d_Cl_items_610 (by decide) (?_ : WD _ _ 611 _ _ _ _ _ _)
      exact x_zreturn rfl d_Cl_items_611 (by decide) h
    · replace h := h.2 c150
      refine x_aload_n d_Cl_items_525 rfl (?_ : WD _ _ 526 _ _ _ _ _ _)
      refine x_iconst d_Cl_items_526 (by decide) (?_ : WD _ _ 527 _ _ _ _ _ _)
      refine x_callC (ν := M_Cs_accounts) (k := 0) [vI (-1)] ok_M_Cs_accounts okv_M_Cs_accounts (by decide) rfl rfl rfl (qm_9 (i := 158) rfl rfl) np_M_Cs_accounts rfl ⟨Nat.le_of_ble_eq_true rfl, Nat.le_of_ble_eq_true rfl⟩ (Nat.le_of_ble_eq_true rfl) rfl d_Cl_items_527 (CI.kd h (fun v151 σ152 h => (?_ : WD _ _ 530 _ _ _ _ _ _)))
      refine x_iload d_Cl_items_530 rfl (?_ : WD _ _ 532 _ _ _ _ _ _)
      refine x_icmp_ne 610 d_Cl_items_532 rfl ⟨fun c153 => (?_ : WD _ _ 610 _ _ _ _ _ _), fun c153 => (?_ : WD _ _ 535 _ _ _ _ _ _)⟩
      · replace h := h.1 c153
        refine x_iconst d_Cl_items_610 (by decide) (?_ : WD _ _ 611 _ _ _ _ _ _)
        exact x_zreturn rfl d_Cl_items_611 (by decide) h
      · replace h := h.2 c153
        refine x_aload_n d_Cl_items_535 rfl (?_ : WD _ _ 536 _ _ _ _ _ _)
        refine x_bipush d_Cl_items_536 (by decide) (by decide) (?_ : WD _ _ 538 _ _ _ _ _ _)
        refine x_callC (ν := M_Cs_accounts) (k := 0) [vI (-2)] ok_M_Cs_accounts okv_M_Cs_accounts (by decide) rfl rfl rfl (qm_9 (i := 158) rfl rfl) np_M_Cs_accounts rfl ⟨Nat.le_of_ble_eq_true rfl, Nat.le_of_ble_eq_true rfl⟩ (Nat.le_of_ble_eq_true rfl) rfl d_Cl_items_538 (CI.kd h (fun v154 σ155 h => (?_ : WD _ _ 541 _ _ _ _ _ _)))
        refine x_bipush d_Cl_items_541 (by decide) (by decide) (?_ : WD _ _ 543 _ _ _ _ _ _)
        refine x_icmp_ne 610 d_Cl_items_543 rfl ⟨fun c156 => (?_ : WD _ _ 610 _ _ _ _ _ _), fun c156 => (?_ : WD _ _ 546 _ _ _ _ _ _)⟩
        · replace h := h.1 c156
          refine x_iconst d_Cl_items_610 (by decide) (?_ : WD _ _ 611 _ _ _ _ _ _)
          exact x_zreturn rfl d_Cl_items_611 (by decide) h
        · replace h := h.2 c156
          refine x_aload_n d_Cl_items_546 rfl (?_ : WD _ _ 547 _ _ _ _ _ _)
          refine x_bipush d_Cl_items_547 (by decide) (by decide) (?_ : WD _ _ 549 _ _ _ _ _ _)
          refine x_iconst d_Cl_items_549 (by decide) (?_ : WD _ _ 550 _ _ _ _ _ _)
          refine x_callC (ν := M_Cs_account) (k := 0) [vI 100, vI 0] ok_M_Cs_account okv_M_Cs_account (by decide) rfl rfl rfl (qm_9 (i := 32) rfl rfl) np_M_Cs_account rfl ⟨Nat.le_of_ble_eq_true rfl, Nat.le_of_ble_eq_true rfl⟩ (Nat.le_of_ble_eq_true rfl) rfl d_Cl_items_550 (CI.kd h (fun v157 σ158 h => (?_ : WD _ _ 553 _ _ _ _ _ _)))
          refine x_ldc (-10000000) d_Cl_items_553 (qm_5 (i := 163) rfl rfl) (by decide) (by decide) (?_ : WD _ _ 555 _ _ _ _ _ _)
          refine x_icmp_ne 610 d_Cl_items_555 rfl ⟨fun c159 => (?_ : WD _ _ 610 _ _ _ _ _ _), fun c159 => (?_ : WD _ _ 558 _ _ _ _ _ _)⟩
          · replace h := h.1 c159
            refine x_iconst d_Cl_items_610 (by decide) (?_ : WD _ _ 611 _ _ _ _ _ _)
            exact x_zreturn rfl d_Cl_items_611 (by decide) h
          · replace h := h.2 c159
            refine x_aload_n d_Cl_items_558 rfl (?_ : WD _ _ 559 _ _ _ _ _ _)
            refine x_iconst d_Cl_items_559 (by decide) (?_ : WD _ _ 560 _ _ _ _ _ _)
            refine x_bipush d_Cl_items_560 (by decide) (by decide) (?_ : WD _ _ 562 _ _ _ _ _ _)
            refine x_callC (ν := M_Cs_account) (k := 0) [vI 0, vI 6] ok_M_Cs_account okv_M_Cs_account (by decide) rfl rfl rfl (qm_9 (i := 32) rfl rfl) np_M_Cs_account rfl ⟨Nat.le_of_ble_eq_true rfl, Nat.le_of_ble_eq_true rfl⟩ (Nat.le_of_ble_eq_true rfl) rfl d_Cl_items_562 (CI.kd h (fun v160 σ161 h => (?_ : WD _ _ 565 _ _ _ _ _ _)))
            refine x_ldc (-10000000) d_Cl_items_565 (qm_5 (i := 163) rfl rfl) (by decide) (by decide) (?_ : WD _ _ 567 _ _ _ _ _ _)
            refine x_icmp_ne 610 d_Cl_items_567 rfl ⟨fun c162 => (?_ : WD _ _ 610 _ _ _ _ _ _), fun c162 => (?_ : WD _ _ 570 _ _ _ _ _ _)⟩
            · replace h := h.1 c162
              refine x_iconst d_Cl_items_610 (by decide) (?_ : WD _ _ 611 _ _ _ _ _ _)
              exact x_zreturn rfl d_Cl_items_611 (by decide) h
            · replace h := h.2 c162
              refine x_aload_n d_Cl_items_570 rfl (?_ : WD _ _ 571 _ _ _ _ _ _)
              refine x_iload d_Cl_items_571 rfl (?_ : WD _ _ 573 _ _ _ _ _ _)
              refine x_iconst d_Cl_items_573 (by decide) (?_ : WD _ _ 574 _ _ _ _ _ _)
              refine x_callC (ν := M_Cs_item) (k := 0) [vI x4, vI 0] ok_M_Cs_item okv_M_Cs_item (by decide) rfl rfl rfl (qm_6 (i := 213) rfl rfl) np_M_Cs_item rfl ⟨Nat.le_of_ble_eq_true rfl, Nat.le_of_ble_eq_true rfl⟩ (Nat.le_of_ble_eq_true rfl) rfl d_Cl_items_574 (CI.kd h (fun v163 σ164 h => (?_ : WD _ _ 577 _ _ _ _ _ _)))
              refine x_ldc (-10000000) d_Cl_items_577 (qm_5 (i := 163) rfl rfl) (by decide) (by decide) (?_ : WD _ _ 579 _ _ _ _ _ _)
              refine x_icmp_ne 610 d_Cl_items_579 rfl ⟨fun c165 => (?_ : WD _ _ 610 _ _ _ _ _ _), fun c165 => (?_ : WD _ _ 582 _ _ _ _ _ _)⟩
              · replace h := h.1 c165
                refine x_iconst d_Cl_items_610 (by decide) (?_ : WD _ _ 611 _ _ _ _ _ _)
                exact x_zreturn rfl d_Cl_items_611 (by decide) h
              · replace h := h.2 c165
                refine x_aload_n d_Cl_items_582 rfl (?_ : WD _ _ 583 _ _ _ _ _ _)
                refine x_iconst d_Cl_items_583 (by decide) (?_ : WD _ _ 584 _ _ _ _ _ _)
                refine x_iconst d_Cl_items_584 (by decide) (?_ : WD _ _ 585 _ _ _ _ _ _)
                refine x_callC (ν := M_Cs_item) (k := 0) [vI (-1), vI 0] ok_M_Cs_item okv_M_Cs_item (by decide) rfl rfl rfl (qm_6 (i := 213) rfl rfl) np_M_Cs_item rfl ⟨Nat.le_of_ble_eq_true rfl, Nat.le_of_ble_eq_true rfl⟩ (Nat.le_of_ble_eq_true rfl) rfl d_Cl_items_585 (CI.kd h (fun v166 σ167 h => (?_ : WD _ _ 588 _ _ _ _ _ _)))
                refine x_ldc (-10000000) d_Cl_items_588 (qm_5 (i := 163) rfl rfl) (by decide) (by decide) (?_ : WD _ _ 590 _ _ _ _ _ _)
                refine x_icmp_ne 610 d_Cl_items_590 rfl ⟨fun c168 => (?_ : WD _ _ 610 _ _ _ _ _ _), fun c168 => (?_ : WD _ _ 593 _ _ _ _ _ _)⟩
                · replace h := h.1 c168
                  refine x_iconst d_Cl_items_610 (by decide) (?_ : WD _ _ 611 _ _ _ _ _ _)
                  exact x_zreturn rfl d_Cl_items_611 (by decide) h
                · replace h := h.2 c168
                  refine x_aload_n d_Cl_items_593 rfl (?_ : WD _ _ 594 _ _ _ _ _ _)
                  refine x_bipush d_Cl_items_594 (by decide) (by decide) (?_ : WD _ _ 596 _ _ _ _ _ _)
                  refine x_sipush d_Cl_items_596 (by decide) (by decide) (?_ : WD _ _ 599 _ _ _ _ _ _)
                  refine x_callC (ν := M_Cs_find) (k := 0) [vI 99, vI 9999] ok_M_Cs_find okv_M_Cs_find (by decide) rfl rfl rfl (qm_7 (i := 13) rfl rfl) np_M_Cs_find rfl ⟨Nat.le_of_ble_eq_true rfl, Nat.le_of_ble_eq_true rfl⟩ (Nat.le_of_ble_eq_true rfl) rfl d_Cl_items_599 (CI.kd h (fun v169 σ170 h => (?_ : WD _ _ 602 _ _ _ _ _ _)))
                  refine x_iconst d_Cl_items_602 (by decide) (?_ : WD _ _ 603 _ _ _ _ _ _)
                  refine x_icmp_ne 610 d_Cl_items_603 rfl ⟨fun c171 => (?_ : WD _ _ 610 _ _ _ _ _ _), fun c171 => (?_ : WD _ _ 606 _ _ _ _ _ _)⟩
                  · replace h := h.1 c171
                    refine x_iconst d_Cl_items_610 (by decide) (?_ : WD _ _ 611 _ _ _ _ _ _)
                    exact x_zreturn rfl d_Cl_items_611 (by decide) h
                  · replace h := h.2 c171
                    refine x_iconst d_Cl_items_606 (by decide) (?_ : WD _ _ 607 _ _ _ _ _ _)
                    refine x_goto 611 d_Cl_items_607 rfl ?_
                    exact x_zreturn rfl d_Cl_items_611 (by decide) h
  · replace h := h.2 c147
    refine x_aloadP (some a142) d_Cl_items_481 rfl (?_ : WD _ _ 483 _ _ _ _ _ _)
    refine x_callF (ν := M_Lk_next) ⟨"java/util/Iterator", "next", "()Ljava/lang/Object;"⟩ [] ok_M_Lk_next oki_M_Lk_next (k144.q gw145.k) rfl (qm_3 (i := 27) rfl rfl) (by decide) (qm_5 (i := 184) rfl rfl) (show _ = some 0 from by decide +kernel) rfl ⟨Nat.le_of_ble_eq_true rfl, Nat.le_of_ble_eq_true rfl⟩ (Nat.le_of_ble_eq_true rfl) rfl d_Cl_items_483 (Nat.zero_le _) (Nat.zero_le _) (DP.k h (fun v173 w172 gw172 h => (?_ : WD _ _ 488 _ _ _ _ _ _)))
    obtain ⟨a174, e175, h⟩ := h
    rw [e175]
    obtain ⟨k176, h⟩ := h
    refine x_cast k176 rfl (Or.inl rfl) (qm_9 (i := 156) rfl rfl) d_Cl_items_488 (?_ : WD _ _ 491 _ _ _ _ _ _)
    refine x_callV (ν := M_In_intValue) [] ok_M_In_intValue okv_M_In_intValue k176 rfl rfl (qm_9 (i := 157) rfl rfl) np_M_In_intValue rfl ⟨Nat.le_of_ble_eq_true rfl, Nat.le_of_ble_eq_true rfl⟩ (Nat.le_of_ble_eq_true rfl) rfl d_Cl_items_491 (Nat.zero_le _) (Nat.zero_le _) (DI.k h (fun v178 w177 gw177 h => (?_ : WD _ _ 494 _ _ _ _ _ _)))
    refine x_istore (ls' := [(9, vI v178), (0, vR 0), (4, vI x4), (7, vI x7), (8, vA a142)]) d_Cl_items_494 (by decide) rfl (?_ : WD _ _ 496 _ _ _ _ _ _)
    refine x_aload_n d_Cl_items_496 rfl (?_ : WD _ _ 497 _ _ _ _ _ _)
    refine x_iload d_Cl_items_497 rfl (?_ : WD _ _ 499 _ _ _ _ _ _)
    obtain ⟨h179, h⟩ := h
    refine x_iinc (ls' := [(7, vI (x7 + 1)), (9, vI v178), (0, vR 0), (4, vI x4), (8, vA a142)]) d_Cl_items_499 rfl h179 (by decide) rfl (?_ : WD _ _ 502 _ _ _ _ _ _)
    refine x_callC (ν := M_Cs_accounts) (k := 0) [vI x7] ok_M_Cs_accounts okv_M_Cs_accounts (by decide) rfl rfl rfl (qm_9 (i := 158) rfl rfl) np_M_Cs_accounts rfl ⟨Nat.le_of_ble_eq_true rfl, Nat.le_of_ble_eq_true rfl⟩ (Nat.le_of_ble_eq_true rfl) rfl d_Cl_items_502 (CI.kd h (fun v180 σ181 h => (?_ : WD _ _ 505 _ _ _ _ _ _)))
    refine x_iload d_Cl_items_505 rfl (?_ : WD _ _ 507 _ _ _ _ _ _)
    refine x_icmp_eq 512 d_Cl_items_507 rfl ⟨fun c182 => (?_ : WD _ _ 512 _ _ _ _ _ _), fun c182 => (?_ : WD _ _ 510 _ _ _ _ _ _)⟩
    · replace h := h.1 c182
      refine x_goto 471 d_Cl_items_512 rfl ?_
      refine x_pick (ls' := [(0, vR 0), (4, vI x4), (7, vI (x7 + 1)), (8, vP (some a142))]) [2, 3, 0, 4] rfl ?_
      exact h
    · replace h := h.2 c182
      refine x_iconst d_Cl_items_510 (by decide) (?_ : WD _ _ 511 _ _ _ _ _ _)
      exact x_zreturn rfl d_Cl_items_511 (by decide) h
set_option maxRecDepth 20000 in
theorem l_Cl_items_5 {G : Gq} {K : Int → Wd → Prop} {w : Wd} {rc rs : Nat} (x1 : Nat) (x2 : Nat) (x3 : Int) (x4 : Int) (x5 : Nat) (x6 : Nat) (x7 : Int) (x8 : Nat) (x9 : Int) (x10 : Int) (x11 : Int) (x12 : Nat) (x13 : Int) (h : (9 ≤ x13 → (Is G w x8 (kO 13)) ∧ CI M_Cs_find [vR 0, vI (wI w x8 0), vI (wI w x8 1)] (wS w) (fun v185 σ186 => (v185 = x7 → (x10 = 0 → WD G M_Cl_items 248 [(0, vR 0), (1, vA x1), (2, vA x2), (4, vI x4), (5, vA x5), (6, vA x6), (7, vI x7), (8, vA x8), (9, vI x9), (11, vI x11)] [vI 0, vI x3] (uS w σ186) rc rs (yI K)) ∧ (¬ x10 = 0 → DI G M_It_coins [vA x8] (uS w σ186) 0 0 (fun v190 w189 => WD G M_Cl_items 248 [(0, vR 0), (1, vA x1), (2, vA x2), (4, vI x4), (5, vA x5), (6, vA x6), (7, vI x7), (8, vA x8), (9, vI x9), (11, vI x11)] [vI v190, vI x3] w189 rc rs (yI K)))) ∧ (¬ v185 = x7 → K 0 (uS w σ186)))) ∧ (¬ 9 ≤ x13 → CI M_Cs_item [vR 0, vI x7, vI x13] (wS w) (fun v191 σ192 => ∃ n193 : Nat, ((Is G (uS w σ192) x12 (kA 0 n193)) ∧ (0 ≤ x13) ∧ (x13 < (n193 : Int)) ∧ (v191 = (wI w x12 x13) → (inR (x13 + 1)) ∧ WD G M_Cl_items 181 [(0, vR 0), (1, vA x1), (2, vA x2), (3, vI x3), (4, vI x4), (5, vA x5), (6, vA x6), (7, vI x7), (8, vA x8), (9, vI x9), (10, vI x10), (11, vI x11), (12, vA x12), (13, vI (x13 + 1))] [] (uS w σ192) rc rs (yI K)) ∧ (¬ v191 = (wI w x12 x13) → K 0 (uS w σ192)))))) : WD G M_Cl_items 181 [(0, vR 0), (1, vA x1), (2, vA x2), (3, vI x3), (4, vI x4), (5, vA x5), (6, vA x6), (7, vI x7), (8, vA x8), (9, vI x9), (10, vI x10), (11, vI x11), (12, vA x12), (13, vI x13)] [] w rc rs (yI K) := by
  refine x_iload d_Cl_items_181 rfl (?_ : WD _ _ 183 _ _ _ _ _ _)
  refine x_bipush d_Cl_items_183 (by decide) (by decide) (?_ : WD _ _ 185 _ _ _ _ _ _)
  refine x_icmp_ge 212 d_Cl_items_185 rfl ⟨fun c183 => (?_ : WD _ _ 212 _ _ _ _ _ _), fun c183 => (?_ : WD _ _ 188 _ _ _ _ _ _)⟩
  · replace h := h.1 c183
    refine x_aload_n d_Cl_items_212 rfl (?_ : WD _ _ 213 _ _ _ _ _ _)
    refine x_aloadP (some x8) d_Cl_items_213 rfl (?_ : WD _ _ 215 _ _ _ _ _ _)
    obtain ⟨k184, h⟩ := h
    refine x_getI (ref := "CoinSamplerLaw$Item") (j := 0) 0 k184 clk_13 (by decide) (qm_4 (i := 151) rfl rfl) (Or.inl rfl) rfl rfl d_Cl_items_215 (y := (wI w x8 0)) rfl (?_ : WD _ _ 218 _ _ _ _ _ _)
    refine x_aloadP (some x8) d_Cl_items_218 rfl (?_ : WD _ _ 220 _ _ _ _ _ _)
    refine x_getI (ref := "CoinSamplerLaw$Item") (j := 1) 1 k184 clk_13 (by decide) (qm_4 (i := 153) rfl rfl) (Or.inl rfl) rfl rfl d_Cl_items_220 (y := (wI w x8 1)) rfl (?_ : WD _ _ 223 _ _ _ _ _ _)
    refine x_callC (ν := M_Cs_find) (k := 0) [vI (wI w x8 0), vI (wI w x8 1)] ok_M_Cs_find okv_M_Cs_find (by decide) rfl rfl rfl (qm_7 (i := 13) rfl rfl) np_M_Cs_find rfl ⟨Nat.le_of_ble_eq_true rfl, Nat.le_of_ble_eq_true rfl⟩ (Nat.le_of_ble_eq_true rfl) rfl d_Cl_items_223 (CI.kd h (fun v185 σ186 h => (?_ : WD _ _ 226 _ _ _ _ _ _)))
    refine x_iload d_Cl_items_226 rfl (?_ : WD _ _ 228 _ _ _ _ _ _)
    refine x_icmp_eq 233 d_Cl_items_228 rfl ⟨fun c187 => (?_ : WD _ _ 233 _ _ _ _ _ _), fun c187 => (?_ : WD _ _ 231 _ _ _ _ _ _)⟩
    · replace h := h.1 c187
      refine x_iload_n d_Cl_items_233 rfl (?_ : WD _ _ 234 _ _ _ _ _ _)
      refine x_iload d_Cl_items_234 rfl (?_ : WD _ _ 236 _ _ _ _ _ _)
      refine x_if_eq 247 d_Cl_items_236 rfl ⟨fun c188 => (?_ : WD _ _ 247 _ _ _ _ _ _), fun c188 => (?_ : WD _ _ 239 _ _ _ _ _ _)⟩
      · replace h := h.1 c188
        refine x_iconst d_Cl_items_247 (by decide) (?_ : WD _ _ 248 _ _ _ _ _ _)
        refine x_pick (ls' := [(0, vR 0), (1, vA x1), (2, vA x2), (4, vI x4), (5, vA x5), (6, vA x6), (7, vI x7), (8, vA x8), (9, vI x9), (11, vI x11)]) [0, 1, 2, 4, 5, 6, 7, 8, 9, 11] rfl ?_
        exact h
      · replace h := h.2 c188
        refine x_aloadP (some x8) d_Cl_items_239 rfl (?_ : WD _ _ 241 _ _ _ _ _ _)
        refine x_callV (ν := M_It_coins) [] ok_M_It_coins okv_M_It_coins k184 rfl rfl (qm_6 (i := 199) rfl rfl) np_M_It_coins rfl ⟨Nat.le_of_ble_eq_true rfl, Nat.le_of_ble_eq_true rfl⟩ (Nat.le_of_ble_eq_true rfl) rfl d_Cl_items_241 (Nat.zero_le _) (Nat.zero_le _) (DI.k h (fun v190 w189 gw189 h => (?_ : WD _ _ 244 _ _ _ _ _ _)))
        refine x_goto 248 d_Cl_items_244 rfl ?_
        refine x_pick (ls' := [(0, vR 0), (1, vA x1), (2, vA x2), (4, vI x4), (5, vA x5), (6, vA x6), (7, vI x7), (8, vA x8), (9, vI x9), (11, vI x11)]) [0, 1, 2, 4, 5, 6, 7, 8, 9, 11] rfl ?_
        exact h
    · replace h := h.2 c187
      refine x_iconst d_Cl_items_231 (by decide) (?_ : WD _ _ 232 _ _ _ _ _ _)
      exact x_zreturn rfl d_Cl_items_232 (by decide) h
  · replace h := h.2 c183
    refine x_aload_n d_Cl_items_188 rfl (?_ : WD _ _ 189 _ _ _ _ _ _)
    refine x_iload d_Cl_items_189 rfl (?_ : WD _ _ 191 _ _ _ _ _ _)
    refine x_iload d_Cl_items_191 rfl (?_ : WD _ _ 193 _ _ _ _ _ _)
    refine x_callC (ν := M_Cs_item) (k := 0) [vI x7, vI x13] ok_M_Cs_item okv_M_Cs_item (by decide) rfl rfl rfl (qm_6 (i := 213) rfl rfl) np_M_Cs_item rfl ⟨Nat.le_of_ble_eq_true rfl, Nat.le_of_ble_eq_true rfl⟩ (Nat.le_of_ble_eq_true rfl) rfl d_Cl_items_193 (CI.kd h (fun v191 σ192 h => (?_ : WD _ _ 196 _ _ _ _ _ _)))
    refine x_aloadP (some x12) d_Cl_items_196 rfl (?_ : WD _ _ 198 _ _ _ _ _ _)
    refine x_iload d_Cl_items_198 rfl (?_ : WD _ _ 200 _ _ _ _ _ _)
    obtain ⟨n193, h⟩ := h
    obtain ⟨k194, h⟩ := h
    obtain ⟨h195, h⟩ := h
    obtain ⟨h196, h⟩ := h
    refine x_iald k194 d_Cl_items_200 h195 h196 (y := (wI w x12 x13)) rfl (?_ : WD _ _ 201 _ _ _ _ _ _)
    refine x_icmp_eq 206 d_Cl_items_201 rfl ⟨fun c197 => (?_ : WD _ _ 206 _ _ _ _ _ _), fun c197 => (?_ : WD _ _ 204 _ _ _ _ _ _)⟩
    · replace h := h.1 c197
      obtain ⟨h198, h⟩ := h
      refine x_iinc (ls' := [(13, vI (x13 + 1)), (0, vR 0), (1, vA x1), (2, vA x2), (3, vI x3), (4, vI x4), (5, vA x5), (6, vA x6), (7, vI x7), (8, vA x8), (9, vI x9), (10, vI x10), (11, vI x11), (12, vA x12)]) d_Cl_items_206 rfl h198 (by decide) rfl (?_ : WD _ _ 209 _ _ _ _ _ _)
      refine x_goto 181 d_Cl_items_209 rfl ?_
      refine x_pick (ls' := [(0, vR 0), (1, vA x1), (2, vA x2), (3, vI x3), (4, vI x4), (5, vA x5), (6, vA x6), (7, vI x7), (8, vA x8), (9, vI x9), (10, vI x10), (11, vI x11), (12, vA x12), (13, vI (x13 + 1))]) [1, 2, 3, 4, 5, 6, 7, 8, 9, 10, 11, 12, 13, 0] rfl ?_
      exact h
    · replace h := h.2 c197
      refine x_iconst d_Cl_items_204 (by decide) (?_ : WD _ _ 205 _ _ _ _ _ _)
      exact x_zreturn rfl d_Cl_items_205 (by decide) h
set_option maxRecDepth 20000 in
theorem l_Cl_items_6 {G : Gq} {K : Int → Wd → Prop} {w : Wd} {rc rs : Nat} (x1 : Nat) (x2 : Nat) (x4 : Int) (x5 : Nat) (x6 : Nat) (x7 : Int) (x8 : Nat) (x9 : Int) (x11 : Int) (y0 : Int) (y1 : Int) (h : (inR (y1 + y0)) ∧ (Is G w x8 (kO 13)) ∧ ∃ n201 : Nat, ((Is G w x5 (kR 6 n201)) ∧ (0 ≤ (wI w x8 0)) ∧ ((wI w x8 0) < (n201 : Int)) ∧ (Ow w x5 (kR 6 n201)) ∧ ∃ a206 : Nat, (wR w x5 (wI w x8 0)) = some a206 ∧ (∃ n208 : Nat, ((Is G w a206 (kA 0 n208)) ∧ (0 < (n208 : Int)) ∧ (inR ((wI w a206 0) + 1)) ∧ (Ow w a206 (kA 0 n208)) ∧ (1 < (n208 : Int)) ∧ (inR ((wI w a206 1) + (wI (uI w a206 0 ((wI w a206 0) + 1)) x8 2))) ∧ (2 < (n208 : Int)) ∧ (inR ((wI w a206 2) + x11)) ∧ (3 < (n208 : Int)) ∧ DI G M_It_error [vA x8] (uI (uI (uI w a206 0 ((wI w a206 0) + 1)) a206 1 ((wI w a206 1) + (wI (uI w a206 0 ((wI w a206 0) + 1)) x8 2))) a206 2 ((wI w a206 2) + x11)) 0 0 (fun v219 w218 => (inR ((wI w a206 3) + v219)) ∧ (4 < (n208 : Int)) ∧ (x9 = 0 → WD G M_Cl_items 316 [(0, vR 0), (1, vA x1), (2, vA x2), (3, vI (y1 + y0)), (4, vI x4), (5, vA x5), (6, vA x6), (7, vI x7), (8, vA x8)] [vI 0, vI (wI w218 a206 4), vI 4, vA a206] (uI w218 a206 3 ((wI w a206 3) + v219)) rc rs (yI K)) ∧ (¬ x9 = 0 → WD G M_Cl_items 316 [(0, vR 0), (1, vA x1), (2, vA x2), (3, vI (y1 + y0)), (4, vI x4), (5, vA x5), (6, vA x6), (7, vI x7), (8, vA x8)] [vI 1, vI (wI w218 a206 4), vI 4, vA a206] (uI w218 a206 3 ((wI w a206 3) + v219)) rc rs (yI K))))))) : WD G M_Cl_items 248 [(0, vR 0), (1, vA x1), (2, vA x2), (4, vI x4), (5, vA x5), (6, vA x6), (7, vI x7), (8, vA x8), (9, vI x9), (11, vI x11)] [vI y0, vI y1] w rc rs (yI K) := by
  obtain ⟨h199, h⟩ := h
  refine x_iadd d_Cl_items_248 h199 (?_ : WD _ _ 249 _ _ _ _ _ _)
  refine x_istore_n (ls' := [(3, vI (y1 + y0)), (0, vR 0), (1, vA x1), (2, vA x2), (4, vI x4), (5, vA x5), (6, vA x6), (7, vI x7), (8, vA x8), (9, vI x9), (11, vI x11)]) d_Cl_items_249 rfl (by decide) rfl (?_ : WD _ _ 250 _ _ _ _ _ _)
  refine x_aloadP (some x5) d_Cl_items_250 rfl (?_ : WD _ _ 252 _ _ _ _ _ _)
  refine x_aloadP (some x8) d_Cl_items_252 rfl (?_ : WD _ _ 254 _ _ _ _ _ _)
  obtain ⟨k200, h⟩ := h
  refine x_getI (ref := "CoinSamplerLaw$Item") (j := 0) 0 k200 clk_13 (by decide) (qm_4 (i := 151) rfl rfl) (Or.inl rfl) rfl rfl d_Cl_items_254 (y := (wI w x8 0)) rfl (?_ : WD _ _ 257 _ _ _ _ _ _)
  obtain ⟨n201, h⟩ := h
  obtain ⟨k202, h⟩ := h
  obtain ⟨h203, h⟩ := h
  obtain ⟨h204, h⟩ := h
  obtain ⟨k205, h⟩ := h
  refine x_aaldA k205 d_Cl_items_257 h203 h204 (y := (wR w x5 (wI w x8 0))) rfl (?_ : WD _ _ 258 _ _ _ _ _ _)
  refine x_astoreP (wR w x5 (wI w x8 0)) (ls' := [(13, vP (wR w x5 (wI w x8 0))), (3, vI (y1 + y0)), (0, vR 0), (1, vA x1), (2, vA x2), (4, vI x4), (5, vA x5), (6, vA x6), (7, vI x7), (8, vA x8), (9, vI x9), (11, vI x11)]) d_Cl_items_258 (by decide) rfl (?_ : WD _ _ 260 _ _ _ _ _ _)
  refine x_aloadP (wR w x5 (wI w x8 0)) d_Cl_items_260 rfl (?_ : WD _ _ 262 _ _ _ _ _ _)
  refine x_iconst d_Cl_items_262 (by decide) (?_ : WD _ _ 263 _ _ _ _ _ _)
  refine x_dup2 d_Cl_items_263 rfl rfl (?_ : WD _ _ 264 _ _ _ _ _ _)
  obtain ⟨a206, e207, h⟩ := h
  rw [e207]
  obtain ⟨n208, h⟩ := h
  obtain ⟨k209, h⟩ := h
  obtain ⟨h210, h⟩ := h
  refine x_iald k209 d_Cl_items_264 (by decide) h210 (y := (wI w a206 0)) rfl (?_ : WD _ _ 265 _ _ _ _ _ _)
  refine x_iconst d_Cl_items_265 (by decide) (?_ : WD _ _ 266 _ _ _ _ _ _)
  obtain ⟨h211, h⟩ := h
  refine x_iadd d_Cl_items_266 h211 (?_ : WD _ _ 267 _ _ _ _ _ _)
  obtain ⟨k212, h⟩ := h
  refine x_iast k212 d_Cl_items_267 (by decide) h210 (?_ : WD _ _ 268 _ _ _ _ _ _)
  refine x_aloadP (some a206) d_Cl_items_268 rfl (?_ : WD _ _ 270 _ _ _ _ _ _)
  refine x_iconst d_Cl_items_270 (by decide) (?_ : WD _ _ 271 _ _ _ _ _ _)
  refine x_dup2 d_Cl_items_271 rfl rfl (?_ : WD _ _ 272 _ _ _ _ _ _)
  obtain ⟨h213, h⟩ := h
  refine x_iald k212.is d_Cl_items_272 (by decide) h213 (y := (wI w a206 1)) (wI_uI_j (by decide)) (?_ : WD _ _ 273 _ _ _ _ _ _)
  refine x_aloadP (some x8) d_Cl_items_273 rfl (?_ : WD _ _ 275 _ _ _ _ _ _)
  refine x_getI (ref := "CoinSamplerLaw$Item") (j := 2) 2 k200 clk_13 (by decide) (qm_4 (i := 157) rfl rfl) (Or.inl rfl) rfl rfl d_Cl_items_275 (y := (wI (uI w a206 0 ((wI w a206 0) + 1)) x8 2)) rfl (?_ : WD _ _ 278 _ _ _ _ _ _)
  obtain ⟨h214, h⟩ := h
  refine x_iadd d_Cl_items_278 h214 (?_ : WD _ _ 279 _ _ _ _ _ _)
  refine x_iast k212 d_Cl_items_279 (by decide) h213 (?_ : WD _ _ 280 _ _ _ _ _ _)
  refine x_aloadP (some a206) d_Cl_items_280 rfl (?_ : WD _ _ 282 _ _ _ _ _ _)
  refine x_iconst d_Cl_items_282 (by decide) (?_ : WD _ _ 283 _ _ _ _ _ _)
  refine x_dup2 d_Cl_items_283 rfl rfl (?_ : WD _ _ 284 _ _ _ _ _ _)
  obtain ⟨h215, h⟩ := h
  refine x_iald k212.is d_Cl_items_284 (by decide) h215 (y := (wI w a206 2)) ((wI_uI_j (by decide)).trans (wI_uI_j (by decide))) (?_ : WD _ _ 285 _ _ _ _ _ _)
  refine x_iload d_Cl_items_285 rfl (?_ : WD _ _ 287 _ _ _ _ _ _)
  obtain ⟨h216, h⟩ := h
  refine x_iadd d_Cl_items_287 h216 (?_ : WD _ _ 288 _ _ _ _ _ _)
  refine x_iast k212 d_Cl_items_288 (by decide) h215 (?_ : WD _ _ 289 _ _ _ _ _ _)
  refine x_aloadP (some a206) d_Cl_items_289 rfl (?_ : WD _ _ 291 _ _ _ _ _ _)
  refine x_iconst d_Cl_items_291 (by decide) (?_ : WD _ _ 292 _ _ _ _ _ _)
  refine x_dup2 d_Cl_items_292 rfl rfl (?_ : WD _ _ 293 _ _ _ _ _ _)
  obtain ⟨h217, h⟩ := h
  refine x_iald k212.is d_Cl_items_293 (by decide) h217 (y := (wI w a206 3)) ((wI_uI_j (by decide)).trans ((wI_uI_j (by decide)).trans (wI_uI_j (by decide)))) (?_ : WD _ _ 294 _ _ _ _ _ _)
  refine x_aloadP (some x8) d_Cl_items_294 rfl (?_ : WD _ _ 296 _ _ _ _ _ _)
  refine x_callV (ν := M_It_error) [] ok_M_It_error okv_M_It_error k200 rfl rfl (qm_6 (i := 204) rfl rfl) np_M_It_error rfl ⟨Nat.le_of_ble_eq_true rfl, Nat.le_of_ble_eq_true rfl⟩ (Nat.le_of_ble_eq_true rfl) rfl d_Cl_items_296 (Nat.zero_le _) (Nat.zero_le _) (DI.k h (fun v219 w218 gw218 h => (?_ : WD _ _ 299 _ _ _ _ _ _)))
  obtain ⟨h220, h⟩ := h
  refine x_iadd d_Cl_items_299 h220 (?_ : WD _ _ 300 _ _ _ _ _ _)
  refine x_iast (k212.q gw218.k) d_Cl_items_300 (by decide) h217 (?_ : WD _ _ 301 _ _ _ _ _ _)
  refine x_aloadP (some a206) d_Cl_items_301 rfl (?_ : WD _ _ 303 _ _ _ _ _ _)
  refine x_iconst d_Cl_items_303 (by decide) (?_ : WD _ _ 304 _ _ _ _ _ _)
  refine x_dup2 d_Cl_items_304 rfl rfl (?_ : WD _ _ 305 _ _ _ _ _ _)
  obtain ⟨h221, h⟩ := h
  refine x_iald (k212.q gw218.k).is d_Cl_items_305 (by decide) h221 (y := (wI w218 a206 4)) (wI_uI_j (by decide)) (?_ : WD _ _ 306 _ _ _ _ _ _)
  refine x_iload d_Cl_items_306 rfl (?_ : WD _ _ 308 _ _ _ _ _ _)
  refine x_if_eq 315 d_Cl_items_308 rfl ⟨fun c222 => (?_ : WD _ _ 315 _ _ _ _ _ _), fun c222 => (?_ : WD _ _ 311 _ _ _ _ _ _)⟩
  · replace h := h.1 c222
    refine x_iconst d_Cl_items_315 (by decide) (?_ : WD _ _ 316 _ _ _ _ _ _)
    refine x_pick (ls' := [(0, vR 0), (1, vA x1), (2, vA x2), (3, vI (y1 + y0)), (4, vI x4), (5, vA x5), (6, vA x6), (7, vI x7), (8, vA x8)]) [2, 3, 4, 1, 5, 6, 7, 8, 9] rfl ?_
    exact h
  · replace h := h.2 c222
    refine x_iconst d_Cl_items_311 (by decide) (?_ : WD _ _ 312 _ _ _ _ _ _)
    refine x_goto 316 d_Cl_items_312 rfl ?_
    refine x_pick (ls' := [(0, vR 0), (1, vA x1), (2, vA x2), (3, vI (y1 + y0)), (4, vI x4), (5, vA x5), (6, vA x6), (7, vI x7), (8, vA x8)]) [2, 3, 4, 1, 5, 6, 7, 8, 9] rfl ?_
    exact h
set_option maxRecDepth 20000 in
theorem l_Cl_items_7 {G : Gq} {K : Int → Wd → Prop} {w : Wd} {rc rs : Nat} (x1 : Nat) (x2 : Nat) (x3 : Int) (x4 : Int) (x5 : Nat) (x6 : Nat) (x7 : Int) (x8 : Nat) (y0 : Int) (y1 : Int) (y2 : Int) (y3 : Nat) (h : (inR (y1 + y0)) ∧ ∃ n224 : Nat, ((Ow w y3 (kA 0 n224)) ∧ (0 ≤ y2) ∧ (y2 < (n224 : Int)) ∧ (Is G (uI w y3 y2 (y1 + y0)) x8 (kO 13)) ∧ ∃ c229 s230 : Nat, c229 ≤ rc ∧ s230 ≤ rs ∧ (DP G M_In_valueOf [vI (wI (uI w y3 y2 (y1 + y0)) x8 0)] (uI w y3 y2 (y1 + y0)) c229 s230 (fun v234 w233 => ∃ a235 : Nat, v234 = some a235 ∧ (∃ c237 s238 : Nat, c237 ≤ (rc - c229) ∧ s238 ≤ (rs - s230) ∧ ((Is G w233 x6 (kO 19)) ∧ DI G M_Hs_add [vA x6, vA a235] w233 c237 s238 (fun v243 w242 => (inR (x7 + 1)) ∧ WD G M_Cl_items 33 [(0, vR 0), (1, vA x1), (2, vA x2), (3, vI x3), (4, vI x4), (5, vA x5), (6, vA x6), (7, vI (x7 + 1))] [] w242 ((rc - c229) - c237) ((rs - s230) - s238) (yI K)))))))) : WD G M_Cl_items 316 [(0, vR 0), (1, vA x1), (2, vA x2), (3, vI x3), (4, vI x4), (5, vA x5), (6, vA x6), (7, vI x7), (8, vA x8)] [vI y0, vI y1, vI y2, vA y3] w rc rs (yI K) := by
  obtain ⟨h223, h⟩ := h
  refine x_iadd d_Cl_items_316 h223 (?_ : WD _ _ 317 _ _ _ _ _ _)
  obtain ⟨n224, h⟩ := h
  obtain ⟨k225, h⟩ := h
  obtain ⟨h226, h⟩ := h
  obtain ⟨h227, h⟩ := h
  refine x_iast k225 d_Cl_items_317 h226 h227 (?_ : WD _ _ 318 _ _ _ _ _ _)
  refine x_aloadP (some x6) d_Cl_items_318 rfl (?_ : WD _ _ 320 _ _ _ _ _ _)
  refine x_aloadP (some x8) d_Cl_items_320 rfl (?_ : WD _ _ 322 _ _ _ _ _ _)
  obtain ⟨k228, h⟩ := h
  refine x_getI (ref := "CoinSamplerLaw$Item") (j := 0) 0 k228 clk_13 (by decide) (qm_4 (i := 151) rfl rfl) (Or.inl rfl) rfl rfl d_Cl_items_322 (y := (wI (uI w y3 y2 (y1 + y0)) x8 0)) rfl (?_ : WD _ _ 325 _ _ _ _ _ _)
  obtain ⟨c229, s230, h231, h232, h⟩ := h
  refine x_callS (ν := M_In_valueOf) [vI (wI (uI w y3 y2 (y1 + y0)) x8 0)] ok_M_In_valueOf oks_M_In_valueOf (qm_7 (i := 17) rfl rfl) np_M_In_valueOf rfl ⟨Nat.le_of_ble_eq_true rfl, Nat.le_of_ble_eq_true rfl⟩ (Nat.le_of_ble_eq_true rfl) rfl d_Cl_items_325 h231 h232 (DP.k h (fun v234 w233 gw233 h => (?_ : WD _ _ 328 _ _ _ _ _ _)))
  obtain ⟨a235, e236, h⟩ := h
  rw [e236]
  obtain ⟨c237, s238, h239, h240, h⟩ := h
  obtain ⟨k241, h⟩ := h
  refine x_callU (ν := M_Hs_add) ⟨"java/util/LinkedHashSet", "add", "(Ljava/lang/Object;)Z"⟩ "java/util/HashSet" [vA a235] ok_M_Hs_add oki_M_Hs_add k241 rfl (sel_in (qm_7 (i := 21) rfl rfl)) (qm_7 (i := 19) rfl rfl) (Or.inr (Or.inl rfl)) (by decide) (qm_7 (i := 18) rfl rfl) (show _ = some 1 from by decide +kernel) rfl ⟨Nat.le_of_ble_eq_true rfl, Nat.le_of_ble_eq_true rfl⟩ (Nat.le_of_ble_eq_true rfl) rfl d_Cl_items_328 h239 h240 (DI.k h (fun v243 w242 gw242 h => (?_ : WD _ _ 331 _ _ _ _ _ _)))
  refine x_pop d_Cl_items_331 rfl (?_ : WD _ _ 332 _ _ _ _ _ _)
  obtain ⟨h244, h⟩ := h
  refine x_iinc (ls' := [(7, vI (x7 + 1)), (0, vR 0), (1, vA x1), (2, vA x2), (3, vI x3), (4, vI x4), (5, vA x5), (6, vA x6), (8, vA x8)]) d_Cl_items_332 rfl h244 (by decide) rfl (?_ : WD _ _ 335 _ _ _ _ _ _)
  refine x_goto 33 d_Cl_items_335 rfl ?_
  refine x_pick (ls' := [(0, vR 0), (1, vA x1), (2, vA x2), (3, vI x3), (4, vI x4), (5, vA x5), (6, vA x6), (7, vI (x7 + 1))]) [1, 2, 3, 4, 5, 6, 7, 0] rfl ?_
  exact h
set_option maxRecDepth 20000 in
theorem e_Cl_walk {G : Gq} {K : Int → Wd → Prop} {w : Wd} {mc ms : Nat} (x1 : Nat) (x2 : Nat) (x3 : Nat) (h : ∃ c1 s2 : Nat, c1 ≤ mc ∧ s2 ≤ ms ∧ ((Is G w x1 (kO 11)) ∧ DP G M_Bo_owners [vA x1] w c1 s2 (fun v7 w6 => WD G M_Cl_walk 9 [(0, vR 0), (1, vA x1), (2, vA x2), (3, vA x3), (4, vP v7), (5, vI 0)] [] w6 (mc - c1) (ms - s2) (yI K)))) : DI G M_Cl_walk [vR 0, vA x1, vA x2, vA x3] w mc ms K := by
  refine DC.of ok_M_Cl_walk (ls := [(0, vR 0), (1, vA x1), (2, vA x2), (3, vA x3)]) rfl (Nat.le_of_ble_eq_true rfl) ?_
  refine x_aload_nP (some x1) d_Cl_walk_0 rfl (?_ : WD _ _ 1 _ _ _ _ _ _)
  obtain ⟨c1, s2, h3, h4, h⟩ := h
  obtain ⟨k5, h⟩ := h
  refine x_callV (ν := M_Bo_owners) [] ok_M_Bo_owners okv_M_Bo_owners k5 rfl rfl (qm_9 (i := 169) rfl rfl) np_M_Bo_owners rfl ⟨Nat.le_of_ble_eq_true rfl, Nat.le_of_ble_eq_true rfl⟩ (Nat.le_of_ble_eq_true rfl) rfl d_Cl_walk_1 h3 h4 (DP.k h (fun v7 w6 gw6 h => (?_ : WD _ _ 4 _ _ _ _ _ _)))
  refine x_astoreP v7 (ls' := [(4, vP v7), (0, vR 0), (1, vA x1), (2, vA x2), (3, vA x3)]) d_Cl_walk_4 (by decide) rfl (?_ : WD _ _ 6 _ _ _ _ _ _)
  refine x_iconst d_Cl_walk_6 (by decide) (?_ : WD _ _ 7 _ _ _ _ _ _)
  refine x_istore (ls' := [(5, vI 0), (4, vP v7), (0, vR 0), (1, vA x1), (2, vA x2), (3, vA x3)]) d_Cl_walk_7 (by decide) rfl (?_ : WD _ _ 9 _ _ _ _ _ _)
  refine x_pick (ls' := [(0, vR 0), (1, vA x1), (2, vA x2), (3, vA x3), (4, vP v7), (5, vI 0)]) [2, 3, 4, 5, 1, 0] rfl ?_
  exact h
set_option maxRecDepth 20000 in
theorem l_Cl_walk_1 {G : Gq} {K : Int → Wd → Prop} {w : Wd} {rc rs : Nat} (x1 : Nat) (x2 : Nat) (x3 : Nat) (x4 : Option Nat) (x5 : Int) (h : (25 ≤ x5 → WD G M_Cl_walk 237 [(0, vR 0), (1, vA x1), (2, vA x2), (5, vI 0)] [] w rc rs (yI K)) ∧ (¬ 25 ≤ x5 → (3 ≤ x5 → ∃ a10 : Nat, x4 = some a10 ∧ (∃ n12 : Nat, ((Is G w a10 (kA 0 n12)) ∧ (inR (n12 : Int)) ∧ (inR ((n12 : Int) + 1)) ∧ DI G M_Cl_draw [vA x3, vI ((n12 : Int) + 1)] w 0 0 (fun v17 w16 => (inR (1 + v17)) ∧ ((1 + v17) < 1 → CI M_Cs_coin [vR 0, vI (1 + v17), vI 0] (wS w16) (fun v20 σ21 => (v20 = (-2) → (inR (x5 + 1)) ∧ WD G M_Cl_walk 9 [(0, vR 0), (1, vA x1), (2, vA x2), (3, vA x3), (4, vP (some a10)), (5, vI (x5 + 1))] [] (uS w16 σ21) rc rs (yI K)) ∧ (¬ v20 = (-2) → K 0 (uS w16 σ21)))) ∧ (¬ (1 + v17) < 1 → ((1 + v17) ≤ (n12 : Int) → (Is G w16 x1 (kO 11)) ∧ ∃ a26 : Nat, (wR w16 x1 1) = some a26 ∧ (∃ c28 s29 : Nat, c28 ≤ rc ∧ s29 ≤ rs ∧ ((Is G w16 a26 (kO 14)) ∧ DP G M_Al_iterator [vA a26] w16 c28 s29 (fun v34 w33 => WD G M_Cl_walk 86 [(0, vR 0), (1, vA x1), (2, vA x2), (3, vA x3), (4, vA a10), (5, vI x5), (6, vI (1 + v17)), (7, vI 0), (8, vP v34)] [] w33 (rc - c28) (rs - s29) (yI K))))) ∧ (¬ (1 + v17) ≤ (n12 : Int) → CI M_Cs_coin [vR 0, vI (1 + v17), vI 0] (wS w16) (fun v35 σ36 => (v35 = (-2) → (inR (x5 + 1)) ∧ WD G M_Cl_walk 9 [(0, vR 0), (1, vA x1), (2, vA x2), (3, vA x3), (4, vP (some a10)), (5, vI (x5 + 1))] [] (uS w16 σ36) rc rs (yI K)) ∧ (¬ v35 = (-2) → K 0 (uS w16 σ36))))))))) ∧ (¬ 3 ≤ x5 → ∃ a39 : Nat, x4 = some a39 ∧ (∃ n41 : Nat, ((Is G w a39 (kA 0 n41)) ∧ (inR (n41 : Int)) ∧ (inR ((n41 : Int) + x5)) ∧ (inR (((n41 : Int) + x5) - 1)) ∧ ((((n41 : Int) + x5) - 1) < 1 → CI M_Cs_coin [vR 0, vI (((n41 : Int) + x5) - 1), vI 0] (wS w) (fun v47 σ48 => (v47 = (-2) → (inR (x5 + 1)) ∧ WD G M_Cl_walk 9 [(0, vR 0), (1, vA x1), (2, vA x2), (3, vA x3), (4, vP (some a39)), (5, vI (x5 + 1))] [] (uS w σ48) rc rs (yI K)) ∧ (¬ v47 = (-2) → K 0 (uS w σ48)))) ∧ (¬ (((n41 : Int) + x5) - 1) < 1 → ((((n41 : Int) + x5) - 1) ≤ (n41 : Int) → (Is G w x1 (kO 11)) ∧ ∃ a53 : Nat, (wR w x1 1) = some a53 ∧ (∃ c55 s56 : Nat, c55 ≤ rc ∧ s56 ≤ rs ∧ ((Is G w a53 (kO 14)) ∧ DP G M_Al_iterator [vA a53] w c55 s56 (fun v61 w60 => WD G M_Cl_walk 86 [(0, vR 0), (1, vA x1), (2, vA x2), (3, vA x3), (4, vA a39), (5, vI x5), (6, vI (((n41 : Int) + x5) - 1)), (7, vI 0), (8, vP v61)] [] w60 (rc - c55) (rs - s56) (yI K))))) ∧ (¬ (((n41 : Int) + x5) - 1) ≤ (n41 : Int) → CI M_Cs_coin [vR 0, vI (((n41 : Int) + x5) - 1), vI 0] (wS w) (fun v62 σ63 => (v62 = (-2) → (inR (x5 + 1)) ∧ WD G M_Cl_walk 9 [(0, vR 0), (1, vA x1), (2, vA x2), (3, vA x3), (4, vP (some a39)), (5, vI (x5 + 1))] [] (uS w σ63) rc rs (yI K)) ∧ (¬ v62 = (-2) → K 0 (uS w σ63)))))))))) : WD G M_Cl_walk 9 [(0, vR 0), (1, vA x1), (2, vA x2), (3, vA x3), (4, vP x4), (5, vI x5)] [] w rc rs (yI K) := by
  refine x_iload d_Cl_walk_9 rfl (?_ : WD _ _ 11 _ _ _ _ _ _)
  refine x_bipush d_Cl_walk_11 (by decide) (by decide) (?_ : WD _ _ 13 _ _ _ _ _ _)
  refine x_icmp_ge 234 d_Cl_walk_13 rfl ⟨fun c8 => (?_ : WD _ _ 234 _ _ _ _ _ _), fun c8 => (?_ : WD _ _ 16 _ _ _ _ _ _)⟩
  · replace h := h.1 c8
    refine x_iconst d_Cl_walk_234 (by decide) (?_ : WD _ _ 235 _ _ _ _ _ _)
    refine x_istore (ls' := [(5, vI 0), (0, vR 0), (1, vA x1), (2, vA x2), (3, vA x3), (4, vP x4)]) d_Cl_walk_235 (by decide) rfl (?_ : WD _ _ 237 _ _ _ _ _ _)
    refine x_pick (ls' := [(0, vR 0), (1, vA x1), (2, vA x2), (5, vI 0)]) [1, 2, 3, 0] rfl ?_
    exact h
  · replace h := h.2 c8
    refine x_iload d_Cl_walk_16 rfl (?_ : WD _ _ 18 _ _ _ _ _ _)
    refine x_iconst d_Cl_walk_18 (by decide) (?_ : WD _ _ 19 _ _ _ _ _ _)
    refine x_icmp_ge 33 d_Cl_walk_19 rfl ⟨fun c9 => (?_ : WD _ _ 33 _ _ _ _ _ _), fun c9 => (?_ : WD _ _ 22 _ _ _ _ _ _)⟩
    · replace h := h.1 c9
      refine x_iconst d_Cl_walk_33 (by decide) (?_ : WD _ _ 34 _ _ _ _ _ _)
      refine x_aload_nP (some x3) d_Cl_walk_34 rfl (?_ : WD _ _ 35 _ _ _ _ _ _)
      refine x_aloadP x4 d_Cl_walk_35 rfl (?_ : WD _ _ 37 _ _ _ _ _ _)
      obtain ⟨a10, e11, h⟩ := h
      rw [e11]
      obtain ⟨n12, h⟩ := h
      obtain ⟨k13, h⟩ := h
      obtain ⟨h14, h⟩ := h
      refine x_alenA k13 (fun _ => rfl) h14 d_Cl_walk_37 (?_ : WD _ _ 38 _ _ _ _ _ _)
      refine x_iconst d_Cl_walk_38 (by decide) (?_ : WD _ _ 39 _ _ _ _ _ _)
      obtain ⟨h15, h⟩ := h
      refine x_iadd d_Cl_walk_39 h15 (?_ : WD _ _ 40 _ _ _ _ _ _)
      refine x_callS (ν := M_Cl_draw) [vA x3, vI ((n12 : Int) + 1)] ok_M_Cl_draw oks_M_Cl_draw (qm_3 (i := 179) rfl rfl) np_M_Cl_draw rfl ⟨Nat.le_of_ble_eq_true rfl, Nat.le_of_ble_eq_true rfl⟩ (Nat.le_of_ble_eq_true rfl) rfl d_Cl_walk_40 (Nat.zero_le _) (Nat.zero_le _) (DI.k h (fun v17 w16 gw16 h => (?_ : WD _ _ 43 _ _ _ _ _ _)))
      obtain ⟨h18, h⟩ := h
      refine x_iadd d_Cl_walk_43 h18 (?_ : WD _ _ 44 _ _ _ _ _ _)
      refine x_istore (ls' := [(6, vI (1 + v17)), (0, vR 0), (1, vA x1), (2, vA x2), (3, vA x3), (4, vA a10), (5, vI x5)]) d_Cl_walk_44 (by decide) rfl (?_ : WD _ _ 46 _ _ _ _ _ _)
      refine x_iload d_Cl_walk_46 rfl (?_ : WD _ _ 48 _ _ _ _ _ _)
      refine x_iconst d_Cl_walk_48 (by decide) (?_ : WD _ _ 49 _ _ _ _ _ _)
      refine x_icmp_lt 60 d_Cl_walk_49 rfl ⟨fun c19 => (?_ : WD _ _ 60 _ _ _ _ _ _), fun c19 => (?_ : WD _ _ 52 _ _ _ _ _ _)⟩
      · replace h := h.1 c19
        refine x_aload_n d_Cl_walk_60 rfl (?_ : WD _ _ 61 _ _ _ _ _ _)
        refine x_iload d_Cl_walk_61 rfl (?_ : WD _ _ 63 _ _ _ _ _ _)
        refine x_iconst d_Cl_walk_63 (by decide) (?_ : WD _ _ 64 _ _ _ _ _ _)
        refine x_callC (ν := M_Cs_coin) (k := 0) [vI (1 + v17), vI 0] ok_M_Cs_coin okv_M_Cs_coin (by decide) rfl rfl rfl (qm_9 (i := 170) rfl rfl) np_M_Cs_coin rfl ⟨Nat.le_of_ble_eq_true rfl, Nat.le_of_ble_eq_true rfl⟩ (Nat.le_of_ble_eq_true rfl) rfl d_Cl_walk_64 (CI.kd h (fun v20 σ21 h => (?_ : WD _ _ 67 _ _ _ _ _ _)))
        refine x_bipush d_Cl_walk_67 (by decide) (by decide) (?_ : WD _ _ 69 _ _ _ _ _ _)
        refine x_icmp_eq 228 d_Cl_walk_69 rfl ⟨fun c22 => (?_ : WD _ _ 228 _ _ _ _ _ _), fun c22 => (?_ : WD _ _ 72 _ _ _ _ _ _)⟩
        · replace h := h.1 c22
          obtain ⟨h23, h⟩ := h
          refine x_iinc (ls' := [(5, vI (x5 + 1)), (6, vI (1 + v17)), (0, vR 0), (1, vA x1), (2, vA x2), (3, vA x3), (4, vA a10)]) d_Cl_walk_228 rfl h23 (by decide) rfl (?_ : WD _ _ 231 _ _ _ _ _ _)
          refine x_goto 9 d_Cl_walk_231 rfl ?_
          refine x_pick (ls' := [(0, vR 0), (1, vA x1), (2, vA x2), (3, vA x3), (4, vP (some a10)), (5, vI (x5 + 1))]) [2, 3, 4, 5, 6, 0] rfl ?_
          exact h
        · replace h := h.2 c22
          refine x_iconst d_Cl_walk_72 (by decide) (?_ : WD _ _ 73 _ _ _ _ _ _)
          exact x_zreturn rfl d_Cl_walk_73 (by decide) h
      · replace h := h.2 c19
        refine x_iload d_Cl_walk_52 rfl (?_ : WD _ _ 54 _ _ _ _ _ _)
        refine x_aloadP (some a10) d_Cl_walk_54 rfl (?_ : WD _ _ 56 _ _ _ _ _ _)
        refine x_alenA (k13.q gw16.k) (fun _ => rfl) h14 d_Cl_walk_56 (?_ : WD _ _ 57 _ _ _ _ _ _)
        refine x_icmp_le 74 d_Cl_walk_57 rfl ⟨fun c24 => (?_ : WD _ _ 74 _ _ _ _ _ _), fun c24 => (?_ : WD _ _ 60 _ _ _ _ _ _)⟩
        · replace h := h.1 c24
          refine x_iconst d_Cl_walk_74 (by decide) (?_ : WD _ _ 75 _ _ _ _ _ _)
          refine x_istore (ls' := [(7, vI 0), (6, vI (1 + v17)), (0, vR 0), (1, vA x1), (2, vA x2), (3, vA x3), (4, vA a10), (5, vI x5)]) d_Cl_walk_75 (by decide) rfl (?_ : WD _ _ 77 _ _ _ _ _ _)
          refine x_aload_nP (some x1) d_Cl_walk_77 rfl (?_ : WD _ _ 78 _ _ _ _ _ _)
          obtain ⟨k25, h⟩ := h
          refine x_getP (ref := "CoinSamplerLaw$Books") (j := 1) 1 k25 clk_11 (by decide) (qm_2 (i := 158) rfl rfl) (Or.inl rfl) rfl rfl d_Cl_walk_78 (y := (wR w16 x1 1)) rfl (?_ : WD _ _ 81 _ _ _ _ _ _)
          obtain ⟨a26, e27, h⟩ := h
          rw [e27]
          obtain ⟨c28, s29, h30, h31, h⟩ := h
          obtain ⟨k32, h⟩ := h
          refine x_callV (ν := M_Al_iterator) [] ok_M_Al_iterator okv_M_Al_iterator k32 rfl rfl (qm_5 (i := 180) rfl rfl) np_M_Al_iterator rfl ⟨Nat.le_of_ble_eq_true rfl, Nat.le_of_ble_eq_true rfl⟩ (Nat.le_of_ble_eq_true rfl) rfl d_Cl_walk_81 h30 h31 (DP.k h (fun v34 w33 gw33 h => (?_ : WD _ _ 84 _ _ _ _ _ _)))
          refine x_astoreP v34 (ls' := [(8, vP v34), (7, vI 0), (6, vI (1 + v17)), (0, vR 0), (1, vA x1), (2, vA x2), (3, vA x3), (4, vA a10), (5, vI x5)]) d_Cl_walk_84 (by decide) rfl (?_ : WD _ _ 86 _ _ _ _ _ _)
          refine x_pick (ls' := [(0, vR 0), (1, vA x1), (2, vA x2), (3, vA x3), (4, vA a10), (5, vI x5), (6, vI (1 + v17)), (7, vI 0), (8, vP v34)]) [3, 4, 5, 6, 7, 8, 2, 1, 0] rfl ?_
          exact h
        · replace h := h.2 c24
          refine x_aload_n d_Cl_walk_60 rfl (?_ : WD _ _ 61 _ _ _ _ _ _)
          refine x_iload d_Cl_walk_61 rfl (?_ : WD _ _ 63 _ _ _ _ _ _)
          refine x_iconst d_Cl_walk_63 (by decide) (?_ : WD _ _ 64 _ _ _ _ _ _)
          refine x_callC (ν := M_Cs_coin) (k := 0) [vI (1 + v17), vI 0] ok_M_Cs_coin okv_M_Cs_coin (by decide) rfl rfl rfl (qm_9 (i := 170) rfl rfl) np_M_Cs_coin rfl ⟨Nat.le_of_ble_eq_true rfl, Nat.le_of_ble_eq_true rfl⟩ (Nat.le_of_ble_eq_true rfl) rfl d_Cl_walk_64 (CI.kd h (fun v35 σ36 h => (?_ : WD _ _ 67 _ _ _ _ _ _)))
          refine x_bipush d_Cl_walk_67 (by decide) (by decide) (?_ : WD _ _ 69 _ _ _ _ _ _)
          refine x_icmp_eq 228 d_Cl_walk_69 rfl ⟨fun c37 => (?_ : WD _ _ 228 _ _ _ _ _ _), fun c37 => (?_ : WD _ _ 72 _ _ _ _ _ _)⟩
          · replace h := h.1 c37
            obtain ⟨h38, h⟩ := h
            refine x_iinc (ls' := [(5, vI (x5 + 1)), (6, vI (1 + v17)), (0, vR 0), (1, vA x1), (2, vA x2), (3, vA x3), (4, vA a10)]) d_Cl_walk_228 rfl h38 (by decide) rfl (?_ : WD _ _ 231 _ _ _ _ _ _)
            refine x_goto 9 d_Cl_walk_231 rfl ?_
            refine x_pick (ls' := [(0, vR 0), (1, vA x1), (2, vA x2), (3, vA x3), (4, vP (some a10)), (5, vI (x5 + 1))]) [2, 3, 4, 5, 6, 0] rfl ?_
            exact h
          · replace h := h.2 c37
            refine x_iconst d_Cl_walk_72 (by decide) (?_ : WD _ _ 73 _ _ _ _ _ _)
            exact x_zreturn rfl d_Cl_walk_73 (by decide) h
    · replace h := h.2 c9
      refine x_aloadP x4 d_Cl_walk_22 rfl (?_ : WD _ _ 24 _ _ _ _ _ _)
      obtain ⟨a39, e40, h⟩ := h
      rw [e40]
      obtain ⟨n41, h⟩ := h
      obtain ⟨k42, h⟩ := h
      obtain ⟨h43, h⟩ := h
      refine x_alenA k42 (fun _ => rfl) h43 d_Cl_walk_24 (?_ : WD _ _ 25 _ _ _ _ _ _)
      refine x_iload d_Cl_walk_25 rfl (?_ : WD _ _ 27 _ _ _ _ _ _)
      obtain ⟨h44, h⟩ := h
      refine x_iadd d_Cl_walk_27 h44 (?_ : WD _ _ 28 _ _ _ _ _ _)
      refine x_iconst d_Cl_walk_28 (by decide) (?_ : WD _ _ 29 _ _ _ _ _ _)
      obtain ⟨h45, h⟩ := h
      refine x_isub d_Cl_walk_29 h45 (?_ : WD _ _ 30 _ _ _ _ _ _)
      refine x_goto 44 d_Cl_walk_30 rfl ?_
      refine x_istore (ls' := [(6, vI (((n41 : Int) + x5) - 1)), (0, vR 0), (1, vA x1), (2, vA x2), (3, vA x3), (4, vA a39), (5, vI x5)]) d_Cl_walk_44 (by decide) rfl (?_ : WD _ _ 46 _ _ _ _ _ _)
      refine x_iload d_Cl_walk_46 rfl (?_ : WD _ _ 48 _ _ _ _ _ _)
      refine x_iconst d_Cl_walk_48 (by decide) (?_ : WD _ _ 49 _ _ _ _ _ _)
      refine x_icmp_lt 60 d_Cl_walk_49 rfl ⟨fun c46 => (?_ : WD _ _ 60 _ _ _ _ _ _), fun c46 => (?_ : WD _ _ 52 _ _ _ _ _ _)⟩
      · replace h := h.1 c46
        refine x_aload_n d_Cl_walk_60 rfl (?_ : WD _ _ 61 _ _ _ _ _ _)
        refine x_iload d_Cl_walk_61 rfl (?_ : WD _ _ 63 _ _ _ _ _ _)
        refine x_iconst d_Cl_walk_63 (by decide) (?_ : WD _ _ 64 _ _ _ _ _ _)
        refine x_callC (ν := M_Cs_coin) (k := 0) [vI (((n41 : Int) + x5) - 1), vI 0] ok_M_Cs_coin okv_M_Cs_coin (by decide) rfl rfl rfl (qm_9 (i := 170) rfl rfl) np_M_Cs_coin rfl ⟨Nat.le_of_ble_eq_true rfl, Nat.le_of_ble_eq_true rfl⟩ (Nat.le_of_ble_eq_true rfl) rfl d_Cl_walk_64 (CI.kd h (fun v47 σ48 h => (?_ : WD _ _ 67 _ _ _ _ _ _)))
        refine x_bipush d_Cl_walk_67 (by decide) (by decide) (?_ : WD _ _ 69 _ _ _ _ _ _)
        refine x_icmp_eq 228 d_Cl_walk_69 rfl ⟨fun c49 => (?_ : WD _ _ 228 _ _ _ _ _ _), fun c49 => (?_ : WD _ _ 72 _ _ _ _ _ _)⟩
        · replace h := h.1 c49
          obtain ⟨h50, h⟩ := h
          refine x_iinc (ls' := [(5, vI (x5 + 1)), (6, vI (((n41 : Int) + x5) - 1)), (0, vR 0), (1, vA x1), (2, vA x2), (3, vA x3), (4, vA a39)]) d_Cl_walk_228 rfl h50 (by decide) rfl (?_ : WD _ _ 231 _ _ _ _ _ _)
          refine x_goto 9 d_Cl_walk_231 rfl ?_
          refine x_pick (ls' := [(0, vR 0), (1, vA x1), (2, vA x2), (3, vA x3), (4, vP (some a39)), (5, vI (x5 + 1))]) [2, 3, 4, 5, 6, 0] rfl ?_
          exact h
        · replace h := h.2 c49
          refine x_iconst d_Cl_walk_72 (by decide) (?_ : WD _ _ 73 _ _ _ _ _ _)
          exact x_zreturn rfl d_Cl_walk_73 (by decide) h
      · replace h := h.2 c46
        refine x_iload d_Cl_walk_52 rfl (?_ : WD _ _ 54 _ _ _ _ _ _)
        refine x_aloadP (some a39) d_Cl_walk_54 rfl (?_ : WD _ _ 56 _ _ _ _ _ _)
        refine x_alenA k42 (fun _ => rfl) h43 d_Cl_walk_56 (?_ : WD _ _ 57 _ _ _ _ _ _)
        refine x_icmp_le 74 d_Cl_walk_57 rfl ⟨fun c51 => (?_ : WD _ _ 74 _ _ _ _ _ _), fun c51 => (?_ : WD _ _ 60 _ _ _ _ _ _)⟩
        · replace h := h.1 c51
          refine x_iconst d_Cl_walk_74 (by decide) (?_ : WD _ _ 75 _ _ _ _ _ _)
          refine x_istore (ls' := [(7, vI 0), (6, vI (((n41 : Int) + x5) - 1)), (0, vR 0), (1, vA x1), (2, vA x2), (3, vA x3), (4, vA a39), (5, vI x5)]) d_Cl_walk_75 (by decide) rfl (?_ : WD _ _ 77 _ _ _ _ _ _)
          refine x_aload_nP (some x1) d_Cl_walk_77 rfl (?_ : WD _ _ 78 _ _ _ _ _ _)
          obtain ⟨k52, h⟩ := h
          refine x_getP (ref := "CoinSamplerLaw$Books") (j := 1) 1 k52 clk_11 (by decide) (qm_2 (i := 158) rfl rfl) (Or.inl rfl) rfl rfl d_Cl_walk_78 (y := (wR w x1 1)) rfl (?_ : WD _ _ 81 _ _ _ _ _ _)
          obtain ⟨a53, e54, h⟩ := h
          rw [e54]
          obtain ⟨c55, s56, h57, h58, h⟩ := h
          obtain ⟨k59, h⟩ := h
          refine x_callV (ν := M_Al_iterator) [] ok_M_Al_iterator okv_M_Al_iterator k59 rfl rfl (qm_5 (i := 180) rfl rfl) np_M_Al_iterator rfl ⟨Nat.le_of_ble_eq_true rfl, Nat.le_of_ble_eq_true rfl⟩ (Nat.le_of_ble_eq_true rfl) rfl d_Cl_walk_81 h57 h58 (DP.k h (fun v61 w60 gw60 h => (?_ : WD _ _ 84 _ _ _ _ _ _)))
          refine x_astoreP v61 (ls' := [(8, vP v61), (7, vI 0), (6, vI (((n41 : Int) + x5) - 1)), (0, vR 0), (1, vA x1), (2, vA x2), (3, vA x3), (4, vA a39), (5, vI x5)]) d_Cl_walk_84 (by decide) rfl (?_ : WD _ _ 86 _ _ _ _ _ _)
          refine x_pick (ls' := [(0, vR 0), (1, vA x1), (2, vA x2), (3, vA x3), (4, vA a39), (5, vI x5), (6, vI (((n41 : Int) + x5) - 1)), (7, vI 0), (8, vP v61)]) [3, 4, 5, 6, 7, 8, 2, 1, 0] rfl ?_
          exact h
        · replace h := h.2 c51
          refine x_aload_n d_Cl_walk_60 rfl (?_ : WD _ _ 61 _ _ _ _ _ _)
          refine x_iload d_Cl_walk_61 rfl (?_ : WD _ _ 63 _ _ _ _ _ _)
          refine x_iconst d_Cl_walk_63 (by decide) (?_ : WD _ _ 64 _ _ _ _ _ _)
          refine x_callC (ν := M_Cs_coin) (k := 0) [vI (((n41 : Int) + x5) - 1), vI 0] ok_M_Cs_coin okv_M_Cs_coin (by decide) rfl rfl rfl (qm_9 (i := 170) rfl rfl) np_M_Cs_coin rfl ⟨Nat.le_of_ble_eq_true rfl, Nat.le_of_ble_eq_true rfl⟩ (Nat.le_of_ble_eq_true rfl) rfl d_Cl_walk_64 (CI.kd h (fun v62 σ63 h => (?_ : WD _ _ 67 _ _ _ _ _ _)))
          refine x_bipush d_Cl_walk_67 (by decide) (by decide) (?_ : WD _ _ 69 _ _ _ _ _ _)
          refine x_icmp_eq 228 d_Cl_walk_69 rfl ⟨fun c64 => (?_ : WD _ _ 228 _ _ _ _ _ _), fun c64 => (?_ : WD _ _ 72 _ _ _ _ _ _)⟩
          · replace h := h.1 c64
            obtain ⟨h65, h⟩ := h
            refine x_iinc (ls' := [(5, vI (x5 + 1)), (6, vI (((n41 : Int) + x5) - 1)), (0, vR 0), (1, vA x1), (2, vA x2), (3, vA x3), (4, vA a39)]) d_Cl_walk_228 rfl h65 (by decide) rfl (?_ : WD _ _ 231 _ _ _ _ _ _)
            refine x_goto 9 d_Cl_walk_231 rfl ?_
            refine x_pick (ls' := [(0, vR 0), (1, vA x1), (2, vA x2), (3, vA x3), (4, vP (some a39)), (5, vI (x5 + 1))]) [2, 3, 4, 5, 6, 0] rfl ?_
            exact h
          · replace h := h.2 c64
            refine x_iconst d_Cl_walk_72 (by decide) (?_ : WD _ _ 73 _ _ _ _ _ _)
            exact x_zreturn rfl d_Cl_walk_73 (by decide) h
set_option maxRecDepth 20000 in
theorem l_Cl_walk_2 {G : Gq} {K : Int → Wd → Prop} {w : Wd} {rc rs : Nat} (x1 : Nat) (x2 : Nat) (x3 : Nat) (x4 : Nat) (x5 : Int) (x6 : Int) (x7 : Int) (x8 : Option Nat) (h : ∃ a66 : Nat, x8 = some a66 ∧ ((Is G w a66 (kO 15)) ∧ DI G M_Ai_hasNext [vA a66] w 0 0 (fun v70 w69 => (v70 = 0 → (Is G w69 x1 (kO 11)) ∧ (¬ (wI w69 x1 3) = 0 → CI M_Cs_coin [vR 0, vI x6, vI 0] (wS w69) (fun v74 σ75 => (inR (x6 - 1)) ∧ ∃ n77 : Nat, ((Is G (uS w69 σ75) x4 (kA 0 n77)) ∧ (0 ≤ (x6 - 1)) ∧ ((x6 - 1) < (n77 : Int)) ∧ (¬ v74 = (wI w69 x4 (x6 - 1)) → K 0 (uS w69 σ75)) ∧ (v74 = (wI w69 x4 (x6 - 1)) → CI M_Cs_coin [vR 0, vI x6, vI 1] (wS (uS w69 σ75)) (fun v82 σ83 => (0 < (wI w69 x1 3)) ∧ (¬ v82 = ((x6 - 1) / (wI w69 x1 3)) → K 0 (uS (uS w69 σ75) σ83)) ∧ (v82 = ((x6 - 1) / (wI w69 x1 3)) → CI M_Cs_coin [vR 0, vI x6, vI 2] (wS (uS (uS w69 σ75) σ83)) (fun v86 σ87 => (¬ v86 = x7 → K 0 (uS (uS (uS w69 σ75) σ83) σ87)) ∧ (v86 = x7 → CI M_Cs_coin [vR 0, vI x6, vI 3] (wS (uS (uS (uS w69 σ75) σ83) σ87)) (fun v89 σ90 => (v89 = (-2) → (inR (x5 + 1)) ∧ WD G M_Cl_walk 9 [(0, vR 0), (1, vA x1), (2, vA x2), (3, vA x3), (4, vP (some x4)), (5, vI (x5 + 1))] [] (uS (uS (uS (uS w69 σ75) σ83) σ87) σ90) rc rs (yI K)) ∧ (¬ v89 = (-2) → K 0 (uS (uS (uS (uS w69 σ75) σ83) σ87) σ90))))))))))) ∧ ((wI w69 x1 3) = 0 → CI M_Cs_coin [vR 0, vI x6, vI 0] (wS w69) (fun v93 σ94 => (v93 = (-5) → (inR (x5 + 1)) ∧ WD G M_Cl_walk 9 [(0, vR 0), (1, vA x1), (2, vA x2), (3, vA x3), (4, vP (some x4)), (5, vI (x5 + 1))] [] (uS w69 σ94) rc rs (yI K)) ∧ (¬ v93 = (-5) → K 0 (uS w69 σ94))))) ∧ (¬ v70 = 0 → DP G M_Ai_next [vA a66] w69 0 0 (fun v98 w97 => ∃ a99 : Nat, v98 = some a99 ∧ ((Is G w97 a99 (kO 16)) ∧ DI G M_In_intValue [vA a99] w97 0 0 (fun v103 w102 => (x6 < v103 → (inR (x7 + 0)) ∧ WD G M_Cl_walk 86 [(0, vR 0), (1, vA x1), (2, vA x2), (3, vA x3), (4, vA x4), (5, vI x5), (6, vI x6), (7, vI (x7 + 0)), (8, vP (some a66))] [] w102 rc rs (yI K)) ∧ (¬ x6 < v103 → (inR (x6 - v103)) ∧ (Is G w102 x1 (kO 11)) ∧ (0 ≤ (x6 - v103)) ∧ (0 < (wI w102 x1 3)) ∧ (¬ ((x6 - v103) % (wI w102 x1 3)) = 0 → (inR (x7 + 0)) ∧ WD G M_Cl_walk 86 [(0, vR 0), (1, vA x1), (2, vA x2), (3, vA x3), (4, vA x4), (5, vI x5), (6, vI x6), (7, vI (x7 + 0)), (8, vP (some a66))] [] w102 rc rs (yI K)) ∧ (((x6 - v103) % (wI w102 x1 3)) = 0 → (inR (x7 + 1)) ∧ WD G M_Cl_walk 86 [(0, vR 0), (1, vA x1), (2, vA x2), (3, vA x3), (4, vA x4), (5, vI x5), (6, vI x6), (7, vI (x7 + 1)), (8, vP (some a66))] [] w102 rc rs (yI K)))))))))) : WD G M_Cl_walk 86 [(0, vR 0), (1, vA x1), (2, vA x2), (3, vA x3), (4, vA x4), (5, vI x5), (6, vI x6), (7, vI x7), (8, vP x8)] [] w rc rs (yI K) := by
  refine x_aloadP x8 d_Cl_walk_86 rfl (?_ : WD _ _ 88 _ _ _ _ _ _)
  obtain ⟨a66, e67, h⟩ := h
  rw [e67]
  obtain ⟨k68, h⟩ := h
  refine x_callF (ν := M_Ai_hasNext) ⟨"java/util/Iterator", "hasNext", "()Z"⟩ [] ok_M_Ai_hasNext oki_M_Ai_hasNext k68 rfl (qm_2 (i := 226) rfl rfl) (by decide) (qm_5 (i := 182) rfl rfl) (show _ = some 0 from by decide +kernel) rfl ⟨Nat.le_of_ble_eq_true rfl, Nat.le_of_ble_eq_true rfl⟩ (Nat.le_of_ble_eq_true rfl) rfl d_Cl_walk_88 (Nat.zero_le _) (Nat.zero_le _) (DI.k h (fun v70 w69 gw69 h => (?_ : WD _ _ 93 _ _ _ _ _ _)))
  refine x_if_eq 144 d_Cl_walk_93 rfl ⟨fun c71 => (?_ : WD _ _ 144 _ _ _ _ _ _), fun c71 => (?_ : WD _ _ 96 _ _ _ _ _ _)⟩
  · replace h := h.1 c71
    refine x_aload_nP (some x1) d_Cl_walk_144 rfl (?_ : WD _ _ 145 _ _ _ _ _ _)
    obtain ⟨k72, h⟩ := h
    refine x_getI (ref := "CoinSamplerLaw$Books") (j := 3) 3 k72 clk_11 (by decide) (qm_2 (i := 162) rfl rfl) (Or.inl rfl) rfl rfl d_Cl_walk_145 (y := (wI w69 x1 3)) rfl (?_ : WD _ _ 148 _ _ _ _ _ _)
    refine x_if_ne 166 d_Cl_walk_148 rfl ⟨fun c73 => (?_ : WD _ _ 166 _ _ _ _ _ _), fun c73 => (?_ : WD _ _ 151 _ _ _ _ _ _)⟩
    · replace h := h.1 c73
      refine x_aload_n d_Cl_walk_166 rfl (?_ : WD _ _ 167 _ _ _ _ _ _)
      refine x_iload d_Cl_walk_167 rfl (?_ : WD _ _ 169 _ _ _ _ _ _)
      refine x_iconst d_Cl_walk_169 (by decide) (?_ : WD _ _ 170 _ _ _ _ _ _)
      refine x_callC (ν := M_Cs_coin) (k := 0) [vI x6, vI 0] ok_M_Cs_coin okv_M_Cs_coin (by decide) rfl rfl rfl (qm_9 (i := 170) rfl rfl) np_M_Cs_coin rfl ⟨Nat.le_of_ble_eq_true rfl, Nat.le_of_ble_eq_true rfl⟩ (Nat.le_of_ble_eq_true rfl) rfl d_Cl_walk_170 (CI.kd h (fun v74 σ75 h => (?_ : WD _ _ 173 _ _ _ _ _ _)))
      refine x_aloadP (some x4) d_Cl_walk_173 rfl (?_ : WD _ _ 175 _ _ _ _ _ _)
      refine x_iload d_Cl_walk_175 rfl (?_ : WD _ _ 177 _ _ _ _ _ _)
      refine x_iconst d_Cl_walk_177 (by decide) (?_ : WD _ _ 178 _ _ _ _ _ _)
      obtain ⟨h76, h⟩ := h
      refine x_isub d_Cl_walk_178 h76 (?_ : WD _ _ 179 _ _ _ _ _ _)
      obtain ⟨n77, h⟩ := h
      obtain ⟨k78, h⟩ := h
      obtain ⟨h79, h⟩ := h
      obtain ⟨h80, h⟩ := h
      refine x_iald k78 d_Cl_walk_179 h79 h80 (y := (wI w69 x4 (x6 - 1))) rfl (?_ : WD _ _ 180 _ _ _ _ _ _)
      refine x_icmp_ne 226 d_Cl_walk_180 rfl ⟨fun c81 => (?_ : WD _ _ 226 _ _ _ _ _ _), fun c81 => (?_ : WD _ _ 183 _ _ _ _ _ _)⟩
      · replace h := h.1 c81
        refine x_iconst d_Cl_walk_226 (by decide) (?_ : WD _ _ 227 _ _ _ _ _ _)
        exact x_zreturn rfl d_Cl_walk_227 (by decide) h
      · replace h := h.2 c81
        refine x_aload_n d_Cl_walk_183 rfl (?_ : WD _ _ 184 _ _ _ _ _ _)
        refine x_iload d_Cl_walk_184 rfl (?_ : WD _ _ 186 _ _ _ _ _ _)
        refine x_iconst d_Cl_walk_186 (by decide) (?_ : WD _ _ 187 _ _ _ _ _ _)
        refine x_callC (ν := M_Cs_coin) (k := 0) [vI x6, vI 1] ok_M_Cs_coin okv_M_Cs_coin (by decide) rfl rfl rfl (qm_9 (i := 170) rfl rfl) np_M_Cs_coin rfl ⟨Nat.le_of_ble_eq_true rfl, Nat.le_of_ble_eq_true rfl⟩ (Nat.le_of_ble_eq_true rfl) rfl d_Cl_walk_187 (CI.kd h (fun v82 σ83 h => (?_ : WD _ _ 190 _ _ _ _ _ _)))
        refine x_iload d_Cl_walk_190 rfl (?_ : WD _ _ 192 _ _ _ _ _ _)
        refine x_iconst d_Cl_walk_192 (by decide) (?_ : WD _ _ 193 _ _ _ _ _ _)
        refine x_isub d_Cl_walk_193 h76 (?_ : WD _ _ 194 _ _ _ _ _ _)
        refine x_aload_nP (some x1) d_Cl_walk_194 rfl (?_ : WD _ _ 195 _ _ _ _ _ _)
        refine x_getI (ref := "CoinSamplerLaw$Books") (j := 3) 3 k72 clk_11 (by decide) (qm_2 (i := 162) rfl rfl) (Or.inl rfl) rfl rfl d_Cl_walk_195 (y := (wI w69 x1 3)) rfl (?_ : WD _ _ 198 _ _ _ _ _ _)
        obtain ⟨h84, h⟩ := h
        refine x_idivn d_Cl_walk_198 h79 h84 (?_ : WD _ _ 199 _ _ _ _ _ _)
        refine x_icmp_ne 226 d_Cl_walk_199 rfl ⟨fun c85 => (?_ : WD _ _ 226 _ _ _ _ _ _), fun c85 => (?_ : WD _ _ 202 _ _ _ _ _ _)⟩
        · replace h := h.1 c85
          refine x_iconst d_Cl_walk_226 (by decide) (?_ : WD _ _ 227 _ _ _ _ _ _)
          exact x_zreturn rfl d_Cl_walk_227 (by decide) h
        · replace h := h.2 c85
          refine x_aload_n d_Cl_walk_202 rfl (?_ : WD _ _ 203 _ _ _ _ _ _)
          refine x_iload d_Cl_walk_203 rfl (?_ : WD _ _ 205 _ _ _ _ _ _)
          refine x_iconst d_Cl_walk_205 (by decide) (?_ : WD _ _ 206 _ _ _ _ _ _)
          refine x_callC (ν := M_Cs_coin) (k := 0) [vI x6, vI 2] ok_M_Cs_coin okv_M_Cs_coin (by decide) rfl rfl rfl (qm_9 (i := 170) rfl rfl) np_M_Cs_coin rfl ⟨Nat.le_of_ble_eq_true rfl, Nat.le_of_ble_eq_true rfl⟩ (Nat.le_of_ble_eq_true rfl) rfl d_Cl_walk_206 (CI.kd h (fun v86 σ87 h => (?_ : WD _ _ 209 _ _ _ _ _ _)))
          refine x_iload d_Cl_walk_209 rfl (?_ : WD _ _ 211 _ _ _ _ _ _)
          refine x_icmp_ne 226 d_Cl_walk_211 rfl ⟨fun c88 => (?_ : WD _ _ 226 _ _ _ _ _ _), fun c88 => (?_ : WD _ _ 214 _ _ _ _ _ _)⟩
          · replace h := h.1 c88
            refine x_iconst d_Cl_walk_226 (by decide) (?_ : WD _ _ 227 _ _ _ _ _ _)
            exact x_zreturn rfl d_Cl_walk_227 (by decide) h
          · replace h := h.2 c88
            refine x_aload_n d_Cl_walk_214 rfl (?_ : WD _ _ 215 _ _ _ _ _ _)
            refine x_iload d_Cl_walk_215 rfl (?_ : WD _ _ 217 _ _ _ _ _ _)
            refine x_iconst d_Cl_walk_217 (by decide) (?_ : WD _ _ 218 _ _ _ _ _ _)
            refine x_callC (ν := M_Cs_coin) (k := 0) [vI x6, vI 3] ok_M_Cs_coin okv_M_Cs_coin (by decide) rfl rfl rfl (qm_9 (i := 170) rfl rfl) np_M_Cs_coin rfl ⟨Nat.le_of_ble_eq_true rfl, Nat.le_of_ble_eq_true rfl⟩ (Nat.le_of_ble_eq_true rfl) rfl d_Cl_walk_218 (CI.kd h (fun v89 σ90 h => (?_ : WD _ _ 221 _ _ _ _ _ _)))
            refine x_bipush d_Cl_walk_221 (by decide) (by decide) (?_ : WD _ _ 223 _ _ _ _ _ _)
            refine x_icmp_eq 228 d_Cl_walk_223 rfl ⟨fun c91 => (?_ : WD _ _ 228 _ _ _ _ _ _), fun c91 => (?_ : WD _ _ 226 _ _ _ _ _ _)⟩
            · replace h := h.1 c91
              obtain ⟨h92, h⟩ := h
              refine x_iinc (ls' := [(5, vI (x5 + 1)), (0, vR 0), (1, vA x1), (2, vA x2), (3, vA x3), (4, vA x4), (6, vI x6), (7, vI x7), (8, vA a66)]) d_Cl_walk_228 rfl h92 (by decide) rfl (?_ : WD _ _ 231 _ _ _ _ _ _)
              refine x_goto 9 d_Cl_walk_231 rfl ?_
              refine x_pick (ls' := [(0, vR 0), (1, vA x1), (2, vA x2), (3, vA x3), (4, vP (some x4)), (5, vI (x5 + 1))]) [1, 2, 3, 4, 5, 0] rfl ?_
              exact h
            · replace h := h.2 c91
              refine x_iconst d_Cl_walk_226 (by decide) (?_ : WD _ _ 227 _ _ _ _ _ _)
              exact x_zreturn rfl d_Cl_walk_227 (by decide) h
    · replace h := h.2 c73
      refine x_aload_n d_Cl_walk_151 rfl (?_ : WD _ _ 152 _ _ _ _ _ _)
      refine x_iload d_Cl_walk_152 rfl (?_ : WD _ _ 154 _ _ _ _ _ _)
      refine x_iconst d_Cl_walk_154 (by decide) (?_ : WD _ _ 155 _ _ _ _ _ _)
      refine x_callC (ν := M_Cs_coin) (k := 0) [vI x6, vI 0] ok_M_Cs_coin okv_M_Cs_coin (by decide) rfl rfl rfl (qm_9 (i := 170) rfl rfl) np_M_Cs_coin rfl ⟨Nat.le_of_ble_eq_true rfl, Nat.le_of_ble_eq_true rfl⟩ (Nat.le_of_ble_eq_true rfl) rfl d_Cl_walk_155 (CI.kd h (fun v93 σ94 h => (?_ : WD _ _ 158 _ _ _ _ _ _)))
      refine x_bipush d_Cl_walk_158 (by decide) (by decide) (?_ : WD _ _ 160 _ _ _ _ _ _)
      refine x_icmp_eq 228 d_Cl_walk_160 rfl ⟨fun c95 => (?_ : WD _ _ 228 _ _ _ _ _ _), fun c95 => (?_ : WD _ _ 163 _ _ _ _ _ _)⟩
      · replace h := h.1 c95
        obtain ⟨h96, h⟩ := h
        refine x_iinc (ls' := [(5, vI (x5 + 1)), (0, vR 0), (1, vA x1), (2, vA x2), (3, vA x3), (4, vA x4), (6, vI x6), (7, vI x7), (8, vA a66)]) d_Cl_walk_228 rfl h96 (by decide) rfl (?_ : WD _ _ 231 _ _ _ _ _ _)
        refine x_goto 9 d_Cl_walk_231 rfl ?_
        refine x_pick (ls' := [(0, vR 0), (1, vA x1), (2, vA x2), (3, vA x3), (4, vP (some x4)), (5, vI (x5 + 1))]) [1, 2, 3, 4, 5, 0] rfl ?_
        exact h
      · replace h := h.2 c95
        refine x_goto 226 d_Cl_walk_163 rfl ?_
        refine x_iconst d_Cl_walk_226 (by decide) (?_ : WD _ _ 227 _ _ _ _ _ _)
        exact x_zreturn rfl d_Cl_walk_227 (by decide) h
  · replace h := h.2 c71
    refine x_aloadP (some a66) d_Cl_walk_96 rfl (?_ : WD _ _ 98 _ _ _ _ _ _)
    refine x_callF (ν := M_Ai_next) ⟨"java/util/Iterator", "next", "()Ljava/lang/Object;"⟩ [] ok_M_Ai_next oki_M_Ai_next (k68.q gw69.k) rfl (qm_3 (i := 7) rfl rfl) (by decide) (qm_5 (i := 184) rfl rfl) (show _ = some 0 from by decide +kernel) rfl ⟨Nat.le_of_ble_eq_true rfl, Nat.le_of_ble_eq_true rfl⟩ (Nat.le_of_ble_eq_true rfl) rfl d_Cl_walk_98 (Nat.zero_le _) (Nat.zero_le _) (DP.k h (fun v98 w97 gw97 h => (?_ : WD _ _ 103 _ _ _ _ _ _)))
    obtain ⟨a99, e100, h⟩ := h
    rw [e100]
    obtain ⟨k101, h⟩ := h
    refine x_cast k101 rfl (Or.inl rfl) (qm_9 (i := 156) rfl rfl) d_Cl_walk_103 (?_ : WD _ _ 106 _ _ _ _ _ _)
    refine x_callV (ν := M_In_intValue) [] ok_M_In_intValue okv_M_In_intValue k101 rfl rfl (qm_9 (i := 157) rfl rfl) np_M_In_intValue rfl ⟨Nat.le_of_ble_eq_true rfl, Nat.le_of_ble_eq_true rfl⟩ (Nat.le_of_ble_eq_true rfl) rfl d_Cl_walk_106 (Nat.zero_le _) (Nat.zero_le _) (DI.k h (fun v103 w102 gw102 h => (?_ : WD _ _ 109 _ _ _ _ _ _)))
    refine x_istore (ls' := [(9, vI v103), (0, vR 0), (1, vA x1), (2, vA x2), (3, vA x3), (4, vA x4), (5, vI x5), (6, vI x6), (7, vI x7), (8, vA a66)]) d_Cl_walk_109 (by decide) rfl (?_ : WD _ _ 111 _ _ _ _ _ _)
    refine x_iload d_Cl_walk_111 rfl (?_ : WD _ _ 113 _ _ _ _ _ _)
    refine x_iload d_Cl_walk_113 rfl (?_ : WD _ _ 115 _ _ _ _ _ _)
    refine x_iload d_Cl_walk_115 rfl (?_ : WD _ _ 117 _ _ _ _ _ _)
    refine x_icmp_lt 137 d_Cl_walk_117 rfl ⟨fun c104 => (?_ : WD _ _ 137 _ _ _ _ _ _), fun c104 => (?_ : WD _ _ 120 _ _ _ _ _ _)⟩
    · replace h := h.1 c104
      refine x_iconst d_Cl_walk_137 (by decide) (?_ : WD _ _ 138 _ _ _ _ _ _)
      obtain ⟨h105, h⟩ := h
      refine x_iadd d_Cl_walk_138 h105 (?_ : WD _ _ 139 _ _ _ _ _ _)
      refine x_istore (ls' := [(7, vI (x7 + 0)), (9, vI v103), (0, vR 0), (1, vA x1), (2, vA x2), (3, vA x3), (4, vA x4), (5, vI x5), (6, vI x6), (8, vA a66)]) d_Cl_walk_139 (by decide) rfl (?_ : WD _ _ 141 _ _ _ _ _ _)
      refine x_goto 86 d_Cl_walk_141 rfl ?_
      refine x_pick (ls' := [(0, vR 0), (1, vA x1), (2, vA x2), (3, vA x3), (4, vA x4), (5, vI x5), (6, vI x6), (7, vI (x7 + 0)), (8, vP (some a66))]) [2, 3, 4, 5, 6, 7, 8, 0, 9] rfl ?_
      exact h
    · replace h := h.2 c104
      refine x_iload d_Cl_walk_120 rfl (?_ : WD _ _ 122 _ _ _ _ _ _)
      refine x_iload d_Cl_walk_122 rfl (?_ : WD _ _ 124 _ _ _ _ _ _)
      obtain ⟨h106, h⟩ := h
      refine x_isub d_Cl_walk_124 h106 (?_ : WD _ _ 125 _ _ _ _ _ _)
      refine x_aload_nP (some x1) d_Cl_walk_125 rfl (?_ : WD _ _ 126 _ _ _ _ _ _)
      obtain ⟨k107, h⟩ := h
      refine x_getI (ref := "CoinSamplerLaw$Books") (j := 3) 3 k107 clk_11 (by decide) (qm_2 (i := 162) rfl rfl) (Or.inl rfl) rfl rfl d_Cl_walk_126 (y := (wI w102 x1 3)) rfl (?_ : WD _ _ 129 _ _ _ _ _ _)
      obtain ⟨h108, h⟩ := h
      obtain ⟨h109, h⟩ := h
      refine x_iremn d_Cl_walk_129 h108 h109 (?_ : WD _ _ 130 _ _ _ _ _ _)
      refine x_if_ne 137 d_Cl_walk_130 rfl ⟨fun c110 => (?_ : WD _ _ 137 _ _ _ _ _ _), fun c110 => (?_ : WD _ _ 133 _ _ _ _ _ _)⟩
      · replace h := h.1 c110
        refine x_iconst d_Cl_walk_137 (by decide) (?_ : WD _ _ 138 _ _ _ _ _ _)
        obtain ⟨h111, h⟩ := h
        refine x_iadd d_Cl_walk_138 h111 (?_ : WD _ _ 139 _ _ _ _ _ _)
        refine x_istore (ls' := [(7, vI (x7 + 0)), (9, vI v103), (0, vR 0), (1, vA x1), (2, vA x2), (3, vA x3), (4, vA x4), (5, vI x5), (6, vI x6), (8, vA a66)]) d_Cl_walk_139 (by decide) rfl (?_ : WD _ _ 141 _ _ _ _ _ _)
        refine x_goto 86 d_Cl_walk_141 rfl ?_
        refine x_pick (ls' := [(0, vR 0), (1, vA x1), (2, vA x2), (3, vA x3), (4, vA x4), (5, vI x5), (6, vI x6), (7, vI (x7 + 0)), (8, vP (some a66))]) [2, 3, 4, 5, 6, 7, 8, 0, 9] rfl ?_
        exact h
      · replace h := h.2 c110
        refine x_iconst d_Cl_walk_133 (by decide) (?_ : WD _ _ 134 _ _ _ _ _ _)
        refine x_goto 138 d_Cl_walk_134 rfl ?_
        obtain ⟨h112, h⟩ := h
        refine x_iadd d_Cl_walk_138 h112 (?_ : WD _ _ 139 _ _ _ _ _ _)
        refine x_istore (ls' := [(7, vI (x7 + 1)), (9, vI v103), (0, vR 0), (1, vA x1), (2, vA x2), (3, vA x3), (4, vA x4), (5, vI x5), (6, vI x6), (8, vA a66)]) d_Cl_walk_139 (by decide) rfl (?_ : WD _ _ 141 _ _ _ _ _ _)
        refine x_goto 86 d_Cl_walk_141 rfl ?_
        refine x_pick (ls' := [(0, vR 0), (1, vA x1), (2, vA x2), (3, vA x3), (4, vA x4), (5, vI x5), (6, vI x6), (7, vI (x7 + 1)), (8, vP (some a66))]) [2, 3, 4, 5, 6, 7, 8, 0, 9] rfl ?_
        exact h
set_option maxRecDepth 20000 in
theorem l_Cl_walk_3 {G : Gq} {K : Int → Wd → Prop} {w : Wd} {rc rs : Nat} (x1 : Nat) (x2 : Nat) (x5 : Int) (h : (Is G w x2 (kO 14)) ∧ DI G M_Al_size [vA x2] w 0 0 (fun v115 w114 => (v115 ≤ x5 → WD G M_Cl_walk 345 [(0, vR 0), (1, vA x1), (2, vA x2), (5, vI 0)] [] w114 rc rs (yI K)) ∧ (¬ v115 ≤ x5 → DP G M_Al_get [vA x2, vI x5] w114 0 0 (fun v118 w117 => ∃ a119 : Nat, v118 = some a119 ∧ ((Is G w117 a119 (kO 12)) ∧ CI M_Cs_hit [vR 0, vI x5, vI 0] (wS w117) (fun v122 σ123 => (¬ v122 = (wI w117 a119 0) → K 0 (uS w117 σ123)) ∧ (v122 = (wI w117 a119 0) → CI M_Cs_hit [vR 0, vI x5, vI 1] (wS (uS w117 σ123)) (fun v125 σ126 => (¬ v125 = (wI w117 a119 1) → K 0 (uS (uS w117 σ123) σ126)) ∧ (v125 = (wI w117 a119 1) → CI M_Cs_hit [vR 0, vI x5, vI 2] (wS (uS (uS w117 σ123) σ126)) (fun v128 σ129 => (¬ v128 = (wI w117 a119 2) → K 0 (uS (uS (uS w117 σ123) σ126) σ129)) ∧ (v128 = (wI w117 a119 2) → CI M_Cs_hit [vR 0, vI x5, vI 3] (wS (uS (uS (uS w117 σ123) σ126) σ129)) (fun v131 σ132 => (Is G (uS (uS (uS (uS w117 σ123) σ126) σ129) σ132) x1 (kO 11)) ∧ ∃ a134 : Nat, (wR w117 x1 0) = some a134 ∧ ((Is G (uS (uS (uS (uS w117 σ123) σ126) σ129) σ132) a134 (kO 14)) ∧ DP G M_Al_get [vA a134, vI (wI w117 a119 0)] (uS (uS (uS (uS w117 σ123) σ126) σ129) σ132) 0 0 (fun v138 w137 => ∃ a139 : Nat, v138 = some a139 ∧ ((Is G w137 a139 (kO 13)) ∧ DI G M_It_taint [vA a139] w137 0 0 (fun v143 w142 => (inR (v143 + 10000)) ∧ (v131 = (v143 + 10000) → (inR (x5 + 1)) ∧ WD G M_Cl_walk 237 [(0, vR 0), (1, vA x1), (2, vA x2), (5, vI (x5 + 1))] [] w142 rc rs (yI K)) ∧ (¬ v131 = (v143 + 10000) → K 0 w142))))))))))))))))) : WD G M_Cl_walk 237 [(0, vR 0), (1, vA x1), (2, vA x2), (5, vI x5)] [] w rc rs (yI K) := by
  refine x_iload d_Cl_walk_237 rfl (?_ : WD _ _ 239 _ _ _ _ _ _)
  refine x_aload_nP (some x2) d_Cl_walk_239 rfl (?_ : WD _ _ 240 _ _ _ _ _ _)
  obtain ⟨k113, h⟩ := h
  refine x_callV (ν := M_Al_size) [] ok_M_Al_size okv_M_Al_size k113 rfl rfl (qm_3 (i := 178) rfl rfl) np_M_Al_size rfl ⟨Nat.le_of_ble_eq_true rfl, Nat.le_of_ble_eq_true rfl⟩ (Nat.le_of_ble_eq_true rfl) rfl d_Cl_walk_240 (Nat.zero_le _) (Nat.zero_le _) (DI.k h (fun v115 w114 gw114 h => (?_ : WD _ _ 243 _ _ _ _ _ _)))
  refine x_icmp_ge 342 d_Cl_walk_243 rfl ⟨fun c116 => (?_ : WD _ _ 342 _ _ _ _ _ _), fun c116 => (?_ : WD _ _ 246 _ _ _ _ _ _)⟩
  · replace h := h.1 c116
    refine x_iconst d_Cl_walk_342 (by decide) (?_ : WD _ _ 343 _ _ _ _ _ _)
    refine x_istore (ls' := [(5, vI 0), (0, vR 0), (1, vA x1), (2, vA x2)]) d_Cl_walk_343 (by decide) rfl (?_ : WD _ _ 345 _ _ _ _ _ _)
    refine x_pick (ls' := [(0, vR 0), (1, vA x1), (2, vA x2), (5, vI 0)]) [1, 2, 3, 0] rfl ?_
    exact h
  · replace h := h.2 c116
    refine x_aload_nP (some x2) d_Cl_walk_246 rfl (?_ : WD _ _ 247 _ _ _ _ _ _)
    refine x_iload d_Cl_walk_247 rfl (?_ : WD _ _ 249 _ _ _ _ _ _)
    refine x_callV (ν := M_Al_get) [vI x5] ok_M_Al_get okv_M_Al_get (k113.q gw114.k) rfl rfl (qm_3 (i := 183) rfl rfl) np_M_Al_get rfl ⟨Nat.le_of_ble_eq_true rfl, Nat.le_of_ble_eq_true rfl⟩ (Nat.le_of_ble_eq_true rfl) rfl d_Cl_walk_249 (Nat.zero_le _) (Nat.zero_le _) (DP.k h (fun v118 w117 gw117 h => (?_ : WD _ _ 252 _ _ _ _ _ _)))
    obtain ⟨a119, e120, h⟩ := h
    rw [e120]
    obtain ⟨k121, h⟩ := h
    refine x_cast k121 rfl (Or.inl rfl) (qm_6 (i := 203) rfl rfl) d_Cl_walk_252 (?_ : WD _ _ 255 _ _ _ _ _ _)
    refine x_astoreP (some a119) (ls' := [(6, vA a119), (0, vR 0), (1, vA x1), (2, vA x2), (5, vI x5)]) d_Cl_walk_255 (by decide) rfl (?_ : WD _ _ 257 _ _ _ _ _ _)
    refine x_aload_n d_Cl_walk_257 rfl (?_ : WD _ _ 258 _ _ _ _ _ _)
    refine x_iload d_Cl_walk_258 rfl (?_ : WD _ _ 260 _ _ _ _ _ _)
    refine x_iconst d_Cl_walk_260 (by decide) (?_ : WD _ _ 261 _ _ _ _ _ _)
    refine x_callC (ν := M_Cs_hit) (k := 0) [vI x5, vI 0] ok_M_Cs_hit okv_M_Cs_hit (by decide) rfl rfl rfl (qm_9 (i := 179) rfl rfl) np_M_Cs_hit rfl ⟨Nat.le_of_ble_eq_true rfl, Nat.le_of_ble_eq_true rfl⟩ (Nat.le_of_ble_eq_true rfl) rfl d_Cl_walk_261 (CI.kd h (fun v122 σ123 h => (?_ : WD _ _ 264 _ _ _ _ _ _)))
    refine x_aloadP (some a119) d_Cl_walk_264 rfl (?_ : WD _ _ 266 _ _ _ _ _ _)
    refine x_getI (ref := "CoinSamplerLaw$Hit") (j := 0) 0 k121 clk_12 (by decide) (qm_3 (i := 85) rfl rfl) (Or.inl rfl) rfl rfl d_Cl_walk_266 (y := (wI w117 a119 0)) rfl (?_ : WD _ _ 269 _ _ _ _ _ _)
    refine x_icmp_ne 334 d_Cl_walk_269 rfl ⟨fun c124 => (?_ : WD _ _ 334 _ _ _ _ _ _), fun c124 => (?_ : WD _ _ 272 _ _ _ _ _ _)⟩
    · replace h := h.1 c124
      refine x_iconst d_Cl_walk_334 (by decide) (?_ : WD _ _ 335 _ _ _ _ _ _)
      exact x_zreturn rfl d_Cl_walk_335 (by decide) h
    · replace h := h.2 c124
      refine x_aload_n d_Cl_walk_272 rfl (?_ : WD _ _ 273 _ _ _ _ _ _)
      refine x_iload d_Cl_walk_273 rfl (?_ : WD _ _ 275 _ _ _ _ _ _)
      refine x_iconst d_Cl_walk_275 (by decide) (?_ : WD _ _ 276 _ _ _ _ _ _)
      refine x_callC (ν := M_Cs_hit) (k := 0) [vI x5, vI 1] ok_M_Cs_hit okv_M_Cs_hit (by decide) rfl rfl rfl (qm_9 (i := 179) rfl rfl) np_M_Cs_hit rfl ⟨Nat.le_of_ble_eq_true rfl, Nat.le_of_ble_eq_true rfl⟩ (Nat.le_of_ble_eq_true rfl) rfl d_Cl_walk_276 (CI.kd h (fun v125 σ126 h => (?_ : WD _ _ 279 _ _ _ _ _ _)))
      refine x_aloadP (some a119) d_Cl_walk_279 rfl (?_ : WD _ _ 281 _ _ _ _ _ _)
      refine x_getI (ref := "CoinSamplerLaw$Hit") (j := 1) 1 k121 clk_12 (by decide) (qm_3 (i := 87) rfl rfl) (Or.inl rfl) rfl rfl d_Cl_walk_281 (y := (wI w117 a119 1)) rfl (?_ : WD _ _ 284 _ _ _ _ _ _)
      refine x_icmp_ne 334 d_Cl_walk_284 rfl ⟨fun c127 => (?_ : WD _ _ 334 _ _ _ _ _ _), fun c127 => (?_ : WD _ _ 287 _ _ _ _ _ _)⟩
      · replace h := h.1 c127
        refine x_iconst d_Cl_walk_334 (by decide) (?_ : WD _ _ 335 _ _ _ _ _ _)
        exact x_zreturn rfl d_Cl_walk_335 (by decide) h
      · replace h := h.2 c127
        refine x_aload_n d_Cl_walk_287 rfl (?_ : WD _ _ 288 _ _ _ _ _ _)
        refine x_iload d_Cl_walk_288 rfl (?_ : WD _ _ 290 _ _ _ _ _ _)
        refine x_iconst d_Cl_walk_290 (by decide) (?_ : WD _ _ 291 _ _ _ _ _ _)
        refine x_callC (ν := M_Cs_hit) (k := 0) [vI x5, vI 2] ok_M_Cs_hit okv_M_Cs_hit (by decide) rfl rfl rfl (qm_9 (i := 179) rfl rfl) np_M_Cs_hit rfl ⟨Nat.le_of_ble_eq_true rfl, Nat.le_of_ble_eq_true rfl⟩ (Nat.le_of_ble_eq_true rfl) rfl d_Cl_walk_291 (CI.kd h (fun v128 σ129 h => (?_ : WD _ _ 294 _ _ _ _ _ _)))
        refine x_aloadP (some a119) d_Cl_walk_294 rfl (?_ : WD _ _ 296 _ _ _ _ _ _)
        refine x_getI (ref := "CoinSamplerLaw$Hit") (j := 2) 2 k121 clk_12 (by decide) (qm_3 (i := 89) rfl rfl) (Or.inl rfl) rfl rfl d_Cl_walk_296 (y := (wI w117 a119 2)) rfl (?_ : WD _ _ 299 _ _ _ _ _ _)
        refine x_icmp_ne 334 d_Cl_walk_299 rfl ⟨fun c130 => (?_ : WD _ _ 334 _ _ _ _ _ _), fun c130 => (?_ : WD _ _ 302 _ _ _ _ _ _)⟩
        · replace h := h.1 c130
          refine x_iconst d_Cl_walk_334 (by decide) (?_ : WD _ _ 335 _ _ _ _ _ _)
          exact x_zreturn rfl d_Cl_walk_335 (by decide) h
        · replace h := h.2 c130
          refine x_aload_n d_Cl_walk_302 rfl (?_ : WD _ _ 303 _ _ _ _ _ _)
          refine x_iload d_Cl_walk_303 rfl (?_ : WD _ _ 305 _ _ _ _ _ _)
          refine x_iconst d_Cl_walk_305 (by decide) (?_ : WD _ _ 306 _ _ _ _ _ _)
          refine x_callC (ν := M_Cs_hit) (k := 0) [vI x5, vI 3] ok_M_Cs_hit okv_M_Cs_hit (by decide) rfl rfl rfl (qm_9 (i := 179) rfl rfl) np_M_Cs_hit rfl ⟨Nat.le_of_ble_eq_true rfl, Nat.le_of_ble_eq_true rfl⟩ (Nat.le_of_ble_eq_true rfl) rfl d_Cl_walk_306 (CI.kd h (fun v131 σ132 h => (?_ : WD _ _ 309 _ _ _ _ _ _)))
          refine x_aload_nP (some x1) d_Cl_walk_309 rfl (?_ : WD _ _ 310 _ _ _ _ _ _)
          obtain ⟨k133, h⟩ := h
          refine x_getP (ref := "CoinSamplerLaw$Books") (j := 0) 0 k133 clk_11 (by decide) (qm_2 (i := 156) rfl rfl) (Or.inl rfl) rfl rfl d_Cl_walk_310 (y := (wR w117 x1 0)) rfl (?_ : WD _ _ 313 _ _ _ _ _ _)
          refine x_aloadP (some a119) d_Cl_walk_313 rfl (?_ : WD _ _ 315 _ _ _ _ _ _)
          refine x_getI (ref := "CoinSamplerLaw$Hit") (j := 0) 0 k121 clk_12 (by decide) (qm_3 (i := 85) rfl rfl) (Or.inl rfl) rfl rfl d_Cl_walk_315 (y := (wI w117 a119 0)) rfl (?_ : WD _ _ 318 _ _ _ _ _ _)
          obtain ⟨a134, e135, h⟩ := h
          rw [e135]
          obtain ⟨k136, h⟩ := h
          refine x_callV (ν := M_Al_get) [vI (wI w117 a119 0)] ok_M_Al_get okv_M_Al_get k136 rfl rfl (qm_3 (i := 183) rfl rfl) np_M_Al_get rfl ⟨Nat.le_of_ble_eq_true rfl, Nat.le_of_ble_eq_true rfl⟩ (Nat.le_of_ble_eq_true rfl) rfl d_Cl_walk_318 (Nat.zero_le _) (Nat.zero_le _) (DP.k h (fun v138 w137 gw137 h => (?_ : WD _ _ 321 _ _ _ _ _ _)))
          obtain ⟨a139, e140, h⟩ := h
          rw [e140]
          obtain ⟨k141, h⟩ := h
          refine x_cast k141 rfl (Or.inl rfl) (qm_3 (i := 184) rfl rfl) d_Cl_walk_321 (?_ : WD _ _ 324 _ _ _ _ _ _)
          refine x_callV (ν := M_It_taint) [] ok_M_It_taint okv_M_It_taint k141 rfl rfl (qm_6 (i := 208) rfl rfl) np_M_It_taint rfl ⟨Nat.le_of_ble_eq_true rfl, Nat.le_of_ble_eq_true rfl⟩ (Nat.le_of_ble_eq_true rfl) rfl d_Cl_walk_324 (Nat.zero_le _) (Nat.zero_le _) (DI.k h (fun v143 w142 gw142 h => (?_ : WD _ _ 327 _ _ _ _ _ _)))
          refine x_sipush d_Cl_walk_327 (by decide) (by decide) (?_ : WD _ _ 330 _ _ _ _ _ _)
          obtain ⟨h144, h⟩ := h
          refine x_iadd d_Cl_walk_330 h144 (?_ : WD _ _ 331 _ _ _ _ _ _)
          refine x_icmp_eq 336 d_Cl_walk_331 rfl ⟨fun c145 => (?_ : WD _ _ 336 _ _ _ _ _ _), fun c145 => (?_ : WD _ _ 334 _ _ _ _ _ _)⟩
          · replace h := h.1 c145
            obtain ⟨h146, h⟩ := h
            refine x_iinc (ls' := [(5, vI (x5 + 1)), (6, vA a119), (0, vR 0), (1, vA x1), (2, vA x2)]) d_Cl_walk_336 rfl h146 (by decide) rfl (?_ : WD _ _ 339 _ _ _ _ _ _)
            refine x_goto 237 d_Cl_walk_339 rfl ?_
            refine x_pick (ls' := [(0, vR 0), (1, vA x1), (2, vA x2), (5, vI (x5 + 1))]) [2, 3, 4, 0] rfl ?_
            exact h
          · replace h := h.2 c145
            refine x_iconst d_Cl_walk_334 (by decide) (?_ : WD _ _ 335 _ _ _ _ _ _)
            exact x_zreturn rfl d_Cl_walk_335 (by decide) h
set_option maxRecDepth 20000 in
theorem l_Cl_walk_4 {G : Gq} {K : Int → Wd → Prop} {w : Wd} {rc rs : Nat} (x1 : Nat) (x2 : Nat) (x5 : Int) (h : (6 ≤ x5 → (Is G w x2 (kO 14)) ∧ DI G M_Al_size [vA x2] w 0 0 (fun v150 w149 => CI M_Cs_hit [vR 0, vI v150, vI 0] (wS w149) (fun v151 σ152 => (¬ v151 = (-2) → K 0 (uS w149 σ152)) ∧ (v151 = (-2) → CI M_Cs_hit [vR 0, vI (-1), vI 0] (wS (uS w149 σ152)) (fun v154 σ155 => (¬ v154 = (-2) → K 0 (uS (uS w149 σ152) σ155)) ∧ (v154 = (-2) → DI G M_Al_isEmpty [vA x2] (uS (uS w149 σ152) σ155) 0 0 (fun v158 w157 => (¬ v158 = 0 → CI M_Cs_start [vR 0, vI (-1)] (wS w157) (fun v160 σ161 => (¬ v160 = (-2) → K 0 (uS w157 σ161)) ∧ (v160 = (-2) → K 1 (uS w157 σ161)))) ∧ (v158 = 0 → CI M_Cs_hit [vR 0, vI 0, vI 4] (wS w157) (fun v163 σ164 => (¬ v163 = (-2) → K 0 (uS w157 σ164)) ∧ (v163 = (-2) → CI M_Cs_start [vR 0, vI (-1)] (wS (uS w157 σ164)) (fun v166 σ167 => (¬ v166 = (-2) → K 0 (uS (uS w157 σ164) σ167)) ∧ (v166 = (-2) → K 1 (uS (uS w157 σ164) σ167))))))))))))) ∧ (¬ 6 ≤ x5 → CI M_Cs_start [vR 0, vI x5] (wS w) (fun v169 σ170 => (Is G (uS w σ170) x1 (kO 11)) ∧ ∃ a172 : Nat, (wR w x1 1) = some a172 ∧ ((Is G (uS w σ170) a172 (kO 14)) ∧ DI G M_Al_size [vA a172] (uS w σ170) 0 0 (fun v176 w175 => (v176 ≤ x5 → (v169 = (-2) → (inR (x5 + 1)) ∧ WD G M_Cl_walk 345 [(0, vR 0), (1, vA x1), (2, vA x2), (5, vI (x5 + 1))] [] w175 rc rs (yI K)) ∧ (¬ v169 = (-2) → K 0 w175)) ∧ (¬ v176 ≤ x5 → ∃ a180 : Nat, (wR w175 x1 1) = some a180 ∧ ((Is G w175 a180 (kO 14)) ∧ DP G M_Al_get [vA a180, vI x5] w175 0 0 (fun v184 w183 => ∃ a185 : Nat, v184 = some a185 ∧ ((Is G w183 a185 (kO 16)) ∧ DI G M_In_intValue [vA a185] w183 0 0 (fun v189 w188 => (v169 = v189 → (inR (x5 + 1)) ∧ WD G M_Cl_walk 345 [(0, vR 0), (1, vA x1), (2, vA x2), (5, vI (x5 + 1))] [] w188 rc rs (yI K)) ∧ (¬ v169 = v189 → K 0 w188))))))))))) : WD G M_Cl_walk 345 [(0, vR 0), (1, vA x1), (2, vA x2), (5, vI x5)] [] w rc rs (yI K) := by
  refine x_iload d_Cl_walk_345 rfl (?_ : WD _ _ 347 _ _ _ _ _ _)
  refine x_bipush d_Cl_walk_347 (by decide) (by decide) (?_ : WD _ _ 349 _ _ _ _ _ _)
  refine x_icmp_ge 401 d_Cl_walk_349 rfl ⟨fun c147 => (?_ : WD _ _ 401 _ _ _ _ _ _), fun c147 => (?_ : WD _ _ 352 _ _ _ _ _ _)⟩
  · replace h := h.1 c147
    refine x_aload_n d_Cl_walk_401 rfl (?_ : WD _ _ 402 _ _ _ _ _ _)
    refine x_aload_nP (some x2) d_Cl_walk_402 rfl (?_ : WD _ _ 403 _ _ _ _ _ _)
    obtain ⟨k148, h⟩ := h
    refine x_callV (ν := M_Al_size) [] ok_M_Al_size okv_M_Al_size k148 rfl rfl (qm_3 (i := 178) rfl rfl) np_M_Al_size rfl ⟨Nat.le_of_ble_eq_true rfl, Nat.le_of_ble_eq_true rfl⟩ (Nat.le_of_ble_eq_true rfl) rfl d_Cl_walk_403 (Nat.zero_le _) (Nat.zero_le _) (DI.k h (fun v150 w149 gw149 h => (?_ : WD _ _ 406 _ _ _ _ _ _)))
    refine x_iconst d_Cl_walk_406 (by decide) (?_ : WD _ _ 407 _ _ _ _ _ _)
    refine x_callC (ν := M_Cs_hit) (k := 0) [vI v150, vI 0] ok_M_Cs_hit okv_M_Cs_hit (by decide) rfl rfl rfl (qm_9 (i := 179) rfl rfl) np_M_Cs_hit rfl ⟨Nat.le_of_ble_eq_true rfl, Nat.le_of_ble_eq_true rfl⟩ (Nat.le_of_ble_eq_true rfl) rfl d_Cl_walk_407 (CI.kd h (fun v151 σ152 h => (?_ : WD _ _ 410 _ _ _ _ _ _)))
    refine x_bipush d_Cl_walk_410 (by decide) (by decide) (?_ : WD _ _ 412 _ _ _ _ _ _)
    refine x_icmp_ne 458 d_Cl_walk_412 rfl ⟨fun c153 => (?_ : WD _ _ 458 _ _ _ _ _ _), fun c153 => (?_ : WD _ _ 415 _ _ _ _ _ _)⟩
    · replace h := h.1 c153
      refine x_iconst d_Cl_walk_458 (by decide) (?_ : WD _ _ 459 _ _ _ _ _ _)
      exact x_zreturn rfl d_Cl_walk_459 (by decide) h
    · replace h := h.2 c153
      refine x_aload_n d_Cl_walk_415 rfl (?_ : WD _ _ 416 _ _ _ _ _ _)
      refine x_iconst d_Cl_walk_416 (by decide) (?_ : WD _ _ 417 _ _ _ _ _ _)
      refine x_iconst d_Cl_walk_417 (by decide) (?_ : WD _ _ 418 _ _ _ _ _ _)
      refine x_callC (ν := M_Cs_hit) (k := 0) [vI (-1), vI 0] ok_M_Cs_hit okv_M_Cs_hit (by decide) rfl rfl rfl (qm_9 (i := 179) rfl rfl) np_M_Cs_hit rfl ⟨Nat.le_of_ble_eq_true rfl, Nat.le_of_ble_eq_true rfl⟩ (Nat.le_of_ble_eq_true rfl) rfl d_Cl_walk_418 (CI.kd h (fun v154 σ155 h => (?_ : WD _ _ 421 _ _ _ _ _ _)))
      refine x_bipush d_Cl_walk_421 (by decide) (by decide) (?_ : WD _ _ 423 _ _ _ _ _ _)
      refine x_icmp_ne 458 d_Cl_walk_423 rfl ⟨fun c156 => (?_ : WD _ _ 458 _ _ _ _ _ _), fun c156 => (?_ : WD _ _ 426 _ _ _ _ _ _)⟩
      · replace h := h.1 c156
        refine x_iconst d_Cl_walk_458 (by decide) (?_ : WD _ _ 459 _ _ _ _ _ _)
        exact x_zreturn rfl d_Cl_walk_459 (by decide) h
      · replace h := h.2 c156
        refine x_aload_nP (some x2) d_Cl_walk_426 rfl (?_ : WD _ _ 427 _ _ _ _ _ _)
        refine x_callV (ν := M_Al_isEmpty) [] ok_M_Al_isEmpty okv_M_Al_isEmpty (k148.q gw149.k) rfl rfl (qm_3 (i := 230) rfl rfl) np_M_Al_isEmpty rfl ⟨Nat.le_of_ble_eq_true rfl, Nat.le_of_ble_eq_true rfl⟩ (Nat.le_of_ble_eq_true rfl) rfl d_Cl_walk_427 (Nat.zero_le _) (Nat.zero_le _) (DI.k h (fun v158 w157 gw157 h => (?_ : WD _ _ 430 _ _ _ _ _ _)))
        refine x_if_ne 444 d_Cl_walk_430 rfl ⟨fun c159 => (?_ : WD _ _ 444 _ _ _ _ _ _), fun c159 => (?_ : WD _ _ 433 _ _ _ _ _ _)⟩
        · replace h := h.1 c159
          refine x_aload_n d_Cl_walk_444 rfl (?_ : WD _ _ 445 _ _ _ _ _ _)
          refine x_iconst d_Cl_walk_445 (by decide) (?_ : WD _ _ 446 _ _ _ _ _ _)
          refine x_callC (ν := M_Cs_start) (k := 0) [vI (-1)] ok_M_Cs_start okv_M_Cs_start (by decide) rfl rfl rfl (qm_9 (i := 187) rfl rfl) np_M_Cs_start rfl ⟨Nat.le_of_ble_eq_true rfl, Nat.le_of_ble_eq_true rfl⟩ (Nat.le_of_ble_eq_true rfl) rfl d_Cl_walk_446 (CI.kd h (fun v160 σ161 h => (?_ : WD _ _ 449 _ _ _ _ _ _)))
          refine x_bipush d_Cl_walk_449 (by decide) (by decide) (?_ : WD _ _ 451 _ _ _ _ _ _)
          refine x_icmp_ne 458 d_Cl_walk_451 rfl ⟨fun c162 => (?_ : WD _ _ 458 _ _ _ _ _ _), fun c162 => (?_ : WD _ _ 454 _ _ _ _ _ _)⟩
          · replace h := h.1 c162
            refine x_iconst d_Cl_walk_458 (by decide) (?_ : WD _ _ 459 _ _ _ _ _ _)
            exact x_zreturn rfl d_Cl_walk_459 (by decide) h
          · replace h := h.2 c162
            refine x_iconst d_Cl_walk_454 (by decide) (?_ : WD _ _ 455 _ _ _ _ _ _)
            refine x_goto 459 d_Cl_walk_455 rfl ?_
            exact x_zreturn rfl d_Cl_walk_459 (by decide) h
        · replace h := h.2 c159
          refine x_aload_n d_Cl_walk_433 rfl (?_ : WD _ _ 434 _ _ _ _ _ _)
          refine x_iconst d_Cl_walk_434 (by decide) (?_ : WD _ _ 435 _ _ _ _ _ _)
          refine x_iconst d_Cl_walk_435 (by decide) (?_ : WD _ _ 436 _ _ _ _ _ _)
          refine x_callC (ν := M_Cs_hit) (k := 0) [vI 0, vI 4] ok_M_Cs_hit okv_M_Cs_hit (by decide) rfl rfl rfl (qm_9 (i := 179) rfl rfl) np_M_Cs_hit rfl ⟨Nat.le_of_ble_eq_true rfl, Nat.le_of_ble_eq_true rfl⟩ (Nat.le_of_ble_eq_true rfl) rfl d_Cl_walk_436 (CI.kd h (fun v163 σ164 h => (?_ : WD _ _ 439 _ _ _ _ _ _)))
          refine x_bipush d_Cl_walk_439 (by decide) (by decide) (?_ : WD _ _ 441 _ _ _ _ _ _)
          refine x_icmp_ne 458 d_Cl_walk_441 rfl ⟨fun c165 => (?_ : WD _ _ 458 _ _ _ _ _ _), fun c165 => (?_ : WD _ _ 444 _ _ _ _ _ _)⟩
          · replace h := h.1 c165
            refine x_iconst d_Cl_walk_458 (by decide) (?_ : WD _ _ 459 _ _ _ _ _ _)
            exact x_zreturn rfl d_Cl_walk_459 (by decide) h
          · replace h := h.2 c165
            refine x_aload_n d_Cl_walk_444 rfl (?_ : WD _ _ 445 _ _ _ _ _ _)
            refine x_iconst d_Cl_walk_445 (by decide) (?_ : WD _ _ 446 _ _ _ _ _ _)
            refine x_callC (ν := M_Cs_start) (k := 0) [vI (-1)] ok_M_Cs_start okv_M_Cs_start (by decide) rfl rfl rfl (qm_9 (i := 187) rfl rfl) np_M_Cs_start rfl ⟨Nat.le_of_ble_eq_true rfl, Nat.le_of_ble_eq_true rfl⟩ (Nat.le_of_ble_eq_true rfl) rfl d_Cl_walk_446 (CI.kd h (fun v166 σ167 h => (?_ : WD _ _ 449 _ _ _ _ _ _)))
            refine x_bipush d_Cl_walk_449 (by decide) (by decide) (?_ : WD _ _ 451 _ _ _ _ _ _)
            refine x_icmp_ne 458 d_Cl_walk_451 rfl ⟨fun c168 => (?_ : WD _ _ 458 _ _ _ _ _ _), fun c168 => (?_ : WD _ _ 454 _ _ _ _ _ _)⟩
            · replace h := h.1 c168
              refine x_iconst d_Cl_walk_458 (by decide) (?_ : WD _ _ 459 _ _ _ _ _ _)
              exact x_zreturn rfl d_Cl_walk_459 (by decide) h
            · replace h := h.2 c168
              refine x_iconst d_Cl_walk_454 (by decide) (?_ : WD _ _ 455 _ _ _ _ _ _)
              refine x_goto 459 d_Cl_walk_455 rfl ?_
              exact x_zreturn rfl d_Cl_walk_459 (by decide) h
  · replace h := h.2 c147
    refine x_aload_n d_Cl_walk_352 rfl (?_ : WD _ _ 353 _ _ _ _ _ _)
    refine x_iload d_Cl_walk_353 rfl (?_ : WD _ _ 355 _ _ _ _ _ _)
    refine x_callC (ν := M_Cs_start) (k := 0) [vI x5] ok_M_Cs_start okv_M_Cs_start (by decide) rfl rfl rfl (qm_9 (i := 187) rfl rfl) np_M_Cs_start rfl ⟨Nat.le_of_ble_eq_true rfl, Nat.le_of_ble_eq_true rfl⟩ (Nat.le_of_ble_eq_true rfl) rfl d_Cl_walk_355 (CI.kd h (fun v169 σ170 h => (?_ : WD _ _ 358 _ _ _ _ _ _)))
    refine x_iload d_Cl_walk_358 rfl (?_ : WD _ _ 360 _ _ _ _ _ _)
    refine x_aload_nP (some x1) d_Cl_walk_360 rfl (?_ : WD _ _ 361 _ _ _ _ _ _)
    obtain ⟨k171, h⟩ := h
    refine x_getP (ref := "CoinSamplerLaw$Books") (j := 1) 1 k171 clk_11 (by decide) (qm_2 (i := 158) rfl rfl) (Or.inl rfl) rfl rfl d_Cl_walk_361 (y := (wR w x1 1)) rfl (?_ : WD _ _ 364 _ _ _ _ _ _)
    obtain ⟨a172, e173, h⟩ := h
    rw [e173]
    obtain ⟨k174, h⟩ := h
    refine x_callV (ν := M_Al_size) [] ok_M_Al_size okv_M_Al_size k174 rfl rfl (qm_3 (i := 178) rfl rfl) np_M_Al_size rfl ⟨Nat.le_of_ble_eq_true rfl, Nat.le_of_ble_eq_true rfl⟩ (Nat.le_of_ble_eq_true rfl) rfl d_Cl_walk_364 (Nat.zero_le _) (Nat.zero_le _) (DI.k h (fun v176 w175 gw175 h => (?_ : WD _ _ 367 _ _ _ _ _ _)))
    refine x_icmp_ge 388 d_Cl_walk_367 rfl ⟨fun c177 => (?_ : WD _ _ 388 _ _ _ _ _ _), fun c177 => (?_ : WD _ _ 370 _ _ _ _ _ _)⟩
    · replace h := h.1 c177
      refine x_bipush d_Cl_walk_388 (by decide) (by decide) (?_ : WD _ _ 390 _ _ _ _ _ _)
      refine x_icmp_eq 395 d_Cl_walk_390 rfl ⟨fun c178 => (?_ : WD _ _ 395 _ _ _ _ _ _), fun c178 => (?_ : WD _ _ 393 _ _ _ _ _ _)⟩
      · replace h := h.1 c178
        obtain ⟨h179, h⟩ := h
        refine x_iinc (ls' := [(5, vI (x5 + 1)), (0, vR 0), (1, vA x1), (2, vA x2)]) d_Cl_walk_395 rfl h179 (by decide) rfl (?_ : WD _ _ 398 _ _ _ _ _ _)
        refine x_goto 345 d_Cl_walk_398 rfl ?_
        refine x_pick (ls' := [(0, vR 0), (1, vA x1), (2, vA x2), (5, vI (x5 + 1))]) [1, 2, 3, 0] rfl ?_
        exact h
      · replace h := h.2 c178
        refine x_iconst d_Cl_walk_393 (by decide) (?_ : WD _ _ 394 _ _ _ _ _ _)
        exact x_zreturn rfl d_Cl_walk_394 (by decide) h
    · replace h := h.2 c177
      refine x_aload_nP (some x1) d_Cl_walk_370 rfl (?_ : WD _ _ 371 _ _ _ _ _ _)
      refine x_getP (ref := "CoinSamplerLaw$Books") (j := 1) 1 (k171.q gw175.k) clk_11 (by decide) (qm_2 (i := 158) rfl rfl) (Or.inl rfl) rfl rfl d_Cl_walk_371 (y := (wR w175 x1 1)) rfl (?_ : WD _ _ 374 _ _ _ _ _ _)
      refine x_iload d_Cl_walk_374 rfl (?_ : WD _ _ 376 _ _ _ _ _ _)
      obtain ⟨a180, e181, h⟩ := h
      rw [e181]
      obtain ⟨k182, h⟩ := h
      refine x_callV (ν := M_Al_get) [vI x5] ok_M_Al_get okv_M_Al_get k182 rfl rfl (qm_3 (i := 183) rfl rfl) np_M_Al_get rfl ⟨Nat.le_of_ble_eq_true rfl, Nat.le_of_ble_eq_true rfl⟩ (Nat.le_of_ble_eq_true rfl) rfl d_Cl_walk_376 (Nat.zero_le _) (Nat.zero_le _) (DP.k h (fun v184 w183 gw183 h => (?_ : WD _ _ 379 _ _ _ _ _ _)))
      obtain ⟨a185, e186, h⟩ := h
      rw [e186]
      obtain ⟨k187, h⟩ := h
      refine x_cast k187 rfl (Or.inl rfl) (qm_9 (i := 156) rfl rfl) d_Cl_walk_379 (?_ : WD _ _ 382 _ _ _ _ _ _)
      refine x_callV (ν := M_In_intValue) [] ok_M_In_intValue okv_M_In_intValue k187 rfl rfl (qm_9 (i := 157) rfl rfl) np_M_In_intValue rfl ⟨Nat.le_of_ble_eq_true rfl, Nat.le_of_ble_eq_true rfl⟩ (Nat.le_of_ble_eq_true rfl) rfl d_Cl_walk_382 (Nat.zero_le _) (Nat.zero_le _) (DI.k h (fun v189 w188 gw188 h => (?_ : WD _ _ 385 _ _ _ _ _ _)))
      refine x_goto 390 d_Cl_walk_385 rfl ?_
      refine x_icmp_eq 395 d_Cl_walk_390 rfl ⟨fun c190 => (?_ : WD _ _ 395 _ _ _ _ _ _), fun c190 => (?_ : WD _ _ 393 _ _ _ _ _ _)⟩
      · replace h := h.1 c190
        obtain ⟨h191, h⟩ := h
        refine x_iinc (ls' := [(5, vI (x5 + 1)), (0, vR 0), (1, vA x1), (2, vA x2)]) d_Cl_walk_395 rfl h191 (by decide) rfl (?_ : WD _ _ 398 _ _ _ _ _ _)
        refine x_goto 345 d_Cl_walk_398 rfl ?_
        refine x_pick (ls' := [(0, vR 0), (1, vA x1), (2, vA x2), (5, vI (x5 + 1))]) [1, 2, 3, 0] rfl ?_
        exact h
      · replace h := h.2 c190
        refine x_iconst d_Cl_walk_393 (by decide) (?_ : WD _ _ 394 _ _ _ _ _ _)
        exact x_zreturn rfl d_Cl_walk_394 (by decide) h
set_option maxRecDepth 20000 in
theorem e_Cl_lists {G : Gq} {K : Int → Wd → Prop} {w : Wd} {mc ms : Nat} (x1 : Nat) (x2 : Nat) (h : ∃ c1 s2 : Nat, c1 ≤ mc ∧ s2 ≤ ms ∧ ((Is G w x1 (kO 11)) ∧ DP G M_Bo_drawn [vA x1, vA x2] w c1 s2 (fun v7 w6 => WD G M_Cl_lists 21 [(0, vR 0), (1, vA x1), (2, vA x2), (3, vP v7), (4, vI 0), (5, vI 0), (6, vI 0), (7, vL 0), (9, vI 0)] [] w6 (mc - c1) (ms - s2) (yI K)))) : DI G M_Cl_lists [vR 0, vA x1, vA x2] w mc ms K := by
  refine DC.of ok_M_Cl_lists (ls := [(0, vR 0), (1, vA x1), (2, vA x2)]) rfl (Nat.le_of_ble_eq_true rfl) ?_
  refine x_aload_nP (some x1) d_Cl_lists_0 rfl (?_ : WD _ _ 1 _ _ _ _ _ _)
  refine x_aload_nP (some x2) d_Cl_lists_1 rfl (?_ : WD _ _ 2 _ _ _ _ _ _)
  obtain ⟨c1, s2, h3, h4, h⟩ := h
  obtain ⟨k5, h⟩ := h
  refine x_callV (ν := M_Bo_drawn) [vA x2] ok_M_Bo_drawn okv_M_Bo_drawn k5 rfl rfl (qm_9 (i := 195) rfl rfl) np_M_Bo_drawn rfl ⟨Nat.le_of_ble_eq_true rfl, Nat.le_of_ble_eq_true rfl⟩ (Nat.le_of_ble_eq_true rfl) rfl d_Cl_lists_2 h3 h4 (DP.k h (fun v7 w6 gw6 h => (?_ : WD _ _ 5 _ _ _ _ _ _)))
  refine x_astore_nP v7 (ls' := [(3, vP v7), (0, vR 0), (1, vA x1), (2, vA x2)]) d_Cl_lists_5 rfl (by decide) rfl (?_ : WD _ _ 6 _ _ _ _ _ _)
  refine x_iconst d_Cl_lists_6 (by decide) (?_ : WD _ _ 7 _ _ _ _ _ _)
  refine x_istore (ls' := [(4, vI 0), (3, vP v7), (0, vR 0), (1, vA x1), (2, vA x2)]) d_Cl_lists_7 (by decide) rfl (?_ : WD _ _ 9 _ _ _ _ _ _)
  refine x_iconst d_Cl_lists_9 (by decide) (?_ : WD _ _ 10 _ _ _ _ _ _)
  refine x_istore (ls' := [(5, vI 0), (4, vI 0), (3, vP v7), (0, vR 0), (1, vA x1), (2, vA x2)]) d_Cl_lists_10 (by decide) rfl (?_ : WD _ _ 12 _ _ _ _ _ _)
  refine x_iconst d_Cl_lists_12 (by decide) (?_ : WD _ _ 13 _ _ _ _ _ _)
  refine x_istore (ls' := [(6, vI 0), (5, vI 0), (4, vI 0), (3, vP v7), (0, vR 0), (1, vA x1), (2, vA x2)]) d_Cl_lists_13 (by decide) rfl (?_ : WD _ _ 15 _ _ _ _ _ _)
  refine x_lconst 0 d_Cl_lists_15 rfl (by decide) (?_ : WD _ _ 16 _ _ _ _ _ _)
  refine x_lstore (ls' := [(7, vL 0), (6, vI 0), (5, vI 0), (4, vI 0), (3, vP v7), (0, vR 0), (1, vA x1), (2, vA x2)]) d_Cl_lists_16 (by decide) rfl (?_ : WD _ _ 18 _ _ _ _ _ _)
  refine x_iconst d_Cl_lists_18 (by decide) (?_ : WD _ _ 19 _ _ _ _ _ _)
  refine x_istore (ls' := [(9, vI 0), (7, vL 0), (6, vI 0), (5, vI 0), (4, vI 0), (3, vP v7), (0, vR 0), (1, vA x1), (2, vA x2)]) d_Cl_lists_19 (by decide) rfl (?_ : WD _ _ 21 _ _ _ _ _ _)
  refine x_pick (ls' := [(0, vR 0), (1, vA x1), (2, vA x2), (3, vP v7), (4, vI 0), (5, vI 0), (6, vI 0), (7, vL 0), (9, vI 0)]) [6, 7, 8, 5, 4, 3, 2, 1, 0] rfl ?_
  exact h
set_option maxRecDepth 20000 in
theorem l_Cl_lists_1 {G : Gq} {K : Int → Wd → Prop} {w : Wd} {rc rs : Nat} (x1 : Nat) (x2 : Nat) (x3 : Option Nat) (x4 : Int) (x5 : Int) (x6 : Int) (x7 : Int) (x9 : Int) (h : ∃ a8 : Nat, x3 = some a8 ∧ (∃ n10 : Nat, ((Is G w a8 (kA 2 n10)) ∧ (inR (n10 : Int)) ∧ ((n10 : Int) ≤ x9 → ∃ c14 s15 : Nat, c14 ≤ rc ∧ s15 ≤ rs ∧ ((Is G w x1 (kO 11)) ∧ DI G M_Bo_allCoins [vA x1] w c14 s15 (fun v20 w19 => (¬ v20 = 0 → (inL (1000 * x7)) ∧ ∃ c23 s24 : Nat, c23 ≤ (rc - c14) ∧ s24 ≤ (rs - s15) ∧ (DI G M_Bo_allCoins [vA x1] w19 c23 s24 (fun v28 w27 => (0 ≤ (1000 * x7)) ∧ (0 < v28) ∧ (inR ((1000 * x7) / v28)) ∧ WD G M_Cl_lists 347 [(0, vR 0), (4, vI x4), (5, vI x5), (6, vI x6)] [vI ((1000 * x7) / v28)] w27 ((rc - c14) - c23) ((rs - s15) - s24) (yI K)))) ∧ (v20 = 0 → WD G M_Cl_lists 347 [(0, vR 0), (4, vI x4), (5, vI x5), (6, vI x6)] [vI 0] w19 (rc - c14) (rs - s15) (yI K))))) ∧ (¬ (n10 : Int) ≤ x9 → (Is G w x1 (kO 11)) ∧ ∃ a33 : Nat, (wR w x1 0) = some a33 ∧ ((Is G w a33 (kO 14)) ∧ DP G M_Al_get [vA a33, vI x9] w 0 0 (fun v37 w36 => ∃ a38 : Nat, v37 = some a38 ∧ ((Is G w36 a38 (kO 13)) ∧ DI G M_Bo_certain [vA x1, vA a38] w36 0 0 (fun v42 w41 => (v42 = 0 → WD G M_Cl_lists 65 [(0, vR 0), (1, vA x1), (2, vA x2), (3, vA a8), (4, vI x4), (5, vI x5), (6, vI x6), (7, vL x7), (9, vI x9), (10, vA a38)] [] w41 rc rs (yI K)) ∧ (¬ v42 = 0 → (inR (x4 + 1)) ∧ CI M_Cs_certain [vR 0, vI x4] (wS w41) (fun v45 σ46 => (¬ v45 = x9 → K 0 (uS w41 σ46)) ∧ (v45 = x9 → WD G M_Cl_lists 65 [(0, vR 0), (1, vA x1), (2, vA x2), (3, vA a8), (4, vI (x4 + 1)), (5, vI x5), (6, vI x6), (7, vL x7), (9, vI x9), (10, vA a38)] [] (uS w41 σ46) rc rs (yI K)))))))))))) : WD G M_Cl_lists 21 [(0, vR 0), (1, vA x1), (2, vA x2), (3, vP x3), (4, vI x4), (5, vI x5), (6, vI x6), (7, vL x7), (9, vI x9)] [] w rc rs (yI K) := by
  refine x_iload d_Cl_lists_21 rfl (?_ : WD _ _ 23 _ _ _ _ _ _)
  refine x_aload_nP x3 d_Cl_lists_23 rfl (?_ : WD _ _ 24 _ _ _ _ _ _)
  obtain ⟨a8, e9, h⟩ := h
  rw [e9]
  obtain ⟨n10, h⟩ := h
  obtain ⟨k11, h⟩ := h
  obtain ⟨h12, h⟩ := h
  refine x_alenA k11 (fun _ => rfl) h12 d_Cl_lists_24 (?_ : WD _ _ 25 _ _ _ _ _ _)
  refine x_icmp_ge 323 d_Cl_lists_25 rfl ⟨fun c13 => (?_ : WD _ _ 323 _ _ _ _ _ _), fun c13 => (?_ : WD _ _ 28 _ _ _ _ _ _)⟩
  · replace h := h.1 c13
    refine x_aload_nP (some x1) d_Cl_lists_323 rfl (?_ : WD _ _ 324 _ _ _ _ _ _)
    obtain ⟨c14, s15, h16, h17, h⟩ := h
    obtain ⟨k18, h⟩ := h
    refine x_callV (ν := M_Bo_allCoins) [] ok_M_Bo_allCoins okv_M_Bo_allCoins k18 rfl rfl (qm_5 (i := 205) rfl rfl) np_M_Bo_allCoins rfl ⟨Nat.le_of_ble_eq_true rfl, Nat.le_of_ble_eq_true rfl⟩ (Nat.le_of_ble_eq_true rfl) rfl d_Cl_lists_324 h16 h17 (DI.k h (fun v20 w19 gw19 h => (?_ : WD _ _ 327 _ _ _ _ _ _)))
    refine x_if_ne 334 d_Cl_lists_327 rfl ⟨fun c21 => (?_ : WD _ _ 334 _ _ _ _ _ _), fun c21 => (?_ : WD _ _ 330 _ _ _ _ _ _)⟩
    · replace h := h.1 c21
      refine x_ldc2 1000 d_Cl_lists_334 (qm_10 (i := 12) rfl rfl) (by decide) (by decide) (?_ : WD _ _ 337 _ _ _ _ _ _)
      refine x_lload d_Cl_lists_337 rfl (?_ : WD _ _ 339 _ _ _ _ _ _)
      obtain ⟨h22, h⟩ := h
      refine x_lmul d_Cl_lists_339 h22 (?_ : WD _ _ 340 _ _ _ _ _ _)
      refine x_aload_nP (some x1) d_Cl_lists_340 rfl (?_ : WD _ _ 341 _ _ _ _ _ _)
      obtain ⟨c23, s24, h25, h26, h⟩ := h
      refine x_callV (ν := M_Bo_allCoins) [] ok_M_Bo_allCoins okv_M_Bo_allCoins (k18.q gw19.k) rfl rfl (qm_5 (i := 205) rfl rfl) np_M_Bo_allCoins rfl ⟨Nat.le_of_ble_eq_true rfl, Nat.le_of_ble_eq_true rfl⟩ (Nat.le_of_ble_eq_true rfl) rfl d_Cl_lists_341 h25 h26 (DI.k h (fun v28 w27 gw27 h => (?_ : WD _ _ 344 _ _ _ _ _ _)))
      refine x_i2l d_Cl_lists_344 (?_ : WD _ _ 345 _ _ _ _ _ _)
      obtain ⟨h29, h⟩ := h
      obtain ⟨h30, h⟩ := h
      refine x_ldivn d_Cl_lists_345 h29 h30 (?_ : WD _ _ 346 _ _ _ _ _ _)
      obtain ⟨h31, h⟩ := h
      refine x_l2i d_Cl_lists_346 h31 (?_ : WD _ _ 347 _ _ _ _ _ _)
      refine x_pick (ls' := [(0, vR 0), (4, vI x4), (5, vI x5), (6, vI x6)]) [0, 4, 5, 6] rfl ?_
      exact h
    · replace h := h.2 c21
      refine x_iconst d_Cl_lists_330 (by decide) (?_ : WD _ _ 331 _ _ _ _ _ _)
      refine x_goto 347 d_Cl_lists_331 rfl ?_
      refine x_pick (ls' := [(0, vR 0), (4, vI x4), (5, vI x5), (6, vI x6)]) [0, 4, 5, 6] rfl ?_
      exact h
  · replace h := h.2 c13
    refine x_aload_nP (some x1) d_Cl_lists_28 rfl (?_ : WD _ _ 29 _ _ _ _ _ _)
    obtain ⟨k32, h⟩ := h
    refine x_getP (ref := "CoinSamplerLaw$Books") (j := 0) 0 k32 clk_11 (by decide) (qm_2 (i := 156) rfl rfl) (Or.inl rfl) rfl rfl d_Cl_lists_29 (y := (wR w x1 0)) rfl (?_ : WD _ _ 32 _ _ _ _ _ _)
    refine x_iload d_Cl_lists_32 rfl (?_ : WD _ _ 34 _ _ _ _ _ _)
    obtain ⟨a33, e34, h⟩ := h
    rw [e34]
    obtain ⟨k35, h⟩ := h
    refine x_callV (ν := M_Al_get) [vI x9] ok_M_Al_get okv_M_Al_get k35 rfl rfl (qm_3 (i := 183) rfl rfl) np_M_Al_get rfl ⟨Nat.le_of_ble_eq_true rfl, Nat.le_of_ble_eq_true rfl⟩ (Nat.le_of_ble_eq_true rfl) rfl d_Cl_lists_34 (Nat.zero_le _) (Nat.zero_le _) (DP.k h (fun v37 w36 gw36 h => (?_ : WD _ _ 37 _ _ _ _ _ _)))
    obtain ⟨a38, e39, h⟩ := h
    rw [e39]
    obtain ⟨k40, h⟩ := h
    refine x_cast k40 rfl (Or.inl rfl) (qm_3 (i := 184) rfl rfl) d_Cl_lists_37 (?_ : WD _ _ 40 _ _ _ _ _ _)
    refine x_astoreP (some a38) (ls' := [(10, vA a38), (0, vR 0), (1, vA x1), (2, vA x2), (3, vA a8), (4, vI x4), (5, vI x5), (6, vI x6), (7, vL x7), (9, vI x9)]) d_Cl_lists_40 (by decide) rfl (?_ : WD _ _ 42 _ _ _ _ _ _)
    refine x_aload_nP (some x1) d_Cl_lists_42 rfl (?_ : WD _ _ 43 _ _ _ _ _ _)
    refine x_aloadP (some a38) d_Cl_lists_43 rfl (?_ : WD _ _ 45 _ _ _ _ _ _)
    refine x_callV (ν := M_Bo_certain) [vA a38] ok_M_Bo_certain okv_M_Bo_certain (k32.q gw36.k) rfl rfl (qm_5 (i := 185) rfl rfl) np_M_Bo_certain rfl ⟨Nat.le_of_ble_eq_true rfl, Nat.le_of_ble_eq_true rfl⟩ (Nat.le_of_ble_eq_true rfl) rfl d_Cl_lists_45 (Nat.zero_le _) (Nat.zero_le _) (DI.k h (fun v42 w41 gw41 h => (?_ : WD _ _ 48 _ _ _ _ _ _)))
    refine x_if_eq 65 d_Cl_lists_48 rfl ⟨fun c43 => (?_ : WD _ _ 65 _ _ _ _ _ _), fun c43 => (?_ : WD _ _ 51 _ _ _ _ _ _)⟩
    · replace h := h.1 c43
      refine x_pick (ls' := [(0, vR 0), (1, vA x1), (2, vA x2), (3, vA a8), (4, vI x4), (5, vI x5), (6, vI x6), (7, vL x7), (9, vI x9), (10, vA a38)]) [1, 2, 3, 4, 5, 6, 7, 8, 9, 0] rfl ?_
      exact h
    · replace h := h.2 c43
      refine x_aload_n d_Cl_lists_51 rfl (?_ : WD _ _ 52 _ _ _ _ _ _)
      refine x_iload d_Cl_lists_52 rfl (?_ : WD _ _ 54 _ _ _ _ _ _)
      obtain ⟨h44, h⟩ := h
      refine x_iinc (ls' := [(4, vI (x4 + 1)), (10, vA a38), (0, vR 0), (1, vA x1), (2, vA x2), (3, vA a8), (5, vI x5), (6, vI x6), (7, vL x7), (9, vI x9)]) d_Cl_lists_54 rfl h44 (by decide) rfl (?_ : WD _ _ 57 _ _ _ _ _ _)
      refine x_callC (ν := M_Cs_certain) (k := 0) [vI x4] ok_M_Cs_certain okv_M_Cs_certain (by decide) rfl rfl rfl (qm_9 (i := 199) rfl rfl) np_M_Cs_certain rfl ⟨Nat.le_of_ble_eq_true rfl, Nat.le_of_ble_eq_true rfl⟩ (Nat.le_of_ble_eq_true rfl) rfl d_Cl_lists_57 (CI.kd h (fun v45 σ46 h => (?_ : WD _ _ 60 _ _ _ _ _ _)))
      refine x_iload d_Cl_lists_60 rfl (?_ : WD _ _ 62 _ _ _ _ _ _)
      refine x_icmp_ne 94 d_Cl_lists_62 rfl ⟨fun c47 => (?_ : WD _ _ 94 _ _ _ _ _ _), fun c47 => (?_ : WD _ _ 65 _ _ _ _ _ _)⟩
      · replace h := h.1 c47
        refine x_iconst d_Cl_lists_94 (by decide) (?_ : WD _ _ 95 _ _ _ _ _ _)
        exact x_zreturn rfl d_Cl_lists_95 (by decide) h
      · replace h := h.2 c47
        refine x_pick (ls' := [(0, vR 0), (1, vA x1), (2, vA x2), (3, vA a8), (4, vI (x4 + 1)), (5, vI x5), (6, vI x6), (7, vL x7), (9, vI x9), (10, vA a38)]) [2, 3, 4, 5, 0, 6, 7, 8, 9, 1] rfl ?_
        exact h
set_option maxRecDepth 20000 in
theorem l_Cl_lists_2 {G : Gq} {K : Int → Wd → Prop} {w : Wd} {rc rs : Nat} (x1 : Nat) (x2 : Nat) (x3 : Nat) (x4 : Int) (x5 : Int) (x6 : Int) (x7 : Int) (x9 : Int) (x10 : Nat) (h : ∃ n48 : Nat, ((Is G w x3 (kA 2 n48)) ∧ (0 ≤ x9) ∧ (x9 < (n48 : Int)) ∧ ((wI w x3 x9) = 0 → WD G M_Cl_lists 96 [(0, vR 0), (1, vA x1), (2, vA x2), (3, vA x3), (4, vI x4), (5, vI x5), (6, vI x6), (7, vL x7), (9, vI x9), (10, vA x10)] [] w rc rs (yI K)) ∧ (¬ (wI w x3 x9) = 0 → (Is G w x10 (kO 13)) ∧ (0 ≤ (wI w x10 3) → WD G M_Cl_lists 96 [(0, vR 0), (1, vA x1), (2, vA x2), (3, vA x3), (4, vI x4), (5, vI x5), (6, vI x6), (7, vL x7), (9, vI x9), (10, vA x10)] [] w rc rs (yI K)) ∧ (¬ 0 ≤ (wI w x10 3) → (inR (x5 + 1)) ∧ CI M_Cs_lacking [vR 0, vI x5] (wS w) (fun v56 σ57 => (v56 = x9 → WD G M_Cl_lists 96 [(0, vR 0), (1, vA x1), (2, vA x2), (3, vA x3), (4, vI x4), (5, vI (x5 + 1)), (6, vI x6), (7, vL x7), (9, vI x9), (10, vA x10)] [] (uS w σ57) rc rs (yI K)) ∧ (¬ v56 = x9 → K 0 (uS w σ57))))))) : WD G M_Cl_lists 65 [(0, vR 0), (1, vA x1), (2, vA x2), (3, vA x3), (4, vI x4), (5, vI x5), (6, vI x6), (7, vL x7), (9, vI x9), (10, vA x10)] [] w rc rs (yI K) := by
  refine x_aload_nP (some x3) d_Cl_lists_65 rfl (?_ : WD _ _ 66 _ _ _ _ _ _)
  refine x_iload d_Cl_lists_66 rfl (?_ : WD _ _ 68 _ _ _ _ _ _)
  obtain ⟨n48, h⟩ := h
  obtain ⟨k49, h⟩ := h
  obtain ⟨h50, h⟩ := h
  obtain ⟨h51, h⟩ := h
  refine x_zald k49 d_Cl_lists_68 h50 h51 (y := (wI w x3 x9)) rfl (?_ : WD _ _ 69 _ _ _ _ _ _)
  refine x_if_eq 96 d_Cl_lists_69 rfl ⟨fun c52 => (?_ : WD _ _ 96 _ _ _ _ _ _), fun c52 => (?_ : WD _ _ 72 _ _ _ _ _ _)⟩
  · replace h := h.1 c52
    exact h
  · replace h := h.2 c52
    refine x_aloadP (some x10) d_Cl_lists_72 rfl (?_ : WD _ _ 74 _ _ _ _ _ _)
    obtain ⟨k53, h⟩ := h
    refine x_getI (ref := "CoinSamplerLaw$Item") (j := 3) 3 k53 clk_13 (by decide) (qm_4 (i := 159) rfl rfl) (Or.inl rfl) rfl rfl d_Cl_lists_74 (y := (wI w x10 3)) rfl (?_ : WD _ _ 77 _ _ _ _ _ _)
    refine x_if_ge 96 d_Cl_lists_77 rfl ⟨fun c54 => (?_ : WD _ _ 96 _ _ _ _ _ _), fun c54 => (?_ : WD _ _ 80 _ _ _ _ _ _)⟩
    · replace h := h.1 c54
      exact h
    · replace h := h.2 c54
      refine x_aload_n d_Cl_lists_80 rfl (?_ : WD _ _ 81 _ _ _ _ _ _)
      refine x_iload d_Cl_lists_81 rfl (?_ : WD _ _ 83 _ _ _ _ _ _)
      obtain ⟨h55, h⟩ := h
      refine x_iinc (ls' := [(5, vI (x5 + 1)), (0, vR 0), (1, vA x1), (2, vA x2), (3, vA x3), (4, vI x4), (6, vI x6), (7, vL x7), (9, vI x9), (10, vA x10)]) d_Cl_lists_83 rfl h55 (by decide) rfl (?_ : WD _ _ 86 _ _ _ _ _ _)
      refine x_callC (ν := M_Cs_lacking) (k := 0) [vI x5] ok_M_Cs_lacking okv_M_Cs_lacking (by decide) rfl rfl rfl (qm_9 (i := 218) rfl rfl) np_M_Cs_lacking rfl ⟨Nat.le_of_ble_eq_true rfl, Nat.le_of_ble_eq_true rfl⟩ (Nat.le_of_ble_eq_true rfl) rfl d_Cl_lists_86 (CI.kd h (fun v56 σ57 h => (?_ : WD _ _ 89 _ _ _ _ _ _)))
      refine x_iload d_Cl_lists_89 rfl (?_ : WD _ _ 91 _ _ _ _ _ _)
      refine x_icmp_eq 96 d_Cl_lists_91 rfl ⟨fun c58 => (?_ : WD _ _ 96 _ _ _ _ _ _), fun c58 => (?_ : WD _ _ 94 _ _ _ _ _ _)⟩
      · replace h := h.1 c58
        refine x_pick (ls' := [(0, vR 0), (1, vA x1), (2, vA x2), (3, vA x3), (4, vI x4), (5, vI (x5 + 1)), (6, vI x6), (7, vL x7), (9, vI x9), (10, vA x10)]) [1, 2, 3, 4, 5, 0, 6, 7, 8, 9] rfl ?_
        exact h
      · replace h := h.2 c58
        refine x_iconst d_Cl_lists_94 (by decide) (?_ : WD _ _ 95 _ _ _ _ _ _)
        exact x_zreturn rfl d_Cl_lists_95 (by decide) h
set_option maxRecDepth 20000 in
theorem l_Cl_lists_7 {G : Gq} {K : Int → Wd → Prop} {w : Wd} {rc rs : Nat} (x4 : Int) (x5 : Int) (x6 : Int) (y0 : Int) (h : CI M_Cs_certain [vR 0, vI (-1)] (wS w) (fun v59 σ60 => (¬ v59 = x4 → K 0 (uS w σ60)) ∧ (v59 = x4 → CI M_Cs_lacking [vR 0, vI (-1)] (wS (uS w σ60)) (fun v62 σ63 => (¬ v62 = x5 → K 0 (uS (uS w σ60) σ63)) ∧ (v62 = x5 → CI M_Cs_drawn [vR 0, vI (-1)] (wS (uS (uS w σ60) σ63)) (fun v65 σ66 => (¬ v65 = x6 → K 0 (uS (uS (uS w σ60) σ63) σ66)) ∧ (v65 = x6 → CI M_Cs_certain [vR 0, vI x4] (wS (uS (uS (uS w σ60) σ63) σ66)) (fun v68 σ69 => (¬ v68 = (-1) → K 0 (uS (uS (uS (uS w σ60) σ63) σ66) σ69)) ∧ (v68 = (-1) → CI M_Cs_lacking [vR 0, vI x5] (wS (uS (uS (uS (uS w σ60) σ63) σ66) σ69)) (fun v71 σ72 => (¬ v71 = (-1) → K 0 (uS (uS (uS (uS (uS w σ60) σ63) σ66) σ69) σ72)) ∧ (v71 = (-1) → CI M_Cs_drawn [vR 0, vI x6] (wS (uS (uS (uS (uS (uS w σ60) σ63) σ66) σ69) σ72)) (fun v74 σ75 => (¬ v74 = (-1) → K 0 (uS (uS (uS (uS (uS (uS w σ60) σ63) σ66) σ69) σ72) σ75)) ∧ (v74 = (-1) → CI M_Cs_certain [vR 0, vI (-2)] (wS (uS (uS (uS (uS (uS (uS w σ60) σ63) σ66) σ69) σ72) σ75)) (fun v77 σ78 => (¬ v77 = (-3) → K 0 (uS (uS (uS (uS (uS (uS (uS w σ60) σ63) σ66) σ69) σ72) σ75) σ78)) ∧ (v77 = (-3) → CI M_Cs_lacking [vR 0, vI (-2)] (wS (uS (uS (uS (uS (uS (uS (uS w σ60) σ63) σ66) σ69) σ72) σ75) σ78)) (fun v80 σ81 => (¬ v80 = (-3) → K 0 (uS (uS (uS (uS (uS (uS (uS (uS w σ60) σ63) σ66) σ69) σ72) σ75) σ78) σ81)) ∧ (v80 = (-3) → CI M_Cs_drawn [vR 0, vI (-2)] (wS (uS (uS (uS (uS (uS (uS (uS (uS w σ60) σ63) σ66) σ69) σ72) σ75) σ78) σ81)) (fun v83 σ84 => (¬ v83 = (-3) → K 0 (uS (uS (uS (uS (uS (uS (uS (uS (uS w σ60) σ63) σ66) σ69) σ72) σ75) σ78) σ81) σ84)) ∧ (v83 = (-3) → CI M_Cs_line [vR 0, vI x6, vI 0] (wS (uS (uS (uS (uS (uS (uS (uS (uS (uS w σ60) σ63) σ66) σ69) σ72) σ75) σ78) σ81) σ84)) (fun v86 σ87 => (¬ v86 = (-2) → K 0 (uS (uS (uS (uS (uS (uS (uS (uS (uS (uS w σ60) σ63) σ66) σ69) σ72) σ75) σ78) σ81) σ84) σ87)) ∧ (v86 = (-2) → CI M_Cs_line [vR 0, vI (-1), vI 0] (wS (uS (uS (uS (uS (uS (uS (uS (uS (uS (uS w σ60) σ63) σ66) σ69) σ72) σ75) σ78) σ81) σ84) σ87)) (fun v89 σ90 => (¬ v89 = (-2) → K 0 (uS (uS (uS (uS (uS (uS (uS (uS (uS (uS (uS w σ60) σ63) σ66) σ69) σ72) σ75) σ78) σ81) σ84) σ87) σ90)) ∧ (v89 = (-2) → (x6 = 0 → WD G M_Cl_lists 481 [(0, vR 0), (9, vI y0)] [] (uS (uS (uS (uS (uS (uS (uS (uS (uS (uS (uS w σ60) σ63) σ66) σ69) σ72) σ75) σ78) σ81) σ84) σ87) σ90) rc rs (yI K)) ∧ (¬ x6 = 0 → CI M_Cs_line [vR 0, vI 0, vI (-1)] (wS (uS (uS (uS (uS (uS (uS (uS (uS (uS (uS (uS w σ60) σ63) σ66) σ69) σ72) σ75) σ78) σ81) σ84) σ87) σ90)) (fun v93 σ94 => (¬ v93 = (-3) → K 0 (uS (uS (uS (uS (uS (uS (uS (uS (uS (uS (uS (uS w σ60) σ63) σ66) σ69) σ72) σ75) σ78) σ81) σ84) σ87) σ90) σ94)) ∧ (v93 = (-3) → WD G M_Cl_lists 481 [(0, vR 0), (9, vI y0)] [] (uS (uS (uS (uS (uS (uS (uS (uS (uS (uS (uS (uS w σ60) σ63) σ66) σ69) σ72) σ75) σ78) σ81) σ84) σ87) σ90) σ94) rc rs (yI K))))))))))))))))))))))))))) : WD G M_Cl_lists 347 [(0, vR 0), (4, vI x4), (5, vI x5), (6, vI x6)] [vI y0] w rc rs (yI K) := by
  refine x_istore (ls' := [(9, vI y0), (0, vR 0), (4, vI x4), (5, vI x5), (6, vI x6)]) d_Cl_lists_347 (by decide) rfl (?_ : WD _ _ 349 _ _ _ _ _ _)
  refine x_aload_n d_Cl_lists_349 rfl (?_ : WD _ _ 350 _ _ _ _ _ _)
  refine x_iconst d_Cl_lists_350 (by decide) (?_ : WD _ _ 351 _ _ _ _ _ _)
  refine x_callC (ν := M_Cs_certain) (k := 0) [vI (-1)] ok_M_Cs_certain okv_M_Cs_certain (by decide) rfl rfl rfl (qm_9 (i := 199) rfl rfl) np_M_Cs_certain rfl ⟨Nat.le_of_ble_eq_true rfl, Nat.le_of_ble_eq_true rfl⟩ (Nat.le_of_ble_eq_true rfl) rfl d_Cl_lists_351 (CI.kd h (fun v59 σ60 h => (?_ : WD _ _ 354 _ _ _ _ _ _)))
  refine x_iload d_Cl_lists_354 rfl (?_ : WD _ _ 356 _ _ _ _ _ _)
  refine x_icmp_ne 494 d_Cl_lists_356 rfl ⟨fun c61 => (?_ : WD _ _ 494 _ _ _ _ _ _), fun c61 => (?_ : WD _ _ 359 _ _ _ _ _ _)⟩
  · replace h := h.1 c61
    refine x_iconst d_Cl_lists_494 (by decide) (?_ : WD _ _ 495 _ _ _ _ _ _)
    exact x_zreturn rfl d_Cl_lists_495 (by decide) h
  · replace h := h.2 c61
    refine x_aload_n d_Cl_lists_359 rfl (?_ : WD _ _ 360 _ _ _ _ _ _)
    refine x_iconst d_Cl_lists_360 (by decide) (?_ : WD _ _ 361 _ _ _ _ _ _)
    refine x_callC (ν := M_Cs_lacking) (k := 0) [vI (-1)] ok_M_Cs_lacking okv_M_Cs_lacking (by decide) rfl rfl rfl (qm_9 (i := 218) rfl rfl) np_M_Cs_lacking rfl ⟨Nat.le_of_ble_eq_true rfl, Nat.le_of_ble_eq_true rfl⟩ (Nat.le_of_ble_eq_true rfl) rfl d_Cl_lists_361 (CI.kd h (fun v62 σ63 h => (?_ : WD _ _ 364 _ _ _ _ _ _)))
    refine x_iload d_Cl_lists_364 rfl (?_ : WD _ _ 366 _ _ _ _ _ _)
    refine x_icmp_ne 494 d_Cl_lists_366 rfl ⟨fun c64 => (?_ : WD _ _ 494 _ _ _ _ _ _), fun c64 => (?_ : WD _ _ 369 _ _ _ _ _ _)⟩
    · replace h := h.1 c64
      refine x_iconst d_Cl_lists_494 (by decide) (?_ : WD _ _ 495 _ _ _ _ _ _)
      exact x_zreturn rfl d_Cl_lists_495 (by decide) h
    · replace h := h.2 c64
      refine x_aload_n d_Cl_lists_369 rfl (?_ : WD _ _ 370 _ _ _ _ _ _)
      refine x_iconst d_Cl_lists_370 (by decide) (?_ : WD _ _ 371 _ _ _ _ _ _)
      refine x_callC (ν := M_Cs_drawn) (k := 0) [vI (-1)] ok_M_Cs_drawn okv_M_Cs_drawn (by decide) rfl rfl rfl (qm_9 (i := 227) rfl rfl) np_M_Cs_drawn rfl ⟨Nat.le_of_ble_eq_true rfl, Nat.le_of_ble_eq_true rfl⟩ (Nat.le_of_ble_eq_true rfl) rfl d_Cl_lists_371 (CI.kd h (fun v65 σ66 h => (?_ : WD _ _ 374 _ _ _ _ _ _)))
      refine x_iload d_Cl_lists_374 rfl (?_ : WD _ _ 376 _ _ _ _ _ _)
      refine x_icmp_ne 494 d_Cl_lists_376 rfl ⟨fun c67 => (?_ : WD _ _ 494 _ _ _ _ _ _), fun c67 => (?_ : WD _ _ 379 _ _ _ _ _ _)⟩
      · replace h := h.1 c67
        refine x_iconst d_Cl_lists_494 (by decide) (?_ : WD _ _ 495 _ _ _ _ _ _)
        exact x_zreturn rfl d_Cl_lists_495 (by decide) h
      · replace h := h.2 c67
        refine x_aload_n d_Cl_lists_379 rfl (?_ : WD _ _ 380 _ _ _ _ _ _)
        refine x_iload d_Cl_lists_380 rfl (?_ : WD _ _ 382 _ _ _ _ _ _)
        refine x_callC (ν := M_Cs_certain) (k := 0) [vI x4] ok_M_Cs_certain okv_M_Cs_certain (by decide) rfl rfl rfl (qm_9 (i := 199) rfl rfl) np_M_Cs_certain rfl ⟨Nat.le_of_ble_eq_true rfl, Nat.le_of_ble_eq_true rfl⟩ (Nat.le_of_ble_eq_true rfl) rfl d_Cl_lists_382 (CI.kd h (fun v68 σ69 h => (?_ : WD _ _ 385 _ _ _ _ _ _)))
        refine x_iconst d_Cl_lists_385 (by decide) (?_ : WD _ _ 386 _ _ _ _ _ _)
        refine x_icmp_ne 494 d_Cl_lists_386 rfl ⟨fun c70 => (?_ : WD _ _ 494 _ _ _ _ _ _), fun c70 => (?_ : WD _ _ 389 _ _ _ _ _ _)⟩
        · replace h := h.1 c70
          refine x_iconst d_Cl_lists_494 (by decide) (?_ : WD _ _ 495 _ _ _ _ _ _)
          exact x_zreturn rfl d_Cl_lists_495 (by decide) h
        · replace h := h.2 c70
          refine x_aload_n d_Cl_lists_389 rfl (?_ : WD _ _ 390 _ _ _ _ _ _)
          refine x_iload d_Cl_lists_390 rfl (?_ : WD _ _ 392 _ _ _ _ _ _)
          refine x_callC (ν := M_Cs_lacking) (k := 0) [vI x5] ok_M_Cs_lacking okv_M_Cs_lacking (by decide) rfl rfl rfl (qm_9 (i := 218) rfl rfl) np_M_Cs_lacking rfl ⟨Nat.le_of_ble_eq_true rfl, Nat.le_of_ble_eq_true rfl⟩ (Nat.le_of_ble_eq_true rfl) rfl d_Cl_lists_392 (CI.kd h (fun v71 σ72 h => (?_ : WD _ _ 395 _ _ _ _ _ _)))
          refine x_iconst d_Cl_lists_395 (by decide) (?_ : WD _ _ 396 _ _ _ _ _ _)
          refine x_icmp_ne 494 d_Cl_lists_396 rfl ⟨fun c73 => (?_ : WD _ _ 494 _ _ _ _ _ _), fun c73 => (?_ : WD _ _ 399 _ _ _ _ _ _)⟩
          · replace h := h.1 c73
            refine x_iconst d_Cl_lists_494 (by decide) (?_ : WD _ _ 495 _ _ _ _ _ _)
            exact x_zreturn rfl d_Cl_lists_495 (by decide) h
          · replace h := h.2 c73
            refine x_aload_n d_Cl_lists_399 rfl (?_ : WD _ _ 400 _ _ _ _ _ _)
            refine x_iload d_Cl_lists_400 rfl (?_ : WD _ _ 402 _ _ _ _ _ _)
            refine x_callC (ν := M_Cs_drawn) (k := 0) [vI x6] ok_M_Cs_drawn okv_M_Cs_drawn (by decide) rfl rfl rfl (qm_9 (i := 227) rfl rfl) np_M_Cs_drawn rfl ⟨Nat.le_of_ble_eq_true rfl, Nat.le_of_ble_eq_true rfl⟩ (Nat.le_of_ble_eq_true rfl) rfl d_Cl_lists_402 (CI.kd h (fun v74 σ75 h => (?_ : WD _ _ 405 _ _ _ _ _ _)))
            refine x_iconst d_Cl_lists_405 (by decide) (?_ : WD _ _ 406 _ _ _ _ _ _)
            refine x_icmp_ne 494 d_Cl_lists_406 rfl ⟨fun c76 => (?_ : WD _ _ 494 _ _ _ _ _ _), fun c76 => (?_ : WD _ _ 409 _ _ _ _ _ _)⟩
            · replace h := h.1 c76
              refine x_iconst d_Cl_lists_494 (by decide) (?_ : WD _ _ 495 _ _ _ _ _ _)
              exact x_zreturn rfl d_Cl_lists_495 (by decide) h
            · replace h := h.2 c76
              refine x_aload_n d_Cl_lists_409 rfl (?_ : WD _ _ 410 _ _ _ _ _ _)
              refine x_bipush d_Cl_lists_410 (by decide) (by decide) (?_ : WD _ _ 412 _ _ _ _ _ _)
              refine x_callC (ν := M_Cs_certain) (k := 0) [vI (-2)] ok_M_Cs_certain okv_M_Cs_certain (by decide) rfl rfl rfl (qm_9 (i := 199) rfl rfl) np_M_Cs_certain rfl ⟨Nat.le_of_ble_eq_true rfl, Nat.le_of_ble_eq_true rfl⟩ (Nat.le_of_ble_eq_true rfl) rfl d_Cl_lists_412 (CI.kd h (fun v77 σ78 h => (?_ : WD _ _ 415 _ _ _ _ _ _)))
              refine x_bipush d_Cl_lists_415 (by decide) (by decide) (?_ : WD _ _ 417 _ _ _ _ _ _)
              refine x_icmp_ne 494 d_Cl_lists_417 rfl ⟨fun c79 => (?_ : WD _ _ 494 _ _ _ _ _ _), fun c79 => (?_ : WD _ _ 420 _ _ _ _ _ _)⟩
              · replace h := h.1 c79
                refine x_iconst d_Cl_lists_494 (by decide) (?_ : WD _ _ 495 _ _ _ _ _ _)
                exact x_zreturn rfl d_Cl_lists_495 (by decide) h
              · replace h := h.2 c79
                refine x_aload_n d_Cl_lists_420 rfl (?_ : WD _ _ 421 _ _ _ _ _ _)
                refine x_bipush d_Cl_lists_421 (by decide) (by decide) (?_ : WD _ _ 423 _ _ _ _ _ _)
                refine x_callC (ν := M_Cs_lacking) (k := 0) [vI (-2)] ok_M_Cs_lacking okv_M_Cs_lacking (by decide) rfl rfl rfl (qm_9 (i := 218) rfl rfl) np_M_Cs_lacking rfl ⟨Nat.le_of_ble_eq_true rfl, Nat.le_of_ble_eq_true rfl⟩ (Nat.le_of_ble_eq_true rfl) rfl d_Cl_lists_423 (CI.kd h (fun v80 σ81 h => (?_ : WD _ _ 426 _ _ _ _ _ _)))
                refine x_bipush d_Cl_lists_426 (by decide) (by decide) (?_ : WD _ _ 428 _ _ _ _ _ _)
                refine x_icmp_ne 494 d_Cl_lists_428 rfl ⟨fun c82 => (?_ : WD _ _ 494 _ _ _ _ _ _), fun c82 => (?_ : WD _ _ 431 _ _ _ _ _ _)⟩
                · replace h := h.1 c82
                  refine x_iconst d_Cl_lists_494 (by decide) (?_ : WD _ _ 495 _ _ _ _ _ _)
                  exact x_zreturn rfl d_Cl_lists_495 (by decide) h
                · replace h := h.2 c82
                  refine x_aload_n d_Cl_lists_431 rfl (?_ : WD _ _ 432 _ _ _ _ _ _)
                  refine x_bipush d_Cl_lists_432 (by decide) (by decide) (?_ : WD _ _ 434 _ _ _ _ _ _)
                  refine x_callC (ν := M_Cs_drawn) (k := 0) [vI (-2)] ok_M_Cs_drawn okv_M_Cs_drawn (by decide) rfl rfl rfl (qm_9 (i := 227) rfl rfl) np_M_Cs_drawn rfl ⟨Nat.le_of_ble_eq_true rfl, Nat.le_of_ble_eq_true rfl⟩ (Nat.le_of_ble_eq_true rfl) rfl d_Cl_lists_434 (CI.kd h (fun v83 σ84 h => (?_ : WD _ _ 437 _ _ _ _ _ _)))
                  refine x_bipush d_Cl_lists_437 (by decide) (by decide) (?_ : WD _ _ 439 _ _ _ _ _ _)
                  refine x_icmp_ne 494 d_Cl_lists_439 rfl ⟨fun c85 => (?_ : WD _ _ 494 _ _ _ _ _ _), fun c85 => (?_ : WD _ _ 442 _ _ _ _ _ _)⟩
                  · replace h := h.1 c85
                    refine x_iconst d_Cl_lists_494 (by decide) (?_ : WD _ _ 495 _ _ _ _ _ _)
                    exact x_zreturn rfl d_Cl_lists_495 (by decide) h
                  · replace h := h.2 c85
                    refine x_aload_n d_Cl_lists_442 rfl (?_ : WD _ _ 443 _ _ _ _ _ _)
                    refine x_iload d_Cl_lists_443 rfl (?_ : WD _ _ 445 _ _ _ _ _ _)
                    refine x_iconst d_Cl_lists_445 (by decide) (?_ : WD _ _ 446 _ _ _ _ _ _)
                    refine x_callC (ν := M_Cs_line) (k := 0) [vI x6, vI 0] ok_M_Cs_line okv_M_Cs_line (by decide) rfl rfl rfl (qm_9 (i := 231) rfl rfl) np_M_Cs_line rfl ⟨Nat.le_of_ble_eq_true rfl, Nat.le_of_ble_eq_true rfl⟩ (Nat.le_of_ble_eq_true rfl) rfl d_Cl_lists_446 (CI.kd h (fun v86 σ87 h => (?_ : WD _ _ 449 _ _ _ _ _ _)))
                    refine x_bipush d_Cl_lists_449 (by decide) (by decide) (?_ : WD _ _ 451 _ _ _ _ _ _)
                    refine x_icmp_ne 494 d_Cl_lists_451 rfl ⟨fun c88 => (?_ : WD _ _ 494 _ _ _ _ _ _), fun c88 => (?_ : WD _ _ 454 _ _ _ _ _ _)⟩
                    · replace h := h.1 c88
                      refine x_iconst d_Cl_lists_494 (by decide) (?_ : WD _ _ 495 _ _ _ _ _ _)
                      exact x_zreturn rfl d_Cl_lists_495 (by decide) h
                    · replace h := h.2 c88
                      refine x_aload_n d_Cl_lists_454 rfl (?_ : WD _ _ 455 _ _ _ _ _ _)
                      refine x_iconst d_Cl_lists_455 (by decide) (?_ : WD _ _ 456 _ _ _ _ _ _)
                      refine x_iconst d_Cl_lists_456 (by decide) (?_ : WD _ _ 457 _ _ _ _ _ _)
                      refine x_callC (ν := M_Cs_line) (k := 0) [vI (-1), vI 0] ok_M_Cs_line okv_M_Cs_line (by decide) rfl rfl rfl (qm_9 (i := 231) rfl rfl) np_M_Cs_line rfl ⟨Nat.le_of_ble_eq_true rfl, Nat.le_of_ble_eq_true rfl⟩ (Nat.le_of_ble_eq_true rfl) rfl d_Cl_lists_457 (CI.kd h (fun v89 σ90 h => (?_ : WD _ _ 460 _ _ _ _ _ _)))
                      refine x_bipush d_Cl_lists_460 (by decide) (by decide) (?_ : WD _ _ 462 _ _ _ _ _ _)
                      refine x_icmp_ne 494 d_Cl_lists_462 rfl ⟨fun c91 => (?_ : WD _ _ 494 _ _ _ _ _ _), fun c91 => (?_ : WD _ _ 465 _ _ _ _ _ _)⟩
                      · replace h := h.1 c91
                        refine x_iconst d_Cl_lists_494 (by decide) (?_ : WD _ _ 495 _ _ _ _ _ _)
                        exact x_zreturn rfl d_Cl_lists_495 (by decide) h
                      · replace h := h.2 c91
                        refine x_iload d_Cl_lists_465 rfl (?_ : WD _ _ 467 _ _ _ _ _ _)
                        refine x_if_eq 481 d_Cl_lists_467 rfl ⟨fun c92 => (?_ : WD _ _ 481 _ _ _ _ _ _), fun c92 => (?_ : WD _ _ 470 _ _ _ _ _ _)⟩
                        · replace h := h.1 c92
                          refine x_pick (ls' := [(0, vR 0), (9, vI y0)]) [1, 0] rfl ?_
                          exact h
                        · replace h := h.2 c92
                          refine x_aload_n d_Cl_lists_470 rfl (?_ : WD _ _ 471 _ _ _ _ _ _)
                          refine x_iconst d_Cl_lists_471 (by decide) (?_ : WD _ _ 472 _ _ _ _ _ _)
                          refine x_iconst d_Cl_lists_472 (by decide) (?_ : WD _ _ 473 _ _ _ _ _ _)
                          refine x_callC (ν := M_Cs_line) (k := 0) [vI 0, vI (-1)] ok_M_Cs_line okv_M_Cs_line (by decide) rfl rfl rfl (qm_9 (i := 231) rfl rfl) np_M_Cs_line rfl ⟨Nat.le_of_ble_eq_true rfl, Nat.le_of_ble_eq_true rfl⟩ (Nat.le_of_ble_eq_true rfl) rfl d_Cl_lists_473 (CI.kd h (fun v93 σ94 h => (?_ : WD _ _ 476 _ _ _ _ _ _)))
                          refine x_bipush d_Cl_lists_476 (by decide) (by decide) (?_ : WD _ _ 478 _ _ _ _ _ _)
                          refine x_icmp_ne 494 d_Cl_lists_478 rfl ⟨fun c95 => (?_ : WD _ _ 494 _ _ _ _ _ _), fun c95 => (?_ : WD _ _ 481 _ _ _ _ _ _)⟩
                          · replace h := h.1 c95
                            refine x_iconst d_Cl_lists_494 (by decide) (?_ : WD _ _ 495 _ _ _ _ _ _)
                            exact x_zreturn rfl d_Cl_lists_495 (by decide) h
                          · replace h := h.2 c95
                            refine x_pick (ls' := [(0, vR 0), (9, vI y0)]) [1, 0] rfl ?_
                            exact h
set_option maxRecDepth 20000 in
theorem l_Cl_lists_3 {G : Gq} {K : Int → Wd → Prop} {w : Wd} {rc rs : Nat} (x1 : Nat) (x2 : Nat) (x3 : Nat) (x4 : Int) (x5 : Int) (x6 : Int) (x7 : Int) (x9 : Int) (x10 : Nat) (h : ∃ n96 : Nat, ((Is G w x3 (kA 2 n96)) ∧ (0 ≤ x9) ∧ (x9 < (n96 : Int)) ∧ (¬ (wI w x3 x9) = 0 → (Is G w x10 (kO 13)) ∧ DI G M_It_coins [vA x10] w 0 0 (fun v103 w102 => (inL (x7 + v103)) ∧ (1 ≤ rc) ∧ (4 ≤ rs) ∧ ∀ q107 : Nat, Fr G w102 q107 → (∃ c109 s110 : Nat, c109 ≤ (rc - 1) ∧ s110 ≤ (rs - 4) ∧ (DV G M_Sb_init [vA q107] (uN w102 q107 (kO 17)) c109 s110 (fun w113 => ∃ c115 s116 : Nat, c115 ≤ ((rc - 1) - c109) ∧ s116 ≤ ((rs - 4) - s110) ∧ (DP G M_Sb_append_bf812 [vA q107, vI (wI w113 x10 0)] w113 c115 s116 (fun v120 w119 => ∃ a121 : Nat, v120 = some a121 ∧ (∃ c123 s124 : Nat, c123 ≤ (((rc - 1) - c109) - c115) ∧ s124 ≤ (((rs - 4) - s110) - s116) ∧ ((Is G w119 a121 (kO 17)) ∧ DP G M_Sb_append_15ec4 [vA a121, vA (xa G 274)] w119 c123 s124 (fun v129 w128 => ∃ a130 : Nat, v129 = some a130 ∧ (∃ c132 s133 : Nat, c132 ≤ ((((rc - 1) - c109) - c115) - c123) ∧ s133 ≤ ((((rs - 4) - s110) - s116) - s124) ∧ ((Is G w128 a130 (kO 17)) ∧ DP G M_Sb_append_bf812 [vA a130, vI (wI w128 x10 1)] w128 c132 s133 (fun v138 w137 => ∃ a139 : Nat, v138 = some a139 ∧ (∃ c141 s142 : Nat, c141 ≤ (((((rc - 1) - c109) - c115) - c123) - c132) ∧ s142 ≤ (((((rs - 4) - s110) - s116) - s124) - s133) ∧ ((Is G w137 a139 (kO 17)) ∧ DP G M_Sb_append_15ec4 [vA a139, vA (xa G 268)] w137 c141 s142 (fun v147 w146 => ∃ a148 : Nat, v147 = some a148 ∧ (∃ c150 s151 : Nat, c150 ≤ ((((((rc - 1) - c109) - c115) - c123) - c132) - c141) ∧ s151 ≤ ((((((rs - 4) - s110) - s116) - s124) - s133) - s142) ∧ ((Is G w146 a148 (kO 17)) ∧ DP G M_Sb_append_bf812 [vA a148, vI (wI w146 x10 2)] w146 c150 s151 (fun v156 w155 => (Is G w155 x1 (kO 11)) ∧ DI G M_Bo_certain [vA x1, vA x10] w155 0 0 (fun v159 w158 => (v159 = 0 → (1 ≤ (((((((rc - 1) - c109) - c115) - c123) - c132) - c141) - c150)) ∧ (4 ≤ (((((((rs - 4) - s110) - s116) - s124) - s133) - s142) - s151)) ∧ ∀ q163 : Nat, Fr G w158 q163 → (∃ c165 s166 : Nat, c165 ≤ ((((((((rc - 1) - c109) - c115) - c123) - c132) - c141) - c150) - 1) ∧ s166 ≤ ((((((((rs - 4) - s110) - s116) - s124) - s133) - s142) - s151) - 4) ∧ (DV G M_Sb_init [vA q163] (uN w158 q163 (kO 17)) c165 s166 (fun w169 => ∃ c171 s172 : Nat, c171 ≤ (((((((((rc - 1) - c109) - c115) - c123) - c132) - c141) - c150) - 1) - c165) ∧ s172 ≤ (((((((((rs - 4) - s110) - s116) - s124) - s133) - s142) - s151) - 4) - s166) ∧ (DP G M_Sb_append_15ec4 [vA q163, vA (xa G 278)] w169 c171 s172 (fun v176 w175 => ∃ c177 s178 : Nat, c177 ≤ ((((((((((rc - 1) - c109) - c115) - c123) - c132) - c141) - c150) - 1) - c165) - c171) ∧ s178 ≤ ((((((((((rs - 4) - s110) - s116) - s124) - s133) - s142) - s151) - 4) - s166) - s172) ∧ (DI G M_Cl_oftenOf [vA x2, vI x9] w175 c177 s178 (fun v182 w181 => ∃ a183 : Nat, v176 = some a183 ∧ (∃ c185 s186 : Nat, c185 ≤ (((((((((((rc - 1) - c109) - c115) - c123) - c132) - c141) - c150) - 1) - c165) - c171) - c177) ∧ s186 ≤ (((((((((((rs - 4) - s110) - s116) - s124) - s133) - s142) - s151) - 4) - s166) - s172) - s178) ∧ ((Is G w181 a183 (kO 17)) ∧ DP G M_Sb_append_bf812 [vA a183, vI v182] w181 c185 s186 (fun v191 w190 => ∃ a192 : Nat, v191 = some a192 ∧ (∃ c194 s195 : Nat, c194 ≤ ((((((((((((rc - 1) - c109) - c115) - c123) - c132) - c141) - c150) - 1) - c165) - c171) - c177) - c185) ∧ s195 ≤ ((((((((((((rs - 4) - s110) - s116) - s124) - s133) - s142) - s151) - 4) - s166) - s172) - s178) - s186) ∧ ((Is G w190 a192 (kO 17)) ∧ DP G M_Sb_toString [vA a192] w190 c194 s195 (fun v200 w199 => WD G M_Cl_lists 199 [(0, vR 0), (1, vA x1), (2, vA x2), (3, vA x3), (4, vI x4), (5, vI x5), (6, vI x6), (7, vL (x7 + v103)), (9, vI x9), (10, vA x10)] [vP v200, vP v156] w199 (((((((((((((rc - 1) - c109) - c115) - c123) - c132) - c141) - c150) - 1) - c165) - c171) - c177) - c185) - c194) (((((((((((((rs - 4) - s110) - s116) - s124) - s133) - s142) - s151) - 4) - s166) - s172) - s178) - s186) - s195) (yI K))))))))))))))) ∧ (¬ v159 = 0 → WD G M_Cl_lists 199 [(0, vR 0), (1, vA x1), (2, vA x2), (3, vA x3), (4, vI x4), (5, vI x5), (6, vI x6), (7, vL (x7 + v103)), (9, vI x9), (10, vA x10)] [vP (some (xa G 276)), vP v156] w158 (((((((rc - 1) - c109) - c115) - c123) - c132) - c141) - c150) (((((((rs - 4) - s110) - s116) - s124) - s133) - s142) - s151) (yI K)))))))))))))))))))))) ∧ ((wI w x3 x9) = 0 → (inR (x9 + 1)) ∧ WD G M_Cl_lists 21 [(0, vR 0), (1, vA x1), (2, vA x2), (3, vP (some x3)), (4, vI x4), (5, vI x5), (6, vI x6), (7, vL x7), (9, vI (x9 + 1))] [] w rc rs (yI K)))) : WD G M_Cl_lists 96 [(0, vR 0), (1, vA x1), (2, vA x2), (3, vA x3), (4, vI x4), (5, vI x5), (6, vI x6), (7, vL x7), (9, vI x9), (10, vA x10)] [] w rc rs (yI K) := by
  refine x_aload_nP (some x3) d_Cl_lists_96 rfl (?_ : WD _ _ 97 _ _ _ _ _ _)
  refine x_iload d_Cl_lists_97 rfl (?_ : WD _ _ 99 _ _ _ _ _ _)
  obtain ⟨n96, h⟩ := h
  obtain ⟨k97, h⟩ := h
  obtain ⟨h98, h⟩ := h
  obtain ⟨h99, h⟩ := h
  refine x_zald k97 d_Cl_lists_99 h98 h99 (y := (wI w x3 x9)) rfl (?_ : WD _ _ 100 _ _ _ _ _ _)
  refine x_if_ne 106 d_Cl_lists_100 rfl ⟨fun c100 => (?_ : WD _ _ 106 _ _ _ _ _ _), fun c100 => (?_ : WD _ _ 103 _ _ _ _ _ _)⟩
  · replace h := h.1 c100
    refine x_lload d_Cl_lists_106 rfl (?_ : WD _ _ 108 _ _ _ _ _ _)
    refine x_aloadP (some x10) d_Cl_lists_108 rfl (?_ : WD _ _ 110 _ _ _ _ _ _)
    obtain ⟨k101, h⟩ := h
    refine x_callV (ν := M_It_coins) [] ok_M_It_coins okv_M_It_coins k101 rfl rfl (qm_6 (i := 199) rfl rfl) np_M_It_coins rfl ⟨Nat.le_of_ble_eq_true rfl, Nat.le_of_ble_eq_true rfl⟩ (Nat.le_of_ble_eq_true rfl) rfl d_Cl_lists_110 (Nat.zero_le _) (Nat.zero_le _) (DI.k h (fun v103 w102 gw102 h => (?_ : WD _ _ 113 _ _ _ _ _ _)))
    refine x_i2l d_Cl_lists_113 (?_ : WD _ _ 114 _ _ _ _ _ _)
    obtain ⟨h104, h⟩ := h
    refine x_ladd d_Cl_lists_114 h104 (?_ : WD _ _ 115 _ _ _ _ _ _)
    refine x_lstore (ls' := [(7, vL (x7 + v103)), (0, vR 0), (1, vA x1), (2, vA x2), (3, vA x3), (4, vI x4), (5, vI x5), (6, vI x6), (9, vI x9), (10, vA x10)]) d_Cl_lists_115 (by decide) rfl (?_ : WD _ _ 117 _ _ _ _ _ _)
    obtain ⟨h105, h⟩ := h
    obtain ⟨h106, h⟩ := h
    refine x_new d_Cl_lists_117 clk_17 tyJ4_ok (qm_3 (i := 188) rfl rfl) (qm_3 (i := 189) rfl rfl) (qm_1 (i := 19) rfl rfl) hfd_17 h105 h106 (fun q107 fq107 => (?_ : WD _ _ 120 _ _ _ _ _ _))
    replace h := h q107 fq107
    have k108 : Ow (uN w102 q107 (kO 17)) q107 (kO 17) := Ow.nw
    refine x_dup d_Cl_lists_120 rfl (?_ : WD _ _ 121 _ _ _ _ _ _)
    obtain ⟨c109, s110, h111, h112, h⟩ := h
    refine x_callI (ν := M_Sb_init) [] ok_M_Sb_init oki_M_Sb_init rfl rfl (qm_3 (i := 190) rfl rfl) np_M_Sb_init rfl ⟨Nat.le_of_ble_eq_true rfl, Nat.le_of_ble_eq_true rfl⟩ (Nat.le_of_ble_eq_true rfl) rfl d_Cl_lists_121 h111 h112 (DV.k h (fun w113 gw113 h => (?_ : WD _ _ 124 _ _ _ _ _ _)))
    refine x_aloadP (some x10) d_Cl_lists_124 rfl (?_ : WD _ _ 126 _ _ _ _ _ _)
    refine x_getI (ref := "CoinSamplerLaw$Item") (j := 0) 0 (((k101.q gw102.k).nu fq107).q gw113.k) clk_13 (by decide) (qm_4 (i := 151) rfl rfl) (Or.inl rfl) rfl rfl d_Cl_lists_126 (y := (wI w113 x10 0)) rfl (?_ : WD _ _ 129 _ _ _ _ _ _)
    obtain ⟨c115, s116, h117, h118, h⟩ := h
    refine x_callV (ν := M_Sb_append_bf812) [vI (wI w113 x10 0)] ok_M_Sb_append_bf812 okv_M_Sb_append_bf812 (k108.q gw113.k).is rfl rfl (qm_4 (i := 100) rfl rfl) np_M_Sb_append_bf812 rfl ⟨Nat.le_of_ble_eq_true rfl, Nat.le_of_ble_eq_true rfl⟩ (Nat.le_of_ble_eq_true rfl) rfl d_Cl_lists_129 h117 h118 (DP.k h (fun v120 w119 gw119 h => (?_ : WD _ _ 132 _ _ _ _ _ _)))
    refine x_ldcwS (q := 274) (tx := "/") d_Cl_lists_132 (by decide) (?_ : WD _ _ 135 _ _ _ _ _ _)
    obtain ⟨a121, e122, h⟩ := h
    rw [e122]
    obtain ⟨c123, s124, h125, h126, h⟩ := h
    obtain ⟨k127, h⟩ := h
    refine x_callV (ν := M_Sb_append_15ec4) [vA (xa G 274)] ok_M_Sb_append_15ec4 okv_M_Sb_append_15ec4 k127 rfl rfl (qm_3 (i := 235) rfl rfl) np_M_Sb_append_15ec4 rfl ⟨Nat.le_of_ble_eq_true rfl, Nat.le_of_ble_eq_true rfl⟩ (Nat.le_of_ble_eq_true rfl) rfl d_Cl_lists_135 h125 h126 (DP.k h (fun v129 w128 gw128 h => (?_ : WD _ _ 138 _ _ _ _ _ _)))
    refine x_aloadP (some x10) d_Cl_lists_138 rfl (?_ : WD _ _ 140 _ _ _ _ _ _)
    refine x_getI (ref := "CoinSamplerLaw$Item") (j := 1) 1 (((((k101.q gw102.k).nu fq107).q gw113.k).q gw119.k).q gw128.k) clk_13 (by decide) (qm_4 (i := 153) rfl rfl) (Or.inl rfl) rfl rfl d_Cl_lists_140 (y := (wI w128 x10 1)) rfl (?_ : WD _ _ 143 _ _ _ _ _ _)
    obtain ⟨a130, e131, h⟩ := h
    rw [e131]
    obtain ⟨c132, s133, h134, h135, h⟩ := h
    obtain ⟨k136, h⟩ := h
    refine x_callV (ν := M_Sb_append_bf812) [vI (wI w128 x10 1)] ok_M_Sb_append_bf812 okv_M_Sb_append_bf812 k136 rfl rfl (qm_4 (i := 100) rfl rfl) np_M_Sb_append_bf812 rfl ⟨Nat.le_of_ble_eq_true rfl, Nat.le_of_ble_eq_true rfl⟩ (Nat.le_of_ble_eq_true rfl) rfl d_Cl_lists_143 h134 h135 (DP.k h (fun v138 w137 gw137 h => (?_ : WD _ _ 146 _ _ _ _ _ _)))
    refine x_ldcS (q := 268) (tx := " ") d_Cl_lists_146 (by decide) (?_ : WD _ _ 148 _ _ _ _ _ _)
    obtain ⟨a139, e140, h⟩ := h
    rw [e140]
    obtain ⟨c141, s142, h143, h144, h⟩ := h
    obtain ⟨k145, h⟩ := h
    refine x_callV (ν := M_Sb_append_15ec4) [vA (xa G 268)] ok_M_Sb_append_15ec4 okv_M_Sb_append_15ec4 k145 rfl rfl (qm_3 (i := 235) rfl rfl) np_M_Sb_append_15ec4 rfl ⟨Nat.le_of_ble_eq_true rfl, Nat.le_of_ble_eq_true rfl⟩ (Nat.le_of_ble_eq_true rfl) rfl d_Cl_lists_148 h143 h144 (DP.k h (fun v147 w146 gw146 h => (?_ : WD _ _ 151 _ _ _ _ _ _)))
    refine x_aloadP (some x10) d_Cl_lists_151 rfl (?_ : WD _ _ 153 _ _ _ _ _ _)
    refine x_getI (ref := "CoinSamplerLaw$Item") (j := 2) 2 (((((((k101.q gw102.k).nu fq107).q gw113.k).q gw119.k).q gw128.k).q gw137.k).q gw146.k) clk_13 (by decide) (qm_4 (i := 157) rfl rfl) (Or.inl rfl) rfl rfl d_Cl_lists_153 (y := (wI w146 x10 2)) rfl (?_ : WD _ _ 156 _ _ _ _ _ _)
    obtain ⟨a148, e149, h⟩ := h
    rw [e149]
    obtain ⟨c150, s151, h152, h153, h⟩ := h
    obtain ⟨k154, h⟩ := h
    refine x_callV (ν := M_Sb_append_bf812) [vI (wI w146 x10 2)] ok_M_Sb_append_bf812 okv_M_Sb_append_bf812 k154 rfl rfl (qm_4 (i := 100) rfl rfl) np_M_Sb_append_bf812 rfl ⟨Nat.le_of_ble_eq_true rfl, Nat.le_of_ble_eq_true rfl⟩ (Nat.le_of_ble_eq_true rfl) rfl d_Cl_lists_156 h152 h153 (DP.k h (fun v156 w155 gw155 h => (?_ : WD _ _ 159 _ _ _ _ _ _)))
    refine x_aload_nP (some x1) d_Cl_lists_159 rfl (?_ : WD _ _ 160 _ _ _ _ _ _)
    refine x_aloadP (some x10) d_Cl_lists_160 rfl (?_ : WD _ _ 162 _ _ _ _ _ _)
    obtain ⟨k157, h⟩ := h
    refine x_callV (ν := M_Bo_certain) [vA x10] ok_M_Bo_certain okv_M_Bo_certain k157 rfl rfl (qm_5 (i := 185) rfl rfl) np_M_Bo_certain rfl ⟨Nat.le_of_ble_eq_true rfl, Nat.le_of_ble_eq_true rfl⟩ (Nat.le_of_ble_eq_true rfl) rfl d_Cl_lists_162 (Nat.zero_le _) (Nat.zero_le _) (DI.k h (fun v159 w158 gw158 h => (?_ : WD _ _ 165 _ _ _ _ _ _)))
    refine x_if_eq 174 d_Cl_lists_165 rfl ⟨fun c160 => (?_ : WD _ _ 174 _ _ _ _ _ _), fun c160 => (?_ : WD _ _ 168 _ _ _ _ _ _)⟩
    · replace h := h.1 c160
      obtain ⟨h161, h⟩ := h
      obtain ⟨h162, h⟩ := h
      refine x_new d_Cl_lists_174 clk_17 tyJ4_ok (qm_3 (i := 188) rfl rfl) (qm_3 (i := 189) rfl rfl) (qm_1 (i := 19) rfl rfl) hfd_17 h161 h162 (fun q163 fq163 => (?_ : WD _ _ 177 _ _ _ _ _ _))
      replace h := h q163 fq163
      have k164 : Ow (uN w158 q163 (kO 17)) q163 (kO 17) := Ow.nw
      refine x_dup d_Cl_lists_177 rfl (?_ : WD _ _ 178 _ _ _ _ _ _)
      obtain ⟨c165, s166, h167, h168, h⟩ := h
      refine x_callI (ν := M_Sb_init) [] ok_M_Sb_init oki_M_Sb_init rfl rfl (qm_3 (i := 190) rfl rfl) np_M_Sb_init rfl ⟨Nat.le_of_ble_eq_true rfl, Nat.le_of_ble_eq_true rfl⟩ (Nat.le_of_ble_eq_true rfl) rfl d_Cl_lists_178 h167 h168 (DV.k h (fun w169 gw169 h => (?_ : WD _ _ 181 _ _ _ _ _ _)))
      refine x_ldcwS (q := 278) (tx := "x") d_Cl_lists_181 (by decide) (?_ : WD _ _ 184 _ _ _ _ _ _)
      obtain ⟨c171, s172, h173, h174, h⟩ := h
      refine x_callV (ν := M_Sb_append_15ec4) [vA (xa G 278)] ok_M_Sb_append_15ec4 okv_M_Sb_append_15ec4 (k164.q gw169.k).is rfl rfl (qm_3 (i := 235) rfl rfl) np_M_Sb_append_15ec4 rfl ⟨Nat.le_of_ble_eq_true rfl, Nat.le_of_ble_eq_true rfl⟩ (Nat.le_of_ble_eq_true rfl) rfl d_Cl_lists_184 h173 h174 (DP.k h (fun v176 w175 gw175 h => (?_ : WD _ _ 187 _ _ _ _ _ _)))
      refine x_aload_nP (some x2) d_Cl_lists_187 rfl (?_ : WD _ _ 188 _ _ _ _ _ _)
      refine x_iload d_Cl_lists_188 rfl (?_ : WD _ _ 190 _ _ _ _ _ _)
      obtain ⟨c177, s178, h179, h180, h⟩ := h
      refine x_callS (ν := M_Cl_oftenOf) [vA x2, vI x9] ok_M_Cl_oftenOf oks_M_Cl_oftenOf (qm_6 (i := 200) rfl rfl) np_M_Cl_oftenOf rfl ⟨Nat.le_of_ble_eq_true rfl, Nat.le_of_ble_eq_true rfl⟩ (Nat.le_of_ble_eq_true rfl) rfl d_Cl_lists_190 h179 h180 (DI.k h (fun v182 w181 gw181 h => (?_ : WD _ _ 193 _ _ _ _ _ _)))
      obtain ⟨a183, e184, h⟩ := h
      rw [e184]
      obtain ⟨c185, s186, h187, h188, h⟩ := h
      obtain ⟨k189, h⟩ := h
      refine x_callV (ν := M_Sb_append_bf812) [vI v182] ok_M_Sb_append_bf812 okv_M_Sb_append_bf812 k189 rfl rfl (qm_4 (i := 100) rfl rfl) np_M_Sb_append_bf812 rfl ⟨Nat.le_of_ble_eq_true rfl, Nat.le_of_ble_eq_true rfl⟩ (Nat.le_of_ble_eq_true rfl) rfl d_Cl_lists_193 h187 h188 (DP.k h (fun v191 w190 gw190 h => (?_ : WD _ _ 196 _ _ _ _ _ _)))
      obtain ⟨a192, e193, h⟩ := h
      rw [e193]
      obtain ⟨c194, s195, h196, h197, h⟩ := h
      obtain ⟨k198, h⟩ := h
      refine x_callV (ν := M_Sb_toString) [] ok_M_Sb_toString okv_M_Sb_toString k198 rfl rfl (qm_4 (i := 182) rfl rfl) np_M_Sb_toString rfl ⟨Nat.le_of_ble_eq_true rfl, Nat.le_of_ble_eq_true rfl⟩ (Nat.le_of_ble_eq_true rfl) rfl d_Cl_lists_196 h196 h197 (DP.k h (fun v200 w199 gw199 h => (?_ : WD _ _ 199 _ _ _ _ _ _)))
      refine x_pick (ls' := [(0, vR 0), (1, vA x1), (2, vA x2), (3, vA x3), (4, vI x4), (5, vI x5), (6, vI x6), (7, vL (x7 + v103)), (9, vI x9), (10, vA x10)]) [1, 2, 3, 4, 5, 6, 7, 0, 8, 9] rfl ?_
      exact h
    · replace h := h.2 c160
      refine x_ldcwS (q := 276) (tx := "!") d_Cl_lists_168 (by decide) (?_ : WD _ _ 171 _ _ _ _ _ _)
      refine x_goto 199 d_Cl_lists_171 rfl ?_
      refine x_pick (ls' := [(0, vR 0), (1, vA x1), (2, vA x2), (3, vA x3), (4, vI x4), (5, vI x5), (6, vI x6), (7, vL (x7 + v103)), (9, vI x9), (10, vA x10)]) [1, 2, 3, 4, 5, 6, 7, 0, 8, 9] rfl ?_
      exact h
  · replace h := h.2 c100
    refine x_goto 317 d_Cl_lists_103 rfl ?_
    obtain ⟨h201, h⟩ := h
    refine x_iinc (ls' := [(9, vI (x9 + 1)), (0, vR 0), (1, vA x1), (2, vA x2), (3, vA x3), (4, vI x4), (5, vI x5), (6, vI x6), (7, vL x7), (10, vA x10)]) d_Cl_lists_317 rfl h201 (by decide) rfl (?_ : WD _ _ 320 _ _ _ _ _ _)
    refine x_goto 21 d_Cl_lists_320 rfl ?_
    refine x_pick (ls' := [(0, vR 0), (1, vA x1), (2, vA x2), (3, vP (some x3)), (4, vI x4), (5, vI x5), (6, vI x6), (7, vL x7), (9, vI (x9 + 1))]) [1, 2, 3, 4, 5, 6, 7, 8, 0] rfl ?_
    exact h
set_option maxRecDepth 20000 in
theorem l_Cl_lists_8 {G : Gq} {K : Int → Wd → Prop} {w : Wd} {rc rs : Nat} (x9 : Int) (h : CI M_Cs_covered [vR 0] (wS w) (fun v202 σ203 => (¬ v202 = x9 → K 0 (uS w σ203)) ∧ (v202 = x9 → K 1 (uS w σ203)))) : WD G M_Cl_lists 481 [(0, vR 0), (9, vI x9)] [] w rc rs (yI K) := by
  refine x_aload_n d_Cl_lists_481 rfl (?_ : WD _ _ 482 _ _ _ _ _ _)
  refine x_callC (ν := M_Cs_covered) (k := 0) [] ok_M_Cs_covered okv_M_Cs_covered (by decide) rfl rfl rfl (qm_10 (i := 13) rfl rfl) np_M_Cs_covered rfl ⟨Nat.le_of_ble_eq_true rfl, Nat.le_of_ble_eq_true rfl⟩ (Nat.le_of_ble_eq_true rfl) rfl d_Cl_lists_482 (CI.kd h (fun v202 σ203 h => (?_ : WD _ _ 485 _ _ _ _ _ _)))
  refine x_iload d_Cl_lists_485 rfl (?_ : WD _ _ 487 _ _ _ _ _ _)
  refine x_icmp_ne 494 d_Cl_lists_487 rfl ⟨fun c204 => (?_ : WD _ _ 494 _ _ _ _ _ _), fun c204 => (?_ : WD _ _ 490 _ _ _ _ _ _)⟩
  · replace h := h.1 c204
    refine x_iconst d_Cl_lists_494 (by decide) (?_ : WD _ _ 495 _ _ _ _ _ _)
    exact x_zreturn rfl d_Cl_lists_495 (by decide) h
  · replace h := h.2 c204
    refine x_iconst d_Cl_lists_490 (by decide) (?_ : WD _ _ 491 _ _ _ _ _ _)
    refine x_goto 495 d_Cl_lists_491 rfl ?_
    exact x_zreturn rfl d_Cl_lists_495 (by decide) h
set_option maxRecDepth 20000 in
theorem l_Cl_lists_4 {G : Gq} {K : Int → Wd → Prop} {w : Wd} {rc rs : Nat} (x1 : Nat) (x2 : Nat) (x3 : Nat) (x4 : Int) (x5 : Int) (x6 : Int) (x7 : Int) (x9 : Int) (x10 : Nat) (y0 : Option Nat) (y1 : Option Nat) (h : ∃ a205 : Nat, y1 = some a205 ∧ (∃ a207 : Nat, y0 = some a207 ∧ (∃ c209 s210 : Nat, c209 ≤ rc ∧ s210 ≤ rs ∧ ((Is G w a205 (kO 17)) ∧ DP G M_Sb_append_15ec4 [vA a205, vA a207] w c209 s210 (fun v215 w214 => (Is G w214 x10 (kO 13)) ∧ (0 ≤ (wI w214 x10 3) → (1 ≤ (rc - c209)) ∧ (4 ≤ (rs - s210)) ∧ ∀ q220 : Nat, Fr G w214 q220 → (∃ c222 s223 : Nat, c222 ≤ ((rc - c209) - 1) ∧ s223 ≤ ((rs - s210) - 4) ∧ (DV G M_Sb_init [vA q220] (uN w214 q220 (kO 17)) c222 s223 (fun w226 => ∃ c228 s229 : Nat, c228 ≤ (((rc - c209) - 1) - c222) ∧ s229 ≤ (((rs - s210) - 4) - s223) ∧ (DP G M_Sb_append_15ec4 [vA q220, vA (xa G 282)] w226 c228 s229 (fun v233 w232 => ∃ a234 : Nat, v233 = some a234 ∧ (∃ c236 s237 : Nat, c236 ≤ ((((rc - c209) - 1) - c222) - c228) ∧ s237 ≤ ((((rs - s210) - 4) - s223) - s229) ∧ ((Is G w232 a234 (kO 17)) ∧ DP G M_Sb_append_bf812 [vA a234, vI (wI w232 x10 3)] w232 c236 s237 (fun v242 w241 => ∃ a243 : Nat, v242 = some a243 ∧ (∃ c245 s246 : Nat, c245 ≤ (((((rc - c209) - 1) - c222) - c228) - c236) ∧ s246 ≤ (((((rs - s210) - 4) - s223) - s229) - s237) ∧ ((Is G w241 a243 (kO 17)) ∧ DP G M_Sb_toString [vA a243] w241 c245 s246 (fun v251 w250 => WD G M_Cl_lists 240 [(0, vR 0), (1, vA x1), (2, vA x2), (3, vA x3), (4, vI x4), (5, vI x5), (6, vI x6), (7, vL x7), (9, vI x9)] [vP v251, vP v215] w250 ((((((rc - c209) - 1) - c222) - c228) - c236) - c245) ((((((rs - s210) - 4) - s223) - s229) - s237) - s246) (yI K))))))))))))) ∧ (¬ 0 ≤ (wI w214 x10 3) → WD G M_Cl_lists 240 [(0, vR 0), (1, vA x1), (2, vA x2), (3, vA x3), (4, vI x4), (5, vI x5), (6, vI x6), (7, vL x7), (9, vI x9)] [vP (some (xa G 280)), vP v215] w214 (rc - c209) (rs - s210) (yI K))))))) : WD G M_Cl_lists 199 [(0, vR 0), (1, vA x1), (2, vA x2), (3, vA x3), (4, vI x4), (5, vI x5), (6, vI x6), (7, vL x7), (9, vI x9), (10, vA x10)] [vP y0, vP y1] w rc rs (yI K) := by
  obtain ⟨a205, e206, h⟩ := h
  rw [e206]
  obtain ⟨a207, e208, h⟩ := h
  rw [e208]
  obtain ⟨c209, s210, h211, h212, h⟩ := h
  obtain ⟨k213, h⟩ := h
  refine x_callV (ν := M_Sb_append_15ec4) [vA a207] ok_M_Sb_append_15ec4 okv_M_Sb_append_15ec4 k213 rfl rfl (qm_3 (i := 235) rfl rfl) np_M_Sb_append_15ec4 rfl ⟨Nat.le_of_ble_eq_true rfl, Nat.le_of_ble_eq_true rfl⟩ (Nat.le_of_ble_eq_true rfl) rfl d_Cl_lists_199 h211 h212 (DP.k h (fun v215 w214 gw214 h => (?_ : WD _ _ 202 _ _ _ _ _ _)))
  refine x_aloadP (some x10) d_Cl_lists_202 rfl (?_ : WD _ _ 204 _ _ _ _ _ _)
  obtain ⟨k216, h⟩ := h
  refine x_getI (ref := "CoinSamplerLaw$Item") (j := 3) 3 k216 clk_13 (by decide) (qm_4 (i := 159) rfl rfl) (Or.inl rfl) rfl rfl d_Cl_lists_204 (y := (wI w214 x10 3)) rfl (?_ : WD _ _ 207 _ _ _ _ _ _)
  refine x_if_ge 216 d_Cl_lists_207 rfl ⟨fun c217 => (?_ : WD _ _ 216 _ _ _ _ _ _), fun c217 => (?_ : WD _ _ 210 _ _ _ _ _ _)⟩
  · replace h := h.1 c217
    obtain ⟨h218, h⟩ := h
    obtain ⟨h219, h⟩ := h
    refine x_new d_Cl_lists_216 clk_17 tyJ4_ok (qm_3 (i := 188) rfl rfl) (qm_3 (i := 189) rfl rfl) (qm_1 (i := 19) rfl rfl) hfd_17 h218 h219 (fun q220 fq220 => (?_ : WD _ _ 219 _ _ _ _ _ _))
    replace h := h q220 fq220
    have k221 : Ow (uN w214 q220 (kO 17)) q220 (kO 17) := Ow.nw
    refine x_dup d_Cl_lists_219 rfl (?_ : WD _ _ 220 _ _ _ _ _ _)
    obtain ⟨c222, s223, h224, h225, h⟩ := h
    refine x_callI (ν := M_Sb_init) [] ok_M_Sb_init oki_M_Sb_init rfl rfl (qm_3 (i := 190) rfl rfl) np_M_Sb_init rfl ⟨Nat.le_of_ble_eq_true rfl, Nat.le_of_ble_eq_true rfl⟩ (Nat.le_of_ble_eq_true rfl) rfl d_Cl_lists_220 h224 h225 (DV.k h (fun w226 gw226 h => (?_ : WD _ _ 223 _ _ _ _ _ _)))
    refine x_ldcwS (q := 282) (tx := " =") d_Cl_lists_223 (by decide) (?_ : WD _ _ 226 _ _ _ _ _ _)
    obtain ⟨c228, s229, h230, h231, h⟩ := h
    refine x_callV (ν := M_Sb_append_15ec4) [vA (xa G 282)] ok_M_Sb_append_15ec4 okv_M_Sb_append_15ec4 (k221.q gw226.k).is rfl rfl (qm_3 (i := 235) rfl rfl) np_M_Sb_append_15ec4 rfl ⟨Nat.le_of_ble_eq_true rfl, Nat.le_of_ble_eq_true rfl⟩ (Nat.le_of_ble_eq_true rfl) rfl d_Cl_lists_226 h230 h231 (DP.k h (fun v233 w232 gw232 h => (?_ : WD _ _ 229 _ _ _ _ _ _)))
    refine x_aloadP (some x10) d_Cl_lists_229 rfl (?_ : WD _ _ 231 _ _ _ _ _ _)
    refine x_getI (ref := "CoinSamplerLaw$Item") (j := 3) 3 (((k216.nu fq220).q gw226.k).q gw232.k) clk_13 (by decide) (qm_4 (i := 159) rfl rfl) (Or.inl rfl) rfl rfl d_Cl_lists_231 (y := (wI w232 x10 3)) rfl (?_ : WD _ _ 234 _ _ _ _ _ _)
    obtain ⟨a234, e235, h⟩ := h
    rw [e235]
    obtain ⟨c236, s237, h238, h239, h⟩ := h
    obtain ⟨k240, h⟩ := h
    refine x_callV (ν := M_Sb_append_bf812) [vI (wI w232 x10 3)] ok_M_Sb_append_bf812 okv_M_Sb_append_bf812 k240 rfl rfl (qm_4 (i := 100) rfl rfl) np_M_Sb_append_bf812 rfl ⟨Nat.le_of_ble_eq_true rfl, Nat.le_of_ble_eq_true rfl⟩ (Nat.le_of_ble_eq_true rfl) rfl d_Cl_lists_234 h238 h239 (DP.k h (fun v242 w241 gw241 h => (?_ : WD _ _ 237 _ _ _ _ _ _)))
    obtain ⟨a243, e244, h⟩ := h
    rw [e244]
    obtain ⟨c245, s246, h247, h248, h⟩ := h
    obtain ⟨k249, h⟩ := h
    refine x_callV (ν := M_Sb_toString) [] ok_M_Sb_toString okv_M_Sb_toString k249 rfl rfl (qm_4 (i := 182) rfl rfl) np_M_Sb_toString rfl ⟨Nat.le_of_ble_eq_true rfl, Nat.le_of_ble_eq_true rfl⟩ (Nat.le_of_ble_eq_true rfl) rfl d_Cl_lists_237 h247 h248 (DP.k h (fun v251 w250 gw250 h => (?_ : WD _ _ 240 _ _ _ _ _ _)))
    refine x_pick (ls' := [(0, vR 0), (1, vA x1), (2, vA x2), (3, vA x3), (4, vI x4), (5, vI x5), (6, vI x6), (7, vL x7), (9, vI x9)]) [0, 1, 2, 3, 4, 5, 6, 7, 8] rfl ?_
    exact h
  · replace h := h.2 c217
    refine x_ldcwS (q := 280) (tx := "") d_Cl_lists_210 (by decide) (?_ : WD _ _ 213 _ _ _ _ _ _)
    refine x_goto 240 d_Cl_lists_213 rfl ?_
    refine x_pick (ls' := [(0, vR 0), (1, vA x1), (2, vA x2), (3, vA x3), (4, vI x4), (5, vI x5), (6, vI x6), (7, vL x7), (9, vI x9)]) [0, 1, 2, 3, 4, 5, 6, 7, 8] rfl ?_
    exact h
set_option maxRecDepth 20000 in
theorem l_Cl_lists_5 {G : Gq} {K : Int → Wd → Prop} {w : Wd} {rc rs : Nat} (x1 : Nat) (x2 : Nat) (x3 : Nat) (x4 : Int) (x5 : Int) (x6 : Int) (x7 : Int) (x9 : Int) (y0 : Option Nat) (y1 : Option Nat) (h : ∃ a252 : Nat, y1 = some a252 ∧ (∃ a254 : Nat, y0 = some a254 ∧ (∃ c256 s257 : Nat, c256 ≤ rc ∧ s257 ≤ rs ∧ ((Is G w a252 (kO 17)) ∧ DP G M_Sb_append_15ec4 [vA a252, vA a254] w c256 s257 (fun v262 w261 => ∃ a263 : Nat, v262 = some a263 ∧ (∃ c265 s266 : Nat, c265 ≤ (rc - c256) ∧ s266 ≤ (rs - s257) ∧ ((Is G w261 a263 (kO 17)) ∧ DP G M_Sb_toString [vA a263] w261 c265 s266 (fun v271 w270 => CI M_Cs_drawn [vR 0, vI x6] (wS w270) (fun v272 σ273 => (v272 = x9 → WD G M_Cl_lists 264 [(0, vR 0), (1, vA x1), (2, vA x2), (3, vA x3), (4, vI x4), (5, vI x5), (6, vI x6), (7, vL x7), (9, vI x9), (11, vP v271), (12, vI 0)] [] (uS w270 σ273) ((rc - c256) - c265) ((rs - s257) - s266) (yI K)) ∧ (¬ v272 = x9 → K 0 (uS w270 σ273))))))))))) : WD G M_Cl_lists 240 [(0, vR 0), (1, vA x1), (2, vA x2), (3, vA x3), (4, vI x4), (5, vI x5), (6, vI x6), (7, vL x7), (9, vI x9)] [vP y0, vP y1] w rc rs (yI K) := by
  obtain ⟨a252, e253, h⟩ := h
  rw [e253]
  obtain ⟨a254, e255, h⟩ := h
  rw [e255]
  obtain ⟨c256, s257, h258, h259, h⟩ := h
  obtain ⟨k260, h⟩ := h
  refine x_callV (ν := M_Sb_append_15ec4) [vA a254] ok_M_Sb_append_15ec4 okv_M_Sb_append_15ec4 k260 rfl rfl (qm_3 (i := 235) rfl rfl) np_M_Sb_append_15ec4 rfl ⟨Nat.le_of_ble_eq_true rfl, Nat.le_of_ble_eq_true rfl⟩ (Nat.le_of_ble_eq_true rfl) rfl d_Cl_lists_240 h258 h259 (DP.k h (fun v262 w261 gw261 h => (?_ : WD _ _ 243 _ _ _ _ _ _)))
  obtain ⟨a263, e264, h⟩ := h
  rw [e264]
  obtain ⟨c265, s266, h267, h268, h⟩ := h
  obtain ⟨k269, h⟩ := h
  refine x_callV (ν := M_Sb_toString) [] ok_M_Sb_toString okv_M_Sb_toString k269 rfl rfl (qm_4 (i := 182) rfl rfl) np_M_Sb_toString rfl ⟨Nat.le_of_ble_eq_true rfl, Nat.le_of_ble_eq_true rfl⟩ (Nat.le_of_ble_eq_true rfl) rfl d_Cl_lists_243 h267 h268 (DP.k h (fun v271 w270 gw270 h => (?_ : WD _ _ 246 _ _ _ _ _ _)))
  refine x_astoreP v271 (ls' := [(11, vP v271), (0, vR 0), (1, vA x1), (2, vA x2), (3, vA x3), (4, vI x4), (5, vI x5), (6, vI x6), (7, vL x7), (9, vI x9)]) d_Cl_lists_246 (by decide) rfl (?_ : WD _ _ 248 _ _ _ _ _ _)
  refine x_aload_n d_Cl_lists_248 rfl (?_ : WD _ _ 249 _ _ _ _ _ _)
  refine x_iload d_Cl_lists_249 rfl (?_ : WD _ _ 251 _ _ _ _ _ _)
  refine x_callC (ν := M_Cs_drawn) (k := 0) [vI x6] ok_M_Cs_drawn okv_M_Cs_drawn (by decide) rfl rfl rfl (qm_9 (i := 227) rfl rfl) np_M_Cs_drawn rfl ⟨Nat.le_of_ble_eq_true rfl, Nat.le_of_ble_eq_true rfl⟩ (Nat.le_of_ble_eq_true rfl) rfl d_Cl_lists_251 (CI.kd h (fun v272 σ273 h => (?_ : WD _ _ 254 _ _ _ _ _ _)))
  refine x_iload d_Cl_lists_254 rfl (?_ : WD _ _ 256 _ _ _ _ _ _)
  refine x_icmp_eq 261 d_Cl_lists_256 rfl ⟨fun c274 => (?_ : WD _ _ 261 _ _ _ _ _ _), fun c274 => (?_ : WD _ _ 259 _ _ _ _ _ _)⟩
  · replace h := h.1 c274
    refine x_iconst d_Cl_lists_261 (by decide) (?_ : WD _ _ 262 _ _ _ _ _ _)
    refine x_istore (ls' := [(12, vI 0), (11, vP v271), (0, vR 0), (1, vA x1), (2, vA x2), (3, vA x3), (4, vI x4), (5, vI x5), (6, vI x6), (7, vL x7), (9, vI x9)]) d_Cl_lists_262 (by decide) rfl (?_ : WD _ _ 264 _ _ _ _ _ _)
    refine x_pick (ls' := [(0, vR 0), (1, vA x1), (2, vA x2), (3, vA x3), (4, vI x4), (5, vI x5), (6, vI x6), (7, vL x7), (9, vI x9), (11, vP v271), (12, vI 0)]) [2, 3, 4, 5, 6, 7, 8, 9, 10, 1, 0] rfl ?_
    exact h
  · replace h := h.2 c274
    refine x_iconst d_Cl_lists_259 (by decide) (?_ : WD _ _ 260 _ _ _ _ _ _)
    exact x_zreturn rfl d_Cl_lists_260 (by decide) h
set_option maxRecDepth 20000 in
theorem l_Cl_lists_6 {G : Gq} {K : Int → Wd → Prop} {w : Wd} {rc rs : Nat} (x1 : Nat) (x2 : Nat) (x3 : Nat) (x4 : Int) (x5 : Int) (x6 : Int) (x7 : Int) (x9 : Int) (x11 : Option Nat) (x12 : Int) (h : ∃ a275 : Nat, x11 = some a275 ∧ ((Is G w a275 (kO 18)) ∧ DI G M_Sg_length [vA a275] w 0 0 (fun v279 w278 => (v279 < x12 → (inR (x6 + 1)) ∧ (inR (x9 + 1)) ∧ WD G M_Cl_lists 21 [(0, vR 0), (1, vA x1), (2, vA x2), (3, vP (some x3)), (4, vI x4), (5, vI x5), (6, vI (x6 + 1)), (7, vL x7), (9, vI (x9 + 1))] [] w278 rc rs (yI K)) ∧ (¬ v279 < x12 → CI M_Cs_line [vR 0, vI x6, vI x12] (wS w278) (fun v283 σ284 => DI G M_Sg_length [vA a275] (uS w278 σ284) 0 0 (fun v286 w285 => (v286 ≤ x12 → (v283 = (-1) → (inR (x12 + 1)) ∧ WD G M_Cl_lists 264 [(0, vR 0), (1, vA x1), (2, vA x2), (3, vA x3), (4, vI x4), (5, vI x5), (6, vI x6), (7, vL x7), (9, vI x9), (11, vP (some a275)), (12, vI (x12 + 1))] [] w285 rc rs (yI K)) ∧ (¬ v283 = (-1) → K 0 w285)) ∧ (¬ v286 ≤ x12 → DI G M_Sg_charAt [vA a275, vI x12] w285 0 0 (fun v291 w290 => (v283 = v291 → (inR (x12 + 1)) ∧ WD G M_Cl_lists 264 [(0, vR 0), (1, vA x1), (2, vA x2), (3, vA x3), (4, vI x4), (5, vI x5), (6, vI x6), (7, vL x7), (9, vI x9), (11, vP (some a275)), (12, vI (x12 + 1))] [] w290 rc rs (yI K)) ∧ (¬ v283 = v291 → K 0 w290))))))))) : WD G M_Cl_lists 264 [(0, vR 0), (1, vA x1), (2, vA x2), (3, vA x3), (4, vI x4), (5, vI x5), (6, vI x6), (7, vL x7), (9, vI x9), (11, vP x11), (12, vI x12)] [] w rc rs (yI K) := by
  refine x_iload d_Cl_lists_264 rfl (?_ : WD _ _ 266 _ _ _ _ _ _)
  refine x_aloadP x11 d_Cl_lists_266 rfl (?_ : WD _ _ 268 _ _ _ _ _ _)
  obtain ⟨a275, e276, h⟩ := h
  rw [e276]
  obtain ⟨k277, h⟩ := h
  refine x_callV (ν := M_Sg_length) [] ok_M_Sg_length okv_M_Sg_length k277 rfl rfl (qm_5 (i := 115) rfl rfl) np_M_Sg_length rfl ⟨Nat.le_of_ble_eq_true rfl, Nat.le_of_ble_eq_true rfl⟩ (Nat.le_of_ble_eq_true rfl) rfl d_Cl_lists_268 (Nat.zero_le _) (Nat.zero_le _) (DI.k h (fun v279 w278 gw278 h => (?_ : WD _ _ 271 _ _ _ _ _ _)))
  refine x_icmp_gt 314 d_Cl_lists_271 rfl ⟨fun c280 => (?_ : WD _ _ 314 _ _ _ _ _ _), fun c280 => (?_ : WD _ _ 274 _ _ _ _ _ _)⟩
  · replace h := h.1 c280
    obtain ⟨h281, h⟩ := h
    refine x_iinc (ls' := [(6, vI (x6 + 1)), (0, vR 0), (1, vA x1), (2, vA x2), (3, vA x3), (4, vI x4), (5, vI x5), (7, vL x7), (9, vI x9), (11, vA a275), (12, vI x12)]) d_Cl_lists_314 rfl h281 (by decide) rfl (?_ : WD _ _ 317 _ _ _ _ _ _)
    obtain ⟨h282, h⟩ := h
    refine x_iinc (ls' := [(9, vI (x9 + 1)), (6, vI (x6 + 1)), (0, vR 0), (1, vA x1), (2, vA x2), (3, vA x3), (4, vI x4), (5, vI x5), (7, vL x7), (11, vA a275), (12, vI x12)]) d_Cl_lists_317 rfl h282 (by decide) rfl (?_ : WD _ _ 320 _ _ _ _ _ _)
    refine x_goto 21 d_Cl_lists_320 rfl ?_
    refine x_pick (ls' := [(0, vR 0), (1, vA x1), (2, vA x2), (3, vP (some x3)), (4, vI x4), (5, vI x5), (6, vI (x6 + 1)), (7, vL x7), (9, vI (x9 + 1))]) [2, 3, 4, 5, 6, 7, 1, 8, 0] rfl ?_
    exact h
  · replace h := h.2 c280
    refine x_aload_n d_Cl_lists_274 rfl (?_ : WD _ _ 275 _ _ _ _ _ _)
    refine x_iload d_Cl_lists_275 rfl (?_ : WD _ _ 277 _ _ _ _ _ _)
    refine x_iload d_Cl_lists_277 rfl (?_ : WD _ _ 279 _ _ _ _ _ _)
    refine x_callC (ν := M_Cs_line) (k := 0) [vI x6, vI x12] ok_M_Cs_line okv_M_Cs_line (by decide) rfl rfl rfl (qm_9 (i := 231) rfl rfl) np_M_Cs_line rfl ⟨Nat.le_of_ble_eq_true rfl, Nat.le_of_ble_eq_true rfl⟩ (Nat.le_of_ble_eq_true rfl) rfl d_Cl_lists_279 (CI.kd h (fun v283 σ284 h => (?_ : WD _ _ 282 _ _ _ _ _ _)))
    refine x_iload d_Cl_lists_282 rfl (?_ : WD _ _ 284 _ _ _ _ _ _)
    refine x_aloadP (some a275) d_Cl_lists_284 rfl (?_ : WD _ _ 286 _ _ _ _ _ _)
    refine x_callV (ν := M_Sg_length) [] ok_M_Sg_length okv_M_Sg_length (k277.q gw278.k) rfl rfl (qm_5 (i := 115) rfl rfl) np_M_Sg_length rfl ⟨Nat.le_of_ble_eq_true rfl, Nat.le_of_ble_eq_true rfl⟩ (Nat.le_of_ble_eq_true rfl) rfl d_Cl_lists_286 (Nat.zero_le _) (Nat.zero_le _) (DI.k h (fun v286 w285 gw285 h => (?_ : WD _ _ 289 _ _ _ _ _ _)))
    refine x_icmp_ge 302 d_Cl_lists_289 rfl ⟨fun c287 => (?_ : WD _ _ 302 _ _ _ _ _ _), fun c287 => (?_ : WD _ _ 292 _ _ _ _ _ _)⟩
    · replace h := h.1 c287
      refine x_iconst d_Cl_lists_302 (by decide) (?_ : WD _ _ 303 _ _ _ _ _ _)
      refine x_icmp_eq 308 d_Cl_lists_303 rfl ⟨fun c288 => (?_ : WD _ _ 308 _ _ _ _ _ _), fun c288 => (?_ : WD _ _ 306 _ _ _ _ _ _)⟩
      · replace h := h.1 c288
        obtain ⟨h289, h⟩ := h
        refine x_iinc (ls' := [(12, vI (x12 + 1)), (0, vR 0), (1, vA x1), (2, vA x2), (3, vA x3), (4, vI x4), (5, vI x5), (6, vI x6), (7, vL x7), (9, vI x9), (11, vA a275)]) d_Cl_lists_308 rfl h289 (by decide) rfl (?_ : WD _ _ 311 _ _ _ _ _ _)
        refine x_goto 264 d_Cl_lists_311 rfl ?_
        refine x_pick (ls' := [(0, vR 0), (1, vA x1), (2, vA x2), (3, vA x3), (4, vI x4), (5, vI x5), (6, vI x6), (7, vL x7), (9, vI x9), (11, vP (some a275)), (12, vI (x12 + 1))]) [1, 2, 3, 4, 5, 6, 7, 8, 9, 10, 0] rfl ?_
        exact h
      · replace h := h.2 c288
        refine x_iconst d_Cl_lists_306 (by decide) (?_ : WD _ _ 307 _ _ _ _ _ _)
        exact x_zreturn rfl d_Cl_lists_307 (by decide) h
    · replace h := h.2 c287
      refine x_aloadP (some a275) d_Cl_lists_292 rfl (?_ : WD _ _ 294 _ _ _ _ _ _)
      refine x_iload d_Cl_lists_294 rfl (?_ : WD _ _ 296 _ _ _ _ _ _)
      refine x_callV (ν := M_Sg_charAt) [vI x12] ok_M_Sg_charAt okv_M_Sg_charAt ((k277.q gw278.k).q gw285.k) rfl rfl (qm_5 (i := 116) rfl rfl) np_M_Sg_charAt rfl ⟨Nat.le_of_ble_eq_true rfl, Nat.le_of_ble_eq_true rfl⟩ (Nat.le_of_ble_eq_true rfl) rfl d_Cl_lists_296 (Nat.zero_le _) (Nat.zero_le _) (DI.k h (fun v291 w290 gw290 h => (?_ : WD _ _ 299 _ _ _ _ _ _)))
      refine x_goto 303 d_Cl_lists_299 rfl ?_
      refine x_icmp_eq 308 d_Cl_lists_303 rfl ⟨fun c292 => (?_ : WD _ _ 308 _ _ _ _ _ _), fun c292 => (?_ : WD _ _ 306 _ _ _ _ _ _)⟩
      · replace h := h.1 c292
        obtain ⟨h293, h⟩ := h
        refine x_iinc (ls' := [(12, vI (x12 + 1)), (0, vR 0), (1, vA x1), (2, vA x2), (3, vA x3), (4, vI x4), (5, vI x5), (6, vI x6), (7, vL x7), (9, vI x9), (11, vA a275)]) d_Cl_lists_308 rfl h293 (by decide) rfl (?_ : WD _ _ 311 _ _ _ _ _ _)
        refine x_goto 264 d_Cl_lists_311 rfl ?_
        refine x_pick (ls' := [(0, vR 0), (1, vA x1), (2, vA x2), (3, vA x3), (4, vI x4), (5, vI x5), (6, vI x6), (7, vL x7), (9, vI x9), (11, vP (some a275)), (12, vI (x12 + 1))]) [1, 2, 3, 4, 5, 6, 7, 8, 9, 10, 0] rfl ?_
        exact h
      · replace h := h.2 c292
        refine x_iconst d_Cl_lists_306 (by decide) (?_ : WD _ _ 307 _ _ _ _ _ _)
        exact x_zreturn rfl d_Cl_lists_307 (by decide) h
set_option maxRecDepth 20000 in
theorem e_Cl_makes {G : Gq} {K : Int → Wd → Prop} {w : Wd} {mc ms : Nat} (x1 : Nat) (x2 : Nat) (h : (Is G w x1 (kO 11)) ∧ ∃ a2 : Nat, (wR w x1 1) = some a2 ∧ ((Is G w a2 (kO 14)) ∧ DI G M_Al_size [vA a2] w 0 0 (fun v6 w5 => (Is G w5 x2 (kO 14)) ∧ DI G M_Al_size [vA x2] w5 0 0 (fun v9 w8 => CI M_Cs_lacking [vR 0, vI (-1)] (wS w8) (fun v10 σ11 => (¬ v6 = 0 → ∃ c13 s14 : Nat, c13 ≤ mc ∧ s14 ≤ ms ∧ (DI G M_Bo_projected [vA x1, vA x2, vI v6, vI 1] (uS w8 σ11) c13 s14 (fun v18 w17 => ∃ c19 s20 : Nat, c19 ≤ (mc - c13) ∧ s20 ≤ (ms - s14) ∧ (DI G M_Bo_projected [vA x1, vA x2, vI v6, vI (-1)] w17 c19 s20 (fun v24 w23 => ∃ c25 s26 : Nat, c25 ≤ ((mc - c13) - c19) ∧ s26 ≤ ((ms - s14) - s20) ∧ (DI G M_Bo_known [vA x1, vI 1] w23 c25 s26 (fun v30 w29 => ∃ c31 s32 : Nat, c31 ≤ (((mc - c13) - c19) - c25) ∧ s32 ≤ (((ms - s14) - s20) - s26) ∧ (DI G M_Bo_known [vA x1, vI (-1)] w29 c31 s32 (fun v36 w35 => ∃ c37 s38 : Nat, c37 ≤ ((((mc - c13) - c19) - c25) - c31) ∧ s38 ≤ ((((ms - s14) - s20) - s26) - s32) ∧ (DI G M_Bo_bound [vA x1, vI 1, vI v6, vI 0] w35 c37 s38 (fun v42 w41 => CI M_Cs_projected [vR 0, vI 0] (wS w41) (fun v43 σ44 => (¬ v43 = v18 → K 0 (uS w41 σ44)) ∧ (v43 = v18 → CI M_Cs_projected [vR 0, vI 1] (wS (uS w41 σ44)) (fun v46 σ47 => (¬ v46 = v24 → K 0 (uS (uS w41 σ44) σ47)) ∧ (v46 = v24 → CI M_Cs_projected [vR 0, vI 2] (wS (uS (uS w41 σ44) σ47)) (fun v49 σ50 => (¬ v49 = v30 → K 0 (uS (uS (uS w41 σ44) σ47) σ50)) ∧ (v49 = v30 → CI M_Cs_projected [vR 0, vI 3] (wS (uS (uS (uS w41 σ44) σ47) σ50)) (fun v52 σ53 => (¬ v52 = v36 → K 0 (uS (uS (uS (uS w41 σ44) σ47) σ50) σ53)) ∧ (v52 = v36 → CI M_Cs_projected [vR 0, vI 4] (wS (uS (uS (uS (uS w41 σ44) σ47) σ50) σ53)) (fun v55 σ56 => (inR (v18 + v30)) ∧ (inR ((v18 + v30) - v24)) ∧ (inR (((v18 + v30) - v24) - v36)) ∧ (¬ v55 = (((v18 + v30) - v24) - v36) → K 0 (uS (uS (uS (uS (uS w41 σ44) σ47) σ50) σ53) σ56)) ∧ (v55 = (((v18 + v30) - v24) - v36) → CI M_Cs_projected [vR 0, vI 5] (wS (uS (uS (uS (uS (uS w41 σ44) σ47) σ50) σ53) σ56)) (fun v61 σ62 => (v61 = (-10000000) → CI M_Cs_bound [vR 0, vI 0] (wS (uS (uS (uS (uS (uS (uS w41 σ44) σ47) σ50) σ53) σ56) σ62)) (fun v64 σ65 => ∃ c66 s67 : Nat, c66 ≤ (((((mc - c13) - c19) - c25) - c31) - c37) ∧ s67 ≤ (((((ms - s14) - s20) - s26) - s32) - s38) ∧ (DI G M_Bo_basic [vA x1, vI v9] (uS (uS (uS (uS (uS (uS (uS w41 σ44) σ47) σ50) σ53) σ56) σ62) σ65) c66 s67 (fun v71 w70 => (¬ v64 = v71 → K 0 w70) ∧ (v64 = v71 → CI M_Cs_bound [vR 0, vI 1] (wS w70) (fun v73 σ74 => ∃ c75 s76 : Nat, c75 ≤ ((((((mc - c13) - c19) - c25) - c31) - c37) - c66) ∧ s76 ≤ ((((((ms - s14) - s20) - s26) - s32) - s38) - s67) ∧ (DI G M_Bo_rises [vA x1, vA x2, vI 1, vI v9] (uS w70 σ74) c75 s76 (fun v80 w79 => (¬ v73 = v80 → K 0 w79) ∧ (v73 = v80 → CI M_Cs_bound [vR 0, vI 2] (wS w79) (fun v82 σ83 => (¬ v82 = v30 → K 0 (uS w79 σ83)) ∧ (v82 = v30 → CI M_Cs_bound [vR 0, vI 3] (wS (uS w79 σ83)) (fun v85 σ86 => (¬ v85 = v42 → K 0 (uS (uS w79 σ83) σ86)) ∧ (v85 = v42 → CI M_Cs_bound [vR 0, vI 4] (wS (uS (uS w79 σ83) σ86)) (fun v88 σ89 => ∃ a90 : Nat, (wR w79 x1 2) = some a90 ∧ (∃ n92 : Nat, ((Is G (uS (uS (uS w79 σ83) σ86) σ89) a90 (kA 0 n92)) ∧ (0 < (n92 : Int)) ∧ (inR ((wI w79 a90 0) - v42)) ∧ (¬ v88 = ((wI w79 a90 0) - v42) → K 0 (uS (uS (uS w79 σ83) σ86) σ89)) ∧ (v88 = ((wI w79 a90 0) - v42) → CI M_Cs_bound [vR 0, vI 5] (wS (uS (uS (uS w79 σ83) σ86) σ89)) (fun v97 σ98 => (v97 = (-10000000) → CI M_Cs_below [vR 0, vI 0] (wS (uS (uS (uS (uS w79 σ83) σ86) σ89) σ98)) (fun v100 σ101 => ∃ c102 s103 : Nat, c102 ≤ (((((((mc - c13) - c19) - c25) - c31) - c37) - c66) - c75) ∧ s103 ≤ (((((((ms - s14) - s20) - s26) - s32) - s38) - s67) - s76) ∧ (DI G M_Bo_basic [vA x1, vI v9] (uS (uS (uS (uS (uS w79 σ83) σ86) σ89) σ98) σ101) c102 s103 (fun v107 w106 => (¬ v100 = v107 → K 0 w106) ∧ (v100 = v107 → CI M_Cs_below [vR 0, vI 1] (wS w106) (fun v109 σ110 => ∃ c111 s112 : Nat, c111 ≤ ((((((((mc - c13) - c19) - c25) - c31) - c37) - c66) - c75) - c102) ∧ s112 ≤ ((((((((ms - s14) - s20) - s26) - s32) - s38) - s67) - s76) - s103) ∧ (DI G M_Bo_rises [vA x1, vA x2, vI (-1), vI v9] (uS w106 σ110) c111 s112 (fun v116 w115 => (¬ v109 = v116 → K 0 w115) ∧ (v109 = v116 → CI M_Cs_below [vR 0, vI 2] (wS w115) (fun v118 σ119 => (¬ v118 = v36 → K 0 (uS w115 σ119)) ∧ (v118 = v36 → CI M_Cs_below [vR 0, vI 3] (wS (uS w115 σ119)) (fun v121 σ122 => ∃ c123 s124 : Nat, c123 ≤ (((((((((mc - c13) - c19) - c25) - c31) - c37) - c66) - c75) - c102) - c111) ∧ s124 ≤ (((((((((ms - s14) - s20) - s26) - s32) - s38) - s67) - s76) - s103) - s112) ∧ (DI G M_Bo_bound [vA x1, vI (-1), vI v6, vI 0] (uS (uS w115 σ119) σ122) c123 s124 (fun v128 w127 => (¬ v121 = v128 → K 0 w127) ∧ (v121 = v128 → CI M_Cs_below [vR 0, vI 4] (wS w127) (fun v130 σ131 => (v130 = (-10000000) → ∃ c133 s134 : Nat, c133 ≤ ((((((((((mc - c13) - c19) - c25) - c31) - c37) - c66) - c75) - c102) - c111) - c123) ∧ s134 ≤ ((((((((((ms - s14) - s20) - s26) - s32) - s38) - s67) - s76) - s103) - s112) - s124) ∧ (DP G M_Bo_ranked [vA x1, vA x2, vI 1] (uS w127 σ131) c133 s134 (fun v138 w137 => ∃ c139 s140 : Nat, c139 ≤ (((((((((((mc - c13) - c19) - c25) - c31) - c37) - c66) - c75) - c102) - c111) - c123) - c133) ∧ s140 ≤ (((((((((((ms - s14) - s20) - s26) - s32) - s38) - s67) - s76) - s103) - s112) - s124) - s134) ∧ (DP G M_Bo_owners [vA x1] w137 c139 s140 (fun v144 w143 => ∃ a145 : Nat, v144 = some a145 ∧ (∃ n147 : Nat, ((Is G w143 a145 (kA 0 n147)) ∧ (inR (n147 : Int)) ∧ WD G M_Cl_makes 355 [(0, vR 0), (1, vA x1), (2, vA x2), (4, vI v9), (5, vI v10), (10, vI v42), (11, vP v138), (12, vI (n147 : Int)), (13, vI 0)] [] w143 ((((((((((((mc - c13) - c19) - c25) - c31) - c37) - c66) - c75) - c102) - c111) - c123) - c133) - c139) ((((((((((((ms - s14) - s20) - s26) - s32) - s38) - s67) - s76) - s103) - s112) - s124) - s134) - s140) (yI K)))))))) ∧ (¬ v130 = (-10000000) → K 0 (uS w127 σ131)))))))))))))))))) ∧ (¬ v97 = (-10000000) → K 0 (uS (uS (uS (uS w79 σ83) σ86) σ89) σ98)))))))))))))))))))) ∧ (¬ v61 = (-10000000) → K 0 (uS (uS (uS (uS (uS (uS w41 σ44) σ47) σ50) σ53) σ56) σ62)))))))))))))))))))))))) ∧ (v6 = 0 → CI M_Cs_projected [vR 0, vI 0] (wS (uS w8 σ11)) (fun v150 σ151 => (¬ v150 = (-10000000) → K 0 (uS (uS w8 σ11) σ151)) ∧ (v150 = (-10000000) → CI M_Cs_bound [vR 0, vI 3] (wS (uS (uS w8 σ11) σ151)) (fun v153 σ154 => (¬ v153 = (-10000000) → K 0 (uS (uS (uS w8 σ11) σ151) σ154)) ∧ (v153 = (-10000000) → CI M_Cs_below [vR 0, vI 3] (wS (uS (uS (uS w8 σ11) σ151) σ154)) (fun v156 σ157 => (¬ v156 = (-10000000) → K 0 (uS (uS (uS (uS w8 σ11) σ151) σ154) σ157)) ∧ (v156 = (-10000000) → CI M_Cs_taint [vR 0, vI 0, vI 0] (wS (uS (uS (uS (uS w8 σ11) σ151) σ154) σ157)) (fun v159 σ160 => (¬ v159 = (-2) → K 0 (uS (uS (uS (uS (uS w8 σ11) σ151) σ154) σ157) σ160)) ∧ (v159 = (-2) → CI M_Cs_judged [vR 0] (wS (uS (uS (uS (uS (uS w8 σ11) σ151) σ154) σ157) σ160)) (fun v162 σ163 => (¬ v162 = 0 → K 0 (uS (uS (uS (uS (uS (uS w8 σ11) σ151) σ154) σ157) σ160) σ163)) ∧ (v162 = 0 → K 1 (uS (uS (uS (uS (uS (uS w8 σ11) σ151) σ154) σ157) σ160) σ163))))))))))))))))) : DI G M_Cl_makes [vR 0, vA x1, vA x2] w mc ms K := by
  refine DC.of ok_M_Cl_makes (ls := [(0, vR 0), (1, vA x1), (2, vA x2)]) rfl (Nat.le_of_ble_eq_true rfl) ?_
  refine x_aload_nP (some x1) d_Cl_makes_0 rfl (?_ : WD _ _ 1 _ _ _ _ _ _)
  obtain ⟨k1, h⟩ := h
  refine x_getP (ref := "CoinSamplerLaw$Books") (j := 1) 1 k1 clk_11 (by decide) (qm_2 (i := 158) rfl rfl) (Or.inl rfl) rfl rfl d_Cl_makes_1 (y := (wR w x1 1)) rfl (?_ : WD _ _ 4 _ _ _ _ _ _)
  obtain ⟨a2, e3, h⟩ := h
  rw [e3]
  obtain ⟨k4, h⟩ := h
  refine x_callV (ν := M_Al_size) [] ok_M_Al_size okv_M_Al_size k4 rfl rfl (qm_3 (i := 178) rfl rfl) np_M_Al_size rfl ⟨Nat.le_of_ble_eq_true rfl, Nat.le_of_ble_eq_true rfl⟩ (Nat.le_of_ble_eq_true rfl) rfl d_Cl_makes_4 (Nat.zero_le _) (Nat.zero_le _) (DI.k h (fun v6 w5 gw5 h => (?_ : WD _ _ 7 _ _ _ _ _ _)))
  refine x_istore_n (ls' := [(3, vI v6), (0, vR 0), (1, vA x1), (2, vA x2)]) d_Cl_makes_7 rfl (by decide) rfl (?_ : WD _ _ 8 _ _ _ _ _ _)
  refine x_aload_nP (some x2) d_Cl_makes_8 rfl (?_ : WD _ _ 9 _ _ _ _ _ _)
  obtain ⟨k7, h⟩ := h
  refine x_callV (ν := M_Al_size) [] ok_M_Al_size okv_M_Al_size k7 rfl rfl (qm_3 (i := 178) rfl rfl) np_M_Al_size rfl ⟨Nat.le_of_ble_eq_true rfl, Nat.le_of_ble_eq_true rfl⟩ (Nat.le_of_ble_eq_true rfl) rfl d_Cl_makes_9 (Nat.zero_le _) (Nat.zero_le _) (DI.k h (fun v9 w8 gw8 h => (?_ : WD _ _ 12 _ _ _ _ _ _)))
  refine x_istore (ls' := [(4, vI v9), (3, vI v6), (0, vR 0), (1, vA x1), (2, vA x2)]) d_Cl_makes_12 (by decide) rfl (?_ : WD _ _ 14 _ _ _ _ _ _)
  refine x_aload_n d_Cl_makes_14 rfl (?_ : WD _ _ 15 _ _ _ _ _ _)
  refine x_iconst d_Cl_makes_15 (by decide) (?_ : WD _ _ 16 _ _ _ _ _ _)
  refine x_callC (ν := M_Cs_lacking) (k := 0) [vI (-1)] ok_M_Cs_lacking okv_M_Cs_lacking (by decide) rfl rfl rfl (qm_9 (i := 218) rfl rfl) np_M_Cs_lacking rfl ⟨Nat.le_of_ble_eq_true rfl, Nat.le_of_ble_eq_true rfl⟩ (Nat.le_of_ble_eq_true rfl) rfl d_Cl_makes_16 (CI.kd h (fun v10 σ11 h => (?_ : WD _ _ 19 _ _ _ _ _ _)))
  refine x_istore (ls' := [(5, vI v10), (4, vI v9), (3, vI v6), (0, vR 0), (1, vA x1), (2, vA x2)]) d_Cl_makes_19 (by decide) rfl (?_ : WD _ _ 21 _ _ _ _ _ _)
  refine x_iload_n d_Cl_makes_21 rfl (?_ : WD _ _ 22 _ _ _ _ _ _)
  refine x_if_ne 79 d_Cl_makes_22 rfl ⟨fun c12 => (?_ : WD _ _ 79 _ _ _ _ _ _), fun c12 => (?_ : WD _ _ 25 _ _ _ _ _ _)⟩
  · replace h := h.1 c12
    refine x_aload_nP (some x1) d_Cl_makes_79 rfl (?_ : WD _ _ 80 _ _ _ _ _ _)
    refine x_aload_nP (some x2) d_Cl_makes_80 rfl (?_ : WD _ _ 81 _ _ _ _ _ _)
    refine x_iload_n d_Cl_makes_81 rfl (?_ : WD _ _ 82 _ _ _ _ _ _)
    refine x_iconst d_Cl_makes_82 (by decide) (?_ : WD _ _ 83 _ _ _ _ _ _)
    obtain ⟨c13, s14, h15, h16, h⟩ := h
    refine x_callV (ν := M_Bo_projected) [vA x2, vI v6, vI 1] ok_M_Bo_projected okv_M_Bo_projected ((k1.q gw5.k).q gw8.k) rfl rfl (qm_10 (i := 107) rfl rfl) np_M_Bo_projected rfl ⟨Nat.le_of_ble_eq_true rfl, Nat.le_of_ble_eq_true rfl⟩ (Nat.le_of_ble_eq_true rfl) rfl d_Cl_makes_83 h15 h16 (DI.k h (fun v18 w17 gw17 h => (?_ : WD _ _ 86 _ _ _ _ _ _)))
    refine x_istore (ls' := [(6, vI v18), (5, vI v10), (4, vI v9), (3, vI v6), (0, vR 0), (1, vA x1), (2, vA x2)]) d_Cl_makes_86 (by decide) rfl (?_ : WD _ _ 88 _ _ _ _ _ _)
    refine x_aload_nP (some x1) d_Cl_makes_88 rfl (?_ : WD _ _ 89 _ _ _ _ _ _)
    refine x_aload_nP (some x2) d_Cl_makes_89 rfl (?_ : WD _ _ 90 _ _ _ _ _ _)
    refine x_iload_n d_Cl_makes_90 rfl (?_ : WD _ _ 91 _ _ _ _ _ _)
    refine x_iconst d_Cl_makes_91 (by decide) (?_ : WD _ _ 92 _ _ _ _ _ _)
    obtain ⟨c19, s20, h21, h22, h⟩ := h
    refine x_callV (ν := M_Bo_projected) [vA x2, vI v6, vI (-1)] ok_M_Bo_projected okv_M_Bo_projected (((k1.q gw5.k).q gw8.k).q gw17.k) rfl rfl (qm_10 (i := 107) rfl rfl) np_M_Bo_projected rfl ⟨Nat.le_of_ble_eq_true rfl, Nat.le_of_ble_eq_true rfl⟩ (Nat.le_of_ble_eq_true rfl) rfl d_Cl_makes_92 h21 h22 (DI.k h (fun v24 w23 gw23 h => (?_ : WD _ _ 95 _ _ _ _ _ _)))
    refine x_istore (ls' := [(7, vI v24), (6, vI v18), (5, vI v10), (4, vI v9), (3, vI v6), (0, vR 0), (1, vA x1), (2, vA x2)]) d_Cl_makes_95 (by decide) rfl (?_ : WD _ _ 97 _ _ _ _ _ _)
    refine x_aload_nP (some x1) d_Cl_makes_97 rfl (?_ : WD _ _ 98 _ _ _ _ _ _)
    refine x_iconst d_Cl_makes_98 (by decide) (?_ : WD _ _ 99 _ _ _ _ _ _)
    obtain ⟨c25, s26, h27, h28, h⟩ := h
    refine x_callV (ν := M_Bo_known) [vI 1] ok_M_Bo_known okv_M_Bo_known ((((k1.q gw5.k).q gw8.k).q gw17.k).q gw23.k) rfl rfl (qm_10 (i := 113) rfl rfl) np_M_Bo_known rfl ⟨Nat.le_of_ble_eq_true rfl, Nat.le_of_ble_eq_true rfl⟩ (Nat.le_of_ble_eq_true rfl) rfl d_Cl_makes_99 h27 h28 (DI.k h (fun v30 w29 gw29 h => (?_ : WD _ _ 102 _ _ _ _ _ _)))
    refine x_istore (ls' := [(8, vI v30), (7, vI v24), (6, vI v18), (5, vI v10), (4, vI v9), (3, vI v6), (0, vR 0), (1, vA x1), (2, vA x2)]) d_Cl_makes_102 (by decide) rfl (?_ : WD _ _ 104 _ _ _ _ _ _)
    refine x_aload_nP (some x1) d_Cl_makes_104 rfl (?_ : WD _ _ 105 _ _ _ _ _ _)
    refine x_iconst d_Cl_makes_105 (by decide) (?_ : WD _ _ 106 _ _ _ _ _ _)
    obtain ⟨c31, s32, h33, h34, h⟩ := h
    refine x_callV (ν := M_Bo_known) [vI (-1)] ok_M_Bo_known okv_M_Bo_known (((((k1.q gw5.k).q gw8.k).q gw17.k).q gw23.k).q gw29.k) rfl rfl (qm_10 (i := 113) rfl rfl) np_M_Bo_known rfl ⟨Nat.le_of_ble_eq_true rfl, Nat.le_of_ble_eq_true rfl⟩ (Nat.le_of_ble_eq_true rfl) rfl d_Cl_makes_106 h33 h34 (DI.k h (fun v36 w35 gw35 h => (?_ : WD _ _ 109 _ _ _ _ _ _)))
    refine x_istore (ls' := [(9, vI v36), (8, vI v30), (7, vI v24), (6, vI v18), (5, vI v10), (4, vI v9), (3, vI v6), (0, vR 0), (1, vA x1), (2, vA x2)]) d_Cl_makes_109 (by decide) rfl (?_ : WD _ _ 111 _ _ _ _ _ _)
    refine x_aload_nP (some x1) d_Cl_makes_111 rfl (?_ : WD _ _ 112 _ _ _ _ _ _)
    refine x_iconst d_Cl_makes_112 (by decide) (?_ : WD _ _ 113 _ _ _ _ _ _)
    refine x_iload_n d_Cl_makes_113 rfl (?_ : WD _ _ 114 _ _ _ _ _ _)
    refine x_iconst d_Cl_makes_114 (by decide) (?_ : WD _ _ 115 _ _ _ _ _ _)
    obtain ⟨c37, s38, h39, h40, h⟩ := h
    refine x_callV (ν := M_Bo_bound) [vI 1, vI v6, vI 0] ok_M_Bo_bound okv_M_Bo_bound ((((((k1.q gw5.k).q gw8.k).q gw17.k).q gw23.k).q gw29.k).q gw35.k) rfl rfl (qm_10 (i := 118) rfl rfl) np_M_Bo_bound rfl ⟨Nat.le_of_ble_eq_true rfl, Nat.le_of_ble_eq_true rfl⟩ (Nat.le_of_ble_eq_true rfl) rfl d_Cl_makes_115 h39 h40 (DI.k h (fun v42 w41 gw41 h => (?_ : WD _ _ 118 _ _ _ _ _ _)))
    refine x_istore (ls' := [(10, vI v42), (9, vI v36), (8, vI v30), (7, vI v24), (6, vI v18), (5, vI v10), (4, vI v9), (3, vI v6), (0, vR 0), (1, vA x1), (2, vA x2)]) d_Cl_makes_118 (by decide) rfl (?_ : WD _ _ 120 _ _ _ _ _ _)
    refine x_aload_n d_Cl_makes_120 rfl (?_ : WD _ _ 121 _ _ _ _ _ _)
    refine x_iconst d_Cl_makes_121 (by decide) (?_ : WD _ _ 122 _ _ _ _ _ _)
    refine x_callC (ν := M_Cs_projected) (k := 0) [vI 0] ok_M_Cs_projected okv_M_Cs_projected (by decide) rfl rfl rfl (qm_10 (i := 21) rfl rfl) np_M_Cs_projected rfl ⟨Nat.le_of_ble_eq_true rfl, Nat.le_of_ble_eq_true rfl⟩ (Nat.le_of_ble_eq_true rfl) rfl d_Cl_makes_122 (CI.kd h (fun v43 σ44 h => (?_ : WD _ _ 125 _ _ _ _ _ _)))
    refine x_iload d_Cl_makes_125 rfl (?_ : WD _ _ 127 _ _ _ _ _ _)
    refine x_icmp_ne 189 d_Cl_makes_127 rfl ⟨fun c45 => (?_ : WD _ _ 189 _ _ _ _ _ _), fun c45 => (?_ : WD _ _ 130 _ _ _ _ _ _)⟩
    · replace h := h.1 c45
      refine x_iconst d_Cl_makes_189 (by decide) (?_ : WD _ _ 190 _ _ _ _ _ _)
      exact x_zreturn rfl d_Cl_makes_190 (by decide) h
    · replace h := h.2 c45
      refine x_aload_n d_Cl_makes_130 rfl (?_ : WD _ _ 131 _ _ _ _ _ _)
      refine x_iconst d_Cl_makes_131 (by decide) (?_ : WD _ _ 132 _ _ _ _ _ _)
      refine x_callC (ν := M_Cs_projected) (k := 0) [vI 1] ok_M_Cs_projected okv_M_Cs_projected (by decide) rfl rfl rfl (qm_10 (i := 21) rfl rfl) np_M_Cs_projected rfl ⟨Nat.le_of_ble_eq_true rfl, Nat.le_of_ble_eq_true rfl⟩ (Nat.le_of_ble_eq_true rfl) rfl d_Cl_makes_132 (CI.kd h (fun v46 σ47 h => (?_ : WD _ _ 135 _ _ _ _ _ _)))
      refine x_iload d_Cl_makes_135 rfl (?_ : WD _ _ 137 _ _ _ _ _ _)
      refine x_icmp_ne 189 d_Cl_makes_137 rfl ⟨fun c48 => (?_ : WD _ _ 189 _ _ _ _ _ _), fun c48 => (?_ : WD _ _ 140 _ _ _ _ _ _)⟩
      · replace h := h.1 c48
        refine x_iconst d_Cl_makes_189 (by decide) (?_ : WD _ _ 190 _ _ _ _ _ _)
        exact x_zreturn rfl d_Cl_makes_190 (by decide) h
      · replace h := h.2 c48
        refine x_aload_n d_Cl_makes_140 rfl (?_ : WD _ _ 141 _ _ _ _ _ _)
        refine x_iconst d_Cl_makes_141 (by decide) (?_ : WD _ _ 142 _ _ _ _ _ _)
        refine x_callC (ν := M_Cs_projected) (k := 0) [vI 2] ok_M_Cs_projected okv_M_Cs_projected (by decide) rfl rfl rfl (qm_10 (i := 21) rfl rfl) np_M_Cs_projected rfl ⟨Nat.le_of_ble_eq_true rfl, Nat.le_of_ble_eq_true rfl⟩ (Nat.le_of_ble_eq_true rfl) rfl d_Cl_makes_142 (CI.kd h (fun v49 σ50 h => (?_ : WD _ _ 145 _ _ _ _ _ _)))
        refine x_iload d_Cl_makes_145 rfl (?_ : WD _ _ 147 _ _ _ _ _ _)
        refine x_icmp_ne 189 d_Cl_makes_147 rfl ⟨fun c51 => (?_ : WD _ _ 189 _ _ _ _ _ _), fun c51 => (?_ : WD _ _ 150 _ _ _ _ _ _)⟩
        · replace h := h.1 c51
          refine x_iconst d_Cl_makes_189 (by decide) (?_ : WD _ _ 190 _ _ _ _ _ _)
          exact x_zreturn rfl d_Cl_makes_190 (by decide) h
        · replace h := h.2 c51
          refine x_aload_n d_Cl_makes_150 rfl (?_ : WD _ _ 151 _ _ _ _ _ _)
          refine x_iconst d_Cl_makes_151 (by decide) (?_ : WD _ _ 152 _ _ _ _ _ _)
          refine x_callC (ν := M_Cs_projected) (k := 0) [vI 3] ok_M_Cs_projected okv_M_Cs_projected (by decide) rfl rfl rfl (qm_10 (i := 21) rfl rfl) np_M_Cs_projected rfl ⟨Nat.le_of_ble_eq_true rfl, Nat.le_of_ble_eq_true rfl⟩ (Nat.le_of_ble_eq_true rfl) rfl d_Cl_makes_152 (CI.kd h (fun v52 σ53 h => (?_ : WD _ _ 155 _ _ _ _ _ _)))
          refine x_iload d_Cl_makes_155 rfl (?_ : WD _ _ 157 _ _ _ _ _ _)
          refine x_icmp_ne 189 d_Cl_makes_157 rfl ⟨fun c54 => (?_ : WD _ _ 189 _ _ _ _ _ _), fun c54 => (?_ : WD _ _ 160 _ _ _ _ _ _)⟩
          · replace h := h.1 c54
            refine x_iconst d_Cl_makes_189 (by decide) (?_ : WD _ _ 190 _ _ _ _ _ _)
            exact x_zreturn rfl d_Cl_makes_190 (by decide) h
          · replace h := h.2 c54
            refine x_aload_n d_Cl_makes_160 rfl (?_ : WD _ _ 161 _ _ _ _ _ _)
            refine x_iconst d_Cl_makes_161 (by decide) (?_ : WD _ _ 162 _ _ _ _ _ _)
            refine x_callC (ν := M_Cs_projected) (k := 0) [vI 4] ok_M_Cs_projected okv_M_Cs_projected (by decide) rfl rfl rfl (qm_10 (i := 21) rfl rfl) np_M_Cs_projected rfl ⟨Nat.le_of_ble_eq_true rfl, Nat.le_of_ble_eq_true rfl⟩ (Nat.le_of_ble_eq_true rfl) rfl d_Cl_makes_162 (CI.kd h (fun v55 σ56 h => (?_ : WD _ _ 165 _ _ _ _ _ _)))
            refine x_iload d_Cl_makes_165 rfl (?_ : WD _ _ 167 _ _ _ _ _ _)
            refine x_iload d_Cl_makes_167 rfl (?_ : WD _ _ 169 _ _ _ _ _ _)
            obtain ⟨h57, h⟩ := h
            refine x_iadd d_Cl_makes_169 h57 (?_ : WD _ _ 170 _ _ _ _ _ _)
            refine x_iload d_Cl_makes_170 rfl (?_ : WD _ _ 172 _ _ _ _ _ _)
            obtain ⟨h58, h⟩ := h
            refine x_isub d_Cl_makes_172 h58 (?_ : WD _ _ 173 _ _ _ _ _ _)
            refine x_iload d_Cl_makes_173 rfl (?_ : WD _ _ 175 _ _ _ _ _ _)
            obtain ⟨h59, h⟩ := h
            refine x_isub d_Cl_makes_175 h59 (?_ : WD _ _ 176 _ _ _ _ _ _)
            refine x_icmp_ne 189 d_Cl_makes_176 rfl ⟨fun c60 => (?_ : WD _ _ 189 _ _ _ _ _ _), fun c60 => (?_ : WD _ _ 179 _ _ _ _ _ _)⟩
            · replace h := h.1 c60
              refine x_iconst d_Cl_makes_189 (by decide) (?_ : WD _ _ 190 _ _ _ _ _ _)
              exact x_zreturn rfl d_Cl_makes_190 (by decide) h
            · replace h := h.2 c60
              refine x_aload_n d_Cl_makes_179 rfl (?_ : WD _ _ 180 _ _ _ _ _ _)
              refine x_iconst d_Cl_makes_180 (by decide) (?_ : WD _ _ 181 _ _ _ _ _ _)
              refine x_callC (ν := M_Cs_projected) (k := 0) [vI 5] ok_M_Cs_projected okv_M_Cs_projected (by decide) rfl rfl rfl (qm_10 (i := 21) rfl rfl) np_M_Cs_projected rfl ⟨Nat.le_of_ble_eq_true rfl, Nat.le_of_ble_eq_true rfl⟩ (Nat.le_of_ble_eq_true rfl) rfl d_Cl_makes_181 (CI.kd h (fun v61 σ62 h => (?_ : WD _ _ 184 _ _ _ _ _ _)))
              refine x_ldc (-10000000) d_Cl_makes_184 (qm_5 (i := 163) rfl rfl) (by decide) (by decide) (?_ : WD _ _ 186 _ _ _ _ _ _)
              refine x_icmp_eq 191 d_Cl_makes_186 rfl ⟨fun c63 => (?_ : WD _ _ 191 _ _ _ _ _ _), fun c63 => (?_ : WD _ _ 189 _ _ _ _ _ _)⟩
              · replace h := h.1 c63
                refine x_aload_n d_Cl_makes_191 rfl (?_ : WD _ _ 192 _ _ _ _ _ _)
                refine x_iconst d_Cl_makes_192 (by decide) (?_ : WD _ _ 193 _ _ _ _ _ _)
                refine x_callC (ν := M_Cs_bound) (k := 0) [vI 0] ok_M_Cs_bound okv_M_Cs_bound (by decide) rfl rfl rfl (qm_10 (i := 38) rfl rfl) np_M_Cs_bound rfl ⟨Nat.le_of_ble_eq_true rfl, Nat.le_of_ble_eq_true rfl⟩ (Nat.le_of_ble_eq_true rfl) rfl d_Cl_makes_193 (CI.kd h (fun v64 σ65 h => (?_ : WD _ _ 196 _ _ _ _ _ _)))
                refine x_aload_nP (some x1) d_Cl_makes_196 rfl (?_ : WD _ _ 197 _ _ _ _ _ _)
                refine x_iload d_Cl_makes_197 rfl (?_ : WD _ _ 199 _ _ _ _ _ _)
                obtain ⟨c66, s67, h68, h69, h⟩ := h
                refine x_callV (ν := M_Bo_basic) [vI v9] ok_M_Bo_basic okv_M_Bo_basic (((((((k1.q gw5.k).q gw8.k).q gw17.k).q gw23.k).q gw29.k).q gw35.k).q gw41.k) rfl rfl (qm_10 (i := 147) rfl rfl) np_M_Bo_basic rfl ⟨Nat.le_of_ble_eq_true rfl, Nat.le_of_ble_eq_true rfl⟩ (Nat.le_of_ble_eq_true rfl) rfl d_Cl_makes_199 h68 h69 (DI.k h (fun v71 w70 gw70 h => (?_ : WD _ _ 202 _ _ _ _ _ _)))
                refine x_icmp_ne 268 d_Cl_makes_202 rfl ⟨fun c72 => (?_ : WD _ _ 268 _ _ _ _ _ _), fun c72 => (?_ : WD _ _ 205 _ _ _ _ _ _)⟩
                · replace h := h.1 c72
                  refine x_iconst d_Cl_makes_268 (by decide) (?_ : WD _ _ 269 _ _ _ _ _ _)
                  exact x_zreturn rfl d_Cl_makes_269 (by decide) h
                · replace h := h.2 c72
                  refine x_aload_n d_Cl_makes_205 rfl (?_ : WD _ _ 206 _ _ _ _ _ _)
                  refine x_iconst d_Cl_makes_206 (by decide) (?_ : WD _ _ 207 _ _ _ _ _ _)
                  refine x_callC (ν := M_Cs_bound) (k := 0) [vI 1] ok_M_Cs_bound okv_M_Cs_bound (by decide) rfl rfl rfl (qm_10 (i := 38) rfl rfl) np_M_Cs_bound rfl ⟨Nat.le_of_ble_eq_true rfl, Nat.le_of_ble_eq_true rfl⟩ (Nat.le_of_ble_eq_true rfl) rfl d_Cl_makes_207 (CI.kd h (fun v73 σ74 h => (?_ : WD _ _ 210 _ _ _ _ _ _)))
                  refine x_aload_nP (some x1) d_Cl_makes_210 rfl (?_ : WD _ _ 211 _ _ _ _ _ _)
                  refine x_aload_nP (some x2) d_Cl_makes_211 rfl (?_ : WD _ _ 212 _ _ _ _ _ _)
                  refine x_iconst d_Cl_makes_212 (by decide) (?_ : WD _ _ 213 _ _ _ _ _ _)
                  refine x_iload d_Cl_makes_213 rfl (?_ : WD _ _ 215 _ _ _ _ _ _)
                  obtain ⟨c75, s76, h77, h78, h⟩ := h
                  refine x_callV (ν := M_Bo_rises) [vA x2, vI 1, vI v9] ok_M_Bo_rises okv_M_Bo_rises ((((((((k1.q gw5.k).q gw8.k).q gw17.k).q gw23.k).q gw29.k).q gw35.k).q gw41.k).q gw70.k) rfl rfl (qm_10 (i := 148) rfl rfl) np_M_Bo_rises rfl ⟨Nat.le_of_ble_eq_true rfl, Nat.le_of_ble_eq_true rfl⟩ (Nat.le_of_ble_eq_true rfl) rfl d_Cl_makes_215 h77 h78 (DI.k h (fun v80 w79 gw79 h => (?_ : WD _ _ 218 _ _ _ _ _ _)))
                  refine x_icmp_ne 268 d_Cl_makes_218 rfl ⟨fun c81 => (?_ : WD _ _ 268 _ _ _ _ _ _), fun c81 => (?_ : WD _ _ 221 _ _ _ _ _ _)⟩
                  · replace h := h.1 c81
                    refine x_iconst d_Cl_makes_268 (by decide) (?_ : WD _ _ 269 _ _ _ _ _ _)
                    exact x_zreturn rfl d_Cl_makes_269 (by decide) h
                  · replace h := h.2 c81
                    refine x_aload_n d_Cl_makes_221 rfl (?_ : WD _ _ 222 _ _ _ _ _ _)
                    refine x_iconst d_Cl_makes_222 (by decide) (?_ : WD _ _ 223 _ _ _ _ _ _)
                    refine x_callC (ν := M_Cs_bound) (k := 0) [vI 2] ok_M_Cs_bound okv_M_Cs_bound (by decide) rfl rfl rfl (qm_10 (i := 38) rfl rfl) np_M_Cs_bound rfl ⟨Nat.le_of_ble_eq_true rfl, Nat.le_of_ble_eq_true rfl⟩ (Nat.le_of_ble_eq_true rfl) rfl d_Cl_makes_223 (CI.kd h (fun v82 σ83 h => (?_ : WD _ _ 226 _ _ _ _ _ _)))
                    refine x_iload d_Cl_makes_226 rfl (?_ : WD _ _ 228 _ _ _ _ _ _)
                    refine x_icmp_ne 268 d_Cl_makes_228 rfl ⟨fun c84 => (?_ : WD _ _ 268 _ _ _ _ _ _), fun c84 => (?_ : WD _ _ 231 _ _ _ _ _ _)⟩
                    · replace h := h.1 c84
                      refine x_iconst d_Cl_makes_268 (by decide) (?_ : WD _ _ 269 _ _ _ _ _ _)
                      exact x_zreturn rfl d_Cl_makes_269 (by decide) h
                    · replace h := h.2 c84
                      refine x_aload_n d_Cl_makes_231 rfl (?_ : WD _ _ 232 _ _ _ _ _ _)
                      refine x_iconst d_Cl_makes_232 (by decide) (?_ : WD _ _ 233 _ _ _ _ _ _)
                      refine x_callC (ν := M_Cs_bound) (k := 0) [vI 3] ok_M_Cs_bound okv_M_Cs_bound (by decide) rfl rfl rfl (qm_10 (i := 38) rfl rfl) np_M_Cs_bound rfl ⟨Nat.le_of_ble_eq_true rfl, Nat.le_of_ble_eq_true rfl⟩ (Nat.le_of_ble_eq_true rfl) rfl d_Cl_makes_233 (CI.kd h (fun v85 σ86 h => (?_ : WD _ _ 236 _ _ _ _ _ _)))
                      refine x_iload d_Cl_makes_236 rfl (?_ : WD _ _ 238 _ _ _ _ _ _)
                      refine x_icmp_ne 268 d_Cl_makes_238 rfl ⟨fun c87 => (?_ : WD _ _ 268 _ _ _ _ _ _), fun c87 => (?_ : WD _ _ 241 _ _ _ _ _ _)⟩
                      · replace h := h.1 c87
                        refine x_iconst d_Cl_makes_268 (by decide) (?_ : WD _ _ 269 _ _ _ _ _ _)
                        exact x_zreturn rfl d_Cl_makes_269 (by decide) h
                      · replace h := h.2 c87
                        refine x_aload_n d_Cl_makes_241 rfl (?_ : WD _ _ 242 _ _ _ _ _ _)
                        refine x_iconst d_Cl_makes_242 (by decide) (?_ : WD _ _ 243 _ _ _ _ _ _)
                        refine x_callC (ν := M_Cs_bound) (k := 0) [vI 4] ok_M_Cs_bound okv_M_Cs_bound (by decide) rfl rfl rfl (qm_10 (i := 38) rfl rfl) np_M_Cs_bound rfl ⟨Nat.le_of_ble_eq_true rfl, Nat.le_of_ble_eq_true rfl⟩ (Nat.le_of_ble_eq_true rfl) rfl d_Cl_makes_243 (CI.kd h (fun v88 σ89 h => (?_ : WD _ _ 246 _ _ _ _ _ _)))
                        refine x_aload_nP (some x1) d_Cl_makes_246 rfl (?_ : WD _ _ 247 _ _ _ _ _ _)
                        refine x_getP (ref := "CoinSamplerLaw$Books") (j := 2) 2 (((((((((k1.q gw5.k).q gw8.k).q gw17.k).q gw23.k).q gw29.k).q gw35.k).q gw41.k).q gw70.k).q gw79.k) clk_11 (by decide) (qm_2 (i := 160) rfl rfl) (Or.inl rfl) rfl rfl d_Cl_makes_247 (y := (wR w79 x1 2)) rfl (?_ : WD _ _ 250 _ _ _ _ _ _)
                        refine x_iconst d_Cl_makes_250 (by decide) (?_ : WD _ _ 251 _ _ _ _ _ _)
                        obtain ⟨a90, e91, h⟩ := h
                        rw [e91]
                        obtain ⟨n92, h⟩ := h
                        obtain ⟨k93, h⟩ := h
                        obtain ⟨h94, h⟩ := h
                        refine x_iald k93 d_Cl_makes_251 (by decide) h94 (y := (wI w79 a90 0)) rfl (?_ : WD _ _ 252 _ _ _ _ _ _)
                        refine x_iload d_Cl_makes_252 rfl (?_ : WD _ _ 254 _ _ _ _ _ _)
                        obtain ⟨h95, h⟩ := h
                        refine x_isub d_Cl_makes_254 h95 (?_ : WD _ _ 255 _ _ _ _ _ _)
                        refine x_icmp_ne 268 d_Cl_makes_255 rfl ⟨fun c96 => (?_ : WD _ _ 268 _ _ _ _ _ _), fun c96 => (?_ : WD _ _ 258 _ _ _ _ _ _)⟩
                        · replace h := h.1 c96
                          refine x_iconst d_Cl_makes_268 (by decide) (?_ : WD _ _ 269 _ _ _ _ _ _)
                          exact x_zreturn rfl d_Cl_makes_269 (by decide) h
                        · replace h := h.2 c96
                          refine x_aload_n d_Cl_makes_258 rfl (?_ : WD _ _ 259 _ _ _ _ _ _)
                          refine x_iconst d_Cl_makes_259 (by decide) (?_ : WD _ _ 260 _ _ _ _ _ _)
                          refine x_callC (ν := M_Cs_bound) (k := 0) [vI 5] ok_M_Cs_bound okv_M_Cs_bound (by decide) rfl rfl rfl (qm_10 (i := 38) rfl rfl) np_M_Cs_bound rfl ⟨Nat.le_of_ble_eq_true rfl, Nat.le_of_ble_eq_true rfl⟩ (Nat.le_of_ble_eq_true rfl) rfl d_Cl_makes_260 (CI.kd h (fun v97 σ98 h => (?_ : WD _ _ 263 _ _ _ _ _ _)))
                          refine x_ldc (-10000000) d_Cl_makes_263 (qm_5 (i := 163) rfl rfl) (by decide) (by decide) (?_ : WD _ _ 265 _ _ _ _ _ _)
                          refine x_icmp_eq 270 d_Cl_makes_265 rfl ⟨fun c99 => (?_ : WD _ _ 270 _ _ _ _ _ _), fun c99 => (?_ : WD _ _ 268 _ _ _ _ _ _)⟩
                          · replace h := h.1 c99
                            refine x_aload_n d_Cl_makes_270 rfl (?_ : WD _ _ 271 _ _ _ _ _ _)
                            refine x_iconst d_Cl_makes_271 (by decide) (?_ : WD _ _ 272 _ _ _ _ _ _)
                            refine x_callC (ν := M_Cs_below) (k := 0) [vI 0] ok_M_Cs_below okv_M_Cs_below (by decide) rfl rfl rfl (qm_10 (i := 82) rfl rfl) np_M_Cs_below rfl ⟨Nat.le_of_ble_eq_true rfl, Nat.le_of_ble_eq_true rfl⟩ (Nat.le_of_ble_eq_true rfl) rfl d_Cl_makes_272 (CI.kd h (fun v100 σ101 h => (?_ : WD _ _ 275 _ _ _ _ _ _)))
                            refine x_aload_nP (some x1) d_Cl_makes_275 rfl (?_ : WD _ _ 276 _ _ _ _ _ _)
                            refine x_iload d_Cl_makes_276 rfl (?_ : WD _ _ 278 _ _ _ _ _ _)
                            obtain ⟨c102, s103, h104, h105, h⟩ := h
                            refine x_callV (ν := M_Bo_basic) [vI v9] ok_M_Bo_basic okv_M_Bo_basic (((((((((k1.q gw5.k).q gw8.k).q gw17.k).q gw23.k).q gw29.k).q gw35.k).q gw41.k).q gw70.k).q gw79.k) rfl rfl (qm_10 (i := 147) rfl rfl) np_M_Bo_basic rfl ⟨Nat.le_of_ble_eq_true rfl, Nat.le_of_ble_eq_true rfl⟩ (Nat.le_of_ble_eq_true rfl) rfl d_Cl_makes_278 h104 h105 (DI.k h (fun v107 w106 gw106 h => (?_ : WD _ _ 281 _ _ _ _ _ _)))
                            refine x_icmp_ne 335 d_Cl_makes_281 rfl ⟨fun c108 => (?_ : WD _ _ 335 _ _ _ _ _ _), fun c108 => (?_ : WD _ _ 284 _ _ _ _ _ _)⟩
                            · replace h := h.1 c108
                              refine x_iconst d_Cl_makes_335 (by decide) (?_ : WD _ _ 336 _ _ _ _ _ _)
                              exact x_zreturn rfl d_Cl_makes_336 (by decide) h
                            · replace h := h.2 c108
                              refine x_aload_n d_Cl_makes_284 rfl (?_ : WD _ _ 285 _ _ _ _ _ _)
                              refine x_iconst d_Cl_makes_285 (by decide) (?_ : WD _ _ 286 _ _ _ _ _ _)
                              refine x_callC (ν := M_Cs_below) (k := 0) [vI 1] ok_M_Cs_below okv_M_Cs_below (by decide) rfl rfl rfl (qm_10 (i := 82) rfl rfl) np_M_Cs_below rfl ⟨Nat.le_of_ble_eq_true rfl, Nat.le_of_ble_eq_true rfl⟩ (Nat.le_of_ble_eq_true rfl) rfl d_Cl_makes_286 (CI.kd h (fun v109 σ110 h => (?_ : WD _ _ 289 _ _ _ _ _ _)))
                              refine x_aload_nP (some x1) d_Cl_makes_289 rfl (?_ : WD _ _ 290 _ _ _ _ _ _)
                              refine x_aload_nP (some x2) d_Cl_makes_290 rfl (?_ : WD _ _ 291 _ _ _ _ _ _)
                              refine x_iconst d_Cl_makes_291 (by decide) (?_ : WD _ _ 292 _ _ _ _ _ _)
                              refine x_iload d_Cl_makes_292 rfl (?_ : WD _ _ 294 _ _ _ _ _ _)
                              obtain ⟨c111, s112, h113, h114, h⟩ := h
                              refine x_callV (ν := M_Bo_rises) [vA x2, vI (-1), vI v9] ok_M_Bo_rises okv_M_Bo_rises ((((((((((k1.q gw5.k).q gw8.k).q gw17.k).q gw23.k).q gw29.k).q gw35.k).q gw41.k).q gw70.k).q gw79.k).q gw106.k) rfl rfl (qm_10 (i := 148) rfl rfl) np_M_Bo_rises rfl ⟨Nat.le_of_ble_eq_true rfl, Nat.le_of_ble_eq_true rfl⟩ (Nat.le_of_ble_eq_true rfl) rfl d_Cl_makes_294 h113 h114 (DI.k h (fun v116 w115 gw115 h => (?_ : WD _ _ 297 _ _ _ _ _ _)))
                              refine x_icmp_ne 335 d_Cl_makes_297 rfl ⟨fun c117 => (?_ : WD _ _ 335 _ _ _ _ _ _), fun c117 => (?_ : WD _ _ 300 _ _ _ _ _ _)⟩
                              · replace h := h.1 c117
                                refine x_iconst d_Cl_makes_335 (by decide) (?_ : WD _ _ 336 _ _ _ _ _ _)
                                exact x_zreturn rfl d_Cl_makes_336 (by decide) h
                              · replace h := h.2 c117
                                refine x_aload_n d_Cl_makes_300 rfl (?_ : WD _ _ 301 _ _ _ _ _ _)
                                refine x_iconst d_Cl_makes_301 (by decide) (?_ : WD _ _ 302 _ _ _ _ _ _)
                                refine x_callC (ν := M_Cs_below) (k := 0) [vI 2] ok_M_Cs_below okv_M_Cs_below (by decide) rfl rfl rfl (qm_10 (i := 82) rfl rfl) np_M_Cs_below rfl ⟨Nat.le_of_ble_eq_true rfl, Nat.le_of_ble_eq_true rfl⟩ (Nat.le_of_ble_eq_true rfl) rfl d_Cl_makes_302 (CI.kd h (fun v118 σ119 h => (?_ : WD _ _ 305 _ _ _ _ _ _)))
                                refine x_iload d_Cl_makes_305 rfl (?_ : WD _ _ 307 _ _ _ _ _ _)
                                refine x_icmp_ne 335 d_Cl_makes_307 rfl ⟨fun c120 => (?_ : WD _ _ 335 _ _ _ _ _ _), fun c120 => (?_ : WD _ _ 310 _ _ _ _ _ _)⟩
                                · replace h := h.1 c120
                                  refine x_iconst d_Cl_makes_335 (by decide) (?_ : WD _ _ 336 _ _ _ _ _ _)
                                  exact x_zreturn rfl d_Cl_makes_336 (by decide) h
                                · replace h := h.2 c120
                                  refine x_aload_n d_Cl_makes_310 rfl (?_ : WD _ _ 311 _ _ _ _ _ _)
                                  refine x_iconst d_Cl_makes_311 (by decide) (?_ : WD _ _ 312 _ _ _ _ _ _)
                                  refine x_callC (ν := M_Cs_below) (k := 0) [vI 3] ok_M_Cs_below okv_M_Cs_below (by decide) rfl rfl rfl (qm_10 (i := 82) rfl rfl) np_M_Cs_below rfl ⟨Nat.le_of_ble_eq_true rfl, Nat.le_of_ble_eq_true rfl⟩ (Nat.le_of_ble_eq_true rfl) rfl d_Cl_makes_312 (CI.kd h (fun v121 σ122 h => (?_ : WD _ _ 315 _ _ _ _ _ _)))
                                  refine x_aload_nP (some x1) d_Cl_makes_315 rfl (?_ : WD _ _ 316 _ _ _ _ _ _)
                                  refine x_iconst d_Cl_makes_316 (by decide) (?_ : WD _ _ 317 _ _ _ _ _ _)
                                  refine x_iload_n d_Cl_makes_317 rfl (?_ : WD _ _ 318 _ _ _ _ _ _)
                                  refine x_iconst d_Cl_makes_318 (by decide) (?_ : WD _ _ 319 _ _ _ _ _ _)
                                  obtain ⟨c123, s124, h125, h126, h⟩ := h
                                  refine x_callV (ν := M_Bo_bound) [vI (-1), vI v6, vI 0] ok_M_Bo_bound okv_M_Bo_bound (((((((((((k1.q gw5.k).q gw8.k).q gw17.k).q gw23.k).q gw29.k).q gw35.k).q gw41.k).q gw70.k).q gw79.k).q gw106.k).q gw115.k) rfl rfl (qm_10 (i := 118) rfl rfl) np_M_Bo_bound rfl ⟨Nat.le_of_ble_eq_true rfl, Nat.le_of_ble_eq_true rfl⟩ (Nat.le_of_ble_eq_true rfl) rfl d_Cl_makes_319 h125 h126 (DI.k h (fun v128 w127 gw127 h => (?_ : WD _ _ 322 _ _ _ _ _ _)))
                                  refine x_icmp_ne 335 d_Cl_makes_322 rfl ⟨fun c129 => (?_ : WD _ _ 335 _ _ _ _ _ _), fun c129 => (?_ : WD _ _ 325 _ _ _ _ _ _)⟩
                                  · replace h := h.1 c129
                                    refine x_iconst d_Cl_makes_335 (by decide) (?_ : WD _ _ 336 _ _ _ _ _ _)
                                    exact x_zreturn rfl d_Cl_makes_336 (by decide) h
                                  · replace h := h.2 c129
                                    refine x_aload_n d_Cl_makes_325 rfl (?_ : WD _ _ 326 _ _ _ _ _ _)
                                    refine x_iconst d_Cl_makes_326 (by decide) (?_ : WD _ _ 327 _ _ _ _ _ _)
                                    refine x_callC (ν := M_Cs_below) (k := 0) [vI 4] ok_M_Cs_below okv_M_Cs_below (by decide) rfl rfl rfl (qm_10 (i := 82) rfl rfl) np_M_Cs_below rfl ⟨Nat.le_of_ble_eq_true rfl, Nat.le_of_ble_eq_true rfl⟩ (Nat.le_of_ble_eq_true rfl) rfl d_Cl_makes_327 (CI.kd h (fun v130 σ131 h => (?_ : WD _ _ 330 _ _ _ _ _ _)))
                                    refine x_ldc (-10000000) d_Cl_makes_330 (qm_5 (i := 163) rfl rfl) (by decide) (by decide) (?_ : WD _ _ 332 _ _ _ _ _ _)
                                    refine x_icmp_eq 337 d_Cl_makes_332 rfl ⟨fun c132 => (?_ : WD _ _ 337 _ _ _ _ _ _), fun c132 => (?_ : WD _ _ 335 _ _ _ _ _ _)⟩
                                    · replace h := h.1 c132
                                      refine x_aload_nP (some x1) d_Cl_makes_337 rfl (?_ : WD _ _ 338 _ _ _ _ _ _)
                                      refine x_aload_nP (some x2) d_Cl_makes_338 rfl (?_ : WD _ _ 339 _ _ _ _ _ _)
                                      refine x_iconst d_Cl_makes_339 (by decide) (?_ : WD _ _ 340 _ _ _ _ _ _)
                                      obtain ⟨c133, s134, h135, h136, h⟩ := h
                                      refine x_callV (ν := M_Bo_ranked) [vA x2, vI 1] ok_M_Bo_ranked okv_M_Bo_ranked ((((((((((((k1.q gw5.k).q gw8.k).q gw17.k).q gw23.k).q gw29.k).q gw35.k).q gw41.k).q gw70.k).q gw79.k).q gw106.k).q gw115.k).q gw127.k) rfl rfl (qm_10 (i := 149) rfl rfl) np_M_Bo_ranked rfl ⟨Nat.le_of_ble_eq_true rfl, Nat.le_of_ble_eq_true rfl⟩ (Nat.le_of_ble_eq_true rfl) rfl d_Cl_makes_340 h135 h136 (DP.k h (fun v138 w137 gw137 h => (?_ : WD _ _ 343 _ _ _ _ _ _)))
                                      refine x_astoreP v138 (ls' := [(11, vP v138), (10, vI v42), (9, vI v36), (8, vI v30), (7, vI v24), (6, vI v18), (5, vI v10), (4, vI v9), (3, vI v6), (0, vR 0), (1, vA x1), (2, vA x2)]) d_Cl_makes_343 (by decide) rfl (?_ : WD _ _ 345 _ _ _ _ _ _)
                                      refine x_aload_nP (some x1) d_Cl_makes_345 rfl (?_ : WD _ _ 346 _ _ _ _ _ _)
                                      obtain ⟨c139, s140, h141, h142, h⟩ := h
                                      refine x_callV (ν := M_Bo_owners) [] ok_M_Bo_owners okv_M_Bo_owners (((((((((((((k1.q gw5.k).q gw8.k).q gw17.k).q gw23.k).q gw29.k).q gw35.k).q gw41.k).q gw70.k).q gw79.k).q gw106.k).q gw115.k).q gw127.k).q gw137.k) rfl rfl (qm_9 (i := 169) rfl rfl) np_M_Bo_owners rfl ⟨Nat.le_of_ble_eq_true rfl, Nat.le_of_ble_eq_true rfl⟩ (Nat.le_of_ble_eq_true rfl) rfl d_Cl_makes_346 h141 h142 (DP.k h (fun v144 w143 gw143 h => (?_ : WD _ _ 349 _ _ _ _ _ _)))
                                      obtain ⟨a145, e146, h⟩ := h
                                      rw [e146]
                                      obtain ⟨n147, h⟩ := h
                                      obtain ⟨k148, h⟩ := h
                                      obtain ⟨h149, h⟩ := h
                                      refine x_alenA k148 (fun _ => rfl) h149 d_Cl_makes_349 (?_ : WD _ _ 350 _ _ _ _ _ _)
                                      refine x_istore (ls' := [(12, vI (n147 : Int)), (11, vP v138), (10, vI v42), (9, vI v36), (8, vI v30), (7, vI v24), (6, vI v18), (5, vI v10), (4, vI v9), (3, vI v6), (0, vR 0), (1, vA x1), (2, vA x2)]) d_Cl_makes_350 (by decide) rfl (?_ : WD _ _ 352 _ _ _ _ _ _)
                                      refine x_iconst d_Cl_makes_352 (by decide) (?_ : WD _ _ 353 _ _ _ _ _ _)
                                      refine x_istore (ls' := [(13, vI 0), (12, vI (n147 : Int)), (11, vP v138), (10, vI v42), (9, vI v36), (8, vI v30), (7, vI v24), (6, vI v18), (5, vI v10), (4, vI v9), (3, vI v6), (0, vR 0), (1, vA x1), (2, vA x2)]) d_Cl_makes_353 (by decide) rfl (?_ : WD _ _ 355 _ _ _ _ _ _)
                                      refine x_pick (ls' := [(0, vR 0), (1, vA x1), (2, vA x2), (4, vI v9), (5, vI v10), (10, vI v42), (11, vP v138), (12, vI (n147 : Int)), (13, vI 0)]) [11, 12, 13, 9, 8, 3, 2, 1, 0] rfl ?_
                                      exact h
                                    · replace h := h.2 c132
                                      refine x_iconst d_Cl_makes_335 (by decide) (?_ : WD _ _ 336 _ _ _ _ _ _)
                                      exact x_zreturn rfl d_Cl_makes_336 (by decide) h
                          · replace h := h.2 c99
                            refine x_iconst d_Cl_makes_268 (by decide) (?_ : WD _ _ 269 _ _ _ _ _ _)
                            exact x_zreturn rfl d_Cl_makes_269 (by decide) h
              · replace h := h.2 c63
                refine x_iconst d_Cl_makes_189 (by decide) (?_ : WD _ _ 190 _ _ _ _ _ _)
                exact x_zreturn rfl d_Cl_makes_190 (by decide) h
  · replace h := h.2 c12
    refine x_aload_n d_Cl_makes_25 rfl (?_ : WD _ _ 26 _ _ _ _ _ _)
    refine x_iconst d_Cl_makes_26 (by decide) (?_ : WD _ _ 27 _ _ _ _ _ _)
    refine x_callC (ν := M_Cs_projected) (k := 0) [vI 0] ok_M_Cs_projected okv_M_Cs_projected (by decide) rfl rfl rfl (qm_10 (i := 21) rfl rfl) np_M_Cs_projected rfl ⟨Nat.le_of_ble_eq_true rfl, Nat.le_of_ble_eq_true rfl⟩ (Nat.le_of_ble_eq_true rfl) rfl d_Cl_makes_27 (CI.kd h (fun v150 σ151 h => (?_ : WD _ _ 30 _ _ _ _ _ _)))
    refine x_ldc (-10000000) d_Cl_makes_30 (qm_5 (i := 163) rfl rfl) (by decide) (by decide) (?_ : WD _ _ 32 _ _ _ _ _ _)
    refine x_icmp_ne 77 d_Cl_makes_32 rfl ⟨fun c152 => (?_ : WD _ _ 77 _ _ _ _ _ _), fun c152 => (?_ : WD _ _ 35 _ _ _ _ _ _)⟩
    · replace h := h.1 c152
      refine x_iconst d_Cl_makes_77 (by decide) (?_ : WD _ _ 78 _ _ _ _ _ _)
      exact x_zreturn rfl d_Cl_makes_78 (by decide) h
    · replace h := h.2 c152
      refine x_aload_n d_Cl_makes_35 rfl (?_ : WD _ _ 36 _ _ _ _ _ _)
      refine x_iconst d_Cl_makes_36 (by decide) (?_ : WD _ _ 37 _ _ _ _ _ _)
      refine x_callC (ν := M_Cs_bound) (k := 0) [vI 3] ok_M_Cs_bound okv_M_Cs_bound (by decide) rfl rfl rfl (qm_10 (i := 38) rfl rfl) np_M_Cs_bound rfl ⟨Nat.le_of_ble_eq_true rfl, Nat.le_of_ble_eq_true rfl⟩ (Nat.le_of_ble_eq_true rfl) rfl d_Cl_makes_37 (CI.kd h (fun v153 σ154 h => (?_ : WD _ _ 40 _ _ _ _ _ _)))
      refine x_ldc (-10000000) d_Cl_makes_40 (qm_5 (i := 163) rfl rfl) (by decide) (by decide) (?_ : WD _ _ 42 _ _ _ _ _ _)
      refine x_icmp_ne 77 d_Cl_makes_42 rfl ⟨fun c155 => (?_ : WD _ _ 77 _ _ _ _ _ _), fun c155 => (?_ : WD _ _ 45 _ _ _ _ _ _)⟩
      · replace h := h.1 c155
        refine x_iconst d_Cl_makes_77 (by decide) (?_ : WD _ _ 78 _ _ _ _ _ _)
        exact x_zreturn rfl d_Cl_makes_78 (by decide) h
      · replace h := h.2 c155
        refine x_aload_n d_Cl_makes_45 rfl (?_ : WD _ _ 46 _ _ _ _ _ _)
        refine x_iconst d_Cl_makes_46 (by decide) (?_ : WD _ _ 47 _ _ _ _ _ _)
        refine x_callC (ν := M_Cs_below) (k := 0) [vI 3] ok_M_Cs_below okv_M_Cs_below (by decide) rfl rfl rfl (qm_10 (i := 82) rfl rfl) np_M_Cs_below rfl ⟨Nat.le_of_ble_eq_true rfl, Nat.le_of_ble_eq_true rfl⟩ (Nat.le_of_ble_eq_true rfl) rfl d_Cl_makes_47 (CI.kd h (fun v156 σ157 h => (?_ : WD _ _ 50 _ _ _ _ _ _)))
        refine x_ldc (-10000000) d_Cl_makes_50 (qm_5 (i := 163) rfl rfl) (by decide) (by decide) (?_ : WD _ _ 52 _ _ _ _ _ _)
        refine x_icmp_ne 77 d_Cl_makes_52 rfl ⟨fun c158 => (?_ : WD _ _ 77 _ _ _ _ _ _), fun c158 => (?_ : WD _ _ 55 _ _ _ _ _ _)⟩
        · replace h := h.1 c158
          refine x_iconst d_Cl_makes_77 (by decide) (?_ : WD _ _ 78 _ _ _ _ _ _)
          exact x_zreturn rfl d_Cl_makes_78 (by decide) h
        · replace h := h.2 c158
          refine x_aload_n d_Cl_makes_55 rfl (?_ : WD _ _ 56 _ _ _ _ _ _)
          refine x_iconst d_Cl_makes_56 (by decide) (?_ : WD _ _ 57 _ _ _ _ _ _)
          refine x_iconst d_Cl_makes_57 (by decide) (?_ : WD _ _ 58 _ _ _ _ _ _)
          refine x_callC (ν := M_Cs_taint) (k := 0) [vI 0, vI 0] ok_M_Cs_taint okv_M_Cs_taint (by decide) rfl rfl rfl (qm_10 (i := 86) rfl rfl) np_M_Cs_taint rfl ⟨Nat.le_of_ble_eq_true rfl, Nat.le_of_ble_eq_true rfl⟩ (Nat.le_of_ble_eq_true rfl) rfl d_Cl_makes_58 (CI.kd h (fun v159 σ160 h => (?_ : WD _ _ 61 _ _ _ _ _ _)))
          refine x_bipush d_Cl_makes_61 (by decide) (by decide) (?_ : WD _ _ 63 _ _ _ _ _ _)
          refine x_icmp_ne 77 d_Cl_makes_63 rfl ⟨fun c161 => (?_ : WD _ _ 77 _ _ _ _ _ _), fun c161 => (?_ : WD _ _ 66 _ _ _ _ _ _)⟩
          · replace h := h.1 c161
            refine x_iconst d_Cl_makes_77 (by decide) (?_ : WD _ _ 78 _ _ _ _ _ _)
            exact x_zreturn rfl d_Cl_makes_78 (by decide) h
          · replace h := h.2 c161
            refine x_aload_n d_Cl_makes_66 rfl (?_ : WD _ _ 67 _ _ _ _ _ _)
            refine x_callC (ν := M_Cs_judged) (k := 0) [] ok_M_Cs_judged okv_M_Cs_judged (by decide) rfl rfl rfl (qm_10 (i := 93) rfl rfl) np_M_Cs_judged rfl ⟨Nat.le_of_ble_eq_true rfl, Nat.le_of_ble_eq_true rfl⟩ (Nat.le_of_ble_eq_true rfl) rfl d_Cl_makes_67 (CI.kd h (fun v162 σ163 h => (?_ : WD _ _ 70 _ _ _ _ _ _)))
            refine x_if_ne 77 d_Cl_makes_70 rfl ⟨fun c164 => (?_ : WD _ _ 77 _ _ _ _ _ _), fun c164 => (?_ : WD _ _ 73 _ _ _ _ _ _)⟩
            · replace h := h.1 c164
              refine x_iconst d_Cl_makes_77 (by decide) (?_ : WD _ _ 78 _ _ _ _ _ _)
              exact x_zreturn rfl d_Cl_makes_78 (by decide) h
            · replace h := h.2 c164
              refine x_iconst d_Cl_makes_73 (by decide) (?_ : WD _ _ 74 _ _ _ _ _ _)
              refine x_goto 78 d_Cl_makes_74 rfl ?_
              exact x_zreturn rfl d_Cl_makes_78 (by decide) h
set_option maxRecDepth 20000 in
theorem l_Cl_makes_1 {G : Gq} {K : Int → Wd → Prop} {w : Wd} {rc rs : Nat} (x1 : Nat) (x2 : Nat) (x4 : Int) (x5 : Int) (x10 : Int) (x11 : Option Nat) (x12 : Int) (x13 : Int) (h : ∃ a165 : Nat, x11 = some a165 ∧ ((Is G w a165 (kO 14)) ∧ DI G M_Al_size [vA a165] w 0 0 (fun v169 w168 => (v169 ≤ x13 → DI G M_Al_size [vA a165] w168 0 0 (fun v172 w171 => CI M_Cs_taint [vR 0, vI v172, vI 0] (wS w171) (fun v173 σ174 => (¬ v173 = (-2) → K 0 (uS w171 σ174)) ∧ (v173 = (-2) → CI M_Cs_judged [vR 0] (wS (uS w171 σ174)) (fun v176 σ177 => (x5 ≤ 0 → (Is G (uS (uS w171 σ174) σ177) x1 (kO 11)) ∧ ∃ a180 : Nat, (wR w171 x1 2) = some a180 ∧ (∃ n182 : Nat, ((Is G (uS (uS w171 σ174) σ177) a180 (kA 0 n182)) ∧ (0 < (n182 : Int)) ∧ ((wI w171 a180 0) < x10 → (¬ v176 = 3 → K 0 (uS (uS w171 σ174) σ177)) ∧ (v176 = 3 → K 1 (uS (uS w171 σ174) σ177))) ∧ (¬ (wI w171 a180 0) < x10 → (¬ v176 = 2 → K 0 (uS (uS w171 σ174) σ177)) ∧ (v176 = 2 → K 1 (uS (uS w171 σ174) σ177)))))) ∧ (¬ x5 ≤ 0 → (¬ v176 = 1 → K 0 (uS (uS w171 σ174) σ177)) ∧ (v176 = 1 → K 1 (uS (uS w171 σ174) σ177)))))))) ∧ (¬ v169 ≤ x13 → CI M_Cs_taint [vR 0, vI x13, vI 0] (wS w168) (fun v189 σ190 => DP G M_Al_get [vA a165, vI x13] (uS w168 σ190) 0 0 (fun v192 w191 => ∃ a193 : Nat, v192 = some a193 ∧ ((Is G w191 x2 (kO 14)) ∧ DI G M_Al_indexOf [vA x2, vA a193] w191 0 0 (fun v197 w196 => (¬ v189 = v197 → K 0 w196) ∧ (v189 = v197 → CI M_Cs_taint [vR 0, vI x13, vI 1] (wS w196) (fun v199 σ200 => (Is G (uS w196 σ200) x1 (kO 11)) ∧ DP G M_Al_get [vA a165, vI x13] (uS w196 σ200) 0 0 (fun v203 w202 => ∃ a204 : Nat, v203 = some a204 ∧ ((Is G w202 a204 (kO 12)) ∧ ∃ a207 : Nat, (wR w196 x1 0) = some a207 ∧ ((Is G w202 a207 (kO 14)) ∧ DP G M_Al_get [vA a207, vI (wI w202 a204 0)] w202 0 0 (fun v211 w210 => ∃ a212 : Nat, v211 = some a212 ∧ ((Is G w210 a212 (kO 13)) ∧ DI G M_It_taint [vA a212] w210 0 0 (fun v216 w215 => (¬ v199 = v216 → K 0 w215) ∧ (v199 = v216 → (4 ≤ x13 → (inR (x13 + 1)) ∧ WD G M_Cl_makes 355 [(0, vR 0), (1, vA x1), (2, vA x2), (4, vI x4), (5, vI x5), (10, vI x10), (11, vP (some a165)), (12, vI x12), (13, vI (x13 + 1))] [] w215 rc rs (yI K)) ∧ (¬ 4 ≤ x13 → CI M_Cs_taint [vR 0, vI x13, vI 2] (wS w215) (fun v220 σ221 => (inR (x13 + 1)) ∧ DI G M_Bo_rise [vA x1, vA a165, vI (x13 + 1), vI x4, vI x12] (uS w215 σ221) 0 0 (fun v224 w223 => (v220 = v224 → WD G M_Cl_makes 355 [(0, vR 0), (1, vA x1), (2, vA x2), (4, vI x4), (5, vI x5), (10, vI x10), (11, vP (some a165)), (12, vI x12), (13, vI (x13 + 1))] [] w223 rc rs (yI K)) ∧ (¬ v220 = v224 → K 0 w223))))))))))))))))))))) : WD G M_Cl_makes 355 [(0, vR 0), (1, vA x1), (2, vA x2), (4, vI x4), (5, vI x5), (10, vI x10), (11, vP x11), (12, vI x12), (13, vI x13)] [] w rc rs (yI K) := by
  refine x_iload d_Cl_makes_355 rfl (?_ : WD _ _ 357 _ _ _ _ _ _)
  refine x_aloadP x11 d_Cl_makes_357 rfl (?_ : WD _ _ 359 _ _ _ _ _ _)
  obtain ⟨a165, e166, h⟩ := h
  rw [e166]
  obtain ⟨k167, h⟩ := h
  refine x_callV (ν := M_Al_size) [] ok_M_Al_size okv_M_Al_size k167 rfl rfl (qm_3 (i := 178) rfl rfl) np_M_Al_size rfl ⟨Nat.le_of_ble_eq_true rfl, Nat.le_of_ble_eq_true rfl⟩ (Nat.le_of_ble_eq_true rfl) rfl d_Cl_makes_359 (Nat.zero_le _) (Nat.zero_le _) (DI.k h (fun v169 w168 gw168 h => (?_ : WD _ _ 362 _ _ _ _ _ _)))
  refine x_icmp_ge 460 d_Cl_makes_362 rfl ⟨fun c170 => (?_ : WD _ _ 460 _ _ _ _ _ _), fun c170 => (?_ : WD _ _ 365 _ _ _ _ _ _)⟩
  · replace h := h.1 c170
    refine x_aload_n d_Cl_makes_460 rfl (?_ : WD _ _ 461 _ _ _ _ _ _)
    refine x_aloadP (some a165) d_Cl_makes_461 rfl (?_ : WD _ _ 463 _ _ _ _ _ _)
    refine x_callV (ν := M_Al_size) [] ok_M_Al_size okv_M_Al_size (k167.q gw168.k) rfl rfl (qm_3 (i := 178) rfl rfl) np_M_Al_size rfl ⟨Nat.le_of_ble_eq_true rfl, Nat.le_of_ble_eq_true rfl⟩ (Nat.le_of_ble_eq_true rfl) rfl d_Cl_makes_463 (Nat.zero_le _) (Nat.zero_le _) (DI.k h (fun v172 w171 gw171 h => (?_ : WD _ _ 466 _ _ _ _ _ _)))
    refine x_iconst d_Cl_makes_466 (by decide) (?_ : WD _ _ 467 _ _ _ _ _ _)
    refine x_callC (ν := M_Cs_taint) (k := 0) [vI v172, vI 0] ok_M_Cs_taint okv_M_Cs_taint (by decide) rfl rfl rfl (qm_10 (i := 86) rfl rfl) np_M_Cs_taint rfl ⟨Nat.le_of_ble_eq_true rfl, Nat.le_of_ble_eq_true rfl⟩ (Nat.le_of_ble_eq_true rfl) rfl d_Cl_makes_467 (CI.kd h (fun v173 σ174 h => (?_ : WD _ _ 470 _ _ _ _ _ _)))
    refine x_bipush d_Cl_makes_470 (by decide) (by decide) (?_ : WD _ _ 472 _ _ _ _ _ _)
    refine x_icmp_ne 511 d_Cl_makes_472 rfl ⟨fun c175 => (?_ : WD _ _ 511 _ _ _ _ _ _), fun c175 => (?_ : WD _ _ 475 _ _ _ _ _ _)⟩
    · replace h := h.1 c175
      refine x_iconst d_Cl_makes_511 (by decide) (?_ : WD _ _ 512 _ _ _ _ _ _)
      exact x_zreturn rfl d_Cl_makes_512 (by decide) h
    · replace h := h.2 c175
      refine x_aload_n d_Cl_makes_475 rfl (?_ : WD _ _ 476 _ _ _ _ _ _)
      refine x_callC (ν := M_Cs_judged) (k := 0) [] ok_M_Cs_judged okv_M_Cs_judged (by decide) rfl rfl rfl (qm_10 (i := 93) rfl rfl) np_M_Cs_judged rfl ⟨Nat.le_of_ble_eq_true rfl, Nat.le_of_ble_eq_true rfl⟩ (Nat.le_of_ble_eq_true rfl) rfl d_Cl_makes_476 (CI.kd h (fun v176 σ177 h => (?_ : WD _ _ 479 _ _ _ _ _ _)))
      refine x_iload d_Cl_makes_479 rfl (?_ : WD _ _ 481 _ _ _ _ _ _)
      refine x_if_le 488 d_Cl_makes_481 rfl ⟨fun c178 => (?_ : WD _ _ 488 _ _ _ _ _ _), fun c178 => (?_ : WD _ _ 484 _ _ _ _ _ _)⟩
      · replace h := h.1 c178
        refine x_iload d_Cl_makes_488 rfl (?_ : WD _ _ 490 _ _ _ _ _ _)
        refine x_aload_nP (some x1) d_Cl_makes_490 rfl (?_ : WD _ _ 491 _ _ _ _ _ _)
        obtain ⟨k179, h⟩ := h
        refine x_getP (ref := "CoinSamplerLaw$Books") (j := 2) 2 k179 clk_11 (by decide) (qm_2 (i := 160) rfl rfl) (Or.inl rfl) rfl rfl d_Cl_makes_491 (y := (wR w171 x1 2)) rfl (?_ : WD _ _ 494 _ _ _ _ _ _)
        refine x_iconst d_Cl_makes_494 (by decide) (?_ : WD _ _ 495 _ _ _ _ _ _)
        obtain ⟨a180, e181, h⟩ := h
        rw [e181]
        obtain ⟨n182, h⟩ := h
        obtain ⟨k183, h⟩ := h
        obtain ⟨h184, h⟩ := h
        refine x_iald k183 d_Cl_makes_495 (by decide) h184 (y := (wI w171 a180 0)) rfl (?_ : WD _ _ 496 _ _ _ _ _ _)
        refine x_icmp_gt 503 d_Cl_makes_496 rfl ⟨fun c185 => (?_ : WD _ _ 503 _ _ _ _ _ _), fun c185 => (?_ : WD _ _ 499 _ _ _ _ _ _)⟩
        · replace h := h.1 c185
          refine x_iconst d_Cl_makes_503 (by decide) (?_ : WD _ _ 504 _ _ _ _ _ _)
          refine x_icmp_ne 511 d_Cl_makes_504 rfl ⟨fun c186 => (?_ : WD _ _ 511 _ _ _ _ _ _), fun c186 => (?_ : WD _ _ 507 _ _ _ _ _ _)⟩
          · replace h := h.1 c186
            refine x_iconst d_Cl_makes_511 (by decide) (?_ : WD _ _ 512 _ _ _ _ _ _)
            exact x_zreturn rfl d_Cl_makes_512 (by decide) h
          · replace h := h.2 c186
            refine x_iconst d_Cl_makes_507 (by decide) (?_ : WD _ _ 508 _ _ _ _ _ _)
            refine x_goto 512 d_Cl_makes_508 rfl ?_
            exact x_zreturn rfl d_Cl_makes_512 (by decide) h
        · replace h := h.2 c185
          refine x_iconst d_Cl_makes_499 (by decide) (?_ : WD _ _ 500 _ _ _ _ _ _)
          refine x_goto 504 d_Cl_makes_500 rfl ?_
          refine x_icmp_ne 511 d_Cl_makes_504 rfl ⟨fun c187 => (?_ : WD _ _ 511 _ _ _ _ _ _), fun c187 => (?_ : WD _ _ 507 _ _ _ _ _ _)⟩
          · replace h := h.1 c187
            refine x_iconst d_Cl_makes_511 (by decide) (?_ : WD _ _ 512 _ _ _ _ _ _)
            exact x_zreturn rfl d_Cl_makes_512 (by decide) h
          · replace h := h.2 c187
            refine x_iconst d_Cl_makes_507 (by decide) (?_ : WD _ _ 508 _ _ _ _ _ _)
            refine x_goto 512 d_Cl_makes_508 rfl ?_
            exact x_zreturn rfl d_Cl_makes_512 (by decide) h
      · replace h := h.2 c178
        refine x_iconst d_Cl_makes_484 (by decide) (?_ : WD _ _ 485 _ _ _ _ _ _)
        refine x_goto 504 d_Cl_makes_485 rfl ?_
        refine x_icmp_ne 511 d_Cl_makes_504 rfl ⟨fun c188 => (?_ : WD _ _ 511 _ _ _ _ _ _), fun c188 => (?_ : WD _ _ 507 _ _ _ _ _ _)⟩
        · replace h := h.1 c188
          refine x_iconst d_Cl_makes_511 (by decide) (?_ : WD _ _ 512 _ _ _ _ _ _)
          exact x_zreturn rfl d_Cl_makes_512 (by decide) h
        · replace h := h.2 c188
          refine x_iconst d_Cl_makes_507 (by decide) (?_ : WD _ _ 508 _ _ _ _ _ _)
          refine x_goto 512 d_Cl_makes_508 rfl ?_
          exact x_zreturn rfl d_Cl_makes_512 (by decide) h
  · replace h := h.2 c170
    refine x_aload_n d_Cl_makes_365 rfl (?_ : WD _ _ 366 _ _ _ _ _ _)
    refine x_iload d_Cl_makes_366 rfl (?_ : WD _ _ 368 _ _ _ _ _ _)
    refine x_iconst d_Cl_makes_368 (by decide) (?_ : WD _ _ 369 _ _ _ _ _ _)
    refine x_callC (ν := M_Cs_taint) (k := 0) [vI x13, vI 0] ok_M_Cs_taint okv_M_Cs_taint (by decide) rfl rfl rfl (qm_10 (i := 86) rfl rfl) np_M_Cs_taint rfl ⟨Nat.le_of_ble_eq_true rfl, Nat.le_of_ble_eq_true rfl⟩ (Nat.le_of_ble_eq_true rfl) rfl d_Cl_makes_369 (CI.kd h (fun v189 σ190 h => (?_ : WD _ _ 372 _ _ _ _ _ _)))
    refine x_aload_nP (some x2) d_Cl_makes_372 rfl (?_ : WD _ _ 373 _ _ _ _ _ _)
    refine x_aloadP (some a165) d_Cl_makes_373 rfl (?_ : WD _ _ 375 _ _ _ _ _ _)
    refine x_iload d_Cl_makes_375 rfl (?_ : WD _ _ 377 _ _ _ _ _ _)
    refine x_callV (ν := M_Al_get) [vI x13] ok_M_Al_get okv_M_Al_get (k167.q gw168.k) rfl rfl (qm_3 (i := 183) rfl rfl) np_M_Al_get rfl ⟨Nat.le_of_ble_eq_true rfl, Nat.le_of_ble_eq_true rfl⟩ (Nat.le_of_ble_eq_true rfl) rfl d_Cl_makes_377 (Nat.zero_le _) (Nat.zero_le _) (DP.k h (fun v192 w191 gw191 h => (?_ : WD _ _ 380 _ _ _ _ _ _)))
    obtain ⟨a193, e194, h⟩ := h
    rw [e194]
    obtain ⟨k195, h⟩ := h
    refine x_callV (ν := M_Al_indexOf) [vA a193] ok_M_Al_indexOf okv_M_Al_indexOf k195 rfl rfl (qm_10 (i := 150) rfl rfl) np_M_Al_indexOf rfl ⟨Nat.le_of_ble_eq_true rfl, Nat.le_of_ble_eq_true rfl⟩ (Nat.le_of_ble_eq_true rfl) rfl d_Cl_makes_380 (Nat.zero_le _) (Nat.zero_le _) (DI.k h (fun v197 w196 gw196 h => (?_ : WD _ _ 383 _ _ _ _ _ _)))
    refine x_icmp_ne 452 d_Cl_makes_383 rfl ⟨fun c198 => (?_ : WD _ _ 452 _ _ _ _ _ _), fun c198 => (?_ : WD _ _ 386 _ _ _ _ _ _)⟩
    · replace h := h.1 c198
      refine x_iconst d_Cl_makes_452 (by decide) (?_ : WD _ _ 453 _ _ _ _ _ _)
      exact x_zreturn rfl d_Cl_makes_453 (by decide) h
    · replace h := h.2 c198
      refine x_aload_n d_Cl_makes_386 rfl (?_ : WD _ _ 387 _ _ _ _ _ _)
      refine x_iload d_Cl_makes_387 rfl (?_ : WD _ _ 389 _ _ _ _ _ _)
      refine x_iconst d_Cl_makes_389 (by decide) (?_ : WD _ _ 390 _ _ _ _ _ _)
      refine x_callC (ν := M_Cs_taint) (k := 0) [vI x13, vI 1] ok_M_Cs_taint okv_M_Cs_taint (by decide) rfl rfl rfl (qm_10 (i := 86) rfl rfl) np_M_Cs_taint rfl ⟨Nat.le_of_ble_eq_true rfl, Nat.le_of_ble_eq_true rfl⟩ (Nat.le_of_ble_eq_true rfl) rfl d_Cl_makes_390 (CI.kd h (fun v199 σ200 h => (?_ : WD _ _ 393 _ _ _ _ _ _)))
      refine x_aload_nP (some x1) d_Cl_makes_393 rfl (?_ : WD _ _ 394 _ _ _ _ _ _)
      obtain ⟨k201, h⟩ := h
      refine x_getP (ref := "CoinSamplerLaw$Books") (j := 0) 0 k201 clk_11 (by decide) (qm_2 (i := 156) rfl rfl) (Or.inl rfl) rfl rfl d_Cl_makes_394 (y := (wR w196 x1 0)) rfl (?_ : WD _ _ 397 _ _ _ _ _ _)
      refine x_aloadP (some a165) d_Cl_makes_397 rfl (?_ : WD _ _ 399 _ _ _ _ _ _)
      refine x_iload d_Cl_makes_399 rfl (?_ : WD _ _ 401 _ _ _ _ _ _)
      refine x_callV (ν := M_Al_get) [vI x13] ok_M_Al_get okv_M_Al_get (((k167.q gw168.k).q gw191.k).q gw196.k) rfl rfl (qm_3 (i := 183) rfl rfl) np_M_Al_get rfl ⟨Nat.le_of_ble_eq_true rfl, Nat.le_of_ble_eq_true rfl⟩ (Nat.le_of_ble_eq_true rfl) rfl d_Cl_makes_401 (Nat.zero_le _) (Nat.zero_le _) (DP.k h (fun v203 w202 gw202 h => (?_ : WD _ _ 404 _ _ _ _ _ _)))
      obtain ⟨a204, e205, h⟩ := h
      rw [e205]
      obtain ⟨k206, h⟩ := h
      refine x_cast k206 rfl (Or.inl rfl) (qm_6 (i := 203) rfl rfl) d_Cl_makes_404 (?_ : WD _ _ 407 _ _ _ _ _ _)
      refine x_getI (ref := "CoinSamplerLaw$Hit") (j := 0) 0 k206 clk_12 (by decide) (qm_3 (i := 85) rfl rfl) (Or.inl rfl) rfl rfl d_Cl_makes_407 (y := (wI w202 a204 0)) rfl (?_ : WD _ _ 410 _ _ _ _ _ _)
      obtain ⟨a207, e208, h⟩ := h
      rw [e208]
      obtain ⟨k209, h⟩ := h
      refine x_callV (ν := M_Al_get) [vI (wI w202 a204 0)] ok_M_Al_get okv_M_Al_get k209 rfl rfl (qm_3 (i := 183) rfl rfl) np_M_Al_get rfl ⟨Nat.le_of_ble_eq_true rfl, Nat.le_of_ble_eq_true rfl⟩ (Nat.le_of_ble_eq_true rfl) rfl d_Cl_makes_410 (Nat.zero_le _) (Nat.zero_le _) (DP.k h (fun v211 w210 gw210 h => (?_ : WD _ _ 413 _ _ _ _ _ _)))
      obtain ⟨a212, e213, h⟩ := h
      rw [e213]
      obtain ⟨k214, h⟩ := h
      refine x_cast k214 rfl (Or.inl rfl) (qm_3 (i := 184) rfl rfl) d_Cl_makes_413 (?_ : WD _ _ 416 _ _ _ _ _ _)
      refine x_callV (ν := M_It_taint) [] ok_M_It_taint okv_M_It_taint k214 rfl rfl (qm_6 (i := 208) rfl rfl) np_M_It_taint rfl ⟨Nat.le_of_ble_eq_true rfl, Nat.le_of_ble_eq_true rfl⟩ (Nat.le_of_ble_eq_true rfl) rfl d_Cl_makes_416 (Nat.zero_le _) (Nat.zero_le _) (DI.k h (fun v216 w215 gw215 h => (?_ : WD _ _ 419 _ _ _ _ _ _)))
      refine x_icmp_ne 452 d_Cl_makes_419 rfl ⟨fun c217 => (?_ : WD _ _ 452 _ _ _ _ _ _), fun c217 => (?_ : WD _ _ 422 _ _ _ _ _ _)⟩
      · replace h := h.1 c217
        refine x_iconst d_Cl_makes_452 (by decide) (?_ : WD _ _ 453 _ _ _ _ _ _)
        exact x_zreturn rfl d_Cl_makes_453 (by decide) h
      · replace h := h.2 c217
        refine x_iload d_Cl_makes_422 rfl (?_ : WD _ _ 424 _ _ _ _ _ _)
        refine x_iconst d_Cl_makes_424 (by decide) (?_ : WD _ _ 425 _ _ _ _ _ _)
        refine x_icmp_ge 454 d_Cl_makes_425 rfl ⟨fun c218 => (?_ : WD _ _ 454 _ _ _ _ _ _), fun c218 => (?_ : WD _ _ 428 _ _ _ _ _ _)⟩
        · replace h := h.1 c218
          obtain ⟨h219, h⟩ := h
          refine x_iinc (ls' := [(13, vI (x13 + 1)), (0, vR 0), (1, vA x1), (2, vA x2), (4, vI x4), (5, vI x5), (10, vI x10), (11, vA a165), (12, vI x12)]) d_Cl_makes_454 rfl h219 (by decide) rfl (?_ : WD _ _ 457 _ _ _ _ _ _)
          refine x_goto 355 d_Cl_makes_457 rfl ?_
          refine x_pick (ls' := [(0, vR 0), (1, vA x1), (2, vA x2), (4, vI x4), (5, vI x5), (10, vI x10), (11, vP (some a165)), (12, vI x12), (13, vI (x13 + 1))]) [1, 2, 3, 4, 5, 6, 7, 8, 0] rfl ?_
          exact h
        · replace h := h.2 c218
          refine x_aload_n d_Cl_makes_428 rfl (?_ : WD _ _ 429 _ _ _ _ _ _)
          refine x_iload d_Cl_makes_429 rfl (?_ : WD _ _ 431 _ _ _ _ _ _)
          refine x_iconst d_Cl_makes_431 (by decide) (?_ : WD _ _ 432 _ _ _ _ _ _)
          refine x_callC (ν := M_Cs_taint) (k := 0) [vI x13, vI 2] ok_M_Cs_taint okv_M_Cs_taint (by decide) rfl rfl rfl (qm_10 (i := 86) rfl rfl) np_M_Cs_taint rfl ⟨Nat.le_of_ble_eq_true rfl, Nat.le_of_ble_eq_true rfl⟩ (Nat.le_of_ble_eq_true rfl) rfl d_Cl_makes_432 (CI.kd h (fun v220 σ221 h => (?_ : WD _ _ 435 _ _ _ _ _ _)))
          refine x_aload_nP (some x1) d_Cl_makes_435 rfl (?_ : WD _ _ 436 _ _ _ _ _ _)
          refine x_aloadP (some a165) d_Cl_makes_436 rfl (?_ : WD _ _ 438 _ _ _ _ _ _)
          refine x_iload d_Cl_makes_438 rfl (?_ : WD _ _ 440 _ _ _ _ _ _)
          refine x_iconst d_Cl_makes_440 (by decide) (?_ : WD _ _ 441 _ _ _ _ _ _)
          obtain ⟨h222, h⟩ := h
          refine x_iadd d_Cl_makes_441 h222 (?_ : WD _ _ 442 _ _ _ _ _ _)
          refine x_iload d_Cl_makes_442 rfl (?_ : WD _ _ 444 _ _ _ _ _ _)
          refine x_iload d_Cl_makes_444 rfl (?_ : WD _ _ 446 _ _ _ _ _ _)
          refine x_callV (ν := M_Bo_rise) [vA a165, vI (x13 + 1), vI x4, vI x12] ok_M_Bo_rise okv_M_Bo_rise (((k201.q gw202.k).q gw210.k).q gw215.k) rfl rfl (qm_10 (i := 151) rfl rfl) np_M_Bo_rise rfl ⟨Nat.le_of_ble_eq_true rfl, Nat.le_of_ble_eq_true rfl⟩ (Nat.le_of_ble_eq_true rfl) rfl d_Cl_makes_446 (Nat.zero_le _) (Nat.zero_le _) (DI.k h (fun v224 w223 gw223 h => (?_ : WD _ _ 449 _ _ _ _ _ _)))
          refine x_icmp_eq 454 d_Cl_makes_449 rfl ⟨fun c225 => (?_ : WD _ _ 454 _ _ _ _ _ _), fun c225 => (?_ : WD _ _ 452 _ _ _ _ _ _)⟩
          · replace h := h.1 c225
            refine x_iinc (ls' := [(13, vI (x13 + 1)), (0, vR 0), (1, vA x1), (2, vA x2), (4, vI x4), (5, vI x5), (10, vI x10), (11, vA a165), (12, vI x12)]) d_Cl_makes_454 rfl h222 (by decide) rfl (?_ : WD _ _ 457 _ _ _ _ _ _)
            refine x_goto 355 d_Cl_makes_457 rfl ?_
            refine x_pick (ls' := [(0, vR 0), (1, vA x1), (2, vA x2), (4, vI x4), (5, vI x5), (10, vI x10), (11, vP (some a165)), (12, vI x12), (13, vI (x13 + 1))]) [1, 2, 3, 4, 5, 6, 7, 8, 0] rfl ?_
            exact h
          · replace h := h.2 c225
            refine x_iconst d_Cl_makes_452 (by decide) (?_ : WD _ _ 453 _ _ _ _ _ _)
            exact x_zreturn rfl d_Cl_makes_453 (by decide) h
set_option maxRecDepth 20000 in
theorem e_Cl_counts {G : Gq} {K : Int → Wd → Prop} {w : Wd} {mc ms : Nat} (x1 : Nat) (x2 : Nat) (h : WD G M_Cl_counts 8 [(0, vR 0), (1, vA x1), (2, vA x2), (3, vI 0), (4, vI 0), (5, vI 0)] [] w mc ms (yI K)) : DI G M_Cl_counts [vR 0, vA x1, vA x2] w mc ms K := by
  refine DC.of ok_M_Cl_counts (ls := [(0, vR 0), (1, vA x1), (2, vA x2)]) rfl (Nat.le_of_ble_eq_true rfl) ?_
  refine x_iconst d_Cl_counts_0 (by decide) (?_ : WD _ _ 1 _ _ _ _ _ _)
  refine x_istore_n (ls' := [(3, vI 0), (0, vR 0), (1, vA x1), (2, vA x2)]) d_Cl_counts_1 rfl (by decide) rfl (?_ : WD _ _ 2 _ _ _ _ _ _)
  refine x_iconst d_Cl_counts_2 (by decide) (?_ : WD _ _ 3 _ _ _ _ _ _)
  refine x_istore (ls' := [(4, vI 0), (3, vI 0), (0, vR 0), (1, vA x1), (2, vA x2)]) d_Cl_counts_3 (by decide) rfl (?_ : WD _ _ 5 _ _ _ _ _ _)
  refine x_iconst d_Cl_counts_5 (by decide) (?_ : WD _ _ 6 _ _ _ _ _ _)
  refine x_istore (ls' := [(5, vI 0), (4, vI 0), (3, vI 0), (0, vR 0), (1, vA x1), (2, vA x2)]) d_Cl_counts_6 (by decide) rfl (?_ : WD _ _ 8 _ _ _ _ _ _)
  refine x_pick (ls' := [(0, vR 0), (1, vA x1), (2, vA x2), (3, vI 0), (4, vI 0), (5, vI 0)]) [3, 4, 5, 2, 1, 0] rfl ?_
  exact h
set_option maxRecDepth 20000 in
theorem l_Cl_counts_1 {G : Gq} {K : Int → Wd → Prop} {w : Wd} {rc rs : Nat} (x1 : Nat) (x2 : Nat) (x3 : Int) (x4 : Int) (x5 : Int) (h : (Is G w x1 (kO 11)) ∧ ∃ a2 : Nat, (wR w x1 0) = some a2 ∧ ((Is G w a2 (kO 14)) ∧ DI G M_Al_size [vA a2] w 0 0 (fun v6 w5 => (v6 ≤ x5 → (1 ≤ rc) ∧ (10 ≤ rs) ∧ ∀ q10 : Nat, Fr G w5 q10 → (∃ a12 : Nat, (wR w5 x1 0) = some a12 ∧ ((Is G (uN w5 q10 (kA 0 10)) a12 (kO 14)) ∧ DI G M_Al_size [vA a12] (uN w5 q10 (kA 0 10)) 0 0 (fun v16 w15 => (0 < (10 : Int)) ∧ ∃ c18 s19 : Nat, c18 ≤ (rc - 1) ∧ s19 ≤ (rs - 10) ∧ (DI G M_Bo_allCoins [vA x1] (uI w15 q10 0 v16) c18 s19 (fun v23 w22 => (1 < (10 : Int)) ∧ ∃ c25 s26 : Nat, c25 ≤ ((rc - 1) - c18) ∧ s26 ≤ ((rs - 10) - s19) ∧ (DP G M_Bo_owners [vA x1] (uI w22 q10 1 v23) c25 s26 (fun v30 w29 => ∃ a31 : Nat, v30 = some a31 ∧ (∃ n33 : Nat, ((Is G w29 a31 (kA 0 n33)) ∧ (inR (n33 : Int)) ∧ (2 < (10 : Int)) ∧ (3 < (10 : Int)) ∧ ∃ a38 : Nat, (wR w29 x1 1) = some a38 ∧ ((Is G (uI (uI w29 q10 2 (n33 : Int)) q10 3 (wI w29 x1 3)) a38 (kO 14)) ∧ DI G M_Al_size [vA a38] (uI (uI w29 q10 2 (n33 : Int)) q10 3 (wI w29 x1 3)) 0 0 (fun v42 w41 => (4 < (10 : Int)) ∧ (Is G (uI w41 q10 4 v42) x2 (kO 14)) ∧ DI G M_Al_size [vA x2] (uI w41 q10 4 v42) 0 0 (fun v46 w45 => (5 < (10 : Int)) ∧ (6 < (10 : Int)) ∧ (7 < (10 : Int)) ∧ (8 < (10 : Int)) ∧ (9 < (10 : Int)) ∧ WD G M_Cl_counts 153 [(0, vR 0), (1, vA x1), (5, vA q10), (6, vI 0)] [] (uI (uI (uI (uI (uI w45 q10 5 v46) q10 6 x3) q10 7 0) q10 8 x4) q10 9 (wI w45 x1 4)) (((rc - 1) - c18) - c25) (((rs - 10) - s19) - s26) (yI K)))))))))))))) ∧ (¬ v6 ≤ x5 → ∃ c52 s53 : Nat, c52 ≤ rc ∧ s53 ≤ rs ∧ (DI G M_Cl_oftenOf [vA x2, vI x5] w5 c52 s53 (fun v57 w56 => (v57 ≤ 0 → (inR (x3 + 0)) ∧ ∃ a60 : Nat, (wR w56 x1 0) = some a60 ∧ ((Is G w56 a60 (kO 14)) ∧ DP G M_Al_get [vA a60, vI x5] w56 0 0 (fun v64 w63 => ∃ a65 : Nat, v64 = some a65 ∧ ((Is G w63 a65 (kO 13)) ∧ (0 ≤ (wI w63 a65 3) → (inR (x4 + 1)) ∧ (inR (x5 + 1)) ∧ WD G M_Cl_counts 8 [(0, vR 0), (1, vA x1), (2, vA x2), (3, vI (x3 + 0)), (4, vI (x4 + 1)), (5, vI (x5 + 1))] [] w63 (rc - c52) (rs - s53) (yI K)) ∧ (¬ 0 ≤ (wI w63 a65 3) → (inR (x4 + 0)) ∧ (inR (x5 + 1)) ∧ WD G M_Cl_counts 8 [(0, vR 0), (1, vA x1), (2, vA x2), (3, vI (x3 + 0)), (4, vI (x4 + 0)), (5, vI (x5 + 1))] [] w63 (rc - c52) (rs - s53) (yI K)))))) ∧ (¬ v57 ≤ 0 → (inR (x3 + 1)) ∧ ∃ a74 : Nat, (wR w56 x1 0) = some a74 ∧ ((Is G w56 a74 (kO 14)) ∧ DP G M_Al_get [vA a74, vI x5] w56 0 0 (fun v78 w77 => ∃ a79 : Nat, v78 = some a79 ∧ ((Is G w77 a79 (kO 13)) ∧ (0 ≤ (wI w77 a79 3) → (inR (x4 + 1)) ∧ (inR (x5 + 1)) ∧ WD G M_Cl_counts 8 [(0, vR 0), (1, vA x1), (2, vA x2), (3, vI (x3 + 1)), (4, vI (x4 + 1)), (5, vI (x5 + 1))] [] w77 (rc - c52) (rs - s53) (yI K)) ∧ (¬ 0 ≤ (wI w77 a79 3) → (inR (x4 + 0)) ∧ (inR (x5 + 1)) ∧ WD G M_Cl_counts 8 [(0, vR 0), (1, vA x1), (2, vA x2), (3, vI (x3 + 1)), (4, vI (x4 + 0)), (5, vI (x5 + 1))] [] w77 (rc - c52) (rs - s53) (yI K)))))))))))) : WD G M_Cl_counts 8 [(0, vR 0), (1, vA x1), (2, vA x2), (3, vI x3), (4, vI x4), (5, vI x5)] [] w rc rs (yI K) := by
  refine x_iload d_Cl_counts_8 rfl (?_ : WD _ _ 10 _ _ _ _ _ _)
  refine x_aload_nP (some x1) d_Cl_counts_10 rfl (?_ : WD _ _ 11 _ _ _ _ _ _)
  obtain ⟨k1, h⟩ := h
  refine x_getP (ref := "CoinSamplerLaw$Books") (j := 0) 0 k1 clk_11 (by decide) (qm_2 (i := 156) rfl rfl) (Or.inl rfl) rfl rfl d_Cl_counts_11 (y := (wR w x1 0)) rfl (?_ : WD _ _ 14 _ _ _ _ _ _)
  obtain ⟨a2, e3, h⟩ := h
  rw [e3]
  obtain ⟨k4, h⟩ := h
  refine x_callV (ν := M_Al_size) [] ok_M_Al_size okv_M_Al_size k4 rfl rfl (qm_3 (i := 178) rfl rfl) np_M_Al_size rfl ⟨Nat.le_of_ble_eq_true rfl, Nat.le_of_ble_eq_true rfl⟩ (Nat.le_of_ble_eq_true rfl) rfl d_Cl_counts_14 (Nat.zero_le _) (Nat.zero_le _) (DI.k h (fun v6 w5 gw5 h => (?_ : WD _ _ 17 _ _ _ _ _ _)))
  refine x_icmp_ge 71 d_Cl_counts_17 rfl ⟨fun c7 => (?_ : WD _ _ 71 _ _ _ _ _ _), fun c7 => (?_ : WD _ _ 20 _ _ _ _ _ _)⟩
  · replace h := h.1 c7
    refine x_bipush d_Cl_counts_71 (by decide) (by decide) (?_ : WD _ _ 73 _ _ _ _ _ _)
    obtain ⟨h8, h⟩ := h
    obtain ⟨h9, h⟩ := h
    refine x_newa (t := 0) 10 rfl d_Cl_counts_73 rfl (qm_1 (i := 107) rfl rfl) (fun _ => rfl) (fun _ _ => rfl) (fun _ => rfl) (by decide) (by decide) h8 h9 (fun q10 fq10 => (?_ : WD _ _ 75 _ _ _ _ _ _))
    replace h := h q10 fq10
    have k11 : Ow (uN w5 q10 (kA 0 10)) q10 (kA 0 10) := Ow.nw
    refine x_dup d_Cl_counts_75 rfl (?_ : WD _ _ 76 _ _ _ _ _ _)
    refine x_iconst d_Cl_counts_76 (by decide) (?_ : WD _ _ 77 _ _ _ _ _ _)
    refine x_aload_nP (some x1) d_Cl_counts_77 rfl (?_ : WD _ _ 78 _ _ _ _ _ _)
    refine x_getP (ref := "CoinSamplerLaw$Books") (j := 0) 0 ((k1.q gw5.k).nu fq10) clk_11 (by decide) (qm_2 (i := 156) rfl rfl) (Or.inl rfl) rfl rfl d_Cl_counts_78 (y := (wR w5 x1 0)) (wR_uN (fq10.ne (k1.q gw5.k))) (?_ : WD _ _ 81 _ _ _ _ _ _)
    obtain ⟨a12, e13, h⟩ := h
    rw [e13]
    obtain ⟨k14, h⟩ := h
    refine x_callV (ν := M_Al_size) [] ok_M_Al_size okv_M_Al_size k14 rfl rfl (qm_3 (i := 178) rfl rfl) np_M_Al_size rfl ⟨Nat.le_of_ble_eq_true rfl, Nat.le_of_ble_eq_true rfl⟩ (Nat.le_of_ble_eq_true rfl) rfl d_Cl_counts_81 (Nat.zero_le _) (Nat.zero_le _) (DI.k h (fun v16 w15 gw15 h => (?_ : WD _ _ 84 _ _ _ _ _ _)))
    obtain ⟨h17, h⟩ := h
    refine x_iast (k11.q gw15.k) d_Cl_counts_84 (by decide) h17 (?_ : WD _ _ 85 _ _ _ _ _ _)
    refine x_dup d_Cl_counts_85 rfl (?_ : WD _ _ 86 _ _ _ _ _ _)
    refine x_iconst d_Cl_counts_86 (by decide) (?_ : WD _ _ 87 _ _ _ _ _ _)
    refine x_aload_nP (some x1) d_Cl_counts_87 rfl (?_ : WD _ _ 88 _ _ _ _ _ _)
    obtain ⟨c18, s19, h20, h21, h⟩ := h
    refine x_callV (ν := M_Bo_allCoins) [] ok_M_Bo_allCoins okv_M_Bo_allCoins (((k1.q gw5.k).nu fq10).q gw15.k) rfl rfl (qm_5 (i := 205) rfl rfl) np_M_Bo_allCoins rfl ⟨Nat.le_of_ble_eq_true rfl, Nat.le_of_ble_eq_true rfl⟩ (Nat.le_of_ble_eq_true rfl) rfl d_Cl_counts_88 h20 h21 (DI.k h (fun v23 w22 gw22 h => (?_ : WD _ _ 91 _ _ _ _ _ _)))
    obtain ⟨h24, h⟩ := h
    refine x_iast ((k11.q gw15.k).q gw22.k) d_Cl_counts_91 (by decide) h24 (?_ : WD _ _ 92 _ _ _ _ _ _)
    refine x_dup d_Cl_counts_92 rfl (?_ : WD _ _ 93 _ _ _ _ _ _)
    refine x_iconst d_Cl_counts_93 (by decide) (?_ : WD _ _ 94 _ _ _ _ _ _)
    refine x_aload_nP (some x1) d_Cl_counts_94 rfl (?_ : WD _ _ 95 _ _ _ _ _ _)
    obtain ⟨c25, s26, h27, h28, h⟩ := h
    refine x_callV (ν := M_Bo_owners) [] ok_M_Bo_owners okv_M_Bo_owners ((((k1.q gw5.k).nu fq10).q gw15.k).q gw22.k) rfl rfl (qm_9 (i := 169) rfl rfl) np_M_Bo_owners rfl ⟨Nat.le_of_ble_eq_true rfl, Nat.le_of_ble_eq_true rfl⟩ (Nat.le_of_ble_eq_true rfl) rfl d_Cl_counts_95 h27 h28 (DP.k h (fun v30 w29 gw29 h => (?_ : WD _ _ 98 _ _ _ _ _ _)))
    obtain ⟨a31, e32, h⟩ := h
    rw [e32]
    obtain ⟨n33, h⟩ := h
    obtain ⟨k34, h⟩ := h
    obtain ⟨h35, h⟩ := h
    refine x_alenA k34 (fun _ => rfl) h35 d_Cl_counts_98 (?_ : WD _ _ 99 _ _ _ _ _ _)
    obtain ⟨h36, h⟩ := h
    refine x_iast (((k11.q gw15.k).q gw22.k).q gw29.k) d_Cl_counts_99 (by decide) h36 (?_ : WD _ _ 100 _ _ _ _ _ _)
    refine x_dup d_Cl_counts_100 rfl (?_ : WD _ _ 101 _ _ _ _ _ _)
    refine x_iconst d_Cl_counts_101 (by decide) (?_ : WD _ _ 102 _ _ _ _ _ _)
    refine x_aload_nP (some x1) d_Cl_counts_102 rfl (?_ : WD _ _ 103 _ _ _ _ _ _)
    refine x_getI (ref := "CoinSamplerLaw$Books") (j := 3) 3 (((((k1.q gw5.k).nu fq10).q gw15.k).q gw22.k).q gw29.k) clk_11 (by decide) (qm_2 (i := 162) rfl rfl) (Or.inl rfl) rfl rfl d_Cl_counts_103 (y := (wI w29 x1 3)) (wI_uI_a (fq10.ne (k1.q gw5.k))) (?_ : WD _ _ 106 _ _ _ _ _ _)
    obtain ⟨h37, h⟩ := h
    refine x_iast (((k11.q gw15.k).q gw22.k).q gw29.k) d_Cl_counts_106 (by decide) h37 (?_ : WD _ _ 107 _ _ _ _ _ _)
    refine x_dup d_Cl_counts_107 rfl (?_ : WD _ _ 108 _ _ _ _ _ _)
    refine x_iconst d_Cl_counts_108 (by decide) (?_ : WD _ _ 109 _ _ _ _ _ _)
    refine x_aload_nP (some x1) d_Cl_counts_109 rfl (?_ : WD _ _ 110 _ _ _ _ _ _)
    refine x_getP (ref := "CoinSamplerLaw$Books") (j := 1) 1 (((((k1.q gw5.k).nu fq10).q gw15.k).q gw22.k).q gw29.k) clk_11 (by decide) (qm_2 (i := 158) rfl rfl) (Or.inl rfl) rfl rfl d_Cl_counts_110 (y := (wR w29 x1 1)) rfl (?_ : WD _ _ 113 _ _ _ _ _ _)
    obtain ⟨a38, e39, h⟩ := h
    rw [e39]
    obtain ⟨k40, h⟩ := h
    refine x_callV (ν := M_Al_size) [] ok_M_Al_size okv_M_Al_size k40 rfl rfl (qm_3 (i := 178) rfl rfl) np_M_Al_size rfl ⟨Nat.le_of_ble_eq_true rfl, Nat.le_of_ble_eq_true rfl⟩ (Nat.le_of_ble_eq_true rfl) rfl d_Cl_counts_113 (Nat.zero_le _) (Nat.zero_le _) (DI.k h (fun v42 w41 gw41 h => (?_ : WD _ _ 116 _ _ _ _ _ _)))
    obtain ⟨h43, h⟩ := h
    refine x_iast ((((k11.q gw15.k).q gw22.k).q gw29.k).q gw41.k) d_Cl_counts_116 (by decide) h43 (?_ : WD _ _ 117 _ _ _ _ _ _)
    refine x_dup d_Cl_counts_117 rfl (?_ : WD _ _ 118 _ _ _ _ _ _)
    refine x_iconst d_Cl_counts_118 (by decide) (?_ : WD _ _ 119 _ _ _ _ _ _)
    refine x_aload_nP (some x2) d_Cl_counts_119 rfl (?_ : WD _ _ 120 _ _ _ _ _ _)
    obtain ⟨k44, h⟩ := h
    refine x_callV (ν := M_Al_size) [] ok_M_Al_size okv_M_Al_size k44 rfl rfl (qm_3 (i := 178) rfl rfl) np_M_Al_size rfl ⟨Nat.le_of_ble_eq_true rfl, Nat.le_of_ble_eq_true rfl⟩ (Nat.le_of_ble_eq_true rfl) rfl d_Cl_counts_120 (Nat.zero_le _) (Nat.zero_le _) (DI.k h (fun v46 w45 gw45 h => (?_ : WD _ _ 123 _ _ _ _ _ _)))
    obtain ⟨h47, h⟩ := h
    refine x_iast (((((k11.q gw15.k).q gw22.k).q gw29.k).q gw41.k).q gw45.k) d_Cl_counts_123 (by decide) h47 (?_ : WD _ _ 124 _ _ _ _ _ _)
    refine x_dup d_Cl_counts_124 rfl (?_ : WD _ _ 125 _ _ _ _ _ _)
    refine x_bipush d_Cl_counts_125 (by decide) (by decide) (?_ : WD _ _ 127 _ _ _ _ _ _)
    refine x_iload_n d_Cl_counts_127 rfl (?_ : WD _ _ 128 _ _ _ _ _ _)
    obtain ⟨h48, h⟩ := h
    refine x_iast (((((k11.q gw15.k).q gw22.k).q gw29.k).q gw41.k).q gw45.k) d_Cl_counts_128 (by decide) h48 (?_ : WD _ _ 129 _ _ _ _ _ _)
    refine x_dup d_Cl_counts_129 rfl (?_ : WD _ _ 130 _ _ _ _ _ _)
    refine x_bipush d_Cl_counts_130 (by decide) (by decide) (?_ : WD _ _ 132 _ _ _ _ _ _)
    refine x_iconst d_Cl_counts_132 (by decide) (?_ : WD _ _ 133 _ _ _ _ _ _)
    obtain ⟨h49, h⟩ := h
    refine x_iast (((((k11.q gw15.k).q gw22.k).q gw29.k).q gw41.k).q gw45.k) d_Cl_counts_133 (by decide) h49 (?_ : WD _ _ 134 _ _ _ _ _ _)
    refine x_dup d_Cl_counts_134 rfl (?_ : WD _ _ 135 _ _ _ _ _ _)
    refine x_bipush d_Cl_counts_135 (by decide) (by decide) (?_ : WD _ _ 137 _ _ _ _ _ _)
    refine x_iload d_Cl_counts_137 rfl (?_ : WD _ _ 139 _ _ _ _ _ _)
    obtain ⟨h50, h⟩ := h
    refine x_iast (((((k11.q gw15.k).q gw22.k).q gw29.k).q gw41.k).q gw45.k) d_Cl_counts_139 (by decide) h50 (?_ : WD _ _ 140 _ _ _ _ _ _)
    refine x_dup d_Cl_counts_140 rfl (?_ : WD _ _ 141 _ _ _ _ _ _)
    refine x_bipush d_Cl_counts_141 (by decide) (by decide) (?_ : WD _ _ 143 _ _ _ _ _ _)
    refine x_aload_nP (some x1) d_Cl_counts_143 rfl (?_ : WD _ _ 144 _ _ _ _ _ _)
    refine x_getI (ref := "CoinSamplerLaw$Books") (j := 4) 4 (((((((k1.q gw5.k).nu fq10).q gw15.k).q gw22.k).q gw29.k).q gw41.k).q gw45.k) clk_11 (by decide) (qm_2 (i := 164) rfl rfl) (Or.inl rfl) rfl rfl d_Cl_counts_144 (y := (wI w45 x1 4)) ((wI_uI_a (fq10.ne (k1.q gw5.k))).trans ((wI_uI_a (fq10.ne (k1.q gw5.k))).trans ((wI_uI_a (fq10.ne (k1.q gw5.k))).trans (wI_uI_a (fq10.ne (k1.q gw5.k)))))) (?_ : WD _ _ 147 _ _ _ _ _ _)
    obtain ⟨h51, h⟩ := h
    refine x_iast (((((k11.q gw15.k).q gw22.k).q gw29.k).q gw41.k).q gw45.k) d_Cl_counts_147 (by decide) h51 (?_ : WD _ _ 148 _ _ _ _ _ _)
    refine x_astoreP (some q10) (ls' := [(5, vA q10), (0, vR 0), (1, vA x1), (2, vA x2), (3, vI x3), (4, vI x4)]) d_Cl_counts_148 (by decide) rfl (?_ : WD _ _ 150 _ _ _ _ _ _)
    refine x_iconst d_Cl_counts_150 (by decide) (?_ : WD _ _ 151 _ _ _ _ _ _)
    refine x_istore (ls' := [(6, vI 0), (5, vA q10), (0, vR 0), (1, vA x1), (2, vA x2), (3, vI x3), (4, vI x4)]) d_Cl_counts_151 (by decide) rfl (?_ : WD _ _ 153 _ _ _ _ _ _)
    refine x_pick (ls' := [(0, vR 0), (1, vA x1), (5, vA q10), (6, vI 0)]) [2, 3, 1, 0] rfl ?_
    exact h
  · replace h := h.2 c7
    refine x_iload_n d_Cl_counts_20 rfl (?_ : WD _ _ 21 _ _ _ _ _ _)
    refine x_aload_nP (some x2) d_Cl_counts_21 rfl (?_ : WD _ _ 22 _ _ _ _ _ _)
    refine x_iload d_Cl_counts_22 rfl (?_ : WD _ _ 24 _ _ _ _ _ _)
    obtain ⟨c52, s53, h54, h55, h⟩ := h
    refine x_callS (ν := M_Cl_oftenOf) [vA x2, vI x5] ok_M_Cl_oftenOf oks_M_Cl_oftenOf (qm_6 (i := 200) rfl rfl) np_M_Cl_oftenOf rfl ⟨Nat.le_of_ble_eq_true rfl, Nat.le_of_ble_eq_true rfl⟩ (Nat.le_of_ble_eq_true rfl) rfl d_Cl_counts_24 h54 h55 (DI.k h (fun v57 w56 gw56 h => (?_ : WD _ _ 27 _ _ _ _ _ _)))
    refine x_if_le 34 d_Cl_counts_27 rfl ⟨fun c58 => (?_ : WD _ _ 34 _ _ _ _ _ _), fun c58 => (?_ : WD _ _ 30 _ _ _ _ _ _)⟩
    · replace h := h.1 c58
      refine x_iconst d_Cl_counts_34 (by decide) (?_ : WD _ _ 35 _ _ _ _ _ _)
      obtain ⟨h59, h⟩ := h
      refine x_iadd d_Cl_counts_35 h59 (?_ : WD _ _ 36 _ _ _ _ _ _)
      refine x_istore_n (ls' := [(3, vI (x3 + 0)), (0, vR 0), (1, vA x1), (2, vA x2), (4, vI x4), (5, vI x5)]) d_Cl_counts_36 rfl (by decide) rfl (?_ : WD _ _ 37 _ _ _ _ _ _)
      refine x_iload d_Cl_counts_37 rfl (?_ : WD _ _ 39 _ _ _ _ _ _)
      refine x_aload_nP (some x1) d_Cl_counts_39 rfl (?_ : WD _ _ 40 _ _ _ _ _ _)
      refine x_getP (ref := "CoinSamplerLaw$Books") (j := 0) 0 ((k1.q gw5.k).q gw56.k) clk_11 (by decide) (qm_2 (i := 156) rfl rfl) (Or.inl rfl) rfl rfl d_Cl_counts_40 (y := (wR w56 x1 0)) rfl (?_ : WD _ _ 43 _ _ _ _ _ _)
      refine x_iload d_Cl_counts_43 rfl (?_ : WD _ _ 45 _ _ _ _ _ _)
      obtain ⟨a60, e61, h⟩ := h
      rw [e61]
      obtain ⟨k62, h⟩ := h
      refine x_callV (ν := M_Al_get) [vI x5] ok_M_Al_get okv_M_Al_get k62 rfl rfl (qm_3 (i := 183) rfl rfl) np_M_Al_get rfl ⟨Nat.le_of_ble_eq_true rfl, Nat.le_of_ble_eq_true rfl⟩ (Nat.le_of_ble_eq_true rfl) rfl d_Cl_counts_45 (Nat.zero_le _) (Nat.zero_le _) (DP.k h (fun v64 w63 gw63 h => (?_ : WD _ _ 48 _ _ _ _ _ _)))
      obtain ⟨a65, e66, h⟩ := h
      rw [e66]
      obtain ⟨k67, h⟩ := h
      refine x_cast k67 rfl (Or.inl rfl) (qm_3 (i := 184) rfl rfl) d_Cl_counts_48 (?_ : WD _ _ 51 _ _ _ _ _ _)
      refine x_getI (ref := "CoinSamplerLaw$Item") (j := 3) 3 k67 clk_13 (by decide) (qm_4 (i := 159) rfl rfl) (Or.inl rfl) rfl rfl d_Cl_counts_51 (y := (wI w63 a65 3)) rfl (?_ : WD _ _ 54 _ _ _ _ _ _)
      refine x_if_ge 61 d_Cl_counts_54 rfl ⟨fun c68 => (?_ : WD _ _ 61 _ _ _ _ _ _), fun c68 => (?_ : WD _ _ 57 _ _ _ _ _ _)⟩
      · replace h := h.1 c68
        refine x_iconst d_Cl_counts_61 (by decide) (?_ : WD _ _ 62 _ _ _ _ _ _)
        obtain ⟨h69, h⟩ := h
        refine x_iadd d_Cl_counts_62 h69 (?_ : WD _ _ 63 _ _ _ _ _ _)
        refine x_istore (ls' := [(4, vI (x4 + 1)), (3, vI (x3 + 0)), (0, vR 0), (1, vA x1), (2, vA x2), (5, vI x5)]) d_Cl_counts_63 (by decide) rfl (?_ : WD _ _ 65 _ _ _ _ _ _)
        obtain ⟨h70, h⟩ := h
        refine x_iinc (ls' := [(5, vI (x5 + 1)), (4, vI (x4 + 1)), (3, vI (x3 + 0)), (0, vR 0), (1, vA x1), (2, vA x2)]) d_Cl_counts_65 rfl h70 (by decide) rfl (?_ : WD _ _ 68 _ _ _ _ _ _)
        refine x_goto 8 d_Cl_counts_68 rfl ?_
        refine x_pick (ls' := [(0, vR 0), (1, vA x1), (2, vA x2), (3, vI (x3 + 0)), (4, vI (x4 + 1)), (5, vI (x5 + 1))]) [3, 4, 5, 2, 1, 0] rfl ?_
        exact h
      · replace h := h.2 c68
        refine x_iconst d_Cl_counts_57 (by decide) (?_ : WD _ _ 58 _ _ _ _ _ _)
        refine x_goto 62 d_Cl_counts_58 rfl ?_
        obtain ⟨h71, h⟩ := h
        refine x_iadd d_Cl_counts_62 h71 (?_ : WD _ _ 63 _ _ _ _ _ _)
        refine x_istore (ls' := [(4, vI (x4 + 0)), (3, vI (x3 + 0)), (0, vR 0), (1, vA x1), (2, vA x2), (5, vI x5)]) d_Cl_counts_63 (by decide) rfl (?_ : WD _ _ 65 _ _ _ _ _ _)
        obtain ⟨h72, h⟩ := h
        refine x_iinc (ls' := [(5, vI (x5 + 1)), (4, vI (x4 + 0)), (3, vI (x3 + 0)), (0, vR 0), (1, vA x1), (2, vA x2)]) d_Cl_counts_65 rfl h72 (by decide) rfl (?_ : WD _ _ 68 _ _ _ _ _ _)
        refine x_goto 8 d_Cl_counts_68 rfl ?_
        refine x_pick (ls' := [(0, vR 0), (1, vA x1), (2, vA x2), (3, vI (x3 + 0)), (4, vI (x4 + 0)), (5, vI (x5 + 1))]) [3, 4, 5, 2, 1, 0] rfl ?_
        exact h
    · replace h := h.2 c58
      refine x_iconst d_Cl_counts_30 (by decide) (?_ : WD _ _ 31 _ _ _ _ _ _)
      refine x_goto 35 d_Cl_counts_31 rfl ?_
      obtain ⟨h73, h⟩ := h
      refine x_iadd d_Cl_counts_35 h73 (?_ : WD _ _ 36 _ _ _ _ _ _)
      refine x_istore_n (ls' := [(3, vI (x3 + 1)), (0, vR 0), (1, vA x1), (2, vA x2), (4, vI x4), (5, vI x5)]) d_Cl_counts_36 rfl (by decide) rfl (?_ : WD _ _ 37 _ _ _ _ _ _)
      refine x_iload d_Cl_counts_37 rfl (?_ : WD _ _ 39 _ _ _ _ _ _)
      refine x_aload_nP (some x1) d_Cl_counts_39 rfl (?_ : WD _ _ 40 _ _ _ _ _ _)
      refine x_getP (ref := "CoinSamplerLaw$Books") (j := 0) 0 ((k1.q gw5.k).q gw56.k) clk_11 (by decide) (qm_2 (i := 156) rfl rfl) (Or.inl rfl) rfl rfl d_Cl_counts_40 (y := (wR w56 x1 0)) rfl (?_ : WD _ _ 43 _ _ _ _ _ _)
      refine x_iload d_Cl_counts_43 rfl (?_ : WD _ _ 45 _ _ _ _ _ _)
      obtain ⟨a74, e75, h⟩ := h
      rw [e75]
      obtain ⟨k76, h⟩ := h
      refine x_callV (ν := M_Al_get) [vI x5] ok_M_Al_get okv_M_Al_get k76 rfl rfl (qm_3 (i := 183) rfl rfl) np_M_Al_get rfl ⟨Nat.le_of_ble_eq_true rfl, Nat.le_of_ble_eq_true rfl⟩ (Nat.le_of_ble_eq_true rfl) rfl d_Cl_counts_45 (Nat.zero_le _) (Nat.zero_le _) (DP.k h (fun v78 w77 gw77 h => (?_ : WD _ _ 48 _ _ _ _ _ _)))
      obtain ⟨a79, e80, h⟩ := h
      rw [e80]
      obtain ⟨k81, h⟩ := h
      refine x_cast k81 rfl (Or.inl rfl) (qm_3 (i := 184) rfl rfl) d_Cl_counts_48 (?_ : WD _ _ 51 _ _ _ _ _ _)
      refine x_getI (ref := "CoinSamplerLaw$Item") (j := 3) 3 k81 clk_13 (by decide) (qm_4 (i := 159) rfl rfl) (Or.inl rfl) rfl rfl d_Cl_counts_51 (y := (wI w77 a79 3)) rfl (?_ : WD _ _ 54 _ _ _ _ _ _)
      refine x_if_ge 61 d_Cl_counts_54 rfl ⟨fun c82 => (?_ : WD _ _ 61 _ _ _ _ _ _), fun c82 => (?_ : WD _ _ 57 _ _ _ _ _ _)⟩
      · replace h := h.1 c82
        refine x_iconst d_Cl_counts_61 (by decide) (?_ : WD _ _ 62 _ _ _ _ _ _)
        obtain ⟨h83, h⟩ := h
        refine x_iadd d_Cl_counts_62 h83 (?_ : WD _ _ 63 _ _ _ _ _ _)
        refine x_istore (ls' := [(4, vI (x4 + 1)), (3, vI (x3 + 1)), (0, vR 0), (1, vA x1), (2, vA x2), (5, vI x5)]) d_Cl_counts_63 (by decide) rfl (?_ : WD _ _ 65 _ _ _ _ _ _)
        obtain ⟨h84, h⟩ := h
        refine x_iinc (ls' := [(5, vI (x5 + 1)), (4, vI (x4 + 1)), (3, vI (x3 + 1)), (0, vR 0), (1, vA x1), (2, vA x2)]) d_Cl_counts_65 rfl h84 (by decide) rfl (?_ : WD _ _ 68 _ _ _ _ _ _)
        refine x_goto 8 d_Cl_counts_68 rfl ?_
        refine x_pick (ls' := [(0, vR 0), (1, vA x1), (2, vA x2), (3, vI (x3 + 1)), (4, vI (x4 + 1)), (5, vI (x5 + 1))]) [3, 4, 5, 2, 1, 0] rfl ?_
        exact h
      · replace h := h.2 c82
        refine x_iconst d_Cl_counts_57 (by decide) (?_ : WD _ _ 58 _ _ _ _ _ _)
        refine x_goto 62 d_Cl_counts_58 rfl ?_
        obtain ⟨h85, h⟩ := h
        refine x_iadd d_Cl_counts_62 h85 (?_ : WD _ _ 63 _ _ _ _ _ _)
        refine x_istore (ls' := [(4, vI (x4 + 0)), (3, vI (x3 + 1)), (0, vR 0), (1, vA x1), (2, vA x2), (5, vI x5)]) d_Cl_counts_63 (by decide) rfl (?_ : WD _ _ 65 _ _ _ _ _ _)
        obtain ⟨h86, h⟩ := h
        refine x_iinc (ls' := [(5, vI (x5 + 1)), (4, vI (x4 + 0)), (3, vI (x3 + 1)), (0, vR 0), (1, vA x1), (2, vA x2)]) d_Cl_counts_65 rfl h86 (by decide) rfl (?_ : WD _ _ 68 _ _ _ _ _ _)
        refine x_goto 8 d_Cl_counts_68 rfl ?_
        refine x_pick (ls' := [(0, vR 0), (1, vA x1), (2, vA x2), (3, vI (x3 + 1)), (4, vI (x4 + 0)), (5, vI (x5 + 1))]) [3, 4, 5, 2, 1, 0] rfl ?_
        exact h
set_option maxRecDepth 20000 in
theorem l_Cl_counts_2 {G : Gq} {K : Int → Wd → Prop} {w : Wd} {rc rs : Nat} (x1 : Nat) (x5 : Nat) (x6 : Int) (h : (10 ≤ x6 → WD G M_Cl_counts 185 [(0, vR 0), (1, vA x1), (6, vI 0)] [] w rc rs (yI K)) ∧ (¬ 10 ≤ x6 → CI M_Cs_count [vR 0, vI x6] (wS w) (fun v88 σ89 => ∃ n90 : Nat, ((Is G (uS w σ89) x5 (kA 0 n90)) ∧ (0 ≤ x6) ∧ (x6 < (n90 : Int)) ∧ (v88 = (wI w x5 x6) → (inR (x6 + 1)) ∧ WD G M_Cl_counts 153 [(0, vR 0), (1, vA x1), (5, vA x5), (6, vI (x6 + 1))] [] (uS w σ89) rc rs (yI K)) ∧ (¬ v88 = (wI w x5 x6) → K 0 (uS w σ89)))))) : WD G M_Cl_counts 153 [(0, vR 0), (1, vA x1), (5, vA x5), (6, vI x6)] [] w rc rs (yI K) := by
  refine x_iload d_Cl_counts_153 rfl (?_ : WD _ _ 155 _ _ _ _ _ _)
  refine x_bipush d_Cl_counts_155 (by decide) (by decide) (?_ : WD _ _ 157 _ _ _ _ _ _)
  refine x_icmp_ge 182 d_Cl_counts_157 rfl ⟨fun c87 => (?_ : WD _ _ 182 _ _ _ _ _ _), fun c87 => (?_ : WD _ _ 160 _ _ _ _ _ _)⟩
  · replace h := h.1 c87
    refine x_iconst d_Cl_counts_182 (by decide) (?_ : WD _ _ 183 _ _ _ _ _ _)
    refine x_istore (ls' := [(6, vI 0), (0, vR 0), (1, vA x1), (5, vA x5)]) d_Cl_counts_183 (by decide) rfl (?_ : WD _ _ 185 _ _ _ _ _ _)
    refine x_pick (ls' := [(0, vR 0), (1, vA x1), (6, vI 0)]) [1, 2, 0] rfl ?_
    exact h
  · replace h := h.2 c87
    refine x_aload_n d_Cl_counts_160 rfl (?_ : WD _ _ 161 _ _ _ _ _ _)
    refine x_iload d_Cl_counts_161 rfl (?_ : WD _ _ 163 _ _ _ _ _ _)
    refine x_callC (ν := M_Cs_count) (k := 0) [vI x6] ok_M_Cs_count okv_M_Cs_count (by decide) rfl rfl rfl (qm_10 (i := 158) rfl rfl) np_M_Cs_count rfl ⟨Nat.le_of_ble_eq_true rfl, Nat.le_of_ble_eq_true rfl⟩ (Nat.le_of_ble_eq_true rfl) rfl d_Cl_counts_163 (CI.kd h (fun v88 σ89 h => (?_ : WD _ _ 166 _ _ _ _ _ _)))
    refine x_aloadP (some x5) d_Cl_counts_166 rfl (?_ : WD _ _ 168 _ _ _ _ _ _)
    refine x_iload d_Cl_counts_168 rfl (?_ : WD _ _ 170 _ _ _ _ _ _)
    obtain ⟨n90, h⟩ := h
    obtain ⟨k91, h⟩ := h
    obtain ⟨h92, h⟩ := h
    obtain ⟨h93, h⟩ := h
    refine x_iald k91 d_Cl_counts_170 h92 h93 (y := (wI w x5 x6)) rfl (?_ : WD _ _ 171 _ _ _ _ _ _)
    refine x_icmp_eq 176 d_Cl_counts_171 rfl ⟨fun c94 => (?_ : WD _ _ 176 _ _ _ _ _ _), fun c94 => (?_ : WD _ _ 174 _ _ _ _ _ _)⟩
    · replace h := h.1 c94
      obtain ⟨h95, h⟩ := h
      refine x_iinc (ls' := [(6, vI (x6 + 1)), (0, vR 0), (1, vA x1), (5, vA x5)]) d_Cl_counts_176 rfl h95 (by decide) rfl (?_ : WD _ _ 179 _ _ _ _ _ _)
      refine x_goto 153 d_Cl_counts_179 rfl ?_
      refine x_pick (ls' := [(0, vR 0), (1, vA x1), (5, vA x5), (6, vI (x6 + 1))]) [1, 2, 3, 0] rfl ?_
      exact h
    · replace h := h.2 c94
      refine x_iconst d_Cl_counts_174 (by decide) (?_ : WD _ _ 175 _ _ _ _ _ _)
      exact x_zreturn rfl d_Cl_counts_175 (by decide) h
set_option maxRecDepth 20000 in
theorem l_Cl_counts_3 {G : Gq} {K : Int → Wd → Prop} {w : Wd} {rc rs : Nat} (x1 : Nat) (x6 : Int) (h : (5 ≤ x6 → CI M_Cs_count [vR 0, vI 15] (wS w) (fun v97 σ98 => (¬ v97 = (-1) → K 0 (uS w σ98)) ∧ (v97 = (-1) → CI M_Cs_count [vR 0, vI (-1)] (wS (uS w σ98)) (fun v100 σ101 => (¬ v100 = (-1) → K 0 (uS (uS w σ98) σ101)) ∧ (v100 = (-1) → K 1 (uS (uS w σ98) σ101)))))) ∧ (¬ 5 ≤ x6 → (inR (10 + x6)) ∧ CI M_Cs_count [vR 0, vI (10 + x6)] (wS w) (fun v104 σ105 => (Is G (uS w σ105) x1 (kO 11)) ∧ ∃ a107 : Nat, (wR w x1 2) = some a107 ∧ (∃ n109 : Nat, ((Is G (uS w σ105) a107 (kA 0 n109)) ∧ (0 ≤ x6) ∧ (x6 < (n109 : Int)) ∧ (v104 = (wI w a107 x6) → (inR (x6 + 1)) ∧ WD G M_Cl_counts 185 [(0, vR 0), (1, vA x1), (6, vI (x6 + 1))] [] (uS w σ105) rc rs (yI K)) ∧ (¬ v104 = (wI w a107 x6) → K 0 (uS w σ105))))))) : WD G M_Cl_counts 185 [(0, vR 0), (1, vA x1), (6, vI x6)] [] w rc rs (yI K) := by
  refine x_iload d_Cl_counts_185 rfl (?_ : WD _ _ 187 _ _ _ _ _ _)
  refine x_iconst d_Cl_counts_187 (by decide) (?_ : WD _ _ 188 _ _ _ _ _ _)
  refine x_icmp_ge 218 d_Cl_counts_188 rfl ⟨fun c96 => (?_ : WD _ _ 218 _ _ _ _ _ _), fun c96 => (?_ : WD _ _ 191 _ _ _ _ _ _)⟩
  · replace h := h.1 c96
    refine x_aload_n d_Cl_counts_218 rfl (?_ : WD _ _ 219 _ _ _ _ _ _)
    refine x_bipush d_Cl_counts_219 (by decide) (by decide) (?_ : WD _ _ 221 _ _ _ _ _ _)
    refine x_callC (ν := M_Cs_count) (k := 0) [vI 15] ok_M_Cs_count okv_M_Cs_count (by decide) rfl rfl rfl (qm_10 (i := 158) rfl rfl) np_M_Cs_count rfl ⟨Nat.le_of_ble_eq_true rfl, Nat.le_of_ble_eq_true rfl⟩ (Nat.le_of_ble_eq_true rfl) rfl d_Cl_counts_221 (CI.kd h (fun v97 σ98 h => (?_ : WD _ _ 224 _ _ _ _ _ _)))
    refine x_iconst d_Cl_counts_224 (by decide) (?_ : WD _ _ 225 _ _ _ _ _ _)
    refine x_icmp_ne 241 d_Cl_counts_225 rfl ⟨fun c99 => (?_ : WD _ _ 241 _ _ _ _ _ _), fun c99 => (?_ : WD _ _ 228 _ _ _ _ _ _)⟩
    · replace h := h.1 c99
      refine x_iconst d_Cl_counts_241 (by decide) (?_ : WD _ _ 242 _ _ _ _ _ _)
      exact x_zreturn rfl d_Cl_counts_242 (by decide) h
    · replace h := h.2 c99
      refine x_aload_n d_Cl_counts_228 rfl (?_ : WD _ _ 229 _ _ _ _ _ _)
      refine x_iconst d_Cl_counts_229 (by decide) (?_ : WD _ _ 230 _ _ _ _ _ _)
      refine x_callC (ν := M_Cs_count) (k := 0) [vI (-1)] ok_M_Cs_count okv_M_Cs_count (by decide) rfl rfl rfl (qm_10 (i := 158) rfl rfl) np_M_Cs_count rfl ⟨Nat.le_of_ble_eq_true rfl, Nat.le_of_ble_eq_true rfl⟩ (Nat.le_of_ble_eq_true rfl) rfl d_Cl_counts_230 (CI.kd h (fun v100 σ101 h => (?_ : WD _ _ 233 _ _ _ _ _ _)))
      refine x_iconst d_Cl_counts_233 (by decide) (?_ : WD _ _ 234 _ _ _ _ _ _)
      refine x_icmp_ne 241 d_Cl_counts_234 rfl ⟨fun c102 => (?_ : WD _ _ 241 _ _ _ _ _ _), fun c102 => (?_ : WD _ _ 237 _ _ _ _ _ _)⟩
      · replace h := h.1 c102
        refine x_iconst d_Cl_counts_241 (by decide) (?_ : WD _ _ 242 _ _ _ _ _ _)
        exact x_zreturn rfl d_Cl_counts_242 (by decide) h
      · replace h := h.2 c102
        refine x_iconst d_Cl_counts_237 (by decide) (?_ : WD _ _ 238 _ _ _ _ _ _)
        refine x_goto 242 d_Cl_counts_238 rfl ?_
        exact x_zreturn rfl d_Cl_counts_242 (by decide) h
  · replace h := h.2 c96
    refine x_aload_n d_Cl_counts_191 rfl (?_ : WD _ _ 192 _ _ _ _ _ _)
    refine x_bipush d_Cl_counts_192 (by decide) (by decide) (?_ : WD _ _ 194 _ _ _ _ _ _)
    refine x_iload d_Cl_counts_194 rfl (?_ : WD _ _ 196 _ _ _ _ _ _)
    obtain ⟨h103, h⟩ := h
    refine x_iadd d_Cl_counts_196 h103 (?_ : WD _ _ 197 _ _ _ _ _ _)
    refine x_callC (ν := M_Cs_count) (k := 0) [vI (10 + x6)] ok_M_Cs_count okv_M_Cs_count (by decide) rfl rfl rfl (qm_10 (i := 158) rfl rfl) np_M_Cs_count rfl ⟨Nat.le_of_ble_eq_true rfl, Nat.le_of_ble_eq_true rfl⟩ (Nat.le_of_ble_eq_true rfl) rfl d_Cl_counts_197 (CI.kd h (fun v104 σ105 h => (?_ : WD _ _ 200 _ _ _ _ _ _)))
    refine x_aload_nP (some x1) d_Cl_counts_200 rfl (?_ : WD _ _ 201 _ _ _ _ _ _)
    obtain ⟨k106, h⟩ := h
    refine x_getP (ref := "CoinSamplerLaw$Books") (j := 2) 2 k106 clk_11 (by decide) (qm_2 (i := 160) rfl rfl) (Or.inl rfl) rfl rfl d_Cl_counts_201 (y := (wR w x1 2)) rfl (?_ : WD _ _ 204 _ _ _ _ _ _)
    refine x_iload d_Cl_counts_204 rfl (?_ : WD _ _ 206 _ _ _ _ _ _)
    obtain ⟨a107, e108, h⟩ := h
    rw [e108]
    obtain ⟨n109, h⟩ := h
    obtain ⟨k110, h⟩ := h
    obtain ⟨h111, h⟩ := h
    obtain ⟨h112, h⟩ := h
    refine x_iald k110 d_Cl_counts_206 h111 h112 (y := (wI w a107 x6)) rfl (?_ : WD _ _ 207 _ _ _ _ _ _)
    refine x_icmp_eq 212 d_Cl_counts_207 rfl ⟨fun c113 => (?_ : WD _ _ 212 _ _ _ _ _ _), fun c113 => (?_ : WD _ _ 210 _ _ _ _ _ _)⟩
    · replace h := h.1 c113
      obtain ⟨h114, h⟩ := h
      refine x_iinc (ls' := [(6, vI (x6 + 1)), (0, vR 0), (1, vA x1)]) d_Cl_counts_212 rfl h114 (by decide) rfl (?_ : WD _ _ 215 _ _ _ _ _ _)
      refine x_goto 185 d_Cl_counts_215 rfl ?_
      refine x_pick (ls' := [(0, vR 0), (1, vA x1), (6, vI (x6 + 1))]) [1, 2, 0] rfl ?_
      exact h
    · replace h := h.2 c113
      refine x_iconst d_Cl_counts_210 (by decide) (?_ : WD _ _ 211 _ _ _ _ _ _)
      exact x_zreturn rfl d_Cl_counts_211 (by decide) h
set_option maxRecDepth 20000 in
theorem e_Cl_draw {G : Gq} {K : Int → Wd → Prop} {w : Wd} {mc ms : Nat} (x0 : Nat) (x1 : Int) (h : ∃ n1 : Nat, ((Is G w x0 (kA 0 n1)) ∧ (0 < (n1 : Int)) ∧ (Ow w x0 (kA 0 n1)) ∧ (0 ≤ (iushrq (wr ((wr (1103515245 * (wI w x0 0))) + 12345)) 16)) ∧ (0 < x1) ∧ K ((iushrq (wr ((wr (1103515245 * (wI w x0 0))) + 12345)) 16) % x1) (uI w x0 0 (wr ((wr (1103515245 * (wI w x0 0))) + 12345))))) : DI G M_Cl_draw [vA x0, vI x1] w mc ms K := by
  refine DC.of ok_M_Cl_draw (ls := [(0, vA x0), (1, vI x1)]) rfl (Nat.le_of_ble_eq_true rfl) ?_
  refine x_aload_nP (some x0) d_Cl_draw_0 rfl (?_ : WD _ _ 1 _ _ _ _ _ _)
  refine x_iconst d_Cl_draw_1 (by decide) (?_ : WD _ _ 2 _ _ _ _ _ _)
  refine x_ldc 1103515245 d_Cl_draw_2 (qm_3 (i := 182) rfl rfl) (by decide) (by decide) (?_ : WD _ _ 4 _ _ _ _ _ _)
  refine x_aload_nP (some x0) d_Cl_draw_4 rfl (?_ : WD _ _ 5 _ _ _ _ _ _)
  refine x_iconst d_Cl_draw_5 (by decide) (?_ : WD _ _ 6 _ _ _ _ _ _)
  obtain ⟨n1, h⟩ := h
  obtain ⟨k2, h⟩ := h
  obtain ⟨h3, h⟩ := h
  refine x_iald k2 d_Cl_draw_6 (by decide) h3 (y := (wI w x0 0)) rfl (?_ : WD _ _ 7 _ _ _ _ _ _)
  refine x_imulw d_Cl_draw_7 (?_ : WD _ _ 8 _ _ _ _ _ _)
  refine x_sipush d_Cl_draw_8 (by decide) (by decide) (?_ : WD _ _ 11 _ _ _ _ _ _)
  refine x_iaddw d_Cl_draw_11 (?_ : WD _ _ 12 _ _ _ _ _ _)
  obtain ⟨k4, h⟩ := h
  refine x_iast k4 d_Cl_draw_12 (by decide) h3 (?_ : WD _ _ 13 _ _ _ _ _ _)
  refine x_aload_nP (some x0) d_Cl_draw_13 rfl (?_ : WD _ _ 14 _ _ _ _ _ _)
  refine x_iconst d_Cl_draw_14 (by decide) (?_ : WD _ _ 15 _ _ _ _ _ _)
  refine x_iald k4.is d_Cl_draw_15 (by decide) h3 (y := (wr ((wr (1103515245 * (wI w x0 0))) + 12345))) (wI_uI_s) (?_ : WD _ _ 16 _ _ _ _ _ _)
  refine x_bipush d_Cl_draw_16 (by decide) (by decide) (?_ : WD _ _ 18 _ _ _ _ _ _)
  refine x_iushrq d_Cl_draw_18 (?_ : WD _ _ 19 _ _ _ _ _ _)
  refine x_iload_n d_Cl_draw_19 rfl (?_ : WD _ _ 20 _ _ _ _ _ _)
  obtain ⟨h5, h⟩ := h
  obtain ⟨h6, h⟩ := h
  refine x_iremn d_Cl_draw_20 h5 h6 (?_ : WD _ _ 21 _ _ _ _ _ _)
  exact x_ireturn rfl d_Cl_draw_21 h
set_option maxRecDepth 20000 in
theorem e_Cl_drawn {G : Gq} {K : Option Nat → Wd → Prop} {w : Wd} {mc ms : Nat} (x0 : Nat) (x1 : Nat) (h : (1 ≤ mc) ∧ (4 ≤ ms) ∧ ∀ q3 : Nat, Fr G w q3 → (∃ c5 s6 : Nat, c5 ≤ (mc - 1) ∧ s6 ≤ (ms - 4) ∧ (DV G M_Sb_init [vA q3] (uN w q3 (kO 17)) c5 s6 (fun w9 => (Is G w9 x0 (kO 11)) ∧ ∃ a12 : Nat, (wR w9 x0 0) = some a12 ∧ ((Is G w9 a12 (kO 14)) ∧ DV G M_Al_clear [vA a12] w9 0 0 (fun w15 => ∃ a17 : Nat, (wR w15 x0 1) = some a17 ∧ ((Is G w15 a17 (kO 14)) ∧ DV G M_Al_clear [vA a17] w15 0 0 (fun w20 => (Ow w20 x0 (kO 11)) ∧ ∃ a23 : Nat, (wR w20 x0 2) = some a23 ∧ (∃ n25 : Nat, ((Is G (uI w20 x0 3 0) a23 (kA 0 n25)) ∧ (4 < (n25 : Int)) ∧ DI G M_Cl_draw [vA x1, vI 6] (uI (uI w20 x0 3 0) x0 4 (wI (uI w20 x0 3 0) a23 4)) 0 0 (fun v29 w28 => (¬ v29 = 0 → DI G M_Cl_draw [vA x1, vI 26] w28 0 0 (fun v32 w31 => (inR (3 + v32)) ∧ WD G M_Cl_drawn 62 [(0, vA x0), (1, vA x1), (2, vA q3)] [vI (3 + v32)] w31 ((mc - 1) - c5) ((ms - 4) - s6) (yP K))) ∧ (v29 = 0 → DI G M_Cl_draw [vA x1, vI 3] w28 0 0 (fun v35 w34 => WD G M_Cl_drawn 62 [(0, vA x0), (1, vA x1), (2, vA q3)] [vI v35] w34 ((mc - 1) - c5) ((ms - 4) - s6) (yP K)))))))))))))) : DP G M_Cl_drawn [vA x0, vA x1] w mc ms K := by
  refine DC.of ok_M_Cl_drawn (ls := [(0, vA x0), (1, vA x1)]) rfl (Nat.le_of_ble_eq_true rfl) ?_
  obtain ⟨h1, h⟩ := h
  obtain ⟨h2, h⟩ := h
  refine x_new d_Cl_drawn_0 clk_17 tyJ4_ok (qm_3 (i := 188) rfl rfl) (qm_3 (i := 189) rfl rfl) (qm_1 (i := 19) rfl rfl) hfd_17 h1 h2 (fun q3 fq3 => (?_ : WD _ _ 3 _ _ _ _ _ _))
  replace h := h q3 fq3
  have k4 : Ow (uN w q3 (kO 17)) q3 (kO 17) := Ow.nw
  refine x_dup d_Cl_drawn_3 rfl (?_ : WD _ _ 4 _ _ _ _ _ _)
  obtain ⟨c5, s6, h7, h8, h⟩ := h
  refine x_callI (ν := M_Sb_init) [] ok_M_Sb_init oki_M_Sb_init rfl rfl (qm_3 (i := 190) rfl rfl) np_M_Sb_init rfl ⟨Nat.le_of_ble_eq_true rfl, Nat.le_of_ble_eq_true rfl⟩ (Nat.le_of_ble_eq_true rfl) rfl d_Cl_drawn_4 h7 h8 (DV.k h (fun w9 gw9 h => (?_ : WD _ _ 7 _ _ _ _ _ _)))
  refine x_astore_nP (some q3) (ls' := [(2, vA q3), (0, vA x0), (1, vA x1)]) d_Cl_drawn_7 rfl (by decide) rfl (?_ : WD _ _ 8 _ _ _ _ _ _)
  refine x_aload_nP (some x0) d_Cl_drawn_8 rfl (?_ : WD _ _ 9 _ _ _ _ _ _)
  obtain ⟨k11, h⟩ := h
  refine x_getP (ref := "CoinSamplerLaw$Books") (j := 0) 0 k11 clk_11 (by decide) (qm_2 (i := 156) rfl rfl) (Or.inl rfl) rfl rfl d_Cl_drawn_9 (y := (wR w9 x0 0)) rfl (?_ : WD _ _ 12 _ _ _ _ _ _)
  obtain ⟨a12, e13, h⟩ := h
  rw [e13]
  obtain ⟨k14, h⟩ := h
  refine x_callV (ν := M_Al_clear) [] ok_M_Al_clear okv_M_Al_clear k14 rfl rfl (qm_3 (i := 219) rfl rfl) np_M_Al_clear rfl ⟨Nat.le_of_ble_eq_true rfl, Nat.le_of_ble_eq_true rfl⟩ (Nat.le_of_ble_eq_true rfl) rfl d_Cl_drawn_12 (Nat.zero_le _) (Nat.zero_le _) (DV.k h (fun w15 gw15 h => (?_ : WD _ _ 15 _ _ _ _ _ _)))
  refine x_aload_nP (some x0) d_Cl_drawn_15 rfl (?_ : WD _ _ 16 _ _ _ _ _ _)
  refine x_getP (ref := "CoinSamplerLaw$Books") (j := 1) 1 (k11.q gw15.k) clk_11 (by decide) (qm_2 (i := 158) rfl rfl) (Or.inl rfl) rfl rfl d_Cl_drawn_16 (y := (wR w15 x0 1)) rfl (?_ : WD _ _ 19 _ _ _ _ _ _)
  obtain ⟨a17, e18, h⟩ := h
  rw [e18]
  obtain ⟨k19, h⟩ := h
  refine x_callV (ν := M_Al_clear) [] ok_M_Al_clear okv_M_Al_clear k19 rfl rfl (qm_3 (i := 219) rfl rfl) np_M_Al_clear rfl ⟨Nat.le_of_ble_eq_true rfl, Nat.le_of_ble_eq_true rfl⟩ (Nat.le_of_ble_eq_true rfl) rfl d_Cl_drawn_19 (Nat.zero_le _) (Nat.zero_le _) (DV.k h (fun w20 gw20 h => (?_ : WD _ _ 22 _ _ _ _ _ _)))
  refine x_aload_nP (some x0) d_Cl_drawn_22 rfl (?_ : WD _ _ 23 _ _ _ _ _ _)
  refine x_iconst d_Cl_drawn_23 (by decide) (?_ : WD _ _ 24 _ _ _ _ _ _)
  obtain ⟨k22, h⟩ := h
  refine x_putI (ref := "CoinSamplerLaw$Books") (j := 3) 3 k22 clk_11 (by decide) (qm_2 (i := 162) rfl rfl) (Or.inl rfl) (Or.inl rfl) tyX11_ok rfl nmX11 d_Cl_drawn_24 rfl rfl (fun _ => rfl) rfl (?_ : WD _ _ 27 _ _ _ _ _ _)
  refine x_aload_nP (some x0) d_Cl_drawn_27 rfl (?_ : WD _ _ 28 _ _ _ _ _ _)
  refine x_aload_nP (some x0) d_Cl_drawn_28 rfl (?_ : WD _ _ 29 _ _ _ _ _ _)
  refine x_getP (ref := "CoinSamplerLaw$Books") (j := 2) 2 k22.is clk_11 (by decide) (qm_2 (i := 160) rfl rfl) (Or.inl rfl) rfl rfl d_Cl_drawn_29 (y := (wR w20 x0 2)) rfl (?_ : WD _ _ 32 _ _ _ _ _ _)
  refine x_iconst d_Cl_drawn_32 (by decide) (?_ : WD _ _ 33 _ _ _ _ _ _)
  obtain ⟨a23, e24, h⟩ := h
  rw [e24]
  obtain ⟨n25, h⟩ := h
  obtain ⟨k26, h⟩ := h
  obtain ⟨h27, h⟩ := h
  refine x_iald k26 d_Cl_drawn_33 (by decide) h27 (y := (wI (uI w20 x0 3 0) a23 4)) rfl (?_ : WD _ _ 34 _ _ _ _ _ _)
  refine x_putI (ref := "CoinSamplerLaw$Books") (j := 4) 4 k22 clk_11 (by decide) (qm_2 (i := 164) rfl rfl) (Or.inl rfl) (Or.inl rfl) tyX11_ok rfl nmX11 d_Cl_drawn_34 rfl rfl (fun _ => rfl) rfl (?_ : WD _ _ 37 _ _ _ _ _ _)
  refine x_aload_nP (some x1) d_Cl_drawn_37 rfl (?_ : WD _ _ 38 _ _ _ _ _ _)
  refine x_bipush d_Cl_drawn_38 (by decide) (by decide) (?_ : WD _ _ 40 _ _ _ _ _ _)
  refine x_callS (ν := M_Cl_draw) [vA x1, vI 6] ok_M_Cl_draw oks_M_Cl_draw (qm_3 (i := 179) rfl rfl) np_M_Cl_draw rfl ⟨Nat.le_of_ble_eq_true rfl, Nat.le_of_ble_eq_true rfl⟩ (Nat.le_of_ble_eq_true rfl) rfl d_Cl_drawn_40 (Nat.zero_le _) (Nat.zero_le _) (DI.k h (fun v29 w28 gw28 h => (?_ : WD _ _ 43 _ _ _ _ _ _)))
  refine x_if_ne 54 d_Cl_drawn_43 rfl ⟨fun c30 => (?_ : WD _ _ 54 _ _ _ _ _ _), fun c30 => (?_ : WD _ _ 46 _ _ _ _ _ _)⟩
  · replace h := h.1 c30
    refine x_iconst d_Cl_drawn_54 (by decide) (?_ : WD _ _ 55 _ _ _ _ _ _)
    refine x_aload_nP (some x1) d_Cl_drawn_55 rfl (?_ : WD _ _ 56 _ _ _ _ _ _)
    refine x_bipush d_Cl_drawn_56 (by decide) (by decide) (?_ : WD _ _ 58 _ _ _ _ _ _)
    refine x_callS (ν := M_Cl_draw) [vA x1, vI 26] ok_M_Cl_draw oks_M_Cl_draw (qm_3 (i := 179) rfl rfl) np_M_Cl_draw rfl ⟨Nat.le_of_ble_eq_true rfl, Nat.le_of_ble_eq_true rfl⟩ (Nat.le_of_ble_eq_true rfl) rfl d_Cl_drawn_58 (Nat.zero_le _) (Nat.zero_le _) (DI.k h (fun v32 w31 gw31 h => (?_ : WD _ _ 61 _ _ _ _ _ _)))
    obtain ⟨h33, h⟩ := h
    refine x_iadd d_Cl_drawn_61 h33 (?_ : WD _ _ 62 _ _ _ _ _ _)
    refine x_pick (ls' := [(0, vA x0), (1, vA x1), (2, vA q3)]) [1, 2, 0] rfl ?_
    exact h
  · replace h := h.2 c30
    refine x_aload_nP (some x1) d_Cl_drawn_46 rfl (?_ : WD _ _ 47 _ _ _ _ _ _)
    refine x_iconst d_Cl_drawn_47 (by decide) (?_ : WD _ _ 48 _ _ _ _ _ _)
    refine x_callS (ν := M_Cl_draw) [vA x1, vI 3] ok_M_Cl_draw oks_M_Cl_draw (qm_3 (i := 179) rfl rfl) np_M_Cl_draw rfl ⟨Nat.le_of_ble_eq_true rfl, Nat.le_of_ble_eq_true rfl⟩ (Nat.le_of_ble_eq_true rfl) rfl d_Cl_drawn_48 (Nat.zero_le _) (Nat.zero_le _) (DI.k h (fun v35 w34 gw34 h => (?_ : WD _ _ 51 _ _ _ _ _ _)))
    refine x_goto 62 d_Cl_drawn_51 rfl ?_
    refine x_pick (ls' := [(0, vA x0), (1, vA x1), (2, vA q3)]) [1, 2, 0] rfl ?_
    exact h
set_option maxRecDepth 20000 in
theorem l_Cl_drawn_1 {G : Gq} {K : Option Nat → Wd → Prop} {w : Wd} {rc rs : Nat} (x0 : Nat) (x1 : Nat) (x2 : Nat) (y0 : Int) (h : DI G M_Cl_draw [vA x1, vI 3] w 0 0 (fun v37 w36 => (¬ v37 = 0 → WD G M_Cl_drawn 80 [(0, vA x0), (1, vA x1), (2, vA x2), (3, vI y0)] [vI 180] w36 rc rs (yP K)) ∧ (v37 = 0 → WD G M_Cl_drawn 80 [(0, vA x0), (1, vA x1), (2, vA x2), (3, vI y0)] [vI 900] w36 rc rs (yP K)))) : WD G M_Cl_drawn 62 [(0, vA x0), (1, vA x1), (2, vA x2)] [vI y0] w rc rs (yP K) := by
  refine x_istore_n (ls' := [(3, vI y0), (0, vA x0), (1, vA x1), (2, vA x2)]) d_Cl_drawn_62 rfl (by decide) rfl (?_ : WD _ _ 63 _ _ _ _ _ _)
  refine x_aload_nP (some x1) d_Cl_drawn_63 rfl (?_ : WD _ _ 64 _ _ _ _ _ _)
  refine x_iconst d_Cl_drawn_64 (by decide) (?_ : WD _ _ 65 _ _ _ _ _ _)
  refine x_callS (ν := M_Cl_draw) [vA x1, vI 3] ok_M_Cl_draw oks_M_Cl_draw (qm_3 (i := 179) rfl rfl) np_M_Cl_draw rfl ⟨Nat.le_of_ble_eq_true rfl, Nat.le_of_ble_eq_true rfl⟩ (Nat.le_of_ble_eq_true rfl) rfl d_Cl_drawn_65 (Nat.zero_le _) (Nat.zero_le _) (DI.k h (fun v37 w36 gw36 h => (?_ : WD _ _ 68 _ _ _ _ _ _)))
  refine x_if_ne 77 d_Cl_drawn_68 rfl ⟨fun c38 => (?_ : WD _ _ 77 _ _ _ _ _ _), fun c38 => (?_ : WD _ _ 71 _ _ _ _ _ _)⟩
  · replace h := h.1 c38
    refine x_sipush d_Cl_drawn_77 (by decide) (by decide) (?_ : WD _ _ 80 _ _ _ _ _ _)
    refine x_pick (ls' := [(0, vA x0), (1, vA x1), (2, vA x2), (3, vI y0)]) [1, 2, 3, 0] rfl ?_
    exact h
  · replace h := h.2 c38
    refine x_sipush d_Cl_drawn_71 (by decide) (by decide) (?_ : WD _ _ 74 _ _ _ _ _ _)
    refine x_goto 80 d_Cl_drawn_74 rfl ?_
    refine x_pick (ls' := [(0, vA x0), (1, vA x1), (2, vA x2), (3, vI y0)]) [1, 2, 3, 0] rfl ?_
    exact h
set_option maxRecDepth 20000 in
theorem l_Cl_drawn_2 {G : Gq} {K : Option Nat → Wd → Prop} {w : Wd} {rc rs : Nat} (x0 : Nat) (x1 : Nat) (x2 : Nat) (x3 : Int) (y0 : Int) (h : WD G M_Cl_drawn 82 [(0, vA x0), (1, vA x1), (2, vA x2), (3, vI x3), (4, vI y0)] [] w rc rs (yP K)) : WD G M_Cl_drawn 80 [(0, vA x0), (1, vA x1), (2, vA x2), (3, vI x3)] [vI y0] w rc rs (yP K) := by
  refine x_istore (ls' := [(4, vI y0), (0, vA x0), (1, vA x1), (2, vA x2), (3, vI x3)]) d_Cl_drawn_80 (by decide) rfl (?_ : WD _ _ 82 _ _ _ _ _ _)
  refine x_pick (ls' := [(0, vA x0), (1, vA x1), (2, vA x2), (3, vI x3), (4, vI y0)]) [1, 2, 3, 4, 0] rfl ?_
  exact h
set_option maxRecDepth 20000 in
theorem l_Cl_drawn_3 {G : Gq} {K : Option Nat → Wd → Prop} {w : Wd} {rc rs : Nat} (x0 : Nat) (x1 : Nat) (x2 : Nat) (x3 : Int) (x4 : Int) (h : (inR (x3 + (-1))) ∧ (x3 ≤ 0 → ∃ c41 s42 : Nat, c41 ≤ rc ∧ s42 ≤ rs ∧ ((Is G w x2 (kO 17)) ∧ DP G M_Sb_toString [vA x2] w c41 s42 (fun v47 w46 => K v47 w46))) ∧ (¬ x3 ≤ 0 → (Is G w x2 (kO 17)) ∧ DI G M_Sb_length [vA x2] w 0 0 (fun v50 w49 => (860 ≤ v50 → ∃ c52 s53 : Nat, c52 ≤ rc ∧ s53 ≤ rs ∧ (DP G M_Sb_toString [vA x2] w49 c52 s53 (fun v57 w56 => K v57 w56))) ∧ (¬ 860 ≤ v50 → (Is G w49 x0 (kO 11)) ∧ ∃ a59 : Nat, (wR w49 x0 0) = some a59 ∧ ((Is G w49 a59 (kO 14)) ∧ DI G M_Al_isEmpty [vA a59] w49 0 0 (fun v63 w62 => (¬ v63 = 0 → WD G M_Cl_drawn 142 [(0, vA x0), (1, vA x1), (2, vA x2), (3, vI (x3 + (-1))), (4, vI x4)] [vP none] w62 rc rs (yP K)) ∧ (v63 = 0 → DI G M_Cl_draw [vA x1, vI 4] w62 0 0 (fun v66 w65 => (v66 ≤ 0 → ∃ a68 : Nat, (wR w65 x0 0) = some a68 ∧ ((Is G w65 a68 (kO 14)) ∧ DI G M_Al_size [vA a68] w65 0 0 (fun v72 w71 => DI G M_Cl_draw [vA x1, vI v72] w71 0 0 (fun v74 w73 => DP G M_Al_get [vA a68, vI v74] w73 0 0 (fun v76 w75 => ∃ a77 : Nat, v76 = some a77 ∧ ((Is G w75 a77 (kO 13)) ∧ WD G M_Cl_drawn 142 [(0, vA x0), (1, vA x1), (2, vA x2), (3, vI (x3 + (-1))), (4, vI x4)] [vP (some a77)] w75 rc rs (yP K))))))) ∧ (¬ v66 ≤ 0 → WD G M_Cl_drawn 142 [(0, vA x0), (1, vA x1), (2, vA x2), (3, vI (x3 + (-1))), (4, vI x4)] [vP none] w65 rc rs (yP K)))))))))) : WD G M_Cl_drawn 82 [(0, vA x0), (1, vA x1), (2, vA x2), (3, vI x3), (4, vI x4)] [] w rc rs (yP K) := by
  refine x_iload_n d_Cl_drawn_82 rfl (?_ : WD _ _ 83 _ _ _ _ _ _)
  obtain ⟨h39, h⟩ := h
  refine x_iinc (ls' := [(3, vI (x3 + (-1))), (0, vA x0), (1, vA x1), (2, vA x2), (4, vI x4)]) d_Cl_drawn_83 rfl h39 (by decide) rfl (?_ : WD _ _ 86 _ _ _ _ _ _)
  refine x_if_le 431 d_Cl_drawn_86 rfl ⟨fun c40 => (?_ : WD _ _ 431 _ _ _ _ _ _), fun c40 => (?_ : WD _ _ 89 _ _ _ _ _ _)⟩
  · replace h := h.1 c40
    refine x_aload_nP (some x2) d_Cl_drawn_431 rfl (?_ : WD _ _ 432 _ _ _ _ _ _)
    obtain ⟨c41, s42, h43, h44, h⟩ := h
    obtain ⟨k45, h⟩ := h
    refine x_callV (ν := M_Sb_toString) [] ok_M_Sb_toString okv_M_Sb_toString k45 rfl rfl (qm_4 (i := 182) rfl rfl) np_M_Sb_toString rfl ⟨Nat.le_of_ble_eq_true rfl, Nat.le_of_ble_eq_true rfl⟩ (Nat.le_of_ble_eq_true rfl) rfl d_Cl_drawn_432 h43 h44 (DP.k h (fun v47 w46 gw46 h => (?_ : WD _ _ 435 _ _ _ _ _ _)))
    exact x_areturn v47 rfl (Or.inl ⟨_, rfl⟩) d_Cl_drawn_435 h
  · replace h := h.2 c40
    refine x_aload_nP (some x2) d_Cl_drawn_89 rfl (?_ : WD _ _ 90 _ _ _ _ _ _)
    obtain ⟨k48, h⟩ := h
    refine x_callV (ν := M_Sb_length) [] ok_M_Sb_length okv_M_Sb_length k48 rfl rfl (qm_3 (i := 223) rfl rfl) np_M_Sb_length rfl ⟨Nat.le_of_ble_eq_true rfl, Nat.le_of_ble_eq_true rfl⟩ (Nat.le_of_ble_eq_true rfl) rfl d_Cl_drawn_90 (Nat.zero_le _) (Nat.zero_le _) (DI.k h (fun v50 w49 gw49 h => (?_ : WD _ _ 93 _ _ _ _ _ _)))
    refine x_sipush d_Cl_drawn_93 (by decide) (by decide) (?_ : WD _ _ 96 _ _ _ _ _ _)
    refine x_icmp_ge 431 d_Cl_drawn_96 rfl ⟨fun c51 => (?_ : WD _ _ 431 _ _ _ _ _ _), fun c51 => (?_ : WD _ _ 99 _ _ _ _ _ _)⟩
    · replace h := h.1 c51
      refine x_aload_nP (some x2) d_Cl_drawn_431 rfl (?_ : WD _ _ 432 _ _ _ _ _ _)
      obtain ⟨c52, s53, h54, h55, h⟩ := h
      refine x_callV (ν := M_Sb_toString) [] ok_M_Sb_toString okv_M_Sb_toString (k48.q gw49.k) rfl rfl (qm_4 (i := 182) rfl rfl) np_M_Sb_toString rfl ⟨Nat.le_of_ble_eq_true rfl, Nat.le_of_ble_eq_true rfl⟩ (Nat.le_of_ble_eq_true rfl) rfl d_Cl_drawn_432 h54 h55 (DP.k h (fun v57 w56 gw56 h => (?_ : WD _ _ 435 _ _ _ _ _ _)))
      exact x_areturn v57 rfl (Or.inl ⟨_, rfl⟩) d_Cl_drawn_435 h
    · replace h := h.2 c51
      refine x_aload_nP (some x0) d_Cl_drawn_99 rfl (?_ : WD _ _ 100 _ _ _ _ _ _)
      obtain ⟨k58, h⟩ := h
      refine x_getP (ref := "CoinSamplerLaw$Books") (j := 0) 0 k58 clk_11 (by decide) (qm_2 (i := 156) rfl rfl) (Or.inl rfl) rfl rfl d_Cl_drawn_100 (y := (wR w49 x0 0)) rfl (?_ : WD _ _ 103 _ _ _ _ _ _)
      obtain ⟨a59, e60, h⟩ := h
      rw [e60]
      obtain ⟨k61, h⟩ := h
      refine x_callV (ν := M_Al_isEmpty) [] ok_M_Al_isEmpty okv_M_Al_isEmpty k61 rfl rfl (qm_3 (i := 230) rfl rfl) np_M_Al_isEmpty rfl ⟨Nat.le_of_ble_eq_true rfl, Nat.le_of_ble_eq_true rfl⟩ (Nat.le_of_ble_eq_true rfl) rfl d_Cl_drawn_103 (Nat.zero_le _) (Nat.zero_le _) (DI.k h (fun v63 w62 gw62 h => (?_ : WD _ _ 106 _ _ _ _ _ _)))
      refine x_if_ne 117 d_Cl_drawn_106 rfl ⟨fun c64 => (?_ : WD _ _ 117 _ _ _ _ _ _), fun c64 => (?_ : WD _ _ 109 _ _ _ _ _ _)⟩
      · replace h := h.1 c64
        refine x_null d_Cl_drawn_117 (?_ : WD _ _ 118 _ _ _ _ _ _)
        refine x_goto 142 d_Cl_drawn_118 rfl ?_
        refine x_pick (ls' := [(0, vA x0), (1, vA x1), (2, vA x2), (3, vI (x3 + (-1))), (4, vI x4)]) [1, 2, 3, 0, 4] rfl ?_
        exact h
      · replace h := h.2 c64
        refine x_aload_nP (some x1) d_Cl_drawn_109 rfl (?_ : WD _ _ 110 _ _ _ _ _ _)
        refine x_iconst d_Cl_drawn_110 (by decide) (?_ : WD _ _ 111 _ _ _ _ _ _)
        refine x_callS (ν := M_Cl_draw) [vA x1, vI 4] ok_M_Cl_draw oks_M_Cl_draw (qm_3 (i := 179) rfl rfl) np_M_Cl_draw rfl ⟨Nat.le_of_ble_eq_true rfl, Nat.le_of_ble_eq_true rfl⟩ (Nat.le_of_ble_eq_true rfl) rfl d_Cl_drawn_111 (Nat.zero_le _) (Nat.zero_le _) (DI.k h (fun v66 w65 gw65 h => (?_ : WD _ _ 114 _ _ _ _ _ _)))
        refine x_if_le 121 d_Cl_drawn_114 rfl ⟨fun c67 => (?_ : WD _ _ 121 _ _ _ _ _ _), fun c67 => (?_ : WD _ _ 117 _ _ _ _ _ _)⟩
        · replace h := h.1 c67
          refine x_aload_nP (some x0) d_Cl_drawn_121 rfl (?_ : WD _ _ 122 _ _ _ _ _ _)
          refine x_getP (ref := "CoinSamplerLaw$Books") (j := 0) 0 ((k58.q gw62.k).q gw65.k) clk_11 (by decide) (qm_2 (i := 156) rfl rfl) (Or.inl rfl) rfl rfl d_Cl_drawn_122 (y := (wR w65 x0 0)) rfl (?_ : WD _ _ 125 _ _ _ _ _ _)
          refine x_aload_nP (some x1) d_Cl_drawn_125 rfl (?_ : WD _ _ 126 _ _ _ _ _ _)
          refine x_aload_nP (some x0) d_Cl_drawn_126 rfl (?_ : WD _ _ 127 _ _ _ _ _ _)
          refine x_getP (ref := "CoinSamplerLaw$Books") (j := 0) 0 ((k58.q gw62.k).q gw65.k) clk_11 (by decide) (qm_2 (i := 156) rfl rfl) (Or.inl rfl) rfl rfl d_Cl_drawn_127 (y := (wR w65 x0 0)) rfl (?_ : WD _ _ 130 _ _ _ _ _ _)
          obtain ⟨a68, e69, h⟩ := h
          rw [e69]
          obtain ⟨k70, h⟩ := h
          refine x_callV (ν := M_Al_size) [] ok_M_Al_size okv_M_Al_size k70 rfl rfl (qm_3 (i := 178) rfl rfl) np_M_Al_size rfl ⟨Nat.le_of_ble_eq_true rfl, Nat.le_of_ble_eq_true rfl⟩ (Nat.le_of_ble_eq_true rfl) rfl d_Cl_drawn_130 (Nat.zero_le _) (Nat.zero_le _) (DI.k h (fun v72 w71 gw71 h => (?_ : WD _ _ 133 _ _ _ _ _ _)))
          refine x_callS (ν := M_Cl_draw) [vA x1, vI v72] ok_M_Cl_draw oks_M_Cl_draw (qm_3 (i := 179) rfl rfl) np_M_Cl_draw rfl ⟨Nat.le_of_ble_eq_true rfl, Nat.le_of_ble_eq_true rfl⟩ (Nat.le_of_ble_eq_true rfl) rfl d_Cl_drawn_133 (Nat.zero_le _) (Nat.zero_le _) (DI.k h (fun v74 w73 gw73 h => (?_ : WD _ _ 136 _ _ _ _ _ _)))
          refine x_callV (ν := M_Al_get) [vI v74] ok_M_Al_get okv_M_Al_get ((k70.q gw71.k).q gw73.k) rfl rfl (qm_3 (i := 183) rfl rfl) np_M_Al_get rfl ⟨Nat.le_of_ble_eq_true rfl, Nat.le_of_ble_eq_true rfl⟩ (Nat.le_of_ble_eq_true rfl) rfl d_Cl_drawn_136 (Nat.zero_le _) (Nat.zero_le _) (DP.k h (fun v76 w75 gw75 h => (?_ : WD _ _ 139 _ _ _ _ _ _)))
          obtain ⟨a77, e78, h⟩ := h
          rw [e78]
          obtain ⟨k79, h⟩ := h
          refine x_cast k79 rfl (Or.inl rfl) (qm_3 (i := 184) rfl rfl) d_Cl_drawn_139 (?_ : WD _ _ 142 _ _ _ _ _ _)
          refine x_pick (ls' := [(0, vA x0), (1, vA x1), (2, vA x2), (3, vI (x3 + (-1))), (4, vI x4)]) [1, 2, 3, 0, 4] rfl ?_
          exact h
        · replace h := h.2 c67
          refine x_null d_Cl_drawn_117 (?_ : WD _ _ 118 _ _ _ _ _ _)
          refine x_goto 142 d_Cl_drawn_118 rfl ?_
          refine x_pick (ls' := [(0, vA x0), (1, vA x1), (2, vA x2), (3, vI (x3 + (-1))), (4, vI x4)]) [1, 2, 3, 0, 4] rfl ?_
          exact h
set_option maxRecDepth 20000 in
theorem l_Cl_drawn_4 {G : Gq} {K : Option Nat → Wd → Prop} {w : Wd} {rc rs : Nat} (x0 : Nat) (x1 : Nat) (x2 : Nat) (x3 : Int) (x4 : Int) (y0 : Option Nat) (h : (y0 = none → (1 ≤ rc) ∧ (4 ≤ rs) ∧ ∀ q84 : Nat, Fr G w q84 → (DV G M_It_init [vA q84] (uN w q84 (kO 13)) 0 0 (fun w86 => DI G M_Cl_draw [vA x1, vI 5] w86 0 0 (fun v89 w88 => DI G M_Cl_draw [vA x1, vI 300] (uI w88 q84 0 v89) 0 0 (fun v91 w90 => DI G M_Cl_draw [vA x1, vI 8] (uI w90 q84 1 v91) 0 0 (fun v93 w92 => (¬ v93 = 0 → DI G M_Cl_draw [vA x1, vI x4] w92 0 0 (fun v96 w95 => (inR (1 + v96)) ∧ DI G M_Cl_draw [vA x1, vI (1 + v96)] w95 0 0 (fun v99 w98 => WD G M_Cl_drawn 308 [(0, vA x0), (1, vA x1), (2, vA x2), (3, vI x3), (4, vI x4), (5, vA q84)] [vI v99, vA q84] w98 (rc - 1) (rs - 4) (yP K)))) ∧ (v93 = 0 → DI G M_Cl_draw [vA x1, vI 50] w92 0 0 (fun v101 w100 => (inR (-v101)) ∧ WD G M_Cl_drawn 308 [(0, vA x0), (1, vA x1), (2, vA x2), (3, vI x3), (4, vI x4), (5, vA q84)] [vI (-v101), vA q84] w100 (rc - 1) (rs - 4) (yP K))))))))) ∧ (∀ a80 : Nat, y0 = some a80 → (Is G w a80 (kO 13)) ∧ (1 ≤ (wI w a80 2) → DI G M_Cl_draw [vA x1, vI 3] w 0 0 (fun v106 w105 => (¬ v106 = 0 → (inR (2 * (wI w105 a80 2))) ∧ (inR ((2 * (wI w105 a80 2)) + 1)) ∧ DI G M_Cl_draw [vA x1, vI ((2 * (wI w105 a80 2)) + 1)] w105 0 0 (fun v111 w110 => WD G M_Cl_drawn 192 [(0, vA x0), (1, vA x1), (2, vA x2), (3, vI x3), (4, vI x4), (5, vA a80)] [vI v111, vA a80] w110 rc rs (yP K))) ∧ (v106 = 0 → WD G M_Cl_drawn 192 [(0, vA x0), (1, vA x1), (2, vA x2), (3, vI x3), (4, vI x4), (5, vA a80)] [vI (wI w105 a80 2), vA a80] w105 rc rs (yP K)))) ∧ (¬ 1 ≤ (wI w a80 2) → WD G M_Cl_drawn 82 [(0, vA x0), (1, vA x1), (2, vA x2), (3, vI x3), (4, vI x4)] [] w rc rs (yP K)))) : WD G M_Cl_drawn 142 [(0, vA x0), (1, vA x1), (2, vA x2), (3, vI x3), (4, vI x4)] [vP y0] w rc rs (yP K) := by
  refine x_astoreP y0 (ls' := [(5, vP y0), (0, vA x0), (1, vA x1), (2, vA x2), (3, vI x3), (4, vI x4)]) d_Cl_drawn_142 (by decide) rfl (?_ : WD _ _ 144 _ _ _ _ _ _)
  refine x_aloadP y0 d_Cl_drawn_144 rfl (?_ : WD _ _ 146 _ _ _ _ _ _)
  refine x_ifnull 244 d_Cl_drawn_146 rfl ⟨fun e81 => (?_ : WD _ _ 244 _ _ _ _ _ _), fun a80 e81 => (?_ : WD _ _ 149 _ _ _ _ _ _)⟩
  · replace h := h.1 e81
    rw [e81]
    obtain ⟨h82, h⟩ := h
    obtain ⟨h83, h⟩ := h
    refine x_new d_Cl_drawn_244 clk_13 tyX13_ok (qm_3 (i := 184) rfl rfl) (qm_4 (i := 146) rfl rfl) (qm_1 (i := 29) rfl rfl) hfd_13 h82 h83 (fun q84 fq84 => (?_ : WD _ _ 247 _ _ _ _ _ _))
    replace h := h q84 fq84
    have k85 : Ow (uN w q84 (kO 13)) q84 (kO 13) := Ow.nw
    refine x_dup d_Cl_drawn_247 rfl (?_ : WD _ _ 248 _ _ _ _ _ _)
    refine x_callIN (ν := M_It_init) "CoinSamplerLaw" [] ok_M_It_init oki_M_It_init rfl rfl (by decide) np_M_It_init rfl ⟨Nat.le_of_ble_eq_true rfl, Nat.le_of_ble_eq_true rfl⟩ (Nat.le_of_ble_eq_true rfl) rfl d_Cl_drawn_248 (Nat.zero_le _) (Nat.zero_le _) (DV.k h (fun w86 gw86 h => (?_ : WD _ _ 251 _ _ _ _ _ _)))
    refine x_astoreP (some q84) (ls' := [(5, vA q84), (0, vA x0), (1, vA x1), (2, vA x2), (3, vI x3), (4, vI x4)]) d_Cl_drawn_251 (by decide) rfl (?_ : WD _ _ 253 _ _ _ _ _ _)
    refine x_aloadP (some q84) d_Cl_drawn_253 rfl (?_ : WD _ _ 255 _ _ _ _ _ _)
    refine x_aload_nP (some x1) d_Cl_drawn_255 rfl (?_ : WD _ _ 256 _ _ _ _ _ _)
    refine x_iconst d_Cl_drawn_256 (by decide) (?_ : WD _ _ 257 _ _ _ _ _ _)
    refine x_callS (ν := M_Cl_draw) [vA x1, vI 5] ok_M_Cl_draw oks_M_Cl_draw (qm_3 (i := 179) rfl rfl) np_M_Cl_draw rfl ⟨Nat.le_of_ble_eq_true rfl, Nat.le_of_ble_eq_true rfl⟩ (Nat.le_of_ble_eq_true rfl) rfl d_Cl_drawn_257 (Nat.zero_le _) (Nat.zero_le _) (DI.k h (fun v89 w88 gw88 h => (?_ : WD _ _ 260 _ _ _ _ _ _)))
    refine x_putI (ref := "CoinSamplerLaw$Item") (j := 0) 0 ((k85.q gw86.k).q gw88.k) clk_13 (by decide) (qm_4 (i := 151) rfl rfl) (Or.inl rfl) (Or.inl rfl) tyX13_ok rfl nmX13 d_Cl_drawn_260 rfl rfl (fun _ => rfl) rfl (?_ : WD _ _ 263 _ _ _ _ _ _)
    refine x_aloadP (some q84) d_Cl_drawn_263 rfl (?_ : WD _ _ 265 _ _ _ _ _ _)
    refine x_aload_nP (some x1) d_Cl_drawn_265 rfl (?_ : WD _ _ 266 _ _ _ _ _ _)
    refine x_sipush d_Cl_drawn_266 (by decide) (by decide) (?_ : WD _ _ 269 _ _ _ _ _ _)
    refine x_callS (ν := M_Cl_draw) [vA x1, vI 300] ok_M_Cl_draw oks_M_Cl_draw (qm_3 (i := 179) rfl rfl) np_M_Cl_draw rfl ⟨Nat.le_of_ble_eq_true rfl, Nat.le_of_ble_eq_true rfl⟩ (Nat.le_of_ble_eq_true rfl) rfl d_Cl_drawn_269 (Nat.zero_le _) (Nat.zero_le _) (DI.k h (fun v91 w90 gw90 h => (?_ : WD _ _ 272 _ _ _ _ _ _)))
    refine x_putI (ref := "CoinSamplerLaw$Item") (j := 1) 1 (((k85.q gw86.k).q gw88.k).q gw90.k) clk_13 (by decide) (qm_4 (i := 153) rfl rfl) (Or.inl rfl) (Or.inl rfl) tyX13_ok rfl nmX13 d_Cl_drawn_272 rfl rfl (fun _ => rfl) rfl (?_ : WD _ _ 275 _ _ _ _ _ _)
    refine x_aloadP (some q84) d_Cl_drawn_275 rfl (?_ : WD _ _ 277 _ _ _ _ _ _)
    refine x_aload_nP (some x1) d_Cl_drawn_277 rfl (?_ : WD _ _ 278 _ _ _ _ _ _)
    refine x_bipush d_Cl_drawn_278 (by decide) (by decide) (?_ : WD _ _ 280 _ _ _ _ _ _)
    refine x_callS (ν := M_Cl_draw) [vA x1, vI 8] ok_M_Cl_draw oks_M_Cl_draw (qm_3 (i := 179) rfl rfl) np_M_Cl_draw rfl ⟨Nat.le_of_ble_eq_true rfl, Nat.le_of_ble_eq_true rfl⟩ (Nat.le_of_ble_eq_true rfl) rfl d_Cl_drawn_280 (Nat.zero_le _) (Nat.zero_le _) (DI.k h (fun v93 w92 gw92 h => (?_ : WD _ _ 283 _ _ _ _ _ _)))
    refine x_if_ne 296 d_Cl_drawn_283 rfl ⟨fun c94 => (?_ : WD _ _ 296 _ _ _ _ _ _), fun c94 => (?_ : WD _ _ 286 _ _ _ _ _ _)⟩
    · replace h := h.1 c94
      refine x_aload_nP (some x1) d_Cl_drawn_296 rfl (?_ : WD _ _ 297 _ _ _ _ _ _)
      refine x_iconst d_Cl_drawn_297 (by decide) (?_ : WD _ _ 298 _ _ _ _ _ _)
      refine x_aload_nP (some x1) d_Cl_drawn_298 rfl (?_ : WD _ _ 299 _ _ _ _ _ _)
      refine x_iload d_Cl_drawn_299 rfl (?_ : WD _ _ 301 _ _ _ _ _ _)
      refine x_callS (ν := M_Cl_draw) [vA x1, vI x4] ok_M_Cl_draw oks_M_Cl_draw (qm_3 (i := 179) rfl rfl) np_M_Cl_draw rfl ⟨Nat.le_of_ble_eq_true rfl, Nat.le_of_ble_eq_true rfl⟩ (Nat.le_of_ble_eq_true rfl) rfl d_Cl_drawn_301 (Nat.zero_le _) (Nat.zero_le _) (DI.k h (fun v96 w95 gw95 h => (?_ : WD _ _ 304 _ _ _ _ _ _)))
      obtain ⟨h97, h⟩ := h
      refine x_iadd d_Cl_drawn_304 h97 (?_ : WD _ _ 305 _ _ _ _ _ _)
      refine x_callS (ν := M_Cl_draw) [vA x1, vI (1 + v96)] ok_M_Cl_draw oks_M_Cl_draw (qm_3 (i := 179) rfl rfl) np_M_Cl_draw rfl ⟨Nat.le_of_ble_eq_true rfl, Nat.le_of_ble_eq_true rfl⟩ (Nat.le_of_ble_eq_true rfl) rfl d_Cl_drawn_305 (Nat.zero_le _) (Nat.zero_le _) (DI.k h (fun v99 w98 gw98 h => (?_ : WD _ _ 308 _ _ _ _ _ _)))
      refine x_pick (ls' := [(0, vA x0), (1, vA x1), (2, vA x2), (3, vI x3), (4, vI x4), (5, vA q84)]) [1, 2, 3, 4, 5, 0] rfl ?_
      exact h
    · replace h := h.2 c94
      refine x_aload_nP (some x1) d_Cl_drawn_286 rfl (?_ : WD _ _ 287 _ _ _ _ _ _)
      refine x_bipush d_Cl_drawn_287 (by decide) (by decide) (?_ : WD _ _ 289 _ _ _ _ _ _)
      refine x_callS (ν := M_Cl_draw) [vA x1, vI 50] ok_M_Cl_draw oks_M_Cl_draw (qm_3 (i := 179) rfl rfl) np_M_Cl_draw rfl ⟨Nat.le_of_ble_eq_true rfl, Nat.le_of_ble_eq_true rfl⟩ (Nat.le_of_ble_eq_true rfl) rfl d_Cl_drawn_289 (Nat.zero_le _) (Nat.zero_le _) (DI.k h (fun v101 w100 gw100 h => (?_ : WD _ _ 292 _ _ _ _ _ _)))
      obtain ⟨h102, h⟩ := h
      refine x_ineg d_Cl_drawn_292 h102 (?_ : WD _ _ 293 _ _ _ _ _ _)
      refine x_goto 308 d_Cl_drawn_293 rfl ?_
      refine x_pick (ls' := [(0, vA x0), (1, vA x1), (2, vA x2), (3, vI x3), (4, vI x4), (5, vA q84)]) [1, 2, 3, 4, 5, 0] rfl ?_
      exact h
  · replace h := h.2 a80 e81
    rw [e81]
    refine x_aloadP (some a80) d_Cl_drawn_149 rfl (?_ : WD _ _ 151 _ _ _ _ _ _)
    obtain ⟨k103, h⟩ := h
    refine x_getI (ref := "CoinSamplerLaw$Item") (j := 2) 2 k103 clk_13 (by decide) (qm_4 (i := 157) rfl rfl) (Or.inl rfl) rfl rfl d_Cl_drawn_151 (y := (wI w a80 2)) rfl (?_ : WD _ _ 154 _ _ _ _ _ _)
    refine x_iconst d_Cl_drawn_154 (by decide) (?_ : WD _ _ 155 _ _ _ _ _ _)
    refine x_icmp_ge 161 d_Cl_drawn_155 rfl ⟨fun c104 => (?_ : WD _ _ 161 _ _ _ _ _ _), fun c104 => (?_ : WD _ _ 158 _ _ _ _ _ _)⟩
    · replace h := h.1 c104
      refine x_aloadP (some a80) d_Cl_drawn_161 rfl (?_ : WD _ _ 163 _ _ _ _ _ _)
      refine x_aload_nP (some x1) d_Cl_drawn_163 rfl (?_ : WD _ _ 164 _ _ _ _ _ _)
      refine x_iconst d_Cl_drawn_164 (by decide) (?_ : WD _ _ 165 _ _ _ _ _ _)
      refine x_callS (ν := M_Cl_draw) [vA x1, vI 3] ok_M_Cl_draw oks_M_Cl_draw (qm_3 (i := 179) rfl rfl) np_M_Cl_draw rfl ⟨Nat.le_of_ble_eq_true rfl, Nat.le_of_ble_eq_true rfl⟩ (Nat.le_of_ble_eq_true rfl) rfl d_Cl_drawn_165 (Nat.zero_le _) (Nat.zero_le _) (DI.k h (fun v106 w105 gw105 h => (?_ : WD _ _ 168 _ _ _ _ _ _)))
      refine x_if_ne 179 d_Cl_drawn_168 rfl ⟨fun c107 => (?_ : WD _ _ 179 _ _ _ _ _ _), fun c107 => (?_ : WD _ _ 171 _ _ _ _ _ _)⟩
      · replace h := h.1 c107
        refine x_aload_nP (some x1) d_Cl_drawn_179 rfl (?_ : WD _ _ 180 _ _ _ _ _ _)
        refine x_iconst d_Cl_drawn_180 (by decide) (?_ : WD _ _ 181 _ _ _ _ _ _)
        refine x_aloadP (some a80) d_Cl_drawn_181 rfl (?_ : WD _ _ 183 _ _ _ _ _ _)
        refine x_getI (ref := "CoinSamplerLaw$Item") (j := 2) 2 (k103.q gw105.k) clk_13 (by decide) (qm_4 (i := 157) rfl rfl) (Or.inl rfl) rfl rfl d_Cl_drawn_183 (y := (wI w105 a80 2)) rfl (?_ : WD _ _ 186 _ _ _ _ _ _)
        obtain ⟨h108, h⟩ := h
        refine x_imul d_Cl_drawn_186 h108 (?_ : WD _ _ 187 _ _ _ _ _ _)
        refine x_iconst d_Cl_drawn_187 (by decide) (?_ : WD _ _ 188 _ _ _ _ _ _)
        obtain ⟨h109, h⟩ := h
        refine x_iadd d_Cl_drawn_188 h109 (?_ : WD _ _ 189 _ _ _ _ _ _)
        refine x_callS (ν := M_Cl_draw) [vA x1, vI ((2 * (wI w105 a80 2)) + 1)] ok_M_Cl_draw oks_M_Cl_draw (qm_3 (i := 179) rfl rfl) np_M_Cl_draw rfl ⟨Nat.le_of_ble_eq_true rfl, Nat.le_of_ble_eq_true rfl⟩ (Nat.le_of_ble_eq_true rfl) rfl d_Cl_drawn_189 (Nat.zero_le _) (Nat.zero_le _) (DI.k h (fun v111 w110 gw110 h => (?_ : WD _ _ 192 _ _ _ _ _ _)))
        refine x_pick (ls' := [(0, vA x0), (1, vA x1), (2, vA x2), (3, vI x3), (4, vI x4), (5, vA a80)]) [1, 2, 3, 4, 5, 0] rfl ?_
        exact h
      · replace h := h.2 c107
        refine x_aloadP (some a80) d_Cl_drawn_171 rfl (?_ : WD _ _ 173 _ _ _ _ _ _)
        refine x_getI (ref := "CoinSamplerLaw$Item") (j := 2) 2 (k103.q gw105.k) clk_13 (by decide) (qm_4 (i := 157) rfl rfl) (Or.inl rfl) rfl rfl d_Cl_drawn_173 (y := (wI w105 a80 2)) rfl (?_ : WD _ _ 176 _ _ _ _ _ _)
        refine x_goto 192 d_Cl_drawn_176 rfl ?_
        refine x_pick (ls' := [(0, vA x0), (1, vA x1), (2, vA x2), (3, vI x3), (4, vI x4), (5, vA a80)]) [1, 2, 3, 4, 5, 0] rfl ?_
        exact h
    · replace h := h.2 c104
      refine x_goto 82 d_Cl_drawn_158 rfl ?_
      refine x_pick (ls' := [(0, vA x0), (1, vA x1), (2, vA x2), (3, vI x3), (4, vI x4)]) [1, 2, 3, 4, 5] rfl ?_
      exact h
set_option maxRecDepth 20000 in
theorem l_Cl_drawn_5 {G : Gq} {K : Option Nat → Wd → Prop} {w : Wd} {rc rs : Nat} (x0 : Nat) (x1 : Nat) (x2 : Nat) (x3 : Int) (x4 : Int) (x5 : Nat) (y0 : Int) (y1 : Nat) (h : (Ow w y1 (kO 13)) ∧ ∃ c113 s114 : Nat, c113 ≤ rc ∧ s114 ≤ rs ∧ ((Is G (uI w y1 3 y0) x2 (kO 17)) ∧ DP G M_Sb_append_15ec4 [vA x2, vA (xa G 260)] (uI w y1 3 y0) c113 s114 (fun v119 w118 => (Is G w118 x5 (kO 13)) ∧ ∃ a121 : Nat, v119 = some a121 ∧ (∃ c123 s124 : Nat, c123 ≤ (rc - c113) ∧ s124 ≤ (rs - s114) ∧ ((Is G w118 a121 (kO 17)) ∧ DP G M_Sb_append_bf812 [vA a121, vI (wI w118 x5 0)] w118 c123 s124 (fun v129 w128 => ∃ a130 : Nat, v129 = some a130 ∧ (∃ c132 s133 : Nat, c132 ≤ ((rc - c113) - c123) ∧ s133 ≤ ((rs - s114) - s124) ∧ ((Is G w128 a130 (kO 17)) ∧ DP G M_Sb_append_cf468 [vA a130, vI 32] w128 c132 s133 (fun v138 w137 => ∃ a139 : Nat, v138 = some a139 ∧ (∃ c141 s142 : Nat, c141 ≤ (((rc - c113) - c123) - c132) ∧ s142 ≤ (((rs - s114) - s124) - s133) ∧ ((Is G w137 a139 (kO 17)) ∧ DP G M_Sb_append_bf812 [vA a139, vI (wI w137 x5 1)] w137 c141 s142 (fun v147 w146 => ∃ a148 : Nat, v147 = some a148 ∧ (∃ c150 s151 : Nat, c150 ≤ ((((rc - c113) - c123) - c132) - c141) ∧ s151 ≤ ((((rs - s114) - s124) - s133) - s142) ∧ ((Is G w146 a148 (kO 17)) ∧ DP G M_Sb_append_15ec4 [vA a148, vA (xa G 262)] w146 c150 s151 (fun v156 w155 => ∃ a157 : Nat, v156 = some a157 ∧ (∃ c159 s160 : Nat, c159 ≤ (((((rc - c113) - c123) - c132) - c141) - c150) ∧ s160 ≤ (((((rs - s114) - s124) - s133) - s142) - s151) ∧ ((Is G w155 a157 (kO 17)) ∧ DP G M_Sb_append_bf812 [vA a157, vI (wI w155 x5 3)] w155 c159 s160 (fun v165 w164 => ∃ a166 : Nat, v165 = some a166 ∧ (∃ c168 s169 : Nat, c168 ≤ ((((((rc - c113) - c123) - c132) - c141) - c150) - c159) ∧ s169 ≤ ((((((rs - s114) - s124) - s133) - s142) - s151) - s160) ∧ ((Is G w164 a166 (kO 17)) ∧ DP G M_Sb_append_cf468 [vA a166, vI 59] w164 c168 s169 (fun v174 w173 => WD G M_Cl_drawn 82 [(0, vA x0), (1, vA x1), (2, vA x2), (3, vI x3), (4, vI x4)] [] w173 (((((((rc - c113) - c123) - c132) - c141) - c150) - c159) - c168) (((((((rs - s114) - s124) - s133) - s142) - s151) - s160) - s169) (yP K)))))))))))))))))))))) : WD G M_Cl_drawn 192 [(0, vA x0), (1, vA x1), (2, vA x2), (3, vI x3), (4, vI x4), (5, vA x5)] [vI y0, vA y1] w rc rs (yP K) := by
  obtain ⟨k112, h⟩ := h
  refine x_putI (ref := "CoinSamplerLaw$Item") (j := 3) 3 k112 clk_13 (by decide) (qm_4 (i := 159) rfl rfl) (Or.inl rfl) (Or.inl rfl) tyX13_ok rfl nmX13 d_Cl_drawn_192 rfl rfl (fun _ => rfl) rfl (?_ : WD _ _ 195 _ _ _ _ _ _)
  refine x_aload_nP (some x2) d_Cl_drawn_195 rfl (?_ : WD _ _ 196 _ _ _ _ _ _)
  refine x_ldcS (q := 260) (tx := "audit ") d_Cl_drawn_196 (by decide) (?_ : WD _ _ 198 _ _ _ _ _ _)
  obtain ⟨c113, s114, h115, h116, h⟩ := h
  obtain ⟨k117, h⟩ := h
  refine x_callV (ν := M_Sb_append_15ec4) [vA (xa G 260)] ok_M_Sb_append_15ec4 okv_M_Sb_append_15ec4 k117 rfl rfl (qm_3 (i := 235) rfl rfl) np_M_Sb_append_15ec4 rfl ⟨Nat.le_of_ble_eq_true rfl, Nat.le_of_ble_eq_true rfl⟩ (Nat.le_of_ble_eq_true rfl) rfl d_Cl_drawn_198 h115 h116 (DP.k h (fun v119 w118 gw118 h => (?_ : WD _ _ 201 _ _ _ _ _ _)))
  refine x_aloadP (some x5) d_Cl_drawn_201 rfl (?_ : WD _ _ 203 _ _ _ _ _ _)
  obtain ⟨k120, h⟩ := h
  refine x_getI (ref := "CoinSamplerLaw$Item") (j := 0) 0 k120 clk_13 (by decide) (qm_4 (i := 151) rfl rfl) (Or.inl rfl) rfl rfl d_Cl_drawn_203 (y := (wI w118 x5 0)) rfl (?_ : WD _ _ 206 _ _ _ _ _ _)
  obtain ⟨a121, e122, h⟩ := h
  rw [e122]
  obtain ⟨c123, s124, h125, h126, h⟩ := h
  obtain ⟨k127, h⟩ := h
  refine x_callV (ν := M_Sb_append_bf812) [vI (wI w118 x5 0)] ok_M_Sb_append_bf812 okv_M_Sb_append_bf812 k127 rfl rfl (qm_4 (i := 100) rfl rfl) np_M_Sb_append_bf812 rfl ⟨Nat.le_of_ble_eq_true rfl, Nat.le_of_ble_eq_true rfl⟩ (Nat.le_of_ble_eq_true rfl) rfl d_Cl_drawn_206 h125 h126 (DP.k h (fun v129 w128 gw128 h => (?_ : WD _ _ 209 _ _ _ _ _ _)))
  refine x_bipush d_Cl_drawn_209 (by decide) (by decide) (?_ : WD _ _ 211 _ _ _ _ _ _)
  obtain ⟨a130, e131, h⟩ := h
  rw [e131]
  obtain ⟨c132, s133, h134, h135, h⟩ := h
  obtain ⟨k136, h⟩ := h
  refine x_callV (ν := M_Sb_append_cf468) [vI 32] ok_M_Sb_append_cf468 okv_M_Sb_append_cf468 k136 rfl rfl (qm_4 (i := 125) rfl rfl) np_M_Sb_append_cf468 rfl ⟨Nat.le_of_ble_eq_true rfl, Nat.le_of_ble_eq_true rfl⟩ (Nat.le_of_ble_eq_true rfl) rfl d_Cl_drawn_211 h134 h135 (DP.k h (fun v138 w137 gw137 h => (?_ : WD _ _ 214 _ _ _ _ _ _)))
  refine x_aloadP (some x5) d_Cl_drawn_214 rfl (?_ : WD _ _ 216 _ _ _ _ _ _)
  refine x_getI (ref := "CoinSamplerLaw$Item") (j := 1) 1 ((k120.q gw128.k).q gw137.k) clk_13 (by decide) (qm_4 (i := 153) rfl rfl) (Or.inl rfl) rfl rfl d_Cl_drawn_216 (y := (wI w137 x5 1)) rfl (?_ : WD _ _ 219 _ _ _ _ _ _)
  obtain ⟨a139, e140, h⟩ := h
  rw [e140]
  obtain ⟨c141, s142, h143, h144, h⟩ := h
  obtain ⟨k145, h⟩ := h
  refine x_callV (ν := M_Sb_append_bf812) [vI (wI w137 x5 1)] ok_M_Sb_append_bf812 okv_M_Sb_append_bf812 k145 rfl rfl (qm_4 (i := 100) rfl rfl) np_M_Sb_append_bf812 rfl ⟨Nat.le_of_ble_eq_true rfl, Nat.le_of_ble_eq_true rfl⟩ (Nat.le_of_ble_eq_true rfl) rfl d_Cl_drawn_219 h143 h144 (DP.k h (fun v147 w146 gw146 h => (?_ : WD _ _ 222 _ _ _ _ _ _)))
  refine x_ldcS (q := 262) (tx := "  ") d_Cl_drawn_222 (by decide) (?_ : WD _ _ 224 _ _ _ _ _ _)
  obtain ⟨a148, e149, h⟩ := h
  rw [e149]
  obtain ⟨c150, s151, h152, h153, h⟩ := h
  obtain ⟨k154, h⟩ := h
  refine x_callV (ν := M_Sb_append_15ec4) [vA (xa G 262)] ok_M_Sb_append_15ec4 okv_M_Sb_append_15ec4 k154 rfl rfl (qm_3 (i := 235) rfl rfl) np_M_Sb_append_15ec4 rfl ⟨Nat.le_of_ble_eq_true rfl, Nat.le_of_ble_eq_true rfl⟩ (Nat.le_of_ble_eq_true rfl) rfl d_Cl_drawn_224 h152 h153 (DP.k h (fun v156 w155 gw155 h => (?_ : WD _ _ 227 _ _ _ _ _ _)))
  refine x_aloadP (some x5) d_Cl_drawn_227 rfl (?_ : WD _ _ 229 _ _ _ _ _ _)
  refine x_getI (ref := "CoinSamplerLaw$Item") (j := 3) 3 ((((k120.q gw128.k).q gw137.k).q gw146.k).q gw155.k) clk_13 (by decide) (qm_4 (i := 159) rfl rfl) (Or.inl rfl) rfl rfl d_Cl_drawn_229 (y := (wI w155 x5 3)) rfl (?_ : WD _ _ 232 _ _ _ _ _ _)
  obtain ⟨a157, e158, h⟩ := h
  rw [e158]
  obtain ⟨c159, s160, h161, h162, h⟩ := h
  obtain ⟨k163, h⟩ := h
  refine x_callV (ν := M_Sb_append_bf812) [vI (wI w155 x5 3)] ok_M_Sb_append_bf812 okv_M_Sb_append_bf812 k163 rfl rfl (qm_4 (i := 100) rfl rfl) np_M_Sb_append_bf812 rfl ⟨Nat.le_of_ble_eq_true rfl, Nat.le_of_ble_eq_true rfl⟩ (Nat.le_of_ble_eq_true rfl) rfl d_Cl_drawn_232 h161 h162 (DP.k h (fun v165 w164 gw164 h => (?_ : WD _ _ 235 _ _ _ _ _ _)))
  refine x_bipush d_Cl_drawn_235 (by decide) (by decide) (?_ : WD _ _ 237 _ _ _ _ _ _)
  obtain ⟨a166, e167, h⟩ := h
  rw [e167]
  obtain ⟨c168, s169, h170, h171, h⟩ := h
  obtain ⟨k172, h⟩ := h
  refine x_callV (ν := M_Sb_append_cf468) [vI 59] ok_M_Sb_append_cf468 okv_M_Sb_append_cf468 k172 rfl rfl (qm_4 (i := 125) rfl rfl) np_M_Sb_append_cf468 rfl ⟨Nat.le_of_ble_eq_true rfl, Nat.le_of_ble_eq_true rfl⟩ (Nat.le_of_ble_eq_true rfl) rfl d_Cl_drawn_237 h170 h171 (DP.k h (fun v174 w173 gw173 h => (?_ : WD _ _ 240 _ _ _ _ _ _)))
  refine x_pop d_Cl_drawn_240 rfl (?_ : WD _ _ 241 _ _ _ _ _ _)
  refine x_goto 82 d_Cl_drawn_241 rfl ?_
  refine x_pick (ls' := [(0, vA x0), (1, vA x1), (2, vA x2), (3, vI x3), (4, vI x4)]) [0, 1, 2, 3, 4] rfl ?_
  exact h
set_option maxRecDepth 20000 in
theorem l_Cl_drawn_6 {G : Gq} {K : Option Nat → Wd → Prop} {w : Wd} {rc rs : Nat} (x0 : Nat) (x1 : Nat) (x2 : Nat) (x3 : Int) (x4 : Int) (x5 : Nat) (y0 : Int) (y1 : Nat) (h : (Ow w y1 (kO 13)) ∧ (Is G (uI w y1 2 y0) x5 (kO 13)) ∧ (Is G (uI w y1 2 y0) x0 (kO 11)) ∧ DI G M_Bo_find [vA x0, vI (wI (uI w y1 2 y0) x5 0), vI (wI (uI w y1 2 y0) x5 1)] (uI w y1 2 y0) 0 0 (fun v179 w178 => (0 ≤ v179 → WD G M_Cl_drawn 82 [(0, vA x0), (1, vA x1), (2, vA x2), (3, vI x3), (4, vI x4)] [] w178 rc rs (yP K)) ∧ (¬ 0 ≤ v179 → ∃ a181 : Nat, (wR w178 x0 0) = some a181 ∧ ((Is G w178 a181 (kO 14)) ∧ DI G M_Al_size [vA a181] w178 0 0 (fun v185 w184 => (¬ v185 = 48 → ∃ c187 s188 : Nat, c187 ≤ rc ∧ s188 ≤ rs ∧ ((Is G w184 x2 (kO 17)) ∧ DP G M_Sb_append_15ec4 [vA x2, vA (xa G 264)] w184 c187 s188 (fun v193 w192 => ∃ a194 : Nat, v193 = some a194 ∧ (∃ c196 s197 : Nat, c196 ≤ (rc - c187) ∧ s197 ≤ (rs - s188) ∧ ((Is G w192 a194 (kO 17)) ∧ DP G M_Sb_append_bf812 [vA a194, vI (wI w192 x5 0)] w192 c196 s197 (fun v202 w201 => ∃ a203 : Nat, v202 = some a203 ∧ (∃ c205 s206 : Nat, c205 ≤ ((rc - c187) - c196) ∧ s206 ≤ ((rs - s188) - s197) ∧ ((Is G w201 a203 (kO 17)) ∧ DP G M_Sb_append_cf468 [vA a203, vI 32] w201 c205 s206 (fun v211 w210 => ∃ a212 : Nat, v211 = some a212 ∧ (∃ c214 s215 : Nat, c214 ≤ (((rc - c187) - c196) - c205) ∧ s215 ≤ (((rs - s188) - s197) - s206) ∧ ((Is G w210 a212 (kO 17)) ∧ DP G M_Sb_append_bf812 [vA a212, vI (wI w210 x5 1)] w210 c214 s215 (fun v220 w219 => (0 ≤ (wI w219 x5 2) → WD G M_Cl_drawn 385 [(0, vA x0), (1, vA x1), (2, vA x2), (3, vI x3), (4, vI x4), (5, vA x5)] [vA (xa G 268), vP v220] w219 ((((rc - c187) - c196) - c205) - c214) ((((rs - s188) - s197) - s206) - s215) (yP K)) ∧ (¬ 0 ≤ (wI w219 x5 2) → WD G M_Cl_drawn 385 [(0, vA x0), (1, vA x1), (2, vA x2), (3, vI x3), (4, vI x4), (5, vA x5)] [vA (xa G 266), vP v220] w219 ((((rc - c187) - c196) - c205) - c214) ((((rs - s188) - s197) - s206) - s215) (yP K)))))))))))))) ∧ (v185 = 48 → WD G M_Cl_drawn 82 [(0, vA x0), (1, vA x1), (2, vA x2), (3, vI x3), (4, vI x4)] [] w184 rc rs (yP K))))))) : WD G M_Cl_drawn 308 [(0, vA x0), (1, vA x1), (2, vA x2), (3, vI x3), (4, vI x4), (5, vA x5)] [vI y0, vA y1] w rc rs (yP K) := by
  obtain ⟨k175, h⟩ := h
  refine x_putI (ref := "CoinSamplerLaw$Item") (j := 2) 2 k175 clk_13 (by decide) (qm_4 (i := 157) rfl rfl) (Or.inl rfl) (Or.inl rfl) tyX13_ok rfl nmX13 d_Cl_drawn_308 rfl rfl (fun _ => rfl) rfl (?_ : WD _ _ 311 _ _ _ _ _ _)
  refine x_aload_nP (some x0) d_Cl_drawn_311 rfl (?_ : WD _ _ 312 _ _ _ _ _ _)
  refine x_aloadP (some x5) d_Cl_drawn_312 rfl (?_ : WD _ _ 314 _ _ _ _ _ _)
  obtain ⟨k176, h⟩ := h
  refine x_getI (ref := "CoinSamplerLaw$Item") (j := 0) 0 k176 clk_13 (by decide) (qm_4 (i := 151) rfl rfl) (Or.inl rfl) rfl rfl d_Cl_drawn_314 (y := (wI (uI w y1 2 y0) x5 0)) rfl (?_ : WD _ _ 317 _ _ _ _ _ _)
  refine x_aloadP (some x5) d_Cl_drawn_317 rfl (?_ : WD _ _ 319 _ _ _ _ _ _)
  refine x_getI (ref := "CoinSamplerLaw$Item") (j := 1) 1 k176 clk_13 (by decide) (qm_4 (i := 153) rfl rfl) (Or.inl rfl) rfl rfl d_Cl_drawn_319 (y := (wI (uI w y1 2 y0) x5 1)) rfl (?_ : WD _ _ 322 _ _ _ _ _ _)
  obtain ⟨k177, h⟩ := h
  refine x_callV (ν := M_Bo_find) [vI (wI (uI w y1 2 y0) x5 0), vI (wI (uI w y1 2 y0) x5 1)] ok_M_Bo_find okv_M_Bo_find k177 rfl rfl (qm_4 (i := 169) rfl rfl) np_M_Bo_find rfl ⟨Nat.le_of_ble_eq_true rfl, Nat.le_of_ble_eq_true rfl⟩ (Nat.le_of_ble_eq_true rfl) rfl d_Cl_drawn_322 (Nat.zero_le _) (Nat.zero_le _) (DI.k h (fun v179 w178 gw178 h => (?_ : WD _ _ 325 _ _ _ _ _ _)))
  refine x_if_ge 82 d_Cl_drawn_325 rfl ⟨fun c180 => (?_ : WD _ _ 82 _ _ _ _ _ _), fun c180 => (?_ : WD _ _ 328 _ _ _ _ _ _)⟩
  · replace h := h.1 c180
    refine x_pick (ls' := [(0, vA x0), (1, vA x1), (2, vA x2), (3, vI x3), (4, vI x4)]) [0, 1, 2, 3, 4] rfl ?_
    exact h
  · replace h := h.2 c180
    refine x_aload_nP (some x0) d_Cl_drawn_328 rfl (?_ : WD _ _ 329 _ _ _ _ _ _)
    refine x_getP (ref := "CoinSamplerLaw$Books") (j := 0) 0 (k177.q gw178.k) clk_11 (by decide) (qm_2 (i := 156) rfl rfl) (Or.inl rfl) rfl rfl d_Cl_drawn_329 (y := (wR w178 x0 0)) rfl (?_ : WD _ _ 332 _ _ _ _ _ _)
    obtain ⟨a181, e182, h⟩ := h
    rw [e182]
    obtain ⟨k183, h⟩ := h
    refine x_callV (ν := M_Al_size) [] ok_M_Al_size okv_M_Al_size k183 rfl rfl (qm_3 (i := 178) rfl rfl) np_M_Al_size rfl ⟨Nat.le_of_ble_eq_true rfl, Nat.le_of_ble_eq_true rfl⟩ (Nat.le_of_ble_eq_true rfl) rfl d_Cl_drawn_332 (Nat.zero_le _) (Nat.zero_le _) (DI.k h (fun v185 w184 gw184 h => (?_ : WD _ _ 335 _ _ _ _ _ _)))
    refine x_bipush d_Cl_drawn_335 (by decide) (by decide) (?_ : WD _ _ 337 _ _ _ _ _ _)
    refine x_icmp_ne 343 d_Cl_drawn_337 rfl ⟨fun c186 => (?_ : WD _ _ 343 _ _ _ _ _ _), fun c186 => (?_ : WD _ _ 340 _ _ _ _ _ _)⟩
    · replace h := h.1 c186
      refine x_aload_nP (some x2) d_Cl_drawn_343 rfl (?_ : WD _ _ 344 _ _ _ _ _ _)
      refine x_ldcS (q := 264) (tx := "item") d_Cl_drawn_344 (by decide) (?_ : WD _ _ 346 _ _ _ _ _ _)
      obtain ⟨c187, s188, h189, h190, h⟩ := h
      obtain ⟨k191, h⟩ := h
      refine x_callV (ν := M_Sb_append_15ec4) [vA (xa G 264)] ok_M_Sb_append_15ec4 okv_M_Sb_append_15ec4 k191 rfl rfl (qm_3 (i := 235) rfl rfl) np_M_Sb_append_15ec4 rfl ⟨Nat.le_of_ble_eq_true rfl, Nat.le_of_ble_eq_true rfl⟩ (Nat.le_of_ble_eq_true rfl) rfl d_Cl_drawn_346 h189 h190 (DP.k h (fun v193 w192 gw192 h => (?_ : WD _ _ 349 _ _ _ _ _ _)))
      refine x_aloadP (some x5) d_Cl_drawn_349 rfl (?_ : WD _ _ 351 _ _ _ _ _ _)
      refine x_getI (ref := "CoinSamplerLaw$Item") (j := 0) 0 (((k176.q gw178.k).q gw184.k).q gw192.k) clk_13 (by decide) (qm_4 (i := 151) rfl rfl) (Or.inl rfl) rfl rfl d_Cl_drawn_351 (y := (wI w192 x5 0)) rfl (?_ : WD _ _ 354 _ _ _ _ _ _)
      obtain ⟨a194, e195, h⟩ := h
      rw [e195]
      obtain ⟨c196, s197, h198, h199, h⟩ := h
      obtain ⟨k200, h⟩ := h
      refine x_callV (ν := M_Sb_append_bf812) [vI (wI w192 x5 0)] ok_M_Sb_append_bf812 okv_M_Sb_append_bf812 k200 rfl rfl (qm_4 (i := 100) rfl rfl) np_M_Sb_append_bf812 rfl ⟨Nat.le_of_ble_eq_true rfl, Nat.le_of_ble_eq_true rfl⟩ (Nat.le_of_ble_eq_true rfl) rfl d_Cl_drawn_354 h198 h199 (DP.k h (fun v202 w201 gw201 h => (?_ : WD _ _ 357 _ _ _ _ _ _)))
      refine x_bipush d_Cl_drawn_357 (by decide) (by decide) (?_ : WD _ _ 359 _ _ _ _ _ _)
      obtain ⟨a203, e204, h⟩ := h
      rw [e204]
      obtain ⟨c205, s206, h207, h208, h⟩ := h
      obtain ⟨k209, h⟩ := h
      refine x_callV (ν := M_Sb_append_cf468) [vI 32] ok_M_Sb_append_cf468 okv_M_Sb_append_cf468 k209 rfl rfl (qm_4 (i := 125) rfl rfl) np_M_Sb_append_cf468 rfl ⟨Nat.le_of_ble_eq_true rfl, Nat.le_of_ble_eq_true rfl⟩ (Nat.le_of_ble_eq_true rfl) rfl d_Cl_drawn_359 h207 h208 (DP.k h (fun v211 w210 gw210 h => (?_ : WD _ _ 362 _ _ _ _ _ _)))
      refine x_aloadP (some x5) d_Cl_drawn_362 rfl (?_ : WD _ _ 364 _ _ _ _ _ _)
      refine x_getI (ref := "CoinSamplerLaw$Item") (j := 1) 1 (((((k176.q gw178.k).q gw184.k).q gw192.k).q gw201.k).q gw210.k) clk_13 (by decide) (qm_4 (i := 153) rfl rfl) (Or.inl rfl) rfl rfl d_Cl_drawn_364 (y := (wI w210 x5 1)) rfl (?_ : WD _ _ 367 _ _ _ _ _ _)
      obtain ⟨a212, e213, h⟩ := h
      rw [e213]
      obtain ⟨c214, s215, h216, h217, h⟩ := h
      obtain ⟨k218, h⟩ := h
      refine x_callV (ν := M_Sb_append_bf812) [vI (wI w210 x5 1)] ok_M_Sb_append_bf812 okv_M_Sb_append_bf812 k218 rfl rfl (qm_4 (i := 100) rfl rfl) np_M_Sb_append_bf812 rfl ⟨Nat.le_of_ble_eq_true rfl, Nat.le_of_ble_eq_true rfl⟩ (Nat.le_of_ble_eq_true rfl) rfl d_Cl_drawn_367 h216 h217 (DP.k h (fun v220 w219 gw219 h => (?_ : WD _ _ 370 _ _ _ _ _ _)))
      refine x_aloadP (some x5) d_Cl_drawn_370 rfl (?_ : WD _ _ 372 _ _ _ _ _ _)
      refine x_getI (ref := "CoinSamplerLaw$Item") (j := 2) 2 ((((((k176.q gw178.k).q gw184.k).q gw192.k).q gw201.k).q gw210.k).q gw219.k) clk_13 (by decide) (qm_4 (i := 157) rfl rfl) (Or.inl rfl) rfl rfl d_Cl_drawn_372 (y := (wI w219 x5 2)) rfl (?_ : WD _ _ 375 _ _ _ _ _ _)
      refine x_if_ge 383 d_Cl_drawn_375 rfl ⟨fun c221 => (?_ : WD _ _ 383 _ _ _ _ _ _), fun c221 => (?_ : WD _ _ 378 _ _ _ _ _ _)⟩
      · replace h := h.1 c221
        refine x_ldcS (q := 268) (tx := " ") d_Cl_drawn_383 (by decide) (?_ : WD _ _ 385 _ _ _ _ _ _)
        exact h
      · replace h := h.2 c221
        refine x_ldcS (q := 266) (tx := " - ") d_Cl_drawn_378 (by decide) (?_ : WD _ _ 380 _ _ _ _ _ _)
        refine x_goto 385 d_Cl_drawn_380 rfl ?_
        exact h
    · replace h := h.2 c186
      refine x_goto 82 d_Cl_drawn_340 rfl ?_
      refine x_pick (ls' := [(0, vA x0), (1, vA x1), (2, vA x2), (3, vI x3), (4, vI x4)]) [0, 1, 2, 3, 4] rfl ?_
      exact h
set_option maxRecDepth 20000 in
theorem l_Cl_drawn_7 {G : Gq} {K : Option Nat → Wd → Prop} {w : Wd} {rc rs : Nat} (x0 : Nat) (x1 : Nat) (x2 : Nat) (x3 : Int) (x4 : Int) (x5 : Nat) (y0 : Nat) (y1 : Option Nat) (h : ∃ a222 : Nat, y1 = some a222 ∧ (∃ c224 s225 : Nat, c224 ≤ rc ∧ s225 ≤ rs ∧ ((Is G w a222 (kO 17)) ∧ DP G M_Sb_append_15ec4 [vA a222, vA y0] w c224 s225 (fun v230 w229 => (Is G w229 x5 (kO 13)) ∧ DI G M_Ma_abs [vI (wI w229 x5 2)] w229 0 0 (fun v233 w232 => ∃ a234 : Nat, v230 = some a234 ∧ (∃ c236 s237 : Nat, c236 ≤ (rc - c224) ∧ s237 ≤ (rs - s225) ∧ ((Is G w232 a234 (kO 17)) ∧ DP G M_Sb_append_bf812 [vA a234, vI v233] w232 c236 s237 (fun v242 w241 => DI G M_Cl_draw [vA x1, vI 3] w241 0 0 (fun v244 w243 => (¬ v244 = 0 → WD G M_Cl_drawn 414 [(0, vA x0), (1, vA x1), (2, vA x2), (3, vI x3), (4, vI x4), (5, vA x5)] [vA (xa G 272), vP v242] w243 ((rc - c224) - c236) ((rs - s225) - s237) (yP K)) ∧ (v244 = 0 → WD G M_Cl_drawn 414 [(0, vA x0), (1, vA x1), (2, vA x2), (3, vI x3), (4, vI x4), (5, vA x5)] [vA (xa G 270), vP v242] w243 ((rc - c224) - c236) ((rs - s225) - s237) (yP K))))))))))) : WD G M_Cl_drawn 385 [(0, vA x0), (1, vA x1), (2, vA x2), (3, vI x3), (4, vI x4), (5, vA x5)] [vA y0, vP y1] w rc rs (yP K) := by
  obtain ⟨a222, e223, h⟩ := h
  rw [e223]
  obtain ⟨c224, s225, h226, h227, h⟩ := h
  obtain ⟨k228, h⟩ := h
  refine x_callV (ν := M_Sb_append_15ec4) [vA y0] ok_M_Sb_append_15ec4 okv_M_Sb_append_15ec4 k228 rfl rfl (qm_3 (i := 235) rfl rfl) np_M_Sb_append_15ec4 rfl ⟨Nat.le_of_ble_eq_true rfl, Nat.le_of_ble_eq_true rfl⟩ (Nat.le_of_ble_eq_true rfl) rfl d_Cl_drawn_385 h226 h227 (DP.k h (fun v230 w229 gw229 h => (?_ : WD _ _ 388 _ _ _ _ _ _)))
  refine x_aloadP (some x5) d_Cl_drawn_388 rfl (?_ : WD _ _ 390 _ _ _ _ _ _)
  obtain ⟨k231, h⟩ := h
  refine x_getI (ref := "CoinSamplerLaw$Item") (j := 2) 2 k231 clk_13 (by decide) (qm_4 (i := 157) rfl rfl) (Or.inl rfl) rfl rfl d_Cl_drawn_390 (y := (wI w229 x5 2)) rfl (?_ : WD _ _ 393 _ _ _ _ _ _)
  refine x_callS (ν := M_Ma_abs) [vI (wI w229 x5 2)] ok_M_Ma_abs oks_M_Ma_abs (qm_4 (i := 176) rfl rfl) np_M_Ma_abs rfl ⟨Nat.le_of_ble_eq_true rfl, Nat.le_of_ble_eq_true rfl⟩ (Nat.le_of_ble_eq_true rfl) rfl d_Cl_drawn_393 (Nat.zero_le _) (Nat.zero_le _) (DI.k h (fun v233 w232 gw232 h => (?_ : WD _ _ 396 _ _ _ _ _ _)))
  obtain ⟨a234, e235, h⟩ := h
  rw [e235]
  obtain ⟨c236, s237, h238, h239, h⟩ := h
  obtain ⟨k240, h⟩ := h
  refine x_callV (ν := M_Sb_append_bf812) [vI v233] ok_M_Sb_append_bf812 okv_M_Sb_append_bf812 k240 rfl rfl (qm_4 (i := 100) rfl rfl) np_M_Sb_append_bf812 rfl ⟨Nat.le_of_ble_eq_true rfl, Nat.le_of_ble_eq_true rfl⟩ (Nat.le_of_ble_eq_true rfl) rfl d_Cl_drawn_396 h238 h239 (DP.k h (fun v242 w241 gw241 h => (?_ : WD _ _ 399 _ _ _ _ _ _)))
  refine x_aload_nP (some x1) d_Cl_drawn_399 rfl (?_ : WD _ _ 400 _ _ _ _ _ _)
  refine x_iconst d_Cl_drawn_400 (by decide) (?_ : WD _ _ 401 _ _ _ _ _ _)
  refine x_callS (ν := M_Cl_draw) [vA x1, vI 3] ok_M_Cl_draw oks_M_Cl_draw (qm_3 (i := 179) rfl rfl) np_M_Cl_draw rfl ⟨Nat.le_of_ble_eq_true rfl, Nat.le_of_ble_eq_true rfl⟩ (Nat.le_of_ble_eq_true rfl) rfl d_Cl_drawn_401 (Nat.zero_le _) (Nat.zero_le _) (DI.k h (fun v244 w243 gw243 h => (?_ : WD _ _ 404 _ _ _ _ _ _)))
  refine x_if_ne 412 d_Cl_drawn_404 rfl ⟨fun c245 => (?_ : WD _ _ 412 _ _ _ _ _ _), fun c245 => (?_ : WD _ _ 407 _ _ _ _ _ _)⟩
  · replace h := h.1 c245
    refine x_ldcS (q := 272) (tx := ";") d_Cl_drawn_412 (by decide) (?_ : WD _ _ 414 _ _ _ _ _ _)
    exact h
  · replace h := h.2 c245
    refine x_ldcS (q := 270) (tx := "; ") d_Cl_drawn_407 (by decide) (?_ : WD _ _ 409 _ _ _ _ _ _)
    refine x_goto 414 d_Cl_drawn_409 rfl ?_
    exact h
set_option maxRecDepth 20000 in
theorem l_Cl_drawn_8 {G : Gq} {K : Option Nat → Wd → Prop} {w : Wd} {rc rs : Nat} (x0 : Nat) (x1 : Nat) (x2 : Nat) (x3 : Int) (x4 : Int) (x5 : Nat) (y0 : Nat) (y1 : Option Nat) (h : ∃ a246 : Nat, y1 = some a246 ∧ (∃ c248 s249 : Nat, c248 ≤ rc ∧ s249 ≤ rs ∧ ((Is G w a246 (kO 17)) ∧ DP G M_Sb_append_15ec4 [vA a246, vA y0] w c248 s249 (fun v254 w253 => (Is G w253 x0 (kO 11)) ∧ ∃ a256 : Nat, (wR w253 x0 0) = some a256 ∧ (∃ c258 s259 : Nat, c258 ≤ (rc - c248) ∧ s259 ≤ (rs - s249) ∧ ((Is G w253 a256 (kO 14)) ∧ DI G M_Al_add_9ea2d [vA a256, vA x5] w253 c258 s259 (fun v264 w263 => WD G M_Cl_drawn 82 [(0, vA x0), (1, vA x1), (2, vA x2), (3, vI x3), (4, vI x4)] [] w263 ((rc - c248) - c258) ((rs - s249) - s259) (yP K)))))))) : WD G M_Cl_drawn 414 [(0, vA x0), (1, vA x1), (2, vA x2), (3, vI x3), (4, vI x4), (5, vA x5)] [vA y0, vP y1] w rc rs (yP K) := by
  obtain ⟨a246, e247, h⟩ := h
  rw [e247]
  obtain ⟨c248, s249, h250, h251, h⟩ := h
  obtain ⟨k252, h⟩ := h
  refine x_callV (ν := M_Sb_append_15ec4) [vA y0] ok_M_Sb_append_15ec4 okv_M_Sb_append_15ec4 k252 rfl rfl (qm_3 (i := 235) rfl rfl) np_M_Sb_append_15ec4 rfl ⟨Nat.le_of_ble_eq_true rfl, Nat.le_of_ble_eq_true rfl⟩ (Nat.le_of_ble_eq_true rfl) rfl d_Cl_drawn_414 h250 h251 (DP.k h (fun v254 w253 gw253 h => (?_ : WD _ _ 417 _ _ _ _ _ _)))
  refine x_pop d_Cl_drawn_417 rfl (?_ : WD _ _ 418 _ _ _ _ _ _)
  refine x_aload_nP (some x0) d_Cl_drawn_418 rfl (?_ : WD _ _ 419 _ _ _ _ _ _)
  obtain ⟨k255, h⟩ := h
  refine x_getP (ref := "CoinSamplerLaw$Books") (j := 0) 0 k255 clk_11 (by decide) (qm_2 (i := 156) rfl rfl) (Or.inl rfl) rfl rfl d_Cl_drawn_419 (y := (wR w253 x0 0)) rfl (?_ : WD _ _ 422 _ _ _ _ _ _)
  refine x_aloadP (some x5) d_Cl_drawn_422 rfl (?_ : WD _ _ 424 _ _ _ _ _ _)
  obtain ⟨a256, e257, h⟩ := h
  rw [e257]
  obtain ⟨c258, s259, h260, h261, h⟩ := h
  obtain ⟨k262, h⟩ := h
  refine x_callV (ν := M_Al_add_9ea2d) [vA x5] ok_M_Al_add_9ea2d okv_M_Al_add_9ea2d k262 rfl rfl (qm_4 (i := 181) rfl rfl) np_M_Al_add_9ea2d rfl ⟨Nat.le_of_ble_eq_true rfl, Nat.le_of_ble_eq_true rfl⟩ (Nat.le_of_ble_eq_true rfl) rfl d_Cl_drawn_424 h260 h261 (DI.k h (fun v264 w263 gw263 h => (?_ : WD _ _ 427 _ _ _ _ _ _)))
  refine x_pop d_Cl_drawn_427 rfl (?_ : WD _ _ 428 _ _ _ _ _ _)
  refine x_goto 82 d_Cl_drawn_428 rfl ?_
  refine x_pick (ls' := [(0, vA x0), (1, vA x1), (2, vA x2), (3, vI x3), (4, vI x4)]) [0, 1, 2, 3, 4] rfl ?_
  exact h
set_option maxRecDepth 20000 in
theorem e_Cl_feeds {G : Gq} {K : Int → Wd → Prop} {w : Wd} {mc ms : Nat} (x1 : Nat) (h : WD G M_Cl_feeds 2 [(0, vR 0), (1, vA x1), (2, vI 0)] [] w mc ms (yI K)) : DI G M_Cl_feeds [vR 0, vA x1] w mc ms K := by
  refine DC.of ok_M_Cl_feeds (ls := [(0, vR 0), (1, vA x1)]) rfl (Nat.le_of_ble_eq_true rfl) ?_
  refine x_iconst d_Cl_feeds_0 (by decide) (?_ : WD _ _ 1 _ _ _ _ _ _)
  refine x_istore_n (ls' := [(2, vI 0), (0, vR 0), (1, vA x1)]) d_Cl_feeds_1 rfl (by decide) rfl (?_ : WD _ _ 2 _ _ _ _ _ _)
  refine x_pick (ls' := [(0, vR 0), (1, vA x1), (2, vI 0)]) [1, 2, 0] rfl ?_
  exact h
set_option maxRecDepth 20000 in
theorem l_Cl_feeds_1 {G : Gq} {K : Int → Wd → Prop} {w : Wd} {rc rs : Nat} (x1 : Nat) (x2 : Int) (h : (Is G w x1 (kO 18)) ∧ DI G M_Sg_length [vA x1] w 0 0 (fun v3 w2 => (v3 ≤ x2 → DI G M_Sg_length [vA x1] w2 0 0 (fun v6 w5 => K v6 w5)) ∧ (¬ v3 ≤ x2 → (1 ≤ rc) ∧ (5 ≤ rs) ∧ ∀ q9 : Nat, Fr G w2 q9 → (WD G M_Cl_feeds 17 [(0, vR 0), (1, vA x1), (2, vI x2), (3, vA q9), (4, vI 0)] [] (uN w2 q9 (kA 0 5)) (rc - 1) (rs - 5) (yI K))))) : WD G M_Cl_feeds 2 [(0, vR 0), (1, vA x1), (2, vI x2)] [] w rc rs (yI K) := by
  refine x_iload_n d_Cl_feeds_2 rfl (?_ : WD _ _ 3 _ _ _ _ _ _)
  refine x_aload_nP (some x1) d_Cl_feeds_3 rfl (?_ : WD _ _ 4 _ _ _ _ _ _)
  obtain ⟨k1, h⟩ := h
  refine x_callV (ν := M_Sg_length) [] ok_M_Sg_length okv_M_Sg_length k1 rfl rfl (qm_5 (i := 115) rfl rfl) np_M_Sg_length rfl ⟨Nat.le_of_ble_eq_true rfl, Nat.le_of_ble_eq_true rfl⟩ (Nat.le_of_ble_eq_true rfl) rfl d_Cl_feeds_4 (Nat.zero_le _) (Nat.zero_le _) (DI.k h (fun v3 w2 gw2 h => (?_ : WD _ _ 7 _ _ _ _ _ _)))
  refine x_icmp_ge 96 d_Cl_feeds_7 rfl ⟨fun c4 => (?_ : WD _ _ 96 _ _ _ _ _ _), fun c4 => (?_ : WD _ _ 10 _ _ _ _ _ _)⟩
  · replace h := h.1 c4
    refine x_aload_nP (some x1) d_Cl_feeds_96 rfl (?_ : WD _ _ 97 _ _ _ _ _ _)
    refine x_callV (ν := M_Sg_length) [] ok_M_Sg_length okv_M_Sg_length (k1.q gw2.k) rfl rfl (qm_5 (i := 115) rfl rfl) np_M_Sg_length rfl ⟨Nat.le_of_ble_eq_true rfl, Nat.le_of_ble_eq_true rfl⟩ (Nat.le_of_ble_eq_true rfl) rfl d_Cl_feeds_97 (Nat.zero_le _) (Nat.zero_le _) (DI.k h (fun v6 w5 gw5 h => (?_ : WD _ _ 100 _ _ _ _ _ _)))
    exact x_ireturn rfl d_Cl_feeds_100 h
  · replace h := h.2 c4
    refine x_iconst d_Cl_feeds_10 (by decide) (?_ : WD _ _ 11 _ _ _ _ _ _)
    obtain ⟨h7, h⟩ := h
    obtain ⟨h8, h⟩ := h
    refine x_newa (t := 0) 5 rfl d_Cl_feeds_11 rfl (qm_1 (i := 107) rfl rfl) (fun _ => rfl) (fun _ _ => rfl) (fun _ => rfl) (by decide) (by decide) h7 h8 (fun q9 fq9 => (?_ : WD _ _ 13 _ _ _ _ _ _))
    replace h := h q9 fq9
    have k10 : Ow (uN w2 q9 (kA 0 5)) q9 (kA 0 5) := Ow.nw
    refine x_astore_nP (some q9) (ls' := [(3, vA q9), (0, vR 0), (1, vA x1), (2, vI x2)]) d_Cl_feeds_13 rfl (by decide) rfl (?_ : WD _ _ 14 _ _ _ _ _ _)
    refine x_iconst d_Cl_feeds_14 (by decide) (?_ : WD _ _ 15 _ _ _ _ _ _)
    refine x_istore (ls' := [(4, vI 0), (3, vA q9), (0, vR 0), (1, vA x1), (2, vI x2)]) d_Cl_feeds_15 (by decide) rfl (?_ : WD _ _ 17 _ _ _ _ _ _)
    refine x_pick (ls' := [(0, vR 0), (1, vA x1), (2, vI x2), (3, vA q9), (4, vI 0)]) [2, 3, 4, 1, 0] rfl ?_
    exact h
set_option maxRecDepth 20000 in
theorem l_Cl_feeds_2 {G : Gq} {K : Int → Wd → Prop} {w : Wd} {rc rs : Nat} (x1 : Nat) (x2 : Int) (x3 : Nat) (x4 : Int) (h : (20 ≤ x4 → ∃ n12 : Nat, ((Is G w x3 (kA 0 n12)) ∧ (0 < (n12 : Int)) ∧ (1 < (n12 : Int)) ∧ (2 < (n12 : Int)) ∧ (3 < (n12 : Int)) ∧ (4 < (n12 : Int)) ∧ CI M_Cs_feed [vR 0, vI (wI w x3 0), vI (wI w x3 1), vI (wI w x3 2), vI (wI w x3 3), vI (wI w x3 4)] (wS w) (fun v19 σ20 => (inR (x2 + 20)) ∧ WD G M_Cl_feeds 2 [(0, vR 0), (1, vA x1), (2, vI (x2 + 20))] [] (uS w σ20) rc rs (yI K)))) ∧ (¬ 20 ≤ x4 → (0 ≤ x4) ∧ ∃ n23 : Nat, ((Is G w x3 (kA 0 n23)) ∧ (0 ≤ (x4 / 4)) ∧ ((x4 / 4) < (n23 : Int)) ∧ (inR (x2 + x4)) ∧ (Is G w x1 (kO 18)) ∧ DI G M_Sg_length [vA x1] w 0 0 (fun v30 w29 => (v30 ≤ (x2 + x4) → (Ow w29 x3 (kA 0 n23)) ∧ (inR (x4 + 1)) ∧ WD G M_Cl_feeds 17 [(0, vR 0), (1, vA x1), (2, vI x2), (3, vA x3), (4, vI (x4 + 1))] [] (uI w29 x3 (x4 / 4) (iorq (ishlq (wI w x3 (x4 / 4)) 8) 32)) rc rs (yI K)) ∧ (¬ v30 ≤ (x2 + x4) → DI G M_Sg_charAt [vA x1, vI (x2 + x4)] w29 0 0 (fun v35 w34 => (Ow w34 x3 (kA 0 n23)) ∧ (inR (x4 + 1)) ∧ WD G M_Cl_feeds 17 [(0, vR 0), (1, vA x1), (2, vI x2), (3, vA x3), (4, vI (x4 + 1))] [] (uI w34 x3 (x4 / 4) (iorq (ishlq (wI w x3 (x4 / 4)) 8) v35)) rc rs (yI K))))))) : WD G M_Cl_feeds 17 [(0, vR 0), (1, vA x1), (2, vI x2), (3, vA x3), (4, vI x4)] [] w rc rs (yI K) := by
  refine x_iload d_Cl_feeds_17 rfl (?_ : WD _ _ 19 _ _ _ _ _ _)
  refine x_bipush d_Cl_feeds_19 (by decide) (by decide) (?_ : WD _ _ 21 _ _ _ _ _ _)
  refine x_icmp_ge 70 d_Cl_feeds_21 rfl ⟨fun c11 => (?_ : WD _ _ 70 _ _ _ _ _ _), fun c11 => (?_ : WD _ _ 24 _ _ _ _ _ _)⟩
  · replace h := h.1 c11
    refine x_aload_n d_Cl_feeds_70 rfl (?_ : WD _ _ 71 _ _ _ _ _ _)
    refine x_aload_nP (some x3) d_Cl_feeds_71 rfl (?_ : WD _ _ 72 _ _ _ _ _ _)
    refine x_iconst d_Cl_feeds_72 (by decide) (?_ : WD _ _ 73 _ _ _ _ _ _)
    obtain ⟨n12, h⟩ := h
    obtain ⟨k13, h⟩ := h
    obtain ⟨h14, h⟩ := h
    refine x_iald k13 d_Cl_feeds_73 (by decide) h14 (y := (wI w x3 0)) rfl (?_ : WD _ _ 74 _ _ _ _ _ _)
    refine x_aload_nP (some x3) d_Cl_feeds_74 rfl (?_ : WD _ _ 75 _ _ _ _ _ _)
    refine x_iconst d_Cl_feeds_75 (by decide) (?_ : WD _ _ 76 _ _ _ _ _ _)
    obtain ⟨h15, h⟩ := h
    refine x_iald k13 d_Cl_feeds_76 (by decide) h15 (y := (wI w x3 1)) rfl (?_ : WD _ _ 77 _ _ _ _ _ _)
    refine x_aload_nP (some x3) d_Cl_feeds_77 rfl (?_ : WD _ _ 78 _ _ _ _ _ _)
    refine x_iconst d_Cl_feeds_78 (by decide) (?_ : WD _ _ 79 _ _ _ _ _ _)
    obtain ⟨h16, h⟩ := h
    refine x_iald k13 d_Cl_feeds_79 (by decide) h16 (y := (wI w x3 2)) rfl (?_ : WD _ _ 80 _ _ _ _ _ _)
    refine x_aload_nP (some x3) d_Cl_feeds_80 rfl (?_ : WD _ _ 81 _ _ _ _ _ _)
    refine x_iconst d_Cl_feeds_81 (by decide) (?_ : WD _ _ 82 _ _ _ _ _ _)
    obtain ⟨h17, h⟩ := h
    refine x_iald k13 d_Cl_feeds_82 (by decide) h17 (y := (wI w x3 3)) rfl (?_ : WD _ _ 83 _ _ _ _ _ _)
    refine x_aload_nP (some x3) d_Cl_feeds_83 rfl (?_ : WD _ _ 84 _ _ _ _ _ _)
    refine x_iconst d_Cl_feeds_84 (by decide) (?_ : WD _ _ 85 _ _ _ _ _ _)
    obtain ⟨h18, h⟩ := h
    refine x_iald k13 d_Cl_feeds_85 (by decide) h18 (y := (wI w x3 4)) rfl (?_ : WD _ _ 86 _ _ _ _ _ _)
    refine x_callC (ν := M_Cs_feed) (k := 0) [vI (wI w x3 0), vI (wI w x3 1), vI (wI w x3 2), vI (wI w x3 3), vI (wI w x3 4)] ok_M_Cs_feed okv_M_Cs_feed (by decide) rfl rfl rfl (qm_5 (i := 117) rfl rfl) np_M_Cs_feed rfl ⟨Nat.le_of_ble_eq_true rfl, Nat.le_of_ble_eq_true rfl⟩ (Nat.le_of_ble_eq_true rfl) rfl d_Cl_feeds_86 (CI.kd h (fun v19 σ20 h => (?_ : WD _ _ 89 _ _ _ _ _ _)))
    refine x_pop d_Cl_feeds_89 rfl (?_ : WD _ _ 90 _ _ _ _ _ _)
    obtain ⟨h21, h⟩ := h
    refine x_iinc (ls' := [(2, vI (x2 + 20)), (0, vR 0), (1, vA x1), (3, vA x3), (4, vI x4)]) d_Cl_feeds_90 rfl h21 (by decide) rfl (?_ : WD _ _ 93 _ _ _ _ _ _)
    refine x_goto 2 d_Cl_feeds_93 rfl ?_
    refine x_pick (ls' := [(0, vR 0), (1, vA x1), (2, vI (x2 + 20))]) [1, 2, 0] rfl ?_
    exact h
  · replace h := h.2 c11
    refine x_aload_nP (some x3) d_Cl_feeds_24 rfl (?_ : WD _ _ 25 _ _ _ _ _ _)
    refine x_iload d_Cl_feeds_25 rfl (?_ : WD _ _ 27 _ _ _ _ _ _)
    refine x_iconst d_Cl_feeds_27 (by decide) (?_ : WD _ _ 28 _ _ _ _ _ _)
    obtain ⟨h22, h⟩ := h
    refine x_idivn d_Cl_feeds_28 h22 (by decide) (?_ : WD _ _ 29 _ _ _ _ _ _)
    refine x_aload_nP (some x3) d_Cl_feeds_29 rfl (?_ : WD _ _ 30 _ _ _ _ _ _)
    refine x_iload d_Cl_feeds_30 rfl (?_ : WD _ _ 32 _ _ _ _ _ _)
    refine x_iconst d_Cl_feeds_32 (by decide) (?_ : WD _ _ 33 _ _ _ _ _ _)
    refine x_idivn d_Cl_feeds_33 h22 (by decide) (?_ : WD _ _ 34 _ _ _ _ _ _)
    obtain ⟨n23, h⟩ := h
    obtain ⟨k24, h⟩ := h
    obtain ⟨h25, h⟩ := h
    obtain ⟨h26, h⟩ := h
    refine x_iald k24 d_Cl_feeds_34 h25 h26 (y := (wI w x3 (x4 / 4))) rfl (?_ : WD _ _ 35 _ _ _ _ _ _)
    refine x_bipush d_Cl_feeds_35 (by decide) (by decide) (?_ : WD _ _ 37 _ _ _ _ _ _)
    refine x_ishlq d_Cl_feeds_37 (?_ : WD _ _ 38 _ _ _ _ _ _)
    refine x_iload_n d_Cl_feeds_38 rfl (?_ : WD _ _ 39 _ _ _ _ _ _)
    refine x_iload d_Cl_feeds_39 rfl (?_ : WD _ _ 41 _ _ _ _ _ _)
    obtain ⟨h27, h⟩ := h
    refine x_iadd d_Cl_feeds_41 h27 (?_ : WD _ _ 42 _ _ _ _ _ _)
    refine x_aload_nP (some x1) d_Cl_feeds_42 rfl (?_ : WD _ _ 43 _ _ _ _ _ _)
    obtain ⟨k28, h⟩ := h
    refine x_callV (ν := M_Sg_length) [] ok_M_Sg_length okv_M_Sg_length k28 rfl rfl (qm_5 (i := 115) rfl rfl) np_M_Sg_length rfl ⟨Nat.le_of_ble_eq_true rfl, Nat.le_of_ble_eq_true rfl⟩ (Nat.le_of_ble_eq_true rfl) rfl d_Cl_feeds_43 (Nat.zero_le _) (Nat.zero_le _) (DI.k h (fun v30 w29 gw29 h => (?_ : WD _ _ 46 _ _ _ _ _ _)))
    refine x_icmp_ge 60 d_Cl_feeds_46 rfl ⟨fun c31 => (?_ : WD _ _ 60 _ _ _ _ _ _), fun c31 => (?_ : WD _ _ 49 _ _ _ _ _ _)⟩
    · replace h := h.1 c31
      refine x_bipush d_Cl_feeds_60 (by decide) (by decide) (?_ : WD _ _ 62 _ _ _ _ _ _)
      refine x_iorq d_Cl_feeds_62 (?_ : WD _ _ 63 _ _ _ _ _ _)
      obtain ⟨k32, h⟩ := h
      refine x_iast k32 d_Cl_feeds_63 h25 h26 (?_ : WD _ _ 64 _ _ _ _ _ _)
      obtain ⟨h33, h⟩ := h
      refine x_iinc (ls' := [(4, vI (x4 + 1)), (0, vR 0), (1, vA x1), (2, vI x2), (3, vA x3)]) d_Cl_feeds_64 rfl h33 (by decide) rfl (?_ : WD _ _ 67 _ _ _ _ _ _)
      refine x_goto 17 d_Cl_feeds_67 rfl ?_
      refine x_pick (ls' := [(0, vR 0), (1, vA x1), (2, vI x2), (3, vA x3), (4, vI (x4 + 1))]) [1, 2, 3, 4, 0] rfl ?_
      exact h
    · replace h := h.2 c31
      refine x_aload_nP (some x1) d_Cl_feeds_49 rfl (?_ : WD _ _ 50 _ _ _ _ _ _)
      refine x_iload_n d_Cl_feeds_50 rfl (?_ : WD _ _ 51 _ _ _ _ _ _)
      refine x_iload d_Cl_feeds_51 rfl (?_ : WD _ _ 53 _ _ _ _ _ _)
      refine x_iadd d_Cl_feeds_53 h27 (?_ : WD _ _ 54 _ _ _ _ _ _)
      refine x_callV (ν := M_Sg_charAt) [vI (x2 + x4)] ok_M_Sg_charAt okv_M_Sg_charAt (k28.q gw29.k) rfl rfl (qm_5 (i := 116) rfl rfl) np_M_Sg_charAt rfl ⟨Nat.le_of_ble_eq_true rfl, Nat.le_of_ble_eq_true rfl⟩ (Nat.le_of_ble_eq_true rfl) rfl d_Cl_feeds_54 (Nat.zero_le _) (Nat.zero_le _) (DI.k h (fun v35 w34 gw34 h => (?_ : WD _ _ 57 _ _ _ _ _ _)))
      refine x_goto 62 d_Cl_feeds_57 rfl ?_
      refine x_iorq d_Cl_feeds_62 (?_ : WD _ _ 63 _ _ _ _ _ _)
      obtain ⟨k36, h⟩ := h
      refine x_iast k36 d_Cl_feeds_63 h25 h26 (?_ : WD _ _ 64 _ _ _ _ _ _)
      obtain ⟨h37, h⟩ := h
      refine x_iinc (ls' := [(4, vI (x4 + 1)), (0, vR 0), (1, vA x1), (2, vI x2), (3, vA x3)]) d_Cl_feeds_64 rfl h37 (by decide) rfl (?_ : WD _ _ 67 _ _ _ _ _ _)
      refine x_goto 17 d_Cl_feeds_67 rfl ?_
      refine x_pick (ls' := [(0, vR 0), (1, vA x1), (2, vI x2), (3, vA x3), (4, vI (x4 + 1))]) [1, 2, 3, 4, 0] rfl ?_
      exact h
set_option maxRecDepth 20000 in
theorem e_Cl_oftenOf {G : Gq} {K : Int → Wd → Prop} {w : Wd} {mc ms : Nat} (x0 : Nat) (x1 : Int) (h : ∃ c1 s2 : Nat, c1 ≤ mc ∧ s2 ≤ ms ∧ ((Is G w x0 (kO 14)) ∧ DP G M_Al_iterator [vA x0] w c1 s2 (fun v7 w6 => WD G M_Cl_oftenOf 7 [(1, vI x1), (2, vI 0), (3, vP v7)] [] w6 (mc - c1) (ms - s2) (yI K)))) : DI G M_Cl_oftenOf [vA x0, vI x1] w mc ms K := by
  refine DC.of ok_M_Cl_oftenOf (ls := [(0, vA x0), (1, vI x1)]) rfl (Nat.le_of_ble_eq_true rfl) ?_
  refine x_iconst d_Cl_oftenOf_0 (by decide) (?_ : WD _ _ 1 _ _ _ _ _ _)
  refine x_istore_n (ls' := [(2, vI 0), (0, vA x0), (1, vI x1)]) d_Cl_oftenOf_1 rfl (by decide) rfl (?_ : WD _ _ 2 _ _ _ _ _ _)
  refine x_aload_nP (some x0) d_Cl_oftenOf_2 rfl (?_ : WD _ _ 3 _ _ _ _ _ _)
  obtain ⟨c1, s2, h3, h4, h⟩ := h
  obtain ⟨k5, h⟩ := h
  refine x_callV (ν := M_Al_iterator) [] ok_M_Al_iterator okv_M_Al_iterator k5 rfl rfl (qm_5 (i := 180) rfl rfl) np_M_Al_iterator rfl ⟨Nat.le_of_ble_eq_true rfl, Nat.le_of_ble_eq_true rfl⟩ (Nat.le_of_ble_eq_true rfl) rfl d_Cl_oftenOf_3 h3 h4 (DP.k h (fun v7 w6 gw6 h => (?_ : WD _ _ 6 _ _ _ _ _ _)))
  refine x_astore_nP v7 (ls' := [(3, vP v7), (2, vI 0), (0, vA x0), (1, vI x1)]) d_Cl_oftenOf_6 rfl (by decide) rfl (?_ : WD _ _ 7 _ _ _ _ _ _)
  refine x_pick (ls' := [(1, vI x1), (2, vI 0), (3, vP v7)]) [3, 1, 0] rfl ?_
  exact h
set_option maxRecDepth 20000 in
theorem l_Cl_oftenOf_1 {G : Gq} {K : Int → Wd → Prop} {w : Wd} {rc rs : Nat} (x1 : Int) (x2 : Int) (x3 : Option Nat) (h : ∃ a8 : Nat, x3 = some a8 ∧ ((Is G w a8 (kO 15)) ∧ DI G M_Ai_hasNext [vA a8] w 0 0 (fun v12 w11 => (v12 = 0 → K x2 w11) ∧ (¬ v12 = 0 → DP G M_Ai_next [vA a8] w11 0 0 (fun v15 w14 => ∃ a16 : Nat, v15 = some a16 ∧ ((Is G w14 a16 (kO 12)) ∧ (¬ (wI w14 a16 0) = x1 → (inR (x2 + 0)) ∧ WD G M_Cl_oftenOf 7 [(1, vI x1), (2, vI (x2 + 0)), (3, vP (some a8))] [] w14 rc rs (yI K)) ∧ ((wI w14 a16 0) = x1 → (inR (x2 + 1)) ∧ WD G M_Cl_oftenOf 7 [(1, vI x1), (2, vI (x2 + 1)), (3, vP (some a8))] [] w14 rc rs (yI K)))))))) : WD G M_Cl_oftenOf 7 [(1, vI x1), (2, vI x2), (3, vP x3)] [] w rc rs (yI K) := by
  refine x_aload_nP x3 d_Cl_oftenOf_7 rfl (?_ : WD _ _ 8 _ _ _ _ _ _)
  obtain ⟨a8, e9, h⟩ := h
  rw [e9]
  obtain ⟨k10, h⟩ := h
  refine x_callF (ν := M_Ai_hasNext) ⟨"java/util/Iterator", "hasNext", "()Z"⟩ [] ok_M_Ai_hasNext oki_M_Ai_hasNext k10 rfl (qm_2 (i := 226) rfl rfl) (by decide) (qm_5 (i := 182) rfl rfl) (show _ = some 0 from by decide +kernel) rfl ⟨Nat.le_of_ble_eq_true rfl, Nat.le_of_ble_eq_true rfl⟩ (Nat.le_of_ble_eq_true rfl) rfl d_Cl_oftenOf_8 (Nat.zero_le _) (Nat.zero_le _) (DI.k h (fun v12 w11 gw11 h => (?_ : WD _ _ 13 _ _ _ _ _ _)))
  refine x_if_eq 47 d_Cl_oftenOf_13 rfl ⟨fun c13 => (?_ : WD _ _ 47 _ _ _ _ _ _), fun c13 => (?_ : WD _ _ 16 _ _ _ _ _ _)⟩
  · replace h := h.1 c13
    refine x_iload_n d_Cl_oftenOf_47 rfl (?_ : WD _ _ 48 _ _ _ _ _ _)
    exact x_ireturn rfl d_Cl_oftenOf_48 h
  · replace h := h.2 c13
    refine x_aload_nP (some a8) d_Cl_oftenOf_16 rfl (?_ : WD _ _ 17 _ _ _ _ _ _)
    refine x_callF (ν := M_Ai_next) ⟨"java/util/Iterator", "next", "()Ljava/lang/Object;"⟩ [] ok_M_Ai_next oki_M_Ai_next (k10.q gw11.k) rfl (qm_3 (i := 7) rfl rfl) (by decide) (qm_5 (i := 184) rfl rfl) (show _ = some 0 from by decide +kernel) rfl ⟨Nat.le_of_ble_eq_true rfl, Nat.le_of_ble_eq_true rfl⟩ (Nat.le_of_ble_eq_true rfl) rfl d_Cl_oftenOf_17 (Nat.zero_le _) (Nat.zero_le _) (DP.k h (fun v15 w14 gw14 h => (?_ : WD _ _ 22 _ _ _ _ _ _)))
    obtain ⟨a16, e17, h⟩ := h
    rw [e17]
    obtain ⟨k18, h⟩ := h
    refine x_cast k18 rfl (Or.inl rfl) (qm_6 (i := 203) rfl rfl) d_Cl_oftenOf_22 (?_ : WD _ _ 25 _ _ _ _ _ _)
    refine x_astoreP (some a16) (ls' := [(4, vA a16), (1, vI x1), (2, vI x2), (3, vA a8)]) d_Cl_oftenOf_25 (by decide) rfl (?_ : WD _ _ 27 _ _ _ _ _ _)
    refine x_iload_n d_Cl_oftenOf_27 rfl (?_ : WD _ _ 28 _ _ _ _ _ _)
    refine x_aloadP (some a16) d_Cl_oftenOf_28 rfl (?_ : WD _ _ 30 _ _ _ _ _ _)
    refine x_getI (ref := "CoinSamplerLaw$Hit") (j := 0) 0 k18 clk_12 (by decide) (qm_3 (i := 85) rfl rfl) (Or.inl rfl) rfl rfl d_Cl_oftenOf_30 (y := (wI w14 a16 0)) rfl (?_ : WD _ _ 33 _ _ _ _ _ _)
    refine x_iload_n d_Cl_oftenOf_33 rfl (?_ : WD _ _ 34 _ _ _ _ _ _)
    refine x_icmp_ne 41 d_Cl_oftenOf_34 rfl ⟨fun c19 => (?_ : WD _ _ 41 _ _ _ _ _ _), fun c19 => (?_ : WD _ _ 37 _ _ _ _ _ _)⟩
    · replace h := h.1 c19
      refine x_iconst d_Cl_oftenOf_41 (by decide) (?_ : WD _ _ 42 _ _ _ _ _ _)
      obtain ⟨h20, h⟩ := h
      refine x_iadd d_Cl_oftenOf_42 h20 (?_ : WD _ _ 43 _ _ _ _ _ _)
      refine x_istore_n (ls' := [(2, vI (x2 + 0)), (4, vA a16), (1, vI x1), (3, vA a8)]) d_Cl_oftenOf_43 rfl (by decide) rfl (?_ : WD _ _ 44 _ _ _ _ _ _)
      refine x_goto 7 d_Cl_oftenOf_44 rfl ?_
      refine x_pick (ls' := [(1, vI x1), (2, vI (x2 + 0)), (3, vP (some a8))]) [2, 0, 3] rfl ?_
      exact h
    · replace h := h.2 c19
      refine x_iconst d_Cl_oftenOf_37 (by decide) (?_ : WD _ _ 38 _ _ _ _ _ _)
      refine x_goto 42 d_Cl_oftenOf_38 rfl ?_
      obtain ⟨h21, h⟩ := h
      refine x_iadd d_Cl_oftenOf_42 h21 (?_ : WD _ _ 43 _ _ _ _ _ _)
      refine x_istore_n (ls' := [(2, vI (x2 + 1)), (4, vA a16), (1, vI x1), (3, vA a8)]) d_Cl_oftenOf_43 rfl (by decide) rfl (?_ : WD _ _ 44 _ _ _ _ _ _)
      refine x_goto 7 d_Cl_oftenOf_44 rfl ?_
      refine x_pick (ls' := [(1, vI x1), (2, vI (x2 + 1)), (3, vP (some a8))]) [2, 0, 3] rfl ?_
      exact h
