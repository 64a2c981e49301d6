-- what each stretch of a method asks (printed by wip/gen/gen_dout.py)
set_option maxRecDepth 20000 in
theorem e_Al_init {G : Gq} {K : Wd → Prop} {w : Wd} {mc ms : Nat} (x0 : Nat) (h : DV G M_Ak_init [vA x0] w 0 0 (fun w1 => (Ow w1 x0 (kO 14)) ∧ K (uR w1 x0 1 (some (xa G 0))))) : DV G M_Al_init [vA x0] w mc ms K := by
  refine DC.of ok_M_Al_init (ls := [(0, vA x0)]) rfl (Nat.le_of_ble_eq_true rfl) ?_
  refine x_aload_nP (some x0) d_Al_init_0 rfl (?_ : WD _ _ 1 _ _ _ _ _ _)
  refine x_callI (ν := M_Ak_init) [] ok_M_Ak_init oki_M_Ak_init rfl rfl (qm_2 (i := 130) rfl rfl) np_M_Ak_init rfl ⟨Nat.le_of_ble_eq_true rfl, Nat.le_of_ble_eq_true rfl⟩ (Nat.le_of_ble_eq_true rfl) rfl d_Al_init_1 (Nat.zero_le _) (Nat.zero_le _) (DV.k h (fun w1 gw1 h => (?_ : WD _ _ 4 _ _ _ _ _ _)))
  refine x_aload_nP (some x0) d_Al_init_4 rfl (?_ : WD _ _ 5 _ _ _ _ _ _)
  refine x_gets (i := 0) (List.mem_of_getElem? (i := 0) rfl) (qm_2 (i := 137) rfl rfl) d_Al_init_5 (?_ : WD _ _ 8 _ _ _ _ _ _)
  obtain ⟨k3, h⟩ := h
  refine x_putP (ref := "java/util/ArrayList") (j := 1) (some (xa G 0)) 1 k3 clk_14 (by decide) (qm_2 (i := 139) rfl rfl) (Or.inl rfl) (Or.inl rfl) tyJx4a65c_ok rfl nmJx4a65c d_Al_init_8 rfl rfl (nar_P (by first | exact Or.inl ⟨_, rfl⟩ | exact Or.inr ⟨_, rfl⟩) _) (fit_P (by first | exact Or.inl ⟨_, rfl⟩ | exact Or.inr ⟨_, rfl⟩) _) (?_ : WD _ _ 11 _ _ _ _ _ _)
  exact x_return rfl d_Al_init_11 h
set_option maxRecDepth 20000 in
theorem e_Al_size {G : Gq} {K : Int → Wd → Prop} {w : Wd} {mc ms : Nat} (x0 : Nat) (h : (Is G w x0 (kO 14)) ∧ K (wI w x0 2) w) : DI G M_Al_size [vA x0] w mc ms K := by
  refine DC.of ok_M_Al_size (ls := [(0, vA x0)]) rfl (Nat.le_of_ble_eq_true rfl) ?_
  refine x_aload_nP (some x0) d_Al_size_0 rfl (?_ : WD _ _ 1 _ _ _ _ _ _)
  obtain ⟨k1, h⟩ := h
  refine x_getI (ref := "java/util/ArrayList") (j := 2) 2 k1 clk_14 (by decide) (qm_2 (i := 142) rfl rfl) (Or.inl rfl) rfl rfl d_Al_size_1 (y := (wI w x0 2)) rfl (?_ : WD _ _ 4 _ _ _ _ _ _)
  exact x_ireturn rfl d_Al_size_4 h
set_option maxRecDepth 20000 in
theorem e_Al_get {G : Gq} {K : Option Nat → Wd → Prop} {w : Wd} {mc ms : Nat} (x0 : Nat) (x1 : Int) (h : (Is G w x0 (kO 14)) ∧ DI G M_Ob_checkIndex [vI x1, vI (wI w x0 2)] w 0 0 (fun v3 w2 => DP G M_Al_elementData [vA x0, vI x1] w2 0 0 (fun v5 w4 => K v5 w4))) : DP G M_Al_get [vA x0, vI x1] w mc ms K := by
  refine DC.of ok_M_Al_get (ls := [(0, vA x0), (1, vI x1)]) rfl (Nat.le_of_ble_eq_true rfl) ?_
  refine x_iload_n d_Al_get_0 rfl (?_ : WD _ _ 1 _ _ _ _ _ _)
  refine x_aload_nP (some x0) d_Al_get_1 rfl (?_ : WD _ _ 2 _ _ _ _ _ _)
  obtain ⟨k1, h⟩ := h
  refine x_getI (ref := "java/util/ArrayList") (j := 2) 2 k1 clk_14 (by decide) (qm_2 (i := 142) rfl rfl) (Or.inl rfl) rfl rfl d_Al_get_2 (y := (wI w x0 2)) rfl (?_ : WD _ _ 5 _ _ _ _ _ _)
  refine x_callS (ν := M_Ob_checkIndex) [vI x1, vI (wI w x0 2)] ok_M_Ob_checkIndex oks_M_Ob_checkIndex (qm_3 (i := 62) rfl rfl) np_M_Ob_checkIndex rfl ⟨Nat.le_of_ble_eq_true rfl, Nat.le_of_ble_eq_true rfl⟩ (Nat.le_of_ble_eq_true rfl) rfl d_Al_get_5 (Nat.zero_le _) (Nat.zero_le _) (DI.k h (fun v3 w2 gw2 h => (?_ : WD _ _ 8 _ _ _ _ _ _)))
  refine x_pop d_Al_get_8 rfl (?_ : WD _ _ 9 _ _ _ _ _ _)
  refine x_aload_nP (some x0) d_Al_get_9 rfl (?_ : WD _ _ 10 _ _ _ _ _ _)
  refine x_iload_n d_Al_get_10 rfl (?_ : WD _ _ 11 _ _ _ _ _ _)
  refine x_callV (ν := M_Al_elementData) [vI x1] ok_M_Al_elementData okv_M_Al_elementData (k1.q gw2.k) rfl rfl (qm_3 (i := 68) rfl rfl) np_M_Al_elementData rfl ⟨Nat.le_of_ble_eq_true rfl, Nat.le_of_ble_eq_true rfl⟩ (Nat.le_of_ble_eq_true rfl) rfl d_Al_get_11 (Nat.zero_le _) (Nat.zero_le _) (DP.k h (fun v5 w4 gw4 h => (?_ : WD _ _ 14 _ _ _ _ _ _)))
  exact x_areturn v5 rfl (Or.inl ⟨_, rfl⟩) d_Al_get_14 h
set_option maxRecDepth 20000 in
theorem e_Al_isEmpty {G : Gq} {K : Int → Wd → Prop} {w : Wd} {mc ms : Nat} (x0 : Nat) (h : (Is G w x0 (kO 14)) ∧ (¬ (wI w x0 2) = 0 → K 0 w) ∧ ((wI w x0 2) = 0 → K 1 w)) : DI G M_Al_isEmpty [vA x0] w mc ms K := by
  refine DC.of ok_M_Al_isEmpty (ls := [(0, vA x0)]) rfl (Nat.le_of_ble_eq_true rfl) ?_
  refine x_aload_nP (some x0) d_Al_isEmpty_0 rfl (?_ : WD _ _ 1 _ _ _ _ _ _)
  obtain ⟨k1, h⟩ := h
  refine x_getI (ref := "java/util/ArrayList") (j := 2) 2 k1 clk_14 (by decide) (qm_2 (i := 142) rfl rfl) (Or.inl rfl) rfl rfl d_Al_isEmpty_1 (y := (wI w x0 2)) rfl (?_ : WD _ _ 4 _ _ _ _ _ _)
  refine x_if_ne 11 d_Al_isEmpty_4 rfl ⟨fun c2 => (?_ : WD _ _ 11 _ _ _ _ _ _), fun c2 => (?_ : WD _ _ 7 _ _ _ _ _ _)⟩
  · replace h := h.1 c2
    refine x_iconst d_Al_isEmpty_11 (by decide) (?_ : WD _ _ 12 _ _ _ _ _ _)
    exact x_zreturn rfl d_Al_isEmpty_12 (by decide) h
  · replace h := h.2 c2
    refine x_iconst d_Al_isEmpty_7 (by decide) (?_ : WD _ _ 8 _ _ _ _ _ _)
    refine x_goto 12 d_Al_isEmpty_8 rfl ?_
    exact x_zreturn rfl d_Al_isEmpty_12 (by decide) h
set_option maxRecDepth 20000 in
theorem ed_Ma_max {G : Gq} {K : Int → Wd → Prop} {w : Wd} {mc ms : Nat} (x0 : Int) (x1 : Int) (h : (x0 < x1 → K x1 w) ∧ (¬ x0 < x1 → K x0 w)) : DI G M_Ma_max [vI x0, vI x1] w mc ms K := by
  refine DC.of ok_M_Ma_max (ls := [(0, vI x0), (1, vI x1)]) rfl (Nat.le_of_ble_eq_true rfl) ?_
  refine x_iload_n d_Ma_max_0 rfl (?_ : WD _ _ 1 _ _ _ _ _ _)
  refine x_iload_n d_Ma_max_1 rfl (?_ : WD _ _ 2 _ _ _ _ _ _)
  refine x_icmp_lt 9 d_Ma_max_2 rfl ⟨fun c1 => (?_ : WD _ _ 9 _ _ _ _ _ _), fun c1 => (?_ : WD _ _ 5 _ _ _ _ _ _)⟩
  · replace h := h.1 c1
    refine x_iload_n d_Ma_max_9 rfl (?_ : WD _ _ 10 _ _ _ _ _ _)
    exact x_ireturn rfl d_Ma_max_10 h
  · replace h := h.2 c1
    refine x_iload_n d_Ma_max_5 rfl (?_ : WD _ _ 6 _ _ _ _ _ _)
    refine x_goto 10 d_Ma_max_6 rfl ?_
    exact x_ireturn rfl d_Ma_max_10 h
set_option maxRecDepth 20000 in
theorem e_Al_clear {G : Gq} {K : Wd → Prop} {w : Wd} {mc ms : Nat} (x0 : Nat) (h : (Is G w x0 (kO 14)) ∧ (inR ((wI w x0 0) + 1)) ∧ (Ow w x0 (kO 14)) ∧ WD G M_Al_clear 27 [(1, vP (wR w x0 1)), (2, vI (wI w x0 2)), (3, vI 0)] [] (uI (uI w x0 0 ((wI w x0 0) + 1)) x0 2 0) mc ms (yV K)) : DV G M_Al_clear [vA x0] w mc ms K := by
  refine DC.of ok_M_Al_clear (ls := [(0, vA x0)]) rfl (Nat.le_of_ble_eq_true rfl) ?_
  refine x_aload_nP (some x0) d_Al_clear_0 rfl (?_ : WD _ _ 1 _ _ _ _ _ _)
  refine x_dup d_Al_clear_1 rfl (?_ : WD _ _ 2 _ _ _ _ _ _)
  obtain ⟨k1, h⟩ := h
  refine x_getI (ref := "java/util/ArrayList") (j := 0) 0 k1 clk_14 (by decide) (qm_2 (i := 146) rfl rfl) (Or.inr (qm_2 (i := 145) rfl rfl)) rfl rfl d_Al_clear_2 (y := (wI w x0 0)) rfl (?_ : WD _ _ 5 _ _ _ _ _ _)
  refine x_iconst d_Al_clear_5 (by decide) (?_ : WD _ _ 6 _ _ _ _ _ _)
  obtain ⟨h2, h⟩ := h
  refine x_iadd d_Al_clear_6 h2 (?_ : WD _ _ 7 _ _ _ _ _ _)
  obtain ⟨k3, h⟩ := h
  refine x_putI (ref := "java/util/ArrayList") (j := 0) 0 k3 clk_14 (by decide) (qm_2 (i := 146) rfl rfl) (Or.inr (qm_2 (i := 145) rfl rfl)) (Or.inl rfl) tyJx4a65c_ok rfl nmJx4a65c d_Al_clear_7 rfl rfl (fun _ => rfl) rfl (?_ : WD _ _ 10 _ _ _ _ _ _)
  refine x_aload_nP (some x0) d_Al_clear_10 rfl (?_ : WD _ _ 11 _ _ _ _ _ _)
  refine x_getP (ref := "java/util/ArrayList") (j := 1) 1 k3.is clk_14 (by decide) (qm_2 (i := 139) rfl rfl) (Or.inl rfl) rfl rfl d_Al_clear_11 (y := (wR w x0 1)) rfl (?_ : WD _ _ 14 _ _ _ _ _ _)
  refine x_astore_nP (wR w x0 1) (ls' := [(1, vP (wR w x0 1)), (0, vA x0)]) d_Al_clear_14 rfl (by decide) rfl (?_ : WD _ _ 15 _ _ _ _ _ _)
  refine x_aload_nP (some x0) d_Al_clear_15 rfl (?_ : WD _ _ 16 _ _ _ _ _ _)
  refine x_getI (ref := "java/util/ArrayList") (j := 2) 2 k3.is clk_14 (by decide) (qm_2 (i := 142) rfl rfl) (Or.inl rfl) rfl rfl d_Al_clear_16 (y := (wI w x0 2)) (wI_uI_j (by decide)) (?_ : WD _ _ 19 _ _ _ _ _ _)
  refine x_istore_n (ls' := [(2, vI (wI w x0 2)), (1, vP (wR w x0 1)), (0, vA x0)]) d_Al_clear_19 rfl (by decide) rfl (?_ : WD _ _ 20 _ _ _ _ _ _)
  refine x_aload_nP (some x0) d_Al_clear_20 rfl (?_ : WD _ _ 21 _ _ _ _ _ _)
  refine x_iconst d_Al_clear_21 (by decide) (?_ : WD _ _ 22 _ _ _ _ _ _)
  refine x_dup_x1 d_Al_clear_22 rfl rfl (?_ : WD _ _ 23 _ _ _ _ _ _)
  refine x_putI (ref := "java/util/ArrayList") (j := 2) 2 k3 clk_14 (by decide) (qm_2 (i := 142) rfl rfl) (Or.inl rfl) (Or.inl rfl) tyJx4a65c_ok rfl nmJx4a65c d_Al_clear_23 rfl rfl (fun _ => rfl) rfl (?_ : WD _ _ 26 _ _ _ _ _ _)
  refine x_istore_n (ls' := [(3, vI 0), (2, vI (wI w x0 2)), (1, vP (wR w x0 1)), (0, vA x0)]) d_Al_clear_26 rfl (by decide) rfl (?_ : WD _ _ 27 _ _ _ _ _ _)
  refine x_pick (ls' := [(1, vP (wR w x0 1)), (2, vI (wI w x0 2)), (3, vI 0)]) [2, 1, 0] rfl ?_
  exact h
set_option maxRecDepth 20000 in
theorem l_Al_clear_1 {G : Gq} {K : Wd → Prop} {w : Wd} {rc rs : Nat} (x1 : Option Nat) (x2 : Int) (x3 : Int) (h : (x2 ≤ x3 → K w) ∧ (¬ x2 ≤ x3 → ∃ a5 : Nat, x1 = some a5 ∧ (∃ n7 : Nat, ((Ow w a5 (kR 4 n7)) ∧ (0 ≤ x3) ∧ (x3 < (n7 : Int)) ∧ (inR (x3 + 1)) ∧ WD G M_Al_clear 27 [(1, vP (some a5)), (2, vI x2), (3, vI (x3 + 1))] [] (uR w a5 x3 none) rc rs (yV K))))) : WD G M_Al_clear 27 [(1, vP x1), (2, vI x2), (3, vI x3)] [] w rc rs (yV K) := by
  refine x_iload_n d_Al_clear_27 rfl (?_ : WD _ _ 28 _ _ _ _ _ _)
  refine x_iload_n d_Al_clear_28 rfl (?_ : WD _ _ 29 _ _ _ _ _ _)
  refine x_icmp_ge 42 d_Al_clear_29 rfl ⟨fun c4 => (?_ : WD _ _ 42 _ _ _ _ _ _), fun c4 => (?_ : WD _ _ 32 _ _ _ _ _ _)⟩
  · replace h := h.1 c4
    exact x_return rfl d_Al_clear_42 h
  · replace h := h.2 c4
    refine x_aload_nP x1 d_Al_clear_32 rfl (?_ : WD _ _ 33 _ _ _ _ _ _)
    refine x_iload_n d_Al_clear_33 rfl (?_ : WD _ _ 34 _ _ _ _ _ _)
    refine x_null d_Al_clear_34 (?_ : WD _ _ 35 _ _ _ _ _ _)
    obtain ⟨a5, e6, h⟩ := h
    rw [e6]
    obtain ⟨n7, h⟩ := h
    obtain ⟨k8, h⟩ := h
    obtain ⟨h9, h⟩ := h
    obtain ⟨h10, h⟩ := h
    refine x_aastN k8 (fun _ => rfl) d_Al_clear_35 h9 h10 (?_ : WD _ _ 36 _ _ _ _ _ _)
    obtain ⟨h11, h⟩ := h
    refine x_iinc (ls' := [(3, vI (x3 + 1)), (1, vA a5), (2, vI x2)]) d_Al_clear_36 rfl h11 (by decide) rfl (?_ : WD _ _ 39 _ _ _ _ _ _)
    refine x_goto 27 d_Al_clear_39 rfl ?_
    refine x_pick (ls' := [(1, vP (some a5)), (2, vI x2), (3, vI (x3 + 1))]) [1, 2, 0] rfl ?_
    exact h
set_option maxRecDepth 20000 in
theorem e_Al_iterator {G : Gq} {K : Option Nat → Wd → Prop} {w : Wd} {mc ms : Nat} (x0 : Nat) (h : (1 ≤ mc) ∧ (4 ≤ ms) ∧ ∀ q3 : Nat, Fr G w q3 → (DV G M_Ai_init [vA q3, vA x0] (uN w q3 (kO 15)) 0 0 (fun w5 => K (some q3) w5))) : DP G M_Al_iterator [vA x0] w mc ms K := by
  refine DC.of ok_M_Al_iterator (ls := [(0, vA x0)]) rfl (Nat.le_of_ble_eq_true rfl) ?_
  obtain ⟨h1, h⟩ := h
  obtain ⟨h2, h⟩ := h
  refine x_new d_Al_iterator_0 clk_15 tyJx35411_ok (qm_2 (i := 202) rfl rfl) (qm_2 (i := 203) rfl rfl) (qm_1 (i := 30) rfl rfl) hfd_15 h1 h2 (fun q3 fq3 => (?_ : WD _ _ 3 _ _ _ _ _ _))
  replace h := h q3 fq3
  have k4 : Ow (uN w q3 (kO 15)) q3 (kO 15) := Ow.nw
  refine x_dup d_Al_iterator_3 rfl (?_ : WD _ _ 4 _ _ _ _ _ _)
  refine x_aload_nP (some x0) d_Al_iterator_4 rfl (?_ : WD _ _ 5 _ _ _ _ _ _)
  refine x_callI (ν := M_Ai_init) [vA x0] ok_M_Ai_init oki_M_Ai_init rfl rfl (qm_2 (i := 204) rfl rfl) np_M_Ai_init rfl ⟨Nat.le_of_ble_eq_true rfl, Nat.le_of_ble_eq_true rfl⟩ (Nat.le_of_ble_eq_true rfl) rfl d_Al_iterator_5 (Nat.zero_le _) (Nat.zero_le _) (DV.k h (fun w5 gw5 h => (?_ : WD _ _ 8 _ _ _ _ _ _)))
  exact x_areturn (some q3) rfl (Or.inl ⟨_, rfl⟩) d_Al_iterator_8 h
set_option maxRecDepth 20000 in
theorem e_Ai_hasNext {G : Gq} {K : Int → Wd → Prop} {w : Wd} {mc ms : Nat} (x0 : Nat) (h : (Is G w x0 (kO 15)) ∧ ∃ a2 : Nat, (wR w x0 3) = some a2 ∧ ((Ow w a2 (kO 14)) ∧ ((wI w x0 0) = (wI w a2 2) → K 0 w) ∧ (¬ (wI w x0 0) = (wI w a2 2) → K 1 w))) : DI G M_Ai_hasNext [vA x0] w mc ms K := by
  refine DC.of ok_M_Ai_hasNext (ls := [(0, vA x0)]) rfl (Nat.le_of_ble_eq_true rfl) ?_
  refine x_aload_nP (some x0) d_Ai_hasNext_0 rfl (?_ : WD _ _ 1 _ _ _ _ _ _)
  obtain ⟨k1, h⟩ := h
  refine x_getI (ref := "java/util/ArrayList$Itr") (j := 0) 0 k1 clk_15 (by decide) (qm_2 (i := 208) rfl rfl) (Or.inl rfl) rfl rfl d_Ai_hasNext_1 (y := (wI w x0 0)) rfl (?_ : WD _ _ 4 _ _ _ _ _ _)
  refine x_aload_nP (some x0) d_Ai_hasNext_4 rfl (?_ : WD _ _ 5 _ _ _ _ _ _)
  refine x_getP (ref := "java/util/ArrayList$Itr") (j := 3) 3 k1 clk_15 (by decide) (qm_2 (i := 211) rfl rfl) (Or.inl rfl) rfl rfl d_Ai_hasNext_5 (y := (wR w x0 3)) rfl (?_ : WD _ _ 8 _ _ _ _ _ _)
  obtain ⟨a2, e3, h⟩ := h
  rw [e3]
  obtain ⟨k4, h⟩ := h
  refine x_getIN (ref := "java/util/ArrayList") (j := 2) "java/util/ArrayList" 2 k4 clk_14 (by decide) (by decide +kernel) (Or.inl rfl) rfl rfl d_Ai_hasNext_8 (y := (wI w a2 2)) rfl (?_ : WD _ _ 11 _ _ _ _ _ _)
  refine x_icmp_eq 18 d_Ai_hasNext_11 rfl ⟨fun c5 => (?_ : WD _ _ 18 _ _ _ _ _ _), fun c5 => (?_ : WD _ _ 14 _ _ _ _ _ _)⟩
  · replace h := h.1 c5
    refine x_iconst d_Ai_hasNext_18 (by decide) (?_ : WD _ _ 19 _ _ _ _ _ _)
    exact x_zreturn rfl d_Ai_hasNext_19 (by decide) h
  · replace h := h.2 c5
    refine x_iconst d_Ai_hasNext_14 (by decide) (?_ : WD _ _ 15 _ _ _ _ _ _)
    refine x_goto 19 d_Ai_hasNext_15 rfl ?_
    exact x_zreturn rfl d_Ai_hasNext_19 (by decide) h
set_option maxRecDepth 20000 in
theorem e_Ai_next {G : Gq} {K : Option Nat → Wd → Prop} {w : Wd} {mc ms : Nat} (x0 : Nat) (h : (Is G w x0 (kO 15)) ∧ DV G M_Ai_checkForComodification [vA x0] w 0 0 (fun w2 => ∃ a4 : Nat, (wR w2 x0 3) = some a4 ∧ ((Ow w2 a4 (kO 14)) ∧ ((wI w2 x0 0) < (wI w2 a4 2) → ∃ a8 : Nat, (wR w2 x0 3) = some a8 ∧ ((Is G w2 a8 (kO 14)) ∧ ∃ a11 : Nat, (wR w2 a8 1) = some a11 ∧ (∃ n13 : Nat, ((Is G w2 a11 (kR 4 n13)) ∧ (inR (n13 : Int)) ∧ ((wI w2 x0 0) < (n13 : Int) → (inR ((wI w2 x0 0) + 1)) ∧ (Ow w2 x0 (kO 15)) ∧ (0 ≤ (wI w2 x0 0)) ∧ ((wI w2 x0 0) < (n13 : Int)) ∧ K (wR w2 a11 (wI w2 x0 0)) (uI (uI w2 x0 0 ((wI w2 x0 0) + 1)) x0 1 (wI w2 x0 0))) ∧ (¬ (wI w2 x0 0) < (n13 : Int) → False))))) ∧ (¬ (wI w2 x0 0) < (wI w2 a4 2) → False)))) : DP G M_Ai_next [vA x0] w mc ms K := by
  refine DC.of ok_M_Ai_next (ls := [(0, vA x0)]) rfl (Nat.le_of_ble_eq_true rfl) ?_
  refine x_aload_nP (some x0) d_Ai_next_0 rfl (?_ : WD _ _ 1 _ _ _ _ _ _)
  obtain ⟨k1, h⟩ := h
  refine x_callV (ν := M_Ai_checkForComodification) [] ok_M_Ai_checkForComodification okv_M_Ai_checkForComodification k1 rfl rfl (qm_3 (i := 12) rfl rfl) np_M_Ai_checkForComodification rfl ⟨Nat.le_of_ble_eq_true rfl, Nat.le_of_ble_eq_true rfl⟩ (Nat.le_of_ble_eq_true rfl) rfl d_Ai_next_1 (Nat.zero_le _) (Nat.zero_le _) (DV.k h (fun w2 gw2 h => (?_ : WD _ _ 4 _ _ _ _ _ _)))
  refine x_aload_nP (some x0) d_Ai_next_4 rfl (?_ : WD _ _ 5 _ _ _ _ _ _)
  refine x_getI (ref := "java/util/ArrayList$Itr") (j := 0) 0 (k1.q gw2.k) clk_15 (by decide) (qm_2 (i := 208) rfl rfl) (Or.inl rfl) rfl rfl d_Ai_next_5 (y := (wI w2 x0 0)) rfl (?_ : WD _ _ 8 _ _ _ _ _ _)
  refine x_istore_n (ls' := [(1, vI (wI w2 x0 0)), (0, vA x0)]) d_Ai_next_8 rfl (by decide) rfl (?_ : WD _ _ 9 _ _ _ _ _ _)
  refine x_iload_n d_Ai_next_9 rfl (?_ : WD _ _ 10 _ _ _ _ _ _)
  refine x_aload_nP (some x0) d_Ai_next_10 rfl (?_ : WD _ _ 11 _ _ _ _ _ _)
  refine x_getP (ref := "java/util/ArrayList$Itr") (j := 3) 3 (k1.q gw2.k) clk_15 (by decide) (qm_2 (i := 211) rfl rfl) (Or.inl rfl) rfl rfl d_Ai_next_11 (y := (wR w2 x0 3)) rfl (?_ : WD _ _ 14 _ _ _ _ _ _)
  obtain ⟨a4, e5, h⟩ := h
  rw [e5]
  obtain ⟨k6, h⟩ := h
  refine x_getIN (ref := "java/util/ArrayList") (j := 2) "java/util/ArrayList" 2 k6 clk_14 (by decide) (by decide +kernel) (Or.inl rfl) rfl rfl d_Ai_next_14 (y := (wI w2 a4 2)) rfl (?_ : WD _ _ 17 _ _ _ _ _ _)
  refine x_icmp_lt 28 d_Ai_next_17 rfl ⟨fun c7 => (?_ : WD _ _ 28 _ _ _ _ _ _), fun c7 => (?_ : WD _ _ 20 _ _ _ _ _ _)⟩
  · replace h := h.1 c7
    refine x_aload_nP (some x0) d_Ai_next_28 rfl (?_ : WD _ _ 29 _ _ _ _ _ _)
    refine x_getP (ref := "java/util/ArrayList$Itr") (j := 3) 3 (k1.q gw2.k) clk_15 (by decide) (qm_2 (i := 211) rfl rfl) (Or.inl rfl) rfl rfl d_Ai_next_29 (y := (wR w2 x0 3)) rfl (?_ : WD _ _ 32 _ _ _ _ _ _)
    obtain ⟨a8, e9, h⟩ := h
    rw [e9]
    obtain ⟨k10, h⟩ := h
    refine x_getP (ref := "java/util/ArrayList") (j := 1) 1 k10 clk_14 (by decide) (qm_2 (i := 140) rfl rfl) (Or.inl rfl) rfl rfl d_Ai_next_32 (y := (wR w2 a8 1)) rfl (?_ : WD _ _ 35 _ _ _ _ _ _)
    refine x_astore_nP (wR w2 a8 1) (ls' := [(2, vP (wR w2 a8 1)), (1, vI (wI w2 x0 0)), (0, vA x0)]) d_Ai_next_35 rfl (by decide) rfl (?_ : WD _ _ 36 _ _ _ _ _ _)
    refine x_iload_n d_Ai_next_36 rfl (?_ : WD _ _ 37 _ _ _ _ _ _)
    refine x_aload_nP (wR w2 a8 1) d_Ai_next_37 rfl (?_ : WD _ _ 38 _ _ _ _ _ _)
    obtain ⟨a11, e12, h⟩ := h
    rw [e12]
    obtain ⟨n13, h⟩ := h
    obtain ⟨k14, h⟩ := h
    obtain ⟨h15, h⟩ := h
    refine x_alenR k14 (Or.inr (fun _ => rfl)) (fun h => absurd h (by decide)) h15 d_Ai_next_38 (?_ : WD _ _ 39 _ _ _ _ _ _)
    refine x_icmp_lt 50 d_Ai_next_39 rfl ⟨fun c16 => (?_ : WD _ _ 50 _ _ _ _ _ _), fun c16 => (?_ : WD _ _ 42 _ _ _ _ _ _)⟩
    · replace h := h.1 c16
      refine x_aload_nP (some x0) d_Ai_next_50 rfl (?_ : WD _ _ 51 _ _ _ _ _ _)
      refine x_iload_n d_Ai_next_51 rfl (?_ : WD _ _ 52 _ _ _ _ _ _)
      refine x_iconst d_Ai_next_52 (by decide) (?_ : WD _ _ 53 _ _ _ _ _ _)
      obtain ⟨h17, h⟩ := h
      refine x_iadd d_Ai_next_53 h17 (?_ : WD _ _ 54 _ _ _ _ _ _)
      obtain ⟨k18, h⟩ := h
      refine x_putI (ref := "java/util/ArrayList$Itr") (j := 0) 0 k18 clk_15 (by decide) (qm_2 (i := 208) rfl rfl) (Or.inl rfl) (Or.inl rfl) tyJx35411_ok rfl nmJx35411 d_Ai_next_54 rfl rfl (fun _ => rfl) rfl (?_ : WD _ _ 57 _ _ _ _ _ _)
      refine x_aload_nP (some a11) d_Ai_next_57 rfl (?_ : WD _ _ 58 _ _ _ _ _ _)
      refine x_aload_nP (some x0) d_Ai_next_58 rfl (?_ : WD _ _ 59 _ _ _ _ _ _)
      refine x_iload_n d_Ai_next_59 rfl (?_ : WD _ _ 60 _ _ _ _ _ _)
      refine x_dup_x1 d_Ai_next_60 rfl rfl (?_ : WD _ _ 61 _ _ _ _ _ _)
      refine x_putI (ref := "java/util/ArrayList$Itr") (j := 1) 1 k18 clk_15 (by decide) (qm_2 (i := 209) rfl rfl) (Or.inl rfl) (Or.inl rfl) tyJx35411_ok rfl nmJx35411 d_Ai_next_61 rfl rfl (fun _ => rfl) rfl (?_ : WD _ _ 64 _ _ _ _ _ _)
      obtain ⟨h19, h⟩ := h
      obtain ⟨h20, h⟩ := h
      refine x_aald k14 (fun _ => rfl) d_Ai_next_64 h19 h20 (y := (wR w2 a11 (wI w2 x0 0))) rfl (?_ : WD _ _ 65 _ _ _ _ _ _)
      exact x_areturn (wR w2 a11 (wI w2 x0 0)) rfl (Or.inl ⟨_, rfl⟩) d_Ai_next_65 h
    · replace h := h.2 c16
      exact h.elim
  · replace h := h.2 c7
    exact h.elim
set_option maxRecDepth 20000 in
theorem e_Al_add_9ea2d {G : Gq} {K : Int → Wd → Prop} {w : Wd} {mc ms : Nat} (x0 : Nat) (x1 : Nat) (h : (Is G w x0 (kO 14)) ∧ (inR ((wI w x0 0) + 1)) ∧ (Ow w x0 (kO 14)) ∧ ∃ a4 : Nat, (wR w x0 1) = some a4 ∧ (∃ c6 s7 : Nat, c6 ≤ mc ∧ s7 ≤ ms ∧ (DV G M_Al_add_72be8 [vA x0, vA x1, vA a4, vI (wI w x0 2)] (uI w x0 0 ((wI w x0 0) + 1)) c6 s7 (fun w10 => K 1 w10)))) : DI G M_Al_add_9ea2d [vA x0, vA x1] w mc ms K := by
  refine DC.of ok_M_Al_add_9ea2d (ls := [(0, vA x0), (1, vA x1)]) rfl (Nat.le_of_ble_eq_true rfl) ?_
  refine x_aload_nP (some x0) d_Al_add_9ea2d_0 rfl (?_ : WD _ _ 1 _ _ _ _ _ _)
  refine x_dup d_Al_add_9ea2d_1 rfl (?_ : WD _ _ 2 _ _ _ _ _ _)
  obtain ⟨k1, h⟩ := h
  refine x_getI (ref := "java/util/ArrayList") (j := 0) 0 k1 clk_14 (by decide) (qm_2 (i := 146) rfl rfl) (Or.inr (qm_2 (i := 145) rfl rfl)) rfl rfl d_Al_add_9ea2d_2 (y := (wI w x0 0)) rfl (?_ : WD _ _ 5 _ _ _ _ _ _)
  refine x_iconst d_Al_add_9ea2d_5 (by decide) (?_ : WD _ _ 6 _ _ _ _ _ _)
  obtain ⟨h2, h⟩ := h
  refine x_iadd d_Al_add_9ea2d_6 h2 (?_ : WD _ _ 7 _ _ _ _ _ _)
  obtain ⟨k3, h⟩ := h
  refine x_putI (ref := "java/util/ArrayList") (j := 0) 0 k3 clk_14 (by decide) (qm_2 (i := 146) rfl rfl) (Or.inr (qm_2 (i := 145) rfl rfl)) (Or.inl rfl) tyJx4a65c_ok rfl nmJx4a65c d_Al_add_9ea2d_7 rfl rfl (fun _ => rfl) rfl (?_ : WD _ _ 10 _ _ _ _ _ _)
  refine x_aload_nP (some x0) d_Al_add_9ea2d_10 rfl (?_ : WD _ _ 11 _ _ _ _ _ _)
  refine x_aload_nP (some x1) d_Al_add_9ea2d_11 rfl (?_ : WD _ _ 12 _ _ _ _ _ _)
  refine x_aload_nP (some x0) d_Al_add_9ea2d_12 rfl (?_ : WD _ _ 13 _ _ _ _ _ _)
  refine x_getP (ref := "java/util/ArrayList") (j := 1) 1 k3.is clk_14 (by decide) (qm_2 (i := 139) rfl rfl) (Or.inl rfl) rfl rfl d_Al_add_9ea2d_13 (y := (wR w x0 1)) rfl (?_ : WD _ _ 16 _ _ _ _ _ _)
  refine x_aload_nP (some x0) d_Al_add_9ea2d_16 rfl (?_ : WD _ _ 17 _ _ _ _ _ _)
  refine x_getI (ref := "java/util/ArrayList") (j := 2) 2 k3.is clk_14 (by decide) (qm_2 (i := 142) rfl rfl) (Or.inl rfl) rfl rfl d_Al_add_9ea2d_17 (y := (wI w x0 2)) (wI_uI_j (by decide)) (?_ : WD _ _ 20 _ _ _ _ _ _)
  obtain ⟨a4, e5, h⟩ := h
  rw [e5]
  obtain ⟨c6, s7, h8, h9, h⟩ := h
  refine x_callV (ν := M_Al_add_72be8) [vA x1, vA a4, vI (wI w x0 2)] ok_M_Al_add_72be8 okv_M_Al_add_72be8 k3.is rfl rfl (qm_3 (i := 101) rfl rfl) np_M_Al_add_72be8 rfl ⟨Nat.le_of_ble_eq_true rfl, Nat.le_of_ble_eq_true rfl⟩ (Nat.le_of_ble_eq_true rfl) rfl d_Al_add_9ea2d_20 h8 h9 (DV.k h (fun w10 gw10 h => (?_ : WD _ _ 23 _ _ _ _ _ _)))
  refine x_iconst d_Al_add_9ea2d_23 (by decide) (?_ : WD _ _ 24 _ _ _ _ _ _)
  exact x_zreturn rfl d_Al_add_9ea2d_24 (by decide) h
set_option maxRecDepth 20000 in
theorem e_Lx_init {G : Gq} {K : Wd → Prop} {w : Wd} {mc ms : Nat} (x0 : Nat) (h : ∃ c1 s2 : Nat, c1 ≤ mc ∧ s2 ≤ ms ∧ (DV G M_Hs_init [vA x0, vI 16, vO (.float 1061158912), vI 1] w c1 s2 (fun w5 => K w5))) : DV G M_Lx_init [vA x0] w mc ms K := by
  refine DC.of ok_M_Lx_init (ls := [(0, vA x0)]) rfl (Nat.le_of_ble_eq_true rfl) ?_
  refine x_aload_nP (some x0) d_Lx_init_0 rfl (?_ : WD _ _ 1 _ _ _ _ _ _)
  refine x_bipush d_Lx_init_1 (by decide) (by decide) (?_ : WD _ _ 3 _ _ _ _ _ _)
  refine x_ldcf d_Lx_init_3 (qm_6 (i := 118) rfl rfl) (?_ : WD _ _ 5 _ _ _ _ _ _)
  refine x_iconst d_Lx_init_5 (by decide) (?_ : WD _ _ 6 _ _ _ _ _ _)
  obtain ⟨c1, s2, h3, h4, h⟩ := h
  refine x_callI (ν := M_Hs_init) [vI 16, vO (.float 1061158912), vI 1] ok_M_Hs_init oki_M_Hs_init rfl rfl (qm_6 (i := 119) rfl rfl) np_M_Hs_init rfl ⟨Nat.le_of_ble_eq_true rfl, Nat.le_of_ble_eq_true rfl⟩ (Nat.le_of_ble_eq_true rfl) rfl d_Lx_init_6 h3 h4 (DV.k h (fun w5 gw5 h => (?_ : WD _ _ 9 _ _ _ _ _ _)))
  exact x_return rfl d_Lx_init_9 h
set_option maxRecDepth 20000 in
theorem e_Hs_iterator {G : Gq} {K : Option Nat → Wd → Prop} {w : Wd} {mc ms : Nat} (x0 : Nat) (h : (Is G w x0 (kO 19)) ∧ ∃ a2 : Nat, (wR w x0 0) = some a2 ∧ (∃ c4 s5 : Nat, c4 ≤ mc ∧ s5 ≤ ms ∧ ((Is G w a2 (kO 20)) ∧ DP G M_Lm_keySet [vA a2] w c4 s5 (fun v10 w9 => ∃ a11 : Nat, v10 = some a11 ∧ (∃ c13 s14 : Nat, c13 ≤ (mc - c4) ∧ s14 ≤ (ms - s5) ∧ ((Is G w9 a11 (kO 22)) ∧ DP G M_Lq_iterator [vA a11] w9 c13 s14 (fun v19 w18 => K v19 w18))))))) : DP G M_Hs_iterator [vA x0] w mc ms K := by
  refine DC.of ok_M_Hs_iterator (ls := [(0, vA x0)]) rfl (Nat.le_of_ble_eq_true rfl) ?_
  refine x_aload_nP (some x0) d_Hs_iterator_0 rfl (?_ : WD _ _ 1 _ _ _ _ _ _)
  obtain ⟨k1, h⟩ := h
  refine x_getP (ref := "java/util/HashSet") (j := 0) 0 k1 clk_19 (by decide) (qm_6 (i := 195) rfl rfl) (Or.inl rfl) rfl rfl d_Hs_iterator_1 (y := (wR w x0 0)) rfl (?_ : WD _ _ 4 _ _ _ _ _ _)
  obtain ⟨a2, e3, h⟩ := h
  rw [e3]
  obtain ⟨c4, s5, h6, h7, h⟩ := h
  obtain ⟨k8, h⟩ := h
  refine x_callU (ν := M_Lm_keySet) ⟨"java/util/HashMap", "keySet", "()Ljava/util/Set;"⟩ "java/util/HashMap" [] ok_M_Lm_keySet oki_M_Lm_keySet k8 rfl (sel_in (qm_9 (i := 64) rfl rfl)) (qm_9 (i := 63) rfl rfl) (Or.inl (by decide +kernel)) (by decide) (qm_9 (i := 61) rfl rfl) (show _ = some 0 from by decide +kernel) rfl ⟨Nat.le_of_ble_eq_true rfl, Nat.le_of_ble_eq_true rfl⟩ (Nat.le_of_ble_eq_true rfl) rfl d_Hs_iterator_4 h6 h7 (DP.k h (fun v10 w9 gw9 h => (?_ : WD _ _ 7 _ _ _ _ _ _)))
  obtain ⟨a11, e12, h⟩ := h
  rw [e12]
  obtain ⟨c13, s14, h15, h16, h⟩ := h
  obtain ⟨k17, h⟩ := h
  refine x_callF (ν := M_Lq_iterator) ⟨"java/util/Set", "iterator", "()Ljava/util/Iterator;"⟩ [] ok_M_Lq_iterator oki_M_Lq_iterator k17 rfl (qm_9 (i := 122) rfl rfl) (by decide) (qm_9 (i := 87) rfl rfl) (show _ = some 0 from by decide +kernel) rfl ⟨Nat.le_of_ble_eq_true rfl, Nat.le_of_ble_eq_true rfl⟩ (Nat.le_of_ble_eq_true rfl) rfl d_Hs_iterator_7 h15 h16 (DP.k h (fun v19 w18 gw18 h => (?_ : WD _ _ 12 _ _ _ _ _ _)))
  exact x_areturn v19 rfl (Or.inl ⟨_, rfl⟩) d_Hs_iterator_12 h
set_option maxRecDepth 20000 in
theorem e_Lh_hasNext {G : Gq} {K : Int → Wd → Prop} {w : Wd} {mc ms : Nat} (x0 : Nat) (h : (Is G w x0 (kO 23)) ∧ ((wR w x0 0) = none → K 0 w) ∧ (∀ a2 : Nat, (wR w x0 0) = some a2 → K 1 w)) : DI G M_Lh_hasNext [vA x0] w mc ms K := by
  refine DC.of ok_M_Lh_hasNext (ls := [(0, vA x0)]) rfl (Nat.le_of_ble_eq_true rfl) ?_
  refine x_aload_nP (some x0) d_Lh_hasNext_0 rfl (?_ : WD _ _ 1 _ _ _ _ _ _)
  obtain ⟨k1, h⟩ := h
  refine x_getP (ref := "java/util/LinkedHashMap$LinkedHashIterator") (j := 0) 0 k1 clk_23 (by decide) (qm_9 (i := 136) rfl rfl) (Or.inl rfl) rfl rfl d_Lh_hasNext_1 (y := (wR w x0 0)) rfl (?_ : WD _ _ 4 _ _ _ _ _ _)
  refine x_ifnull 11 d_Lh_hasNext_4 rfl ⟨fun e3 => (?_ : WD _ _ 11 _ _ _ _ _ _), fun a2 e3 => (?_ : WD _ _ 7 _ _ _ _ _ _)⟩
  · replace h := h.1 e3
    refine x_iconst d_Lh_hasNext_11 (by decide) (?_ : WD _ _ 12 _ _ _ _ _ _)
    exact x_zreturn rfl d_Lh_hasNext_12 (by decide) h
  · replace h := h.2 a2 e3
    refine x_iconst d_Lh_hasNext_7 (by decide) (?_ : WD _ _ 8 _ _ _ _ _ _)
    refine x_goto 12 d_Lh_hasNext_8 rfl ?_
    exact x_zreturn rfl d_Lh_hasNext_12 (by decide) h
set_option maxRecDepth 20000 in
theorem e_Lk_next {G : Gq} {K : Option Nat → Wd → Prop} {w : Wd} {mc ms : Nat} (x0 : Nat) (h : (Is G w x0 (kO 23)) ∧ DP G M_Lh_nextNode [vA x0] w 0 0 (fun v3 w2 => ∃ a4 : Nat, v3 = some a4 ∧ ((Is G w2 a4 (kO 21)) ∧ DP G M_Hn_getKey [vA a4] w2 0 0 (fun v8 w7 => K v8 w7)))) : DP G M_Lk_next [vA x0] w mc ms K := by
  refine DC.of ok_M_Lk_next (ls := [(0, vA x0)]) rfl (Nat.le_of_ble_eq_true rfl) ?_
  refine x_aload_nP (some x0) d_Lk_next_0 rfl (?_ : WD _ _ 1 _ _ _ _ _ _)
  obtain ⟨k1, h⟩ := h
  refine x_callU (ν := M_Lh_nextNode) ⟨"java/util/LinkedHashMap$LinkedKeyIterator", "nextNode", "()Ljava/util/LinkedHashMap$Entry;"⟩ "java/util/LinkedHashMap$LinkedHashIterator" [] ok_M_Lh_nextNode oki_M_Lh_nextNode k1 rfl (sel_in (qm_3 (i := 35) rfl rfl)) (qm_3 (i := 33) rfl rfl) (Or.inr (Or.inl rfl)) (by decide) (qm_3 (i := 32) rfl rfl) (show _ = some 0 from by decide +kernel) rfl ⟨Nat.le_of_ble_eq_true rfl, Nat.le_of_ble_eq_true rfl⟩ (Nat.le_of_ble_eq_true rfl) rfl d_Lk_next_1 (Nat.zero_le _) (Nat.zero_le _) (DP.k h (fun v3 w2 gw2 h => (?_ : WD _ _ 4 _ _ _ _ _ _)))
  obtain ⟨a4, e5, h⟩ := h
  rw [e5]
  obtain ⟨k6, h⟩ := h
  refine x_callU (ν := M_Hn_getKey) ⟨"java/util/LinkedHashMap$Entry", "getKey", "()Ljava/lang/Object;"⟩ "java/util/HashMap$Node" [] ok_M_Hn_getKey oki_M_Hn_getKey k6 rfl (sel_in (qm_3 (i := 42) rfl rfl)) (qm_3 (i := 39) rfl rfl) (Or.inr (Or.inl rfl)) (by decide) (qm_3 (i := 38) rfl rfl) (show _ = some 0 from by decide +kernel) rfl ⟨Nat.le_of_ble_eq_true rfl, Nat.le_of_ble_eq_true rfl⟩ (Nat.le_of_ble_eq_true rfl) rfl d_Lk_next_4 (Nat.zero_le _) (Nat.zero_le _) (DP.k h (fun v8 w7 gw7 h => (?_ : WD _ _ 7 _ _ _ _ _ _)))
  exact x_areturn v8 rfl (Or.inl ⟨_, rfl⟩) d_Lk_next_7 h
set_option maxRecDepth 20000 in
theorem e_In_intValue {G : Gq} {K : Int → Wd → Prop} {w : Wd} {mc ms : Nat} (x0 : Nat) (h : (Is G w x0 (kO 16)) ∧ K (wI w x0 0) w) : DI G M_In_intValue [vA x0] w mc ms K := by
  refine DC.of ok_M_In_intValue (ls := [(0, vA x0)]) rfl (Nat.le_of_ble_eq_true rfl) ?_
  refine x_aload_nP (some x0) d_In_intValue_0 rfl (?_ : WD _ _ 1 _ _ _ _ _ _)
  obtain ⟨k1, h⟩ := h
  refine x_getI (ref := "java/lang/Integer") (j := 0) 0 k1 clk_16 (by decide) (qm_6 (i := 17) rfl rfl) (Or.inl rfl) rfl rfl d_In_intValue_1 (y := (wI w x0 0)) rfl (?_ : WD _ _ 4 _ _ _ _ _ _)
  exact x_ireturn rfl d_In_intValue_4 h
set_option maxRecDepth 20000 in
theorem e_In_valueOf {G : Gq} {K : Option Nat → Wd → Prop} {w : Wd} {mc ms : Nat} (x0 : Int) (h : (x0 < (-128) → (1 ≤ mc) ∧ (1 ≤ ms) ∧ ∀ q4 : Nat, Fr G w q4 → (DV G M_In_init [vA q4, vI x0] (uN w q4 (kO 16)) 0 0 (fun w6 => K (some q4) w6))) ∧ (¬ x0 < (-128) → (127 < x0 → (1 ≤ mc) ∧ (1 ≤ ms) ∧ ∀ q11 : Nat, Fr G w q11 → (DV G M_In_init [vA q11, vI x0] (uN w q11 (kO 16)) 0 0 (fun w13 => K (some q11) w13))) ∧ (¬ 127 < x0 → (inR (x0 + 128)) ∧ (0 ≤ (x0 + 128)) ∧ ((x0 + 128) < (256 : Int)) ∧ K ((xr 1 (x0 + 128)).map (xa G)) w))) : DP G M_In_valueOf [vI x0] w mc ms K := by
  refine DC.of ok_M_In_valueOf (ls := [(0, vI x0)]) rfl (Nat.le_of_ble_eq_true rfl) ?_
  refine x_iload_n d_In_valueOf_0 rfl (?_ : WD _ _ 1 _ _ _ _ _ _)
  refine x_bipush d_In_valueOf_1 (by decide) (by decide) (?_ : WD _ _ 3 _ _ _ _ _ _)
  refine x_icmp_lt 23 d_In_valueOf_3 rfl ⟨fun c1 => (?_ : WD _ _ 23 _ _ _ _ _ _), fun c1 => (?_ : WD _ _ 6 _ _ _ _ _ _)⟩
  · replace h := h.1 c1
    obtain ⟨h2, h⟩ := h
    obtain ⟨h3, h⟩ := h
    refine x_new d_In_valueOf_23 clk_16 tyJ6_ok (qm_6 (i := 8) rfl rfl) (qm_6 (i := 9) rfl rfl) (qm_1 (i := 28) rfl rfl) hfd_16 h2 h3 (fun q4 fq4 => (?_ : WD _ _ 26 _ _ _ _ _ _))
    replace h := h q4 fq4
    have k5 : Ow (uN w q4 (kO 16)) q4 (kO 16) := Ow.nw
    refine x_dup d_In_valueOf_26 rfl (?_ : WD _ _ 27 _ _ _ _ _ _)
    refine x_iload_n d_In_valueOf_27 rfl (?_ : WD _ _ 28 _ _ _ _ _ _)
    refine x_callI (ν := M_In_init) [vI x0] ok_M_In_init oki_M_In_init rfl rfl (qm_6 (i := 10) rfl rfl) np_M_In_init rfl ⟨Nat.le_of_ble_eq_true rfl, Nat.le_of_ble_eq_true rfl⟩ (Nat.le_of_ble_eq_true rfl) rfl d_In_valueOf_28 (Nat.zero_le _) (Nat.zero_le _) (DV.k h (fun w6 gw6 h => (?_ : WD _ _ 31 _ _ _ _ _ _)))
    exact x_areturn (some q4) rfl (Or.inl ⟨_, rfl⟩) d_In_valueOf_31 h
  · replace h := h.2 c1
    refine x_iload_n d_In_valueOf_6 rfl (?_ : WD _ _ 7 _ _ _ _ _ _)
    refine x_getsI 127 (List.mem_of_getElem? (i := 2) rfl) (by decide) (qm_6 (i := 4) rfl rfl) d_In_valueOf_7 (?_ : WD _ _ 10 _ _ _ _ _ _)
    refine x_icmp_gt 23 d_In_valueOf_10 rfl ⟨fun c8 => (?_ : WD _ _ 23 _ _ _ _ _ _), fun c8 => (?_ : WD _ _ 13 _ _ _ _ _ _)⟩
    · replace h := h.1 c8
      obtain ⟨h9, h⟩ := h
      obtain ⟨h10, h⟩ := h
      refine x_new d_In_valueOf_23 clk_16 tyJ6_ok (qm_6 (i := 8) rfl rfl) (qm_6 (i := 9) rfl rfl) (qm_1 (i := 28) rfl rfl) hfd_16 h9 h10 (fun q11 fq11 => (?_ : WD _ _ 26 _ _ _ _ _ _))
      replace h := h q11 fq11
      have k12 : Ow (uN w q11 (kO 16)) q11 (kO 16) := Ow.nw
      refine x_dup d_In_valueOf_26 rfl (?_ : WD _ _ 27 _ _ _ _ _ _)
      refine x_iload_n d_In_valueOf_27 rfl (?_ : WD _ _ 28 _ _ _ _ _ _)
      refine x_callI (ν := M_In_init) [vI x0] ok_M_In_init oki_M_In_init rfl rfl (qm_6 (i := 10) rfl rfl) np_M_In_init rfl ⟨Nat.le_of_ble_eq_true rfl, Nat.le_of_ble_eq_true rfl⟩ (Nat.le_of_ble_eq_true rfl) rfl d_In_valueOf_28 (Nat.zero_le _) (Nat.zero_le _) (DV.k h (fun w13 gw13 h => (?_ : WD _ _ 31 _ _ _ _ _ _)))
      exact x_areturn (some q11) rfl (Or.inl ⟨_, rfl⟩) d_In_valueOf_31 h
    · replace h := h.2 c8
      refine x_gets (i := 1) (List.mem_of_getElem? (i := 1) rfl) (qm_6 (i := 6) rfl rfl) d_In_valueOf_13 (?_ : WD _ _ 16 _ _ _ _ _ _)
      refine x_iload_n d_In_valueOf_16 rfl (?_ : WD _ _ 17 _ _ _ _ _ _)
      refine x_sipush d_In_valueOf_17 (by decide) (by decide) (?_ : WD _ _ 20 _ _ _ _ _ _)
      obtain ⟨h15, h⟩ := h
      refine x_iadd d_In_valueOf_20 h15 (?_ : WD _ _ 21 _ _ _ _ _ _)
      refine WD.wf (fun _ hx_ _ => (?_ : WD _ _ 21 _ _ _ _ _ _))
      have k16 : Is G w (xa G 1) (kR 7 256) := hx_.is (by decide) rfl
      obtain ⟨h17, h⟩ := h
      obtain ⟨h18, h⟩ := h
      refine x_aaldX (q := 1) (t := 7) (n := 256) (by decide) rfl d_In_valueOf_21 h17 h18 (y := (xr 1 (x0 + 128)).map (xa G)) rfl (?_ : WD _ _ 22 _ _ _ _ _ _)
      exact x_areturn ((xr 1 (x0 + 128)).map (xa G)) rfl (Or.inl ⟨_, rfl⟩) d_In_valueOf_22 h
set_option maxRecDepth 20000 in
theorem e_Hs_add {G : Gq} {K : Int → Wd → Prop} {w : Wd} {mc ms : Nat} (x0 : Nat) (x1 : Nat) (h : (Is G w x0 (kO 19)) ∧ ∃ a2 : Nat, (wR w x0 0) = some a2 ∧ (∃ c4 s5 : Nat, c4 ≤ mc ∧ s5 ≤ ms ∧ ((Is G w a2 (kO 20)) ∧ DP G M_Hm_put [vA a2, vA x1, vA (xa G 285)] w c4 s5 (fun v10 w9 => (v10 = none → K 1 w9) ∧ (∀ a11 : Nat, v10 = some a11 → K 0 w9))))) : DI G M_Hs_add [vA x0, vA x1] w mc ms K := by
  refine DC.of ok_M_Hs_add (ls := [(0, vA x0), (1, vA x1)]) rfl (Nat.le_of_ble_eq_true rfl) ?_
  refine x_aload_nP (some x0) d_Hs_add_0 rfl (?_ : WD _ _ 1 _ _ _ _ _ _)
  obtain ⟨k1, h⟩ := h
  refine x_getP (ref := "java/util/HashSet") (j := 0) 0 k1 clk_19 (by decide) (qm_6 (i := 195) rfl rfl) (Or.inl rfl) rfl rfl d_Hs_add_1 (y := (wR w x0 0)) rfl (?_ : WD _ _ 4 _ _ _ _ _ _)
  refine x_aload_nP (some x1) d_Hs_add_4 rfl (?_ : WD _ _ 5 _ _ _ _ _ _)
  refine x_gets (i := 285) (List.mem_of_getElem? (i := 6) rfl) (qm_7 (i := 24) rfl rfl) d_Hs_add_5 (?_ : WD _ _ 8 _ _ _ _ _ _)
  obtain ⟨a2, e3, h⟩ := h
  rw [e3]
  obtain ⟨c4, s5, h6, h7, h⟩ := h
  obtain ⟨k8, h⟩ := h
  refine x_callU (ν := M_Hm_put) ⟨"java/util/HashMap", "put", "(Ljava/lang/Object;Ljava/lang/Object;)Ljava/lang/Object;"⟩ "java/util/HashMap" [vA x1, vA (xa G 285)] ok_M_Hm_put oki_M_Hm_put k8 rfl (sel_in (qm_7 (i := 29) rfl rfl)) (qm_7 (i := 28) rfl rfl) (Or.inr (Or.inl rfl)) (by decide) (qm_7 (i := 26) rfl rfl) (show _ = some 2 from by decide +kernel) rfl ⟨Nat.le_of_ble_eq_true rfl, Nat.le_of_ble_eq_true rfl⟩ (Nat.le_of_ble_eq_true rfl) rfl d_Hs_add_8 h6 h7 (DP.k h (fun v10 w9 gw9 h => (?_ : WD _ _ 11 _ _ _ _ _ _)))
  refine x_ifnonnull 18 d_Hs_add_11 rfl ⟨fun e12 => (?_ : WD _ _ 14 _ _ _ _ _ _), fun a11 e12 => (?_ : WD _ _ 18 _ _ _ _ _ _)⟩
  · replace h := h.1 e12
    refine x_iconst d_Hs_add_14 (by decide) (?_ : WD _ _ 15 _ _ _ _ _ _)
    refine x_goto 19 d_Hs_add_15 rfl ?_
    exact x_zreturn rfl d_Hs_add_19 (by decide) h
  · replace h := h.2 a11 e12
    refine x_iconst d_Hs_add_18 (by decide) (?_ : WD _ _ 19 _ _ _ _ _ _)
    exact x_zreturn rfl d_Hs_add_19 (by decide) h
set_option maxRecDepth 20000 in
theorem e_Sb_init {G : Gq} {K : Wd → Prop} {w : Wd} {mc ms : Nat} (x0 : Nat) (h : ∃ c1 s2 : Nat, c1 ≤ mc ∧ s2 ≤ ms ∧ (DV G M_As_init [vA x0, vI 16] w c1 s2 (fun w5 => K w5))) : DV G M_Sb_init [vA x0] w mc ms K := by
  refine DC.of ok_M_Sb_init (ls := [(0, vA x0)]) rfl (Nat.le_of_ble_eq_true rfl) ?_
  refine x_aload_nP (some x0) d_Sb_init_0 rfl (?_ : WD _ _ 1 _ _ _ _ _ _)
  refine x_bipush d_Sb_init_1 (by decide) (by decide) (?_ : WD _ _ 3 _ _ _ _ _ _)
  obtain ⟨c1, s2, h3, h4, h⟩ := h
  refine x_callI (ν := M_As_init) [vI 16] ok_M_As_init oki_M_As_init rfl rfl (qm_3 (i := 193) rfl rfl) np_M_As_init rfl ⟨Nat.le_of_ble_eq_true rfl, Nat.le_of_ble_eq_true rfl⟩ (Nat.le_of_ble_eq_true rfl) rfl d_Sb_init_3 h3 h4 (DV.k h (fun w5 gw5 h => (?_ : WD _ _ 6 _ _ _ _ _ _)))
  exact x_return rfl d_Sb_init_6 h
set_option maxRecDepth 20000 in
theorem e_Sb_append_bf812 {G : Gq} {K : Option Nat → Wd → Prop} {w : Wd} {mc ms : Nat} (x0 : Nat) (x1 : Int) (h : ∃ c1 s2 : Nat, c1 ≤ mc ∧ s2 ≤ ms ∧ ((Is G w x0 (kO 17)) ∧ DP G M_As_append_c97b9 [vA x0, vI x1] w c1 s2 (fun v7 w6 => K (some x0) w6))) : DP G M_Sb_append_bf812 [vA x0, vI x1] w mc ms K := by
  refine DC.of ok_M_Sb_append_bf812 (ls := [(0, vA x0), (1, vI x1)]) rfl (Nat.le_of_ble_eq_true rfl) ?_
  refine x_aload_nP (some x0) d_Sb_append_bf812_0 rfl (?_ : WD _ _ 1 _ _ _ _ _ _)
  refine x_iload_n d_Sb_append_bf812_1 rfl (?_ : WD _ _ 2 _ _ _ _ _ _)
  obtain ⟨c1, s2, h3, h4, h⟩ := h
  obtain ⟨k5, h⟩ := h
  refine x_callSU (ν := M_As_append_c97b9) [vI x1] ok_M_As_append_c97b9 oki_M_As_append_c97b9 k5 rfl (qm_3 (i := 218) rfl rfl) (qm_10 (i := 180) rfl rfl) (by decide) (qm_4 (i := 104) rfl rfl) np_M_As_append_c97b9 rfl ⟨Nat.le_of_ble_eq_true rfl, Nat.le_of_ble_eq_true rfl⟩ (Nat.le_of_ble_eq_true rfl) rfl d_Sb_append_bf812_2 h3 h4 (DP.k h (fun v7 w6 gw6 h => (?_ : WD _ _ 5 _ _ _ _ _ _)))
  refine x_pop d_Sb_append_bf812_5 rfl (?_ : WD _ _ 6 _ _ _ _ _ _)
  refine x_aload_nP (some x0) d_Sb_append_bf812_6 rfl (?_ : WD _ _ 7 _ _ _ _ _ _)
  exact x_areturn (some x0) rfl (Or.inl ⟨_, rfl⟩) d_Sb_append_bf812_7 h
set_option maxRecDepth 20000 in
theorem e_Sb_append_15ec4 {G : Gq} {K : Option Nat → Wd → Prop} {w : Wd} {mc ms : Nat} (x0 : Nat) (x1 : Nat) (h : ∃ c1 s2 : Nat, c1 ≤ mc ∧ s2 ≤ ms ∧ ((Is G w x0 (kO 17)) ∧ DP G M_As_append_cf1ce [vA x0, vA x1] w c1 s2 (fun v7 w6 => K (some x0) w6))) : DP G M_Sb_append_15ec4 [vA x0, vA x1] w mc ms K := by
  refine DC.of ok_M_Sb_append_15ec4 (ls := [(0, vA x0), (1, vA x1)]) rfl (Nat.le_of_ble_eq_true rfl) ?_
  refine x_aload_nP (some x0) d_Sb_append_15ec4_0 rfl (?_ : WD _ _ 1 _ _ _ _ _ _)
  refine x_aload_nP (some x1) d_Sb_append_15ec4_1 rfl (?_ : WD _ _ 2 _ _ _ _ _ _)
  obtain ⟨c1, s2, h3, h4, h⟩ := h
  obtain ⟨k5, h⟩ := h
  refine x_callSU (ν := M_As_append_cf1ce) [vA x1] ok_M_As_append_cf1ce oki_M_As_append_cf1ce k5 rfl (qm_3 (i := 218) rfl rfl) (qm_10 (i := 173) rfl rfl) (by decide) (qm_3 (i := 239) rfl rfl) np_M_As_append_cf1ce rfl ⟨Nat.le_of_ble_eq_true rfl, Nat.le_of_ble_eq_true rfl⟩ (Nat.le_of_ble_eq_true rfl) rfl d_Sb_append_15ec4_2 h3 h4 (DP.k h (fun v7 w6 gw6 h => (?_ : WD _ _ 5 _ _ _ _ _ _)))
  refine x_pop d_Sb_append_15ec4_5 rfl (?_ : WD _ _ 6 _ _ _ _ _ _)
  refine x_aload_nP (some x0) d_Sb_append_15ec4_6 rfl (?_ : WD _ _ 7 _ _ _ _ _ _)
  exact x_areturn (some x0) rfl (Or.inl ⟨_, rfl⟩) d_Sb_append_15ec4_7 h
set_option maxRecDepth 20000 in
theorem e_Sb_toString {G : Gq} {K : Option Nat → Wd → Prop} {w : Wd} {mc ms : Nat} (x0 : Nat) (h : (1 ≤ mc) ∧ (4 ≤ ms) ∧ ∀ q3 : Nat, Fr G w q3 → (∃ c5 s6 : Nat, c5 ≤ (mc - 1) ∧ s6 ≤ (ms - 4) ∧ (DV G M_Sg_init_81219 [vA q3, vA x0] (uN w q3 (kO 18)) c5 s6 (fun w9 => K (some q3) w9)))) : DP G M_Sb_toString [vA x0] w mc ms K := by
  refine DC.of ok_M_Sb_toString (ls := [(0, vA x0)]) rfl (Nat.le_of_ble_eq_true rfl) ?_
  obtain ⟨h1, h⟩ := h
  obtain ⟨h2, h⟩ := h
  refine x_new d_Sb_toString_0 clk_18 tyJ0_ok (qm_4 (i := 186) rfl rfl) (qm_4 (i := 187) rfl rfl) (qm_1 (i := 20) rfl rfl) hfd_18 h1 h2 (fun q3 fq3 => (?_ : WD _ _ 3 _ _ _ _ _ _))
  replace h := h q3 fq3
  have k4 : Ow (uN w q3 (kO 18)) q3 (kO 18) := Ow.nw
  refine x_dup d_Sb_toString_3 rfl (?_ : WD _ _ 4 _ _ _ _ _ _)
  refine x_aload_nP (some x0) d_Sb_toString_4 rfl (?_ : WD _ _ 5 _ _ _ _ _ _)
  obtain ⟨c5, s6, h7, h8, h⟩ := h
  refine x_callI (ν := M_Sg_init_81219) [vA x0] ok_M_Sg_init_81219 oki_M_Sg_init_81219 rfl rfl (qm_4 (i := 188) rfl rfl) np_M_Sg_init_81219 rfl ⟨Nat.le_of_ble_eq_true rfl, Nat.le_of_ble_eq_true rfl⟩ (Nat.le_of_ble_eq_true rfl) rfl d_Sb_toString_5 h7 h8 (DV.k h (fun w9 gw9 h => (?_ : WD _ _ 8 _ _ _ _ _ _)))
  exact x_areturn (some q3) rfl (Or.inl ⟨_, rfl⟩) d_Sb_toString_8 h
set_option maxRecDepth 20000 in
theorem ed_Sg_length {G : Gq} {K : Int → Wd → Prop} {w : Wd} {mc ms : Nat} (x0 : Nat) (h : (Is G w x0 (kO 18)) ∧ ∃ a2 : Nat, (wR w x0 0) = some a2 ∧ (∃ n4 : Nat, ((Is G w a2 (kA 1 n4)) ∧ (inR (n4 : Int)) ∧ DI G M_Sg_coder [vA x0] w 0 0 (fun v8 w7 => K (ishrq (n4 : Int) v8) w7)))) : DI G M_Sg_length [vA x0] w mc ms K := by
  refine DC.of ok_M_Sg_length (ls := [(0, vA x0)]) rfl (Nat.le_of_ble_eq_true rfl) ?_
  refine x_aload_nP (some x0) d_Sg_length_0 rfl (?_ : WD _ _ 1 _ _ _ _ _ _)
  obtain ⟨k1, h⟩ := h
  refine x_getP (ref := "java/lang/String") (j := 0) 0 k1 clk_18 (by decide) (qm_4 (i := 224) rfl rfl) (Or.inl rfl) rfl rfl d_Sg_length_1 (y := (wR w x0 0)) rfl (?_ : WD _ _ 4 _ _ _ _ _ _)
  obtain ⟨a2, e3, h⟩ := h
  rw [e3]
  obtain ⟨n4, h⟩ := h
  obtain ⟨k5, h⟩ := h
  obtain ⟨h6, h⟩ := h
  refine x_alenA k5 (fun _ => rfl) h6 d_Sg_length_4 (?_ : WD _ _ 5 _ _ _ _ _ _)
  refine x_aload_nP (some x0) d_Sg_length_5 rfl (?_ : WD _ _ 6 _ _ _ _ _ _)
  refine x_callV (ν := M_Sg_coder) [] ok_M_Sg_coder okv_M_Sg_coder k1 rfl rfl (qm_4 (i := 61) rfl rfl) np_M_Sg_coder rfl ⟨Nat.le_of_ble_eq_true rfl, Nat.le_of_ble_eq_true rfl⟩ (Nat.le_of_ble_eq_true rfl) rfl d_Sg_length_6 (Nat.zero_le _) (Nat.zero_le _) (DI.k h (fun v8 w7 gw7 h => (?_ : WD _ _ 9 _ _ _ _ _ _)))
  refine x_ishrq d_Sg_length_9 (?_ : WD _ _ 10 _ _ _ _ _ _)
  exact x_ireturn rfl d_Sg_length_10 h
set_option maxRecDepth 20000 in
theorem ed_Sg_charAt {G : Gq} {K : Int → Wd → Prop} {w : Wd} {mc ms : Nat} (x0 : Nat) (x1 : Int) (h : (Is G w x0 (kO 18)) ∧ DI G M_Sg_isLatin1 [vA x0] w 0 0 (fun v3 w2 => (v3 = 0 → False) ∧ (¬ v3 = 0 → ∃ a5 : Nat, (wR w2 x0 0) = some a5 ∧ (DI G M_Sl_charAt [vA a5, vI x1] w2 0 0 (fun v8 w7 => (0 ≤ v8) ∧ (v8 < 65536) ∧ K v8 w7))))) : DI G M_Sg_charAt [vA x0, vI x1] w mc ms K := by
  refine DC.of ok_M_Sg_charAt (ls := [(0, vA x0), (1, vI x1)]) rfl (Nat.le_of_ble_eq_true rfl) ?_
  refine x_aload_nP (some x0) d_Sg_charAt_0 rfl (?_ : WD _ _ 1 _ _ _ _ _ _)
  obtain ⟨k1, h⟩ := h
  refine x_callV (ν := M_Sg_isLatin1) [] ok_M_Sg_isLatin1 okv_M_Sg_isLatin1 k1 rfl rfl (qm_5 (i := 35) rfl rfl) np_M_Sg_isLatin1 rfl ⟨Nat.le_of_ble_eq_true rfl, Nat.le_of_ble_eq_true rfl⟩ (Nat.le_of_ble_eq_true rfl) rfl d_Sg_charAt_1 (Nat.zero_le _) (Nat.zero_le _) (DI.k h (fun v3 w2 gw2 h => (?_ : WD _ _ 4 _ _ _ _ _ _)))
  refine x_if_eq 16 d_Sg_charAt_4 rfl ⟨fun c4 => (?_ : WD _ _ 16 _ _ _ _ _ _), fun c4 => (?_ : WD _ _ 7 _ _ _ _ _ _)⟩
  · replace h := h.1 c4
    exact h.elim
  · replace h := h.2 c4
    refine x_aload_nP (some x0) d_Sg_charAt_7 rfl (?_ : WD _ _ 8 _ _ _ _ _ _)
    refine x_getP (ref := "java/lang/String") (j := 0) 0 (k1.q gw2.k) clk_18 (by decide) (qm_4 (i := 224) rfl rfl) (Or.inl rfl) rfl rfl d_Sg_charAt_8 (y := (wR w2 x0 0)) rfl (?_ : WD _ _ 11 _ _ _ _ _ _)
    refine x_iload_n d_Sg_charAt_11 rfl (?_ : WD _ _ 12 _ _ _ _ _ _)
    obtain ⟨a5, e6, h⟩ := h
    rw [e6]
    refine x_callS (ν := M_Sl_charAt) [vA a5, vI x1] ok_M_Sl_charAt oks_M_Sl_charAt (qm_5 (i := 39) rfl rfl) np_M_Sl_charAt rfl ⟨Nat.le_of_ble_eq_true rfl, Nat.le_of_ble_eq_true rfl⟩ (Nat.le_of_ble_eq_true rfl) rfl d_Sg_charAt_12 (Nat.zero_le _) (Nat.zero_le _) (DI.k h (fun v8 w7 gw7 h => (?_ : WD _ _ 15 _ _ _ _ _ _)))
    obtain ⟨h9, h⟩ := h
    obtain ⟨h10, h⟩ := h
    exact x_creturn rfl d_Sg_charAt_15 h9 h10 h
set_option maxRecDepth 20000 in
theorem e_Al_indexOf {G : Gq} {K : Int → Wd → Prop} {w : Wd} {mc ms : Nat} (x0 : Nat) (x1 : Nat) (h : (Is G w x0 (kO 14)) ∧ DI G M_Al_indexOfRange [vA x0, vA x1, vI 0, vI (wI w x0 2)] w 0 0 (fun v3 w2 => K v3 w2)) : DI G M_Al_indexOf [vA x0, vA x1] w mc ms K := by
  refine DC.of ok_M_Al_indexOf (ls := [(0, vA x0), (1, vA x1)]) rfl (Nat.le_of_ble_eq_true rfl) ?_
  refine x_aload_nP (some x0) d_Al_indexOf_0 rfl (?_ : WD _ _ 1 _ _ _ _ _ _)
  refine x_aload_nP (some x1) d_Al_indexOf_1 rfl (?_ : WD _ _ 2 _ _ _ _ _ _)
  refine x_iconst d_Al_indexOf_2 (by decide) (?_ : WD _ _ 3 _ _ _ _ _ _)
  refine x_aload_nP (some x0) d_Al_indexOf_3 rfl (?_ : WD _ _ 4 _ _ _ _ _ _)
  obtain ⟨k1, h⟩ := h
  refine x_getI (ref := "java/util/ArrayList") (j := 2) 2 k1 clk_14 (by decide) (qm_2 (i := 142) rfl rfl) (Or.inl rfl) rfl rfl d_Al_indexOf_4 (y := (wI w x0 2)) rfl (?_ : WD _ _ 7 _ _ _ _ _ _)
  refine x_callV (ν := M_Al_indexOfRange) [vA x1, vI 0, vI (wI w x0 2)] ok_M_Al_indexOfRange okv_M_Al_indexOfRange k1 rfl rfl (qm_6 (i := 29) rfl rfl) np_M_Al_indexOfRange rfl ⟨Nat.le_of_ble_eq_true rfl, Nat.le_of_ble_eq_true rfl⟩ (Nat.le_of_ble_eq_true rfl) rfl d_Al_indexOf_7 (Nat.zero_le _) (Nat.zero_le _) (DI.k h (fun v3 w2 gw2 h => (?_ : WD _ _ 10 _ _ _ _ _ _)))
  exact x_ireturn rfl d_Al_indexOf_10 h
set_option maxRecDepth 20000 in
theorem e_Ak_init {G : Gq} {K : Wd → Prop} {w : Wd} {mc ms : Nat} (x0 : Nat) (h : DV G M_Ac_init [vA x0] w 0 0 (fun w1 => (Ow w1 x0 (kO 14)) ∧ K (uI w1 x0 0 0))) : DV G M_Ak_init [vA x0] w mc ms K := by
  refine DC.of ok_M_Ak_init (ls := [(0, vA x0)]) rfl (Nat.le_of_ble_eq_true rfl) ?_
  refine x_aload_nP (some x0) d_Ak_init_0 rfl (?_ : WD _ _ 1 _ _ _ _ _ _)
  refine x_callI (ν := M_Ac_init) [] ok_M_Ac_init oki_M_Ac_init rfl rfl (qm_2 (i := 133) rfl rfl) np_M_Ac_init rfl ⟨Nat.le_of_ble_eq_true rfl, Nat.le_of_ble_eq_true rfl⟩ (Nat.le_of_ble_eq_true rfl) rfl d_Ak_init_1 (Nat.zero_le _) (Nat.zero_le _) (DV.k h (fun w1 gw1 h => (?_ : WD _ _ 4 _ _ _ _ _ _)))
  refine x_aload_nP (some x0) d_Ak_init_4 rfl (?_ : WD _ _ 5 _ _ _ _ _ _)
  refine x_iconst d_Ak_init_5 (by decide) (?_ : WD _ _ 6 _ _ _ _ _ _)
  obtain ⟨k3, h⟩ := h
  refine x_putI (ref := "java/util/AbstractList") (j := 0) 0 k3 clk_14 (by decide) (qm_2 (i := 143) rfl rfl) (Or.inl rfl) (Or.inl rfl) tyJx4a65c_ok rfl nmJx4a65c d_Ak_init_6 rfl rfl (fun _ => rfl) rfl (?_ : WD _ _ 9 _ _ _ _ _ _)
  exact x_return rfl d_Ak_init_9 h
set_option maxRecDepth 20000 in
theorem e_Ob_checkIndex {G : Gq} {K : Int → Wd → Prop} {w : Wd} {mc ms : Nat} (x0 : Int) (x1 : Int) (h : DI G M_Pc_checkIndex [vI x0, vI x1, vO (va_rf none)] w 0 0 (fun v2 w1 => K v2 w1)) : DI G M_Ob_checkIndex [vI x0, vI x1] w mc ms K := by
  refine DC.of ok_M_Ob_checkIndex (ls := [(0, vI x0), (1, vI x1)]) rfl (Nat.le_of_ble_eq_true rfl) ?_
  refine x_iload_n d_Ob_checkIndex_0 rfl (?_ : WD _ _ 1 _ _ _ _ _ _)
  refine x_iload_n d_Ob_checkIndex_1 rfl (?_ : WD _ _ 2 _ _ _ _ _ _)
  refine x_null d_Ob_checkIndex_2 (?_ : WD _ _ 3 _ _ _ _ _ _)
  refine x_callS (ν := M_Pc_checkIndex) [vI x0, vI x1, vO (va_rf none)] ok_M_Pc_checkIndex oks_M_Pc_checkIndex (qm_3 (i := 65) rfl rfl) np_M_Pc_checkIndex rfl ⟨Nat.le_of_ble_eq_true rfl, Nat.le_of_ble_eq_true rfl⟩ (Nat.le_of_ble_eq_true rfl) rfl d_Ob_checkIndex_3 (Nat.zero_le _) (Nat.zero_le _) (DI.k h (fun v2 w1 gw1 h => (?_ : WD _ _ 6 _ _ _ _ _ _)))
  exact x_ireturn rfl d_Ob_checkIndex_6 h
set_option maxRecDepth 20000 in
theorem e_Al_elementData {G : Gq} {K : Option Nat → Wd → Prop} {w : Wd} {mc ms : Nat} (x0 : Nat) (x1 : Int) (h : (Is G w x0 (kO 14)) ∧ ∃ a2 : Nat, (wR w x0 1) = some a2 ∧ (∃ n4 : Nat, ((Is G w a2 (kR 4 n4)) ∧ (0 ≤ x1) ∧ (x1 < (n4 : Int)) ∧ K (wR w a2 x1) w))) : DP G M_Al_elementData [vA x0, vI x1] w mc ms K := by
  refine DC.of ok_M_Al_elementData (ls := [(0, vA x0), (1, vI x1)]) rfl (Nat.le_of_ble_eq_true rfl) ?_
  refine x_aload_nP (some x0) d_Al_elementData_0 rfl (?_ : WD _ _ 1 _ _ _ _ _ _)
  obtain ⟨k1, h⟩ := h
  refine x_getP (ref := "java/util/ArrayList") (j := 1) 1 k1 clk_14 (by decide) (qm_2 (i := 139) rfl rfl) (Or.inl rfl) rfl rfl d_Al_elementData_1 (y := (wR w x0 1)) rfl (?_ : WD _ _ 4 _ _ _ _ _ _)
  refine x_iload_n d_Al_elementData_4 rfl (?_ : WD _ _ 5 _ _ _ _ _ _)
  obtain ⟨a2, e3, h⟩ := h
  rw [e3]
  obtain ⟨n4, h⟩ := h
  obtain ⟨k5, h⟩ := h
  obtain ⟨h6, h⟩ := h
  obtain ⟨h7, h⟩ := h
  refine x_aald k5 (fun _ => rfl) d_Al_elementData_5 h6 h7 (y := (wR w a2 x1)) rfl (?_ : WD _ _ 6 _ _ _ _ _ _)
  exact x_areturn (wR w a2 x1) rfl (Or.inl ⟨_, rfl⟩) d_Al_elementData_6 h
set_option maxRecDepth 20000 in
theorem e_Sb_length {G : Gq} {K : Int → Wd → Prop} {w : Wd} {mc ms : Nat} (x0 : Nat) (h : (Is G w x0 (kO 17)) ∧ DI G M_As_length [vA x0] w 0 0 (fun v3 w2 => K v3 w2)) : DI G M_Sb_length [vA x0] w mc ms K := by
  refine DC.of ok_M_Sb_length (ls := [(0, vA x0)]) rfl (Nat.le_of_ble_eq_true rfl) ?_
  refine x_aload_nP (some x0) d_Sb_length_0 rfl (?_ : WD _ _ 1 _ _ _ _ _ _)
  obtain ⟨k1, h⟩ := h
  refine x_callSU (ν := M_As_length) [] ok_M_As_length oki_M_As_length k1 rfl (qm_3 (i := 218) rfl rfl) (qm_10 (i := 172) rfl rfl) (by decide) (qm_3 (i := 227) rfl rfl) np_M_As_length rfl ⟨Nat.le_of_ble_eq_true rfl, Nat.le_of_ble_eq_true rfl⟩ (Nat.le_of_ble_eq_true rfl) rfl d_Sb_length_1 (Nat.zero_le _) (Nat.zero_le _) (DI.k h (fun v3 w2 gw2 h => (?_ : WD _ _ 4 _ _ _ _ _ _)))
  exact x_ireturn rfl d_Sb_length_4 h
set_option maxRecDepth 20000 in
theorem e_Sb_append_cf468 {G : Gq} {K : Option Nat → Wd → Prop} {w : Wd} {mc ms : Nat} (x0 : Nat) (x1 : Int) (h : ∃ c1 s2 : Nat, c1 ≤ mc ∧ s2 ≤ ms ∧ ((Is G w x0 (kO 17)) ∧ DP G M_As_append_3fe6f [vA x0, vI x1] w c1 s2 (fun v7 w6 => K (some x0) w6))) : DP G M_Sb_append_cf468 [vA x0, vI x1] w mc ms K := by
  refine DC.of ok_M_Sb_append_cf468 (ls := [(0, vA x0), (1, vI x1)]) rfl (Nat.le_of_ble_eq_true rfl) ?_
  refine x_aload_nP (some x0) d_Sb_append_cf468_0 rfl (?_ : WD _ _ 1 _ _ _ _ _ _)
  refine x_iload_n d_Sb_append_cf468_1 rfl (?_ : WD _ _ 2 _ _ _ _ _ _)
  obtain ⟨c1, s2, h3, h4, h⟩ := h
  obtain ⟨k5, h⟩ := h
  refine x_callSU (ν := M_As_append_3fe6f) [vI x1] ok_M_As_append_3fe6f oki_M_As_append_3fe6f k5 rfl (qm_3 (i := 218) rfl rfl) (qm_10 (i := 181) rfl rfl) (by decide) (qm_4 (i := 129) rfl rfl) np_M_As_append_3fe6f rfl ⟨Nat.le_of_ble_eq_true rfl, Nat.le_of_ble_eq_true rfl⟩ (Nat.le_of_ble_eq_true rfl) rfl d_Sb_append_cf468_2 h3 h4 (DP.k h (fun v7 w6 gw6 h => (?_ : WD _ _ 5 _ _ _ _ _ _)))
  refine x_pop d_Sb_append_cf468_5 rfl (?_ : WD _ _ 6 _ _ _ _ _ _)
  refine x_aload_nP (some x0) d_Sb_append_cf468_6 rfl (?_ : WD _ _ 7 _ _ _ _ _ _)
  exact x_areturn (some x0) rfl (Or.inl ⟨_, rfl⟩) d_Sb_append_cf468_7 h
set_option maxRecDepth 20000 in
theorem e_Ma_abs {G : Gq} {K : Int → Wd → Prop} {w : Wd} {mc ms : Nat} (x0 : Int) (h : (0 ≤ x0 → K x0 w) ∧ (¬ 0 ≤ x0 → (inR (-x0)) ∧ K (-x0) w)) : DI G M_Ma_abs [vI x0] w mc ms K := by
  refine DC.of ok_M_Ma_abs (ls := [(0, vI x0)]) rfl (Nat.le_of_ble_eq_true rfl) ?_
  refine x_iload_n d_Ma_abs_0 rfl (?_ : WD _ _ 1 _ _ _ _ _ _)
  refine x_if_ge 9 d_Ma_abs_1 rfl ⟨fun c1 => (?_ : WD _ _ 9 _ _ _ _ _ _), fun c1 => (?_ : WD _ _ 4 _ _ _ _ _ _)⟩
  · replace h := h.1 c1
    refine x_iload_n d_Ma_abs_9 rfl (?_ : WD _ _ 10 _ _ _ _ _ _)
    exact x_ireturn rfl d_Ma_abs_10 h
  · replace h := h.2 c1
    refine x_iload_n d_Ma_abs_4 rfl (?_ : WD _ _ 5 _ _ _ _ _ _)
    obtain ⟨h2, h⟩ := h
    refine x_ineg d_Ma_abs_5 h2 (?_ : WD _ _ 6 _ _ _ _ _ _)
    refine x_goto 10 d_Ma_abs_6 rfl ?_
    exact x_ireturn rfl d_Ma_abs_10 h
set_option maxRecDepth 20000 in
theorem e_Al_contains {G : Gq} {K : Int → Wd → Prop} {w : Wd} {mc ms : Nat} (x0 : Nat) (x1 : Nat) (h : (Is G w x0 (kO 14)) ∧ DI G M_Al_indexOf [vA x0, vA x1] w 0 0 (fun v3 w2 => (v3 < 0 → K 0 w2) ∧ (¬ v3 < 0 → K 1 w2))) : DI G M_Al_contains [vA x0, vA x1] w mc ms K := by
  refine DC.of ok_M_Al_contains (ls := [(0, vA x0), (1, vA x1)]) rfl (Nat.le_of_ble_eq_true rfl) ?_
  refine x_aload_nP (some x0) d_Al_contains_0 rfl (?_ : WD _ _ 1 _ _ _ _ _ _)
  refine x_aload_nP (some x1) d_Al_contains_1 rfl (?_ : WD _ _ 2 _ _ _ _ _ _)
  obtain ⟨k1, h⟩ := h
  refine x_callV (ν := M_Al_indexOf) [vA x1] ok_M_Al_indexOf okv_M_Al_indexOf k1 rfl rfl (qm_6 (i := 25) rfl rfl) np_M_Al_indexOf rfl ⟨Nat.le_of_ble_eq_true rfl, Nat.le_of_ble_eq_true rfl⟩ (Nat.le_of_ble_eq_true rfl) rfl d_Al_contains_2 (Nat.zero_le _) (Nat.zero_le _) (DI.k h (fun v3 w2 gw2 h => (?_ : WD _ _ 5 _ _ _ _ _ _)))
  refine x_if_lt 12 d_Al_contains_5 rfl ⟨fun c4 => (?_ : WD _ _ 12 _ _ _ _ _ _), fun c4 => (?_ : WD _ _ 8 _ _ _ _ _ _)⟩
  · replace h := h.1 c4
    refine x_iconst d_Al_contains_12 (by decide) (?_ : WD _ _ 13 _ _ _ _ _ _)
    exact x_zreturn rfl d_Al_contains_13 (by decide) h
  · replace h := h.2 c4
    refine x_iconst d_Al_contains_8 (by decide) (?_ : WD _ _ 9 _ _ _ _ _ _)
    refine x_goto 13 d_Al_contains_9 rfl ?_
    exact x_zreturn rfl d_Al_contains_13 (by decide) h
set_option maxRecDepth 20000 in
theorem e_Ai_init {G : Gq} {K : Wd → Prop} {w : Wd} {mc ms : Nat} (x0 : Nat) (x1 : Nat) (h : (Ow w x0 (kO 15)) ∧ (Is G (uI (uR w x0 3 (some x1)) x0 1 (-1)) x1 (kO 14)) ∧ K (uI (uI (uR w x0 3 (some x1)) x0 1 (-1)) x0 2 (wI (uI (uR w x0 3 (some x1)) x0 1 (-1)) x1 0))) : DV G M_Ai_init [vA x0, vA x1] w mc ms K := by
  refine DC.of ok_M_Ai_init (ls := [(0, vA x0), (1, vA x1)]) rfl (Nat.le_of_ble_eq_true rfl) ?_
  refine x_aload_nP (some x0) d_Ai_init_0 rfl (?_ : WD _ _ 1 _ _ _ _ _ _)
  refine x_aload_nP (some x1) d_Ai_init_1 rfl (?_ : WD _ _ 2 _ _ _ _ _ _)
  obtain ⟨k1, h⟩ := h
  refine x_putP (ref := "java/util/ArrayList$Itr") (j := 3) (some x1) 3 k1 clk_15 (by decide) (qm_2 (i := 211) rfl rfl) (Or.inl rfl) (Or.inr ⟨rfl, rfl, rfl⟩) tyJx35411_ok rfl nmJx35411 d_Ai_init_2 rfl rfl (nar_P (by first | exact Or.inl ⟨_, rfl⟩ | exact Or.inr ⟨_, rfl⟩) _) (fit_P (by first | exact Or.inl ⟨_, rfl⟩ | exact Or.inr ⟨_, rfl⟩) _) (?_ : WD _ _ 5 _ _ _ _ _ _)
  refine x_aload_nP (some x0) d_Ai_init_5 rfl (?_ : WD _ _ 6 _ _ _ _ _ _)
  refine x_obj d_Ai_init_6 (qm_2 (i := 207) rfl rfl) (qm_1 (i := 58) rfl rfl) (qm_1 (i := 59) rfl rfl) ⟨Nat.le_of_ble_eq_true rfl, Nat.le_of_ble_eq_true rfl⟩ (?_ : WD _ _ 9 _ _ _ _ _ _)
  refine x_aload_nP (some x0) d_Ai_init_9 rfl (?_ : WD _ _ 10 _ _ _ _ _ _)
  refine x_iconst d_Ai_init_10 (by decide) (?_ : WD _ _ 11 _ _ _ _ _ _)
  refine x_putI (ref := "java/util/ArrayList$Itr") (j := 1) 1 k1 clk_15 (by decide) (qm_2 (i := 209) rfl rfl) (Or.inl rfl) (Or.inl rfl) tyJx35411_ok rfl nmJx35411 d_Ai_init_11 rfl rfl (fun _ => rfl) rfl (?_ : WD _ _ 14 _ _ _ _ _ _)
  refine x_aload_nP (some x0) d_Ai_init_14 rfl (?_ : WD _ _ 15 _ _ _ _ _ _)
  refine x_aload_nP (some x0) d_Ai_init_15 rfl (?_ : WD _ _ 16 _ _ _ _ _ _)
  refine x_getP (ref := "java/util/ArrayList$Itr") (j := 3) 3 k1.is clk_15 (by decide) (qm_2 (i := 211) rfl rfl) (Or.inl rfl) rfl rfl d_Ai_init_16 (y := (some x1)) (wR_uR_s) (?_ : WD _ _ 19 _ _ _ _ _ _)
  obtain ⟨k2, h⟩ := h
  refine x_getI (ref := "java/util/ArrayList") (j := 0) 0 k2 clk_14 (by decide) (qm_2 (i := 144) rfl rfl) (Or.inr (qm_2 (i := 145) rfl rfl)) rfl rfl d_Ai_init_19 (y := (wI (uI (uR w x0 3 (some x1)) x0 1 (-1)) x1 0)) rfl (?_ : WD _ _ 22 _ _ _ _ _ _)
  refine x_putI (ref := "java/util/ArrayList$Itr") (j := 2) 2 k1 clk_15 (by decide) (qm_2 (i := 210) rfl rfl) (Or.inl rfl) (Or.inl rfl) tyJx35411_ok rfl nmJx35411 d_Ai_init_22 rfl rfl (fun _ => rfl) rfl (?_ : WD _ _ 25 _ _ _ _ _ _)
  exact x_return rfl d_Ai_init_25 h
set_option maxRecDepth 20000 in
theorem e_Ai_checkForComodification {G : Gq} {K : Wd → Prop} {w : Wd} {mc ms : Nat} (x0 : Nat) (h : (Is G w x0 (kO 15)) ∧ ∃ a2 : Nat, (wR w x0 3) = some a2 ∧ ((Is G w a2 (kO 14)) ∧ ((wI w a2 0) = (wI w x0 2) → K w) ∧ (¬ (wI w a2 0) = (wI w x0 2) → False))) : DV G M_Ai_checkForComodification [vA x0] w mc ms K := by
  refine DC.of ok_M_Ai_checkForComodification (ls := [(0, vA x0)]) rfl (Nat.le_of_ble_eq_true rfl) ?_
  refine x_aload_nP (some x0) d_Ai_checkForComodification_0 rfl (?_ : WD _ _ 1 _ _ _ _ _ _)
  obtain ⟨k1, h⟩ := h
  refine x_getP (ref := "java/util/ArrayList$Itr") (j := 3) 3 k1 clk_15 (by decide) (qm_2 (i := 211) rfl rfl) (Or.inl rfl) rfl rfl d_Ai_checkForComodification_1 (y := (wR w x0 3)) rfl (?_ : WD _ _ 4 _ _ _ _ _ _)
  obtain ⟨a2, e3, h⟩ := h
  rw [e3]
  obtain ⟨k4, h⟩ := h
  refine x_getI (ref := "java/util/ArrayList") (j := 0) 0 k4 clk_14 (by decide) (qm_2 (i := 144) rfl rfl) (Or.inr (qm_2 (i := 145) rfl rfl)) rfl rfl d_Ai_checkForComodification_4 (y := (wI w a2 0)) rfl (?_ : WD _ _ 7 _ _ _ _ _ _)
  refine x_aload_nP (some x0) d_Ai_checkForComodification_7 rfl (?_ : WD _ _ 8 _ _ _ _ _ _)
  refine x_getI (ref := "java/util/ArrayList$Itr") (j := 2) 2 k1 clk_15 (by decide) (qm_2 (i := 210) rfl rfl) (Or.inl rfl) rfl rfl d_Ai_checkForComodification_8 (y := (wI w x0 2)) rfl (?_ : WD _ _ 11 _ _ _ _ _ _)
  refine x_icmp_eq 22 d_Ai_checkForComodification_11 rfl ⟨fun c5 => (?_ : WD _ _ 22 _ _ _ _ _ _), fun c5 => (?_ : WD _ _ 14 _ _ _ _ _ _)⟩
  · replace h := h.1 c5
    exact x_return rfl d_Ai_checkForComodification_22 h
  · replace h := h.2 c5
    exact h.elim
set_option maxRecDepth 20000 in
theorem e_Al_add_72be8 {G : Gq} {K : Wd → Prop} {w : Wd} {mc ms : Nat} (x0 : Nat) (x1 : Nat) (x2 : Nat) (x3 : Int) (h : ∃ n1 : Nat, ((Is G w x2 (kR 4 n1)) ∧ (inR (n1 : Int)) ∧ (¬ x3 = (n1 : Int) → (Ow w x2 (kR 4 n1)) ∧ (0 ≤ x3) ∧ (x3 < (n1 : Int)) ∧ (Els G w x1 "java/lang/Object") ∧ (inR (x3 + 1)) ∧ (Ow (uR w x2 x3 (some x1)) x0 (kO 14)) ∧ K (uI (uR w x2 x3 (some x1)) x0 2 (x3 + 1))) ∧ (x3 = (n1 : Int) → ∃ c11 s12 : Nat, c11 ≤ mc ∧ s12 ≤ ms ∧ ((Is G w x0 (kO 14)) ∧ DP G M_Al_grow_d5877 [vA x0] w c11 s12 (fun v17 w16 => ∃ a18 : Nat, v17 = some a18 ∧ (∃ n20 : Nat, ((Ow w16 a18 (kR 4 n20)) ∧ (0 ≤ x3) ∧ (x3 < (n20 : Int)) ∧ (Els G w16 x1 "java/lang/Object") ∧ (inR (x3 + 1)) ∧ (Ow (uR w16 a18 x3 (some x1)) x0 (kO 14)) ∧ K (uI (uR w16 a18 x3 (some x1)) x0 2 (x3 + 1))))))))) : DV G M_Al_add_72be8 [vA x0, vA x1, vA x2, vI x3] w mc ms K := by
  refine DC.of ok_M_Al_add_72be8 (ls := [(0, vA x0), (1, vA x1), (2, vA x2), (3, vI x3)]) rfl (Nat.le_of_ble_eq_true rfl) ?_
  refine x_iload_n d_Al_add_72be8_0 rfl (?_ : WD _ _ 1 _ _ _ _ _ _)
  refine x_aload_nP (some x2) d_Al_add_72be8_1 rfl (?_ : WD _ _ 2 _ _ _ _ _ _)
  obtain ⟨n1, h⟩ := h
  obtain ⟨k2, h⟩ := h
  obtain ⟨h3, h⟩ := h
  refine x_alenR k2 (Or.inr (fun _ => rfl)) (fun h => absurd h (by decide)) h3 d_Al_add_72be8_2 (?_ : WD _ _ 3 _ _ _ _ _ _)
  refine x_icmp_ne 11 d_Al_add_72be8_3 rfl ⟨fun c4 => (?_ : WD _ _ 11 _ _ _ _ _ _), fun c4 => (?_ : WD _ _ 6 _ _ _ _ _ _)⟩
  · replace h := h.1 c4
    refine x_aload_nP (some x2) d_Al_add_72be8_11 rfl (?_ : WD _ _ 12 _ _ _ _ _ _)
    refine x_iload_n d_Al_add_72be8_12 rfl (?_ : WD _ _ 13 _ _ _ _ _ _)
    refine x_aload_nP (some x1) d_Al_add_72be8_13 rfl (?_ : WD _ _ 14 _ _ _ _ _ _)
    obtain ⟨k5, h⟩ := h
    obtain ⟨h6, h⟩ := h
    obtain ⟨h7, h⟩ := h
    obtain ⟨h8, h⟩ := h
    refine x_aast k5 (fun _ => rfl) h8 d_Al_add_72be8_14 h6 h7 (?_ : WD _ _ 15 _ _ _ _ _ _)
    refine x_aload_nP (some x0) d_Al_add_72be8_15 rfl (?_ : WD _ _ 16 _ _ _ _ _ _)
    refine x_iload_n d_Al_add_72be8_16 rfl (?_ : WD _ _ 17 _ _ _ _ _ _)
    refine x_iconst d_Al_add_72be8_17 (by decide) (?_ : WD _ _ 18 _ _ _ _ _ _)
    obtain ⟨h9, h⟩ := h
    refine x_iadd d_Al_add_72be8_18 h9 (?_ : WD _ _ 19 _ _ _ _ _ _)
    obtain ⟨k10, h⟩ := h
    refine x_putI (ref := "java/util/ArrayList") (j := 2) 2 k10 clk_14 (by decide) (qm_2 (i := 142) rfl rfl) (Or.inl rfl) (Or.inl rfl) tyJx4a65c_ok rfl nmJx4a65c d_Al_add_72be8_19 rfl rfl (fun _ => rfl) rfl (?_ : WD _ _ 22 _ _ _ _ _ _)
    exact x_return rfl d_Al_add_72be8_22 h
  · replace h := h.2 c4
    refine x_aload_nP (some x0) d_Al_add_72be8_6 rfl (?_ : WD _ _ 7 _ _ _ _ _ _)
    obtain ⟨c11, s12, h13, h14, h⟩ := h
    obtain ⟨k15, h⟩ := h
    refine x_callV (ν := M_Al_grow_d5877) [] ok_M_Al_grow_d5877 okv_M_Al_grow_d5877 k15 rfl rfl (qm_3 (i := 105) rfl rfl) np_M_Al_grow_d5877 rfl ⟨Nat.le_of_ble_eq_true rfl, Nat.le_of_ble_eq_true rfl⟩ (Nat.le_of_ble_eq_true rfl) rfl d_Al_add_72be8_7 h13 h14 (DP.k h (fun v17 w16 gw16 h => (?_ : WD _ _ 10 _ _ _ _ _ _)))
    refine x_astore_nP v17 (ls' := [(2, vP v17), (0, vA x0), (1, vA x1), (3, vI x3)]) d_Al_add_72be8_10 rfl (by decide) rfl (?_ : WD _ _ 11 _ _ _ _ _ _)
    refine x_aload_nP v17 d_Al_add_72be8_11 rfl (?_ : WD _ _ 12 _ _ _ _ _ _)
    refine x_iload_n d_Al_add_72be8_12 rfl (?_ : WD _ _ 13 _ _ _ _ _ _)
    refine x_aload_nP (some x1) d_Al_add_72be8_13 rfl (?_ : WD _ _ 14 _ _ _ _ _ _)
    obtain ⟨a18, e19, h⟩ := h
    rw [e19]
    obtain ⟨n20, h⟩ := h
    obtain ⟨k21, h⟩ := h
    obtain ⟨h22, h⟩ := h
    obtain ⟨h23, h⟩ := h
    obtain ⟨h24, h⟩ := h
    refine x_aast k21 (fun _ => rfl) h24 d_Al_add_72be8_14 h22 h23 (?_ : WD _ _ 15 _ _ _ _ _ _)
    refine x_aload_nP (some x0) d_Al_add_72be8_15 rfl (?_ : WD _ _ 16 _ _ _ _ _ _)
    refine x_iload_n d_Al_add_72be8_16 rfl (?_ : WD _ _ 17 _ _ _ _ _ _)
    refine x_iconst d_Al_add_72be8_17 (by decide) (?_ : WD _ _ 18 _ _ _ _ _ _)
    obtain ⟨h25, h⟩ := h
    refine x_iadd d_Al_add_72be8_18 h25 (?_ : WD _ _ 19 _ _ _ _ _ _)
    obtain ⟨k26, h⟩ := h
    refine x_putI (ref := "java/util/ArrayList") (j := 2) 2 k26 clk_14 (by decide) (qm_2 (i := 142) rfl rfl) (Or.inl rfl) (Or.inl rfl) tyJx4a65c_ok rfl nmJx4a65c d_Al_add_72be8_19 rfl rfl (fun _ => rfl) rfl (?_ : WD _ _ 22 _ _ _ _ _ _)
    exact x_return rfl d_Al_add_72be8_22 h
set_option maxRecDepth 20000 in
theorem e_Hs_init {G : Gq} {K : Wd → Prop} {w : Wd} {mc ms : Nat} (x0 : Nat) (x1 : Int) (x2 : UInt32) (x3 : Int) (h : DV G M_Ab_init [vA x0] w 0 0 (fun w1 => (1 ≤ mc) ∧ (12 ≤ ms) ∧ ∀ q5 : Nat, Fr G w1 q5 → (DV G M_Lm_init [vA q5, vI x1, vO (.float x2)] (uN w1 q5 (kO 20)) 0 0 (fun w7 => (Ow w7 x0 (kO 19)) ∧ K (uR w7 x0 0 (some q5)))))) : DV G M_Hs_init [vA x0, vI x1, vO (.float x2), vI x3] w mc ms K := by
  refine DC.of ok_M_Hs_init (ls := [(0, vA x0), (1, vI x1), (2, vO (.float x2)), (3, vI x3)]) rfl (Nat.le_of_ble_eq_true rfl) ?_
  refine x_aload_nP (some x0) d_Hs_init_0 rfl (?_ : WD _ _ 1 _ _ _ _ _ _)
  refine x_callI (ν := M_Ab_init) [] ok_M_Ab_init oki_M_Ab_init rfl rfl (qm_6 (i := 122) rfl rfl) np_M_Ab_init rfl ⟨Nat.le_of_ble_eq_true rfl, Nat.le_of_ble_eq_true rfl⟩ (Nat.le_of_ble_eq_true rfl) rfl d_Hs_init_1 (Nat.zero_le _) (Nat.zero_le _) (DV.k h (fun w1 gw1 h => (?_ : WD _ _ 4 _ _ _ _ _ _)))
  refine x_aload_nP (some x0) d_Hs_init_4 rfl (?_ : WD _ _ 5 _ _ _ _ _ _)
  obtain ⟨h3, h⟩ := h
  obtain ⟨h4, h⟩ := h
  refine x_new d_Hs_init_5 clk_20 tyX28_ok (qm_6 (i := 126) rfl rfl) (qm_6 (i := 127) rfl rfl) (qm_1 (i := 38) rfl rfl) hfd_20 h3 h4 (fun q5 fq5 => (?_ : WD _ _ 8 _ _ _ _ _ _))
  replace h := h q5 fq5
  have k6 : Ow (uN w1 q5 (kO 20)) q5 (kO 20) := Ow.nw
  refine x_dup d_Hs_init_8 rfl (?_ : WD _ _ 9 _ _ _ _ _ _)
  refine x_iload_n d_Hs_init_9 rfl (?_ : WD _ _ 10 _ _ _ _ _ _)
  refine x_fload_n d_Hs_init_10 rfl (?_ : WD _ _ 11 _ _ _ _ _ _)
  refine x_callI (ν := M_Lm_init) [vI x1, vO (.float x2)] ok_M_Lm_init oki_M_Lm_init rfl rfl (qm_6 (i := 128) rfl rfl) np_M_Lm_init rfl ⟨Nat.le_of_ble_eq_true rfl, Nat.le_of_ble_eq_true rfl⟩ (Nat.le_of_ble_eq_true rfl) rfl d_Hs_init_11 (Nat.zero_le _) (Nat.zero_le _) (DV.k h (fun w7 gw7 h => (?_ : WD _ _ 14 _ _ _ _ _ _)))
  obtain ⟨k9, h⟩ := h
  refine x_putP (ref := "java/util/HashSet") (j := 0) (some q5) 0 k9 clk_19 (by decide) (qm_6 (i := 195) rfl rfl) (Or.inl rfl) (Or.inl rfl) tyX29_ok rfl nmX29 d_Hs_init_14 rfl rfl (nar_P (by first | exact Or.inl ⟨_, rfl⟩ | exact Or.inr ⟨_, rfl⟩) _) (fit_P (by first | exact Or.inl ⟨_, rfl⟩ | exact Or.inr ⟨_, rfl⟩) _) (?_ : WD _ _ 17 _ _ _ _ _ _)
  exact x_return rfl d_Hs_init_17 h
set_option maxRecDepth 20000 in
theorem e_Lm_keySet {G : Gq} {K : Option Nat → Wd → Prop} {w : Wd} {mc ms : Nat} (x0 : Nat) (h : ∃ c1 s2 : Nat, c1 ≤ mc ∧ s2 ≤ ms ∧ ((Is G w x0 (kO 20)) ∧ DP G M_Lm_sequencedKeySet [vA x0] w c1 s2 (fun v7 w6 => K v7 w6))) : DP G M_Lm_keySet [vA x0] w mc ms K := by
  refine DC.of ok_M_Lm_keySet (ls := [(0, vA x0)]) rfl (Nat.le_of_ble_eq_true rfl) ?_
  refine x_aload_nP (some x0) d_Lm_keySet_0 rfl (?_ : WD _ _ 1 _ _ _ _ _ _)
  obtain ⟨c1, s2, h3, h4, h⟩ := h
  obtain ⟨k5, h⟩ := h
  refine x_callV (ν := M_Lm_sequencedKeySet) [] ok_M_Lm_sequencedKeySet okv_M_Lm_sequencedKeySet k5 rfl rfl (qm_9 (i := 67) rfl rfl) np_M_Lm_sequencedKeySet rfl ⟨Nat.le_of_ble_eq_true rfl, Nat.le_of_ble_eq_true rfl⟩ (Nat.le_of_ble_eq_true rfl) rfl d_Lm_keySet_1 h3 h4 (DP.k h (fun v7 w6 gw6 h => (?_ : WD _ _ 4 _ _ _ _ _ _)))
  exact x_areturn v7 rfl (Or.inl ⟨_, rfl⟩) d_Lm_keySet_4 h
set_option maxRecDepth 20000 in
theorem e_Lq_iterator {G : Gq} {K : Option Nat → Wd → Prop} {w : Wd} {mc ms : Nat} (x0 : Nat) (h : (1 ≤ mc) ∧ (5 ≤ ms) ∧ ∀ q3 : Nat, Fr G w q3 → ((Is G (uN w q3 (kO 23)) x0 (kO 22)) ∧ ((wI (uN w q3 (kO 23)) x0 0) = 0) ∧ ∃ a7 : Nat, (wR (uN w q3 (kO 23)) x0 1) = some a7 ∧ (DV G M_Lk_init [vA q3, vA a7, vI 0] (uN w q3 (kO 23)) 0 0 (fun w9 => K (some q3) w9)))) : DP G M_Lq_iterator [vA x0] w mc ms K := by
  refine DC.of ok_M_Lq_iterator (ls := [(0, vA x0)]) rfl (Nat.le_of_ble_eq_true rfl) ?_
  obtain ⟨h1, h⟩ := h
  obtain ⟨h2, h⟩ := h
  refine x_new d_Lq_iterator_0 clk_23 tyX26_ok (qm_9 (i := 127) rfl rfl) (qm_9 (i := 128) rfl rfl) (qm_1 (i := 51) rfl rfl) hfd_23 h1 h2 (fun q3 fq3 => (?_ : WD _ _ 3 _ _ _ _ _ _))
  replace h := h q3 fq3
  have k4 : Ow (uN w q3 (kO 23)) q3 (kO 23) := Ow.nw
  refine x_dup d_Lq_iterator_3 rfl (?_ : WD _ _ 4 _ _ _ _ _ _)
  refine x_aload_nP (some x0) d_Lq_iterator_4 rfl (?_ : WD _ _ 5 _ _ _ _ _ _)
  obtain ⟨k5, h⟩ := h
  refine x_getP (ref := "java/util/LinkedHashMap$LinkedKeySet") (j := 1) 1 k5 clk_22 (by decide) (qm_9 (i := 78) rfl rfl) (Or.inl rfl) rfl rfl d_Lq_iterator_5 (y := (wR (uN w q3 (kO 23)) x0 1)) rfl (?_ : WD _ _ 8 _ _ _ _ _ _)
  refine x_aload_nP (some x0) d_Lq_iterator_8 rfl (?_ : WD _ _ 9 _ _ _ _ _ _)
  obtain ⟨h6, h⟩ := h
  refine x_getI (ref := "java/util/LinkedHashMap$LinkedKeySet") (j := 0) 0 k5 clk_22 (by decide) (qm_9 (i := 77) rfl rfl) (Or.inl rfl) rfl rfl d_Lq_iterator_9 (y := 0) (h6) (?_ : WD _ _ 12 _ _ _ _ _ _)
  obtain ⟨a7, e8, h⟩ := h
  rw [e8]
  refine x_callI (ν := M_Lk_init) [vA a7, vI 0] ok_M_Lk_init oki_M_Lk_init rfl rfl (qm_9 (i := 129) rfl rfl) np_M_Lk_init rfl ⟨Nat.le_of_ble_eq_true rfl, Nat.le_of_ble_eq_true rfl⟩ (Nat.le_of_ble_eq_true rfl) rfl d_Lq_iterator_12 (Nat.zero_le _) (Nat.zero_le _) (DV.k h (fun w9 gw9 h => (?_ : WD _ _ 15 _ _ _ _ _ _)))
  exact x_areturn (some q3) rfl (Or.inl ⟨_, rfl⟩) d_Lq_iterator_15 h
set_option maxRecDepth 20000 in
theorem e_Lh_nextNode {G : Gq} {K : Option Nat → Wd → Prop} {w : Wd} {mc ms : Nat} (x0 : Nat) (h : (Is G w x0 (kO 23)) ∧ ∃ a2 : Nat, (wR w x0 4) = some a2 ∧ ((Is G w a2 (kO 20)) ∧ ((wI w a2 3) = (wI w x0 2) → ((wR w x0 0) = none → False) ∧ (∀ a6 : Nat, (wR w x0 0) = some a6 → (Ow w x0 (kO 23)) ∧ ((wI w x0 3) = 0) ∧ (Is G (uR w x0 1 (some a6)) a6 (kO 21)) ∧ K (some a6) (uR (uR w x0 1 (some a6)) x0 0 (wR (uR w x0 1 (some a6)) a6 5)))) ∧ (¬ (wI w a2 3) = (wI w x0 2) → False))) : DP G M_Lh_nextNode [vA x0] w mc ms K := by
  refine DC.of ok_M_Lh_nextNode (ls := [(0, vA x0)]) rfl (Nat.le_of_ble_eq_true rfl) ?_
  refine x_aload_nP (some x0) d_Lh_nextNode_0 rfl (?_ : WD _ _ 1 _ _ _ _ _ _)
  obtain ⟨k1, h⟩ := h
  refine x_getP (ref := "java/util/LinkedHashMap$LinkedHashIterator") (j := 0) 0 k1 clk_23 (by decide) (qm_9 (i := 136) rfl rfl) (Or.inl rfl) rfl rfl d_Lh_nextNode_1 (y := (wR w x0 0)) rfl (?_ : WD _ _ 4 _ _ _ _ _ _)
  refine x_astore_nP (wR w x0 0) (ls' := [(1, vP (wR w x0 0)), (0, vA x0)]) d_Lh_nextNode_4 rfl (by decide) rfl (?_ : WD _ _ 5 _ _ _ _ _ _)
  refine x_aload_nP (some x0) d_Lh_nextNode_5 rfl (?_ : WD _ _ 6 _ _ _ _ _ _)
  refine x_getP (ref := "java/util/LinkedHashMap$LinkedHashIterator") (j := 4) 4 k1 clk_23 (by decide) (qm_9 (i := 140) rfl rfl) (Or.inl rfl) rfl rfl d_Lh_nextNode_6 (y := (wR w x0 4)) rfl (?_ : WD _ _ 9 _ _ _ _ _ _)
  obtain ⟨a2, e3, h⟩ := h
  rw [e3]
  obtain ⟨k4, h⟩ := h
  refine x_getI (ref := "java/util/LinkedHashMap") (j := 3) 3 k4 clk_20 (by decide) (qm_6 (i := 160) rfl rfl) (Or.inr (qm_6 (i := 161) rfl rfl)) rfl rfl d_Lh_nextNode_9 (y := (wI w a2 3)) rfl (?_ : WD _ _ 12 _ _ _ _ _ _)
  refine x_aload_nP (some x0) d_Lh_nextNode_12 rfl (?_ : WD _ _ 13 _ _ _ _ _ _)
  refine x_getI (ref := "java/util/LinkedHashMap$LinkedHashIterator") (j := 2) 2 k1 clk_23 (by decide) (qm_9 (i := 138) rfl rfl) (Or.inl rfl) rfl rfl d_Lh_nextNode_13 (y := (wI w x0 2)) rfl (?_ : WD _ _ 16 _ _ _ _ _ _)
  refine x_icmp_eq 27 d_Lh_nextNode_16 rfl ⟨fun c5 => (?_ : WD _ _ 27 _ _ _ _ _ _), fun c5 => (?_ : WD _ _ 19 _ _ _ _ _ _)⟩
  · replace h := h.1 c5
    refine x_aload_nP (wR w x0 0) d_Lh_nextNode_27 rfl (?_ : WD _ _ 28 _ _ _ _ _ _)
    refine x_ifnonnull 39 d_Lh_nextNode_28 rfl ⟨fun e7 => (?_ : WD _ _ 31 _ _ _ _ _ _), fun a6 e7 => (?_ : WD _ _ 39 _ _ _ _ _ _)⟩
    · replace h := h.1 e7
      rw [e7]
      exact h.elim
    · replace h := h.2 a6 e7
      rw [e7]
      refine x_aload_nP (some x0) d_Lh_nextNode_39 rfl (?_ : WD _ _ 40 _ _ _ _ _ _)
      refine x_aload_nP (some a6) d_Lh_nextNode_40 rfl (?_ : WD _ _ 41 _ _ _ _ _ _)
      obtain ⟨k8, h⟩ := h
      refine x_putP (ref := "java/util/LinkedHashMap$LinkedHashIterator") (j := 1) (some a6) 1 k8 clk_23 (by decide) (qm_9 (i := 137) rfl rfl) (Or.inl rfl) (Or.inl rfl) tyX26_ok rfl nmX26 d_Lh_nextNode_41 rfl rfl (nar_P (by first | exact Or.inl ⟨_, rfl⟩ | exact Or.inr ⟨_, rfl⟩) _) (fit_P (by first | exact Or.inl ⟨_, rfl⟩ | exact Or.inr ⟨_, rfl⟩) _) (?_ : WD _ _ 44 _ _ _ _ _ _)
      refine x_aload_nP (some x0) d_Lh_nextNode_44 rfl (?_ : WD _ _ 45 _ _ _ _ _ _)
      refine x_aload_nP (some x0) d_Lh_nextNode_45 rfl (?_ : WD _ _ 46 _ _ _ _ _ _)
      obtain ⟨h9, h⟩ := h
      refine x_getI (ref := "java/util/LinkedHashMap$LinkedHashIterator") (j := 3) 3 k8.is clk_23 (by decide) (qm_9 (i := 139) rfl rfl) (Or.inl rfl) rfl rfl d_Lh_nextNode_46 (y := 0) (h9) (?_ : WD _ _ 49 _ _ _ _ _ _)
      refine x_if_eq 59 d_Lh_nextNode_49 rfl ⟨fun hc => (?_ : WD _ _ 59 _ _ _ _ _ _), fun hc => absurd rfl hc⟩
      refine x_aload_nP (some a6) d_Lh_nextNode_59 rfl (?_ : WD _ _ 60 _ _ _ _ _ _)
      obtain ⟨k10, h⟩ := h
      refine x_getP (ref := "java/util/LinkedHashMap$Entry") (j := 5) 5 k10 clk_21 (by decide) (qm_7 (i := 152) rfl rfl) (Or.inl rfl) rfl rfl d_Lh_nextNode_60 (y := (wR (uR w x0 1 (some a6)) a6 5)) rfl (?_ : WD _ _ 63 _ _ _ _ _ _)
      refine x_putP (ref := "java/util/LinkedHashMap$LinkedHashIterator") (j := 0) (wR (uR w x0 1 (some a6)) a6 5) 0 k8 clk_23 (by decide) (qm_9 (i := 136) rfl rfl) (Or.inl rfl) (Or.inl rfl) tyX26_ok rfl nmX26 d_Lh_nextNode_63 rfl rfl (nar_P (by first | exact Or.inl ⟨_, rfl⟩ | exact Or.inr ⟨_, rfl⟩) _) (fit_P (by first | exact Or.inl ⟨_, rfl⟩ | exact Or.inr ⟨_, rfl⟩) _) (?_ : WD _ _ 66 _ _ _ _ _ _)
      refine x_aload_nP (some a6) d_Lh_nextNode_66 rfl (?_ : WD _ _ 67 _ _ _ _ _ _)
      exact x_areturn (some a6) rfl (Or.inl ⟨_, rfl⟩) d_Lh_nextNode_67 h
  · replace h := h.2 c5
    exact h.elim
set_option maxRecDepth 20000 in
theorem e_Hn_getKey {G : Gq} {K : Option Nat → Wd → Prop} {w : Wd} {mc ms : Nat} (x0 : Nat) (h : (Is G w x0 (kO 21)) ∧ K (wR w x0 1) w) : DP G M_Hn_getKey [vA x0] w mc ms K := by
  refine DC.of ok_M_Hn_getKey (ls := [(0, vA x0)]) rfl (Nat.le_of_ble_eq_true rfl) ?_
  refine x_aload_nP (some x0) d_Hn_getKey_0 rfl (?_ : WD _ _ 1 _ _ _ _ _ _)
  obtain ⟨k1, h⟩ := h
  refine x_getP (ref := "java/util/HashMap$Node") (j := 1) 1 k1 clk_21 (by decide) (qm_7 (i := 159) rfl rfl) (Or.inl rfl) rfl rfl d_Hn_getKey_1 (y := (wR w x0 1)) rfl (?_ : WD _ _ 4 _ _ _ _ _ _)
  exact x_areturn (wR w x0 1) rfl (Or.inl ⟨_, rfl⟩) d_Hn_getKey_4 h
set_option maxRecDepth 20000 in
theorem e_In_init {G : Gq} {K : Wd → Prop} {w : Wd} {mc ms : Nat} (x0 : Nat) (x1 : Int) (h : DV G M_Nu_init [vA x0] w 0 0 (fun w1 => (Ow w1 x0 (kO 16)) ∧ K (uI w1 x0 0 x1))) : DV G M_In_init [vA x0, vI x1] w mc ms K := by
  refine DC.of ok_M_In_init (ls := [(0, vA x0), (1, vI x1)]) rfl (Nat.le_of_ble_eq_true rfl) ?_
  refine x_aload_nP (some x0) d_In_init_0 rfl (?_ : WD _ _ 1 _ _ _ _ _ _)
  refine x_callI (ν := M_Nu_init) [] ok_M_Nu_init oki_M_Nu_init rfl rfl (qm_6 (i := 13) rfl rfl) np_M_Nu_init rfl ⟨Nat.le_of_ble_eq_true rfl, Nat.le_of_ble_eq_true rfl⟩ (Nat.le_of_ble_eq_true rfl) rfl d_In_init_1 (Nat.zero_le _) (Nat.zero_le _) (DV.k h (fun w1 gw1 h => (?_ : WD _ _ 4 _ _ _ _ _ _)))
  refine x_aload_nP (some x0) d_In_init_4 rfl (?_ : WD _ _ 5 _ _ _ _ _ _)
  refine x_iload_n d_In_init_5 rfl (?_ : WD _ _ 6 _ _ _ _ _ _)
  obtain ⟨k3, h⟩ := h
  refine x_putI (ref := "java/lang/Integer") (j := 0) 0 k3 clk_16 (by decide) (qm_6 (i := 17) rfl rfl) (Or.inl rfl) (Or.inr ⟨rfl, rfl, rfl⟩) tyJ6_ok rfl nmJ6 d_In_init_6 rfl rfl (fun _ => rfl) rfl (?_ : WD _ _ 9 _ _ _ _ _ _)
  exact x_return rfl d_In_init_9 h
set_option maxRecDepth 20000 in
theorem e_Hm_put {G : Gq} {K : Option Nat → Wd → Prop} {w : Wd} {mc ms : Nat} (x0 : Nat) (x1 : Nat) (x2 : Nat) (h : DI G M_Hm_hash [vA x1] w 0 0 (fun v2 w1 => ∃ c3 s4 : Nat, c3 ≤ mc ∧ s4 ≤ ms ∧ ((Is G w1 x0 (kO 20)) ∧ DP G M_Hm_putVal [vA x0, vI v2, vA x1, vA x2, vI 0, vI 1] w1 c3 s4 (fun v9 w8 => K v9 w8)))) : DP G M_Hm_put [vA x0, vA x1, vA x2] w mc ms K := by
  refine DC.of ok_M_Hm_put (ls := [(0, vA x0), (1, vA x1), (2, vA x2)]) rfl (Nat.le_of_ble_eq_true rfl) ?_
  refine x_aload_nP (some x0) d_Hm_put_0 rfl (?_ : WD _ _ 1 _ _ _ _ _ _)
  refine x_aload_nP (some x1) d_Hm_put_1 rfl (?_ : WD _ _ 2 _ _ _ _ _ _)
  refine x_callS (ν := M_Hm_hash) [vA x1] ok_M_Hm_hash oks_M_Hm_hash (qm_7 (i := 31) rfl rfl) np_M_Hm_hash rfl ⟨Nat.le_of_ble_eq_true rfl, Nat.le_of_ble_eq_true rfl⟩ (Nat.le_of_ble_eq_true rfl) rfl d_Hm_put_2 (Nat.zero_le _) (Nat.zero_le _) (DI.k h (fun v2 w1 gw1 h => (?_ : WD _ _ 5 _ _ _ _ _ _)))
  refine x_aload_nP (some x1) d_Hm_put_5 rfl (?_ : WD _ _ 6 _ _ _ _ _ _)
  refine x_aload_nP (some x2) d_Hm_put_6 rfl (?_ : WD _ _ 7 _ _ _ _ _ _)
  refine x_iconst d_Hm_put_7 (by decide) (?_ : WD _ _ 8 _ _ _ _ _ _)
  refine x_iconst d_Hm_put_8 (by decide) (?_ : WD _ _ 9 _ _ _ _ _ _)
  obtain ⟨c3, s4, h5, h6, h⟩ := h
  obtain ⟨k7, h⟩ := h
  refine x_callU (ν := M_Hm_putVal) ⟨"java/util/HashMap", "putVal", "(ILjava/lang/Object;Ljava/lang/Object;ZZ)Ljava/lang/Object;"⟩ "java/util/HashMap" [vI v2, vA x1, vA x2, vI 0, vI 1] ok_M_Hm_putVal oki_M_Hm_putVal k7 rfl (sel_in (qm_7 (i := 113) rfl rfl)) (qm_7 (i := 112) rfl rfl) (Or.inr (Or.inl rfl)) (by decide) (qm_7 (i := 110) rfl rfl) (show _ = some 5 from by decide +kernel) rfl ⟨Nat.le_of_ble_eq_true rfl, Nat.le_of_ble_eq_true rfl⟩ (Nat.le_of_ble_eq_true rfl) rfl d_Hm_put_9 h5 h6 (DP.k h (fun v9 w8 gw8 h => (?_ : WD _ _ 12 _ _ _ _ _ _)))
  exact x_areturn v9 rfl (Or.inl ⟨_, rfl⟩) d_Hm_put_12 h
set_option maxRecDepth 20000 in
theorem e_As_init {G : Gq} {K : Wd → Prop} {w : Wd} {mc ms : Nat} (x0 : Nat) (x1 : Int) (h : ∃ n1 : Nat, x1 = (n1 : Int) ∧ ((n1 ≤ 100000) ∧ (1 ≤ mc) ∧ (n1 ≤ ms) ∧ ∀ q6 : Nat, Fr G w q6 → ((Ow (uN w q6 (kA 1 n1)) x0 (kO 17)) ∧ K (uI (uR (uN w q6 (kA 1 n1)) x0 0 (some q6)) x0 1 0)))) : DV G M_As_init [vA x0, vI x1] w mc ms K := by
  refine DC.of ok_M_As_init (ls := [(0, vA x0), (1, vI x1)]) rfl (Nat.le_of_ble_eq_true rfl) ?_
  refine x_aload_nP (some x0) d_As_init_0 rfl (?_ : WD _ _ 1 _ _ _ _ _ _)
  refine x_obj d_As_init_1 (qm_3 (i := 196) rfl rfl) (qm_1 (i := 58) rfl rfl) (qm_1 (i := 59) rfl rfl) ⟨Nat.le_of_ble_eq_true rfl, Nat.le_of_ble_eq_true rfl⟩ (?_ : WD _ _ 4 _ _ _ _ _ _)
  refine x_getsI 1 (List.mem_of_getElem? (i := 5) rfl) (by decide) (qm_3 (i := 197) rfl rfl) d_As_init_4 (?_ : WD _ _ 7 _ _ _ _ _ _)
  refine x_if_eq 25 d_As_init_7 rfl ⟨fun hc => absurd hc (by decide), fun hc => (?_ : WD _ _ 10 _ _ _ _ _ _)⟩
  refine x_aload_nP (some x0) d_As_init_10 rfl (?_ : WD _ _ 11 _ _ _ _ _ _)
  refine x_iload_n d_As_init_11 rfl (?_ : WD _ _ 12 _ _ _ _ _ _)
  obtain ⟨n1, e2, h⟩ := h
  obtain ⟨h3, h⟩ := h
  obtain ⟨h4, h⟩ := h
  obtain ⟨h5, h⟩ := h
  refine x_newa (t := 1) n1 e2 d_As_init_12 rfl (qm_1 (i := 74) rfl rfl) (fun _ => rfl) (fun _ _ => rfl) (fun _ => rfl) h3 (by decide) h4 h5 (fun q6 fq6 => (?_ : WD _ _ 14 _ _ _ _ _ _))
  replace h := h q6 fq6
  have k7 : Ow (uN w q6 (kA 1 n1)) q6 (kA 1 n1) := Ow.nw
  obtain ⟨k8, h⟩ := h
  refine x_putP (ref := "java/lang/AbstractStringBuilder") (j := 0) (some q6) 0 k8 clk_17 (by decide) (qm_3 (i := 206) rfl rfl) (Or.inl rfl) (Or.inl rfl) tyJ4_ok rfl nmJ4 d_As_init_14 rfl rfl (nar_P (by first | exact Or.inl ⟨_, rfl⟩ | exact Or.inr ⟨_, rfl⟩) _) (fit_P (by first | exact Or.inl ⟨_, rfl⟩ | exact Or.inr ⟨_, rfl⟩) _) (?_ : WD _ _ 17 _ _ _ _ _ _)
  refine x_aload_nP (some x0) d_As_init_17 rfl (?_ : WD _ _ 18 _ _ _ _ _ _)
  refine x_iconst d_As_init_18 (by decide) (?_ : WD _ _ 19 _ _ _ _ _ _)
  refine x_putI (ref := "java/lang/AbstractStringBuilder") (j := 1) 1 k8 clk_17 (by decide) (qm_3 (i := 207) rfl rfl) (Or.inl rfl) (Or.inl rfl) tyJ4_ok rfl nmJ4 d_As_init_19 rfl rfl (fun _ => by decide +kernel) (by decide +kernel) (?_ : WD _ _ 22 _ _ _ _ _ _)
  refine x_goto 38 d_As_init_22 rfl ?_
  exact x_return rfl d_As_init_38 h
set_option maxRecDepth 20000 in
theorem e_As_append_c97b9 {G : Gq} {K : Option Nat → Wd → Prop} {w : Wd} {mc ms : Nat} (x0 : Nat) (x1 : Int) (h : (Is G w x0 (kO 17)) ∧ DI G M_In_stringSize [vI x1] w 0 0 (fun v3 w2 => (inR ((wI w x0 3) + v3)) ∧ ∃ c5 s6 : Nat, c5 ≤ mc ∧ s6 ≤ ms ∧ (DV G M_As_ensureCapacityInternal [vA x0, vI ((wI w x0 3) + v3)] w2 c5 s6 (fun w9 => DI G M_As_isLatin1 [vA x0] w9 0 0 (fun v12 w11 => (v12 = 0 → False) ∧ (¬ v12 = 0 → ∃ a14 : Nat, (wR w11 x0 0) = some a14 ∧ (DI G M_In_getChars [vI x1, vI ((wI w x0 3) + v3), vA a14] w11 0 0 (fun v17 w16 => (Ow w16 x0 (kO 17)) ∧ K (some x0) (uI w16 x0 3 ((wI w x0 3) + v3)))))))))) : DP G M_As_append_c97b9 [vA x0, vI x1] w mc ms K := by
  refine DC.of ok_M_As_append_c97b9 (ls := [(0, vA x0), (1, vI x1)]) rfl (Nat.le_of_ble_eq_true rfl) ?_
  refine x_aload_nP (some x0) d_As_append_c97b9_0 rfl (?_ : WD _ _ 1 _ _ _ _ _ _)
  obtain ⟨k1, h⟩ := h
  refine x_getI (ref := "java/lang/AbstractStringBuilder") (j := 3) 3 k1 clk_17 (by decide) (qm_3 (i := 209) rfl rfl) (Or.inl rfl) rfl rfl d_As_append_c97b9_1 (y := (wI w x0 3)) rfl (?_ : WD _ _ 4 _ _ _ _ _ _)
  refine x_istore_n (ls' := [(2, vI (wI w x0 3)), (0, vA x0), (1, vI x1)]) d_As_append_c97b9_4 rfl (by decide) rfl (?_ : WD _ _ 5 _ _ _ _ _ _)
  refine x_iload_n d_As_append_c97b9_5 rfl (?_ : WD _ _ 6 _ _ _ _ _ _)
  refine x_iload_n d_As_append_c97b9_6 rfl (?_ : WD _ _ 7 _ _ _ _ _ _)
  refine x_callS (ν := M_In_stringSize) [vI x1] ok_M_In_stringSize oks_M_In_stringSize (qm_4 (i := 107) rfl rfl) np_M_In_stringSize rfl ⟨Nat.le_of_ble_eq_true rfl, Nat.le_of_ble_eq_true rfl⟩ (Nat.le_of_ble_eq_true rfl) rfl d_As_append_c97b9_7 (Nat.zero_le _) (Nat.zero_le _) (DI.k h (fun v3 w2 gw2 h => (?_ : WD _ _ 10 _ _ _ _ _ _)))
  obtain ⟨h4, h⟩ := h
  refine x_iadd d_As_append_c97b9_10 h4 (?_ : WD _ _ 11 _ _ _ _ _ _)
  refine x_istore_n (ls' := [(3, vI ((wI w x0 3) + v3)), (2, vI (wI w x0 3)), (0, vA x0), (1, vI x1)]) d_As_append_c97b9_11 rfl (by decide) rfl (?_ : WD _ _ 12 _ _ _ _ _ _)
  refine x_aload_nP (some x0) d_As_append_c97b9_12 rfl (?_ : WD _ _ 13 _ _ _ _ _ _)
  refine x_iload_n d_As_append_c97b9_13 rfl (?_ : WD _ _ 14 _ _ _ _ _ _)
  obtain ⟨c5, s6, h7, h8, h⟩ := h
  refine x_callU (ν := M_As_ensureCapacityInternal) ⟨"java/lang/AbstractStringBuilder", "ensureCapacityInternal", "(I)V"⟩ "java/lang/AbstractStringBuilder" [vI ((wI w x0 3) + v3)] ok_M_As_ensureCapacityInternal oki_M_As_ensureCapacityInternal (k1.q gw2.k) rfl (sel_pv (by decide) (qm_3 (i := 189) rfl rfl) (by decide +kernel) (qm_4 (i := 8) rfl rfl) (qm_4 (i := 29) rfl rfl) rfl) (qm_10 (i := 175) rfl rfl) (Or.inr (Or.inl rfl)) (by decide) (qm_4 (i := 6) rfl rfl) (show _ = some 1 from by decide +kernel) rfl ⟨Nat.le_of_ble_eq_true rfl, Nat.le_of_ble_eq_true rfl⟩ (Nat.le_of_ble_eq_true rfl) rfl d_As_append_c97b9_14 h7 h8 (DV.k h (fun w9 gw9 h => (?_ : WD _ _ 17 _ _ _ _ _ _)))
  refine x_aload_nP (some x0) d_As_append_c97b9_17 rfl (?_ : WD _ _ 18 _ _ _ _ _ _)
  refine x_callU (ν := M_As_isLatin1) ⟨"java/lang/AbstractStringBuilder", "isLatin1", "()Z"⟩ "java/lang/AbstractStringBuilder" [] ok_M_As_isLatin1 oki_M_As_isLatin1 ((k1.q gw2.k).q gw9.k) rfl (sel_in (qm_4 (i := 29) rfl rfl)) (qm_4 (i := 28) rfl rfl) (Or.inr (Or.inl rfl)) (by decide) (qm_4 (i := 26) rfl rfl) (show _ = some 0 from by decide +kernel) rfl ⟨Nat.le_of_ble_eq_true rfl, Nat.le_of_ble_eq_true rfl⟩ (Nat.le_of_ble_eq_true rfl) rfl d_As_append_c97b9_18 (Nat.zero_le _) (Nat.zero_le _) (DI.k h (fun v12 w11 gw11 h => (?_ : WD _ _ 21 _ _ _ _ _ _)))
  refine x_if_eq 37 d_As_append_c97b9_21 rfl ⟨fun c13 => (?_ : WD _ _ 37 _ _ _ _ _ _), fun c13 => (?_ : WD _ _ 24 _ _ _ _ _ _)⟩
  · replace h := h.1 c13
    exact h.elim
  · replace h := h.2 c13
    refine x_iload_n d_As_append_c97b9_24 rfl (?_ : WD _ _ 25 _ _ _ _ _ _)
    refine x_iload_n d_As_append_c97b9_25 rfl (?_ : WD _ _ 26 _ _ _ _ _ _)
    refine x_aload_nP (some x0) d_As_append_c97b9_26 rfl (?_ : WD _ _ 27 _ _ _ _ _ _)
    refine x_getP (ref := "java/lang/AbstractStringBuilder") (j := 0) 0 (((k1.q gw2.k).q gw9.k).q gw11.k) clk_17 (by decide) (qm_3 (i := 206) rfl rfl) (Or.inl rfl) rfl rfl d_As_append_c97b9_27 (y := (wR w11 x0 0)) rfl (?_ : WD _ _ 30 _ _ _ _ _ _)
    obtain ⟨a14, e15, h⟩ := h
    rw [e15]
    refine x_callS (ν := M_In_getChars) [vI x1, vI ((wI w x0 3) + v3), vA a14] ok_M_In_getChars oks_M_In_getChars (qm_4 (i := 110) rfl rfl) np_M_In_getChars rfl ⟨Nat.le_of_ble_eq_true rfl, Nat.le_of_ble_eq_true rfl⟩ (Nat.le_of_ble_eq_true rfl) rfl d_As_append_c97b9_30 (Nat.zero_le _) (Nat.zero_le _) (DI.k h (fun v17 w16 gw16 h => (?_ : WD _ _ 33 _ _ _ _ _ _)))
    refine x_pop d_As_append_c97b9_33 rfl (?_ : WD _ _ 34 _ _ _ _ _ _)
    refine x_goto 48 d_As_append_c97b9_34 rfl ?_
    refine x_aload_nP (some x0) d_As_append_c97b9_48 rfl (?_ : WD _ _ 49 _ _ _ _ _ _)
    refine x_iload_n d_As_append_c97b9_49 rfl (?_ : WD _ _ 50 _ _ _ _ _ _)
    obtain ⟨k18, h⟩ := h
    refine x_putI (ref := "java/lang/AbstractStringBuilder") (j := 3) 3 k18 clk_17 (by decide) (qm_3 (i := 209) rfl rfl) (Or.inl rfl) (Or.inl rfl) tyJ4_ok rfl nmJ4 d_As_append_c97b9_50 rfl rfl (fun _ => rfl) rfl (?_ : WD _ _ 53 _ _ _ _ _ _)
    refine x_aload_nP (some x0) d_As_append_c97b9_53 rfl (?_ : WD _ _ 54 _ _ _ _ _ _)
    exact x_areturn (some x0) rfl (Or.inl ⟨_, rfl⟩) d_As_append_c97b9_54 h
set_option maxRecDepth 20000 in
theorem e_As_append_cf1ce {G : Gq} {K : Option Nat → Wd → Prop} {w : Wd} {mc ms : Nat} (x0 : Nat) (x1 : Nat) (h : (Is G w x1 (kO 18)) ∧ DI G M_Sg_length [vA x1] w 0 0 (fun v3 w2 => (Is G w2 x0 (kO 17)) ∧ (inR ((wI w2 x0 3) + v3)) ∧ ∃ c6 s7 : Nat, c6 ≤ mc ∧ s7 ≤ ms ∧ (DV G M_As_ensureCapacityInternal [vA x0, vI ((wI w2 x0 3) + v3)] w2 c6 s7 (fun w10 => DV G M_As_putStringAt [vA x0, vI (wI w10 x0 3), vA x1] w10 0 0 (fun w12 => (inR ((wI w12 x0 3) + v3)) ∧ (Ow w12 x0 (kO 17)) ∧ K (some x0) (uI w12 x0 3 ((wI w12 x0 3) + v3))))))) : DP G M_As_append_cf1ce [vA x0, vA x1] w mc ms K := by
  refine DC.of ok_M_As_append_cf1ce (ls := [(0, vA x0), (1, vA x1)]) rfl (Nat.le_of_ble_eq_true rfl) ?_
  refine x_aload_nP (some x1) d_As_append_cf1ce_0 rfl (?_ : WD _ _ 1 _ _ _ _ _ _)
  refine x_ifnonnull (r := some x1) 9 d_As_append_cf1ce_1 rfl ⟨fun hz => absurd hz (by simp), fun _ _ => (?_ : WD _ _ 9 _ _ _ _ _ _)⟩
  refine x_aload_nP (some x1) d_As_append_cf1ce_9 rfl (?_ : WD _ _ 10 _ _ _ _ _ _)
  obtain ⟨k1, h⟩ := h
  refine x_callV (ν := M_Sg_length) [] ok_M_Sg_length okv_M_Sg_length k1 rfl rfl (qm_4 (i := 57) rfl rfl) np_M_Sg_length rfl ⟨Nat.le_of_ble_eq_true rfl, Nat.le_of_ble_eq_true rfl⟩ (Nat.le_of_ble_eq_true rfl) rfl d_As_append_cf1ce_10 (Nat.zero_le _) (Nat.zero_le _) (DI.k h (fun v3 w2 gw2 h => (?_ : WD _ _ 13 _ _ _ _ _ _)))
  refine x_istore_n (ls' := [(2, vI v3), (0, vA x0), (1, vA x1)]) d_As_append_cf1ce_13 rfl (by decide) rfl (?_ : WD _ _ 14 _ _ _ _ _ _)
  refine x_aload_nP (some x0) d_As_append_cf1ce_14 rfl (?_ : WD _ _ 15 _ _ _ _ _ _)
  refine x_aload_nP (some x0) d_As_append_cf1ce_15 rfl (?_ : WD _ _ 16 _ _ _ _ _ _)
  obtain ⟨k4, h⟩ := h
  refine x_getI (ref := "java/lang/AbstractStringBuilder") (j := 3) 3 k4 clk_17 (by decide) (qm_3 (i := 209) rfl rfl) (Or.inl rfl) rfl rfl d_As_append_cf1ce_16 (y := (wI w2 x0 3)) rfl (?_ : WD _ _ 19 _ _ _ _ _ _)
  refine x_iload_n d_As_append_cf1ce_19 rfl (?_ : WD _ _ 20 _ _ _ _ _ _)
  obtain ⟨h5, h⟩ := h
  refine x_iadd d_As_append_cf1ce_20 h5 (?_ : WD _ _ 21 _ _ _ _ _ _)
  obtain ⟨c6, s7, h8, h9, h⟩ := h
  refine x_callU (ν := M_As_ensureCapacityInternal) ⟨"java/lang/AbstractStringBuilder", "ensureCapacityInternal", "(I)V"⟩ "java/lang/AbstractStringBuilder" [vI ((wI w2 x0 3) + v3)] ok_M_As_ensureCapacityInternal oki_M_As_ensureCapacityInternal k4 rfl (sel_pv (by decide) (qm_3 (i := 189) rfl rfl) (by decide +kernel) (qm_4 (i := 8) rfl rfl) (qm_4 (i := 29) rfl rfl) rfl) (qm_10 (i := 175) rfl rfl) (Or.inr (Or.inl rfl)) (by decide) (qm_4 (i := 6) rfl rfl) (show _ = some 1 from by decide +kernel) rfl ⟨Nat.le_of_ble_eq_true rfl, Nat.le_of_ble_eq_true rfl⟩ (Nat.le_of_ble_eq_true rfl) rfl d_As_append_cf1ce_21 h8 h9 (DV.k h (fun w10 gw10 h => (?_ : WD _ _ 24 _ _ _ _ _ _)))
  refine x_aload_nP (some x0) d_As_append_cf1ce_24 rfl (?_ : WD _ _ 25 _ _ _ _ _ _)
  refine x_aload_nP (some x0) d_As_append_cf1ce_25 rfl (?_ : WD _ _ 26 _ _ _ _ _ _)
  refine x_getI (ref := "java/lang/AbstractStringBuilder") (j := 3) 3 (k4.q gw10.k) clk_17 (by decide) (qm_3 (i := 209) rfl rfl) (Or.inl rfl) rfl rfl d_As_append_cf1ce_26 (y := (wI w10 x0 3)) rfl (?_ : WD _ _ 29 _ _ _ _ _ _)
  refine x_aload_nP (some x1) d_As_append_cf1ce_29 rfl (?_ : WD _ _ 30 _ _ _ _ _ _)
  refine x_callU (ν := M_As_putStringAt) ⟨"java/lang/AbstractStringBuilder", "putStringAt", "(ILjava/lang/String;)V"⟩ "java/lang/AbstractStringBuilder" [vI (wI w10 x0 3), vA x1] ok_M_As_putStringAt oki_M_As_putStringAt (k4.q gw10.k) rfl (sel_pv (by decide) (qm_3 (i := 189) rfl rfl) (by decide +kernel) (qm_4 (i := 68) rfl rfl) (qm_4 (i := 29) rfl rfl) rfl) (qm_10 (i := 177) rfl rfl) (Or.inr (Or.inl rfl)) (by decide) (qm_4 (i := 66) rfl rfl) (show _ = some 2 from by decide +kernel) rfl ⟨Nat.le_of_ble_eq_true rfl, Nat.le_of_ble_eq_true rfl⟩ (Nat.le_of_ble_eq_true rfl) rfl d_As_append_cf1ce_30 (Nat.zero_le _) (Nat.zero_le _) (DV.k h (fun w12 gw12 h => (?_ : WD _ _ 33 _ _ _ _ _ _)))
  refine x_aload_nP (some x0) d_As_append_cf1ce_33 rfl (?_ : WD _ _ 34 _ _ _ _ _ _)
  refine x_dup d_As_append_cf1ce_34 rfl (?_ : WD _ _ 35 _ _ _ _ _ _)
  refine x_getI (ref := "java/lang/AbstractStringBuilder") (j := 3) 3 ((k4.q gw10.k).q gw12.k) clk_17 (by decide) (qm_3 (i := 209) rfl rfl) (Or.inl rfl) rfl rfl d_As_append_cf1ce_35 (y := (wI w12 x0 3)) rfl (?_ : WD _ _ 38 _ _ _ _ _ _)
  refine x_iload_n d_As_append_cf1ce_38 rfl (?_ : WD _ _ 39 _ _ _ _ _ _)
  obtain ⟨h14, h⟩ := h
  refine x_iadd d_As_append_cf1ce_39 h14 (?_ : WD _ _ 40 _ _ _ _ _ _)
  obtain ⟨k15, h⟩ := h
  refine x_putI (ref := "java/lang/AbstractStringBuilder") (j := 3) 3 k15 clk_17 (by decide) (qm_3 (i := 209) rfl rfl) (Or.inl rfl) (Or.inl rfl) tyJ4_ok rfl nmJ4 d_As_append_cf1ce_40 rfl rfl (fun _ => rfl) rfl (?_ : WD _ _ 43 _ _ _ _ _ _)
  refine x_aload_nP (some x0) d_As_append_cf1ce_43 rfl (?_ : WD _ _ 44 _ _ _ _ _ _)
  exact x_areturn (some x0) rfl (Or.inl ⟨_, rfl⟩) d_As_append_cf1ce_44 h
set_option maxRecDepth 20000 in
theorem e_Sg_init_81219 {G : Gq} {K : Wd → Prop} {w : Wd} {mc ms : Nat} (x0 : Nat) (x1 : Nat) (h : ∃ c1 s2 : Nat, c1 ≤ mc ∧ s2 ≤ ms ∧ (DV G M_Sg_init_db425 [vA x0, vA x1, vP none] w c1 s2 (fun w5 => K w5))) : DV G M_Sg_init_81219 [vA x0, vA x1] w mc ms K := by
  refine DC.of ok_M_Sg_init_81219 (ls := [(0, vA x0), (1, vA x1)]) rfl (Nat.le_of_ble_eq_true rfl) ?_
  refine x_aload_nP (some x0) d_Sg_init_81219_0 rfl (?_ : WD _ _ 1 _ _ _ _ _ _)
  refine x_aload_nP (some x1) d_Sg_init_81219_1 rfl (?_ : WD _ _ 2 _ _ _ _ _ _)
  refine x_null d_Sg_init_81219_2 (?_ : WD _ _ 3 _ _ _ _ _ _)
  obtain ⟨c1, s2, h3, h4, h⟩ := h
  refine x_callI (ν := M_Sg_init_db425) [vA x1, vP none] ok_M_Sg_init_db425 oki_M_Sg_init_db425 rfl rfl (qm_4 (i := 191) rfl rfl) np_M_Sg_init_db425 rfl ⟨Nat.le_of_ble_eq_true rfl, Nat.le_of_ble_eq_true rfl⟩ (Nat.le_of_ble_eq_true rfl) rfl d_Sg_init_81219_3 h3 h4 (DV.k h (fun w5 gw5 h => (?_ : WD _ _ 6 _ _ _ _ _ _)))
  exact x_return rfl d_Sg_init_81219_6 h
set_option maxRecDepth 20000 in
theorem ed_Sg_coder {G : Gq} {K : Int → Wd → Prop} {w : Wd} {mc ms : Nat} (x0 : Nat) (h : (Is G w x0 (kO 18)) ∧ ((wI w x0 1) = 0) ∧ K 0 w) : DI G M_Sg_coder [vA x0] w mc ms K := by
  refine DC.of ok_M_Sg_coder (ls := [(0, vA x0)]) rfl (Nat.le_of_ble_eq_true rfl) ?_
  refine x_getsI 1 (List.mem_of_getElem? (i := 5) rfl) (by decide) (qm_4 (i := 65) rfl rfl) d_Sg_coder_0 (?_ : WD _ _ 3 _ _ _ _ _ _)
  refine x_if_eq 13 d_Sg_coder_3 rfl ⟨fun hc => absurd hc (by decide), fun hc => (?_ : WD _ _ 6 _ _ _ _ _ _)⟩
  refine x_aload_nP (some x0) d_Sg_coder_6 rfl (?_ : WD _ _ 7 _ _ _ _ _ _)
  obtain ⟨k1, h⟩ := h
  obtain ⟨h2, h⟩ := h
  refine x_getI (ref := "java/lang/String") (j := 1) 1 k1 clk_18 (by decide) (qm_4 (i := 225) rfl rfl) (Or.inl rfl) rfl rfl d_Sg_coder_7 (y := 0) (h2) (?_ : WD _ _ 10 _ _ _ _ _ _)
  refine x_goto 14 d_Sg_coder_10 rfl ?_
  exact x_breturn rfl d_Sg_coder_14 (by decide) (by decide) h
set_option maxRecDepth 20000 in
theorem ed_Sg_isLatin1 {G : Gq} {K : Int → Wd → Prop} {w : Wd} {mc ms : Nat} (x0 : Nat) (h : (Is G w x0 (kO 18)) ∧ ((wI w x0 1) = 0) ∧ K 1 w) : DI G M_Sg_isLatin1 [vA x0] w mc ms K := by
  refine DC.of ok_M_Sg_isLatin1 (ls := [(0, vA x0)]) rfl (Nat.le_of_ble_eq_true rfl) ?_
  refine x_getsI 1 (List.mem_of_getElem? (i := 5) rfl) (by decide) (qm_4 (i := 65) rfl rfl) d_Sg_isLatin1_0 (?_ : WD _ _ 3 _ _ _ _ _ _)
  refine x_if_eq 17 d_Sg_isLatin1_3 rfl ⟨fun hc => absurd hc (by decide), fun hc => (?_ : WD _ _ 6 _ _ _ _ _ _)⟩
  refine x_aload_nP (some x0) d_Sg_isLatin1_6 rfl (?_ : WD _ _ 7 _ _ _ _ _ _)
  obtain ⟨k1, h⟩ := h
  obtain ⟨h2, h⟩ := h
  refine x_getI (ref := "java/lang/String") (j := 1) 1 k1 clk_18 (by decide) (qm_4 (i := 225) rfl rfl) (Or.inl rfl) rfl rfl d_Sg_isLatin1_7 (y := 0) (h2) (?_ : WD _ _ 10 _ _ _ _ _ _)
  refine x_if_ne 17 d_Sg_isLatin1_10 rfl ⟨fun hc => absurd rfl hc, fun hc => (?_ : WD _ _ 13 _ _ _ _ _ _)⟩
  refine x_iconst d_Sg_isLatin1_13 (by decide) (?_ : WD _ _ 14 _ _ _ _ _ _)
  refine x_goto 18 d_Sg_isLatin1_14 rfl ?_
  exact x_zreturn rfl d_Sg_isLatin1_18 (by decide) h
set_option maxRecDepth 20000 in
theorem ed_Sl_charAt {G : Gq} {K : Int → Wd → Prop} {w : Wd} {mc ms : Nat} (x0 : Nat) (x1 : Int) (h : ∃ n1 : Nat, ((Is G w x0 (kA 1 n1)) ∧ (inR (n1 : Int)) ∧ DV G M_Sg_checkIndex [vI x1, vI (n1 : Int)] w 0 0 (fun w4 => (0 ≤ x1) ∧ (x1 < (n1 : Int)) ∧ (0 ≤ ((iandq (wI w4 x0 x1) 255) % 65536)) ∧ (((iandq (wI w4 x0 x1) 255) % 65536) < 65536) ∧ K ((iandq (wI w4 x0 x1) 255) % 65536) w4))) : DI G M_Sl_charAt [vA x0, vI x1] w mc ms K := by
  refine DC.of ok_M_Sl_charAt (ls := [(0, vA x0), (1, vI x1)]) rfl (Nat.le_of_ble_eq_true rfl) ?_
  refine x_iload_n d_Sl_charAt_0 rfl (?_ : WD _ _ 1 _ _ _ _ _ _)
  refine x_aload_nP (some x0) d_Sl_charAt_1 rfl (?_ : WD _ _ 2 _ _ _ _ _ _)
  obtain ⟨n1, h⟩ := h
  obtain ⟨k2, h⟩ := h
  obtain ⟨h3, h⟩ := h
  refine x_alenA k2 (fun _ => rfl) h3 d_Sl_charAt_2 (?_ : WD _ _ 3 _ _ _ _ _ _)
  refine x_callS (ν := M_Sg_checkIndex) [vI x1, vI (n1 : Int)] ok_M_Sg_checkIndex oks_M_Sg_checkIndex (qm_5 (i := 42) rfl rfl) np_M_Sg_checkIndex rfl ⟨Nat.le_of_ble_eq_true rfl, Nat.le_of_ble_eq_true rfl⟩ (Nat.le_of_ble_eq_true rfl) rfl d_Sl_charAt_3 (Nat.zero_le _) (Nat.zero_le _) (DV.k h (fun w4 gw4 h => (?_ : WD _ _ 6 _ _ _ _ _ _)))
  refine x_aload_nP (some x0) d_Sl_charAt_6 rfl (?_ : WD _ _ 7 _ _ _ _ _ _)
  refine x_iload_n d_Sl_charAt_7 rfl (?_ : WD _ _ 8 _ _ _ _ _ _)
  obtain ⟨h6, h⟩ := h
  obtain ⟨h7, h⟩ := h
  refine x_bald (k2.q gw4.k) d_Sl_charAt_8 h6 h7 (y := (wI w4 x0 x1)) rfl (?_ : WD _ _ 9 _ _ _ _ _ _)
  refine x_sipush d_Sl_charAt_9 (by decide) (by decide) (?_ : WD _ _ 12 _ _ _ _ _ _)
  refine x_iandq d_Sl_charAt_12 (?_ : WD _ _ 13 _ _ _ _ _ _)
  refine x_i2c d_Sl_charAt_13 (?_ : WD _ _ 14 _ _ _ _ _ _)
  obtain ⟨h8, h⟩ := h
  obtain ⟨h9, h⟩ := h
  exact x_creturn rfl d_Sl_charAt_14 h8 h9 h
set_option maxRecDepth 20000 in
theorem e_Al_add_7a177 {G : Gq} {K : Wd → Prop} {w : Wd} {mc ms : Nat} (x0 : Nat) (x1 : Int) (x2 : Nat) (h : (Is G w x0 (kO 14)) ∧ DV G M_Al_rangeCheckForAdd [vA x0, vI x1] w 0 0 (fun w2 => (inR ((wI w2 x0 0) + 1)) ∧ (Ow w2 x0 (kO 14)) ∧ ∃ a6 : Nat, (wR w2 x0 1) = some a6 ∧ (∃ n8 : Nat, ((Is G (uI w2 x0 0 ((wI w2 x0 0) + 1)) a6 (kR 4 n8)) ∧ (inR (n8 : Int)) ∧ (¬ (wI w2 x0 2) = (n8 : Int) → (inR (x1 + 1)) ∧ (inR ((wI w2 x0 2) - x1)) ∧ (Ow (uI w2 x0 0 ((wI w2 x0 0) + 1)) a6 (kR 4 n8)) ∧ (0 ≤ x1) ∧ (0 ≤ (x1 + 1)) ∧ (0 ≤ ((wI w2 x0 2) - x1)) ∧ (x1 + ((wI w2 x0 2) - x1) ≤ (n8 : Int)) ∧ ((x1 + 1) + ((wI w2 x0 2) - x1) ≤ (n8 : Int)) ∧ (∀ i : Int, 0 ≤ i → i < ((wI w2 x0 2) - x1) → ∀ y : Nat, wR (uI w2 x0 0 ((wI w2 x0 0) + 1)) a6 (x1 + i) = some y → Els G (uI w2 x0 0 ((wI w2 x0 0) + 1)) y "java/lang/Object") ∧ (x1 < (n8 : Int)) ∧ (Els G (uG (uI w2 x0 0 ((wI w2 x0 0) + 1)) a6 (cpyR (uI w2 x0 0 ((wI w2 x0 0) + 1)) a6 a6 x1 (x1 + 1) ((wI w2 x0 2) - x1))) x2 "java/lang/Object") ∧ (inR ((wI w2 x0 2) + 1)) ∧ K (uI (uR (uG (uI w2 x0 0 ((wI w2 x0 0) + 1)) a6 (cpyR (uI w2 x0 0 ((wI w2 x0 0) + 1)) a6 a6 x1 (x1 + 1) ((wI w2 x0 2) - x1))) a6 x1 (some x2)) x0 2 ((wI w2 x0 2) + 1))) ∧ ((wI w2 x0 2) = (n8 : Int) → ∃ c24 s25 : Nat, c24 ≤ mc ∧ s25 ≤ ms ∧ (DP G M_Al_grow_d5877 [vA x0] (uI w2 x0 0 ((wI w2 x0 0) + 1)) c24 s25 (fun v29 w28 => (inR (x1 + 1)) ∧ (inR ((wI w2 x0 2) - x1)) ∧ ∃ a32 : Nat, v29 = some a32 ∧ (∃ n34 : Nat, ((Ow w28 a32 (kR 4 n34)) ∧ (0 ≤ x1) ∧ (0 ≤ (x1 + 1)) ∧ (0 ≤ ((wI w2 x0 2) - x1)) ∧ (x1 + ((wI w2 x0 2) - x1) ≤ (n34 : Int)) ∧ ((x1 + 1) + ((wI w2 x0 2) - x1) ≤ (n34 : Int)) ∧ (∀ i : Int, 0 ≤ i → i < ((wI w2 x0 2) - x1) → ∀ y : Nat, wR w28 a32 (x1 + i) = some y → Els G w28 y "java/lang/Object") ∧ (x1 < (n34 : Int)) ∧ (Els G (uG w28 a32 (cpyR w28 a32 a32 x1 (x1 + 1) ((wI w2 x0 2) - x1))) x2 "java/lang/Object") ∧ (inR ((wI w2 x0 2) + 1)) ∧ K (uI (uR (uG w28 a32 (cpyR w28 a32 a32 x1 (x1 + 1) ((wI w2 x0 2) - x1))) a32 x1 (some x2)) x0 2 ((wI w2 x0 2) + 1))))))))))) : DV G M_Al_add_7a177 [vA x0, vI x1, vA x2] w mc ms K := by
  refine DC.of ok_M_Al_add_7a177 (ls := [(0, vA x0), (1, vI x1), (2, vA x2)]) rfl (Nat.le_of_ble_eq_true rfl) ?_
  refine x_aload_nP (some x0) d_Al_add_7a177_0 rfl (?_ : WD _ _ 1 _ _ _ _ _ _)
  refine x_iload_n d_Al_add_7a177_1 rfl (?_ : WD _ _ 2 _ _ _ _ _ _)
  obtain ⟨k1, h⟩ := h
  refine x_callV (ν := M_Al_rangeCheckForAdd) [vI x1] ok_M_Al_rangeCheckForAdd okv_M_Al_rangeCheckForAdd k1 rfl rfl (qm_10 (i := 138) rfl rfl) np_M_Al_rangeCheckForAdd rfl ⟨Nat.le_of_ble_eq_true rfl, Nat.le_of_ble_eq_true rfl⟩ (Nat.le_of_ble_eq_true rfl) rfl d_Al_add_7a177_2 (Nat.zero_le _) (Nat.zero_le _) (DV.k h (fun w2 gw2 h => (?_ : WD _ _ 5 _ _ _ _ _ _)))
  refine x_aload_nP (some x0) d_Al_add_7a177_5 rfl (?_ : WD _ _ 6 _ _ _ _ _ _)
  refine x_dup d_Al_add_7a177_6 rfl (?_ : WD _ _ 7 _ _ _ _ _ _)
  refine x_getI (ref := "java/util/ArrayList") (j := 0) 0 (k1.q gw2.k) clk_14 (by decide) (qm_2 (i := 146) rfl rfl) (Or.inr (qm_2 (i := 145) rfl rfl)) rfl rfl d_Al_add_7a177_7 (y := (wI w2 x0 0)) rfl (?_ : WD _ _ 10 _ _ _ _ _ _)
  refine x_iconst d_Al_add_7a177_10 (by decide) (?_ : WD _ _ 11 _ _ _ _ _ _)
  obtain ⟨h4, h⟩ := h
  refine x_iadd d_Al_add_7a177_11 h4 (?_ : WD _ _ 12 _ _ _ _ _ _)
  obtain ⟨k5, h⟩ := h
  refine x_putI (ref := "java/util/ArrayList") (j := 0) 0 k5 clk_14 (by decide) (qm_2 (i := 146) rfl rfl) (Or.inr (qm_2 (i := 145) rfl rfl)) (Or.inl rfl) tyJx4a65c_ok rfl nmJx4a65c d_Al_add_7a177_12 rfl rfl (fun _ => rfl) rfl (?_ : WD _ _ 15 _ _ _ _ _ _)
  refine x_aload_nP (some x0) d_Al_add_7a177_15 rfl (?_ : WD _ _ 16 _ _ _ _ _ _)
  refine x_getI (ref := "java/util/ArrayList") (j := 2) 2 k5.is clk_14 (by decide) (qm_2 (i := 142) rfl rfl) (Or.inl rfl) rfl rfl d_Al_add_7a177_16 (y := (wI w2 x0 2)) (wI_uI_j (by decide)) (?_ : WD _ _ 19 _ _ _ _ _ _)
  refine x_dup d_Al_add_7a177_19 rfl (?_ : WD _ _ 20 _ _ _ _ _ _)
  refine x_istore_n (ls' := [(3, vI (wI w2 x0 2)), (0, vA x0), (1, vI x1), (2, vA x2)]) d_Al_add_7a177_20 rfl (by decide) rfl (?_ : WD _ _ 21 _ _ _ _ _ _)
  refine x_aload_nP (some x0) d_Al_add_7a177_21 rfl (?_ : WD _ _ 22 _ _ _ _ _ _)
  refine x_getP (ref := "java/util/ArrayList") (j := 1) 1 k5.is clk_14 (by decide) (qm_2 (i := 139) rfl rfl) (Or.inl rfl) rfl rfl d_Al_add_7a177_22 (y := (wR w2 x0 1)) rfl (?_ : WD _ _ 25 _ _ _ _ _ _)
  refine x_dup d_Al_add_7a177_25 rfl (?_ : WD _ _ 26 _ _ _ _ _ _)
  refine x_astoreP (wR w2 x0 1) (ls' := [(4, vP (wR w2 x0 1)), (3, vI (wI w2 x0 2)), (0, vA x0), (1, vI x1), (2, vA x2)]) d_Al_add_7a177_26 (by decide) rfl (?_ : WD _ _ 28 _ _ _ _ _ _)
  obtain ⟨a6, e7, h⟩ := h
  rw [e7]
  obtain ⟨n8, h⟩ := h
  obtain ⟨k9, h⟩ := h
  obtain ⟨h10, h⟩ := h
  refine x_alenR k9 (Or.inr (fun _ => rfl)) (fun h => absurd h (by decide)) h10 d_Al_add_7a177_28 (?_ : WD _ _ 29 _ _ _ _ _ _)
  refine x_icmp_ne 38 d_Al_add_7a177_29 rfl ⟨fun c11 => (?_ : WD _ _ 38 _ _ _ _ _ _), fun c11 => (?_ : WD _ _ 32 _ _ _ _ _ _)⟩
  · replace h := h.1 c11
    refine x_aloadP (some a6) d_Al_add_7a177_38 rfl (?_ : WD _ _ 40 _ _ _ _ _ _)
    refine x_iload_n d_Al_add_7a177_40 rfl (?_ : WD _ _ 41 _ _ _ _ _ _)
    refine x_aloadP (some a6) d_Al_add_7a177_41 rfl (?_ : WD _ _ 43 _ _ _ _ _ _)
    refine x_iload_n d_Al_add_7a177_43 rfl (?_ : WD _ _ 44 _ _ _ _ _ _)
    refine x_iconst d_Al_add_7a177_44 (by decide) (?_ : WD _ _ 45 _ _ _ _ _ _)
    obtain ⟨h12, h⟩ := h
    refine x_iadd d_Al_add_7a177_45 h12 (?_ : WD _ _ 46 _ _ _ _ _ _)
    refine x_iload_n d_Al_add_7a177_46 rfl (?_ : WD _ _ 47 _ _ _ _ _ _)
    refine x_iload_n d_Al_add_7a177_47 rfl (?_ : WD _ _ 48 _ _ _ _ _ _)
    obtain ⟨h13, h⟩ := h
    refine x_isub d_Al_add_7a177_48 h13 (?_ : WD _ _ 49 _ _ _ _ _ _)
    obtain ⟨k14, h⟩ := h
    obtain ⟨h15, h⟩ := h
    obtain ⟨h16, h⟩ := h
    obtain ⟨h17, h⟩ := h
    obtain ⟨h18, h⟩ := h
    obtain ⟨h19, h⟩ := h
    obtain ⟨h20, h⟩ := h
    refine x_copyR k14.is k14 k14.1 (qm_10 (i := 142) rfl rfl) (qm_3 (i := 169) rfl rfl) (qm_3 (i := 168) rfl rfl) (qm_1 (i := 25) rfl rfl) h15 h16 h17 h18 h19 h20 ⟨Nat.le_of_ble_eq_true rfl, Nat.le_of_ble_eq_true rfl⟩ d_Al_add_7a177_49 (?_ : WD _ _ 52 _ _ _ _ _ _)
    refine x_aloadP (some a6) d_Al_add_7a177_52 rfl (?_ : WD _ _ 54 _ _ _ _ _ _)
    refine x_iload_n d_Al_add_7a177_54 rfl (?_ : WD _ _ 55 _ _ _ _ _ _)
    refine x_aload_nP (some x2) d_Al_add_7a177_55 rfl (?_ : WD _ _ 56 _ _ _ _ _ _)
    obtain ⟨h21, h⟩ := h
    obtain ⟨h22, h⟩ := h
    refine x_aast k14 (fun _ => rfl) h22 d_Al_add_7a177_56 h15 h21 (?_ : WD _ _ 57 _ _ _ _ _ _)
    refine x_aload_nP (some x0) d_Al_add_7a177_57 rfl (?_ : WD _ _ 58 _ _ _ _ _ _)
    refine x_iload_n d_Al_add_7a177_58 rfl (?_ : WD _ _ 59 _ _ _ _ _ _)
    refine x_iconst d_Al_add_7a177_59 (by decide) (?_ : WD _ _ 60 _ _ _ _ _ _)
    obtain ⟨h23, h⟩ := h
    refine x_iadd d_Al_add_7a177_60 h23 (?_ : WD _ _ 61 _ _ _ _ _ _)
    refine x_putI (ref := "java/util/ArrayList") (j := 2) 2 k5 clk_14 (by decide) (qm_2 (i := 142) rfl rfl) (Or.inl rfl) (Or.inl rfl) tyJx4a65c_ok rfl nmJx4a65c d_Al_add_7a177_61 rfl rfl (fun _ => rfl) rfl (?_ : WD _ _ 64 _ _ _ _ _ _)
    exact x_return rfl d_Al_add_7a177_64 h
  · replace h := h.2 c11
    refine x_aload_nP (some x0) d_Al_add_7a177_32 rfl (?_ : WD _ _ 33 _ _ _ _ _ _)
    obtain ⟨c24, s25, h26, h27, h⟩ := h
    refine x_callV (ν := M_Al_grow_d5877) [] ok_M_Al_grow_d5877 okv_M_Al_grow_d5877 k5.is rfl rfl (qm_3 (i := 105) rfl rfl) np_M_Al_grow_d5877 rfl ⟨Nat.le_of_ble_eq_true rfl, Nat.le_of_ble_eq_true rfl⟩ (Nat.le_of_ble_eq_true rfl) rfl d_Al_add_7a177_33 h26 h27 (DP.k h (fun v29 w28 gw28 h => (?_ : WD _ _ 36 _ _ _ _ _ _)))
    refine x_astoreP v29 (ls' := [(4, vP v29), (3, vI (wI w2 x0 2)), (0, vA x0), (1, vI x1), (2, vA x2)]) d_Al_add_7a177_36 (by decide) rfl (?_ : WD _ _ 38 _ _ _ _ _ _)
    refine x_aloadP v29 d_Al_add_7a177_38 rfl (?_ : WD _ _ 40 _ _ _ _ _ _)
    refine x_iload_n d_Al_add_7a177_40 rfl (?_ : WD _ _ 41 _ _ _ _ _ _)
    refine x_aloadP v29 d_Al_add_7a177_41 rfl (?_ : WD _ _ 43 _ _ _ _ _ _)
    refine x_iload_n d_Al_add_7a177_43 rfl (?_ : WD _ _ 44 _ _ _ _ _ _)
    refine x_iconst d_Al_add_7a177_44 (by decide) (?_ : WD _ _ 45 _ _ _ _ _ _)
    obtain ⟨h30, h⟩ := h
    refine x_iadd d_Al_add_7a177_45 h30 (?_ : WD _ _ 46 _ _ _ _ _ _)
    refine x_iload_n d_Al_add_7a177_46 rfl (?_ : WD _ _ 47 _ _ _ _ _ _)
    refine x_iload_n d_Al_add_7a177_47 rfl (?_ : WD _ _ 48 _ _ _ _ _ _)
    obtain ⟨h31, h⟩ := h
    refine x_isub d_Al_add_7a177_48 h31 (?_ : WD _ _ 49 _ _ _ _ _ _)
    obtain ⟨a32, e33, h⟩ := h
    rw [e33]
    obtain ⟨n34, h⟩ := h
    obtain ⟨k35, h⟩ := h
    obtain ⟨h36, h⟩ := h
    obtain ⟨h37, h⟩ := h
    obtain ⟨h38, h⟩ := h
    obtain ⟨h39, h⟩ := h
    obtain ⟨h40, h⟩ := h
    obtain ⟨h41, h⟩ := h
    refine x_copyR k35.is k35 k35.1 (qm_10 (i := 142) rfl rfl) (qm_3 (i := 169) rfl rfl) (qm_3 (i := 168) rfl rfl) (qm_1 (i := 25) rfl rfl) h36 h37 h38 h39 h40 h41 ⟨Nat.le_of_ble_eq_true rfl, Nat.le_of_ble_eq_true rfl⟩ d_Al_add_7a177_49 (?_ : WD _ _ 52 _ _ _ _ _ _)
    refine x_aloadP (some a32) d_Al_add_7a177_52 rfl (?_ : WD _ _ 54 _ _ _ _ _ _)
    refine x_iload_n d_Al_add_7a177_54 rfl (?_ : WD _ _ 55 _ _ _ _ _ _)
    refine x_aload_nP (some x2) d_Al_add_7a177_55 rfl (?_ : WD _ _ 56 _ _ _ _ _ _)
    obtain ⟨h42, h⟩ := h
    obtain ⟨h43, h⟩ := h
    refine x_aast k35 (fun _ => rfl) h43 d_Al_add_7a177_56 h36 h42 (?_ : WD _ _ 57 _ _ _ _ _ _)
    refine x_aload_nP (some x0) d_Al_add_7a177_57 rfl (?_ : WD _ _ 58 _ _ _ _ _ _)
    refine x_iload_n d_Al_add_7a177_58 rfl (?_ : WD _ _ 59 _ _ _ _ _ _)
    refine x_iconst d_Al_add_7a177_59 (by decide) (?_ : WD _ _ 60 _ _ _ _ _ _)
    obtain ⟨h44, h⟩ := h
    refine x_iadd d_Al_add_7a177_60 h44 (?_ : WD _ _ 61 _ _ _ _ _ _)
    refine x_putI (ref := "java/util/ArrayList") (j := 2) 2 (k5.q gw28.k) clk_14 (by decide) (qm_2 (i := 142) rfl rfl) (Or.inl rfl) (Or.inl rfl) tyJx4a65c_ok rfl nmJx4a65c d_Al_add_7a177_61 rfl rfl (fun _ => rfl) rfl (?_ : WD _ _ 64 _ _ _ _ _ _)
    exact x_return rfl d_Al_add_7a177_64 h
set_option maxRecDepth 20000 in
theorem e_Al_indexOfRangeC16 {G : Gq} {K : Int → Wd → Prop} {w : Wd} {mc ms : Nat} (x0 : Nat) (x1 : Nat) (x2 : Int) (x3 : Int) (h : (Is G w x0 (kO 14)) ∧ WD G M_Al_indexOfRange 42 [(1, vA x1), (3, vI x3), (4, vP (wR w x0 1)), (5, vI x2)] [] w mc ms (yI K)) : DI G M_Al_indexOfRange [vA x0, vA x1, vI x2, vI x3] w mc ms K := by
  refine DC.of ok_M_Al_indexOfRange (ls := [(0, vA x0), (1, vA x1), (2, vI x2), (3, vI x3)]) rfl (Nat.le_of_ble_eq_true rfl) ?_
  refine x_aload_nP (some x0) d_Al_indexOfRange_0 rfl (?_ : WD _ _ 1 _ _ _ _ _ _)
  obtain ⟨k1, h⟩ := h
  refine x_getP (ref := "java/util/ArrayList") (j := 1) 1 k1 clk_14 (by decide) (qm_2 (i := 139) rfl rfl) (Or.inl rfl) rfl rfl d_Al_indexOfRange_1 (y := (wR w x0 1)) rfl (?_ : WD _ _ 4 _ _ _ _ _ _)
  refine x_astoreP (wR w x0 1) (ls' := [(4, vP (wR w x0 1)), (0, vA x0), (1, vA x1), (2, vI x2), (3, vI x3)]) d_Al_indexOfRange_4 (by decide) rfl (?_ : WD _ _ 6 _ _ _ _ _ _)
  refine x_aload_nP (some x1) d_Al_indexOfRange_6 rfl (?_ : WD _ _ 7 _ _ _ _ _ _)
  refine x_ifnonnull (r := some x1) 39 d_Al_indexOfRange_7 rfl ⟨fun hz => absurd hz (by simp), fun _ _ => (?_ : WD _ _ 39 _ _ _ _ _ _)⟩
  refine x_iload_n d_Al_indexOfRange_39 rfl (?_ : WD _ _ 40 _ _ _ _ _ _)
  refine x_istore (ls' := [(5, vI x2), (4, vP (wR w x0 1)), (0, vA x0), (1, vA x1), (2, vI x2), (3, vI x3)]) d_Al_indexOfRange_40 (by decide) rfl (?_ : WD _ _ 42 _ _ _ _ _ _)
  refine x_pick (ls' := [(1, vA x1), (3, vI x3), (4, vP (wR w x0 1)), (5, vI x2)]) [3, 5, 1, 0] rfl ?_
  exact h
set_option maxRecDepth 20000 in
theorem l_Al_indexOfRangeC16_2 {G : Gq} {K : Int → Wd → Prop} {w : Wd} {rc rs : Nat} (x1 : Nat) (x3 : Int) (x4 : Option Nat) (x5 : Int) (h : (x3 ≤ x5 → K (-1) w) ∧ (¬ x3 ≤ x5 → ∃ a3 : Nat, x4 = some a3 ∧ (∃ n5 : Nat, ((Is G w a3 (kR 4 n5)) ∧ (0 ≤ x5) ∧ (x5 < (n5 : Int)) ∧ ∃ a9 : Nat, (wR w a3 x5) = some a9 ∧ ((Is G w x1 (kO 16)) ∧ DI G M_In_equals [vA x1, vA a9] w 0 0 (fun v13 w12 => (v13 = 0 → (inR (x5 + 1)) ∧ WD G M_Al_indexOfRange 42 [(1, vA x1), (3, vI x3), (4, vP (some a3)), (5, vI (x5 + 1))] [] w12 rc rs (yI K)) ∧ (¬ v13 = 0 → K x5 w12))))))) : WD G M_Al_indexOfRange 42 [(1, vA x1), (3, vI x3), (4, vP x4), (5, vI x5)] [] w rc rs (yI K) := by
  refine x_iload d_Al_indexOfRange_42 rfl (?_ : WD _ _ 44 _ _ _ _ _ _)
  refine x_iload_n d_Al_indexOfRange_44 rfl (?_ : WD _ _ 45 _ _ _ _ _ _)
  refine x_icmp_ge 69 d_Al_indexOfRange_45 rfl ⟨fun c2 => (?_ : WD _ _ 69 _ _ _ _ _ _), fun c2 => (?_ : WD _ _ 48 _ _ _ _ _ _)⟩
  · replace h := h.1 c2
    refine x_iconst d_Al_indexOfRange_69 (by decide) (?_ : WD _ _ 70 _ _ _ _ _ _)
    exact x_ireturn rfl d_Al_indexOfRange_70 h
  · replace h := h.2 c2
    refine x_aload_nP (some x1) d_Al_indexOfRange_48 rfl (?_ : WD _ _ 49 _ _ _ _ _ _)
    refine x_aloadP x4 d_Al_indexOfRange_49 rfl (?_ : WD _ _ 51 _ _ _ _ _ _)
    refine x_iload d_Al_indexOfRange_51 rfl (?_ : WD _ _ 53 _ _ _ _ _ _)
    obtain ⟨a3, e4, h⟩ := h
    rw [e4]
    obtain ⟨n5, h⟩ := h
    obtain ⟨k6, h⟩ := h
    obtain ⟨h7, h⟩ := h
    obtain ⟨h8, h⟩ := h
    refine x_aald k6 (fun _ => rfl) d_Al_indexOfRange_53 h7 h8 (y := (wR w a3 x5)) rfl (?_ : WD _ _ 54 _ _ _ _ _ _)
    obtain ⟨a9, e10, h⟩ := h
    rw [e10]
    obtain ⟨k11, h⟩ := h
    refine x_callU (ν := M_In_equals) ⟨"java/lang/Object", "equals", "(Ljava/lang/Object;)Z"⟩ "java/lang/Object" [vA a9] ok_M_In_equals oki_M_In_equals k11 rfl (sel_in (qm_6 (i := 51) rfl rfl)) (qm_6 (i := 36) rfl rfl) (Or.inl (by decide +kernel)) (by decide) (qm_6 (i := 34) rfl rfl) (show _ = some 1 from by decide +kernel) rfl ⟨Nat.le_of_ble_eq_true rfl, Nat.le_of_ble_eq_true rfl⟩ (Nat.le_of_ble_eq_true rfl) rfl d_Al_indexOfRange_54 (Nat.zero_le _) (Nat.zero_le _) (DI.k h (fun v13 w12 gw12 h => (?_ : WD _ _ 57 _ _ _ _ _ _)))
    refine x_if_eq 63 d_Al_indexOfRange_57 rfl ⟨fun c14 => (?_ : WD _ _ 63 _ _ _ _ _ _), fun c14 => (?_ : WD _ _ 60 _ _ _ _ _ _)⟩
    · replace h := h.1 c14
      obtain ⟨h15, h⟩ := h
      refine x_iinc (ls' := [(5, vI (x5 + 1)), (1, vA x1), (3, vI x3), (4, vA a3)]) d_Al_indexOfRange_63 rfl h15 (by decide) rfl (?_ : WD _ _ 66 _ _ _ _ _ _)
      refine x_goto 42 d_Al_indexOfRange_66 rfl ?_
      refine x_pick (ls' := [(1, vA x1), (3, vI x3), (4, vP (some a3)), (5, vI (x5 + 1))]) [1, 2, 3, 0] rfl ?_
      exact h
    · replace h := h.2 c14
      refine x_iload d_Al_indexOfRange_60 rfl (?_ : WD _ _ 62 _ _ _ _ _ _)
      exact x_ireturn rfl d_Al_indexOfRange_62 h
set_option maxRecDepth 20000 in
theorem e_Al_indexOfRangeC12 {G : Gq} {K : Int → Wd → Prop} {w : Wd} {mc ms : Nat} (x0 : Nat) (x1 : Nat) (x2 : Int) (x3 : Int) (h : (Is G w x0 (kO 14)) ∧ WD G M_Al_indexOfRange 42 [(1, vA x1), (3, vI x3), (4, vP (wR w x0 1)), (5, vI x2)] [] w mc ms (yI K)) : DI G M_Al_indexOfRange [vA x0, vA x1, vI x2, vI x3] w mc ms K := by
  refine DC.of ok_M_Al_indexOfRange (ls := [(0, vA x0), (1, vA x1), (2, vI x2), (3, vI x3)]) rfl (Nat.le_of_ble_eq_true rfl) ?_
  refine x_aload_nP (some x0) d_Al_indexOfRange_0 rfl (?_ : WD _ _ 1 _ _ _ _ _ _)
  obtain ⟨k1, h⟩ := h
  refine x_getP (ref := "java/util/ArrayList") (j := 1) 1 k1 clk_14 (by decide) (qm_2 (i := 139) rfl rfl) (Or.inl rfl) rfl rfl d_Al_indexOfRange_1 (y := (wR w x0 1)) rfl (?_ : WD _ _ 4 _ _ _ _ _ _)
  refine x_astoreP (wR w x0 1) (ls' := [(4, vP (wR w x0 1)), (0, vA x0), (1, vA x1), (2, vI x2), (3, vI x3)]) d_Al_indexOfRange_4 (by decide) rfl (?_ : WD _ _ 6 _ _ _ _ _ _)
  refine x_aload_nP (some x1) d_Al_indexOfRange_6 rfl (?_ : WD _ _ 7 _ _ _ _ _ _)
  refine x_ifnonnull (r := some x1) 39 d_Al_indexOfRange_7 rfl ⟨fun hz => absurd hz (by simp), fun _ _ => (?_ : WD _ _ 39 _ _ _ _ _ _)⟩
  refine x_iload_n d_Al_indexOfRange_39 rfl (?_ : WD _ _ 40 _ _ _ _ _ _)
  refine x_istore (ls' := [(5, vI x2), (4, vP (wR w x0 1)), (0, vA x0), (1, vA x1), (2, vI x2), (3, vI x3)]) d_Al_indexOfRange_40 (by decide) rfl (?_ : WD _ _ 42 _ _ _ _ _ _)
  refine x_pick (ls' := [(1, vA x1), (3, vI x3), (4, vP (wR w x0 1)), (5, vI x2)]) [3, 5, 1, 0] rfl ?_
  exact h
set_option maxRecDepth 20000 in
theorem l_Al_indexOfRangeC12_2 {G : Gq} {K : Int → Wd → Prop} {w : Wd} {rc rs : Nat} (x1 : Nat) (x3 : Int) (x4 : Option Nat) (x5 : Int) (h : (x3 ≤ x5 → K (-1) w) ∧ (¬ x3 ≤ x5 → ∃ a3 : Nat, x4 = some a3 ∧ (∃ n5 : Nat, ((Is G w a3 (kR 4 n5)) ∧ (0 ≤ x5) ∧ (x5 < (n5 : Int)) ∧ (Is G w x1 (kO 12)) ∧ ((if some x1 = (wR w a3 x5) then (1 : Int) else 0) = 0 → (inR (x5 + 1)) ∧ WD G M_Al_indexOfRange 42 [(1, vA x1), (3, vI x3), (4, vP (some a3)), (5, vI (x5 + 1))] [] w rc rs (yI K)) ∧ (¬ (if some x1 = (wR w a3 x5) then (1 : Int) else 0) = 0 → K x5 w))))) : WD G M_Al_indexOfRange 42 [(1, vA x1), (3, vI x3), (4, vP x4), (5, vI x5)] [] w rc rs (yI K) := by
  refine x_iload d_Al_indexOfRange_42 rfl (?_ : WD _ _ 44 _ _ _ _ _ _)
  refine x_iload_n d_Al_indexOfRange_44 rfl (?_ : WD _ _ 45 _ _ _ _ _ _)
  refine x_icmp_ge 69 d_Al_indexOfRange_45 rfl ⟨fun c2 => (?_ : WD _ _ 69 _ _ _ _ _ _), fun c2 => (?_ : WD _ _ 48 _ _ _ _ _ _)⟩
  · replace h := h.1 c2
    refine x_iconst d_Al_indexOfRange_69 (by decide) (?_ : WD _ _ 70 _ _ _ _ _ _)
    exact x_ireturn rfl d_Al_indexOfRange_70 h
  · replace h := h.2 c2
    refine x_aload_nP (some x1) d_Al_indexOfRange_48 rfl (?_ : WD _ _ 49 _ _ _ _ _ _)
    refine x_aloadP x4 d_Al_indexOfRange_49 rfl (?_ : WD _ _ 51 _ _ _ _ _ _)
    refine x_iload d_Al_indexOfRange_51 rfl (?_ : WD _ _ 53 _ _ _ _ _ _)
    obtain ⟨a3, e4, h⟩ := h
    rw [e4]
    obtain ⟨n5, h⟩ := h
    obtain ⟨k6, h⟩ := h
    obtain ⟨h7, h⟩ := h
    obtain ⟨h8, h⟩ := h
    refine x_aald k6 (fun _ => rfl) d_Al_indexOfRange_53 h7 h8 (y := (wR w a3 x5)) rfl (?_ : WD _ _ 54 _ _ _ _ _ _)
    obtain ⟨k9, h⟩ := h
    refine x_objEq (wR w a3 x5) k9 rfl (qm_6 (i := 34) rfl rfl) (qm_6 (i := 36) rfl rfl) (qm_6 (i := 49) rfl rfl) (qm_6 (i := 35) rfl rfl) (qm_6 (i := 65) rfl rfl) ⟨Nat.le_of_ble_eq_true rfl, Nat.le_of_ble_eq_true rfl⟩ d_Al_indexOfRange_54 (?_ : WD _ _ 57 _ _ _ _ _ _)
    refine x_if_eq 63 d_Al_indexOfRange_57 rfl ⟨fun c10 => (?_ : WD _ _ 63 _ _ _ _ _ _), fun c10 => (?_ : WD _ _ 60 _ _ _ _ _ _)⟩
    · replace h := h.1 c10
      obtain ⟨h11, h⟩ := h
      refine x_iinc (ls' := [(5, vI (x5 + 1)), (1, vA x1), (3, vI x3), (4, vA a3)]) d_Al_indexOfRange_63 rfl h11 (by decide) rfl (?_ : WD _ _ 66 _ _ _ _ _ _)
      refine x_goto 42 d_Al_indexOfRange_66 rfl ?_
      refine x_pick (ls' := [(1, vA x1), (3, vI x3), (4, vP (some a3)), (5, vI (x5 + 1))]) [1, 2, 3, 0] rfl ?_
      exact h
    · replace h := h.2 c10
      refine x_iload d_Al_indexOfRange_60 rfl (?_ : WD _ _ 62 _ _ _ _ _ _)
      exact x_ireturn rfl d_Al_indexOfRange_62 h
set_option maxRecDepth 20000 in
theorem e_Ac_init {G : Gq} {K : Wd → Prop} {w : Wd} {mc ms : Nat} (x0 : Nat) (h : K w) : DV G M_Ac_init [vA x0] w mc ms K := by
  refine DC.of ok_M_Ac_init (ls := [(0, vA x0)]) rfl (Nat.le_of_ble_eq_true rfl) ?_
  refine x_aload_nP (some x0) d_Ac_init_0 rfl (?_ : WD _ _ 1 _ _ _ _ _ _)
  refine x_obj d_Ac_init_1 (qm_2 (i := 136) rfl rfl) (qm_1 (i := 58) rfl rfl) (qm_1 (i := 59) rfl rfl) ⟨Nat.le_of_ble_eq_true rfl, Nat.le_of_ble_eq_true rfl⟩ (?_ : WD _ _ 4 _ _ _ _ _ _)
  exact x_return rfl d_Ac_init_4 h
set_option maxRecDepth 20000 in
theorem ed_Pc_checkIndex {G : Gq} {K : Int → Wd → Prop} {w : Wd} {mc ms : Nat} (x0 : Int) (x1 : Int) (x2 : Value) (h : (x0 < 0 → False) ∧ (¬ x0 < 0 → (x0 < x1 → K x0 w) ∧ (¬ x0 < x1 → False))) : DI G M_Pc_checkIndex [vI x0, vI x1, vO x2] w mc ms K := by
  refine DC.of ok_M_Pc_checkIndex (ls := [(0, vI x0), (1, vI x1), (2, vO x2)]) rfl (Nat.le_of_ble_eq_true rfl) ?_
  refine x_iload_n d_Pc_checkIndex_0 rfl (?_ : WD _ _ 1 _ _ _ _ _ _)
  refine x_if_lt 9 d_Pc_checkIndex_1 rfl ⟨fun c1 => (?_ : WD _ _ 9 _ _ _ _ _ _), fun c1 => (?_ : WD _ _ 4 _ _ _ _ _ _)⟩
  · replace h := h.1 c1
    exact h.elim
  · replace h := h.2 c1
    refine x_iload_n d_Pc_checkIndex_4 rfl (?_ : WD _ _ 5 _ _ _ _ _ _)
    refine x_iload_n d_Pc_checkIndex_5 rfl (?_ : WD _ _ 6 _ _ _ _ _ _)
    refine x_icmp_lt 16 d_Pc_checkIndex_6 rfl ⟨fun c2 => (?_ : WD _ _ 16 _ _ _ _ _ _), fun c2 => (?_ : WD _ _ 9 _ _ _ _ _ _)⟩
    · replace h := h.1 c2
      refine x_iload_n d_Pc_checkIndex_16 rfl (?_ : WD _ _ 17 _ _ _ _ _ _)
      exact x_ireturn rfl d_Pc_checkIndex_17 h
    · replace h := h.2 c2
      exact h.elim
set_option maxRecDepth 20000 in
theorem e_As_length {G : Gq} {K : Int → Wd → Prop} {w : Wd} {mc ms : Nat} (x0 : Nat) (h : (Is G w x0 (kO 17)) ∧ K (wI w x0 3) w) : DI G M_As_length [vA x0] w mc ms K := by
  refine DC.of ok_M_As_length (ls := [(0, vA x0)]) rfl (Nat.le_of_ble_eq_true rfl) ?_
  refine x_aload_nP (some x0) d_As_length_0 rfl (?_ : WD _ _ 1 _ _ _ _ _ _)
  obtain ⟨k1, h⟩ := h
  refine x_getI (ref := "java/lang/AbstractStringBuilder") (j := 3) 3 k1 clk_17 (by decide) (qm_3 (i := 209) rfl rfl) (Or.inl rfl) rfl rfl d_As_length_1 (y := (wI w x0 3)) rfl (?_ : WD _ _ 4 _ _ _ _ _ _)
  exact x_ireturn rfl d_As_length_4 h
set_option maxRecDepth 20000 in
theorem e_As_append_3fe6f {G : Gq} {K : Option Nat → Wd → Prop} {w : Wd} {mc ms : Nat} (x0 : Nat) (x1 : Int) (h : (Is G w x0 (kO 17)) ∧ (inR ((wI w x0 3) + 1)) ∧ ∃ c3 s4 : Nat, c3 ≤ mc ∧ s4 ≤ ms ∧ (DV G M_As_ensureCapacityInternal [vA x0, vI ((wI w x0 3) + 1)] w c3 s4 (fun w7 => DI G M_As_isLatin1 [vA x0] w7 0 0 (fun v10 w9 => (v10 = 0 → False) ∧ (¬ v10 = 0 → DI G M_Sl_canEncode [vI x1] w9 0 0 (fun v13 w12 => (v13 = 0 → False) ∧ (¬ v13 = 0 → (inR ((wI w12 x0 3) + 1)) ∧ (Ow w12 x0 (kO 17)) ∧ ∃ a17 : Nat, (wR w12 x0 0) = some a17 ∧ (∃ n19 : Nat, ((Ow (uI w12 x0 3 ((wI w12 x0 3) + 1)) a17 (kA 1 n19)) ∧ (0 ≤ (wI w12 x0 3)) ∧ ((wI w12 x0 3) < (n19 : Int)) ∧ (-128 ≤ ((x1 + 128) % 256 - 128)) ∧ (((x1 + 128) % 256 - 128) ≤ 127) ∧ K (some x0) (uI (uI w12 x0 3 ((wI w12 x0 3) + 1)) a17 (wI w12 x0 3) ((x1 + 128) % 256 - 128))))))))))) : DP G M_As_append_3fe6f [vA x0, vI x1] w mc ms K := by
  refine DC.of ok_M_As_append_3fe6f (ls := [(0, vA x0), (1, vI x1)]) rfl (Nat.le_of_ble_eq_true rfl) ?_
  refine x_aload_nP (some x0) d_As_append_3fe6f_0 rfl (?_ : WD _ _ 1 _ _ _ _ _ _)
  refine x_aload_nP (some x0) d_As_append_3fe6f_1 rfl (?_ : WD _ _ 2 _ _ _ _ _ _)
  obtain ⟨k1, h⟩ := h
  refine x_getI (ref := "java/lang/AbstractStringBuilder") (j := 3) 3 k1 clk_17 (by decide) (qm_3 (i := 209) rfl rfl) (Or.inl rfl) rfl rfl d_As_append_3fe6f_2 (y := (wI w x0 3)) rfl (?_ : WD _ _ 5 _ _ _ _ _ _)
  refine x_iconst d_As_append_3fe6f_5 (by decide) (?_ : WD _ _ 6 _ _ _ _ _ _)
  obtain ⟨h2, h⟩ := h
  refine x_iadd d_As_append_3fe6f_6 h2 (?_ : WD _ _ 7 _ _ _ _ _ _)
  obtain ⟨c3, s4, h5, h6, h⟩ := h
  refine x_callU (ν := M_As_ensureCapacityInternal) ⟨"java/lang/AbstractStringBuilder", "ensureCapacityInternal", "(I)V"⟩ "java/lang/AbstractStringBuilder" [vI ((wI w x0 3) + 1)] ok_M_As_ensureCapacityInternal oki_M_As_ensureCapacityInternal k1 rfl (sel_pv (by decide) (qm_3 (i := 189) rfl rfl) (by decide +kernel) (qm_4 (i := 8) rfl rfl) (qm_4 (i := 29) rfl rfl) rfl) (qm_10 (i := 175) rfl rfl) (Or.inr (Or.inl rfl)) (by decide) (qm_4 (i := 6) rfl rfl) (show _ = some 1 from by decide +kernel) rfl ⟨Nat.le_of_ble_eq_true rfl, Nat.le_of_ble_eq_true rfl⟩ (Nat.le_of_ble_eq_true rfl) rfl d_As_append_3fe6f_7 h5 h6 (DV.k h (fun w7 gw7 h => (?_ : WD _ _ 10 _ _ _ _ _ _)))
  refine x_aload_nP (some x0) d_As_append_3fe6f_10 rfl (?_ : WD _ _ 11 _ _ _ _ _ _)
  refine x_callU (ν := M_As_isLatin1) ⟨"java/lang/AbstractStringBuilder", "isLatin1", "()Z"⟩ "java/lang/AbstractStringBuilder" [] ok_M_As_isLatin1 oki_M_As_isLatin1 (k1.q gw7.k) rfl (sel_in (qm_4 (i := 29) rfl rfl)) (qm_4 (i := 28) rfl rfl) (Or.inr (Or.inl rfl)) (by decide) (qm_4 (i := 26) rfl rfl) (show _ = some 0 from by decide +kernel) rfl ⟨Nat.le_of_ble_eq_true rfl, Nat.le_of_ble_eq_true rfl⟩ (Nat.le_of_ble_eq_true rfl) rfl d_As_append_3fe6f_11 (Nat.zero_le _) (Nat.zero_le _) (DI.k h (fun v10 w9 gw9 h => (?_ : WD _ _ 14 _ _ _ _ _ _)))
  refine x_if_eq 45 d_As_append_3fe6f_14 rfl ⟨fun c11 => (?_ : WD _ _ 45 _ _ _ _ _ _), fun c11 => (?_ : WD _ _ 17 _ _ _ _ _ _)⟩
  · replace h := h.1 c11
    exact h.elim
  · replace h := h.2 c11
    refine x_iload_n d_As_append_3fe6f_17 rfl (?_ : WD _ _ 18 _ _ _ _ _ _)
    refine x_callS (ν := M_Sl_canEncode) [vI x1] ok_M_Sl_canEncode oks_M_Sl_canEncode (qm_4 (i := 132) rfl rfl) np_M_Sl_canEncode rfl ⟨Nat.le_of_ble_eq_true rfl, Nat.le_of_ble_eq_true rfl⟩ (Nat.le_of_ble_eq_true rfl) rfl d_As_append_3fe6f_18 (Nat.zero_le _) (Nat.zero_le _) (DI.k h (fun v13 w12 gw12 h => (?_ : WD _ _ 21 _ _ _ _ _ _)))
    refine x_if_eq 45 d_As_append_3fe6f_21 rfl ⟨fun c14 => (?_ : WD _ _ 45 _ _ _ _ _ _), fun c14 => (?_ : WD _ _ 24 _ _ _ _ _ _)⟩
    · replace h := h.1 c14
      exact h.elim
    · replace h := h.2 c14
      refine x_aload_nP (some x0) d_As_append_3fe6f_24 rfl (?_ : WD _ _ 25 _ _ _ _ _ _)
      refine x_getP (ref := "java/lang/AbstractStringBuilder") (j := 0) 0 (((k1.q gw7.k).q gw9.k).q gw12.k) clk_17 (by decide) (qm_3 (i := 206) rfl rfl) (Or.inl rfl) rfl rfl d_As_append_3fe6f_25 (y := (wR w12 x0 0)) rfl (?_ : WD _ _ 28 _ _ _ _ _ _)
      refine x_aload_nP (some x0) d_As_append_3fe6f_28 rfl (?_ : WD _ _ 29 _ _ _ _ _ _)
      refine x_dup d_As_append_3fe6f_29 rfl (?_ : WD _ _ 30 _ _ _ _ _ _)
      refine x_getI (ref := "java/lang/AbstractStringBuilder") (j := 3) 3 (((k1.q gw7.k).q gw9.k).q gw12.k) clk_17 (by decide) (qm_3 (i := 209) rfl rfl) (Or.inl rfl) rfl rfl d_As_append_3fe6f_30 (y := (wI w12 x0 3)) rfl (?_ : WD _ _ 33 _ _ _ _ _ _)
      refine x_dup_x1 d_As_append_3fe6f_33 rfl rfl (?_ : WD _ _ 34 _ _ _ _ _ _)
      refine x_iconst d_As_append_3fe6f_34 (by decide) (?_ : WD _ _ 35 _ _ _ _ _ _)
      obtain ⟨h15, h⟩ := h
      refine x_iadd d_As_append_3fe6f_35 h15 (?_ : WD _ _ 36 _ _ _ _ _ _)
      obtain ⟨k16, h⟩ := h
      refine x_putI (ref := "java/lang/AbstractStringBuilder") (j := 3) 3 k16 clk_17 (by decide) (qm_3 (i := 209) rfl rfl) (Or.inl rfl) (Or.inl rfl) tyJ4_ok rfl nmJ4 d_As_append_3fe6f_36 rfl rfl (fun _ => rfl) rfl (?_ : WD _ _ 39 _ _ _ _ _ _)
      refine x_iload_n d_As_append_3fe6f_39 rfl (?_ : WD _ _ 40 _ _ _ _ _ _)
      refine x_i2b d_As_append_3fe6f_40 (?_ : WD _ _ 41 _ _ _ _ _ _)
      obtain ⟨a17, e18, h⟩ := h
      rw [e18]
      obtain ⟨n19, h⟩ := h
      obtain ⟨k20, h⟩ := h
      obtain ⟨h21, h⟩ := h
      obtain ⟨h22, h⟩ := h
      obtain ⟨h23, h⟩ := h
      obtain ⟨h24, h⟩ := h
      refine x_bast k20 d_As_append_3fe6f_41 h21 h22 h23 h24 (?_ : WD _ _ 42 _ _ _ _ _ _)
      refine x_goto 75 d_As_append_3fe6f_42 rfl ?_
      refine x_aload_nP (some x0) d_As_append_3fe6f_75 rfl (?_ : WD _ _ 76 _ _ _ _ _ _)
      exact x_areturn (some x0) rfl (Or.inl ⟨_, rfl⟩) d_As_append_3fe6f_76 h
set_option maxRecDepth 20000 in
theorem e_Al_grow_d5877 {G : Gq} {K : Option Nat → Wd → Prop} {w : Wd} {mc ms : Nat} (x0 : Nat) (h : (Is G w x0 (kO 14)) ∧ (inR ((wI w x0 2) + 1)) ∧ ∃ c3 s4 : Nat, c3 ≤ mc ∧ s4 ≤ ms ∧ (DP G M_Al_grow_92f84 [vA x0, vI ((wI w x0 2) + 1)] w c3 s4 (fun v8 w7 => K v8 w7))) : DP G M_Al_grow_d5877 [vA x0] w mc ms K := by
  refine DC.of ok_M_Al_grow_d5877 (ls := [(0, vA x0)]) rfl (Nat.le_of_ble_eq_true rfl) ?_
  refine x_aload_nP (some x0) d_Al_grow_d5877_0 rfl (?_ : WD _ _ 1 _ _ _ _ _ _)
  refine x_aload_nP (some x0) d_Al_grow_d5877_1 rfl (?_ : WD _ _ 2 _ _ _ _ _ _)
  obtain ⟨k1, h⟩ := h
  refine x_getI (ref := "java/util/ArrayList") (j := 2) 2 k1 clk_14 (by decide) (qm_2 (i := 142) rfl rfl) (Or.inl rfl) rfl rfl d_Al_grow_d5877_2 (y := (wI w x0 2)) rfl (?_ : WD _ _ 5 _ _ _ _ _ _)
  refine x_iconst d_Al_grow_d5877_5 (by decide) (?_ : WD _ _ 6 _ _ _ _ _ _)
  obtain ⟨h2, h⟩ := h
  refine x_iadd d_Al_grow_d5877_6 h2 (?_ : WD _ _ 7 _ _ _ _ _ _)
  obtain ⟨c3, s4, h5, h6, h⟩ := h
  refine x_callV (ν := M_Al_grow_92f84) [vI ((wI w x0 2) + 1)] ok_M_Al_grow_92f84 okv_M_Al_grow_92f84 k1 rfl rfl (qm_3 (i := 109) rfl rfl) np_M_Al_grow_92f84 rfl ⟨Nat.le_of_ble_eq_true rfl, Nat.le_of_ble_eq_true rfl⟩ (Nat.le_of_ble_eq_true rfl) rfl d_Al_grow_d5877_7 h5 h6 (DP.k h (fun v8 w7 gw7 h => (?_ : WD _ _ 10 _ _ _ _ _ _)))
  exact x_areturn v8 rfl (Or.inr ⟨_, rfl⟩) d_Al_grow_d5877_10 h
set_option maxRecDepth 20000 in
theorem e_Ab_init {G : Gq} {K : Wd → Prop} {w : Wd} {mc ms : Nat} (x0 : Nat) (h : DV G M_Ac_init [vA x0] w 0 0 (fun w1 => K w1)) : DV G M_Ab_init [vA x0] w mc ms K := by
  refine DC.of ok_M_Ab_init (ls := [(0, vA x0)]) rfl (Nat.le_of_ble_eq_true rfl) ?_
  refine x_aload_nP (some x0) d_Ab_init_0 rfl (?_ : WD _ _ 1 _ _ _ _ _ _)
  refine x_callI (ν := M_Ac_init) [] ok_M_Ac_init oki_M_Ac_init rfl rfl (qm_6 (i := 125) rfl rfl) np_M_Ac_init rfl ⟨Nat.le_of_ble_eq_true rfl, Nat.le_of_ble_eq_true rfl⟩ (Nat.le_of_ble_eq_true rfl) rfl d_Ab_init_1 (Nat.zero_le _) (Nat.zero_le _) (DV.k h (fun w1 gw1 h => (?_ : WD _ _ 4 _ _ _ _ _ _)))
  exact x_return rfl d_Ab_init_4 h
set_option maxRecDepth 20000 in
theorem e_Lm_init {G : Gq} {K : Wd → Prop} {w : Wd} {mc ms : Nat} (x0 : Nat) (x1 : Int) (x2 : UInt32) (h : DV G M_Hm_init [vA x0, vI x1, vO (.float x2)] w 0 0 (fun w1 => (Ow w1 x0 (kO 20)) ∧ K (uI (uI w1 x0 11 0) x0 10 0))) : DV G M_Lm_init [vA x0, vI x1, vO (.float x2)] w mc ms K := by
  refine DC.of ok_M_Lm_init (ls := [(0, vA x0), (1, vI x1), (2, vO (.float x2))]) rfl (Nat.le_of_ble_eq_true rfl) ?_
  refine x_aload_nP (some x0) d_Lm_init_0 rfl (?_ : WD _ _ 1 _ _ _ _ _ _)
  refine x_iload_n d_Lm_init_1 rfl (?_ : WD _ _ 2 _ _ _ _ _ _)
  refine x_fload_n d_Lm_init_2 rfl (?_ : WD _ _ 3 _ _ _ _ _ _)
  refine x_callI (ν := M_Hm_init) [vI x1, vO (.float x2)] ok_M_Hm_init oki_M_Hm_init rfl rfl (qm_6 (i := 131) rfl rfl) np_M_Hm_init rfl ⟨Nat.le_of_ble_eq_true rfl, Nat.le_of_ble_eq_true rfl⟩ (Nat.le_of_ble_eq_true rfl) rfl d_Lm_init_3 (Nat.zero_le _) (Nat.zero_le _) (DV.k h (fun w1 gw1 h => (?_ : WD _ _ 6 _ _ _ _ _ _)))
  refine x_aload_nP (some x0) d_Lm_init_6 rfl (?_ : WD _ _ 7 _ _ _ _ _ _)
  refine x_iconst d_Lm_init_7 (by decide) (?_ : WD _ _ 8 _ _ _ _ _ _)
  obtain ⟨k3, h⟩ := h
  refine x_putI (ref := "java/util/LinkedHashMap") (j := 11) 11 k3 clk_20 (by decide) (qm_6 (i := 154) rfl rfl) (Or.inl rfl) (Or.inl rfl) tyX28_ok rfl nmX28 d_Lm_init_8 rfl rfl (fun _ => rfl) rfl (?_ : WD _ _ 11 _ _ _ _ _ _)
  refine x_aload_nP (some x0) d_Lm_init_11 rfl (?_ : WD _ _ 12 _ _ _ _ _ _)
  refine x_iconst d_Lm_init_12 (by decide) (?_ : WD _ _ 13 _ _ _ _ _ _)
  refine x_putI (ref := "java/util/LinkedHashMap") (j := 10) 10 k3 clk_20 (by decide) (qm_6 (i := 153) rfl rfl) (Or.inl rfl) (Or.inr ⟨rfl, rfl, rfl⟩) tyX28_ok rfl nmX28 d_Lm_init_13 rfl rfl (fun _ => by decide +kernel) (by decide +kernel) (?_ : WD _ _ 16 _ _ _ _ _ _)
  exact x_return rfl d_Lm_init_16 h
set_option maxRecDepth 20000 in
theorem e_Lm_sequencedKeySet {G : Gq} {K : Option Nat → Wd → Prop} {w : Wd} {mc ms : Nat} (x0 : Nat) (h : (Is G w x0 (kO 20)) ∧ ((wR w x0 6) = none → (1 ≤ mc) ∧ (2 ≤ ms) ∧ ∀ q6 : Nat, Fr G w q6 → (DV G M_Lq_init [vA q6, vA x0, vI 0] (uN w q6 (kO 22)) 0 0 (fun w8 => (Ow w8 x0 (kO 20)) ∧ K (some q6) (uR w8 x0 6 (some q6))))) ∧ (∀ a2 : Nat, (wR w x0 6) = some a2 → False)) : DP G M_Lm_sequencedKeySet [vA x0] w mc ms K := by
  refine DC.of ok_M_Lm_sequencedKeySet (ls := [(0, vA x0)]) rfl (Nat.le_of_ble_eq_true rfl) ?_
  refine x_aload_nP (some x0) d_Lm_sequencedKeySet_0 rfl (?_ : WD _ _ 1 _ _ _ _ _ _)
  obtain ⟨k1, h⟩ := h
  refine x_getP (ref := "java/util/LinkedHashMap") (j := 6) 6 k1 clk_20 (by decide) (qm_6 (i := 168) rfl rfl) (Or.inr (qm_6 (i := 169) rfl rfl)) rfl rfl d_Lm_sequencedKeySet_1 (y := (wR w x0 6)) rfl (?_ : WD _ _ 4 _ _ _ _ _ _)
  refine x_astore_nP (wR w x0 6) (ls' := [(1, vP (wR w x0 6)), (0, vA x0)]) d_Lm_sequencedKeySet_4 rfl (by decide) rfl (?_ : WD _ _ 5 _ _ _ _ _ _)
  refine x_aload_nP (wR w x0 6) d_Lm_sequencedKeySet_5 rfl (?_ : WD _ _ 6 _ _ _ _ _ _)
  refine x_ifnonnull 26 d_Lm_sequencedKeySet_6 rfl ⟨fun e3 => (?_ : WD _ _ 9 _ _ _ _ _ _), fun a2 e3 => (?_ : WD _ _ 26 _ _ _ _ _ _)⟩
  · replace h := h.1 e3
    rw [e3]
    obtain ⟨h4, h⟩ := h
    obtain ⟨h5, h⟩ := h
    refine x_new d_Lm_sequencedKeySet_9 clk_22 tyX27_ok (qm_9 (i := 71) rfl rfl) (qm_9 (i := 72) rfl rfl) (qm_1 (i := 47) rfl rfl) hfd_22 h4 h5 (fun q6 fq6 => (?_ : WD _ _ 12 _ _ _ _ _ _))
    replace h := h q6 fq6
    have k7 : Ow (uN w q6 (kO 22)) q6 (kO 22) := Ow.nw
    refine x_dup d_Lm_sequencedKeySet_12 rfl (?_ : WD _ _ 13 _ _ _ _ _ _)
    refine x_aload_nP (some x0) d_Lm_sequencedKeySet_13 rfl (?_ : WD _ _ 14 _ _ _ _ _ _)
    refine x_iconst d_Lm_sequencedKeySet_14 (by decide) (?_ : WD _ _ 15 _ _ _ _ _ _)
    refine x_callI (ν := M_Lq_init) [vA x0, vI 0] ok_M_Lq_init oki_M_Lq_init rfl rfl (qm_9 (i := 73) rfl rfl) np_M_Lq_init rfl ⟨Nat.le_of_ble_eq_true rfl, Nat.le_of_ble_eq_true rfl⟩ (Nat.le_of_ble_eq_true rfl) rfl d_Lm_sequencedKeySet_15 (Nat.zero_le _) (Nat.zero_le _) (DV.k h (fun w8 gw8 h => (?_ : WD _ _ 18 _ _ _ _ _ _)))
    refine x_astore_nP (some q6) (ls' := [(2, vA q6), (1, vP none), (0, vA x0)]) d_Lm_sequencedKeySet_18 rfl (by decide) rfl (?_ : WD _ _ 19 _ _ _ _ _ _)
    refine x_aload_nP (some x0) d_Lm_sequencedKeySet_19 rfl (?_ : WD _ _ 20 _ _ _ _ _ _)
    refine x_aload_nP (some q6) d_Lm_sequencedKeySet_20 rfl (?_ : WD _ _ 21 _ _ _ _ _ _)
    obtain ⟨k10, h⟩ := h
    refine x_putP (ref := "java/util/LinkedHashMap") (j := 6) (some q6) 6 k10 clk_20 (by decide) (qm_6 (i := 168) rfl rfl) (Or.inr (qm_6 (i := 169) rfl rfl)) (Or.inl rfl) tyX28_ok rfl nmX28 d_Lm_sequencedKeySet_21 rfl rfl (nar_P (by first | exact Or.inl ⟨_, rfl⟩ | exact Or.inr ⟨_, rfl⟩) _) (fit_P (by first | exact Or.inl ⟨_, rfl⟩ | exact Or.inr ⟨_, rfl⟩) _) (?_ : WD _ _ 24 _ _ _ _ _ _)
    refine x_aload_nP (some q6) d_Lm_sequencedKeySet_24 rfl (?_ : WD _ _ 25 _ _ _ _ _ _)
    exact x_areturn (some q6) rfl (Or.inl ⟨_, rfl⟩) d_Lm_sequencedKeySet_25 h
  · replace h := h.2 a2 e3
    rw [e3]
    exact h.elim
set_option maxRecDepth 20000 in
theorem e_Lk_init {G : Gq} {K : Wd → Prop} {w : Wd} {mc ms : Nat} (x0 : Nat) (x1 : Nat) (x2 : Int) (h : DV G M_Lh_init [vA x0, vA x1, vI x2] w 0 0 (fun w1 => K w1)) : DV G M_Lk_init [vA x0, vA x1, vI x2] w mc ms K := by
  refine DC.of ok_M_Lk_init (ls := [(0, vA x0), (1, vA x1), (2, vI x2)]) rfl (Nat.le_of_ble_eq_true rfl) ?_
  refine x_aload_nP (some x0) d_Lk_init_0 rfl (?_ : WD _ _ 1 _ _ _ _ _ _)
  refine x_aload_nP (some x1) d_Lk_init_1 rfl (?_ : WD _ _ 2 _ _ _ _ _ _)
  refine x_iload_n d_Lk_init_2 rfl (?_ : WD _ _ 3 _ _ _ _ _ _)
  refine x_callI (ν := M_Lh_init) [vA x1, vI x2] ok_M_Lh_init oki_M_Lh_init rfl rfl (qm_9 (i := 132) rfl rfl) np_M_Lh_init rfl ⟨Nat.le_of_ble_eq_true rfl, Nat.le_of_ble_eq_true rfl⟩ (Nat.le_of_ble_eq_true rfl) rfl d_Lk_init_3 (Nat.zero_le _) (Nat.zero_le _) (DV.k h (fun w1 gw1 h => (?_ : WD _ _ 6 _ _ _ _ _ _)))
  exact x_return rfl d_Lk_init_6 h
set_option maxRecDepth 20000 in
theorem e_Nu_init {G : Gq} {K : Wd → Prop} {w : Wd} {mc ms : Nat} (x0 : Nat) (h : K w) : DV G M_Nu_init [vA x0] w mc ms K := by
  refine DC.of ok_M_Nu_init (ls := [(0, vA x0)]) rfl (Nat.le_of_ble_eq_true rfl) ?_
  refine x_aload_nP (some x0) d_Nu_init_0 rfl (?_ : WD _ _ 1 _ _ _ _ _ _)
  refine x_obj d_Nu_init_1 (qm_6 (i := 16) rfl rfl) (qm_1 (i := 58) rfl rfl) (qm_1 (i := 59) rfl rfl) ⟨Nat.le_of_ble_eq_true rfl, Nat.le_of_ble_eq_true rfl⟩ (?_ : WD _ _ 4 _ _ _ _ _ _)
  exact x_return rfl d_Nu_init_4 h
set_option maxRecDepth 20000 in
theorem e_Hm_hashC16 {G : Gq} {K : Int → Wd → Prop} {w : Wd} {mc ms : Nat} (x0 : Nat) (h : (Is G w x0 (kO 16)) ∧ DI G M_In_hashCode_8abf5 [vA x0] w 0 0 (fun v3 w2 => K (ixorq v3 (iushrq v3 16)) w2)) : DI G M_Hm_hash [vA x0] w mc ms K := by
  refine DC.of ok_M_Hm_hash (ls := [(0, vA x0)]) rfl (Nat.le_of_ble_eq_true rfl) ?_
  refine x_aload_nP (some x0) d_Hm_hash_0 rfl (?_ : WD _ _ 1 _ _ _ _ _ _)
  refine x_ifnonnull (r := some x0) 8 d_Hm_hash_1 rfl ⟨fun hz => absurd hz (by simp), fun _ _ => (?_ : WD _ _ 8 _ _ _ _ _ _)⟩
  refine x_aload_nP (some x0) d_Hm_hash_8 rfl (?_ : WD _ _ 9 _ _ _ _ _ _)
  obtain ⟨k1, h⟩ := h
  refine x_callU (ν := M_In_hashCode_8abf5) ⟨"java/lang/Object", "hashCode", "()I"⟩ "java/lang/Object" [] ok_M_In_hashCode_8abf5 oki_M_In_hashCode_8abf5 k1 rfl (sel_in (qm_7 (i := 52) rfl rfl)) (qm_7 (i := 37) rfl rfl) (Or.inl (by decide +kernel)) (by decide) (qm_7 (i := 35) rfl rfl) (show _ = some 0 from by decide +kernel) rfl ⟨Nat.le_of_ble_eq_true rfl, Nat.le_of_ble_eq_true rfl⟩ (Nat.le_of_ble_eq_true rfl) rfl d_Hm_hash_9 (Nat.zero_le _) (Nat.zero_le _) (DI.k h (fun v3 w2 gw2 h => (?_ : WD _ _ 12 _ _ _ _ _ _)))
  refine x_dup d_Hm_hash_12 rfl (?_ : WD _ _ 13 _ _ _ _ _ _)
  refine x_istore_n (ls' := [(1, vI v3), (0, vA x0)]) d_Hm_hash_13 rfl (by decide) rfl (?_ : WD _ _ 14 _ _ _ _ _ _)
  refine x_iload_n d_Hm_hash_14 rfl (?_ : WD _ _ 15 _ _ _ _ _ _)
  refine x_bipush d_Hm_hash_15 (by decide) (by decide) (?_ : WD _ _ 17 _ _ _ _ _ _)
  refine x_iushrq d_Hm_hash_17 (?_ : WD _ _ 18 _ _ _ _ _ _)
  refine x_ixorq d_Hm_hash_18 (?_ : WD _ _ 19 _ _ _ _ _ _)
  exact x_ireturn rfl d_Hm_hash_19 h
set_option maxRecDepth 20000 in
theorem e_Hm_putValC16 {G : Gq} {K : Option Nat → Wd → Prop} {w : Wd} {mc ms : Nat} (x0 : Nat) (x1 : Int) (x2 : Nat) (x3 : Nat) (x4 : Int) (x5 : Int) (h : (Is G w x0 (kO 20)) ∧ ((wR w x0 0) = none → ∃ c4 s5 : Nat, c4 ≤ mc ∧ s5 ≤ ms ∧ (DP G M_Hm_resize [vA x0] w c4 s5 (fun v9 w8 => ∃ a10 : Nat, v9 = some a10 ∧ (∃ n12 : Nat, ((Is G w8 a10 (kR 5 n12)) ∧ (inR (n12 : Int)) ∧ (inR ((n12 : Int) - 1)) ∧ (0 ≤ (iandq ((n12 : Int) - 1) x1)) ∧ ((iandq ((n12 : Int) - 1) x1) < (n12 : Int)) ∧ ((wR w8 a10 (iandq ((n12 : Int) - 1) x1)) = none → ∃ c20 s21 : Nat, c20 ≤ (mc - c4) ∧ s21 ≤ (ms - s5) ∧ (DP G M_Lm_newNode [vA x0, vI x1, vA x2, vA x3, vP none] w8 c20 s21 (fun v25 w24 => (Ow w24 a10 (kR 5 n12)) ∧ ∃ a27 : Nat, v25 = some a27 ∧ ((Els G w24 a27 "java/util/HashMap$Node") ∧ (inR ((wI w24 x0 3) + 1)) ∧ (Ow (uR w24 a10 (iandq ((n12 : Int) - 1) x1) (some a27)) x0 (kO 20)) ∧ (inR ((wI w24 x0 2) + 1)) ∧ (((wI w24 x0 2) + 1) ≤ (wI w24 x0 4) → DV G M_Lm_afterNodeInsertion [vA x0, vI x5] (uI (uI (uR w24 a10 (iandq ((n12 : Int) - 1) x1) (some a27)) x0 3 ((wI w24 x0 3) + 1)) x0 2 ((wI w24 x0 2) + 1)) 0 0 (fun w34 => K none w34)) ∧ (¬ ((wI w24 x0 2) + 1) ≤ (wI w24 x0 4) → False))))) ∧ (∀ a18 : Nat, (wR w8 a10 (iandq ((n12 : Int) - 1) x1)) = some a18 → (Is G w8 a18 (kO 21)) ∧ (¬ (wI w8 a18 0) = x1 → False) ∧ ((wI w8 a18 0) = x1 → ((wR w8 a18 1) = (some x2) → (x4 = 0 → (Ow w8 a18 (kO 21)) ∧ DV G M_Lm_afterNodeAccess [vA x0, vA a18] (uR w8 a18 2 (some x3)) 0 0 (fun w41 => K (wR w8 a18 2) w41)) ∧ (¬ x4 = 0 → ((wR w8 a18 2) = none → (Ow w8 a18 (kO 21)) ∧ DV G M_Lm_afterNodeAccess [vA x0, vA a18] (uR w8 a18 2 (some x3)) 0 0 (fun w46 => K none w46)) ∧ (∀ a43 : Nat, (wR w8 a18 2) = some a43 → DV G M_Lm_afterNodeAccess [vA x0, vA a18] w8 0 0 (fun w48 => K (some a43) w48)))) ∧ (¬ (wR w8 a18 1) = (some x2) → False)))))))) ∧ (∀ a2 : Nat, (wR w x0 0) = some a2 → ∃ n50 : Nat, ((Is G w a2 (kR 5 n50)) ∧ (inR (n50 : Int)) ∧ (¬ (n50 : Int) = 0 → (inR ((n50 : Int) - 1)) ∧ (0 ≤ (iandq ((n50 : Int) - 1) x1)) ∧ ((iandq ((n50 : Int) - 1) x1) < (n50 : Int)) ∧ ((wR w a2 (iandq ((n50 : Int) - 1) x1)) = none → ∃ c59 s60 : Nat, c59 ≤ mc ∧ s60 ≤ ms ∧ (DP G M_Lm_newNode [vA x0, vI x1, vA x2, vA x3, vP none] w c59 s60 (fun v64 w63 => (Ow w63 a2 (kR 5 n50)) ∧ ∃ a66 : Nat, v64 = some a66 ∧ ((Els G w63 a66 "java/util/HashMap$Node") ∧ (inR ((wI w63 x0 3) + 1)) ∧ (Ow (uR w63 a2 (iandq ((n50 : Int) - 1) x1) (some a66)) x0 (kO 20)) ∧ (inR ((wI w63 x0 2) + 1)) ∧ (((wI w63 x0 2) + 1) ≤ (wI w63 x0 4) → DV G M_Lm_afterNodeInsertion [vA x0, vI x5] (uI (uI (uR w63 a2 (iandq ((n50 : Int) - 1) x1) (some a66)) x0 3 ((wI w63 x0 3) + 1)) x0 2 ((wI w63 x0 2) + 1)) 0 0 (fun w73 => K none w73)) ∧ (¬ ((wI w63 x0 2) + 1) ≤ (wI w63 x0 4) → False))))) ∧ (∀ a57 : Nat, (wR w a2 (iandq ((n50 : Int) - 1) x1)) = some a57 → (Is G w a57 (kO 21)) ∧ (¬ (wI w a57 0) = x1 → False) ∧ ((wI w a57 0) = x1 → ((wR w a57 1) = (some x2) → (x4 = 0 → (Ow w a57 (kO 21)) ∧ DV G M_Lm_afterNodeAccess [vA x0, vA a57] (uR w a57 2 (some x3)) 0 0 (fun w80 => K (wR w a57 2) w80)) ∧ (¬ x4 = 0 → ((wR w a57 2) = none → (Ow w a57 (kO 21)) ∧ DV G M_Lm_afterNodeAccess [vA x0, vA a57] (uR w a57 2 (some x3)) 0 0 (fun w85 => K none w85)) ∧ (∀ a82 : Nat, (wR w a57 2) = some a82 → DV G M_Lm_afterNodeAccess [vA x0, vA a57] w 0 0 (fun w87 => K (some a82) w87)))) ∧ (¬ (wR w a57 1) = (some x2) → False)))) ∧ ((n50 : Int) = 0 → ∃ c89 s90 : Nat, c89 ≤ mc ∧ s90 ≤ ms ∧ (DP G M_Hm_resize [vA x0] w c89 s90 (fun v94 w93 => ∃ a95 : Nat, v94 = some a95 ∧ (∃ n97 : Nat, ((Is G w93 a95 (kR 5 n97)) ∧ (inR (n97 : Int)) ∧ (inR ((n97 : Int) - 1)) ∧ (0 ≤ (iandq ((n97 : Int) - 1) x1)) ∧ ((iandq ((n97 : Int) - 1) x1) < (n97 : Int)) ∧ ((wR w93 a95 (iandq ((n97 : Int) - 1) x1)) = none → ∃ c105 s106 : Nat, c105 ≤ (mc - c89) ∧ s106 ≤ (ms - s90) ∧ (DP G M_Lm_newNode [vA x0, vI x1, vA x2, vA x3, vP none] w93 c105 s106 (fun v110 w109 => (Ow w109 a95 (kR 5 n97)) ∧ ∃ a112 : Nat, v110 = some a112 ∧ ((Els G w109 a112 "java/util/HashMap$Node") ∧ (inR ((wI w109 x0 3) + 1)) ∧ (Ow (uR w109 a95 (iandq ((n97 : Int) - 1) x1) (some a112)) x0 (kO 20)) ∧ (inR ((wI w109 x0 2) + 1)) ∧ (((wI w109 x0 2) + 1) ≤ (wI w109 x0 4) → DV G M_Lm_afterNodeInsertion [vA x0, vI x5] (uI (uI (uR w109 a95 (iandq ((n97 : Int) - 1) x1) (some a112)) x0 3 ((wI w109 x0 3) + 1)) x0 2 ((wI w109 x0 2) + 1)) 0 0 (fun w119 => K none w119)) ∧ (¬ ((wI w109 x0 2) + 1) ≤ (wI w109 x0 4) → False))))) ∧ (∀ a103 : Nat, (wR w93 a95 (iandq ((n97 : Int) - 1) x1)) = some a103 → (Is G w93 a103 (kO 21)) ∧ (¬ (wI w93 a103 0) = x1 → False) ∧ ((wI w93 a103 0) = x1 → ((wR w93 a103 1) = (some x2) → (x4 = 0 → (Ow w93 a103 (kO 21)) ∧ DV G M_Lm_afterNodeAccess [vA x0, vA a103] (uR w93 a103 2 (some x3)) 0 0 (fun w126 => K (wR w93 a103 2) w126)) ∧ (¬ x4 = 0 → ((wR w93 a103 2) = none → (Ow w93 a103 (kO 21)) ∧ DV G M_Lm_afterNodeAccess [vA x0, vA a103] (uR w93 a103 2 (some x3)) 0 0 (fun w131 => K none w131)) ∧ (∀ a128 : Nat, (wR w93 a103 2) = some a128 → DV G M_Lm_afterNodeAccess [vA x0, vA a103] w93 0 0 (fun w133 => K (some a128) w133)))) ∧ (¬ (wR w93 a103 1) = (some x2) → False))))))))))) : DP G M_Hm_putVal [vA x0, vI x1, vA x2, vA x3, vI x4, vI x5] w mc ms K := by
  refine DC.of ok_M_Hm_putVal (ls := [(0, vA x0), (1, vI x1), (2, vA x2), (3, vA x3), (4, vI x4), (5, vI x5)]) rfl (Nat.le_of_ble_eq_true rfl) ?_
  refine x_aload_nP (some x0) d_Hm_putVal_0 rfl (?_ : WD _ _ 1 _ _ _ _ _ _)
  obtain ⟨k1, h⟩ := h
  refine x_getP (ref := "java/util/HashMap") (j := 0) 0 k1 clk_20 (by decide) (qm_6 (i := 156) rfl rfl) (Or.inl rfl) rfl rfl d_Hm_putVal_1 (y := (wR w x0 0)) rfl (?_ : WD _ _ 4 _ _ _ _ _ _)
  refine x_dup d_Hm_putVal_4 rfl (?_ : WD _ _ 5 _ _ _ _ _ _)
  refine x_astoreP (wR w x0 0) (ls' := [(6, vP (wR w x0 0)), (0, vA x0), (1, vI x1), (2, vA x2), (3, vA x3), (4, vI x4), (5, vI x5)]) d_Hm_putVal_5 (by decide) rfl (?_ : WD _ _ 7 _ _ _ _ _ _)
  refine x_ifnull 19 d_Hm_putVal_7 rfl ⟨fun e3 => (?_ : WD _ _ 19 _ _ _ _ _ _), fun a2 e3 => (?_ : WD _ _ 10 _ _ _ _ _ _)⟩
  · replace h := h.1 e3
    rw [e3]
    refine x_aload_nP (some x0) d_Hm_putVal_19 rfl (?_ : WD _ _ 20 _ _ _ _ _ _)
    obtain ⟨c4, s5, h6, h7, h⟩ := h
    refine x_callU (ν := M_Hm_resize) ⟨"java/util/HashMap", "resize", "()[Ljava/util/HashMap$Node;"⟩ "java/util/HashMap" [] ok_M_Hm_resize oki_M_Hm_resize k1 rfl (sel_in (qm_7 (i := 118) rfl rfl)) (qm_7 (i := 117) rfl rfl) (Or.inr (Or.inl rfl)) (by decide) (qm_7 (i := 115) rfl rfl) (show _ = some 0 from by decide +kernel) rfl ⟨Nat.le_of_ble_eq_true rfl, Nat.le_of_ble_eq_true rfl⟩ (Nat.le_of_ble_eq_true rfl) rfl d_Hm_putVal_20 h6 h7 (DP.k h (fun v9 w8 gw8 h => (?_ : WD _ _ 23 _ _ _ _ _ _)))
    refine x_dup d_Hm_putVal_23 rfl (?_ : WD _ _ 24 _ _ _ _ _ _)
    refine x_astoreP v9 (ls' := [(6, vP v9), (0, vA x0), (1, vI x1), (2, vA x2), (3, vA x3), (4, vI x4), (5, vI x5)]) d_Hm_putVal_24 (by decide) rfl (?_ : WD _ _ 26 _ _ _ _ _ _)
    obtain ⟨a10, e11, h⟩ := h
    rw [e11]
    obtain ⟨n12, h⟩ := h
    obtain ⟨k13, h⟩ := h
    obtain ⟨h14, h⟩ := h
    refine x_alenR k13 (Or.inr (fun _ => rfl)) (fun h => absurd h (by decide)) h14 d_Hm_putVal_26 (?_ : WD _ _ 27 _ _ _ _ _ _)
    refine x_istore (ls' := [(8, vI (n12 : Int)), (6, vA a10), (0, vA x0), (1, vI x1), (2, vA x2), (3, vA x3), (4, vI x4), (5, vI x5)]) d_Hm_putVal_27 (by decide) rfl (?_ : WD _ _ 29 _ _ _ _ _ _)
    refine x_aloadP (some a10) d_Hm_putVal_29 rfl (?_ : WD _ _ 31 _ _ _ _ _ _)
    refine x_iload d_Hm_putVal_31 rfl (?_ : WD _ _ 33 _ _ _ _ _ _)
    refine x_iconst d_Hm_putVal_33 (by decide) (?_ : WD _ _ 34 _ _ _ _ _ _)
    obtain ⟨h15, h⟩ := h
    refine x_isub d_Hm_putVal_34 h15 (?_ : WD _ _ 35 _ _ _ _ _ _)
    refine x_iload_n d_Hm_putVal_35 rfl (?_ : WD _ _ 36 _ _ _ _ _ _)
    refine x_iandq d_Hm_putVal_36 (?_ : WD _ _ 37 _ _ _ _ _ _)
    refine x_dup d_Hm_putVal_37 rfl (?_ : WD _ _ 38 _ _ _ _ _ _)
    refine x_istore (ls' := [(9, vI (iandq ((n12 : Int) - 1) x1)), (8, vI (n12 : Int)), (6, vA a10), (0, vA x0), (1, vI x1), (2, vA x2), (3, vA x3), (4, vI x4), (5, vI x5)]) d_Hm_putVal_38 (by decide) rfl (?_ : WD _ _ 40 _ _ _ _ _ _)
    obtain ⟨h16, h⟩ := h
    obtain ⟨h17, h⟩ := h
    refine x_aald k13 (fun _ => rfl) d_Hm_putVal_40 h16 h17 (y := (wR w8 a10 (iandq ((n12 : Int) - 1) x1))) rfl (?_ : WD _ _ 41 _ _ _ _ _ _)
    refine x_dup d_Hm_putVal_41 rfl (?_ : WD _ _ 42 _ _ _ _ _ _)
    refine x_astoreP (wR w8 a10 (iandq ((n12 : Int) - 1) x1)) (ls' := [(7, vP (wR w8 a10 (iandq ((n12 : Int) - 1) x1))), (9, vI (iandq ((n12 : Int) - 1) x1)), (8, vI (n12 : Int)), (6, vA a10), (0, vA x0), (1, vI x1), (2, vA x2), (3, vA x3), (4, vI x4), (5, vI x5)]) d_Hm_putVal_42 (by decide) rfl (?_ : WD _ _ 44 _ _ _ _ _ _)
    refine x_ifnonnull 63 d_Hm_putVal_44 rfl ⟨fun e19 => (?_ : WD _ _ 47 _ _ _ _ _ _), fun a18 e19 => (?_ : WD _ _ 63 _ _ _ _ _ _)⟩
    · replace h := h.1 e19
      rw [e19]
      refine x_aloadP (some a10) d_Hm_putVal_47 rfl (?_ : WD _ _ 49 _ _ _ _ _ _)
      refine x_iload d_Hm_putVal_49 rfl (?_ : WD _ _ 51 _ _ _ _ _ _)
      refine x_aload_nP (some x0) d_Hm_putVal_51 rfl (?_ : WD _ _ 52 _ _ _ _ _ _)
      refine x_iload_n d_Hm_putVal_52 rfl (?_ : WD _ _ 53 _ _ _ _ _ _)
      refine x_aload_nP (some x2) d_Hm_putVal_53 rfl (?_ : WD _ _ 54 _ _ _ _ _ _)
      refine x_aload_nP (some x3) d_Hm_putVal_54 rfl (?_ : WD _ _ 55 _ _ _ _ _ _)
      refine x_null d_Hm_putVal_55 (?_ : WD _ _ 56 _ _ _ _ _ _)
      obtain ⟨c20, s21, h22, h23, h⟩ := h
      refine x_callU (ν := M_Lm_newNode) ⟨"java/util/HashMap", "newNode", "(ILjava/lang/Object;Ljava/lang/Object;Ljava/util/HashMap$Node;)Ljava/util/HashMap$Node;"⟩ "java/util/HashMap" [vI x1, vA x2, vA x3, vP none] ok_M_Lm_newNode oki_M_Lm_newNode (k1.q gw8.k) rfl (sel_in (qm_8 (i := 177) rfl rfl)) (qm_8 (i := 176) rfl rfl) (Or.inl (by decide +kernel)) (by decide) (qm_8 (i := 174) rfl rfl) (show _ = some 4 from by decide +kernel) rfl ⟨Nat.le_of_ble_eq_true rfl, Nat.le_of_ble_eq_true rfl⟩ (Nat.le_of_ble_eq_true rfl) rfl d_Hm_putVal_56 h22 h23 (DP.k h (fun v25 w24 gw24 h => (?_ : WD _ _ 59 _ _ _ _ _ _)))
      obtain ⟨k26, h⟩ := h
      obtain ⟨a27, e28, h⟩ := h
      rw [e28]
      obtain ⟨h29, h⟩ := h
      refine x_aast k26 (fun _ => rfl) h29 d_Hm_putVal_59 h16 h17 (?_ : WD _ _ 60 _ _ _ _ _ _)
      refine x_goto 259 d_Hm_putVal_60 rfl ?_
      refine x_aload_nP (some x0) d_Hm_putVal_259 rfl (?_ : WD _ _ 260 _ _ _ _ _ _)
      refine x_dup d_Hm_putVal_260 rfl (?_ : WD _ _ 261 _ _ _ _ _ _)
      refine x_getI (ref := "java/util/HashMap") (j := 3) 3 ((k1.q gw8.k).q gw24.k) clk_20 (by decide) (qm_6 (i := 163) rfl rfl) (Or.inl rfl) rfl rfl d_Hm_putVal_261 (y := (wI w24 x0 3)) rfl (?_ : WD _ _ 264 _ _ _ _ _ _)
      refine x_iconst d_Hm_putVal_264 (by decide) (?_ : WD _ _ 265 _ _ _ _ _ _)
      obtain ⟨h30, h⟩ := h
      refine x_iadd d_Hm_putVal_265 h30 (?_ : WD _ _ 266 _ _ _ _ _ _)
      obtain ⟨k31, h⟩ := h
      refine x_putI (ref := "java/util/HashMap") (j := 3) 3 k31 clk_20 (by decide) (qm_6 (i := 163) rfl rfl) (Or.inl rfl) (Or.inl rfl) tyX28_ok rfl nmX28 d_Hm_putVal_266 rfl rfl (fun _ => rfl) rfl (?_ : WD _ _ 269 _ _ _ _ _ _)
      refine x_aload_nP (some x0) d_Hm_putVal_269 rfl (?_ : WD _ _ 270 _ _ _ _ _ _)
      refine x_dup d_Hm_putVal_270 rfl (?_ : WD _ _ 271 _ _ _ _ _ _)
      refine x_getI (ref := "java/util/HashMap") (j := 2) 2 k31.is clk_20 (by decide) (qm_6 (i := 158) rfl rfl) (Or.inl rfl) rfl rfl d_Hm_putVal_271 (y := (wI w24 x0 2)) (wI_uI_j (by decide)) (?_ : WD _ _ 274 _ _ _ _ _ _)
      refine x_iconst d_Hm_putVal_274 (by decide) (?_ : WD _ _ 275 _ _ _ _ _ _)
      obtain ⟨h32, h⟩ := h
      refine x_iadd d_Hm_putVal_275 h32 (?_ : WD _ _ 276 _ _ _ _ _ _)
      refine x_dup_x1 d_Hm_putVal_276 rfl rfl (?_ : WD _ _ 277 _ _ _ _ _ _)
      refine x_putI (ref := "java/util/HashMap") (j := 2) 2 k31 clk_20 (by decide) (qm_6 (i := 158) rfl rfl) (Or.inl rfl) (Or.inl rfl) tyX28_ok rfl nmX28 d_Hm_putVal_277 rfl rfl (fun _ => rfl) rfl (?_ : WD _ _ 280 _ _ _ _ _ _)
      refine x_aload_nP (some x0) d_Hm_putVal_280 rfl (?_ : WD _ _ 281 _ _ _ _ _ _)
      refine x_getI (ref := "java/util/HashMap") (j := 4) 4 k31.is clk_20 (by decide) (qm_6 (i := 164) rfl rfl) (Or.inl rfl) rfl rfl d_Hm_putVal_281 (y := (wI w24 x0 4)) ((wI_uI_j (by decide)).trans (wI_uI_j (by decide))) (?_ : WD _ _ 284 _ _ _ _ _ _)
      refine x_icmp_le 292 d_Hm_putVal_284 rfl ⟨fun c33 => (?_ : WD _ _ 292 _ _ _ _ _ _), fun c33 => (?_ : WD _ _ 287 _ _ _ _ _ _)⟩
      · replace h := h.1 c33
        refine x_aload_nP (some x0) d_Hm_putVal_292 rfl (?_ : WD _ _ 293 _ _ _ _ _ _)
        refine x_iload d_Hm_putVal_293 rfl (?_ : WD _ _ 295 _ _ _ _ _ _)
        refine x_callU (ν := M_Lm_afterNodeInsertion) ⟨"java/util/HashMap", "afterNodeInsertion", "(Z)V"⟩ "java/util/HashMap" [vI x5] ok_M_Lm_afterNodeInsertion oki_M_Lm_afterNodeInsertion k31.is rfl (sel_in (qm_9 (i := 18) rfl rfl)) (qm_9 (i := 17) rfl rfl) (Or.inl (by decide +kernel)) (by decide) (qm_9 (i := 15) rfl rfl) (show _ = some 1 from by decide +kernel) rfl ⟨Nat.le_of_ble_eq_true rfl, Nat.le_of_ble_eq_true rfl⟩ (Nat.le_of_ble_eq_true rfl) rfl d_Hm_putVal_295 (Nat.zero_le _) (Nat.zero_le _) (DV.k h (fun w34 gw34 h => (?_ : WD _ _ 298 _ _ _ _ _ _)))
        refine x_null d_Hm_putVal_298 (?_ : WD _ _ 299 _ _ _ _ _ _)
        exact x_areturn none rfl (Or.inl ⟨_, rfl⟩) d_Hm_putVal_299 h
      · replace h := h.2 c33
        exact h.elim
    · replace h := h.2 a18 e19
      rw [e19]
      refine x_aloadP (some a18) d_Hm_putVal_63 rfl (?_ : WD _ _ 65 _ _ _ _ _ _)
      obtain ⟨k36, h⟩ := h
      refine x_getI (ref := "java/util/HashMap$Node") (j := 0) 0 k36 clk_21 (by decide) (qm_7 (i := 158) rfl rfl) (Or.inl rfl) rfl rfl d_Hm_putVal_65 (y := (wI w8 a18 0)) rfl (?_ : WD _ _ 68 _ _ _ _ _ _)
      refine x_iload_n d_Hm_putVal_68 rfl (?_ : WD _ _ 69 _ _ _ _ _ _)
      refine x_icmp_ne 104 d_Hm_putVal_69 rfl ⟨fun c37 => (?_ : WD _ _ 104 _ _ _ _ _ _), fun c37 => (?_ : WD _ _ 72 _ _ _ _ _ _)⟩
      · replace h := h.1 c37
        exact h.elim
      · replace h := h.2 c37
        refine x_aloadP (some a18) d_Hm_putVal_72 rfl (?_ : WD _ _ 74 _ _ _ _ _ _)
        refine x_getP (ref := "java/util/HashMap$Node") (j := 1) 1 k36 clk_21 (by decide) (qm_7 (i := 165) rfl rfl) (Or.inl rfl) rfl rfl d_Hm_putVal_74 (y := (wR w8 a18 1)) rfl (?_ : WD _ _ 77 _ _ _ _ _ _)
        refine x_dup d_Hm_putVal_77 rfl (?_ : WD _ _ 78 _ _ _ _ _ _)
        refine x_astoreP (wR w8 a18 1) (ls' := [(11, vP (wR w8 a18 1)), (7, vA a18), (9, vI (iandq ((n12 : Int) - 1) x1)), (8, vI (n12 : Int)), (6, vA a10), (0, vA x0), (1, vI x1), (2, vA x2), (3, vA x3), (4, vI x4), (5, vI x5)]) d_Hm_putVal_78 (by decide) rfl (?_ : WD _ _ 80 _ _ _ _ _ _)
        refine x_aload_nP (some x2) d_Hm_putVal_80 rfl (?_ : WD _ _ 81 _ _ _ _ _ _)
        refine x_acmp_eq (wR w8 a18 1) (some x2) 97 d_Hm_putVal_81 rfl ⟨fun c38 => (?_ : WD _ _ 97 _ _ _ _ _ _), fun c38 => (?_ : WD _ _ 84 _ _ _ _ _ _)⟩
        · replace h := h.1 c38
          refine x_aloadP (some a18) d_Hm_putVal_97 rfl (?_ : WD _ _ 99 _ _ _ _ _ _)
          refine x_astoreP (some a18) (ls' := [(10, vA a18), (11, vP (wR w8 a18 1)), (7, vA a18), (9, vI (iandq ((n12 : Int) - 1) x1)), (8, vI (n12 : Int)), (6, vA a10), (0, vA x0), (1, vI x1), (2, vA x2), (3, vA x3), (4, vI x4), (5, vI x5)]) d_Hm_putVal_99 (by decide) rfl (?_ : WD _ _ 101 _ _ _ _ _ _)
          refine x_goto 222 d_Hm_putVal_101 rfl ?_
          refine x_aloadP (some a18) d_Hm_putVal_222 rfl (?_ : WD _ _ 224 _ _ _ _ _ _)
          refine x_ifnull (r := some a18) 259 d_Hm_putVal_224 rfl ⟨fun hz => absurd hz (by simp), fun _ _ => (?_ : WD _ _ 227 _ _ _ _ _ _)⟩
          refine x_aloadP (some a18) d_Hm_putVal_227 rfl (?_ : WD _ _ 229 _ _ _ _ _ _)
          refine x_getP (ref := "java/util/HashMap$Node") (j := 2) 2 k36 clk_21 (by decide) (qm_7 (i := 169) rfl rfl) (Or.inl rfl) rfl rfl d_Hm_putVal_229 (y := (wR w8 a18 2)) rfl (?_ : WD _ _ 232 _ _ _ _ _ _)
          refine x_astoreP (wR w8 a18 2) (ls' := [(12, vP (wR w8 a18 2)), (10, vA a18), (11, vP (wR w8 a18 1)), (7, vA a18), (9, vI (iandq ((n12 : Int) - 1) x1)), (8, vI (n12 : Int)), (6, vA a10), (0, vA x0), (1, vI x1), (2, vA x2), (3, vA x3), (4, vI x4), (5, vI x5)]) d_Hm_putVal_232 (by decide) rfl (?_ : WD _ _ 234 _ _ _ _ _ _)
          refine x_iload d_Hm_putVal_234 rfl (?_ : WD _ _ 236 _ _ _ _ _ _)
          refine x_if_eq 244 d_Hm_putVal_236 rfl ⟨fun c39 => (?_ : WD _ _ 244 _ _ _ _ _ _), fun c39 => (?_ : WD _ _ 239 _ _ _ _ _ _)⟩
          · replace h := h.1 c39
            refine x_aloadP (some a18) d_Hm_putVal_244 rfl (?_ : WD _ _ 246 _ _ _ _ _ _)
            refine x_aload_nP (some x3) d_Hm_putVal_246 rfl (?_ : WD _ _ 247 _ _ _ _ _ _)
            obtain ⟨k40, h⟩ := h
            refine x_putP (ref := "java/util/HashMap$Node") (j := 2) (some x3) 2 k40 clk_21 (by decide) (qm_7 (i := 169) rfl rfl) (Or.inl rfl) (Or.inl rfl) tyX24_ok rfl nmX24 d_Hm_putVal_247 rfl rfl (nar_P (by first | exact Or.inl ⟨_, rfl⟩ | exact Or.inr ⟨_, rfl⟩) _) (fit_P (by first | exact Or.inl ⟨_, rfl⟩ | exact Or.inr ⟨_, rfl⟩) _) (?_ : WD _ _ 250 _ _ _ _ _ _)
            refine x_aload_nP (some x0) d_Hm_putVal_250 rfl (?_ : WD _ _ 251 _ _ _ _ _ _)
            refine x_aloadP (some a18) d_Hm_putVal_251 rfl (?_ : WD _ _ 253 _ _ _ _ _ _)
            refine x_callU (ν := M_Lm_afterNodeAccess) ⟨"java/util/HashMap", "afterNodeAccess", "(Ljava/util/HashMap$Node;)V"⟩ "java/util/HashMap" [vA a18] ok_M_Lm_afterNodeAccess oki_M_Lm_afterNodeAccess (k1.q gw8.k) rfl (sel_in (qm_9 (i := 11) rfl rfl)) (qm_9 (i := 10) rfl rfl) (Or.inl (by decide +kernel)) (by decide) (qm_9 (i := 8) rfl rfl) (show _ = some 1 from by decide +kernel) rfl ⟨Nat.le_of_ble_eq_true rfl, Nat.le_of_ble_eq_true rfl⟩ (Nat.le_of_ble_eq_true rfl) rfl d_Hm_putVal_253 (Nat.zero_le _) (Nat.zero_le _) (DV.k h (fun w41 gw41 h => (?_ : WD _ _ 256 _ _ _ _ _ _)))
            refine x_aloadP (wR w8 a18 2) d_Hm_putVal_256 rfl (?_ : WD _ _ 258 _ _ _ _ _ _)
            exact x_areturn (wR w8 a18 2) rfl (Or.inl ⟨_, rfl⟩) d_Hm_putVal_258 h
          · replace h := h.2 c39
            refine x_aloadP (wR w8 a18 2) d_Hm_putVal_239 rfl (?_ : WD _ _ 241 _ _ _ _ _ _)
            refine x_ifnonnull 250 d_Hm_putVal_241 rfl ⟨fun e44 => (?_ : WD _ _ 244 _ _ _ _ _ _), fun a43 e44 => (?_ : WD _ _ 250 _ _ _ _ _ _)⟩
            · replace h := h.1 e44
              rw [e44]
              refine x_aloadP (some a18) d_Hm_putVal_244 rfl (?_ : WD _ _ 246 _ _ _ _ _ _)
              refine x_aload_nP (some x3) d_Hm_putVal_246 rfl (?_ : WD _ _ 247 _ _ _ _ _ _)
              obtain ⟨k45, h⟩ := h
              refine x_putP (ref := "java/util/HashMap$Node") (j := 2) (some x3) 2 k45 clk_21 (by decide) (qm_7 (i := 169) rfl rfl) (Or.inl rfl) (Or.inl rfl) tyX24_ok rfl nmX24 d_Hm_putVal_247 rfl rfl (nar_P (by first | exact Or.inl ⟨_, rfl⟩ | exact Or.inr ⟨_, rfl⟩) _) (fit_P (by first | exact Or.inl ⟨_, rfl⟩ | exact Or.inr ⟨_, rfl⟩) _) (?_ : WD _ _ 250 _ _ _ _ _ _)
              refine x_aload_nP (some x0) d_Hm_putVal_250 rfl (?_ : WD _ _ 251 _ _ _ _ _ _)
              refine x_aloadP (some a18) d_Hm_putVal_251 rfl (?_ : WD _ _ 253 _ _ _ _ _ _)
              refine x_callU (ν := M_Lm_afterNodeAccess) ⟨"java/util/HashMap", "afterNodeAccess", "(Ljava/util/HashMap$Node;)V"⟩ "java/util/HashMap" [vA a18] ok_M_Lm_afterNodeAccess oki_M_Lm_afterNodeAccess (k1.q gw8.k) rfl (sel_in (qm_9 (i := 11) rfl rfl)) (qm_9 (i := 10) rfl rfl) (Or.inl (by decide +kernel)) (by decide) (qm_9 (i := 8) rfl rfl) (show _ = some 1 from by decide +kernel) rfl ⟨Nat.le_of_ble_eq_true rfl, Nat.le_of_ble_eq_true rfl⟩ (Nat.le_of_ble_eq_true rfl) rfl d_Hm_putVal_253 (Nat.zero_le _) (Nat.zero_le _) (DV.k h (fun w46 gw46 h => (?_ : WD _ _ 256 _ _ _ _ _ _)))
              refine x_aloadP none d_Hm_putVal_256 rfl (?_ : WD _ _ 258 _ _ _ _ _ _)
              exact x_areturn none rfl (Or.inl ⟨_, rfl⟩) d_Hm_putVal_258 h
            · replace h := h.2 a43 e44
              rw [e44]
              refine x_aload_nP (some x0) d_Hm_putVal_250 rfl (?_ : WD _ _ 251 _ _ _ _ _ _)
              refine x_aloadP (some a18) d_Hm_putVal_251 rfl (?_ : WD _ _ 253 _ _ _ _ _ _)
              refine x_callU (ν := M_Lm_afterNodeAccess) ⟨"java/util/HashMap", "afterNodeAccess", "(Ljava/util/HashMap$Node;)V"⟩ "java/util/HashMap" [vA a18] ok_M_Lm_afterNodeAccess oki_M_Lm_afterNodeAccess (k1.q gw8.k) rfl (sel_in (qm_9 (i := 11) rfl rfl)) (qm_9 (i := 10) rfl rfl) (Or.inl (by decide +kernel)) (by decide) (qm_9 (i := 8) rfl rfl) (show _ = some 1 from by decide +kernel) rfl ⟨Nat.le_of_ble_eq_true rfl, Nat.le_of_ble_eq_true rfl⟩ (Nat.le_of_ble_eq_true rfl) rfl d_Hm_putVal_253 (Nat.zero_le _) (Nat.zero_le _) (DV.k h (fun w48 gw48 h => (?_ : WD _ _ 256 _ _ _ _ _ _)))
              refine x_aloadP (some a43) d_Hm_putVal_256 rfl (?_ : WD _ _ 258 _ _ _ _ _ _)
              exact x_areturn (some a43) rfl (Or.inl ⟨_, rfl⟩) d_Hm_putVal_258 h
        · replace h := h.2 c38
          exact h.elim
  · replace h := h.2 a2 e3
    rw [e3]
    refine x_aloadP (some a2) d_Hm_putVal_10 rfl (?_ : WD _ _ 12 _ _ _ _ _ _)
    obtain ⟨n50, h⟩ := h
    obtain ⟨k51, h⟩ := h
    obtain ⟨h52, h⟩ := h
    refine x_alenR k51 (Or.inr (fun _ => rfl)) (fun h => absurd h (by decide)) h52 d_Hm_putVal_12 (?_ : WD _ _ 13 _ _ _ _ _ _)
    refine x_dup d_Hm_putVal_13 rfl (?_ : WD _ _ 14 _ _ _ _ _ _)
    refine x_istore (ls' := [(8, vI (n50 : Int)), (6, vA a2), (0, vA x0), (1, vI x1), (2, vA x2), (3, vA x3), (4, vI x4), (5, vI x5)]) d_Hm_putVal_14 (by decide) rfl (?_ : WD _ _ 16 _ _ _ _ _ _)
    refine x_if_ne 29 d_Hm_putVal_16 rfl ⟨fun c53 => (?_ : WD _ _ 29 _ _ _ _ _ _), fun c53 => (?_ : WD _ _ 19 _ _ _ _ _ _)⟩
    · replace h := h.1 c53
      refine x_aloadP (some a2) d_Hm_putVal_29 rfl (?_ : WD _ _ 31 _ _ _ _ _ _)
      refine x_iload d_Hm_putVal_31 rfl (?_ : WD _ _ 33 _ _ _ _ _ _)
      refine x_iconst d_Hm_putVal_33 (by decide) (?_ : WD _ _ 34 _ _ _ _ _ _)
      obtain ⟨h54, h⟩ := h
      refine x_isub d_Hm_putVal_34 h54 (?_ : WD _ _ 35 _ _ _ _ _ _)
      refine x_iload_n d_Hm_putVal_35 rfl (?_ : WD _ _ 36 _ _ _ _ _ _)
      refine x_iandq d_Hm_putVal_36 (?_ : WD _ _ 37 _ _ _ _ _ _)
      refine x_dup d_Hm_putVal_37 rfl (?_ : WD _ _ 38 _ _ _ _ _ _)
      refine x_istore (ls' := [(9, vI (iandq ((n50 : Int) - 1) x1)), (8, vI (n50 : Int)), (6, vA a2), (0, vA x0), (1, vI x1), (2, vA x2), (3, vA x3), (4, vI x4), (5, vI x5)]) d_Hm_putVal_38 (by decide) rfl (?_ : WD _ _ 40 _ _ _ _ _ _)
      obtain ⟨h55, h⟩ := h
      obtain ⟨h56, h⟩ := h
      refine x_aald k51 (fun _ => rfl) d_Hm_putVal_40 h55 h56 (y := (wR w a2 (iandq ((n50 : Int) - 1) x1))) rfl (?_ : WD _ _ 41 _ _ _ _ _ _)
      refine x_dup d_Hm_putVal_41 rfl (?_ : WD _ _ 42 _ _ _ _ _ _)
      refine x_astoreP (wR w a2 (iandq ((n50 : Int) - 1) x1)) (ls' := [(7, vP (wR w a2 (iandq ((n50 : Int) - 1) x1))), (9, vI (iandq ((n50 : Int) - 1) x1)), (8, vI (n50 : Int)), (6, vA a2), (0, vA x0), (1, vI x1), (2, vA x2), (3, vA x3), (4, vI x4), (5, vI x5)]) d_Hm_putVal_42 (by decide) rfl (?_ : WD _ _ 44 _ _ _ _ _ _)
      refine x_ifnonnull 63 d_Hm_putVal_44 rfl ⟨fun e58 => (?_ : WD _ _ 47 _ _ _ _ _ _), fun a57 e58 => (?_ : WD _ _ 63 _ _ _ _ _ _)⟩
      · replace h := h.1 e58
        rw [e58]
        refine x_aloadP (some a2) d_Hm_putVal_47 rfl (?_ : WD _ _ 49 _ _ _ _ _ _)
        refine x_iload d_Hm_putVal_49 rfl (?_ : WD _ _ 51 _ _ _ _ _ _)
        refine x_aload_nP (some x0) d_Hm_putVal_51 rfl (?_ : WD _ _ 52 _ _ _ _ _ _)
        refine x_iload_n d_Hm_putVal_52 rfl (?_ : WD _ _ 53 _ _ _ _ _ _)
        refine x_aload_nP (some x2) d_Hm_putVal_53 rfl (?_ : WD _ _ 54 _ _ _ _ _ _)
        refine x_aload_nP (some x3) d_Hm_putVal_54 rfl (?_ : WD _ _ 55 _ _ _ _ _ _)
        refine x_null d_Hm_putVal_55 (?_ : WD _ _ 56 _ _ _ _ _ _)
        obtain ⟨c59, s60, h61, h62, h⟩ := h
        refine x_callU (ν := M_Lm_newNode) ⟨"java/util/HashMap", "newNode", "(ILjava/lang/Object;Ljava/lang/Object;Ljava/util/HashMap$Node;)Ljava/util/HashMap$Node;"⟩ "java/util/HashMap" [vI x1, vA x2, vA x3, vP none] ok_M_Lm_newNode oki_M_Lm_newNode k1 rfl (sel_in (qm_8 (i := 177) rfl rfl)) (qm_8 (i := 176) rfl rfl) (Or.inl (by decide +kernel)) (by decide) (qm_8 (i := 174) rfl rfl) (show _ = some 4 from by decide +kernel) rfl ⟨Nat.le_of_ble_eq_true rfl, Nat.le_of_ble_eq_true rfl⟩ (Nat.le_of_ble_eq_true rfl) rfl d_Hm_putVal_56 h61 h62 (DP.k h (fun v64 w63 gw63 h => (?_ : WD _ _ 59 _ _ _ _ _ _)))
        obtain ⟨k65, h⟩ := h
        obtain ⟨a66, e67, h⟩ := h
        rw [e67]
        obtain ⟨h68, h⟩ := h
        refine x_aast k65 (fun _ => rfl) h68 d_Hm_putVal_59 h55 h56 (?_ : WD _ _ 60 _ _ _ _ _ _)
        refine x_goto 259 d_Hm_putVal_60 rfl ?_
        refine x_aload_nP (some x0) d_Hm_putVal_259 rfl (?_ : WD _ _ 260 _ _ _ _ _ _)
        refine x_dup d_Hm_putVal_260 rfl (?_ : WD _ _ 261 _ _ _ _ _ _)
        refine x_getI (ref := "java/util/HashMap") (j := 3) 3 (k1.q gw63.k) clk_20 (by decide) (qm_6 (i := 163) rfl rfl) (Or.inl rfl) rfl rfl d_Hm_putVal_261 (y := (wI w63 x0 3)) rfl (?_ : WD _ _ 264 _ _ _ _ _ _)
        refine x_iconst d_Hm_putVal_264 (by decide) (?_ : WD _ _ 265 _ _ _ _ _ _)
        obtain ⟨h69, h⟩ := h
        refine x_iadd d_Hm_putVal_265 h69 (?_ : WD _ _ 266 _ _ _ _ _ _)
        obtain ⟨k70, h⟩ := h
        refine x_putI (ref := "java/util/HashMap") (j := 3) 3 k70 clk_20 (by decide) (qm_6 (i := 163) rfl rfl) (Or.inl rfl) (Or.inl rfl) tyX28_ok rfl nmX28 d_Hm_putVal_266 rfl rfl (fun _ => rfl) rfl (?_ : WD _ _ 269 _ _ _ _ _ _)
        refine x_aload_nP (some x0) d_Hm_putVal_269 rfl (?_ : WD _ _ 270 _ _ _ _ _ _)
        refine x_dup d_Hm_putVal_270 rfl (?_ : WD _ _ 271 _ _ _ _ _ _)
        refine x_getI (ref := "java/util/HashMap") (j := 2) 2 k70.is clk_20 (by decide) (qm_6 (i := 158) rfl rfl) (Or.inl rfl) rfl rfl d_Hm_putVal_271 (y := (wI w63 x0 2)) (wI_uI_j (by decide)) (?_ : WD _ _ 274 _ _ _ _ _ _)
        refine x_iconst d_Hm_putVal_274 (by decide) (?_ : WD _ _ 275 _ _ _ _ _ _)
        obtain ⟨h71, h⟩ := h
        refine x_iadd d_Hm_putVal_275 h71 (?_ : WD _ _ 276 _ _ _ _ _ _)
        refine x_dup_x1 d_Hm_putVal_276 rfl rfl (?_ : WD _ _ 277 _ _ _ _ _ _)
        refine x_putI (ref := "java/util/HashMap") (j := 2) 2 k70 clk_20 (by decide) (qm_6 (i := 158) rfl rfl) (Or.inl rfl) (Or.inl rfl) tyX28_ok rfl nmX28 d_Hm_putVal_277 rfl rfl (fun _ => rfl) rfl (?_ : WD _ _ 280 _ _ _ _ _ _)
        refine x_aload_nP (some x0) d_Hm_putVal_280 rfl (?_ : WD _ _ 281 _ _ _ _ _ _)
        refine x_getI (ref := "java/util/HashMap") (j := 4) 4 k70.is clk_20 (by decide) (qm_6 (i := 164) rfl rfl) (Or.inl rfl) rfl rfl d_Hm_putVal_281 (y := (wI w63 x0 4)) ((wI_uI_j (by decide)).trans (wI_uI_j (by decide))) (?_ : WD _ _ 284 _ _ _ _ _ _)
        refine x_icmp_le 292 d_Hm_putVal_284 rfl ⟨fun c72 => (?_ : WD _ _ 292 _ _ _ _ _ _), fun c72 => (?_ : WD _ _ 287 _ _ _ _ _ _)⟩
        · replace h := h.1 c72
          refine x_aload_nP (some x0) d_Hm_putVal_292 rfl (?_ : WD _ _ 293 _ _ _ _ _ _)
          refine x_iload d_Hm_putVal_293 rfl (?_ : WD _ _ 295 _ _ _ _ _ _)
          refine x_callU (ν := M_Lm_afterNodeInsertion) ⟨"java/util/HashMap", "afterNodeInsertion", "(Z)V"⟩ "java/util/HashMap" [vI x5] ok_M_Lm_afterNodeInsertion oki_M_Lm_afterNodeInsertion k70.is rfl (sel_in (qm_9 (i := 18) rfl rfl)) (qm_9 (i := 17) rfl rfl) (Or.inl (by decide +kernel)) (by decide) (qm_9 (i := 15) rfl rfl) (show _ = some 1 from by decide +kernel) rfl ⟨Nat.le_of_ble_eq_true rfl, Nat.le_of_ble_eq_true rfl⟩ (Nat.le_of_ble_eq_true rfl) rfl d_Hm_putVal_295 (Nat.zero_le _) (Nat.zero_le _) (DV.k h (fun w73 gw73 h => (?_ : WD _ _ 298 _ _ _ _ _ _)))
          refine x_null d_Hm_putVal_298 (?_ : WD _ _ 299 _ _ _ _ _ _)
          exact x_areturn none rfl (Or.inl ⟨_, rfl⟩) d_Hm_putVal_299 h
        · replace h := h.2 c72
          exact h.elim
      · replace h := h.2 a57 e58
        rw [e58]
        refine x_aloadP (some a57) d_Hm_putVal_63 rfl (?_ : WD _ _ 65 _ _ _ _ _ _)
        obtain ⟨k75, h⟩ := h
        refine x_getI (ref := "java/util/HashMap$Node") (j := 0) 0 k75 clk_21 (by decide) (qm_7 (i := 158) rfl rfl) (Or.inl rfl) rfl rfl d_Hm_putVal_65 (y := (wI w a57 0)) rfl (?_ : WD _ _ 68 _ _ _ _ _ _)
        refine x_iload_n d_Hm_putVal_68 rfl (?_ : WD _ _ 69 _ _ _ _ _ _)
        refine x_icmp_ne 104 d_Hm_putVal_69 rfl ⟨fun c76 => (?_ : WD _ _ 104 _ _ _ _ _ _), fun c76 => (?_ : WD _ _ 72 _ _ _ _ _ _)⟩
        · replace h := h.1 c76
          exact h.elim
        · replace h := h.2 c76
          refine x_aloadP (some a57) d_Hm_putVal_72 rfl (?_ : WD _ _ 74 _ _ _ _ _ _)
          refine x_getP (ref := "java/util/HashMap$Node") (j := 1) 1 k75 clk_21 (by decide) (qm_7 (i := 165) rfl rfl) (Or.inl rfl) rfl rfl d_Hm_putVal_74 (y := (wR w a57 1)) rfl (?_ : WD _ _ 77 _ _ _ _ _ _)
          refine x_dup d_Hm_putVal_77 rfl (?_ : WD _ _ 78 _ _ _ _ _ _)
          refine x_astoreP (wR w a57 1) (ls' := [(11, vP (wR w a57 1)), (7, vA a57), (9, vI (iandq ((n50 : Int) - 1) x1)), (8, vI (n50 : Int)), (6, vA a2), (0, vA x0), (1, vI x1), (2, vA x2), (3, vA x3), (4, vI x4), (5, vI x5)]) d_Hm_putVal_78 (by decide) rfl (?_ : WD _ _ 80 _ _ _ _ _ _)
          refine x_aload_nP (some x2) d_Hm_putVal_80 rfl (?_ : WD _ _ 81 _ _ _ _ _ _)
          refine x_acmp_eq (wR w a57 1) (some x2) 97 d_Hm_putVal_81 rfl ⟨fun c77 => (?_ : WD _ _ 97 _ _ _ _ _ _), fun c77 => (?_ : WD _ _ 84 _ _ _ _ _ _)⟩
          · replace h := h.1 c77
            refine x_aloadP (some a57) d_Hm_putVal_97 rfl (?_ : WD _ _ 99 _ _ _ _ _ _)
            refine x_astoreP (some a57) (ls' := [(10, vA a57), (11, vP (wR w a57 1)), (7, vA a57), (9, vI (iandq ((n50 : Int) - 1) x1)), (8, vI (n50 : Int)), (6, vA a2), (0, vA x0), (1, vI x1), (2, vA x2), (3, vA x3), (4, vI x4), (5, vI x5)]) d_Hm_putVal_99 (by decide) rfl (?_ : WD _ _ 101 _ _ _ _ _ _)
            refine x_goto 222 d_Hm_putVal_101 rfl ?_
            refine x_aloadP (some a57) d_Hm_putVal_222 rfl (?_ : WD _ _ 224 _ _ _ _ _ _)
            refine x_ifnull (r := some a57) 259 d_Hm_putVal_224 rfl ⟨fun hz => absurd hz (by simp), fun _ _ => (?_ : WD _ _ 227 _ _ _ _ _ _)⟩
            refine x_aloadP (some a57) d_Hm_putVal_227 rfl (?_ : WD _ _ 229 _ _ _ _ _ _)
            refine x_getP (ref := "java/util/HashMap$Node") (j := 2) 2 k75 clk_21 (by decide) (qm_7 (i := 169) rfl rfl) (Or.inl rfl) rfl rfl d_Hm_putVal_229 (y := (wR w a57 2)) rfl (?_ : WD _ _ 232 _ _ _ _ _ _)
            refine x_astoreP (wR w a57 2) (ls' := [(12, vP (wR w a57 2)), (10, vA a57), (11, vP (wR w a57 1)), (7, vA a57), (9, vI (iandq ((n50 : Int) - 1) x1)), (8, vI (n50 : Int)), (6, vA a2), (0, vA x0), (1, vI x1), (2, vA x2), (3, vA x3), (4, vI x4), (5, vI x5)]) d_Hm_putVal_232 (by decide) rfl (?_ : WD _ _ 234 _ _ _ _ _ _)
            refine x_iload d_Hm_putVal_234 rfl (?_ : WD _ _ 236 _ _ _ _ _ _)
            refine x_if_eq 244 d_Hm_putVal_236 rfl ⟨fun c78 => (?_ : WD _ _ 244 _ _ _ _ _ _), fun c78 => (?_ : WD _ _ 239 _ _ _ _ _ _)⟩
            · replace h := h.1 c78
              refine x_aloadP (some a57) d_Hm_putVal_244 rfl (?_ : WD _ _ 246 _ _ _ _ _ _)
              refine x_aload_nP (some x3) d_Hm_putVal_246 rfl (?_ : WD _ _ 247 _ _ _ _ _ _)
              obtain ⟨k79, h⟩ := h
              refine x_putP (ref := "java/util/HashMap$Node") (j := 2) (some x3) 2 k79 clk_21 (by decide) (qm_7 (i := 169) rfl rfl) (Or.inl rfl) (Or.inl rfl) tyX24_ok rfl nmX24 d_Hm_putVal_247 rfl rfl (nar_P (by first | exact Or.inl ⟨_, rfl⟩ | exact Or.inr ⟨_, rfl⟩) _) (fit_P (by first | exact Or.inl ⟨_, rfl⟩ | exact Or.inr ⟨_, rfl⟩) _) (?_ : WD _ _ 250 _ _ _ _ _ _)
              refine x_aload_nP (some x0) d_Hm_putVal_250 rfl (?_ : WD _ _ 251 _ _ _ _ _ _)
              refine x_aloadP (some a57) d_Hm_putVal_251 rfl (?_ : WD _ _ 253 _ _ _ _ _ _)
              refine x_callU (ν := M_Lm_afterNodeAccess) ⟨"java/util/HashMap", "afterNodeAccess", "(Ljava/util/HashMap$Node;)V"⟩ "java/util/HashMap" [vA a57] ok_M_Lm_afterNodeAccess oki_M_Lm_afterNodeAccess k1 rfl (sel_in (qm_9 (i := 11) rfl rfl)) (qm_9 (i := 10) rfl rfl) (Or.inl (by decide +kernel)) (by decide) (qm_9 (i := 8) rfl rfl) (show _ = some 1 from by decide +kernel) rfl ⟨Nat.le_of_ble_eq_true rfl, Nat.le_of_ble_eq_true rfl⟩ (Nat.le_of_ble_eq_true rfl) rfl d_Hm_putVal_253 (Nat.zero_le _) (Nat.zero_le _) (DV.k h (fun w80 gw80 h => (?_ : WD _ _ 256 _ _ _ _ _ _)))
              refine x_aloadP (wR w a57 2) d_Hm_putVal_256 rfl (?_ : WD _ _ 258 _ _ _ _ _ _)
              exact x_areturn (wR w a57 2) rfl (Or.inl ⟨_, rfl⟩) d_Hm_putVal_258 h
            · replace h := h.2 c78
              refine x_aloadP (wR w a57 2) d_Hm_putVal_239 rfl (?_ : WD _ _ 241 _ _ _ _ _ _)
              refine x_ifnonnull 250 d_Hm_putVal_241 rfl ⟨fun e83 => (?_ : WD _ _ 244 _ _ _ _ _ _), fun a82 e83 => (?_ : WD _ _ 250 _ _ _ _ _ _)⟩
              · replace h := h.1 e83
                rw [e83]
                refine x_aloadP (some a57) d_Hm_putVal_244 rfl (?_ : WD _ _ 246 _ _ _ _ _ _)
                refine x_aload_nP (some x3) d_Hm_putVal_246 rfl (?_ : WD _ _ 247 _ _ _ _ _ _)
                obtain ⟨k84, h⟩ := h
                refine x_putP (ref := "java/util/HashMap$Node") (j := 2) (some x3) 2 k84 clk_21 (by decide) (qm_7 (i := 169) rfl rfl) (Or.inl rfl) (Or.inl rfl) tyX24_ok rfl nmX24 d_Hm_putVal_247 rfl rfl (nar_P (by first | exact Or.inl ⟨_, rfl⟩ | exact Or.inr ⟨_, rfl⟩) _) (fit_P (by first | exact Or.inl ⟨_, rfl⟩ | exact Or.inr ⟨_, rfl⟩) _) (?_ : WD _ _ 250 _ _ _ _ _ _)
                refine x_aload_nP (some x0) d_Hm_putVal_250 rfl (?_ : WD _ _ 251 _ _ _ _ _ _)
                refine x_aloadP (some a57) d_Hm_putVal_251 rfl (?_ : WD _ _ 253 _ _ _ _ _ _)
                refine x_callU (ν := M_Lm_afterNodeAccess) ⟨"java/util/HashMap", "afterNodeAccess", "(Ljava/util/HashMap$Node;)V"⟩ "java/util/HashMap" [vA a57] ok_M_Lm_afterNodeAccess oki_M_Lm_afterNodeAccess k1 rfl (sel_in (qm_9 (i := 11) rfl rfl)) (qm_9 (i := 10) rfl rfl) (Or.inl (by decide +kernel)) (by decide) (qm_9 (i := 8) rfl rfl) (show _ = some 1 from by decide +kernel) rfl ⟨Nat.le_of_ble_eq_true rfl, Nat.le_of_ble_eq_true rfl⟩ (Nat.le_of_ble_eq_true rfl) rfl d_Hm_putVal_253 (Nat.zero_le _) (Nat.zero_le _) (DV.k h (fun w85 gw85 h => (?_ : WD _ _ 256 _ _ _ _ _ _)))
                refine x_aloadP none d_Hm_putVal_256 rfl (?_ : WD _ _ 258 _ _ _ _ _ _)
                exact x_areturn none rfl (Or.inl ⟨_, rfl⟩) d_Hm_putVal_258 h
              · replace h := h.2 a82 e83
                rw [e83]
                refine x_aload_nP (some x0) d_Hm_putVal_250 rfl (?_ : WD _ _ 251 _ _ _ _ _ _)
                refine x_aloadP (some a57) d_Hm_putVal_251 rfl (?_ : WD _ _ 253 _ _ _ _ _ _)
                refine x_callU (ν := M_Lm_afterNodeAccess) ⟨"java/util/HashMap", "afterNodeAccess", "(Ljava/util/HashMap$Node;)V"⟩ "java/util/HashMap" [vA a57] ok_M_Lm_afterNodeAccess oki_M_Lm_afterNodeAccess k1 rfl (sel_in (qm_9 (i := 11) rfl rfl)) (qm_9 (i := 10) rfl rfl) (Or.inl (by decide +kernel)) (by decide) (qm_9 (i := 8) rfl rfl) (show _ = some 1 from by decide +kernel) rfl ⟨Nat.le_of_ble_eq_true rfl, Nat.le_of_ble_eq_true rfl⟩ (Nat.le_of_ble_eq_true rfl) rfl d_Hm_putVal_253 (Nat.zero_le _) (Nat.zero_le _) (DV.k h (fun w87 gw87 h => (?_ : WD _ _ 256 _ _ _ _ _ _)))
                refine x_aloadP (some a82) d_Hm_putVal_256 rfl (?_ : WD _ _ 258 _ _ _ _ _ _)
                exact x_areturn (some a82) rfl (Or.inl ⟨_, rfl⟩) d_Hm_putVal_258 h
          · replace h := h.2 c77
            exact h.elim
    · replace h := h.2 c53
      refine x_aload_nP (some x0) d_Hm_putVal_19 rfl (?_ : WD _ _ 20 _ _ _ _ _ _)
      obtain ⟨c89, s90, h91, h92, h⟩ := h
      refine x_callU (ν := M_Hm_resize) ⟨"java/util/HashMap", "resize", "()[Ljava/util/HashMap$Node;"⟩ "java/util/HashMap" [] ok_M_Hm_resize oki_M_Hm_resize k1 rfl (sel_in (qm_7 (i := 118) rfl rfl)) (qm_7 (i := 117) rfl rfl) (Or.inr (Or.inl rfl)) (by decide) (qm_7 (i := 115) rfl rfl) (show _ = some 0 from by decide +kernel) rfl ⟨Nat.le_of_ble_eq_true rfl, Nat.le_of_ble_eq_true rfl⟩ (Nat.le_of_ble_eq_true rfl) rfl d_Hm_putVal_20 h91 h92 (DP.k h (fun v94 w93 gw93 h => (?_ : WD _ _ 23 _ _ _ _ _ _)))
      refine x_dup d_Hm_putVal_23 rfl (?_ : WD _ _ 24 _ _ _ _ _ _)
      refine x_astoreP v94 (ls' := [(6, vP v94), (8, vI (n50 : Int)), (0, vA x0), (1, vI x1), (2, vA x2), (3, vA x3), (4, vI x4), (5, vI x5)]) d_Hm_putVal_24 (by decide) rfl (?_ : WD _ _ 26 _ _ _ _ _ _)
      obtain ⟨a95, e96, h⟩ := h
      rw [e96]
      obtain ⟨n97, h⟩ := h
      obtain ⟨k98, h⟩ := h
      obtain ⟨h99, h⟩ := h
      refine x_alenR k98 (Or.inr (fun _ => rfl)) (fun h => absurd h (by decide)) h99 d_Hm_putVal_26 (?_ : WD _ _ 27 _ _ _ _ _ _)
      refine x_istore (ls' := [(8, vI (n97 : Int)), (6, vA a95), (0, vA x0), (1, vI x1), (2, vA x2), (3, vA x3), (4, vI x4), (5, vI x5)]) d_Hm_putVal_27 (by decide) rfl (?_ : WD _ _ 29 _ _ _ _ _ _)
      refine x_aloadP (some a95) d_Hm_putVal_29 rfl (?_ : WD _ _ 31 _ _ _ _ _ _)
      refine x_iload d_Hm_putVal_31 rfl (?_ : WD _ _ 33 _ _ _ _ _ _)
      refine x_iconst d_Hm_putVal_33 (by decide) (?_ : WD _ _ 34 _ _ _ _ _ _)
      obtain ⟨h100, h⟩ := h
      refine x_isub d_Hm_putVal_34 h100 (?_ : WD _ _ 35 _ _ _ _ _ _)
      refine x_iload_n d_Hm_putVal_35 rfl (?_ : WD _ _ 36 _ _ _ _ _ _)
      refine x_iandq d_Hm_putVal_36 (?_ : WD _ _ 37 _ _ _ _ _ _)
      refine x_dup d_Hm_putVal_37 rfl (?_ : WD _ _ 38 _ _ _ _ _ _)
      refine x_istore (ls' := [(9, vI (iandq ((n97 : Int) - 1) x1)), (8, vI (n97 : Int)), (6, vA a95), (0, vA x0), (1, vI x1), (2, vA x2), (3, vA x3), (4, vI x4), (5, vI x5)]) d_Hm_putVal_38 (by decide) rfl (?_ : WD _ _ 40 _ _ _ _ _ _)
      obtain ⟨h101, h⟩ := h
      obtain ⟨h102, h⟩ := h
      refine x_aald k98 (fun _ => rfl) d_Hm_putVal_40 h101 h102 (y := (wR w93 a95 (iandq ((n97 : Int) - 1) x1))) rfl (?_ : WD _ _ 41 _ _ _ _ _ _)
      refine x_dup d_Hm_putVal_41 rfl (?_ : WD _ _ 42 _ _ _ _ _ _)
      refine x_astoreP (wR w93 a95 (iandq ((n97 : Int) - 1) x1)) (ls' := [(7, vP (wR w93 a95 (iandq ((n97 : Int) - 1) x1))), (9, vI (iandq ((n97 : Int) - 1) x1)), (8, vI (n97 : Int)), (6, vA a95), (0, vA x0), (1, vI x1), (2, vA x2), (3, vA x3), (4, vI x4), (5, vI x5)]) d_Hm_putVal_42 (by decide) rfl (?_ : WD _ _ 44 _ _ _ _ _ _)
      refine x_ifnonnull 63 d_Hm_putVal_44 rfl ⟨fun e104 => (?_ : WD _ _ 47 _ _ _ _ _ _), fun a103 e104 => (?_ : WD _ _ 63 _ _ _ _ _ _)⟩
      · replace h := h.1 e104
        rw [e104]
        refine x_aloadP (some a95) d_Hm_putVal_47 rfl (?_ : WD _ _ 49 _ _ _ _ _ _)
        refine x_iload d_Hm_putVal_49 rfl (?_ : WD _ _ 51 _ _ _ _ _ _)
        refine x_aload_nP (some x0) d_Hm_putVal_51 rfl (?_ : WD _ _ 52 _ _ _ _ _ _)
        refine x_iload_n d_Hm_putVal_52 rfl (?_ : WD _ _ 53 _ _ _ _ _ _)
        refine x_aload_nP (some x2) d_Hm_putVal_53 rfl (?_ : WD _ _ 54 _ _ _ _ _ _)
        refine x_aload_nP (some x3) d_Hm_putVal_54 rfl (?_ : WD _ _ 55 _ _ _ _ _ _)
        refine x_null d_Hm_putVal_55 (?_ : WD _ _ 56 _ _ _ _ _ _)
        obtain ⟨c105, s106, h107, h108, h⟩ := h
        refine x_callU (ν := M_Lm_newNode) ⟨"java/util/HashMap", "newNode", "(ILjava/lang/Object;Ljava/lang/Object;Ljava/util/HashMap$Node;)Ljava/util/HashMap$Node;"⟩ "java/util/HashMap" [vI x1, vA x2, vA x3, vP none] ok_M_Lm_newNode oki_M_Lm_newNode (k1.q gw93.k) rfl (sel_in (qm_8 (i := 177) rfl rfl)) (qm_8 (i := 176) rfl rfl) (Or.inl (by decide +kernel)) (by decide) (qm_8 (i := 174) rfl rfl) (show _ = some 4 from by decide +kernel) rfl ⟨Nat.le_of_ble_eq_true rfl, Nat.le_of_ble_eq_true rfl⟩ (Nat.le_of_ble_eq_true rfl) rfl d_Hm_putVal_56 h107 h108 (DP.k h (fun v110 w109 gw109 h => (?_ : WD _ _ 59 _ _ _ _ _ _)))
        obtain ⟨k111, h⟩ := h
        obtain ⟨a112, e113, h⟩ := h
        rw [e113]
        obtain ⟨h114, h⟩ := h
        refine x_aast k111 (fun _ => rfl) h114 d_Hm_putVal_59 h101 h102 (?_ : WD _ _ 60 _ _ _ _ _ _)
        refine x_goto 259 d_Hm_putVal_60 rfl ?_
        refine x_aload_nP (some x0) d_Hm_putVal_259 rfl (?_ : WD _ _ 260 _ _ _ _ _ _)
        refine x_dup d_Hm_putVal_260 rfl (?_ : WD _ _ 261 _ _ _ _ _ _)
        refine x_getI (ref := "java/util/HashMap") (j := 3) 3 ((k1.q gw93.k).q gw109.k) clk_20 (by decide) (qm_6 (i := 163) rfl rfl) (Or.inl rfl) rfl rfl d_Hm_putVal_261 (y := (wI w109 x0 3)) rfl (?_ : WD _ _ 264 _ _ _ _ _ _)
        refine x_iconst d_Hm_putVal_264 (by decide) (?_ : WD _ _ 265 _ _ _ _ _ _)
        obtain ⟨h115, h⟩ := h
        refine x_iadd d_Hm_putVal_265 h115 (?_ : WD _ _ 266 _ _ _ _ _ _)
        obtain ⟨k116, h⟩ := h
        refine x_putI (ref := "java/util/HashMap") (j := 3) 3 k116 clk_20 (by decide) (qm_6 (i := 163) rfl rfl) (Or.inl rfl) (Or.inl rfl) tyX28_ok rfl nmX28 d_Hm_putVal_266 rfl rfl (fun _ => rfl) rfl (?_ : WD _ _ 269 _ _ _ _ _ _)
        refine x_aload_nP (some x0) d_Hm_putVal_269 rfl (?_ : WD _ _ 270 _ _ _ _ _ _)
        refine x_dup d_Hm_putVal_270 rfl (?_ : WD _ _ 271 _ _ _ _ _ _)
        refine x_getI (ref := "java/util/HashMap") (j := 2) 2 k116.is clk_20 (by decide) (qm_6 (i := 158) rfl rfl) (Or.inl rfl) rfl rfl d_Hm_putVal_271 (y := (wI w109 x0 2)) (wI_uI_j (by decide)) (?_ : WD _ _ 274 _ _ _ _ _ _)
        refine x_iconst d_Hm_putVal_274 (by decide) (?_ : WD _ _ 275 _ _ _ _ _ _)
        obtain ⟨h117, h⟩ := h
        refine x_iadd d_Hm_putVal_275 h117 (?_ : WD _ _ 276 _ _ _ _ _ _)
        refine x_dup_x1 d_Hm_putVal_276 rfl rfl (?_ : WD _ _ 277 _ _ _ _ _ _)
        refine x_putI (ref := "java/util/HashMap") (j := 2) 2 k116 clk_20 (by decide) (qm_6 (i := 158) rfl rfl) (Or.inl rfl) (Or.inl rfl) tyX28_ok rfl nmX28 d_Hm_putVal_277 rfl rfl (fun _ => rfl) rfl (?_ : WD _ _ 280 _ _ _ _ _ _)
        refine x_aload_nP (some x0) d_Hm_putVal_280 rfl (?_ : WD _ _ 281 _ _ _ _ _ _)
        refine x_getI (ref := "java/util/HashMap") (j := 4) 4 k116.is clk_20 (by decide) (qm_6 (i := 164) rfl rfl) (Or.inl rfl) rfl rfl d_Hm_putVal_281 (y := (wI w109 x0 4)) ((wI_uI_j (by decide)).trans (wI_uI_j (by decide))) (?_ : WD _ _ 284 _ _ _ _ _ _)
        refine x_icmp_le 292 d_Hm_putVal_284 rfl ⟨fun c118 => (?_ : WD _ _ 292 _ _ _ _ _ _), fun c118 => (?_ : WD _ _ 287 _ _ _ _ _ _)⟩
        · replace h := h.1 c118
          refine x_aload_nP (some x0) d_Hm_putVal_292 rfl (?_ : WD _ _ 293 _ _ _ _ _ _)
          refine x_iload d_Hm_putVal_293 rfl (?_ : WD _ _ 295 _ _ _ _ _ _)
          refine x_callU (ν := M_Lm_afterNodeInsertion) ⟨"java/util/HashMap", "afterNodeInsertion", "(Z)V"⟩ "java/util/HashMap" [vI x5] ok_M_Lm_afterNodeInsertion oki_M_Lm_afterNodeInsertion k116.is rfl (sel_in (qm_9 (i := 18) rfl rfl)) (qm_9 (i := 17) rfl rfl) (Or.inl (by decide +kernel)) (by decide) (qm_9 (i := 15) rfl rfl) (show _ = some 1 from by decide +kernel) rfl ⟨Nat.le_of_ble_eq_true rfl, Nat.le_of_ble_eq_true rfl⟩ (Nat.le_of_ble_eq_true rfl) rfl d_Hm_putVal_295 (Nat.zero_le _) (Nat.zero_le _) (DV.k h (fun w119 gw119 h => (?_ : WD _ _ 298 _ _ _ _ _ _)))
          refine x_null d_Hm_putVal_298 (?_ : WD _ _ 299 _ _ _ _ _ _)
          exact x_areturn none rfl (Or.inl ⟨_, rfl⟩) d_Hm_putVal_299 h
        · replace h := h.2 c118
          exact h.elim
      · replace h := h.2 a103 e104
        rw [e104]
        refine x_aloadP (some a103) d_Hm_putVal_63 rfl (?_ : WD _ _ 65 _ _ _ _ _ _)
        obtain ⟨k121, h⟩ := h
        refine x_getI (ref := "java/util/HashMap$Node") (j := 0) 0 k121 clk_21 (by decide) (qm_7 (i := 158) rfl rfl) (Or.inl rfl) rfl rfl d_Hm_putVal_65 (y := (wI w93 a103 0)) rfl (?_ : WD _ _ 68 _ _ _ _ _ _)
        refine x_iload_n d_Hm_putVal_68 rfl (?_ : WD _ _ 69 _ _ _ _ _ _)
        refine x_icmp_ne 104 d_Hm_putVal_69 rfl ⟨fun c122 => (?_ : WD _ _ 104 _ _ _ _ _ _), fun c122 => (?_ : WD _ _ 72 _ _ _ _ _ _)⟩
        · replace h := h.1 c122
          exact h.elim
        · replace h := h.2 c122
          refine x_aloadP (some a103) d_Hm_putVal_72 rfl (?_ : WD _ _ 74 _ _ _ _ _ _)
          refine x_getP (ref := "java/util/HashMap$Node") (j := 1) 1 k121 clk_21 (by decide) (qm_7 (i := 165) rfl rfl) (Or.inl rfl) rfl rfl d_Hm_putVal_74 (y := (wR w93 a103 1)) rfl (?_ : WD _ _ 77 _ _ _ _ _ _)
          refine x_dup d_Hm_putVal_77 rfl (?_ : WD _ _ 78 _ _ _ _ _ _)
          refine x_astoreP (wR w93 a103 1) (ls' := [(11, vP (wR w93 a103 1)), (7, vA a103), (9, vI (iandq ((n97 : Int) - 1) x1)), (8, vI (n97 : Int)), (6, vA a95), (0, vA x0), (1, vI x1), (2, vA x2), (3, vA x3), (4, vI x4), (5, vI x5)]) d_Hm_putVal_78 (by decide) rfl (?_ : WD _ _ 80 _ _ _ _ _ _)
          refine x_aload_nP (some x2) d_Hm_putVal_80 rfl (?_ : WD _ _ 81 _ _ _ _ _ _)
          refine x_acmp_eq (wR w93 a103 1) (some x2) 97 d_Hm_putVal_81 rfl ⟨fun c123 => (?_ : WD _ _ 97 _ _ _ _ _ _), fun c123 => (?_ : WD _ _ 84 _ _ _ _ _ _)⟩
          · replace h := h.1 c123
            refine x_aloadP (some a103) d_Hm_putVal_97 rfl (?_ : WD _ _ 99 _ _ _ _ _ _)
            refine x_astoreP (some a103) (ls' := [(10, vA a103), (11, vP (wR w93 a103 1)), (7, vA a103), (9, vI (iandq ((n97 : Int) - 1) x1)), (8, vI (n97 : Int)), (6, vA a95), (0, vA x0), (1, vI x1), (2, vA x2), (3, vA x3), (4, vI x4), (5, vI x5)]) d_Hm_putVal_99 (by decide) rfl (?_ : WD _ _ 101 _ _ _ _ _ _)
            refine x_goto 222 d_Hm_putVal_101 rfl ?_
            refine x_aloadP (some a103) d_Hm_putVal_222 rfl (?_ : WD _ _ 224 _ _ _ _ _ _)
            refine x_ifnull (r := some a103) 259 d_Hm_putVal_224 rfl ⟨fun hz => absurd hz (by simp), fun _ _ => (?_ : WD _ _ 227 _ _ _ _ _ _)⟩
            refine x_aloadP (some a103) d_Hm_putVal_227 rfl (?_ : WD _ _ 229 _ _ _ _ _ _)
            refine x_getP (ref := "java/util/HashMap$Node") (j := 2) 2 k121 clk_21 (by decide) (qm_7 (i := 169) rfl rfl) (Or.inl rfl) rfl rfl d_Hm_putVal_229 (y := (wR w93 a103 2)) rfl (?_ : WD _ _ 232 _ _ _ _ _ _)
            refine x_astoreP (wR w93 a103 2) (ls' := [(12, vP (wR w93 a103 2)), (10, vA a103), (11, vP (wR w93 a103 1)), (7, vA a103), (9, vI (iandq ((n97 : Int) - 1) x1)), (8, vI (n97 : Int)), (6, vA a95), (0, vA x0), (1, vI x1), (2, vA x2), (3, vA x3), (4, vI x4), (5, vI x5)]) d_Hm_putVal_232 (by decide) rfl (?_ : WD _ _ 234 _ _ _ _ _ _)
            refine x_iload d_Hm_putVal_234 rfl (?_ : WD _ _ 236 _ _ _ _ _ _)
            refine x_if_eq 244 d_Hm_putVal_236 rfl ⟨fun c124 => (?_ : WD _ _ 244 _ _ _ _ _ _), fun c124 => (?_ : WD _ _ 239 _ _ _ _ _ _)⟩
            · replace h := h.1 c124
              refine x_aloadP (some a103) d_Hm_putVal_244 rfl (?_ : WD _ _ 246 _ _ _ _ _ _)
              refine x_aload_nP (some x3) d_Hm_putVal_246 rfl (?_ : WD _ _ 247 _ _ _ _ _ _)
              obtain ⟨k125, h⟩ := h
              refine x_putP (ref := "java/util/HashMap$Node") (j := 2) (some x3) 2 k125 clk_21 (by decide) (qm_7 (i := 169) rfl rfl) (Or.inl rfl) (Or.inl rfl) tyX24_ok rfl nmX24 d_Hm_putVal_247 rfl rfl (nar_P (by first | exact Or.inl ⟨_, rfl⟩ | exact Or.inr ⟨_, rfl⟩) _) (fit_P (by first | exact Or.inl ⟨_, rfl⟩ | exact Or.inr ⟨_, rfl⟩) _) (?_ : WD _ _ 250 _ _ _ _ _ _)
              refine x_aload_nP (some x0) d_Hm_putVal_250 rfl (?_ : WD _ _ 251 _ _ _ _ _ _)
              refine x_aloadP (some a103) d_Hm_putVal_251 rfl (?_ : WD _ _ 253 _ _ _ _ _ _)
              refine x_callU (ν := M_Lm_afterNodeAccess) ⟨"java/util/HashMap", "afterNodeAccess", "(Ljava/util/HashMap$Node;)V"⟩ "java/util/HashMap" [vA a103] ok_M_Lm_afterNodeAccess oki_M_Lm_afterNodeAccess (k1.q gw93.k) rfl (sel_in (qm_9 (i := 11) rfl rfl)) (qm_9 (i := 10) rfl rfl) (Or.inl (by decide +kernel)) (by decide) (qm_9 (i := 8) rfl rfl) (show _ = some 1 from by decide +kernel) rfl ⟨Nat.le_of_ble_eq_true rfl, Nat.le_of_ble_eq_true rfl⟩ (Nat.le_of_ble_eq_true rfl) rfl d_Hm_putVal_253 (Nat.zero_le _) (Nat.zero_le _) (DV.k h (fun w126 gw126 h => (?_ : WD _ _ 256 _ _ _ _ _ _)))
              refine x_aloadP (wR w93 a103 2) d_Hm_putVal_256 rfl (?_ : WD _ _ 258 _ _ _ _ _ _)
              exact x_areturn (wR w93 a103 2) rfl (Or.inl ⟨_, rfl⟩) d_Hm_putVal_258 h
            · replace h := h.2 c124
              refine x_aloadP (wR w93 a103 2) d_Hm_putVal_239 rfl (?_ : WD _ _ 241 _ _ _ _ _ _)
              refine x_ifnonnull 250 d_Hm_putVal_241 rfl ⟨fun e129 => (?_ : WD _ _ 244 _ _ _ _ _ _), fun a128 e129 => (?_ : WD _ _ 250 _ _ _ _ _ _)⟩
              · replace h := h.1 e129
                rw [e129]
                refine x_aloadP (some a103) d_Hm_putVal_244 rfl (?_ : WD _ _ 246 _ _ _ _ _ _)
                refine x_aload_nP (some x3) d_Hm_putVal_246 rfl (?_ : WD _ _ 247 _ _ _ _ _ _)
                obtain ⟨k130, h⟩ := h
                refine x_putP (ref := "java/util/HashMap$Node") (j := 2) (some x3) 2 k130 clk_21 (by decide) (qm_7 (i := 169) rfl rfl) (Or.inl rfl) (Or.inl rfl) tyX24_ok rfl nmX24 d_Hm_putVal_247 rfl rfl (nar_P (by first | exact Or.inl ⟨_, rfl⟩ | exact Or.inr ⟨_, rfl⟩) _) (fit_P (by first | exact Or.inl ⟨_, rfl⟩ | exact Or.inr ⟨_, rfl⟩) _) (?_ : WD _ _ 250 _ _ _ _ _ _)
                refine x_aload_nP (some x0) d_Hm_putVal_250 rfl (?_ : WD _ _ 251 _ _ _ _ _ _)
                refine x_aloadP (some a103) d_Hm_putVal_251 rfl (?_ : WD _ _ 253 _ _ _ _ _ _)
                refine x_callU (ν := M_Lm_afterNodeAccess) ⟨"java/util/HashMap", "afterNodeAccess", "(Ljava/util/HashMap$Node;)V"⟩ "java/util/HashMap" [vA a103] ok_M_Lm_afterNodeAccess oki_M_Lm_afterNodeAccess (k1.q gw93.k) rfl (sel_in (qm_9 (i := 11) rfl rfl)) (qm_9 (i := 10) rfl rfl) (Or.inl (by decide +kernel)) (by decide) (qm_9 (i := 8) rfl rfl) (show _ = some 1 from by decide +kernel) rfl ⟨Nat.le_of_ble_eq_true rfl, Nat.le_of_ble_eq_true rfl⟩ (Nat.le_of_ble_eq_true rfl) rfl d_Hm_putVal_253 (Nat.zero_le _) (Nat.zero_le _) (DV.k h (fun w131 gw131 h => (?_ : WD _ _ 256 _ _ _ _ _ _)))
                refine x_aloadP none d_Hm_putVal_256 rfl (?_ : WD _ _ 258 _ _ _ _ _ _)
                exact x_areturn none rfl (Or.inl ⟨_, rfl⟩) d_Hm_putVal_258 h
              · replace h := h.2 a128 e129
                rw [e129]
                refine x_aload_nP (some x0) d_Hm_putVal_250 rfl (?_ : WD _ _ 251 _ _ _ _ _ _)
                refine x_aloadP (some a103) d_Hm_putVal_251 rfl (?_ : WD _ _ 253 _ _ _ _ _ _)
                refine x_callU (ν := M_Lm_afterNodeAccess) ⟨"java/util/HashMap", "afterNodeAccess", "(Ljava/util/HashMap$Node;)V"⟩ "java/util/HashMap" [vA a103] ok_M_Lm_afterNodeAccess oki_M_Lm_afterNodeAccess (k1.q gw93.k) rfl (sel_in (qm_9 (i := 11) rfl rfl)) (qm_9 (i := 10) rfl rfl) (Or.inl (by decide +kernel)) (by decide) (qm_9 (i := 8) rfl rfl) (show _ = some 1 from by decide +kernel) rfl ⟨Nat.le_of_ble_eq_true rfl, Nat.le_of_ble_eq_true rfl⟩ (Nat.le_of_ble_eq_true rfl) rfl d_Hm_putVal_253 (Nat.zero_le _) (Nat.zero_le _) (DV.k h (fun w133 gw133 h => (?_ : WD _ _ 256 _ _ _ _ _ _)))
                refine x_aloadP (some a128) d_Hm_putVal_256 rfl (?_ : WD _ _ 258 _ _ _ _ _ _)
                exact x_areturn (some a128) rfl (Or.inl ⟨_, rfl⟩) d_Hm_putVal_258 h
          · replace h := h.2 c123
            exact h.elim
set_option maxRecDepth 20000 in
theorem e_In_stringSize {G : Gq} {K : Int → Wd → Prop} {w : Wd} {mc ms : Nat} (x0 : Int) (h : (x0 < 0 → WD G M_In_stringSize 16 [(0, vI x0), (1, vI 1), (2, vI (-10)), (3, vI 1)] [] w mc ms (yI K)) ∧ (¬ x0 < 0 → (inR (-x0)) ∧ WD G M_In_stringSize 16 [(0, vI (-x0)), (1, vI 0), (2, vI (-10)), (3, vI 1)] [] w mc ms (yI K))) : DI G M_In_stringSize [vI x0] w mc ms K := by
  refine DC.of ok_M_In_stringSize (ls := [(0, vI x0)]) rfl (Nat.le_of_ble_eq_true rfl) ?_
  refine x_iconst d_In_stringSize_0 (by decide) (?_ : WD _ _ 1 _ _ _ _ _ _)
  refine x_istore_n (ls' := [(1, vI 1), (0, vI x0)]) d_In_stringSize_1 rfl (by decide) rfl (?_ : WD _ _ 2 _ _ _ _ _ _)
  refine x_iload_n d_In_stringSize_2 rfl (?_ : WD _ _ 3 _ _ _ _ _ _)
  refine x_if_lt 11 d_In_stringSize_3 rfl ⟨fun c1 => (?_ : WD _ _ 11 _ _ _ _ _ _), fun c1 => (?_ : WD _ _ 6 _ _ _ _ _ _)⟩
  · replace h := h.1 c1
    refine x_bipush d_In_stringSize_11 (by decide) (by decide) (?_ : WD _ _ 13 _ _ _ _ _ _)
    refine x_istore_n (ls' := [(2, vI (-10)), (1, vI 1), (0, vI x0)]) d_In_stringSize_13 rfl (by decide) rfl (?_ : WD _ _ 14 _ _ _ _ _ _)
    refine x_iconst d_In_stringSize_14 (by decide) (?_ : WD _ _ 15 _ _ _ _ _ _)
    refine x_istore_n (ls' := [(3, vI 1), (2, vI (-10)), (1, vI 1), (0, vI x0)]) d_In_stringSize_15 rfl (by decide) rfl (?_ : WD _ _ 16 _ _ _ _ _ _)
    refine x_pick (ls' := [(0, vI x0), (1, vI 1), (2, vI (-10)), (3, vI 1)]) [3, 2, 1, 0] rfl ?_
    exact h
  · replace h := h.2 c1
    refine x_iconst d_In_stringSize_6 (by decide) (?_ : WD _ _ 7 _ _ _ _ _ _)
    refine x_istore_n (ls' := [(1, vI 0), (0, vI x0)]) d_In_stringSize_7 rfl (by decide) rfl (?_ : WD _ _ 8 _ _ _ _ _ _)
    refine x_iload_n d_In_stringSize_8 rfl (?_ : WD _ _ 9 _ _ _ _ _ _)
    obtain ⟨h2, h⟩ := h
    refine x_ineg d_In_stringSize_9 h2 (?_ : WD _ _ 10 _ _ _ _ _ _)
    refine x_istore_n (ls' := [(0, vI (-x0)), (1, vI 0)]) d_In_stringSize_10 rfl (by decide) rfl (?_ : WD _ _ 11 _ _ _ _ _ _)
    refine x_bipush d_In_stringSize_11 (by decide) (by decide) (?_ : WD _ _ 13 _ _ _ _ _ _)
    refine x_istore_n (ls' := [(2, vI (-10)), (0, vI (-x0)), (1, vI 0)]) d_In_stringSize_13 rfl (by decide) rfl (?_ : WD _ _ 14 _ _ _ _ _ _)
    refine x_iconst d_In_stringSize_14 (by decide) (?_ : WD _ _ 15 _ _ _ _ _ _)
    refine x_istore_n (ls' := [(3, vI 1), (2, vI (-10)), (0, vI (-x0)), (1, vI 0)]) d_In_stringSize_15 rfl (by decide) rfl (?_ : WD _ _ 16 _ _ _ _ _ _)
    refine x_pick (ls' := [(0, vI (-x0)), (1, vI 0), (2, vI (-10)), (3, vI 1)]) [2, 3, 1, 0] rfl ?_
    exact h
set_option maxRecDepth 20000 in
theorem l_In_stringSize_1 {G : Gq} {K : Int → Wd → Prop} {w : Wd} {rc rs : Nat} (x0 : Int) (x1 : Int) (x2 : Int) (x3 : Int) (h : (10 ≤ x3 → (inR (10 + x1)) ∧ K (10 + x1) w) ∧ (¬ 10 ≤ x3 → (x0 ≤ x2 → (inR (10 * x2)) ∧ (inR (x3 + 1)) ∧ WD G M_In_stringSize 16 [(0, vI x0), (1, vI x1), (2, vI (10 * x2)), (3, vI (x3 + 1))] [] w rc rs (yI K)) ∧ (¬ x0 ≤ x2 → (inR (x3 + x1)) ∧ K (x3 + x1) w))) : WD G M_In_stringSize 16 [(0, vI x0), (1, vI x1), (2, vI x2), (3, vI x3)] [] w rc rs (yI K) := by
  refine x_iload_n d_In_stringSize_16 rfl (?_ : WD _ _ 17 _ _ _ _ _ _)
  refine x_bipush d_In_stringSize_17 (by decide) (by decide) (?_ : WD _ _ 19 _ _ _ _ _ _)
  refine x_icmp_ge 42 d_In_stringSize_19 rfl ⟨fun c3 => (?_ : WD _ _ 42 _ _ _ _ _ _), fun c3 => (?_ : WD _ _ 22 _ _ _ _ _ _)⟩
  · replace h := h.1 c3
    refine x_bipush d_In_stringSize_42 (by decide) (by decide) (?_ : WD _ _ 44 _ _ _ _ _ _)
    refine x_iload_n d_In_stringSize_44 rfl (?_ : WD _ _ 45 _ _ _ _ _ _)
    obtain ⟨h4, h⟩ := h
    refine x_iadd d_In_stringSize_45 h4 (?_ : WD _ _ 46 _ _ _ _ _ _)
    exact x_ireturn rfl d_In_stringSize_46 h
  · replace h := h.2 c3
    refine x_iload_n d_In_stringSize_22 rfl (?_ : WD _ _ 23 _ _ _ _ _ _)
    refine x_iload_n d_In_stringSize_23 rfl (?_ : WD _ _ 24 _ _ _ _ _ _)
    refine x_icmp_le 31 d_In_stringSize_24 rfl ⟨fun c5 => (?_ : WD _ _ 31 _ _ _ _ _ _), fun c5 => (?_ : WD _ _ 27 _ _ _ _ _ _)⟩
    · replace h := h.1 c5
      refine x_bipush d_In_stringSize_31 (by decide) (by decide) (?_ : WD _ _ 33 _ _ _ _ _ _)
      refine x_iload_n d_In_stringSize_33 rfl (?_ : WD _ _ 34 _ _ _ _ _ _)
      obtain ⟨h6, h⟩ := h
      refine x_imul d_In_stringSize_34 h6 (?_ : WD _ _ 35 _ _ _ _ _ _)
      refine x_istore_n (ls' := [(2, vI (10 * x2)), (0, vI x0), (1, vI x1), (3, vI x3)]) d_In_stringSize_35 rfl (by decide) rfl (?_ : WD _ _ 36 _ _ _ _ _ _)
      obtain ⟨h7, h⟩ := h
      refine x_iinc (ls' := [(3, vI (x3 + 1)), (2, vI (10 * x2)), (0, vI x0), (1, vI x1)]) d_In_stringSize_36 rfl h7 (by decide) rfl (?_ : WD _ _ 39 _ _ _ _ _ _)
      refine x_goto 16 d_In_stringSize_39 rfl ?_
      refine x_pick (ls' := [(0, vI x0), (1, vI x1), (2, vI (10 * x2)), (3, vI (x3 + 1))]) [2, 3, 1, 0] rfl ?_
      exact h
    · replace h := h.2 c5
      refine x_iload_n d_In_stringSize_27 rfl (?_ : WD _ _ 28 _ _ _ _ _ _)
      refine x_iload_n d_In_stringSize_28 rfl (?_ : WD _ _ 29 _ _ _ _ _ _)
      obtain ⟨h8, h⟩ := h
      refine x_iadd d_In_stringSize_29 h8 (?_ : WD _ _ 30 _ _ _ _ _ _)
      exact x_ireturn rfl d_In_stringSize_30 h
set_option maxRecDepth 20000 in
theorem e_As_ensureCapacityInternal {G : Gq} {K : Wd → Prop} {w : Wd} {mc ms : Nat} (x0 : Nat) (x1 : Int) (h : (Is G w x0 (kO 17)) ∧ ∃ a2 : Nat, (wR w x0 0) = some a2 ∧ (∃ n4 : Nat, ((Is G w a2 (kA 1 n4)) ∧ (inR (n4 : Int)) ∧ ((wI w x0 1) = 0) ∧ (inR (x1 - (ishrq (n4 : Int) 0))) ∧ ((x1 - (ishrq (n4 : Int) 0)) ≤ 0 → K w) ∧ (¬ (x1 - (ishrq (n4 : Int) 0)) ≤ 0 → DI G M_As_newCapacity [vA x0, vI x1] w 0 0 (fun v11 w10 => ((wI w10 x0 1) = 0) ∧ ∃ a13 : Nat, (wR w x0 0) = some a13 ∧ (∃ c15 s16 : Nat, c15 ≤ mc ∧ s16 ≤ ms ∧ (DP G M_Ar_copyOf_9075b [vA a13, vI (ishlq v11 0)] w10 c15 s16 (fun v20 w19 => (Ow w19 x0 (kO 17)) ∧ K (uR w19 x0 0 v20))))))))) : DV G M_As_ensureCapacityInternal [vA x0, vI x1] w mc ms K := by
  refine DC.of ok_M_As_ensureCapacityInternal (ls := [(0, vA x0), (1, vI x1)]) rfl (Nat.le_of_ble_eq_true rfl) ?_
  refine x_aload_nP (some x0) d_As_ensureCapacityInternal_0 rfl (?_ : WD _ _ 1 _ _ _ _ _ _)
  obtain ⟨k1, h⟩ := h
  refine x_getP (ref := "java/lang/AbstractStringBuilder") (j := 0) 0 k1 clk_17 (by decide) (qm_3 (i := 206) rfl rfl) (Or.inl rfl) rfl rfl d_As_ensureCapacityInternal_1 (y := (wR w x0 0)) rfl (?_ : WD _ _ 4 _ _ _ _ _ _)
  obtain ⟨a2, e3, h⟩ := h
  rw [e3]
  obtain ⟨n4, h⟩ := h
  obtain ⟨k5, h⟩ := h
  obtain ⟨h6, h⟩ := h
  refine x_alenA k5 (fun _ => rfl) h6 d_As_ensureCapacityInternal_4 (?_ : WD _ _ 5 _ _ _ _ _ _)
  refine x_aload_nP (some x0) d_As_ensureCapacityInternal_5 rfl (?_ : WD _ _ 6 _ _ _ _ _ _)
  obtain ⟨h7, h⟩ := h
  refine x_getI (ref := "java/lang/AbstractStringBuilder") (j := 1) 1 k1 clk_17 (by decide) (qm_3 (i := 207) rfl rfl) (Or.inl rfl) rfl rfl d_As_ensureCapacityInternal_6 (y := 0) (h7) (?_ : WD _ _ 9 _ _ _ _ _ _)
  refine x_ishrq d_As_ensureCapacityInternal_9 (?_ : WD _ _ 10 _ _ _ _ _ _)
  refine x_istore_n (ls' := [(2, vI (ishrq (n4 : Int) 0)), (0, vA x0), (1, vI x1)]) d_As_ensureCapacityInternal_10 rfl (by decide) rfl (?_ : WD _ _ 11 _ _ _ _ _ _)
  refine x_iload_n d_As_ensureCapacityInternal_11 rfl (?_ : WD _ _ 12 _ _ _ _ _ _)
  refine x_iload_n d_As_ensureCapacityInternal_12 rfl (?_ : WD _ _ 13 _ _ _ _ _ _)
  obtain ⟨h8, h⟩ := h
  refine x_isub d_As_ensureCapacityInternal_13 h8 (?_ : WD _ _ 14 _ _ _ _ _ _)
  refine x_if_le 38 d_As_ensureCapacityInternal_14 rfl ⟨fun c9 => (?_ : WD _ _ 38 _ _ _ _ _ _), fun c9 => (?_ : WD _ _ 17 _ _ _ _ _ _)⟩
  · replace h := h.1 c9
    exact x_return rfl d_As_ensureCapacityInternal_38 h
  · replace h := h.2 c9
    refine x_aload_nP (some x0) d_As_ensureCapacityInternal_17 rfl (?_ : WD _ _ 18 _ _ _ _ _ _)
    refine x_aload_nP (some x0) d_As_ensureCapacityInternal_18 rfl (?_ : WD _ _ 19 _ _ _ _ _ _)
    refine x_getP (ref := "java/lang/AbstractStringBuilder") (j := 0) 0 k1 clk_17 (by decide) (qm_3 (i := 206) rfl rfl) (Or.inl rfl) rfl rfl d_As_ensureCapacityInternal_19 (y := (wR w x0 0)) rfl (?_ : WD _ _ 22 _ _ _ _ _ _)
    refine x_aload_nP (some x0) d_As_ensureCapacityInternal_22 rfl (?_ : WD _ _ 23 _ _ _ _ _ _)
    refine x_iload_n d_As_ensureCapacityInternal_23 rfl (?_ : WD _ _ 24 _ _ _ _ _ _)
    refine x_callU (ν := M_As_newCapacity) ⟨"java/lang/AbstractStringBuilder", "newCapacity", "(I)I"⟩ "java/lang/AbstractStringBuilder" [vI x1] ok_M_As_newCapacity oki_M_As_newCapacity k1 rfl (sel_pv (by decide) (qm_3 (i := 189) rfl rfl) (by decide +kernel) (qm_4 (i := 12) rfl rfl) (qm_4 (i := 29) rfl rfl) rfl) (qm_10 (i := 176) rfl rfl) (Or.inr (Or.inl rfl)) (by decide) (qm_4 (i := 10) rfl rfl) (show _ = some 1 from by decide +kernel) rfl ⟨Nat.le_of_ble_eq_true rfl, Nat.le_of_ble_eq_true rfl⟩ (Nat.le_of_ble_eq_true rfl) rfl d_As_ensureCapacityInternal_24 (Nat.zero_le _) (Nat.zero_le _) (DI.k h (fun v11 w10 gw10 h => (?_ : WD _ _ 27 _ _ _ _ _ _)))
    refine x_aload_nP (some x0) d_As_ensureCapacityInternal_27 rfl (?_ : WD _ _ 28 _ _ _ _ _ _)
    obtain ⟨h12, h⟩ := h
    refine x_getI (ref := "java/lang/AbstractStringBuilder") (j := 1) 1 (k1.q gw10.k) clk_17 (by decide) (qm_3 (i := 207) rfl rfl) (Or.inl rfl) rfl rfl d_As_ensureCapacityInternal_28 (y := 0) (h12) (?_ : WD _ _ 31 _ _ _ _ _ _)
    refine x_ishlq d_As_ensureCapacityInternal_31 (?_ : WD _ _ 32 _ _ _ _ _ _)
    obtain ⟨a13, e14, h⟩ := h
    rw [e14]
    obtain ⟨c15, s16, h17, h18, h⟩ := h
    refine x_callS (ν := M_Ar_copyOf_9075b) [vA a13, vI (ishlq v11 0)] ok_M_Ar_copyOf_9075b oks_M_Ar_copyOf_9075b (qm_4 (i := 16) rfl rfl) np_M_Ar_copyOf_9075b rfl ⟨Nat.le_of_ble_eq_true rfl, Nat.le_of_ble_eq_true rfl⟩ (Nat.le_of_ble_eq_true rfl) rfl d_As_ensureCapacityInternal_32 h17 h18 (DP.k h (fun v20 w19 gw19 h => (?_ : WD _ _ 35 _ _ _ _ _ _)))
    obtain ⟨k21, h⟩ := h
    refine x_putP (ref := "java/lang/AbstractStringBuilder") (j := 0) v20 0 k21 clk_17 (by decide) (qm_3 (i := 206) rfl rfl) (Or.inl rfl) (Or.inl rfl) tyJ4_ok rfl nmJ4 d_As_ensureCapacityInternal_35 rfl rfl (nar_P (by first | exact Or.inl ⟨_, rfl⟩ | exact Or.inr ⟨_, rfl⟩) _) (fit_P (by first | exact Or.inl ⟨_, rfl⟩ | exact Or.inr ⟨_, rfl⟩) _) (?_ : WD _ _ 38 _ _ _ _ _ _)
    exact x_return rfl d_As_ensureCapacityInternal_38 h
set_option maxRecDepth 20000 in
theorem e_As_isLatin1 {G : Gq} {K : Int → Wd → Prop} {w : Wd} {mc ms : Nat} (x0 : Nat) (h : (Is G w x0 (kO 17)) ∧ ((wI w x0 1) = 0) ∧ K 1 w) : DI G M_As_isLatin1 [vA x0] w mc ms K := by
  refine DC.of ok_M_As_isLatin1 (ls := [(0, vA x0)]) rfl (Nat.le_of_ble_eq_true rfl) ?_
  refine x_getsI 1 (List.mem_of_getElem? (i := 5) rfl) (by decide) (qm_3 (i := 197) rfl rfl) d_As_isLatin1_0 (?_ : WD _ _ 3 _ _ _ _ _ _)
  refine x_if_eq 17 d_As_isLatin1_3 rfl ⟨fun hc => absurd hc (by decide), fun hc => (?_ : WD _ _ 6 _ _ _ _ _ _)⟩
  refine x_aload_nP (some x0) d_As_isLatin1_6 rfl (?_ : WD _ _ 7 _ _ _ _ _ _)
  obtain ⟨k1, h⟩ := h
  obtain ⟨h2, h⟩ := h
  refine x_getI (ref := "java/lang/AbstractStringBuilder") (j := 1) 1 k1 clk_17 (by decide) (qm_3 (i := 207) rfl rfl) (Or.inl rfl) rfl rfl d_As_isLatin1_7 (y := 0) (h2) (?_ : WD _ _ 10 _ _ _ _ _ _)
  refine x_if_ne 17 d_As_isLatin1_10 rfl ⟨fun hc => absurd rfl hc, fun hc => (?_ : WD _ _ 13 _ _ _ _ _ _)⟩
  refine x_iconst d_As_isLatin1_13 (by decide) (?_ : WD _ _ 14 _ _ _ _ _ _)
  refine x_goto 18 d_As_isLatin1_14 rfl ?_
  exact x_zreturn rfl d_As_isLatin1_18 (by decide) h
set_option maxRecDepth 20000 in
theorem e_In_getChars {G : Gq} {K : Int → Wd → Prop} {w : Wd} {mc ms : Nat} (x0 : Int) (x1 : Int) (x2 : Nat) (h : (0 ≤ x0 → (inR (-x0)) ∧ WD G M_In_getChars 22 [(0, vI (-x0)), (2, vA x2), (5, vI x1), (6, vI 0)] [] w mc ms (yI K)) ∧ (¬ 0 ≤ x0 → WD G M_In_getChars 22 [(0, vI x0), (2, vA x2), (5, vI x1), (6, vI 1)] [] w mc ms (yI K))) : DI G M_In_getChars [vI x0, vI x1, vA x2] w mc ms K := by
  refine DC.of ok_M_In_getChars (ls := [(0, vI x0), (1, vI x1), (2, vA x2)]) rfl (Nat.le_of_ble_eq_true rfl) ?_
  refine x_iload_n d_In_getChars_0 rfl (?_ : WD _ _ 1 _ _ _ _ _ _)
  refine x_istore (ls' := [(5, vI x1), (0, vI x0), (1, vI x1), (2, vA x2)]) d_In_getChars_1 (by decide) rfl (?_ : WD _ _ 3 _ _ _ _ _ _)
  refine x_iload_n d_In_getChars_3 rfl (?_ : WD _ _ 4 _ _ _ _ _ _)
  refine x_if_ge 11 d_In_getChars_4 rfl ⟨fun c1 => (?_ : WD _ _ 11 _ _ _ _ _ _), fun c1 => (?_ : WD _ _ 7 _ _ _ _ _ _)⟩
  · replace h := h.1 c1
    refine x_iconst d_In_getChars_11 (by decide) (?_ : WD _ _ 12 _ _ _ _ _ _)
    refine x_istore (ls' := [(6, vI 0), (5, vI x1), (0, vI x0), (1, vI x1), (2, vA x2)]) d_In_getChars_12 (by decide) rfl (?_ : WD _ _ 14 _ _ _ _ _ _)
    refine x_iload d_In_getChars_14 rfl (?_ : WD _ _ 16 _ _ _ _ _ _)
    refine x_if_ne 22 d_In_getChars_16 rfl ⟨fun hc => absurd rfl hc, fun hc => (?_ : WD _ _ 19 _ _ _ _ _ _)⟩
    refine x_iload_n d_In_getChars_19 rfl (?_ : WD _ _ 20 _ _ _ _ _ _)
    obtain ⟨h2, h⟩ := h
    refine x_ineg d_In_getChars_20 h2 (?_ : WD _ _ 21 _ _ _ _ _ _)
    refine x_istore_n (ls' := [(0, vI (-x0)), (6, vI 0), (5, vI x1), (1, vI x1), (2, vA x2)]) d_In_getChars_21 rfl (by decide) rfl (?_ : WD _ _ 22 _ _ _ _ _ _)
    refine x_pick (ls' := [(0, vI (-x0)), (2, vA x2), (5, vI x1), (6, vI 0)]) [0, 4, 2, 1] rfl ?_
    exact h
  · replace h := h.2 c1
    refine x_iconst d_In_getChars_7 (by decide) (?_ : WD _ _ 8 _ _ _ _ _ _)
    refine x_goto 12 d_In_getChars_8 rfl ?_
    refine x_istore (ls' := [(6, vI 1), (5, vI x1), (0, vI x0), (1, vI x1), (2, vA x2)]) d_In_getChars_12 (by decide) rfl (?_ : WD _ _ 14 _ _ _ _ _ _)
    refine x_iload d_In_getChars_14 rfl (?_ : WD _ _ 16 _ _ _ _ _ _)
    refine x_if_ne 22 d_In_getChars_16 rfl ⟨fun hc => (?_ : WD _ _ 22 _ _ _ _ _ _), fun hc => absurd hc (by decide)⟩
    refine x_pick (ls' := [(0, vI x0), (2, vA x2), (5, vI x1), (6, vI 1)]) [2, 4, 1, 0] rfl ?_
    exact h
set_option maxRecDepth 20000 in
theorem l_In_getChars_1 {G : Gq} {K : Int → Wd → Prop} {w : Wd} {rc rs : Nat} (x0 : Int) (x2 : Nat) (x5 : Int) (x6 : Int) (h : ((-100) < x0 → (inR (x5 + (-1))) ∧ (inR (-x0)) ∧ (0 ≤ (-x0)) ∧ ((-x0) < (100 : Int)) ∧ ∃ n9 : Nat, ((Ow w x2 (kA 1 n9)) ∧ (0 ≤ (x5 + (-1))) ∧ ((x5 + (-1)) < (n9 : Int)) ∧ (-128 ≤ (wI w (xa G 259) (-x0))) ∧ ((wI w (xa G 259) (-x0)) ≤ 127) ∧ ((-9) ≤ x0 → (x6 = 0 → K (x5 + (-1)) (uI w x2 (x5 + (-1)) (wI w (xa G 259) (-x0)))) ∧ (¬ x6 = 0 → (inR ((x5 + (-1)) + (-1))) ∧ (0 ≤ ((x5 + (-1)) + (-1))) ∧ (((x5 + (-1)) + (-1)) < (n9 : Int)) ∧ K ((x5 + (-1)) + (-1)) (uI (uI w x2 (x5 + (-1)) (wI w (xa G 259) (-x0))) x2 ((x5 + (-1)) + (-1)) 45))) ∧ (¬ (-9) ≤ x0 → (inR ((x5 + (-1)) + (-1))) ∧ (0 ≤ ((x5 + (-1)) + (-1))) ∧ (((x5 + (-1)) + (-1)) < (n9 : Int)) ∧ (-128 ≤ (wI (uI w x2 (x5 + (-1)) (wI w (xa G 259) (-x0))) (xa G 258) (-x0))) ∧ ((wI (uI w x2 (x5 + (-1)) (wI w (xa G 259) (-x0))) (xa G 258) (-x0)) ≤ 127) ∧ (x6 = 0 → K ((x5 + (-1)) + (-1)) (uI (uI w x2 (x5 + (-1)) (wI w (xa G 259) (-x0))) x2 ((x5 + (-1)) + (-1)) (wI (uI w x2 (x5 + (-1)) (wI w (xa G 259) (-x0))) (xa G 258) (-x0)))) ∧ (¬ x6 = 0 → (inR (((x5 + (-1)) + (-1)) + (-1))) ∧ (0 ≤ (((x5 + (-1)) + (-1)) + (-1))) ∧ ((((x5 + (-1)) + (-1)) + (-1)) < (n9 : Int)) ∧ K (((x5 + (-1)) + (-1)) + (-1)) (uI (uI (uI w x2 (x5 + (-1)) (wI w (xa G 259) (-x0))) x2 ((x5 + (-1)) + (-1)) (wI (uI w x2 (x5 + (-1)) (wI w (xa G 259) (-x0))) (xa G 258) (-x0))) x2 (((x5 + (-1)) + (-1)) + (-1)) 45))))) ∧ (¬ (-100) < x0 → (inR (x0.tdiv 100)) ∧ (inR ((x0.tdiv 100) * 100)) ∧ (inR (((x0.tdiv 100) * 100) - x0)) ∧ (inR (x5 + (-1))) ∧ (0 ≤ (((x0.tdiv 100) * 100) - x0)) ∧ ((((x0.tdiv 100) * 100) - x0) < (100 : Int)) ∧ ∃ n37 : Nat, ((Ow w x2 (kA 1 n37)) ∧ (0 ≤ (x5 + (-1))) ∧ ((x5 + (-1)) < (n37 : Int)) ∧ (-128 ≤ (wI w (xa G 259) (((x0.tdiv 100) * 100) - x0))) ∧ ((wI w (xa G 259) (((x0.tdiv 100) * 100) - x0)) ≤ 127) ∧ (inR ((x5 + (-1)) + (-1))) ∧ (0 ≤ ((x5 + (-1)) + (-1))) ∧ (((x5 + (-1)) + (-1)) < (n37 : Int)) ∧ (-128 ≤ (wI (uI w x2 (x5 + (-1)) (wI w (xa G 259) (((x0.tdiv 100) * 100) - x0))) (xa G 258) (((x0.tdiv 100) * 100) - x0))) ∧ ((wI (uI w x2 (x5 + (-1)) (wI w (xa G 259) (((x0.tdiv 100) * 100) - x0))) (xa G 258) (((x0.tdiv 100) * 100) - x0)) ≤ 127) ∧ WD G M_In_getChars 22 [(0, vI (x0.tdiv 100)), (2, vA x2), (5, vI ((x5 + (-1)) + (-1))), (6, vI x6)] [] (uI (uI w x2 (x5 + (-1)) (wI w (xa G 259) (((x0.tdiv 100) * 100) - x0))) x2 ((x5 + (-1)) + (-1)) (wI (uI w x2 (x5 + (-1)) (wI w (xa G 259) (((x0.tdiv 100) * 100) - x0))) (xa G 258) (((x0.tdiv 100) * 100) - x0))) rc rs (yI K)))) : WD G M_In_getChars 22 [(0, vI x0), (2, vA x2), (5, vI x5), (6, vI x6)] [] w rc rs (yI K) := by
  refine x_iload_n d_In_getChars_22 rfl (?_ : WD _ _ 23 _ _ _ _ _ _)
  refine x_bipush d_In_getChars_23 (by decide) (by decide) (?_ : WD _ _ 25 _ _ _ _ _ _)
  refine x_icmp_gt 72 d_In_getChars_25 rfl ⟨fun c3 => (?_ : WD _ _ 72 _ _ _ _ _ _), fun c3 => (?_ : WD _ _ 28 _ _ _ _ _ _)⟩
  · replace h := h.1 c3
    refine x_aload_nP (some x2) d_In_getChars_72 rfl (?_ : WD _ _ 73 _ _ _ _ _ _)
    obtain ⟨h4, h⟩ := h
    refine x_iinc (ls' := [(5, vI (x5 + (-1))), (0, vI x0), (2, vA x2), (6, vI x6)]) d_In_getChars_73 rfl h4 (by decide) rfl (?_ : WD _ _ 76 _ _ _ _ _ _)
    refine x_iload d_In_getChars_76 rfl (?_ : WD _ _ 78 _ _ _ _ _ _)
    refine x_gets (i := 259) (List.mem_of_getElem? (i := 4) rfl) (qm_4 (i := 113) rfl rfl) d_In_getChars_78 (?_ : WD _ _ 81 _ _ _ _ _ _)
    refine x_iload_n d_In_getChars_81 rfl (?_ : WD _ _ 82 _ _ _ _ _ _)
    obtain ⟨h5, h⟩ := h
    refine x_ineg d_In_getChars_82 h5 (?_ : WD _ _ 83 _ _ _ _ _ _)
    refine WD.wf (fun _ hx_ _ => (?_ : WD _ _ 83 _ _ _ _ _ _))
    have k6 : Is G w (xa G 259) (kA 1 100) := hx_.is (by decide) rfl
    obtain ⟨h7, h⟩ := h
    obtain ⟨h8, h⟩ := h
    refine x_bald k6 d_In_getChars_83 h7 h8 (y := (wI w (xa G 259) (-x0))) rfl (?_ : WD _ _ 84 _ _ _ _ _ _)
    obtain ⟨n9, h⟩ := h
    obtain ⟨k10, h⟩ := h
    obtain ⟨h11, h⟩ := h
    obtain ⟨h12, h⟩ := h
    obtain ⟨h13, h⟩ := h
    obtain ⟨h14, h⟩ := h
    refine x_bast k10 d_In_getChars_84 h11 h12 h13 h14 (?_ : WD _ _ 85 _ _ _ _ _ _)
    refine x_iload_n d_In_getChars_85 rfl (?_ : WD _ _ 86 _ _ _ _ _ _)
    refine x_bipush d_In_getChars_86 (by decide) (by decide) (?_ : WD _ _ 88 _ _ _ _ _ _)
    refine x_icmp_ge 104 d_In_getChars_88 rfl ⟨fun c15 => (?_ : WD _ _ 104 _ _ _ _ _ _), fun c15 => (?_ : WD _ _ 91 _ _ _ _ _ _)⟩
    · replace h := h.1 c15
      refine x_iload d_In_getChars_104 rfl (?_ : WD _ _ 106 _ _ _ _ _ _)
      refine x_if_eq 118 d_In_getChars_106 rfl ⟨fun c16 => (?_ : WD _ _ 118 _ _ _ _ _ _), fun c16 => (?_ : WD _ _ 109 _ _ _ _ _ _)⟩
      · replace h := h.1 c16
        refine x_iload d_In_getChars_118 rfl (?_ : WD _ _ 120 _ _ _ _ _ _)
        exact x_ireturn rfl d_In_getChars_120 h
      · replace h := h.2 c16
        refine x_aload_nP (some x2) d_In_getChars_109 rfl (?_ : WD _ _ 110 _ _ _ _ _ _)
        obtain ⟨h17, h⟩ := h
        refine x_iinc (ls' := [(5, vI ((x5 + (-1)) + (-1))), (0, vI x0), (2, vA x2), (6, vI x6)]) d_In_getChars_110 rfl h17 (by decide) rfl (?_ : WD _ _ 113 _ _ _ _ _ _)
        refine x_iload d_In_getChars_113 rfl (?_ : WD _ _ 115 _ _ _ _ _ _)
        refine x_bipush d_In_getChars_115 (by decide) (by decide) (?_ : WD _ _ 117 _ _ _ _ _ _)
        obtain ⟨h18, h⟩ := h
        obtain ⟨h19, h⟩ := h
        refine x_bast k10 d_In_getChars_117 h18 h19 (by decide) (by decide) (?_ : WD _ _ 118 _ _ _ _ _ _)
        refine x_iload d_In_getChars_118 rfl (?_ : WD _ _ 120 _ _ _ _ _ _)
        exact x_ireturn rfl d_In_getChars_120 h
    · replace h := h.2 c15
      refine x_aload_nP (some x2) d_In_getChars_91 rfl (?_ : WD _ _ 92 _ _ _ _ _ _)
      obtain ⟨h20, h⟩ := h
      refine x_iinc (ls' := [(5, vI ((x5 + (-1)) + (-1))), (0, vI x0), (2, vA x2), (6, vI x6)]) d_In_getChars_92 rfl h20 (by decide) rfl (?_ : WD _ _ 95 _ _ _ _ _ _)
      refine x_iload d_In_getChars_95 rfl (?_ : WD _ _ 97 _ _ _ _ _ _)
      refine x_gets (i := 258) (List.mem_of_getElem? (i := 3) rfl) (qm_4 (i := 115) rfl rfl) d_In_getChars_97 (?_ : WD _ _ 100 _ _ _ _ _ _)
      refine x_iload_n d_In_getChars_100 rfl (?_ : WD _ _ 101 _ _ _ _ _ _)
      refine x_ineg d_In_getChars_101 h5 (?_ : WD _ _ 102 _ _ _ _ _ _)
      refine WD.wf (fun _ hx_ _ => (?_ : WD _ _ 102 _ _ _ _ _ _))
      have k21 : Is G (uI w x2 (x5 + (-1)) (wI w (xa G 259) (-x0))) (xa G 258) (kA 1 100) := hx_.is (by decide) rfl
      refine x_bald k21 d_In_getChars_102 h7 h8 (y := (wI (uI w x2 (x5 + (-1)) (wI w (xa G 259) (-x0))) (xa G 258) (-x0))) rfl (?_ : WD _ _ 103 _ _ _ _ _ _)
      obtain ⟨h22, h⟩ := h
      obtain ⟨h23, h⟩ := h
      obtain ⟨h24, h⟩ := h
      obtain ⟨h25, h⟩ := h
      refine x_bast k10 d_In_getChars_103 h22 h23 h24 h25 (?_ : WD _ _ 104 _ _ _ _ _ _)
      refine x_iload d_In_getChars_104 rfl (?_ : WD _ _ 106 _ _ _ _ _ _)
      refine x_if_eq 118 d_In_getChars_106 rfl ⟨fun c26 => (?_ : WD _ _ 118 _ _ _ _ _ _), fun c26 => (?_ : WD _ _ 109 _ _ _ _ _ _)⟩
      · replace h := h.1 c26
        refine x_iload d_In_getChars_118 rfl (?_ : WD _ _ 120 _ _ _ _ _ _)
        exact x_ireturn rfl d_In_getChars_120 h
      · replace h := h.2 c26
        refine x_aload_nP (some x2) d_In_getChars_109 rfl (?_ : WD _ _ 110 _ _ _ _ _ _)
        obtain ⟨h27, h⟩ := h
        refine x_iinc (ls' := [(5, vI (((x5 + (-1)) + (-1)) + (-1))), (0, vI x0), (2, vA x2), (6, vI x6)]) d_In_getChars_110 rfl h27 (by decide) rfl (?_ : WD _ _ 113 _ _ _ _ _ _)
        refine x_iload d_In_getChars_113 rfl (?_ : WD _ _ 115 _ _ _ _ _ _)
        refine x_bipush d_In_getChars_115 (by decide) (by decide) (?_ : WD _ _ 117 _ _ _ _ _ _)
        obtain ⟨h28, h⟩ := h
        obtain ⟨h29, h⟩ := h
        refine x_bast k10 d_In_getChars_117 h28 h29 (by decide) (by decide) (?_ : WD _ _ 118 _ _ _ _ _ _)
        refine x_iload d_In_getChars_118 rfl (?_ : WD _ _ 120 _ _ _ _ _ _)
        exact x_ireturn rfl d_In_getChars_120 h
  · replace h := h.2 c3
    refine x_iload_n d_In_getChars_28 rfl (?_ : WD _ _ 29 _ _ _ _ _ _)
    refine x_bipush d_In_getChars_29 (by decide) (by decide) (?_ : WD _ _ 31 _ _ _ _ _ _)
    obtain ⟨h30, h⟩ := h
    refine x_idiv d_In_getChars_31 (by decide) h30 (?_ : WD _ _ 32 _ _ _ _ _ _)
    refine x_istore_n (ls' := [(3, vI (x0.tdiv 100)), (0, vI x0), (2, vA x2), (5, vI x5), (6, vI x6)]) d_In_getChars_32 rfl (by decide) rfl (?_ : WD _ _ 33 _ _ _ _ _ _)
    refine x_iload_n d_In_getChars_33 rfl (?_ : WD _ _ 34 _ _ _ _ _ _)
    refine x_bipush d_In_getChars_34 (by decide) (by decide) (?_ : WD _ _ 36 _ _ _ _ _ _)
    obtain ⟨h31, h⟩ := h
    refine x_imul d_In_getChars_36 h31 (?_ : WD _ _ 37 _ _ _ _ _ _)
    refine x_iload_n d_In_getChars_37 rfl (?_ : WD _ _ 38 _ _ _ _ _ _)
    obtain ⟨h32, h⟩ := h
    refine x_isub d_In_getChars_38 h32 (?_ : WD _ _ 39 _ _ _ _ _ _)
    refine x_istore (ls' := [(4, vI (((x0.tdiv 100) * 100) - x0)), (3, vI (x0.tdiv 100)), (0, vI x0), (2, vA x2), (5, vI x5), (6, vI x6)]) d_In_getChars_39 (by decide) rfl (?_ : WD _ _ 41 _ _ _ _ _ _)
    refine x_iload_n d_In_getChars_41 rfl (?_ : WD _ _ 42 _ _ _ _ _ _)
    refine x_istore_n (ls' := [(0, vI (x0.tdiv 100)), (4, vI (((x0.tdiv 100) * 100) - x0)), (3, vI (x0.tdiv 100)), (2, vA x2), (5, vI x5), (6, vI x6)]) d_In_getChars_42 rfl (by decide) rfl (?_ : WD _ _ 43 _ _ _ _ _ _)
    refine x_aload_nP (some x2) d_In_getChars_43 rfl (?_ : WD _ _ 44 _ _ _ _ _ _)
    obtain ⟨h33, h⟩ := h
    refine x_iinc (ls' := [(5, vI (x5 + (-1))), (0, vI (x0.tdiv 100)), (4, vI (((x0.tdiv 100) * 100) - x0)), (3, vI (x0.tdiv 100)), (2, vA x2), (6, vI x6)]) d_In_getChars_44 rfl h33 (by decide) rfl (?_ : WD _ _ 47 _ _ _ _ _ _)
    refine x_iload d_In_getChars_47 rfl (?_ : WD _ _ 49 _ _ _ _ _ _)
    refine x_gets (i := 259) (List.mem_of_getElem? (i := 4) rfl) (qm_4 (i := 113) rfl rfl) d_In_getChars_49 (?_ : WD _ _ 52 _ _ _ _ _ _)
    refine x_iload d_In_getChars_52 rfl (?_ : WD _ _ 54 _ _ _ _ _ _)
    refine WD.wf (fun _ hx_ _ => (?_ : WD _ _ 54 _ _ _ _ _ _))
    have k34 : Is G w (xa G 259) (kA 1 100) := hx_.is (by decide) rfl
    obtain ⟨h35, h⟩ := h
    obtain ⟨h36, h⟩ := h
    refine x_bald k34 d_In_getChars_54 h35 h36 (y := (wI w (xa G 259) (((x0.tdiv 100) * 100) - x0))) rfl (?_ : WD _ _ 55 _ _ _ _ _ _)
    obtain ⟨n37, h⟩ := h
    obtain ⟨k38, h⟩ := h
    obtain ⟨h39, h⟩ := h
    obtain ⟨h40, h⟩ := h
    obtain ⟨h41, h⟩ := h
    obtain ⟨h42, h⟩ := h
    refine x_bast k38 d_In_getChars_55 h39 h40 h41 h42 (?_ : WD _ _ 56 _ _ _ _ _ _)
    refine x_aload_nP (some x2) d_In_getChars_56 rfl (?_ : WD _ _ 57 _ _ _ _ _ _)
    obtain ⟨h43, h⟩ := h
    refine x_iinc (ls' := [(5, vI ((x5 + (-1)) + (-1))), (0, vI (x0.tdiv 100)), (4, vI (((x0.tdiv 100) * 100) - x0)), (3, vI (x0.tdiv 100)), (2, vA x2), (6, vI x6)]) d_In_getChars_57 rfl h43 (by decide) rfl (?_ : WD _ _ 60 _ _ _ _ _ _)
    refine x_iload d_In_getChars_60 rfl (?_ : WD _ _ 62 _ _ _ _ _ _)
    refine x_gets (i := 258) (List.mem_of_getElem? (i := 3) rfl) (qm_4 (i := 115) rfl rfl) d_In_getChars_62 (?_ : WD _ _ 65 _ _ _ _ _ _)
    refine x_iload d_In_getChars_65 rfl (?_ : WD _ _ 67 _ _ _ _ _ _)
    refine WD.wf (fun _ hx_ _ => (?_ : WD _ _ 67 _ _ _ _ _ _))
    have k44 : Is G (uI w x2 (x5 + (-1)) (wI w (xa G 259) (((x0.tdiv 100) * 100) - x0))) (xa G 258) (kA 1 100) := hx_.is (by decide) rfl
    refine x_bald k44 d_In_getChars_67 h35 h36 (y := (wI (uI w x2 (x5 + (-1)) (wI w (xa G 259) (((x0.tdiv 100) * 100) - x0))) (xa G 258) (((x0.tdiv 100) * 100) - x0))) rfl (?_ : WD _ _ 68 _ _ _ _ _ _)
    obtain ⟨h45, h⟩ := h
    obtain ⟨h46, h⟩ := h
    obtain ⟨h47, h⟩ := h
    obtain ⟨h48, h⟩ := h
    refine x_bast k38 d_In_getChars_68 h45 h46 h47 h48 (?_ : WD _ _ 69 _ _ _ _ _ _)
    refine x_goto 22 d_In_getChars_69 rfl ?_
    refine x_pick (ls' := [(0, vI (x0.tdiv 100)), (2, vA x2), (5, vI ((x5 + (-1)) + (-1))), (6, vI x6)]) [1, 4, 0, 5] rfl ?_
    exact h
set_option maxRecDepth 20000 in
theorem e_As_putStringAt {G : Gq} {K : Wd → Prop} {w : Wd} {mc ms : Nat} (x0 : Nat) (x1 : Int) (x2 : Nat) (h : (Is G w x0 (kO 17)) ∧ DV G M_As_inflateIfNeededFor [vA x0, vA x2] w 0 0 (fun w2 => ((wI w2 x0 1) = 0) ∧ ∃ a5 : Nat, (wR w2 x0 0) = some a5 ∧ ((Is G w2 x2 (kO 18)) ∧ DV G M_Sg_getBytes [vA x2, vA a5, vI x1, vI 0] w2 0 0 (fun w8 => K w8)))) : DV G M_As_putStringAt [vA x0, vI x1, vA x2] w mc ms K := by
  refine DC.of ok_M_As_putStringAt (ls := [(0, vA x0), (1, vI x1), (2, vA x2)]) rfl (Nat.le_of_ble_eq_true rfl) ?_
  refine x_aload_nP (some x0) d_As_putStringAt_0 rfl (?_ : WD _ _ 1 _ _ _ _ _ _)
  refine x_aload_nP (some x2) d_As_putStringAt_1 rfl (?_ : WD _ _ 2 _ _ _ _ _ _)
  obtain ⟨k1, h⟩ := h
  refine x_callU (ν := M_As_inflateIfNeededFor) ⟨"java/lang/AbstractStringBuilder", "inflateIfNeededFor", "(Ljava/lang/String;)V"⟩ "java/lang/AbstractStringBuilder" [vA x2] ok_M_As_inflateIfNeededFor oki_M_As_inflateIfNeededFor k1 rfl (sel_pv (by decide) (qm_3 (i := 189) rfl rfl) (by decide +kernel) (qm_4 (i := 72) rfl rfl) (qm_4 (i := 29) rfl rfl) rfl) (qm_10 (i := 178) rfl rfl) (Or.inr (Or.inl rfl)) (by decide) (qm_4 (i := 70) rfl rfl) (show _ = some 1 from by decide +kernel) rfl ⟨Nat.le_of_ble_eq_true rfl, Nat.le_of_ble_eq_true rfl⟩ (Nat.le_of_ble_eq_true rfl) rfl d_As_putStringAt_2 (Nat.zero_le _) (Nat.zero_le _) (DV.k h (fun w2 gw2 h => (?_ : WD _ _ 5 _ _ _ _ _ _)))
  refine x_aload_nP (some x2) d_As_putStringAt_5 rfl (?_ : WD _ _ 6 _ _ _ _ _ _)
  refine x_aload_nP (some x0) d_As_putStringAt_6 rfl (?_ : WD _ _ 7 _ _ _ _ _ _)
  refine x_getP (ref := "java/lang/AbstractStringBuilder") (j := 0) 0 (k1.q gw2.k) clk_17 (by decide) (qm_3 (i := 206) rfl rfl) (Or.inl rfl) rfl rfl d_As_putStringAt_7 (y := (wR w2 x0 0)) rfl (?_ : WD _ _ 10 _ _ _ _ _ _)
  refine x_iload_n d_As_putStringAt_10 rfl (?_ : WD _ _ 11 _ _ _ _ _ _)
  refine x_aload_nP (some x0) d_As_putStringAt_11 rfl (?_ : WD _ _ 12 _ _ _ _ _ _)
  obtain ⟨h4, h⟩ := h
  refine x_getI (ref := "java/lang/AbstractStringBuilder") (j := 1) 1 (k1.q gw2.k) clk_17 (by decide) (qm_3 (i := 207) rfl rfl) (Or.inl rfl) rfl rfl d_As_putStringAt_12 (y := 0) (h4) (?_ : WD _ _ 15 _ _ _ _ _ _)
  obtain ⟨a5, e6, h⟩ := h
  rw [e6]
  obtain ⟨k7, h⟩ := h
  refine x_callV (ν := M_Sg_getBytes) [vA a5, vI x1, vI 0] ok_M_Sg_getBytes okv_M_Sg_getBytes k7 rfl rfl (qm_4 (i := 94) rfl rfl) np_M_Sg_getBytes rfl ⟨Nat.le_of_ble_eq_true rfl, Nat.le_of_ble_eq_true rfl⟩ (Nat.le_of_ble_eq_true rfl) rfl d_As_putStringAt_15 (Nat.zero_le _) (Nat.zero_le _) (DV.k h (fun w8 gw8 h => (?_ : WD _ _ 18 _ _ _ _ _ _)))
  exact x_return rfl d_As_putStringAt_18 h
set_option maxRecDepth 20000 in
theorem e_Sg_init_db425 {G : Gq} {K : Wd → Prop} {w : Wd} {mc ms : Nat} (x0 : Nat) (x1 : Nat) (x2 : Option Nat) (h : (Is G w x1 (kO 17)) ∧ DP G M_As_getValue [vA x1] w 0 0 (fun v3 w2 => DI G M_Sb_length [vA x1] w2 0 0 (fun v5 w4 => DI G M_As_isLatin1 [vA x1] w4 0 0 (fun v7 w6 => (v7 = 0 → False) ∧ (¬ v7 = 0 → (Ow w6 x0 (kO 18)) ∧ ∃ a10 : Nat, v3 = some a10 ∧ (∃ c12 s13 : Nat, c12 ≤ mc ∧ s13 ≤ ms ∧ (DP G M_Ar_copyOfRange [vA a10, vI 0, vI v5] (uI w6 x0 1 0) c12 s13 (fun v17 w16 => K (uR w16 x0 0 v17))))))))) : DV G M_Sg_init_db425 [vA x0, vA x1, vP x2] w mc ms K := by
  refine DC.of ok_M_Sg_init_db425 (ls := [(0, vA x0), (1, vA x1), (2, vP x2)]) rfl (Nat.le_of_ble_eq_true rfl) ?_
  refine x_aload_nP (some x0) d_Sg_init_db425_0 rfl (?_ : WD _ _ 1 _ _ _ _ _ _)
  refine x_obj d_Sg_init_db425_1 (qm_4 (i := 194) rfl rfl) (qm_1 (i := 58) rfl rfl) (qm_1 (i := 59) rfl rfl) ⟨Nat.le_of_ble_eq_true rfl, Nat.le_of_ble_eq_true rfl⟩ (?_ : WD _ _ 4 _ _ _ _ _ _)
  refine x_aload_nP (some x1) d_Sg_init_db425_4 rfl (?_ : WD _ _ 5 _ _ _ _ _ _)
  obtain ⟨k1, h⟩ := h
  refine x_callU (ν := M_As_getValue) ⟨"java/lang/AbstractStringBuilder", "getValue", "()[B"⟩ "java/lang/AbstractStringBuilder" [] ok_M_As_getValue oki_M_As_getValue k1 rfl (sel_in (qm_4 (i := 198) rfl rfl)) (qm_4 (i := 197) rfl rfl) (Or.inr (Or.inl rfl)) (by decide) (qm_4 (i := 195) rfl rfl) (show _ = some 0 from by decide +kernel) rfl ⟨Nat.le_of_ble_eq_true rfl, Nat.le_of_ble_eq_true rfl⟩ (Nat.le_of_ble_eq_true rfl) rfl d_Sg_init_db425_5 (Nat.zero_le _) (Nat.zero_le _) (DP.k h (fun v3 w2 gw2 h => (?_ : WD _ _ 8 _ _ _ _ _ _)))
  refine x_astore_nP v3 (ls' := [(3, vP v3), (0, vA x0), (1, vA x1), (2, vP x2)]) d_Sg_init_db425_8 rfl (by decide) rfl (?_ : WD _ _ 9 _ _ _ _ _ _)
  refine x_aload_nP (some x1) d_Sg_init_db425_9 rfl (?_ : WD _ _ 10 _ _ _ _ _ _)
  refine x_callU (ν := M_Sb_length) ⟨"java/lang/AbstractStringBuilder", "length", "()I"⟩ "java/lang/AbstractStringBuilder" [] ok_M_Sb_length oki_M_Sb_length (k1.q gw2.k) rfl (sel_in (qm_10 (i := 182) rfl rfl)) (qm_10 (i := 172) rfl rfl) (Or.inr (Or.inr ⟨_, _, _, (qm_3 (i := 228) rfl rfl), (qm_3 (i := 229) rfl rfl)⟩)) (by decide) (qm_4 (i := 200) rfl rfl) (show _ = some 0 from by decide +kernel) rfl ⟨Nat.le_of_ble_eq_true rfl, Nat.le_of_ble_eq_true rfl⟩ (Nat.le_of_ble_eq_true rfl) rfl d_Sg_init_db425_10 (Nat.zero_le _) (Nat.zero_le _) (DI.k h (fun v5 w4 gw4 h => (?_ : WD _ _ 13 _ _ _ _ _ _)))
  refine x_istore (ls' := [(4, vI v5), (3, vP v3), (0, vA x0), (1, vA x1), (2, vP x2)]) d_Sg_init_db425_13 (by decide) rfl (?_ : WD _ _ 15 _ _ _ _ _ _)
  refine x_aload_nP (some x1) d_Sg_init_db425_15 rfl (?_ : WD _ _ 16 _ _ _ _ _ _)
  refine x_callU (ν := M_As_isLatin1) ⟨"java/lang/AbstractStringBuilder", "isLatin1", "()Z"⟩ "java/lang/AbstractStringBuilder" [] ok_M_As_isLatin1 oki_M_As_isLatin1 ((k1.q gw2.k).q gw4.k) rfl (sel_in (qm_4 (i := 29) rfl rfl)) (qm_4 (i := 28) rfl rfl) (Or.inr (Or.inl rfl)) (by decide) (qm_4 (i := 201) rfl rfl) (show _ = some 0 from by decide +kernel) rfl ⟨Nat.le_of_ble_eq_true rfl, Nat.le_of_ble_eq_true rfl⟩ (Nat.le_of_ble_eq_true rfl) rfl d_Sg_init_db425_16 (Nat.zero_le _) (Nat.zero_le _) (DI.k h (fun v7 w6 gw6 h => (?_ : WD _ _ 19 _ _ _ _ _ _)))
  refine x_if_eq 41 d_Sg_init_db425_19 rfl ⟨fun c8 => (?_ : WD _ _ 41 _ _ _ _ _ _), fun c8 => (?_ : WD _ _ 22 _ _ _ _ _ _)⟩
  · replace h := h.1 c8
    exact h.elim
  · replace h := h.2 c8
    refine x_aload_nP (some x0) d_Sg_init_db425_22 rfl (?_ : WD _ _ 23 _ _ _ _ _ _)
    refine x_iconst d_Sg_init_db425_23 (by decide) (?_ : WD _ _ 24 _ _ _ _ _ _)
    obtain ⟨k9, h⟩ := h
    refine x_putI (ref := "java/lang/String") (j := 1) 1 k9 clk_18 (by decide) (qm_4 (i := 225) rfl rfl) (Or.inl rfl) (Or.inr ⟨rfl, rfl, rfl⟩) tyJ0_ok rfl nmJ0 d_Sg_init_db425_24 rfl rfl (fun _ => by decide +kernel) (by decide +kernel) (?_ : WD _ _ 27 _ _ _ _ _ _)
    refine x_aload_nP (some x0) d_Sg_init_db425_27 rfl (?_ : WD _ _ 28 _ _ _ _ _ _)
    refine x_aload_nP v3 d_Sg_init_db425_28 rfl (?_ : WD _ _ 29 _ _ _ _ _ _)
    refine x_iconst d_Sg_init_db425_29 (by decide) (?_ : WD _ _ 30 _ _ _ _ _ _)
    refine x_iload d_Sg_init_db425_30 rfl (?_ : WD _ _ 32 _ _ _ _ _ _)
    obtain ⟨a10, e11, h⟩ := h
    rw [e11]
    obtain ⟨c12, s13, h14, h15, h⟩ := h
    refine x_callS (ν := M_Ar_copyOfRange) [vA a10, vI 0, vI v5] ok_M_Ar_copyOfRange oks_M_Ar_copyOfRange (qm_4 (i := 202) rfl rfl) np_M_Ar_copyOfRange rfl ⟨Nat.le_of_ble_eq_true rfl, Nat.le_of_ble_eq_true rfl⟩ (Nat.le_of_ble_eq_true rfl) rfl d_Sg_init_db425_32 h14 h15 (DP.k h (fun v17 w16 gw16 h => (?_ : WD _ _ 35 _ _ _ _ _ _)))
    refine x_putP (ref := "java/lang/String") (j := 0) v17 0 (k9.q gw16.k) clk_18 (by decide) (qm_4 (i := 224) rfl rfl) (Or.inl rfl) (Or.inr ⟨rfl, rfl, rfl⟩) tyJ0_ok rfl nmJ0 d_Sg_init_db425_35 rfl rfl (nar_P (by first | exact Or.inl ⟨_, rfl⟩ | exact Or.inr ⟨_, rfl⟩) _) (fit_P (by first | exact Or.inl ⟨_, rfl⟩ | exact Or.inr ⟨_, rfl⟩) _) (?_ : WD _ _ 38 _ _ _ _ _ _)
    refine x_goto 97 d_Sg_init_db425_38 rfl ?_
    exact x_return rfl d_Sg_init_db425_97 h
set_option maxRecDepth 20000 in
theorem ed_Sg_checkIndex {G : Gq} {K : Wd → Prop} {w : Wd} {mc ms : Nat} (x0 : Int) (x1 : Int) (h : ∀ o1 : Value, o1.category = 1 → (DI G M_Pc_checkIndex [vI x0, vI x1, vO o1] w 0 0 (fun v3 w2 => K w2))) : DV G M_Sg_checkIndex [vI x0, vI x1] w mc ms K := by
  refine DC.of ok_M_Sg_checkIndex (ls := [(0, vI x0), (1, vI x1)]) rfl (Nat.le_of_ble_eq_true rfl) ?_
  refine x_iload_n d_Sg_checkIndex_0 rfl (?_ : WD _ _ 1 _ _ _ _ _ _)
  refine x_iload_n d_Sg_checkIndex_1 rfl (?_ : WD _ _ 2 _ _ _ _ _ _)
  refine x_getsO (qm_4 (i := 43) rfl rfl) d_Sg_checkIndex_2 (fun o1 hco1 => (?_ : WD _ _ 5 _ _ _ _ _ _))
  replace h := h o1 hco1
  refine x_callS (ν := M_Pc_checkIndex) [vI x0, vI x1, vO o1] ok_M_Pc_checkIndex oks_M_Pc_checkIndex (qm_4 (i := 144) rfl rfl) np_M_Pc_checkIndex rfl ⟨Nat.le_of_ble_eq_true rfl, Nat.le_of_ble_eq_true rfl⟩ (Nat.le_of_ble_eq_true rfl) rfl d_Sg_checkIndex_5 (Nat.zero_le _) (Nat.zero_le _) (DI.k h (fun v3 w2 gw2 h => (?_ : WD _ _ 8 _ _ _ _ _ _)))
  refine x_pop d_Sg_checkIndex_8 rfl (?_ : WD _ _ 9 _ _ _ _ _ _)
  exact x_return rfl d_Sg_checkIndex_9 h
set_option maxRecDepth 20000 in
theorem e_Al_rangeCheckForAdd {G : Gq} {K : Wd → Prop} {w : Wd} {mc ms : Nat} (x0 : Nat) (x1 : Int) (h : (Is G w x0 (kO 14)) ∧ ((wI w x0 2) < x1 → False) ∧ (¬ (wI w x0 2) < x1 → (0 ≤ x1 → K w) ∧ (¬ 0 ≤ x1 → False))) : DV G M_Al_rangeCheckForAdd [vA x0, vI x1] w mc ms K := by
  refine DC.of ok_M_Al_rangeCheckForAdd (ls := [(0, vA x0), (1, vI x1)]) rfl (Nat.le_of_ble_eq_true rfl) ?_
  refine x_iload_n d_Al_rangeCheckForAdd_0 rfl (?_ : WD _ _ 1 _ _ _ _ _ _)
  refine x_aload_nP (some x0) d_Al_rangeCheckForAdd_1 rfl (?_ : WD _ _ 2 _ _ _ _ _ _)
  obtain ⟨k1, h⟩ := h
  refine x_getI (ref := "java/util/ArrayList") (j := 2) 2 k1 clk_14 (by decide) (qm_2 (i := 142) rfl rfl) (Or.inl rfl) rfl rfl d_Al_rangeCheckForAdd_2 (y := (wI w x0 2)) rfl (?_ : WD _ _ 5 _ _ _ _ _ _)
  refine x_icmp_gt 12 d_Al_rangeCheckForAdd_5 rfl ⟨fun c2 => (?_ : WD _ _ 12 _ _ _ _ _ _), fun c2 => (?_ : WD _ _ 8 _ _ _ _ _ _)⟩
  · replace h := h.1 c2
    exact h.elim
  · replace h := h.2 c2
    refine x_iload_n d_Al_rangeCheckForAdd_8 rfl (?_ : WD _ _ 9 _ _ _ _ _ _)
    refine x_if_ge 25 d_Al_rangeCheckForAdd_9 rfl ⟨fun c3 => (?_ : WD _ _ 25 _ _ _ _ _ _), fun c3 => (?_ : WD _ _ 12 _ _ _ _ _ _)⟩
    · replace h := h.1 c3
      exact x_return rfl d_Al_rangeCheckForAdd_25 h
    · replace h := h.2 c3
      exact h.elim
set_option maxRecDepth 20000 in
theorem e_In_equals {G : Gq} {K : Int → Wd → Prop} {w : Wd} {mc ms : Nat} (x0 : Nat) (x1 : Nat) (h : (Is G w x1 (kO 16)) ∧ (Is G w x0 (kO 16)) ∧ DI G M_In_intValue [vA x1] w 0 0 (fun v4 w3 => (¬ (wI w x0 0) = v4 → K 0 w3) ∧ ((wI w x0 0) = v4 → K 1 w3))) : DI G M_In_equals [vA x0, vA x1] w mc ms K := by
  refine DC.of ok_M_In_equals (ls := [(0, vA x0), (1, vA x1)]) rfl (Nat.le_of_ble_eq_true rfl) ?_
  refine x_aload_nP (some x1) d_In_equals_0 rfl (?_ : WD _ _ 1 _ _ _ _ _ _)
  obtain ⟨k1, h⟩ := h
  refine x_inst k1 rfl (Or.inl rfl) (qm_6 (i := 8) rfl rfl) d_In_equals_1 (?_ : WD _ _ 4 _ _ _ _ _ _)
  refine x_if_eq 27 d_In_equals_4 rfl ⟨fun hc => absurd hc (by decide), fun hc => (?_ : WD _ _ 7 _ _ _ _ _ _)⟩
  refine x_aload_nP (some x0) d_In_equals_7 rfl (?_ : WD _ _ 8 _ _ _ _ _ _)
  obtain ⟨k2, h⟩ := h
  refine x_getI (ref := "java/lang/Integer") (j := 0) 0 k2 clk_16 (by decide) (qm_6 (i := 17) rfl rfl) (Or.inl rfl) rfl rfl d_In_equals_8 (y := (wI w x0 0)) rfl (?_ : WD _ _ 11 _ _ _ _ _ _)
  refine x_aload_nP (some x1) d_In_equals_11 rfl (?_ : WD _ _ 12 _ _ _ _ _ _)
  refine x_cast k1 rfl (Or.inl rfl) (qm_6 (i := 8) rfl rfl) d_In_equals_12 (?_ : WD _ _ 15 _ _ _ _ _ _)
  refine x_callV (ν := M_In_intValue) [] ok_M_In_intValue okv_M_In_intValue k1 rfl rfl (qm_6 (i := 54) rfl rfl) np_M_In_intValue rfl ⟨Nat.le_of_ble_eq_true rfl, Nat.le_of_ble_eq_true rfl⟩ (Nat.le_of_ble_eq_true rfl) rfl d_In_equals_15 (Nat.zero_le _) (Nat.zero_le _) (DI.k h (fun v4 w3 gw3 h => (?_ : WD _ _ 18 _ _ _ _ _ _)))
  refine x_icmp_ne 25 d_In_equals_18 rfl ⟨fun c5 => (?_ : WD _ _ 25 _ _ _ _ _ _), fun c5 => (?_ : WD _ _ 21 _ _ _ _ _ _)⟩
  · replace h := h.1 c5
    refine x_iconst d_In_equals_25 (by decide) (?_ : WD _ _ 26 _ _ _ _ _ _)
    exact x_zreturn rfl d_In_equals_26 (by decide) h
  · replace h := h.2 c5
    refine x_iconst d_In_equals_21 (by decide) (?_ : WD _ _ 22 _ _ _ _ _ _)
    refine x_goto 26 d_In_equals_22 rfl ?_
    exact x_zreturn rfl d_In_equals_26 (by decide) h
set_option maxRecDepth 20000 in
theorem e_Sl_canEncode {G : Gq} {K : Int → Wd → Prop} {w : Wd} {mc ms : Nat} (x0 : Int) (h : (255 < x0 → K 0 w) ∧ (¬ 255 < x0 → K 1 w)) : DI G M_Sl_canEncode [vI x0] w mc ms K := by
  refine DC.of ok_M_Sl_canEncode (ls := [(0, vI x0)]) rfl (Nat.le_of_ble_eq_true rfl) ?_
  refine x_iload_n d_Sl_canEncode_0 rfl (?_ : WD _ _ 1 _ _ _ _ _ _)
  refine x_sipush d_Sl_canEncode_1 (by decide) (by decide) (?_ : WD _ _ 4 _ _ _ _ _ _)
  refine x_icmp_gt 11 d_Sl_canEncode_4 rfl ⟨fun c1 => (?_ : WD _ _ 11 _ _ _ _ _ _), fun c1 => (?_ : WD _ _ 7 _ _ _ _ _ _)⟩
  · replace h := h.1 c1
    refine x_iconst d_Sl_canEncode_11 (by decide) (?_ : WD _ _ 12 _ _ _ _ _ _)
    exact x_zreturn rfl d_Sl_canEncode_12 (by decide) h
  · replace h := h.2 c1
    refine x_iconst d_Sl_canEncode_7 (by decide) (?_ : WD _ _ 8 _ _ _ _ _ _)
    refine x_goto 12 d_Sl_canEncode_8 rfl ?_
    exact x_zreturn rfl d_Sl_canEncode_12 (by decide) h
set_option maxRecDepth 20000 in
theorem e_Al_grow_92f84 {G : Gq} {K : Option Nat → Wd → Prop} {w : Wd} {mc ms : Nat} (x0 : Nat) (x1 : Int) (h : (Is G w x0 (kO 14)) ∧ ∃ a2 : Nat, (wR w x0 1) = some a2 ∧ (∃ n4 : Nat, ((Is G w a2 (kR 4 n4)) ∧ (inR (n4 : Int)) ∧ (0 < (n4 : Int) → (inR (x1 - (n4 : Int))) ∧ DI G M_Ss_newLength [vI (n4 : Int), vI (x1 - (n4 : Int)), vI (ishrq (n4 : Int) 1)] w 0 0 (fun v10 w9 => ∃ a11 : Nat, (wR w9 x0 1) = some a11 ∧ (∃ c13 s14 : Nat, c13 ≤ mc ∧ s14 ≤ ms ∧ (DP G M_Ar_copyOf_1904c [vA a11, vI v10] w9 c13 s14 (fun v18 w17 => (Ow w17 x0 (kO 14)) ∧ K v18 (uR w17 x0 1 v18)))))) ∧ (¬ 0 < (n4 : Int) → ((wR w x0 1) = (some (xa G 0)) → DI G M_Ma_max [vI 10, vI x1] w 0 0 (fun v22 w21 => ∃ n23 : Nat, v22 = (n23 : Int) ∧ ((n23 ≤ 100000) ∧ (1 ≤ mc) ∧ (n23 ≤ ms) ∧ ∀ q28 : Nat, Fr G w21 q28 → ((Ow (uN w21 q28 (kR 4 n23)) x0 (kO 14)) ∧ K (some q28) (uR (uN w21 q28 (kR 4 n23)) x0 1 (some q28)))))) ∧ (¬ (wR w x0 1) = (some (xa G 0)) → (inR (x1 - (n4 : Int))) ∧ DI G M_Ss_newLength [vI (n4 : Int), vI (x1 - (n4 : Int)), vI (ishrq (n4 : Int) 1)] w 0 0 (fun v33 w32 => ∃ a34 : Nat, (wR w32 x0 1) = some a34 ∧ (∃ c36 s37 : Nat, c36 ≤ mc ∧ s37 ≤ ms ∧ (DP G M_Ar_copyOf_1904c [vA a34, vI v33] w32 c36 s37 (fun v41 w40 => (Ow w40 x0 (kO 14)) ∧ K v41 (uR w40 x0 1 v41)))))))))) : DP G M_Al_grow_92f84 [vA x0, vI x1] w mc ms K := by
  refine DC.of ok_M_Al_grow_92f84 (ls := [(0, vA x0), (1, vI x1)]) rfl (Nat.le_of_ble_eq_true rfl) ?_
  refine x_aload_nP (some x0) d_Al_grow_92f84_0 rfl (?_ : WD _ _ 1 _ _ _ _ _ _)
  obtain ⟨k1, h⟩ := h
  refine x_getP (ref := "java/util/ArrayList") (j := 1) 1 k1 clk_14 (by decide) (qm_2 (i := 139) rfl rfl) (Or.inl rfl) rfl rfl d_Al_grow_92f84_1 (y := (wR w x0 1)) rfl (?_ : WD _ _ 4 _ _ _ _ _ _)
  obtain ⟨a2, e3, h⟩ := h
  rw [e3]
  obtain ⟨n4, h⟩ := h
  obtain ⟨k5, h⟩ := h
  obtain ⟨h6, h⟩ := h
  refine x_alenR k5 (Or.inr (fun _ => rfl)) (fun h => absurd h (by decide)) h6 d_Al_grow_92f84_4 (?_ : WD _ _ 5 _ _ _ _ _ _)
  refine x_istore_n (ls' := [(2, vI (n4 : Int)), (0, vA x0), (1, vI x1)]) d_Al_grow_92f84_5 rfl (by decide) rfl (?_ : WD _ _ 6 _ _ _ _ _ _)
  refine x_iload_n d_Al_grow_92f84_6 rfl (?_ : WD _ _ 7 _ _ _ _ _ _)
  refine x_if_gt 20 d_Al_grow_92f84_7 rfl ⟨fun c7 => (?_ : WD _ _ 20 _ _ _ _ _ _), fun c7 => (?_ : WD _ _ 10 _ _ _ _ _ _)⟩
  · replace h := h.1 c7
    refine x_iload_n d_Al_grow_92f84_20 rfl (?_ : WD _ _ 21 _ _ _ _ _ _)
    refine x_iload_n d_Al_grow_92f84_21 rfl (?_ : WD _ _ 22 _ _ _ _ _ _)
    refine x_iload_n d_Al_grow_92f84_22 rfl (?_ : WD _ _ 23 _ _ _ _ _ _)
    obtain ⟨h8, h⟩ := h
    refine x_isub d_Al_grow_92f84_23 h8 (?_ : WD _ _ 24 _ _ _ _ _ _)
    refine x_iload_n d_Al_grow_92f84_24 rfl (?_ : WD _ _ 25 _ _ _ _ _ _)
    refine x_iconst d_Al_grow_92f84_25 (by decide) (?_ : WD _ _ 26 _ _ _ _ _ _)
    refine x_ishrq d_Al_grow_92f84_26 (?_ : WD _ _ 27 _ _ _ _ _ _)
    refine x_callS (ν := M_Ss_newLength) [vI (n4 : Int), vI (x1 - (n4 : Int)), vI (ishrq (n4 : Int) 1)] ok_M_Ss_newLength oks_M_Ss_newLength (qm_3 (i := 113) rfl rfl) np_M_Ss_newLength rfl ⟨Nat.le_of_ble_eq_true rfl, Nat.le_of_ble_eq_true rfl⟩ (Nat.le_of_ble_eq_true rfl) rfl d_Al_grow_92f84_27 (Nat.zero_le _) (Nat.zero_le _) (DI.k h (fun v10 w9 gw9 h => (?_ : WD _ _ 30 _ _ _ _ _ _)))
    refine x_istore_n (ls' := [(3, vI v10), (2, vI (n4 : Int)), (0, vA x0), (1, vI x1)]) d_Al_grow_92f84_30 rfl (by decide) rfl (?_ : WD _ _ 31 _ _ _ _ _ _)
    refine x_aload_nP (some x0) d_Al_grow_92f84_31 rfl (?_ : WD _ _ 32 _ _ _ _ _ _)
    refine x_aload_nP (some x0) d_Al_grow_92f84_32 rfl (?_ : WD _ _ 33 _ _ _ _ _ _)
    refine x_getP (ref := "java/util/ArrayList") (j := 1) 1 (k1.q gw9.k) clk_14 (by decide) (qm_2 (i := 139) rfl rfl) (Or.inl rfl) rfl rfl d_Al_grow_92f84_33 (y := (wR w9 x0 1)) rfl (?_ : WD _ _ 36 _ _ _ _ _ _)
    refine x_iload_n d_Al_grow_92f84_36 rfl (?_ : WD _ _ 37 _ _ _ _ _ _)
    obtain ⟨a11, e12, h⟩ := h
    rw [e12]
    obtain ⟨c13, s14, h15, h16, h⟩ := h
    refine x_callS (ν := M_Ar_copyOf_1904c) [vA a11, vI v10] ok_M_Ar_copyOf_1904c oks_M_Ar_copyOf_1904c (qm_3 (i := 121) rfl rfl) np_M_Ar_copyOf_1904c rfl ⟨Nat.le_of_ble_eq_true rfl, Nat.le_of_ble_eq_true rfl⟩ (Nat.le_of_ble_eq_true rfl) rfl d_Al_grow_92f84_37 h15 h16 (DP.k h (fun v18 w17 gw17 h => (?_ : WD _ _ 40 _ _ _ _ _ _)))
    refine x_dup_x1 d_Al_grow_92f84_40 rfl rfl (?_ : WD _ _ 41 _ _ _ _ _ _)
    obtain ⟨k19, h⟩ := h
    refine x_putP (ref := "java/util/ArrayList") (j := 1) v18 1 k19 clk_14 (by decide) (qm_2 (i := 139) rfl rfl) (Or.inl rfl) (Or.inl rfl) tyJx4a65c_ok rfl nmJx4a65c d_Al_grow_92f84_41 rfl rfl (nar_P (by first | exact Or.inl ⟨_, rfl⟩ | exact Or.inr ⟨_, rfl⟩) _) (fit_P (by first | exact Or.inl ⟨_, rfl⟩ | exact Or.inr ⟨_, rfl⟩) _) (?_ : WD _ _ 44 _ _ _ _ _ _)
    exact x_areturn v18 rfl (Or.inr ⟨_, rfl⟩) d_Al_grow_92f84_44 h
  · replace h := h.2 c7
    refine x_aload_nP (some x0) d_Al_grow_92f84_10 rfl (?_ : WD _ _ 11 _ _ _ _ _ _)
    refine x_getP (ref := "java/util/ArrayList") (j := 1) 1 k1 clk_14 (by decide) (qm_2 (i := 139) rfl rfl) (Or.inl rfl) rfl rfl d_Al_grow_92f84_11 (y := (wR w x0 1)) rfl (?_ : WD _ _ 14 _ _ _ _ _ _)
    refine x_gets (i := 0) (List.mem_of_getElem? (i := 0) rfl) (qm_2 (i := 137) rfl rfl) d_Al_grow_92f84_14 (?_ : WD _ _ 17 _ _ _ _ _ _)
    refine x_acmp_eq (wR w x0 1) (some (xa G 0)) 45 d_Al_grow_92f84_17 rfl ⟨fun c20 => (?_ : WD _ _ 45 _ _ _ _ _ _), fun c20 => (?_ : WD _ _ 20 _ _ _ _ _ _)⟩
    · replace h := h.1 c20
      refine x_aload_nP (some x0) d_Al_grow_92f84_45 rfl (?_ : WD _ _ 46 _ _ _ _ _ _)
      refine x_bipush d_Al_grow_92f84_46 (by decide) (by decide) (?_ : WD _ _ 48 _ _ _ _ _ _)
      refine x_iload_n d_Al_grow_92f84_48 rfl (?_ : WD _ _ 49 _ _ _ _ _ _)
      refine x_callS (ν := M_Ma_max) [vI 10, vI x1] ok_M_Ma_max oks_M_Ma_max (qm_3 (i := 170) rfl rfl) np_M_Ma_max rfl ⟨Nat.le_of_ble_eq_true rfl, Nat.le_of_ble_eq_true rfl⟩ (Nat.le_of_ble_eq_true rfl) rfl d_Al_grow_92f84_49 (Nat.zero_le _) (Nat.zero_le _) (DI.k h (fun v22 w21 gw21 h => (?_ : WD _ _ 52 _ _ _ _ _ _)))
      obtain ⟨n23, e24, h⟩ := h
      obtain ⟨h25, h⟩ := h
      obtain ⟨h26, h⟩ := h
      obtain ⟨h27, h⟩ := h
      refine x_newq (t := 4) n23 e24 d_Al_grow_92f84_52 (qm_3 (i := 171) rfl rfl) (by decide) (fun _ => rfl) h25 h26 h27 (fun q28 fq28 => (?_ : WD _ _ 55 _ _ _ _ _ _))
      replace h := h q28 fq28
      have k29 : Ow (uN w21 q28 (kR 4 n23)) q28 (kR 4 n23) := Ow.nw
      refine x_dup_x1 d_Al_grow_92f84_55 rfl rfl (?_ : WD _ _ 56 _ _ _ _ _ _)
      obtain ⟨k30, h⟩ := h
      refine x_putP (ref := "java/util/ArrayList") (j := 1) (some q28) 1 k30 clk_14 (by decide) (qm_2 (i := 139) rfl rfl) (Or.inl rfl) (Or.inl rfl) tyJx4a65c_ok rfl nmJx4a65c d_Al_grow_92f84_56 rfl rfl (nar_P (by first | exact Or.inl ⟨_, rfl⟩ | exact Or.inr ⟨_, rfl⟩) _) (fit_P (by first | exact Or.inl ⟨_, rfl⟩ | exact Or.inr ⟨_, rfl⟩) _) (?_ : WD _ _ 59 _ _ _ _ _ _)
      exact x_areturn (some q28) rfl (Or.inr ⟨_, rfl⟩) d_Al_grow_92f84_59 h
    · replace h := h.2 c20
      refine x_iload_n d_Al_grow_92f84_20 rfl (?_ : WD _ _ 21 _ _ _ _ _ _)
      refine x_iload_n d_Al_grow_92f84_21 rfl (?_ : WD _ _ 22 _ _ _ _ _ _)
      refine x_iload_n d_Al_grow_92f84_22 rfl (?_ : WD _ _ 23 _ _ _ _ _ _)
      obtain ⟨h31, h⟩ := h
      refine x_isub d_Al_grow_92f84_23 h31 (?_ : WD _ _ 24 _ _ _ _ _ _)
      refine x_iload_n d_Al_grow_92f84_24 rfl (?_ : WD _ _ 25 _ _ _ _ _ _)
      refine x_iconst d_Al_grow_92f84_25 (by decide) (?_ : WD _ _ 26 _ _ _ _ _ _)
      refine x_ishrq d_Al_grow_92f84_26 (?_ : WD _ _ 27 _ _ _ _ _ _)
      refine x_callS (ν := M_Ss_newLength) [vI (n4 : Int), vI (x1 - (n4 : Int)), vI (ishrq (n4 : Int) 1)] ok_M_Ss_newLength oks_M_Ss_newLength (qm_3 (i := 113) rfl rfl) np_M_Ss_newLength rfl ⟨Nat.le_of_ble_eq_true rfl, Nat.le_of_ble_eq_true rfl⟩ (Nat.le_of_ble_eq_true rfl) rfl d_Al_grow_92f84_27 (Nat.zero_le _) (Nat.zero_le _) (DI.k h (fun v33 w32 gw32 h => (?_ : WD _ _ 30 _ _ _ _ _ _)))
      refine x_istore_n (ls' := [(3, vI v33), (2, vI (n4 : Int)), (0, vA x0), (1, vI x1)]) d_Al_grow_92f84_30 rfl (by decide) rfl (?_ : WD _ _ 31 _ _ _ _ _ _)
      refine x_aload_nP (some x0) d_Al_grow_92f84_31 rfl (?_ : WD _ _ 32 _ _ _ _ _ _)
      refine x_aload_nP (some x0) d_Al_grow_92f84_32 rfl (?_ : WD _ _ 33 _ _ _ _ _ _)
      refine x_getP (ref := "java/util/ArrayList") (j := 1) 1 (k1.q gw32.k) clk_14 (by decide) (qm_2 (i := 139) rfl rfl) (Or.inl rfl) rfl rfl d_Al_grow_92f84_33 (y := (wR w32 x0 1)) rfl (?_ : WD _ _ 36 _ _ _ _ _ _)
      refine x_iload_n d_Al_grow_92f84_36 rfl (?_ : WD _ _ 37 _ _ _ _ _ _)
      obtain ⟨a34, e35, h⟩ := h
      rw [e35]
      obtain ⟨c36, s37, h38, h39, h⟩ := h
      refine x_callS (ν := M_Ar_copyOf_1904c) [vA a34, vI v33] ok_M_Ar_copyOf_1904c oks_M_Ar_copyOf_1904c (qm_3 (i := 121) rfl rfl) np_M_Ar_copyOf_1904c rfl ⟨Nat.le_of_ble_eq_true rfl, Nat.le_of_ble_eq_true rfl⟩ (Nat.le_of_ble_eq_true rfl) rfl d_Al_grow_92f84_37 h38 h39 (DP.k h (fun v41 w40 gw40 h => (?_ : WD _ _ 40 _ _ _ _ _ _)))
      refine x_dup_x1 d_Al_grow_92f84_40 rfl rfl (?_ : WD _ _ 41 _ _ _ _ _ _)
      obtain ⟨k42, h⟩ := h
      refine x_putP (ref := "java/util/ArrayList") (j := 1) v41 1 k42 clk_14 (by decide) (qm_2 (i := 139) rfl rfl) (Or.inl rfl) (Or.inl rfl) tyJx4a65c_ok rfl nmJx4a65c d_Al_grow_92f84_41 rfl rfl (nar_P (by first | exact Or.inl ⟨_, rfl⟩ | exact Or.inr ⟨_, rfl⟩) _) (fit_P (by first | exact Or.inl ⟨_, rfl⟩ | exact Or.inr ⟨_, rfl⟩) _) (?_ : WD _ _ 44 _ _ _ _ _ _)
      exact x_areturn v41 rfl (Or.inr ⟨_, rfl⟩) d_Al_grow_92f84_44 h
set_option maxRecDepth 20000 in
theorem e_Hm_init {G : Gq} {K : Wd → Prop} {w : Wd} {mc ms : Nat} (x0 : Nat) (x1 : Int) (x2 : UInt32) (h : DV G M_Am_init [vA x0] w 0 0 (fun w1 => (0 ≤ x1 → (x1 ≤ 1073741824 → ((fcq .g x2 FP.fconst0) ≤ 0 → False) ∧ (¬ (fcq .g x2 FP.fconst0) ≤ 0 → DI G M_Jxf58ca_isNaN [vO (.float x2)] w1 0 0 (fun v7 w6 => (v7 = 0 → (Ow w6 x0 (kO 20)) ∧ DI G M_Hm_tableSizeFor [vI x1] (uJ w6 x0 5 (((x2 : UInt32).toNat : Nat) : Int)) 0 0 (fun v11 w10 => K (uI w10 x0 4 v11))) ∧ (¬ v7 = 0 → False)))) ∧ (¬ x1 ≤ 1073741824 → ((fcq .g x2 FP.fconst0) ≤ 0 → False) ∧ (¬ (fcq .g x2 FP.fconst0) ≤ 0 → DI G M_Jxf58ca_isNaN [vO (.float x2)] w1 0 0 (fun v14 w13 => (v14 = 0 → (Ow w13 x0 (kO 20)) ∧ DI G M_Hm_tableSizeFor [vI 1073741824] (uJ w13 x0 5 (((x2 : UInt32).toNat : Nat) : Int)) 0 0 (fun v18 w17 => K (uI w17 x0 4 v18))) ∧ (¬ v14 = 0 → False))))) ∧ (¬ 0 ≤ x1 → False))) : DV G M_Hm_init [vA x0, vI x1, vO (.float x2)] w mc ms K := by
  refine DC.of ok_M_Hm_init (ls := [(0, vA x0), (1, vI x1), (2, vO (.float x2))]) rfl (Nat.le_of_ble_eq_true rfl) ?_
  refine x_aload_nP (some x0) d_Hm_init_0 rfl (?_ : WD _ _ 1 _ _ _ _ _ _)
  refine x_callI (ν := M_Am_init) [] ok_M_Am_init oki_M_Am_init rfl rfl (qm_6 (i := 134) rfl rfl) np_M_Am_init rfl ⟨Nat.le_of_ble_eq_true rfl, Nat.le_of_ble_eq_true rfl⟩ (Nat.le_of_ble_eq_true rfl) rfl d_Hm_init_1 (Nat.zero_le _) (Nat.zero_le _) (DV.k h (fun w1 gw1 h => (?_ : WD _ _ 4 _ _ _ _ _ _)))
  refine x_iload_n d_Hm_init_4 rfl (?_ : WD _ _ 5 _ _ _ _ _ _)
  refine x_if_ge 35 d_Hm_init_5 rfl ⟨fun c3 => (?_ : WD _ _ 35 _ _ _ _ _ _), fun c3 => (?_ : WD _ _ 8 _ _ _ _ _ _)⟩
  · replace h := h.1 c3
    refine x_iload_n d_Hm_init_35 rfl (?_ : WD _ _ 36 _ _ _ _ _ _)
    refine x_ldc 1073741824 d_Hm_init_36 (qm_6 (i := 138) rfl rfl) (by decide) (by decide) (?_ : WD _ _ 38 _ _ _ _ _ _)
    refine x_icmp_le 44 d_Hm_init_38 rfl ⟨fun c4 => (?_ : WD _ _ 44 _ _ _ _ _ _), fun c4 => (?_ : WD _ _ 41 _ _ _ _ _ _)⟩
    · replace h := h.1 c4
      refine x_fload_n d_Hm_init_44 rfl (?_ : WD _ _ 45 _ _ _ _ _ _)
      refine x_fconst0 d_Hm_init_45 (?_ : WD _ _ 46 _ _ _ _ _ _)
      refine x_fcmp d_Hm_init_46 (?_ : WD _ _ 47 _ _ _ _ _ _)
      refine x_if_le 57 d_Hm_init_47 rfl ⟨fun c5 => (?_ : WD _ _ 57 _ _ _ _ _ _), fun c5 => (?_ : WD _ _ 50 _ _ _ _ _ _)⟩
      · replace h := h.1 c5
        exact h.elim
      · replace h := h.2 c5
        refine x_fload_n d_Hm_init_50 rfl (?_ : WD _ _ 51 _ _ _ _ _ _)
        refine x_callS (ν := M_Jxf58ca_isNaN) [vO (.float x2)] ok_M_Jxf58ca_isNaN oks_M_Jxf58ca_isNaN (qm_6 (i := 139) rfl rfl) np_M_Jxf58ca_isNaN rfl ⟨Nat.le_of_ble_eq_true rfl, Nat.le_of_ble_eq_true rfl⟩ (Nat.le_of_ble_eq_true rfl) rfl d_Hm_init_51 (Nat.zero_le _) (Nat.zero_le _) (DI.k h (fun v7 w6 gw6 h => (?_ : WD _ _ 54 _ _ _ _ _ _)))
        refine x_if_eq 84 d_Hm_init_54 rfl ⟨fun c8 => (?_ : WD _ _ 84 _ _ _ _ _ _), fun c8 => (?_ : WD _ _ 57 _ _ _ _ _ _)⟩
        · replace h := h.1 c8
          refine x_aload_nP (some x0) d_Hm_init_84 rfl (?_ : WD _ _ 85 _ _ _ _ _ _)
          refine x_fload_n d_Hm_init_85 rfl (?_ : WD _ _ 86 _ _ _ _ _ _)
          obtain ⟨k9, h⟩ := h
          refine x_putF (ref := "java/util/HashMap") (j := 5) (((x2 : UInt32).toNat : Nat) : Int) 5 k9 clk_20 (by decide) (qm_6 (i := 165) rfl rfl) (Or.inl rfl) (Or.inr ⟨rfl, rfl, rfl⟩) tyX28_ok rfl nmX28 d_Hm_init_86 rfl rfl rfl (f32_rt _) (f32_in _) (?_ : WD _ _ 89 _ _ _ _ _ _)
          refine x_aload_nP (some x0) d_Hm_init_89 rfl (?_ : WD _ _ 90 _ _ _ _ _ _)
          refine x_iload_n d_Hm_init_90 rfl (?_ : WD _ _ 91 _ _ _ _ _ _)
          refine x_callS (ν := M_Hm_tableSizeFor) [vI x1] ok_M_Hm_tableSizeFor oks_M_Hm_tableSizeFor (qm_6 (i := 142) rfl rfl) np_M_Hm_tableSizeFor rfl ⟨Nat.le_of_ble_eq_true rfl, Nat.le_of_ble_eq_true rfl⟩ (Nat.le_of_ble_eq_true rfl) rfl d_Hm_init_91 (Nat.zero_le _) (Nat.zero_le _) (DI.k h (fun v11 w10 gw10 h => (?_ : WD _ _ 94 _ _ _ _ _ _)))
          refine x_putI (ref := "java/util/HashMap") (j := 4) 4 (k9.q gw10.k) clk_20 (by decide) (qm_6 (i := 164) rfl rfl) (Or.inl rfl) (Or.inl rfl) tyX28_ok rfl nmX28 d_Hm_init_94 rfl rfl (fun _ => rfl) rfl (?_ : WD _ _ 97 _ _ _ _ _ _)
          exact x_return rfl d_Hm_init_97 h
        · replace h := h.2 c8
          exact h.elim
    · replace h := h.2 c4
      refine x_ldc 1073741824 d_Hm_init_41 (qm_6 (i := 138) rfl rfl) (by decide) (by decide) (?_ : WD _ _ 43 _ _ _ _ _ _)
      refine x_istore_n (ls' := [(1, vI 1073741824), (0, vA x0), (2, vO (.float x2))]) d_Hm_init_43 rfl (by decide) rfl (?_ : WD _ _ 44 _ _ _ _ _ _)
      refine x_fload_n d_Hm_init_44 rfl (?_ : WD _ _ 45 _ _ _ _ _ _)
      refine x_fconst0 d_Hm_init_45 (?_ : WD _ _ 46 _ _ _ _ _ _)
      refine x_fcmp d_Hm_init_46 (?_ : WD _ _ 47 _ _ _ _ _ _)
      refine x_if_le 57 d_Hm_init_47 rfl ⟨fun c12 => (?_ : WD _ _ 57 _ _ _ _ _ _), fun c12 => (?_ : WD _ _ 50 _ _ _ _ _ _)⟩
      · replace h := h.1 c12
        exact h.elim
      · replace h := h.2 c12
        refine x_fload_n d_Hm_init_50 rfl (?_ : WD _ _ 51 _ _ _ _ _ _)
        refine x_callS (ν := M_Jxf58ca_isNaN) [vO (.float x2)] ok_M_Jxf58ca_isNaN oks_M_Jxf58ca_isNaN (qm_6 (i := 139) rfl rfl) np_M_Jxf58ca_isNaN rfl ⟨Nat.le_of_ble_eq_true rfl, Nat.le_of_ble_eq_true rfl⟩ (Nat.le_of_ble_eq_true rfl) rfl d_Hm_init_51 (Nat.zero_le _) (Nat.zero_le _) (DI.k h (fun v14 w13 gw13 h => (?_ : WD _ _ 54 _ _ _ _ _ _)))
        refine x_if_eq 84 d_Hm_init_54 rfl ⟨fun c15 => (?_ : WD _ _ 84 _ _ _ _ _ _), fun c15 => (?_ : WD _ _ 57 _ _ _ _ _ _)⟩
        · replace h := h.1 c15
          refine x_aload_nP (some x0) d_Hm_init_84 rfl (?_ : WD _ _ 85 _ _ _ _ _ _)
          refine x_fload_n d_Hm_init_85 rfl (?_ : WD _ _ 86 _ _ _ _ _ _)
          obtain ⟨k16, h⟩ := h
          refine x_putF (ref := "java/util/HashMap") (j := 5) (((x2 : UInt32).toNat : Nat) : Int) 5 k16 clk_20 (by decide) (qm_6 (i := 165) rfl rfl) (Or.inl rfl) (Or.inr ⟨rfl, rfl, rfl⟩) tyX28_ok rfl nmX28 d_Hm_init_86 rfl rfl rfl (f32_rt _) (f32_in _) (?_ : WD _ _ 89 _ _ _ _ _ _)
          refine x_aload_nP (some x0) d_Hm_init_89 rfl (?_ : WD _ _ 90 _ _ _ _ _ _)
          refine x_iload_n d_Hm_init_90 rfl (?_ : WD _ _ 91 _ _ _ _ _ _)
          refine x_callS (ν := M_Hm_tableSizeFor) [vI 1073741824] ok_M_Hm_tableSizeFor oks_M_Hm_tableSizeFor (qm_6 (i := 142) rfl rfl) np_M_Hm_tableSizeFor rfl ⟨Nat.le_of_ble_eq_true rfl, Nat.le_of_ble_eq_true rfl⟩ (Nat.le_of_ble_eq_true rfl) rfl d_Hm_init_91 (Nat.zero_le _) (Nat.zero_le _) (DI.k h (fun v18 w17 gw17 h => (?_ : WD _ _ 94 _ _ _ _ _ _)))
          refine x_putI (ref := "java/util/HashMap") (j := 4) 4 (k16.q gw17.k) clk_20 (by decide) (qm_6 (i := 164) rfl rfl) (Or.inl rfl) (Or.inl rfl) tyX28_ok rfl nmX28 d_Hm_init_94 rfl rfl (fun _ => rfl) rfl (?_ : WD _ _ 97 _ _ _ _ _ _)
          exact x_return rfl d_Hm_init_97 h
        · replace h := h.2 c15
          exact h.elim
  · replace h := h.2 c3
    exact h.elim
set_option maxRecDepth 20000 in
theorem e_Lq_init {G : Gq} {K : Wd → Prop} {w : Wd} {mc ms : Nat} (x0 : Nat) (x1 : Nat) (x2 : Int) (h : (Ow w x0 (kO 22)) ∧ DV G M_Ab_init [vA x0] (uR w x0 1 (some x1)) 0 0 (fun w2 => (x2 = 0 ∨ x2 = 1) ∧ K (uI w2 x0 0 x2))) : DV G M_Lq_init [vA x0, vA x1, vI x2] w mc ms K := by
  refine DC.of ok_M_Lq_init (ls := [(0, vA x0), (1, vA x1), (2, vI x2)]) rfl (Nat.le_of_ble_eq_true rfl) ?_
  refine x_aload_nP (some x0) d_Lq_init_0 rfl (?_ : WD _ _ 1 _ _ _ _ _ _)
  refine x_aload_nP (some x1) d_Lq_init_1 rfl (?_ : WD _ _ 2 _ _ _ _ _ _)
  obtain ⟨k1, h⟩ := h
  refine x_putP (ref := "java/util/LinkedHashMap$LinkedKeySet") (j := 1) (some x1) 1 k1 clk_22 (by decide) (qm_9 (i := 78) rfl rfl) (Or.inl rfl) (Or.inr ⟨rfl, rfl, rfl⟩) tyX27_ok rfl nmX27 d_Lq_init_2 rfl rfl (nar_P (by first | exact Or.inl ⟨_, rfl⟩ | exact Or.inr ⟨_, rfl⟩) _) (fit_P (by first | exact Or.inl ⟨_, rfl⟩ | exact Or.inr ⟨_, rfl⟩) _) (?_ : WD _ _ 5 _ _ _ _ _ _)
  refine x_aload_nP (some x0) d_Lq_init_5 rfl (?_ : WD _ _ 6 _ _ _ _ _ _)
  refine x_callI (ν := M_Ab_init) [] ok_M_Ab_init oki_M_Ab_init rfl rfl (qm_9 (i := 76) rfl rfl) np_M_Ab_init rfl ⟨Nat.le_of_ble_eq_true rfl, Nat.le_of_ble_eq_true rfl⟩ (Nat.le_of_ble_eq_true rfl) rfl d_Lq_init_6 (Nat.zero_le _) (Nat.zero_le _) (DV.k h (fun w2 gw2 h => (?_ : WD _ _ 9 _ _ _ _ _ _)))
  refine x_aload_nP (some x0) d_Lq_init_9 rfl (?_ : WD _ _ 10 _ _ _ _ _ _)
  refine x_iload_n d_Lq_init_10 rfl (?_ : WD _ _ 11 _ _ _ _ _ _)
  obtain ⟨h4, h⟩ := h
  refine x_putI (ref := "java/util/LinkedHashMap$LinkedKeySet") (j := 0) 0 (k1.q gw2.k) clk_22 (by decide) (qm_9 (i := 77) rfl rfl) (Or.inl rfl) (Or.inr ⟨rfl, rfl, rfl⟩) tyX27_ok rfl nmX27 d_Lq_init_11 rfl rfl (fun _ => nar_Z h4) (fit_Z h4) (?_ : WD _ _ 14 _ _ _ _ _ _)
  exact x_return rfl d_Lq_init_14 h
set_option maxRecDepth 20000 in
theorem e_Lh_init {G : Gq} {K : Wd → Prop} {w : Wd} {mc ms : Nat} (x0 : Nat) (x1 : Nat) (x2 : Int) (h : (Ow w x0 (kO 23)) ∧ (x2 = 0 ∨ x2 = 1) ∧ (x2 = 0 → (Is G (uI (uR w x0 4 (some x1)) x0 3 x2) x1 (kO 20)) ∧ K (uR (uI (uR (uI (uR w x0 4 (some x1)) x0 3 x2) x0 0 (wR (uR w x0 4 (some x1)) x1 8)) x0 2 (wI (uI (uR w x0 4 (some x1)) x0 3 x2) x1 3)) x0 1 none)) ∧ (¬ x2 = 0 → (Is G (uI (uR w x0 4 (some x1)) x0 3 x2) x1 (kO 20)) ∧ K (uR (uI (uR (uI (uR w x0 4 (some x1)) x0 3 x2) x0 0 (wR (uR w x0 4 (some x1)) x1 9)) x0 2 (wI (uI (uR w x0 4 (some x1)) x0 3 x2) x1 3)) x0 1 none))) : DV G M_Lh_init [vA x0, vA x1, vI x2] w mc ms K := by
  refine DC.of ok_M_Lh_init (ls := [(0, vA x0), (1, vA x1), (2, vI x2)]) rfl (Nat.le_of_ble_eq_true rfl) ?_
  refine x_aload_nP (some x0) d_Lh_init_0 rfl (?_ : WD _ _ 1 _ _ _ _ _ _)
  refine x_aload_nP (some x1) d_Lh_init_1 rfl (?_ : WD _ _ 2 _ _ _ _ _ _)
  obtain ⟨k1, h⟩ := h
  refine x_putP (ref := "java/util/LinkedHashMap$LinkedHashIterator") (j := 4) (some x1) 4 k1 clk_23 (by decide) (qm_9 (i := 140) rfl rfl) (Or.inl rfl) (Or.inr ⟨rfl, rfl, rfl⟩) tyX26_ok rfl nmX26 d_Lh_init_2 rfl rfl (nar_P (by first | exact Or.inl ⟨_, rfl⟩ | exact Or.inr ⟨_, rfl⟩) _) (fit_P (by first | exact Or.inl ⟨_, rfl⟩ | exact Or.inr ⟨_, rfl⟩) _) (?_ : WD _ _ 5 _ _ _ _ _ _)
  refine x_aload_nP (some x0) d_Lh_init_5 rfl (?_ : WD _ _ 6 _ _ _ _ _ _)
  refine x_obj d_Lh_init_6 (qm_9 (i := 135) rfl rfl) (qm_1 (i := 58) rfl rfl) (qm_1 (i := 59) rfl rfl) ⟨Nat.le_of_ble_eq_true rfl, Nat.le_of_ble_eq_true rfl⟩ (?_ : WD _ _ 9 _ _ _ _ _ _)
  refine x_aload_nP (some x0) d_Lh_init_9 rfl (?_ : WD _ _ 10 _ _ _ _ _ _)
  refine x_iload_n d_Lh_init_10 rfl (?_ : WD _ _ 11 _ _ _ _ _ _)
  obtain ⟨h2, h⟩ := h
  refine x_putI (ref := "java/util/LinkedHashMap$LinkedHashIterator") (j := 3) 3 k1 clk_23 (by decide) (qm_9 (i := 139) rfl rfl) (Or.inl rfl) (Or.inl rfl) tyX26_ok rfl nmX26 d_Lh_init_11 rfl rfl (fun _ => nar_Z h2) (fit_Z h2) (?_ : WD _ _ 14 _ _ _ _ _ _)
  refine x_aload_nP (some x0) d_Lh_init_14 rfl (?_ : WD _ _ 15 _ _ _ _ _ _)
  refine x_iload_n d_Lh_init_15 rfl (?_ : WD _ _ 16 _ _ _ _ _ _)
  refine x_if_eq 26 d_Lh_init_16 rfl ⟨fun c3 => (?_ : WD _ _ 26 _ _ _ _ _ _), fun c3 => (?_ : WD _ _ 19 _ _ _ _ _ _)⟩
  · replace h := h.1 c3
    refine x_aload_nP (some x1) d_Lh_init_26 rfl (?_ : WD _ _ 27 _ _ _ _ _ _)
    obtain ⟨k4, h⟩ := h
    refine x_getP (ref := "java/util/LinkedHashMap") (j := 8) 8 k4 clk_20 (by decide) (qm_6 (i := 150) rfl rfl) (Or.inl rfl) rfl rfl d_Lh_init_27 (y := (wR (uR w x0 4 (some x1)) x1 8)) rfl (?_ : WD _ _ 30 _ _ _ _ _ _)
    refine x_putP (ref := "java/util/LinkedHashMap$LinkedHashIterator") (j := 0) (wR (uR w x0 4 (some x1)) x1 8) 0 k1 clk_23 (by decide) (qm_9 (i := 136) rfl rfl) (Or.inl rfl) (Or.inl rfl) tyX26_ok rfl nmX26 d_Lh_init_30 rfl rfl (nar_P (by first | exact Or.inl ⟨_, rfl⟩ | exact Or.inr ⟨_, rfl⟩) _) (fit_P (by first | exact Or.inl ⟨_, rfl⟩ | exact Or.inr ⟨_, rfl⟩) _) (?_ : WD _ _ 33 _ _ _ _ _ _)
    refine x_aload_nP (some x0) d_Lh_init_33 rfl (?_ : WD _ _ 34 _ _ _ _ _ _)
    refine x_aload_nP (some x1) d_Lh_init_34 rfl (?_ : WD _ _ 35 _ _ _ _ _ _)
    refine x_getI (ref := "java/util/LinkedHashMap") (j := 3) 3 k4 clk_20 (by decide) (qm_6 (i := 160) rfl rfl) (Or.inr (qm_6 (i := 161) rfl rfl)) rfl rfl d_Lh_init_35 (y := (wI (uI (uR w x0 4 (some x1)) x0 3 x2) x1 3)) rfl (?_ : WD _ _ 38 _ _ _ _ _ _)
    refine x_putI (ref := "java/util/LinkedHashMap$LinkedHashIterator") (j := 2) 2 k1 clk_23 (by decide) (qm_9 (i := 138) rfl rfl) (Or.inl rfl) (Or.inl rfl) tyX26_ok rfl nmX26 d_Lh_init_38 rfl rfl (fun _ => rfl) rfl (?_ : WD _ _ 41 _ _ _ _ _ _)
    refine x_aload_nP (some x0) d_Lh_init_41 rfl (?_ : WD _ _ 42 _ _ _ _ _ _)
    refine x_null d_Lh_init_42 (?_ : WD _ _ 43 _ _ _ _ _ _)
    refine x_putP (ref := "java/util/LinkedHashMap$LinkedHashIterator") (j := 1) none 1 k1 clk_23 (by decide) (qm_9 (i := 137) rfl rfl) (Or.inl rfl) (Or.inl rfl) tyX26_ok rfl nmX26 d_Lh_init_43 rfl rfl (nar_P (by first | exact Or.inl ⟨_, rfl⟩ | exact Or.inr ⟨_, rfl⟩) _) (fit_P (by first | exact Or.inl ⟨_, rfl⟩ | exact Or.inr ⟨_, rfl⟩) _) (?_ : WD _ _ 46 _ _ _ _ _ _)
    exact x_return rfl d_Lh_init_46 h
  · replace h := h.2 c3
    refine x_aload_nP (some x1) d_Lh_init_19 rfl (?_ : WD _ _ 20 _ _ _ _ _ _)
    obtain ⟨k5, h⟩ := h
    refine x_getP (ref := "java/util/LinkedHashMap") (j := 9) 9 k5 clk_20 (by decide) (qm_6 (i := 151) rfl rfl) (Or.inl rfl) rfl rfl d_Lh_init_20 (y := (wR (uR w x0 4 (some x1)) x1 9)) rfl (?_ : WD _ _ 23 _ _ _ _ _ _)
    refine x_goto 30 d_Lh_init_23 rfl ?_
    refine x_putP (ref := "java/util/LinkedHashMap$LinkedHashIterator") (j := 0) (wR (uR w x0 4 (some x1)) x1 9) 0 k1 clk_23 (by decide) (qm_9 (i := 136) rfl rfl) (Or.inl rfl) (Or.inl rfl) tyX26_ok rfl nmX26 d_Lh_init_30 rfl rfl (nar_P (by first | exact Or.inl ⟨_, rfl⟩ | exact Or.inr ⟨_, rfl⟩) _) (fit_P (by first | exact Or.inl ⟨_, rfl⟩ | exact Or.inr ⟨_, rfl⟩) _) (?_ : WD _ _ 33 _ _ _ _ _ _)
    refine x_aload_nP (some x0) d_Lh_init_33 rfl (?_ : WD _ _ 34 _ _ _ _ _ _)
    refine x_aload_nP (some x1) d_Lh_init_34 rfl (?_ : WD _ _ 35 _ _ _ _ _ _)
    refine x_getI (ref := "java/util/LinkedHashMap") (j := 3) 3 k5 clk_20 (by decide) (qm_6 (i := 160) rfl rfl) (Or.inr (qm_6 (i := 161) rfl rfl)) rfl rfl d_Lh_init_35 (y := (wI (uI (uR w x0 4 (some x1)) x0 3 x2) x1 3)) rfl (?_ : WD _ _ 38 _ _ _ _ _ _)
    refine x_putI (ref := "java/util/LinkedHashMap$LinkedHashIterator") (j := 2) 2 k1 clk_23 (by decide) (qm_9 (i := 138) rfl rfl) (Or.inl rfl) (Or.inl rfl) tyX26_ok rfl nmX26 d_Lh_init_38 rfl rfl (fun _ => rfl) rfl (?_ : WD _ _ 41 _ _ _ _ _ _)
    refine x_aload_nP (some x0) d_Lh_init_41 rfl (?_ : WD _ _ 42 _ _ _ _ _ _)
    refine x_null d_Lh_init_42 (?_ : WD _ _ 43 _ _ _ _ _ _)
    refine x_putP (ref := "java/util/LinkedHashMap$LinkedHashIterator") (j := 1) none 1 k1 clk_23 (by decide) (qm_9 (i := 137) rfl rfl) (Or.inl rfl) (Or.inl rfl) tyX26_ok rfl nmX26 d_Lh_init_43 rfl rfl (nar_P (by first | exact Or.inl ⟨_, rfl⟩ | exact Or.inr ⟨_, rfl⟩) _) (fit_P (by first | exact Or.inl ⟨_, rfl⟩ | exact Or.inr ⟨_, rfl⟩) _) (?_ : WD _ _ 46 _ _ _ _ _ _)
    exact x_return rfl d_Lh_init_46 h
set_option maxRecDepth 20000 in
theorem e_In_hashCode_8abf5 {G : Gq} {K : Int → Wd → Prop} {w : Wd} {mc ms : Nat} (x0 : Nat) (h : (Is G w x0 (kO 16)) ∧ DI G M_In_hashCode_0f7a4 [vI (wI w x0 0)] w 0 0 (fun v3 w2 => K v3 w2)) : DI G M_In_hashCode_8abf5 [vA x0] w mc ms K := by
  refine DC.of ok_M_In_hashCode_8abf5 (ls := [(0, vA x0)]) rfl (Nat.le_of_ble_eq_true rfl) ?_
  refine x_aload_nP (some x0) d_In_hashCode_8abf5_0 rfl (?_ : WD _ _ 1 _ _ _ _ _ _)
  obtain ⟨k1, h⟩ := h
  refine x_getI (ref := "java/lang/Integer") (j := 0) 0 k1 clk_16 (by decide) (qm_6 (i := 17) rfl rfl) (Or.inl rfl) rfl rfl d_In_hashCode_8abf5_1 (y := (wI w x0 0)) rfl (?_ : WD _ _ 4 _ _ _ _ _ _)
  refine x_callS (ν := M_In_hashCode_0f7a4) [vI (wI w x0 0)] ok_M_In_hashCode_0f7a4 oks_M_In_hashCode_0f7a4 (qm_7 (i := 55) rfl rfl) np_M_In_hashCode_0f7a4 rfl ⟨Nat.le_of_ble_eq_true rfl, Nat.le_of_ble_eq_true rfl⟩ (Nat.le_of_ble_eq_true rfl) rfl d_In_hashCode_8abf5_4 (Nat.zero_le _) (Nat.zero_le _) (DI.k h (fun v3 w2 gw2 h => (?_ : WD _ _ 7 _ _ _ _ _ _)))
  exact x_ireturn rfl d_In_hashCode_8abf5_7 h
set_option maxRecDepth 20000 in
theorem e_Hm_resize {G : Gq} {K : Option Nat → Wd → Prop} {w : Wd} {mc ms : Nat} (x0 : Nat) (h : (Is G w x0 (kO 20)) ∧ ((wR w x0 0) = none → ((wI w x0 4) ≤ 0 → (Ow w x0 (kO 20)) ∧ (1 ≤ mc) ∧ (16 ≤ ms) ∧ ∀ q8 : Nat, Fr G (uI w x0 4 12) q8 → (K (some q8) (uR (uN (uI w x0 4 12) q8 (kR 5 16)) x0 0 (some q8)))) ∧ (¬ (wI w x0 4) ≤ 0 → (vf_n32 (FP.fmul (FP.i2f (Int32.ofInt (wI w x0 4))) (UInt32.ofNat (wJ w x0 5).toNat))) ∧ (1073741824 ≤ (wI w x0 4) → (Ow w x0 (kO 20)) ∧ ∃ n13 : Nat, (wI w x0 4) = (n13 : Int) ∧ ((n13 ≤ 100000) ∧ (1 ≤ mc) ∧ (n13 ≤ ms) ∧ ∀ q18 : Nat, Fr G (uI w x0 4 2147483647) q18 → (K (some q18) (uR (uN (uI w x0 4 2147483647) q18 (kR 5 n13)) x0 0 (some q18))))) ∧ (¬ 1073741824 ≤ (wI w x0 4) → (0 ≤ (fcq .g (FP.fmul (FP.i2f (Int32.ofInt (wI w x0 4))) (UInt32.ofNat (wJ w x0 5).toNat)) 1317011456) → (Ow w x0 (kO 20)) ∧ ∃ n22 : Nat, (wI w x0 4) = (n22 : Int) ∧ ((n22 ≤ 100000) ∧ (1 ≤ mc) ∧ (n22 ≤ ms) ∧ ∀ q27 : Nat, Fr G (uI w x0 4 2147483647) q27 → (K (some q27) (uR (uN (uI w x0 4 2147483647) q27 (kR 5 n22)) x0 0 (some q27))))) ∧ (¬ 0 ≤ (fcq .g (FP.fmul (FP.i2f (Int32.ofInt (wI w x0 4))) (UInt32.ofNat (wJ w x0 5).toNat)) 1317011456) → (Ow w x0 (kO 20)) ∧ ∃ n30 : Nat, (wI w x0 4) = (n30 : Int) ∧ ((n30 ≤ 100000) ∧ (1 ≤ mc) ∧ (n30 ≤ ms) ∧ ∀ q35 : Nat, Fr G (uI w x0 4 (f2q (FP.fmul (FP.i2f (Int32.ofInt (wI w x0 4))) (UInt32.ofNat (wJ w x0 5).toNat)))) q35 → (K (some q35) (uR (uN (uI w x0 4 (f2q (FP.fmul (FP.i2f (Int32.ofInt (wI w x0 4))) (UInt32.ofNat (wJ w x0 5).toNat)))) q35 (kR 5 n30)) x0 0 (some q35)))))))) ∧ (∀ a2 : Nat, (wR w x0 0) = some a2 → False)) : DP G M_Hm_resize [vA x0] w mc ms K := by
  refine DC.of ok_M_Hm_resize (ls := [(0, vA x0)]) rfl (Nat.le_of_ble_eq_true rfl) ?_
  refine x_aload_nP (some x0) d_Hm_resize_0 rfl (?_ : WD _ _ 1 _ _ _ _ _ _)
  obtain ⟨k1, h⟩ := h
  refine x_getP (ref := "java/util/HashMap") (j := 0) 0 k1 clk_20 (by decide) (qm_6 (i := 156) rfl rfl) (Or.inl rfl) rfl rfl d_Hm_resize_1 (y := (wR w x0 0)) rfl (?_ : WD _ _ 4 _ _ _ _ _ _)
  refine x_astore_nP (wR w x0 0) (ls' := [(1, vP (wR w x0 0)), (0, vA x0)]) d_Hm_resize_4 rfl (by decide) rfl (?_ : WD _ _ 5 _ _ _ _ _ _)
  refine x_aload_nP (wR w x0 0) d_Hm_resize_5 rfl (?_ : WD _ _ 6 _ _ _ _ _ _)
  refine x_ifnonnull 13 d_Hm_resize_6 rfl ⟨fun e3 => (?_ : WD _ _ 9 _ _ _ _ _ _), fun a2 e3 => (?_ : WD _ _ 13 _ _ _ _ _ _)⟩
  · replace h := h.1 e3
    rw [e3]
    refine x_iconst d_Hm_resize_9 (by decide) (?_ : WD _ _ 10 _ _ _ _ _ _)
    refine x_goto 15 d_Hm_resize_10 rfl ?_
    refine x_istore_n (ls' := [(2, vI 0), (1, vP none), (0, vA x0)]) d_Hm_resize_15 rfl (by decide) rfl (?_ : WD _ _ 16 _ _ _ _ _ _)
    refine x_aload_nP (some x0) d_Hm_resize_16 rfl (?_ : WD _ _ 17 _ _ _ _ _ _)
    refine x_getI (ref := "java/util/HashMap") (j := 4) 4 k1 clk_20 (by decide) (qm_6 (i := 164) rfl rfl) (Or.inl rfl) rfl rfl d_Hm_resize_17 (y := (wI w x0 4)) rfl (?_ : WD _ _ 20 _ _ _ _ _ _)
    refine x_istore_n (ls' := [(3, vI (wI w x0 4)), (2, vI 0), (1, vP none), (0, vA x0)]) d_Hm_resize_20 rfl (by decide) rfl (?_ : WD _ _ 21 _ _ _ _ _ _)
    refine x_iconst d_Hm_resize_21 (by decide) (?_ : WD _ _ 22 _ _ _ _ _ _)
    refine x_istore (ls' := [(5, vI 0), (3, vI (wI w x0 4)), (2, vI 0), (1, vP none), (0, vA x0)]) d_Hm_resize_22 (by decide) rfl (?_ : WD _ _ 24 _ _ _ _ _ _)
    refine x_iload_n d_Hm_resize_24 rfl (?_ : WD _ _ 25 _ _ _ _ _ _)
    refine x_if_le 67 d_Hm_resize_25 rfl ⟨fun hc => (?_ : WD _ _ 67 _ _ _ _ _ _), fun hc => absurd hc (by decide)⟩
    refine x_iload_n d_Hm_resize_67 rfl (?_ : WD _ _ 68 _ _ _ _ _ _)
    refine x_if_le 77 d_Hm_resize_68 rfl ⟨fun c4 => (?_ : WD _ _ 77 _ _ _ _ _ _), fun c4 => (?_ : WD _ _ 71 _ _ _ _ _ _)⟩
    · replace h := h.1 c4
      refine x_bipush d_Hm_resize_77 (by decide) (by decide) (?_ : WD _ _ 79 _ _ _ _ _ _)
      refine x_istore (ls' := [(4, vI 16), (5, vI 0), (3, vI (wI w x0 4)), (2, vI 0), (1, vP none), (0, vA x0)]) d_Hm_resize_79 (by decide) rfl (?_ : WD _ _ 81 _ _ _ _ _ _)
      refine x_bipush d_Hm_resize_81 (by decide) (by decide) (?_ : WD _ _ 83 _ _ _ _ _ _)
      refine x_istore (ls' := [(5, vI 12), (4, vI 16), (3, vI (wI w x0 4)), (2, vI 0), (1, vP none), (0, vA x0)]) d_Hm_resize_83 (by decide) rfl (?_ : WD _ _ 85 _ _ _ _ _ _)
      refine x_iload d_Hm_resize_85 rfl (?_ : WD _ _ 87 _ _ _ _ _ _)
      refine x_if_ne 125 d_Hm_resize_87 rfl ⟨fun hc => (?_ : WD _ _ 125 _ _ _ _ _ _), fun hc => absurd hc (by decide)⟩
      refine x_aload_nP (some x0) d_Hm_resize_125 rfl (?_ : WD _ _ 126 _ _ _ _ _ _)
      refine x_iload d_Hm_resize_126 rfl (?_ : WD _ _ 128 _ _ _ _ _ _)
      obtain ⟨k5, h⟩ := h
      refine x_putI (ref := "java/util/HashMap") (j := 4) 4 k5 clk_20 (by decide) (qm_6 (i := 164) rfl rfl) (Or.inl rfl) (Or.inl rfl) tyX28_ok rfl nmX28 d_Hm_resize_128 rfl rfl (fun _ => rfl) rfl (?_ : WD _ _ 131 _ _ _ _ _ _)
      refine x_iload d_Hm_resize_131 rfl (?_ : WD _ _ 133 _ _ _ _ _ _)
      obtain ⟨h6, h⟩ := h
      obtain ⟨h7, h⟩ := h
      refine x_newq (t := 5) 16 rfl d_Hm_resize_133 (qm_7 (i := 122) rfl rfl) (by decide) (fun _ => rfl) (by decide) h6 h7 (fun q8 fq8 => (?_ : WD _ _ 136 _ _ _ _ _ _))
      replace h := h q8 fq8
      have k9 : Ow (uN (uI w x0 4 12) q8 (kR 5 16)) q8 (kR 5 16) := Ow.nw
      refine x_astoreP (some q8) (ls' := [(6, vA q8), (5, vI 12), (4, vI 16), (3, vI (wI w x0 4)), (2, vI 0), (1, vP none), (0, vA x0)]) d_Hm_resize_136 (by decide) rfl (?_ : WD _ _ 138 _ _ _ _ _ _)
      refine x_aload_nP (some x0) d_Hm_resize_138 rfl (?_ : WD _ _ 139 _ _ _ _ _ _)
      refine x_aloadP (some q8) d_Hm_resize_139 rfl (?_ : WD _ _ 141 _ _ _ _ _ _)
      refine x_putP (ref := "java/util/HashMap") (j := 0) (some q8) 0 (k5.nu fq8) clk_20 (by decide) (qm_6 (i := 156) rfl rfl) (Or.inl rfl) (Or.inl rfl) tyX28_ok rfl nmX28 d_Hm_resize_141 rfl rfl (nar_P (by first | exact Or.inl ⟨_, rfl⟩ | exact Or.inr ⟨_, rfl⟩) _) (fit_P (by first | exact Or.inl ⟨_, rfl⟩ | exact Or.inr ⟨_, rfl⟩) _) (?_ : WD _ _ 144 _ _ _ _ _ _)
      refine x_aload_nP none d_Hm_resize_144 rfl (?_ : WD _ _ 145 _ _ _ _ _ _)
      refine x_ifnull (r := none) 353 d_Hm_resize_145 rfl ⟨fun _ => (?_ : WD _ _ 353 _ _ _ _ _ _), fun _ hz => absurd hz (by simp)⟩
      refine x_aloadP (some q8) d_Hm_resize_353 rfl (?_ : WD _ _ 355 _ _ _ _ _ _)
      exact x_areturn (some q8) rfl (Or.inr ⟨_, rfl⟩) d_Hm_resize_355 h
    · replace h := h.2 c4
      refine x_iload_n d_Hm_resize_71 rfl (?_ : WD _ _ 72 _ _ _ _ _ _)
      refine x_istore (ls' := [(4, vI (wI w x0 4)), (5, vI 0), (3, vI (wI w x0 4)), (2, vI 0), (1, vP none), (0, vA x0)]) d_Hm_resize_72 (by decide) rfl (?_ : WD _ _ 74 _ _ _ _ _ _)
      refine x_goto 85 d_Hm_resize_74 rfl ?_
      refine x_iload d_Hm_resize_85 rfl (?_ : WD _ _ 87 _ _ _ _ _ _)
      refine x_if_ne 125 d_Hm_resize_87 rfl ⟨fun hc => absurd rfl hc, fun hc => (?_ : WD _ _ 90 _ _ _ _ _ _)⟩
      refine x_iload d_Hm_resize_90 rfl (?_ : WD _ _ 92 _ _ _ _ _ _)
      refine x_i2f d_Hm_resize_92 (?_ : WD _ _ 93 _ _ _ _ _ _)
      refine x_aload_nP (some x0) d_Hm_resize_93 rfl (?_ : WD _ _ 94 _ _ _ _ _ _)
      refine x_getF (ref := "java/util/HashMap") (j := 5) k1 clk_20 (by decide) (qm_6 (i := 165) rfl rfl) (Or.inl rfl) rfl d_Hm_resize_94 (u := (UInt32.ofNat (wJ w x0 5).toNat)) rfl (?_ : WD _ _ 97 _ _ _ _ _ _)
      obtain ⟨h10, h⟩ := h
      refine x_fmul d_Hm_resize_97 h10 (?_ : WD _ _ 98 _ _ _ _ _ _)
      refine x_fstore (ls' := [(6, vO (.float (FP.fmul (FP.i2f (Int32.ofInt (wI w x0 4))) (UInt32.ofNat (wJ w x0 5).toNat)))), (4, vI (wI w x0 4)), (5, vI 0), (3, vI (wI w x0 4)), (2, vI 0), (1, vP none), (0, vA x0)]) d_Hm_resize_98 (by decide) rfl (?_ : WD _ _ 100 _ _ _ _ _ _)
      refine x_iload d_Hm_resize_100 rfl (?_ : WD _ _ 102 _ _ _ _ _ _)
      refine x_ldc 1073741824 d_Hm_resize_102 (qm_6 (i := 138) rfl rfl) (by decide) (by decide) (?_ : WD _ _ 104 _ _ _ _ _ _)
      refine x_icmp_ge 121 d_Hm_resize_104 rfl ⟨fun c11 => (?_ : WD _ _ 121 _ _ _ _ _ _), fun c11 => (?_ : WD _ _ 107 _ _ _ _ _ _)⟩
      · replace h := h.1 c11
        refine x_ldc 2147483647 d_Hm_resize_121 (qm_7 (i := 120) rfl rfl) (by decide) (by decide) (?_ : WD _ _ 123 _ _ _ _ _ _)
        refine x_istore (ls' := [(5, vI 2147483647), (6, vO (.float (FP.fmul (FP.i2f (Int32.ofInt (wI w x0 4))) (UInt32.ofNat (wJ w x0 5).toNat)))), (4, vI (wI w x0 4)), (3, vI (wI w x0 4)), (2, vI 0), (1, vP none), (0, vA x0)]) d_Hm_resize_123 (by decide) rfl (?_ : WD _ _ 125 _ _ _ _ _ _)
        refine x_aload_nP (some x0) d_Hm_resize_125 rfl (?_ : WD _ _ 126 _ _ _ _ _ _)
        refine x_iload d_Hm_resize_126 rfl (?_ : WD _ _ 128 _ _ _ _ _ _)
        obtain ⟨k12, h⟩ := h
        refine x_putI (ref := "java/util/HashMap") (j := 4) 4 k12 clk_20 (by decide) (qm_6 (i := 164) rfl rfl) (Or.inl rfl) (Or.inl rfl) tyX28_ok rfl nmX28 d_Hm_resize_128 rfl rfl (fun _ => rfl) rfl (?_ : WD _ _ 131 _ _ _ _ _ _)
        refine x_iload d_Hm_resize_131 rfl (?_ : WD _ _ 133 _ _ _ _ _ _)
        obtain ⟨n13, e14, h⟩ := h
        obtain ⟨h15, h⟩ := h
        obtain ⟨h16, h⟩ := h
        obtain ⟨h17, h⟩ := h
        refine x_newq (t := 5) n13 e14 d_Hm_resize_133 (qm_7 (i := 122) rfl rfl) (by decide) (fun _ => rfl) h15 h16 h17 (fun q18 fq18 => (?_ : WD _ _ 136 _ _ _ _ _ _))
        replace h := h q18 fq18
        have k19 : Ow (uN (uI w x0 4 2147483647) q18 (kR 5 n13)) q18 (kR 5 n13) := Ow.nw
        refine x_astoreP (some q18) (ls' := [(6, vA q18), (5, vI 2147483647), (4, vI (wI w x0 4)), (3, vI (wI w x0 4)), (2, vI 0), (1, vP none), (0, vA x0)]) d_Hm_resize_136 (by decide) rfl (?_ : WD _ _ 138 _ _ _ _ _ _)
        refine x_aload_nP (some x0) d_Hm_resize_138 rfl (?_ : WD _ _ 139 _ _ _ _ _ _)
        refine x_aloadP (some q18) d_Hm_resize_139 rfl (?_ : WD _ _ 141 _ _ _ _ _ _)
        refine x_putP (ref := "java/util/HashMap") (j := 0) (some q18) 0 (k12.nu fq18) clk_20 (by decide) (qm_6 (i := 156) rfl rfl) (Or.inl rfl) (Or.inl rfl) tyX28_ok rfl nmX28 d_Hm_resize_141 rfl rfl (nar_P (by first | exact Or.inl ⟨_, rfl⟩ | exact Or.inr ⟨_, rfl⟩) _) (fit_P (by first | exact Or.inl ⟨_, rfl⟩ | exact Or.inr ⟨_, rfl⟩) _) (?_ : WD _ _ 144 _ _ _ _ _ _)
        refine x_aload_nP none d_Hm_resize_144 rfl (?_ : WD _ _ 145 _ _ _ _ _ _)
        refine x_ifnull (r := none) 353 d_Hm_resize_145 rfl ⟨fun _ => (?_ : WD _ _ 353 _ _ _ _ _ _), fun _ hz => absurd hz (by simp)⟩
        refine x_aloadP (some q18) d_Hm_resize_353 rfl (?_ : WD _ _ 355 _ _ _ _ _ _)
        exact x_areturn (some q18) rfl (Or.inr ⟨_, rfl⟩) d_Hm_resize_355 h
      · replace h := h.2 c11
        refine x_fload d_Hm_resize_107 rfl (?_ : WD _ _ 109 _ _ _ _ _ _)
        refine x_ldcf d_Hm_resize_109 (qm_7 (i := 121) rfl rfl) (?_ : WD _ _ 111 _ _ _ _ _ _)
        refine x_fcmp d_Hm_resize_111 (?_ : WD _ _ 112 _ _ _ _ _ _)
        refine x_if_ge 121 d_Hm_resize_112 rfl ⟨fun c20 => (?_ : WD _ _ 121 _ _ _ _ _ _), fun c20 => (?_ : WD _ _ 115 _ _ _ _ _ _)⟩
        · replace h := h.1 c20
          refine x_ldc 2147483647 d_Hm_resize_121 (qm_7 (i := 120) rfl rfl) (by decide) (by decide) (?_ : WD _ _ 123 _ _ _ _ _ _)
          refine x_istore (ls' := [(5, vI 2147483647), (6, vO (.float (FP.fmul (FP.i2f (Int32.ofInt (wI w x0 4))) (UInt32.ofNat (wJ w x0 5).toNat)))), (4, vI (wI w x0 4)), (3, vI (wI w x0 4)), (2, vI 0), (1, vP none), (0, vA x0)]) d_Hm_resize_123 (by decide) rfl (?_ : WD _ _ 125 _ _ _ _ _ _)
          refine x_aload_nP (some x0) d_Hm_resize_125 rfl (?_ : WD _ _ 126 _ _ _ _ _ _)
          refine x_iload d_Hm_resize_126 rfl (?_ : WD _ _ 128 _ _ _ _ _ _)
          obtain ⟨k21, h⟩ := h
          refine x_putI (ref := "java/util/HashMap") (j := 4) 4 k21 clk_20 (by decide) (qm_6 (i := 164) rfl rfl) (Or.inl rfl) (Or.inl rfl) tyX28_ok rfl nmX28 d_Hm_resize_128 rfl rfl (fun _ => rfl) rfl (?_ : WD _ _ 131 _ _ _ _ _ _)
          refine x_iload d_Hm_resize_131 rfl (?_ : WD _ _ 133 _ _ _ _ _ _)
          obtain ⟨n22, e23, h⟩ := h
          obtain ⟨h24, h⟩ := h
          obtain ⟨h25, h⟩ := h
          obtain ⟨h26, h⟩ := h
          refine x_newq (t := 5) n22 e23 d_Hm_resize_133 (qm_7 (i := 122) rfl rfl) (by decide) (fun _ => rfl) h24 h25 h26 (fun q27 fq27 => (?_ : WD _ _ 136 _ _ _ _ _ _))
          replace h := h q27 fq27
          have k28 : Ow (uN (uI w x0 4 2147483647) q27 (kR 5 n22)) q27 (kR 5 n22) := Ow.nw
          refine x_astoreP (some q27) (ls' := [(6, vA q27), (5, vI 2147483647), (4, vI (wI w x0 4)), (3, vI (wI w x0 4)), (2, vI 0), (1, vP none), (0, vA x0)]) d_Hm_resize_136 (by decide) rfl (?_ : WD _ _ 138 _ _ _ _ _ _)
          refine x_aload_nP (some x0) d_Hm_resize_138 rfl (?_ : WD _ _ 139 _ _ _ _ _ _)
          refine x_aloadP (some q27) d_Hm_resize_139 rfl (?_ : WD _ _ 141 _ _ _ _ _ _)
          refine x_putP (ref := "java/util/HashMap") (j := 0) (some q27) 0 (k21.nu fq27) clk_20 (by decide) (qm_6 (i := 156) rfl rfl) (Or.inl rfl) (Or.inl rfl) tyX28_ok rfl nmX28 d_Hm_resize_141 rfl rfl (nar_P (by first | exact Or.inl ⟨_, rfl⟩ | exact Or.inr ⟨_, rfl⟩) _) (fit_P (by first | exact Or.inl ⟨_, rfl⟩ | exact Or.inr ⟨_, rfl⟩) _) (?_ : WD _ _ 144 _ _ _ _ _ _)
          refine x_aload_nP none d_Hm_resize_144 rfl (?_ : WD _ _ 145 _ _ _ _ _ _)
          refine x_ifnull (r := none) 353 d_Hm_resize_145 rfl ⟨fun _ => (?_ : WD _ _ 353 _ _ _ _ _ _), fun _ hz => absurd hz (by simp)⟩
          refine x_aloadP (some q27) d_Hm_resize_353 rfl (?_ : WD _ _ 355 _ _ _ _ _ _)
          exact x_areturn (some q27) rfl (Or.inr ⟨_, rfl⟩) d_Hm_resize_355 h
        · replace h := h.2 c20
          refine x_fload d_Hm_resize_115 rfl (?_ : WD _ _ 117 _ _ _ _ _ _)
          refine x_f2i d_Hm_resize_117 (?_ : WD _ _ 118 _ _ _ _ _ _)
          refine x_goto 123 d_Hm_resize_118 rfl ?_
          refine x_istore (ls' := [(5, vI (f2q (FP.fmul (FP.i2f (Int32.ofInt (wI w x0 4))) (UInt32.ofNat (wJ w x0 5).toNat)))), (6, vO (.float (FP.fmul (FP.i2f (Int32.ofInt (wI w x0 4))) (UInt32.ofNat (wJ w x0 5).toNat)))), (4, vI (wI w x0 4)), (3, vI (wI w x0 4)), (2, vI 0), (1, vP none), (0, vA x0)]) d_Hm_resize_123 (by decide) rfl (?_ : WD _ _ 125 _ _ _ _ _ _)
          refine x_aload_nP (some x0) d_Hm_resize_125 rfl (?_ : WD _ _ 126 _ _ _ _ _ _)
          refine x_iload d_Hm_resize_126 rfl (?_ : WD _ _ 128 _ _ _ _ _ _)
          obtain ⟨k29, h⟩ := h
          refine x_putI (ref := "java/util/HashMap") (j := 4) 4 k29 clk_20 (by decide) (qm_6 (i := 164) rfl rfl) (Or.inl rfl) (Or.inl rfl) tyX28_ok rfl nmX28 d_Hm_resize_128 rfl rfl (fun _ => rfl) rfl (?_ : WD _ _ 131 _ _ _ _ _ _)
          refine x_iload d_Hm_resize_131 rfl (?_ : WD _ _ 133 _ _ _ _ _ _)
          obtain ⟨n30, e31, h⟩ := h
          obtain ⟨h32, h⟩ := h
          obtain ⟨h33, h⟩ := h
          obtain ⟨h34, h⟩ := h
          refine x_newq (t := 5) n30 e31 d_Hm_resize_133 (qm_7 (i := 122) rfl rfl) (by decide) (fun _ => rfl) h32 h33 h34 (fun q35 fq35 => (?_ : WD _ _ 136 _ _ _ _ _ _))
          replace h := h q35 fq35
          have k36 : Ow (uN (uI w x0 4 (f2q (FP.fmul (FP.i2f (Int32.ofInt (wI w x0 4))) (UInt32.ofNat (wJ w x0 5).toNat)))) q35 (kR 5 n30)) q35 (kR 5 n30) := Ow.nw
          refine x_astoreP (some q35) (ls' := [(6, vA q35), (5, vI (f2q (FP.fmul (FP.i2f (Int32.ofInt (wI w x0 4))) (UInt32.ofNat (wJ w x0 5).toNat)))), (4, vI (wI w x0 4)), (3, vI (wI w x0 4)), (2, vI 0), (1, vP none), (0, vA x0)]) d_Hm_resize_136 (by decide) rfl (?_ : WD _ _ 138 _ _ _ _ _ _)
          refine x_aload_nP (some x0) d_Hm_resize_138 rfl (?_ : WD _ _ 139 _ _ _ _ _ _)
          refine x_aloadP (some q35) d_Hm_resize_139 rfl (?_ : WD _ _ 141 _ _ _ _ _ _)
          refine x_putP (ref := "java/util/HashMap") (j := 0) (some q35) 0 (k29.nu fq35) clk_20 (by decide) (qm_6 (i := 156) rfl rfl) (Or.inl rfl) (Or.inl rfl) tyX28_ok rfl nmX28 d_Hm_resize_141 rfl rfl (nar_P (by first | exact Or.inl ⟨_, rfl⟩ | exact Or.inr ⟨_, rfl⟩) _) (fit_P (by first | exact Or.inl ⟨_, rfl⟩ | exact Or.inr ⟨_, rfl⟩) _) (?_ : WD _ _ 144 _ _ _ _ _ _)
          refine x_aload_nP none d_Hm_resize_144 rfl (?_ : WD _ _ 145 _ _ _ _ _ _)
          refine x_ifnull (r := none) 353 d_Hm_resize_145 rfl ⟨fun _ => (?_ : WD _ _ 353 _ _ _ _ _ _), fun _ hz => absurd hz (by simp)⟩
          refine x_aloadP (some q35) d_Hm_resize_353 rfl (?_ : WD _ _ 355 _ _ _ _ _ _)
          exact x_areturn (some q35) rfl (Or.inr ⟨_, rfl⟩) d_Hm_resize_355 h
  · replace h := h.2 a2 e3
    rw [e3]
    exact h.elim
set_option maxRecDepth 20000 in
theorem e_Lm_newNode {G : Gq} {K : Option Nat → Wd → Prop} {w : Wd} {mc ms : Nat} (x0 : Nat) (x1 : Int) (x2 : Nat) (x3 : Nat) (x4 : Option Nat) (h : (1 ≤ mc) ∧ (6 ≤ ms) ∧ ∀ q3 : Nat, Fr G w q3 → (DV G M_Ln_init [vA q3, vI x1, vA x2, vA x3, vP x4] (uN w q3 (kO 21)) 0 0 (fun w5 => (Is G w5 x0 (kO 20)) ∧ DV G M_Lm_linkNodeAtEnd [vA x0, vA q3] w5 0 0 (fun w8 => K (some q3) w8)))) : DP G M_Lm_newNode [vA x0, vI x1, vA x2, vA x3, vP x4] w mc ms K := by
  refine DC.of ok_M_Lm_newNode (ls := [(0, vA x0), (1, vI x1), (2, vA x2), (3, vA x3), (4, vP x4)]) rfl (Nat.le_of_ble_eq_true rfl) ?_
  obtain ⟨h1, h⟩ := h
  obtain ⟨h2, h⟩ := h
  refine x_new d_Lm_newNode_0 clk_21 tyX24_ok (qm_7 (i := 140) rfl rfl) (qm_7 (i := 141) rfl rfl) (qm_1 (i := 41) rfl rfl) hfd_21 h1 h2 (fun q3 fq3 => (?_ : WD _ _ 3 _ _ _ _ _ _))
  replace h := h q3 fq3
  have k4 : Ow (uN w q3 (kO 21)) q3 (kO 21) := Ow.nw
  refine x_dup d_Lm_newNode_3 rfl (?_ : WD _ _ 4 _ _ _ _ _ _)
  refine x_iload_n d_Lm_newNode_4 rfl (?_ : WD _ _ 5 _ _ _ _ _ _)
  refine x_aload_nP (some x2) d_Lm_newNode_5 rfl (?_ : WD _ _ 6 _ _ _ _ _ _)
  refine x_aload_nP (some x3) d_Lm_newNode_6 rfl (?_ : WD _ _ 7 _ _ _ _ _ _)
  refine x_aloadP x4 d_Lm_newNode_7 rfl (?_ : WD _ _ 9 _ _ _ _ _ _)
  refine x_callI (ν := M_Ln_init) [vI x1, vA x2, vA x3, vP x4] ok_M_Ln_init oki_M_Ln_init rfl rfl (qm_7 (i := 142) rfl rfl) np_M_Ln_init rfl ⟨Nat.le_of_ble_eq_true rfl, Nat.le_of_ble_eq_true rfl⟩ (Nat.le_of_ble_eq_true rfl) rfl d_Lm_newNode_9 (Nat.zero_le _) (Nat.zero_le _) (DV.k h (fun w5 gw5 h => (?_ : WD _ _ 12 _ _ _ _ _ _)))
  refine x_astoreP (some q3) (ls' := [(5, vA q3), (0, vA x0), (1, vI x1), (2, vA x2), (3, vA x3), (4, vP x4)]) d_Lm_newNode_12 (by decide) rfl (?_ : WD _ _ 14 _ _ _ _ _ _)
  refine x_aload_nP (some x0) d_Lm_newNode_14 rfl (?_ : WD _ _ 15 _ _ _ _ _ _)
  refine x_aloadP (some q3) d_Lm_newNode_15 rfl (?_ : WD _ _ 17 _ _ _ _ _ _)
  obtain ⟨k7, h⟩ := h
  refine x_callV (ν := M_Lm_linkNodeAtEnd) [vA q3] ok_M_Lm_linkNodeAtEnd okv_M_Lm_linkNodeAtEnd k7 rfl rfl (qm_8 (i := 180) rfl rfl) np_M_Lm_linkNodeAtEnd rfl ⟨Nat.le_of_ble_eq_true rfl, Nat.le_of_ble_eq_true rfl⟩ (Nat.le_of_ble_eq_true rfl) rfl d_Lm_newNode_17 (Nat.zero_le _) (Nat.zero_le _) (DV.k h (fun w8 gw8 h => (?_ : WD _ _ 20 _ _ _ _ _ _)))
  refine x_aloadP (some q3) d_Lm_newNode_20 rfl (?_ : WD _ _ 22 _ _ _ _ _ _)
  exact x_areturn (some q3) rfl (Or.inl ⟨_, rfl⟩) d_Lm_newNode_22 h
set_option maxRecDepth 20000 in
theorem e_Lm_afterNodeInsertion {G : Gq} {K : Wd → Prop} {w : Wd} {mc ms : Nat} (x0 : Nat) (x1 : Int) (h : (x1 = 0 → K w) ∧ (¬ x1 = 0 → (Is G w x0 (kO 20)) ∧ ((wR w x0 8) = none → K w) ∧ (∀ a3 : Nat, (wR w x0 8) = some a3 → DI G M_Lm_removeEldestEntry [vA x0, vA a3] w 0 0 (fun v6 w5 => (v6 = 0 → K w5) ∧ (¬ v6 = 0 → False))))) : DV G M_Lm_afterNodeInsertion [vA x0, vI x1] w mc ms K := by
  refine DC.of ok_M_Lm_afterNodeInsertion (ls := [(0, vA x0), (1, vI x1)]) rfl (Nat.le_of_ble_eq_true rfl) ?_
  refine x_iload_n d_Lm_afterNodeInsertion_0 rfl (?_ : WD _ _ 1 _ _ _ _ _ _)
  refine x_if_eq 39 d_Lm_afterNodeInsertion_1 rfl ⟨fun c1 => (?_ : WD _ _ 39 _ _ _ _ _ _), fun c1 => (?_ : WD _ _ 4 _ _ _ _ _ _)⟩
  · replace h := h.1 c1
    exact x_return rfl d_Lm_afterNodeInsertion_39 h
  · replace h := h.2 c1
    refine x_aload_nP (some x0) d_Lm_afterNodeInsertion_4 rfl (?_ : WD _ _ 5 _ _ _ _ _ _)
    obtain ⟨k2, h⟩ := h
    refine x_getP (ref := "java/util/LinkedHashMap") (j := 8) 8 k2 clk_20 (by decide) (qm_6 (i := 149) rfl rfl) (Or.inl rfl) rfl rfl d_Lm_afterNodeInsertion_5 (y := (wR w x0 8)) rfl (?_ : WD _ _ 8 _ _ _ _ _ _)
    refine x_dup d_Lm_afterNodeInsertion_8 rfl (?_ : WD _ _ 9 _ _ _ _ _ _)
    refine x_astore_nP (wR w x0 8) (ls' := [(2, vP (wR w x0 8)), (0, vA x0), (1, vI x1)]) d_Lm_afterNodeInsertion_9 rfl (by decide) rfl (?_ : WD _ _ 10 _ _ _ _ _ _)
    refine x_ifnull 39 d_Lm_afterNodeInsertion_10 rfl ⟨fun e4 => (?_ : WD _ _ 39 _ _ _ _ _ _), fun a3 e4 => (?_ : WD _ _ 13 _ _ _ _ _ _)⟩
    · replace h := h.1 e4
      rw [e4]
      exact x_return rfl d_Lm_afterNodeInsertion_39 h
    · replace h := h.2 a3 e4
      rw [e4]
      refine x_aload_nP (some x0) d_Lm_afterNodeInsertion_13 rfl (?_ : WD _ _ 14 _ _ _ _ _ _)
      refine x_aload_nP (some a3) d_Lm_afterNodeInsertion_14 rfl (?_ : WD _ _ 15 _ _ _ _ _ _)
      refine x_callV (ν := M_Lm_removeEldestEntry) [vA a3] ok_M_Lm_removeEldestEntry okv_M_Lm_removeEldestEntry k2 rfl rfl (qm_9 (i := 21) rfl rfl) np_M_Lm_removeEldestEntry rfl ⟨Nat.le_of_ble_eq_true rfl, Nat.le_of_ble_eq_true rfl⟩ (Nat.le_of_ble_eq_true rfl) rfl d_Lm_afterNodeInsertion_15 (Nat.zero_le _) (Nat.zero_le _) (DI.k h (fun v6 w5 gw5 h => (?_ : WD _ _ 18 _ _ _ _ _ _)))
      refine x_if_eq 39 d_Lm_afterNodeInsertion_18 rfl ⟨fun c7 => (?_ : WD _ _ 39 _ _ _ _ _ _), fun c7 => (?_ : WD _ _ 21 _ _ _ _ _ _)⟩
      · replace h := h.1 c7
        exact x_return rfl d_Lm_afterNodeInsertion_39 h
      · replace h := h.2 c7
        exact h.elim
set_option maxRecDepth 20000 in
theorem e_Lm_afterNodeAccess {G : Gq} {K : Wd → Prop} {w : Wd} {mc ms : Nat} (x0 : Nat) (x1 : Nat) (h : (Is G w x0 (kO 20)) ∧ ((wI w x0 11) = 0) ∧ ((wI w x0 10) = 0) ∧ K w) : DV G M_Lm_afterNodeAccess [vA x0, vA x1] w mc ms K := by
  refine DC.of ok_M_Lm_afterNodeAccess (ls := [(0, vA x0), (1, vA x1)]) rfl (Nat.le_of_ble_eq_true rfl) ?_
  refine x_aload_nP (some x0) d_Lm_afterNodeAccess_0 rfl (?_ : WD _ _ 1 _ _ _ _ _ _)
  obtain ⟨k1, h⟩ := h
  obtain ⟨h2, h⟩ := h
  refine x_getI (ref := "java/util/LinkedHashMap") (j := 11) 11 k1 clk_20 (by decide) (qm_6 (i := 154) rfl rfl) (Or.inl rfl) rfl rfl d_Lm_afterNodeAccess_1 (y := 0) (h2) (?_ : WD _ _ 4 _ _ _ _ _ _)
  refine x_iconst d_Lm_afterNodeAccess_4 (by decide) (?_ : WD _ _ 5 _ _ _ _ _ _)
  refine x_icmp_eq 22 d_Lm_afterNodeAccess_5 rfl ⟨fun hc => absurd hc (by decide), fun hc => (?_ : WD _ _ 8 _ _ _ _ _ _)⟩
  refine x_aload_nP (some x0) d_Lm_afterNodeAccess_8 rfl (?_ : WD _ _ 9 _ _ _ _ _ _)
  refine x_getI (ref := "java/util/LinkedHashMap") (j := 11) 11 k1 clk_20 (by decide) (qm_6 (i := 154) rfl rfl) (Or.inl rfl) rfl rfl d_Lm_afterNodeAccess_9 (y := 0) (h2) (?_ : WD _ _ 12 _ _ _ _ _ _)
  refine x_if_ne 141 d_Lm_afterNodeAccess_12 rfl ⟨fun hc => absurd rfl hc, fun hc => (?_ : WD _ _ 15 _ _ _ _ _ _)⟩
  refine x_aload_nP (some x0) d_Lm_afterNodeAccess_15 rfl (?_ : WD _ _ 16 _ _ _ _ _ _)
  obtain ⟨h3, h⟩ := h
  refine x_getI (ref := "java/util/LinkedHashMap") (j := 10) 10 k1 clk_20 (by decide) (qm_6 (i := 153) rfl rfl) (Or.inl rfl) rfl rfl d_Lm_afterNodeAccess_16 (y := 0) (h3) (?_ : WD _ _ 19 _ _ _ _ _ _)
  refine x_if_eq 141 d_Lm_afterNodeAccess_19 rfl ⟨fun hc => (?_ : WD _ _ 141 _ _ _ _ _ _), fun hc => absurd rfl hc⟩
  refine x_aload_nP (some x0) d_Lm_afterNodeAccess_141 rfl (?_ : WD _ _ 142 _ _ _ _ _ _)
  refine x_getI (ref := "java/util/LinkedHashMap") (j := 11) 11 k1 clk_20 (by decide) (qm_6 (i := 154) rfl rfl) (Or.inl rfl) rfl rfl d_Lm_afterNodeAccess_142 (y := 0) (h2) (?_ : WD _ _ 145 _ _ _ _ _ _)
  refine x_iconst d_Lm_afterNodeAccess_145 (by decide) (?_ : WD _ _ 146 _ _ _ _ _ _)
  refine x_icmp_ne 265 d_Lm_afterNodeAccess_146 rfl ⟨fun hc => (?_ : WD _ _ 265 _ _ _ _ _ _), fun hc => absurd hc (by decide)⟩
  exact x_return rfl d_Lm_afterNodeAccess_265 h
set_option maxRecDepth 20000 in
theorem e_As_newCapacity {G : Gq} {K : Int → Wd → Prop} {w : Wd} {mc ms : Nat} (x0 : Nat) (x1 : Int) (h : (Is G w x0 (kO 17)) ∧ ∃ a2 : Nat, (wR w x0 0) = some a2 ∧ (∃ n4 : Nat, ((Is G w a2 (kA 1 n4)) ∧ (inR (n4 : Int)) ∧ ((wI w x0 1) = 0) ∧ (inR ((ishlq x1 0) - (n4 : Int))) ∧ (inR ((n4 : Int) + (ishlq 2 0))) ∧ DI G M_Ss_newLength [vI (n4 : Int), vI ((ishlq x1 0) - (n4 : Int)), vI ((n4 : Int) + (ishlq 2 0))] w 0 0 (fun v11 w10 => (¬ v11 = 2147483647 → ((wI w10 x0 1) = 0) ∧ K (ishrq v11 0) w10) ∧ (v11 = 2147483647 → False))))) : DI G M_As_newCapacity [vA x0, vI x1] w mc ms K := by
  refine DC.of ok_M_As_newCapacity (ls := [(0, vA x0), (1, vI x1)]) rfl (Nat.le_of_ble_eq_true rfl) ?_
  refine x_aload_nP (some x0) d_As_newCapacity_0 rfl (?_ : WD _ _ 1 _ _ _ _ _ _)
  obtain ⟨k1, h⟩ := h
  refine x_getP (ref := "java/lang/AbstractStringBuilder") (j := 0) 0 k1 clk_17 (by decide) (qm_3 (i := 206) rfl rfl) (Or.inl rfl) rfl rfl d_As_newCapacity_1 (y := (wR w x0 0)) rfl (?_ : WD _ _ 4 _ _ _ _ _ _)
  obtain ⟨a2, e3, h⟩ := h
  rw [e3]
  obtain ⟨n4, h⟩ := h
  obtain ⟨k5, h⟩ := h
  obtain ⟨h6, h⟩ := h
  refine x_alenA k5 (fun _ => rfl) h6 d_As_newCapacity_4 (?_ : WD _ _ 5 _ _ _ _ _ _)
  refine x_istore_n (ls' := [(2, vI (n4 : Int)), (0, vA x0), (1, vI x1)]) d_As_newCapacity_5 rfl (by decide) rfl (?_ : WD _ _ 6 _ _ _ _ _ _)
  refine x_iload_n d_As_newCapacity_6 rfl (?_ : WD _ _ 7 _ _ _ _ _ _)
  refine x_aload_nP (some x0) d_As_newCapacity_7 rfl (?_ : WD _ _ 8 _ _ _ _ _ _)
  obtain ⟨h7, h⟩ := h
  refine x_getI (ref := "java/lang/AbstractStringBuilder") (j := 1) 1 k1 clk_17 (by decide) (qm_3 (i := 207) rfl rfl) (Or.inl rfl) rfl rfl d_As_newCapacity_8 (y := 0) (h7) (?_ : WD _ _ 11 _ _ _ _ _ _)
  refine x_ishlq d_As_newCapacity_11 (?_ : WD _ _ 12 _ _ _ _ _ _)
  refine x_istore_n (ls' := [(3, vI (ishlq x1 0)), (2, vI (n4 : Int)), (0, vA x0), (1, vI x1)]) d_As_newCapacity_12 rfl (by decide) rfl (?_ : WD _ _ 13 _ _ _ _ _ _)
  refine x_iload_n d_As_newCapacity_13 rfl (?_ : WD _ _ 14 _ _ _ _ _ _)
  refine x_iload_n d_As_newCapacity_14 rfl (?_ : WD _ _ 15 _ _ _ _ _ _)
  obtain ⟨h8, h⟩ := h
  refine x_isub d_As_newCapacity_15 h8 (?_ : WD _ _ 16 _ _ _ _ _ _)
  refine x_istore (ls' := [(4, vI ((ishlq x1 0) - (n4 : Int))), (3, vI (ishlq x1 0)), (2, vI (n4 : Int)), (0, vA x0), (1, vI x1)]) d_As_newCapacity_16 (by decide) rfl (?_ : WD _ _ 18 _ _ _ _ _ _)
  refine x_iload_n d_As_newCapacity_18 rfl (?_ : WD _ _ 19 _ _ _ _ _ _)
  refine x_iload d_As_newCapacity_19 rfl (?_ : WD _ _ 21 _ _ _ _ _ _)
  refine x_iload_n d_As_newCapacity_21 rfl (?_ : WD _ _ 22 _ _ _ _ _ _)
  refine x_iconst d_As_newCapacity_22 (by decide) (?_ : WD _ _ 23 _ _ _ _ _ _)
  refine x_aload_nP (some x0) d_As_newCapacity_23 rfl (?_ : WD _ _ 24 _ _ _ _ _ _)
  refine x_getI (ref := "java/lang/AbstractStringBuilder") (j := 1) 1 k1 clk_17 (by decide) (qm_3 (i := 207) rfl rfl) (Or.inl rfl) rfl rfl d_As_newCapacity_24 (y := 0) (h7) (?_ : WD _ _ 27 _ _ _ _ _ _)
  refine x_ishlq d_As_newCapacity_27 (?_ : WD _ _ 28 _ _ _ _ _ _)
  obtain ⟨h9, h⟩ := h
  refine x_iadd d_As_newCapacity_28 h9 (?_ : WD _ _ 29 _ _ _ _ _ _)
  refine x_callS (ν := M_Ss_newLength) [vI (n4 : Int), vI ((ishlq x1 0) - (n4 : Int)), vI ((n4 : Int) + (ishlq 2 0))] ok_M_Ss_newLength oks_M_Ss_newLength (qm_4 (i := 14) rfl rfl) np_M_Ss_newLength rfl ⟨Nat.le_of_ble_eq_true rfl, Nat.le_of_ble_eq_true rfl⟩ (Nat.le_of_ble_eq_true rfl) rfl d_As_newCapacity_29 (Nat.zero_le _) (Nat.zero_le _) (DI.k h (fun v11 w10 gw10 h => (?_ : WD _ _ 32 _ _ _ _ _ _)))
  refine x_istore (ls' := [(5, vI v11), (4, vI ((ishlq x1 0) - (n4 : Int))), (3, vI (ishlq x1 0)), (2, vI (n4 : Int)), (0, vA x0), (1, vI x1)]) d_As_newCapacity_32 (by decide) rfl (?_ : WD _ _ 34 _ _ _ _ _ _)
  refine x_iload d_As_newCapacity_34 rfl (?_ : WD _ _ 36 _ _ _ _ _ _)
  refine x_ldc 2147483647 d_As_newCapacity_36 (qm_4 (i := 15) rfl rfl) (by decide) (by decide) (?_ : WD _ _ 38 _ _ _ _ _ _)
  refine x_icmp_ne 51 d_As_newCapacity_38 rfl ⟨fun c12 => (?_ : WD _ _ 51 _ _ _ _ _ _), fun c12 => (?_ : WD _ _ 41 _ _ _ _ _ _)⟩
  · replace h := h.1 c12
    refine x_iload d_As_newCapacity_51 rfl (?_ : WD _ _ 53 _ _ _ _ _ _)
    refine x_aload_nP (some x0) d_As_newCapacity_53 rfl (?_ : WD _ _ 54 _ _ _ _ _ _)
    obtain ⟨h13, h⟩ := h
    refine x_getI (ref := "java/lang/AbstractStringBuilder") (j := 1) 1 (k1.q gw10.k) clk_17 (by decide) (qm_3 (i := 207) rfl rfl) (Or.inl rfl) rfl rfl d_As_newCapacity_54 (y := 0) (h13) (?_ : WD _ _ 57 _ _ _ _ _ _)
    refine x_ishrq d_As_newCapacity_57 (?_ : WD _ _ 58 _ _ _ _ _ _)
    exact x_ireturn rfl d_As_newCapacity_58 h
  · replace h := h.2 c12
    exact h.elim
set_option maxRecDepth 20000 in
theorem e_Ar_copyOf_9075b {G : Gq} {K : Option Nat → Wd → Prop} {w : Wd} {mc ms : Nat} (x0 : Nat) (x1 : Int) (h : ∃ n1 : Nat, ((Is G w x0 (kA 1 n1)) ∧ (inR (n1 : Int)) ∧ (¬ x1 = (n1 : Int) → ∃ n5 : Nat, x1 = (n5 : Int) ∧ ((n5 ≤ 100000) ∧ (1 ≤ mc) ∧ (n5 ≤ ms) ∧ ∀ q10 : Nat, Fr G w q10 → (DI G M_Ma_min [vI (n1 : Int), vI x1] (uN w q10 (kA 1 n5)) 0 0 (fun v13 w12 => (0 ≤ v13) ∧ (0 + v13 ≤ (n1 : Int)) ∧ (0 + v13 ≤ (n5 : Int)) ∧ (∀ i : Int, 0 ≤ i → i < v13 → -128 ≤ wI w12 x0 (0 + i) ∧ wI w12 x0 (0 + i) ≤ 127) ∧ K (some q10) (uF w12 q10 (cpyI w12 x0 q10 0 0 v13)))))) ∧ (x1 = (n1 : Int) → (Ow w x0 (kA 1 n1)) ∧ (1 ≤ mc) ∧ (n1 ≤ ms) ∧ (∀ j : Int, 0 ≤ j → j < (n1 : Int) → -128 ≤ wI w x0 j ∧ wI w x0 j ≤ 127) ∧ ∀ q22 : Nat, Fr G w q22 → (K (some q22) (uF (uN w q22 (kA 1 n1)) q22 (fun j => wI w x0 j)))))) : DP G M_Ar_copyOf_9075b [vA x0, vI x1] w mc ms K := by
  refine DC.of ok_M_Ar_copyOf_9075b (ls := [(0, vA x0), (1, vI x1)]) rfl (Nat.le_of_ble_eq_true rfl) ?_
  refine x_iload_n d_Ar_copyOf_9075b_0 rfl (?_ : WD _ _ 1 _ _ _ _ _ _)
  refine x_aload_nP (some x0) d_Ar_copyOf_9075b_1 rfl (?_ : WD _ _ 2 _ _ _ _ _ _)
  obtain ⟨n1, h⟩ := h
  obtain ⟨k2, h⟩ := h
  obtain ⟨h3, h⟩ := h
  refine x_alenA k2 (fun _ => rfl) h3 d_Ar_copyOf_9075b_2 (?_ : WD _ _ 3 _ _ _ _ _ _)
  refine x_icmp_ne 14 d_Ar_copyOf_9075b_3 rfl ⟨fun c4 => (?_ : WD _ _ 14 _ _ _ _ _ _), fun c4 => (?_ : WD _ _ 6 _ _ _ _ _ _)⟩
  · replace h := h.1 c4
    refine x_iload_n d_Ar_copyOf_9075b_14 rfl (?_ : WD _ _ 15 _ _ _ _ _ _)
    obtain ⟨n5, e6, h⟩ := h
    obtain ⟨h7, h⟩ := h
    obtain ⟨h8, h⟩ := h
    obtain ⟨h9, h⟩ := h
    refine x_newa (t := 1) n5 e6 d_Ar_copyOf_9075b_15 rfl (qm_1 (i := 74) rfl rfl) (fun _ => rfl) (fun _ _ => rfl) (fun _ => rfl) h7 (by decide) h8 h9 (fun q10 fq10 => (?_ : WD _ _ 17 _ _ _ _ _ _))
    replace h := h q10 fq10
    have k11 : Ow (uN w q10 (kA 1 n5)) q10 (kA 1 n5) := Ow.nw
    refine x_astore_nP (some q10) (ls' := [(2, vA q10), (0, vA x0), (1, vI x1)]) d_Ar_copyOf_9075b_17 rfl (by decide) rfl (?_ : WD _ _ 18 _ _ _ _ _ _)
    refine x_aload_nP (some x0) d_Ar_copyOf_9075b_18 rfl (?_ : WD _ _ 19 _ _ _ _ _ _)
    refine x_iconst d_Ar_copyOf_9075b_19 (by decide) (?_ : WD _ _ 20 _ _ _ _ _ _)
    refine x_aload_nP (some q10) d_Ar_copyOf_9075b_20 rfl (?_ : WD _ _ 21 _ _ _ _ _ _)
    refine x_iconst d_Ar_copyOf_9075b_21 (by decide) (?_ : WD _ _ 22 _ _ _ _ _ _)
    refine x_aload_nP (some x0) d_Ar_copyOf_9075b_22 rfl (?_ : WD _ _ 23 _ _ _ _ _ _)
    refine x_alenA (k2.nu fq10) (fun _ => rfl) h3 d_Ar_copyOf_9075b_23 (?_ : WD _ _ 24 _ _ _ _ _ _)
    refine x_iload_n d_Ar_copyOf_9075b_24 rfl (?_ : WD _ _ 25 _ _ _ _ _ _)
    refine x_callS (ν := M_Ma_min) [vI (n1 : Int), vI x1] ok_M_Ma_min oks_M_Ma_min (qm_3 (i := 164) rfl rfl) np_M_Ma_min rfl ⟨Nat.le_of_ble_eq_true rfl, Nat.le_of_ble_eq_true rfl⟩ (Nat.le_of_ble_eq_true rfl) rfl d_Ar_copyOf_9075b_25 (Nat.zero_le _) (Nat.zero_le _) (DI.k h (fun v13 w12 gw12 h => (?_ : WD _ _ 28 _ _ _ _ _ _)))
    obtain ⟨h14, h⟩ := h
    obtain ⟨h15, h⟩ := h
    obtain ⟨h16, h⟩ := h
    obtain ⟨h17, h⟩ := h
    refine x_copyB ((k2.nu fq10).q gw12.k) (k11.q gw12.k) (qm_3 (i := 167) rfl rfl) (qm_3 (i := 169) rfl rfl) (qm_3 (i := 168) rfl rfl) (qm_1 (i := 25) rfl rfl) (by decide) (by decide) h14 h15 h16 h17 ⟨Nat.le_of_ble_eq_true rfl, Nat.le_of_ble_eq_true rfl⟩ d_Ar_copyOf_9075b_28 (?_ : WD _ _ 31 _ _ _ _ _ _)
    refine x_aload_nP (some q10) d_Ar_copyOf_9075b_31 rfl (?_ : WD _ _ 32 _ _ _ _ _ _)
    exact x_areturn (some q10) rfl (Or.inr ⟨_, rfl⟩) d_Ar_copyOf_9075b_32 h
  · replace h := h.2 c4
    refine x_aload_nP (some x0) d_Ar_copyOf_9075b_6 rfl (?_ : WD _ _ 7 _ _ _ _ _ _)
    obtain ⟨k18, h⟩ := h
    obtain ⟨h19, h⟩ := h
    obtain ⟨h20, h⟩ := h
    obtain ⟨h21, h⟩ := h
    refine x_cloneB k18 (qm_4 (i := 19) rfl rfl) (qm_4 (i := 20) rfl rfl) (qm_4 (i := 21) rfl rfl) (qm_4 (i := 22) rfl rfl) (qm_4 (i := 23) rfl rfl) (by decide +kernel) d_Ar_copyOf_9075b_7 h19 h20 h21 ⟨Nat.le_of_ble_eq_true rfl, Nat.le_of_ble_eq_true rfl⟩ (fun q22 fq22 => (?_ : WD _ _ 10 _ _ _ _ _ _))
    replace h := h q22 fq22
    have k23 : Ow (uF (uN w q22 (kA 1 n1)) q22 (fun j => wI w x0 j)) q22 (kA 1 n1) := Ow.nw
    refine x_castB k23 (qm_4 (i := 25) rfl rfl) d_Ar_copyOf_9075b_10 (?_ : WD _ _ 13 _ _ _ _ _ _)
    exact x_areturn (some q22) rfl (Or.inr ⟨_, rfl⟩) d_Ar_copyOf_9075b_13 h
set_option maxRecDepth 20000 in
theorem e_As_inflateIfNeededFor {G : Gq} {K : Wd → Prop} {w : Wd} {mc ms : Nat} (x0 : Nat) (x1 : Nat) (h : (Is G w x0 (kO 17)) ∧ ((wI w x0 1) = 0) ∧ (Is G w x1 (kO 18)) ∧ DI G M_Sg_coder [vA x1] w 0 0 (fun v5 w4 => (0 = v5 → K w4) ∧ (¬ 0 = v5 → False))) : DV G M_As_inflateIfNeededFor [vA x0, vA x1] w mc ms K := by
  refine DC.of ok_M_As_inflateIfNeededFor (ls := [(0, vA x0), (1, vA x1)]) rfl (Nat.le_of_ble_eq_true rfl) ?_
  refine x_getsI 1 (List.mem_of_getElem? (i := 5) rfl) (by decide) (qm_3 (i := 197) rfl rfl) d_As_inflateIfNeededFor_0 (?_ : WD _ _ 3 _ _ _ _ _ _)
  refine x_if_eq 21 d_As_inflateIfNeededFor_3 rfl ⟨fun hc => absurd hc (by decide), fun hc => (?_ : WD _ _ 6 _ _ _ _ _ _)⟩
  refine x_aload_nP (some x0) d_As_inflateIfNeededFor_6 rfl (?_ : WD _ _ 7 _ _ _ _ _ _)
  obtain ⟨k1, h⟩ := h
  obtain ⟨h2, h⟩ := h
  refine x_getI (ref := "java/lang/AbstractStringBuilder") (j := 1) 1 k1 clk_17 (by decide) (qm_3 (i := 207) rfl rfl) (Or.inl rfl) rfl rfl d_As_inflateIfNeededFor_7 (y := 0) (h2) (?_ : WD _ _ 10 _ _ _ _ _ _)
  refine x_aload_nP (some x1) d_As_inflateIfNeededFor_10 rfl (?_ : WD _ _ 11 _ _ _ _ _ _)
  obtain ⟨k3, h⟩ := h
  refine x_callV (ν := M_Sg_coder) [] ok_M_Sg_coder okv_M_Sg_coder k3 rfl rfl (qm_4 (i := 74) rfl rfl) np_M_Sg_coder rfl ⟨Nat.le_of_ble_eq_true rfl, Nat.le_of_ble_eq_true rfl⟩ (Nat.le_of_ble_eq_true rfl) rfl d_As_inflateIfNeededFor_11 (Nat.zero_le _) (Nat.zero_le _) (DI.k h (fun v5 w4 gw4 h => (?_ : WD _ _ 14 _ _ _ _ _ _)))
  refine x_icmp_eq 21 d_As_inflateIfNeededFor_14 rfl ⟨fun c6 => (?_ : WD _ _ 21 _ _ _ _ _ _), fun c6 => (?_ : WD _ _ 17 _ _ _ _ _ _)⟩
  · replace h := h.1 c6
    exact x_return rfl d_As_inflateIfNeededFor_21 h
  · replace h := h.2 c6
    exact h.elim
set_option maxRecDepth 20000 in
theorem e_Sg_getBytes {G : Gq} {K : Wd → Prop} {w : Wd} {mc ms : Nat} (x0 : Nat) (x1 : Nat) (x2 : Int) (x3 : Int) (h : (Is G w x0 (kO 18)) ∧ DI G M_Sg_coder [vA x0] w 0 0 (fun v3 w2 => (¬ v3 = x3 → False) ∧ (v3 = x3 → ∃ a5 : Nat, (wR w2 x0 0) = some a5 ∧ (∃ n7 : Nat, ((Is G w2 a5 (kA 1 n7)) ∧ (inR (n7 : Int)) ∧ ∃ n10 : Nat, ((Ow w2 x1 (kA 1 n10)) ∧ (0 ≤ (ishlq x2 x3)) ∧ (0 ≤ (n7 : Int)) ∧ (0 + (n7 : Int) ≤ (n7 : Int)) ∧ ((ishlq x2 x3) + (n7 : Int) ≤ (n10 : Int)) ∧ (∀ i : Int, 0 ≤ i → i < (n7 : Int) → -128 ≤ wI w2 a5 (0 + i) ∧ wI w2 a5 (0 + i) ≤ 127) ∧ K (uF w2 x1 (cpyI w2 a5 x1 0 (ishlq x2 x3) (n7 : Int))))))))) : DV G M_Sg_getBytes [vA x0, vA x1, vI x2, vI x3] w mc ms K := by
  refine DC.of ok_M_Sg_getBytes (ls := [(0, vA x0), (1, vA x1), (2, vI x2), (3, vI x3)]) rfl (Nat.le_of_ble_eq_true rfl) ?_
  refine x_aload_nP (some x0) d_Sg_getBytes_0 rfl (?_ : WD _ _ 1 _ _ _ _ _ _)
  obtain ⟨k1, h⟩ := h
  refine x_callV (ν := M_Sg_coder) [] ok_M_Sg_coder okv_M_Sg_coder k1 rfl rfl (qm_4 (i := 61) rfl rfl) np_M_Sg_coder rfl ⟨Nat.le_of_ble_eq_true rfl, Nat.le_of_ble_eq_true rfl⟩ (Nat.le_of_ble_eq_true rfl) rfl d_Sg_getBytes_1 (Nat.zero_le _) (Nat.zero_le _) (DI.k h (fun v3 w2 gw2 h => (?_ : WD _ _ 4 _ _ _ _ _ _)))
  refine x_iload_n d_Sg_getBytes_4 rfl (?_ : WD _ _ 5 _ _ _ _ _ _)
  refine x_icmp_ne 28 d_Sg_getBytes_5 rfl ⟨fun c4 => (?_ : WD _ _ 28 _ _ _ _ _ _), fun c4 => (?_ : WD _ _ 8 _ _ _ _ _ _)⟩
  · replace h := h.1 c4
    exact h.elim
  · replace h := h.2 c4
    refine x_aload_nP (some x0) d_Sg_getBytes_8 rfl (?_ : WD _ _ 9 _ _ _ _ _ _)
    refine x_getP (ref := "java/lang/String") (j := 0) 0 (k1.q gw2.k) clk_18 (by decide) (qm_4 (i := 224) rfl rfl) (Or.inl rfl) rfl rfl d_Sg_getBytes_9 (y := (wR w2 x0 0)) rfl (?_ : WD _ _ 12 _ _ _ _ _ _)
    refine x_iconst d_Sg_getBytes_12 (by decide) (?_ : WD _ _ 13 _ _ _ _ _ _)
    refine x_aload_nP (some x1) d_Sg_getBytes_13 rfl (?_ : WD _ _ 14 _ _ _ _ _ _)
    refine x_iload_n d_Sg_getBytes_14 rfl (?_ : WD _ _ 15 _ _ _ _ _ _)
    refine x_iload_n d_Sg_getBytes_15 rfl (?_ : WD _ _ 16 _ _ _ _ _ _)
    refine x_ishlq d_Sg_getBytes_16 (?_ : WD _ _ 17 _ _ _ _ _ _)
    refine x_aload_nP (some x0) d_Sg_getBytes_17 rfl (?_ : WD _ _ 18 _ _ _ _ _ _)
    refine x_getP (ref := "java/lang/String") (j := 0) 0 (k1.q gw2.k) clk_18 (by decide) (qm_4 (i := 224) rfl rfl) (Or.inl rfl) rfl rfl d_Sg_getBytes_18 (y := (wR w2 x0 0)) rfl (?_ : WD _ _ 21 _ _ _ _ _ _)
    obtain ⟨a5, e6, h⟩ := h
    rw [e6]
    obtain ⟨n7, h⟩ := h
    obtain ⟨k8, h⟩ := h
    obtain ⟨h9, h⟩ := h
    refine x_alenA k8 (fun _ => rfl) h9 d_Sg_getBytes_21 (?_ : WD _ _ 22 _ _ _ _ _ _)
    obtain ⟨n10, h⟩ := h
    obtain ⟨k11, h⟩ := h
    obtain ⟨h12, h⟩ := h
    obtain ⟨h13, h⟩ := h
    obtain ⟨h14, h⟩ := h
    obtain ⟨h15, h⟩ := h
    obtain ⟨h16, h⟩ := h
    refine x_copyB k8 k11 (qm_4 (i := 98) rfl rfl) (qm_3 (i := 169) rfl rfl) (qm_3 (i := 168) rfl rfl) (qm_1 (i := 25) rfl rfl) (by decide) h12 h13 h14 h15 h16 ⟨Nat.le_of_ble_eq_true rfl, Nat.le_of_ble_eq_true rfl⟩ d_Sg_getBytes_22 (?_ : WD _ _ 25 _ _ _ _ _ _)
    refine x_goto 43 d_Sg_getBytes_25 rfl ?_
    exact x_return rfl d_Sg_getBytes_43 h
set_option maxRecDepth 20000 in
theorem e_As_getValue {G : Gq} {K : Option Nat → Wd → Prop} {w : Wd} {mc ms : Nat} (x0 : Nat) (h : (Is G w x0 (kO 17)) ∧ K (wR w x0 0) w) : DP G M_As_getValue [vA x0] w mc ms K := by
  refine DC.of ok_M_As_getValue (ls := [(0, vA x0)]) rfl (Nat.le_of_ble_eq_true rfl) ?_
  refine x_aload_nP (some x0) d_As_getValue_0 rfl (?_ : WD _ _ 1 _ _ _ _ _ _)
  obtain ⟨k1, h⟩ := h
  refine x_getP (ref := "java/lang/AbstractStringBuilder") (j := 0) 0 k1 clk_17 (by decide) (qm_3 (i := 206) rfl rfl) (Or.inl rfl) rfl rfl d_As_getValue_1 (y := (wR w x0 0)) rfl (?_ : WD _ _ 4 _ _ _ _ _ _)
  exact x_areturn (wR w x0 0) rfl (Or.inr ⟨_, rfl⟩) d_As_getValue_4 h
set_option maxRecDepth 20000 in
theorem e_Ar_copyOfRange {G : Gq} {K : Option Nat → Wd → Prop} {w : Wd} {mc ms : Nat} (x0 : Nat) (x1 : Int) (x2 : Int) (h : (¬ x1 = 0 → ∃ c2 s3 : Nat, c2 ≤ mc ∧ s3 ≤ ms ∧ (DP G M_Ar_copyOfRangeByte [vA x0, vI x1, vI x2] w c2 s3 (fun v7 w6 => K v7 w6))) ∧ (x1 = 0 → ∃ n8 : Nat, ((Is G w x0 (kA 1 n8)) ∧ (inR (n8 : Int)) ∧ (x2 = (n8 : Int) → (Ow w x0 (kA 1 n8)) ∧ (1 ≤ mc) ∧ (n8 ≤ ms) ∧ (∀ j : Int, 0 ≤ j → j < (n8 : Int) → -128 ≤ wI w x0 j ∧ wI w x0 j ≤ 127) ∧ ∀ q16 : Nat, Fr G w q16 → (K (some q16) (uF (uN w q16 (kA 1 n8)) q16 (fun j => wI w x0 j)))) ∧ (¬ x2 = (n8 : Int) → ∃ c18 s19 : Nat, c18 ≤ mc ∧ s19 ≤ ms ∧ (DP G M_Ar_copyOfRangeByte [vA x0, vI x1, vI x2] w c18 s19 (fun v23 w22 => K v23 w22)))))) : DP G M_Ar_copyOfRange [vA x0, vI x1, vI x2] w mc ms K := by
  refine DC.of ok_M_Ar_copyOfRange (ls := [(0, vA x0), (1, vI x1), (2, vI x2)]) rfl (Nat.le_of_ble_eq_true rfl) ?_
  refine x_iload_n d_Ar_copyOfRange_0 rfl (?_ : WD _ _ 1 _ _ _ _ _ _)
  refine x_if_ne 10 d_Ar_copyOfRange_1 rfl ⟨fun c1 => (?_ : WD _ _ 10 _ _ _ _ _ _), fun c1 => (?_ : WD _ _ 4 _ _ _ _ _ _)⟩
  · replace h := h.1 c1
    refine x_aload_nP (some x0) d_Ar_copyOfRange_10 rfl (?_ : WD _ _ 11 _ _ _ _ _ _)
    refine x_iload_n d_Ar_copyOfRange_11 rfl (?_ : WD _ _ 12 _ _ _ _ _ _)
    refine x_iload_n d_Ar_copyOfRange_12 rfl (?_ : WD _ _ 13 _ _ _ _ _ _)
    obtain ⟨c2, s3, h4, h5, h⟩ := h
    refine x_callS (ν := M_Ar_copyOfRangeByte) [vA x0, vI x1, vI x2] ok_M_Ar_copyOfRangeByte oks_M_Ar_copyOfRangeByte (qm_4 (i := 205) rfl rfl) np_M_Ar_copyOfRangeByte rfl ⟨Nat.le_of_ble_eq_true rfl, Nat.le_of_ble_eq_true rfl⟩ (Nat.le_of_ble_eq_true rfl) rfl d_Ar_copyOfRange_13 h4 h5 (DP.k h (fun v7 w6 gw6 h => (?_ : WD _ _ 16 _ _ _ _ _ _)))
    exact x_areturn v7 rfl (Or.inr ⟨_, rfl⟩) d_Ar_copyOfRange_16 h
  · replace h := h.2 c1
    refine x_iload_n d_Ar_copyOfRange_4 rfl (?_ : WD _ _ 5 _ _ _ _ _ _)
    refine x_aload_nP (some x0) d_Ar_copyOfRange_5 rfl (?_ : WD _ _ 6 _ _ _ _ _ _)
    obtain ⟨n8, h⟩ := h
    obtain ⟨k9, h⟩ := h
    obtain ⟨h10, h⟩ := h
    refine x_alenA k9 (fun _ => rfl) h10 d_Ar_copyOfRange_6 (?_ : WD _ _ 7 _ _ _ _ _ _)
    refine x_icmp_eq 17 d_Ar_copyOfRange_7 rfl ⟨fun c11 => (?_ : WD _ _ 17 _ _ _ _ _ _), fun c11 => (?_ : WD _ _ 10 _ _ _ _ _ _)⟩
    · replace h := h.1 c11
      refine x_aload_nP (some x0) d_Ar_copyOfRange_17 rfl (?_ : WD _ _ 18 _ _ _ _ _ _)
      obtain ⟨k12, h⟩ := h
      obtain ⟨h13, h⟩ := h
      obtain ⟨h14, h⟩ := h
      obtain ⟨h15, h⟩ := h
      refine x_cloneB k12 (qm_4 (i := 19) rfl rfl) (qm_4 (i := 20) rfl rfl) (qm_4 (i := 21) rfl rfl) (qm_4 (i := 22) rfl rfl) (qm_4 (i := 23) rfl rfl) (by decide +kernel) d_Ar_copyOfRange_18 h13 h14 h15 ⟨Nat.le_of_ble_eq_true rfl, Nat.le_of_ble_eq_true rfl⟩ (fun q16 fq16 => (?_ : WD _ _ 21 _ _ _ _ _ _))
      replace h := h q16 fq16
      have k17 : Ow (uF (uN w q16 (kA 1 n8)) q16 (fun j => wI w x0 j)) q16 (kA 1 n8) := Ow.nw
      refine x_castB k17 (qm_4 (i := 25) rfl rfl) d_Ar_copyOfRange_21 (?_ : WD _ _ 24 _ _ _ _ _ _)
      exact x_areturn (some q16) rfl (Or.inr ⟨_, rfl⟩) d_Ar_copyOfRange_24 h
    · replace h := h.2 c11
      refine x_aload_nP (some x0) d_Ar_copyOfRange_10 rfl (?_ : WD _ _ 11 _ _ _ _ _ _)
      refine x_iload_n d_Ar_copyOfRange_11 rfl (?_ : WD _ _ 12 _ _ _ _ _ _)
      refine x_iload_n d_Ar_copyOfRange_12 rfl (?_ : WD _ _ 13 _ _ _ _ _ _)
      obtain ⟨c18, s19, h20, h21, h⟩ := h
      refine x_callS (ν := M_Ar_copyOfRangeByte) [vA x0, vI x1, vI x2] ok_M_Ar_copyOfRangeByte oks_M_Ar_copyOfRangeByte (qm_4 (i := 205) rfl rfl) np_M_Ar_copyOfRangeByte rfl ⟨Nat.le_of_ble_eq_true rfl, Nat.le_of_ble_eq_true rfl⟩ (Nat.le_of_ble_eq_true rfl) rfl d_Ar_copyOfRange_13 h20 h21 (DP.k h (fun v23 w22 gw22 h => (?_ : WD _ _ 16 _ _ _ _ _ _)))
      exact x_areturn v23 rfl (Or.inr ⟨_, rfl⟩) d_Ar_copyOfRange_16 h
set_option maxRecDepth 20000 in
theorem e_Ss_newLength {G : Gq} {K : Int → Wd → Prop} {w : Wd} {mc ms : Nat} (x0 : Int) (x1 : Int) (x2 : Int) (h : DI G M_Ma_max [vI x1, vI x2] w 0 0 (fun v2 w1 => (inR (x0 + v2)) ∧ ((x0 + v2) ≤ 0 → DI G M_Ss_hugeLength [vI x0, vI x1] w1 0 0 (fun v6 w5 => K v6 w5)) ∧ (¬ (x0 + v2) ≤ 0 → (2147483639 < (x0 + v2) → DI G M_Ss_hugeLength [vI x0, vI x1] w1 0 0 (fun v9 w8 => K v9 w8)) ∧ (¬ 2147483639 < (x0 + v2) → K (x0 + v2) w1)))) : DI G M_Ss_newLength [vI x0, vI x1, vI x2] w mc ms K := by
  refine DC.of ok_M_Ss_newLength (ls := [(0, vI x0), (1, vI x1), (2, vI x2)]) rfl (Nat.le_of_ble_eq_true rfl) ?_
  refine x_iload_n d_Ss_newLength_0 rfl (?_ : WD _ _ 1 _ _ _ _ _ _)
  refine x_iload_n d_Ss_newLength_1 rfl (?_ : WD _ _ 2 _ _ _ _ _ _)
  refine x_iload_n d_Ss_newLength_2 rfl (?_ : WD _ _ 3 _ _ _ _ _ _)
  refine x_callS (ν := M_Ma_max) [vI x1, vI x2] ok_M_Ma_max oks_M_Ma_max (qm_3 (i := 116) rfl rfl) np_M_Ma_max rfl ⟨Nat.le_of_ble_eq_true rfl, Nat.le_of_ble_eq_true rfl⟩ (Nat.le_of_ble_eq_true rfl) rfl d_Ss_newLength_3 (Nat.zero_le _) (Nat.zero_le _) (DI.k h (fun v2 w1 gw1 h => (?_ : WD _ _ 6 _ _ _ _ _ _)))
  obtain ⟨h3, h⟩ := h
  refine x_iadd d_Ss_newLength_6 h3 (?_ : WD _ _ 7 _ _ _ _ _ _)
  refine x_istore_n (ls' := [(3, vI (x0 + v2)), (0, vI x0), (1, vI x1), (2, vI x2)]) d_Ss_newLength_7 rfl (by decide) rfl (?_ : WD _ _ 8 _ _ _ _ _ _)
  refine x_iconst d_Ss_newLength_8 (by decide) (?_ : WD _ _ 9 _ _ _ _ _ _)
  refine x_iload_n d_Ss_newLength_9 rfl (?_ : WD _ _ 10 _ _ _ _ _ _)
  refine x_icmp_ge 21 d_Ss_newLength_10 rfl ⟨fun c4 => (?_ : WD _ _ 21 _ _ _ _ _ _), fun c4 => (?_ : WD _ _ 13 _ _ _ _ _ _)⟩
  · replace h := h.1 c4
    refine x_iload_n d_Ss_newLength_21 rfl (?_ : WD _ _ 22 _ _ _ _ _ _)
    refine x_iload_n d_Ss_newLength_22 rfl (?_ : WD _ _ 23 _ _ _ _ _ _)
    refine x_callS (ν := M_Ss_hugeLength) [vI x0, vI x1] ok_M_Ss_hugeLength oks_M_Ss_hugeLength (qm_3 (i := 118) rfl rfl) np_M_Ss_hugeLength rfl ⟨Nat.le_of_ble_eq_true rfl, Nat.le_of_ble_eq_true rfl⟩ (Nat.le_of_ble_eq_true rfl) rfl d_Ss_newLength_23 (Nat.zero_le _) (Nat.zero_le _) (DI.k h (fun v6 w5 gw5 h => (?_ : WD _ _ 26 _ _ _ _ _ _)))
    exact x_ireturn rfl d_Ss_newLength_26 h
  · replace h := h.2 c4
    refine x_iload_n d_Ss_newLength_13 rfl (?_ : WD _ _ 14 _ _ _ _ _ _)
    refine x_ldc 2147483639 d_Ss_newLength_14 (qm_3 (i := 117) rfl rfl) (by decide) (by decide) (?_ : WD _ _ 16 _ _ _ _ _ _)
    refine x_icmp_gt 21 d_Ss_newLength_16 rfl ⟨fun c7 => (?_ : WD _ _ 21 _ _ _ _ _ _), fun c7 => (?_ : WD _ _ 19 _ _ _ _ _ _)⟩
    · replace h := h.1 c7
      refine x_iload_n d_Ss_newLength_21 rfl (?_ : WD _ _ 22 _ _ _ _ _ _)
      refine x_iload_n d_Ss_newLength_22 rfl (?_ : WD _ _ 23 _ _ _ _ _ _)
      refine x_callS (ν := M_Ss_hugeLength) [vI x0, vI x1] ok_M_Ss_hugeLength oks_M_Ss_hugeLength (qm_3 (i := 118) rfl rfl) np_M_Ss_hugeLength rfl ⟨Nat.le_of_ble_eq_true rfl, Nat.le_of_ble_eq_true rfl⟩ (Nat.le_of_ble_eq_true rfl) rfl d_Ss_newLength_23 (Nat.zero_le _) (Nat.zero_le _) (DI.k h (fun v9 w8 gw8 h => (?_ : WD _ _ 26 _ _ _ _ _ _)))
      exact x_ireturn rfl d_Ss_newLength_26 h
    · replace h := h.2 c7
      refine x_iload_n d_Ss_newLength_19 rfl (?_ : WD _ _ 20 _ _ _ _ _ _)
      exact x_ireturn rfl d_Ss_newLength_20 h
set_option maxRecDepth 20000 in
theorem e_Ar_copyOf_1904c {G : Gq} {K : Option Nat → Wd → Prop} {w : Wd} {mc ms : Nat} (x0 : Nat) (x1 : Int) (h : ∃ n1 : Nat, ((Ow w x0 (kR 4 n1)) ∧ ∃ c3 s4 : Nat, c3 ≤ mc ∧ s4 ≤ ms ∧ (DP G M_Ar_copyOf_6403c [vA x0, vI x1, vA (xa G 284)] w c3 s4 (fun v8 w7 => K v8 w7)))) : DP G M_Ar_copyOf_1904c [vA x0, vI x1] w mc ms K := by
  refine DC.of ok_M_Ar_copyOf_1904c (ls := [(0, vA x0), (1, vI x1)]) rfl (Nat.le_of_ble_eq_true rfl) ?_
  refine x_aload_nP (some x0) d_Ar_copyOf_1904c_0 rfl (?_ : WD _ _ 1 _ _ _ _ _ _)
  refine x_iload_n d_Ar_copyOf_1904c_1 rfl (?_ : WD _ _ 2 _ _ _ _ _ _)
  refine x_aload_nP (some x0) d_Ar_copyOf_1904c_2 rfl (?_ : WD _ _ 3 _ _ _ _ _ _)
  obtain ⟨n1, h⟩ := h
  obtain ⟨k2, h⟩ := h
  refine x_getC k2 (qm_3 (i := 124) rfl rfl) (by decide +kernel) (qm_10 (i := 220) rfl rfl) (qm_3 (i := 125) rfl rfl) (qm_3 (i := 157) rfl rfl) ⟨Nat.le_of_ble_eq_true rfl, Nat.le_of_ble_eq_true rfl⟩ d_Ar_copyOf_1904c_3 (?_ : WD _ _ 6 _ _ _ _ _ _)
  obtain ⟨c3, s4, h5, h6, h⟩ := h
  refine x_callS (ν := M_Ar_copyOf_6403c) [vA x0, vI x1, vA (xa G 284)] ok_M_Ar_copyOf_6403c oks_M_Ar_copyOf_6403c (qm_3 (i := 158) rfl rfl) np_M_Ar_copyOf_6403c rfl ⟨Nat.le_of_ble_eq_true rfl, Nat.le_of_ble_eq_true rfl⟩ (Nat.le_of_ble_eq_true rfl) rfl d_Ar_copyOf_1904c_6 h5 h6 (DP.k h (fun v8 w7 gw7 h => (?_ : WD _ _ 9 _ _ _ _ _ _)))
  exact x_areturn v8 rfl (Or.inr ⟨_, rfl⟩) d_Ar_copyOf_1904c_9 h
set_option maxRecDepth 20000 in
theorem e_Am_init {G : Gq} {K : Wd → Prop} {w : Wd} {mc ms : Nat} (x0 : Nat) (h : K w) : DV G M_Am_init [vA x0] w mc ms K := by
  refine DC.of ok_M_Am_init (ls := [(0, vA x0)]) rfl (Nat.le_of_ble_eq_true rfl) ?_
  refine x_aload_nP (some x0) d_Am_init_0 rfl (?_ : WD _ _ 1 _ _ _ _ _ _)
  refine x_obj d_Am_init_1 (qm_6 (i := 137) rfl rfl) (qm_1 (i := 58) rfl rfl) (qm_1 (i := 59) rfl rfl) ⟨Nat.le_of_ble_eq_true rfl, Nat.le_of_ble_eq_true rfl⟩ (?_ : WD _ _ 4 _ _ _ _ _ _)
  exact x_return rfl d_Am_init_4 h
set_option maxRecDepth 20000 in
theorem e_Jxf58ca_isNaN {G : Gq} {K : Int → Wd → Prop} {w : Wd} {mc ms : Nat} (x0 : UInt32) (h : ((fcq .l x0 x0) = 0 → K 0 w) ∧ (¬ (fcq .l x0 x0) = 0 → K 1 w)) : DI G M_Jxf58ca_isNaN [vO (.float x0)] w mc ms K := by
  refine DC.of ok_M_Jxf58ca_isNaN (ls := [(0, vO (.float x0))]) rfl (Nat.le_of_ble_eq_true rfl) ?_
  refine x_fload_n d_Jxf58ca_isNaN_0 rfl (?_ : WD _ _ 1 _ _ _ _ _ _)
  refine x_fload_n d_Jxf58ca_isNaN_1 rfl (?_ : WD _ _ 2 _ _ _ _ _ _)
  refine x_fcmp d_Jxf58ca_isNaN_2 (?_ : WD _ _ 3 _ _ _ _ _ _)
  refine x_if_eq 10 d_Jxf58ca_isNaN_3 rfl ⟨fun c1 => (?_ : WD _ _ 10 _ _ _ _ _ _), fun c1 => (?_ : WD _ _ 6 _ _ _ _ _ _)⟩
  · replace h := h.1 c1
    refine x_iconst d_Jxf58ca_isNaN_10 (by decide) (?_ : WD _ _ 11 _ _ _ _ _ _)
    exact x_zreturn rfl d_Jxf58ca_isNaN_11 (by decide) h
  · replace h := h.2 c1
    refine x_iconst d_Jxf58ca_isNaN_6 (by decide) (?_ : WD _ _ 7 _ _ _ _ _ _)
    refine x_goto 11 d_Jxf58ca_isNaN_7 rfl ?_
    exact x_zreturn rfl d_Jxf58ca_isNaN_11 (by decide) h
set_option maxRecDepth 20000 in
theorem e_Hm_tableSizeFor {G : Gq} {K : Int → Wd → Prop} {w : Wd} {mc ms : Nat} (x0 : Int) (h : (inR (x0 - 1)) ∧ DI G M_In_numberOfLeadingZeros [vI (x0 - 1)] w 0 0 (fun v3 w2 => (0 ≤ (iushrq (-1) v3) → ((iushrq (-1) v3) < 1073741824 → (inR ((iushrq (-1) v3) + 1)) ∧ K ((iushrq (-1) v3) + 1) w2) ∧ (¬ (iushrq (-1) v3) < 1073741824 → K 1073741824 w2)) ∧ (¬ 0 ≤ (iushrq (-1) v3) → K 1 w2))) : DI G M_Hm_tableSizeFor [vI x0] w mc ms K := by
  refine DC.of ok_M_Hm_tableSizeFor (ls := [(0, vI x0)]) rfl (Nat.le_of_ble_eq_true rfl) ?_
  refine x_iconst d_Hm_tableSizeFor_0 (by decide) (?_ : WD _ _ 1 _ _ _ _ _ _)
  refine x_iload_n d_Hm_tableSizeFor_1 rfl (?_ : WD _ _ 2 _ _ _ _ _ _)
  refine x_iconst d_Hm_tableSizeFor_2 (by decide) (?_ : WD _ _ 3 _ _ _ _ _ _)
  obtain ⟨h1, h⟩ := h
  refine x_isub d_Hm_tableSizeFor_3 h1 (?_ : WD _ _ 4 _ _ _ _ _ _)
  refine x_callS (ν := M_In_numberOfLeadingZeros) [vI (x0 - 1)] ok_M_In_numberOfLeadingZeros oks_M_In_numberOfLeadingZeros (qm_6 (i := 145) rfl rfl) np_M_In_numberOfLeadingZeros rfl ⟨Nat.le_of_ble_eq_true rfl, Nat.le_of_ble_eq_true rfl⟩ (Nat.le_of_ble_eq_true rfl) rfl d_Hm_tableSizeFor_4 (Nat.zero_le _) (Nat.zero_le _) (DI.k h (fun v3 w2 gw2 h => (?_ : WD _ _ 7 _ _ _ _ _ _)))
  refine x_iushrq d_Hm_tableSizeFor_7 (?_ : WD _ _ 8 _ _ _ _ _ _)
  refine x_istore_n (ls' := [(1, vI (iushrq (-1) v3)), (0, vI x0)]) d_Hm_tableSizeFor_8 rfl (by decide) rfl (?_ : WD _ _ 9 _ _ _ _ _ _)
  refine x_iload_n d_Hm_tableSizeFor_9 rfl (?_ : WD _ _ 10 _ _ _ _ _ _)
  refine x_if_ge 17 d_Hm_tableSizeFor_10 rfl ⟨fun c4 => (?_ : WD _ _ 17 _ _ _ _ _ _), fun c4 => (?_ : WD _ _ 13 _ _ _ _ _ _)⟩
  · replace h := h.1 c4
    refine x_iload_n d_Hm_tableSizeFor_17 rfl (?_ : WD _ _ 18 _ _ _ _ _ _)
    refine x_ldc 1073741824 d_Hm_tableSizeFor_18 (qm_6 (i := 138) rfl rfl) (by decide) (by decide) (?_ : WD _ _ 20 _ _ _ _ _ _)
    refine x_icmp_lt 28 d_Hm_tableSizeFor_20 rfl ⟨fun c5 => (?_ : WD _ _ 28 _ _ _ _ _ _), fun c5 => (?_ : WD _ _ 23 _ _ _ _ _ _)⟩
    · replace h := h.1 c5
      refine x_iload_n d_Hm_tableSizeFor_28 rfl (?_ : WD _ _ 29 _ _ _ _ _ _)
      refine x_iconst d_Hm_tableSizeFor_29 (by decide) (?_ : WD _ _ 30 _ _ _ _ _ _)
      obtain ⟨h6, h⟩ := h
      refine x_iadd d_Hm_tableSizeFor_30 h6 (?_ : WD _ _ 31 _ _ _ _ _ _)
      exact x_ireturn rfl d_Hm_tableSizeFor_31 h
    · replace h := h.2 c5
      refine x_ldc 1073741824 d_Hm_tableSizeFor_23 (qm_6 (i := 138) rfl rfl) (by decide) (by decide) (?_ : WD _ _ 25 _ _ _ _ _ _)
      refine x_goto 31 d_Hm_tableSizeFor_25 rfl ?_
      exact x_ireturn rfl d_Hm_tableSizeFor_31 h
  · replace h := h.2 c4
    refine x_iconst d_Hm_tableSizeFor_13 (by decide) (?_ : WD _ _ 14 _ _ _ _ _ _)
    refine x_goto 31 d_Hm_tableSizeFor_14 rfl ?_
    exact x_ireturn rfl d_Hm_tableSizeFor_31 h
set_option maxRecDepth 20000 in
theorem e_In_hashCode_0f7a4 {G : Gq} {K : Int → Wd → Prop} {w : Wd} {mc ms : Nat} (x0 : Int) (h : K x0 w) : DI G M_In_hashCode_0f7a4 [vI x0] w mc ms K := by
  refine DC.of ok_M_In_hashCode_0f7a4 (ls := [(0, vI x0)]) rfl (Nat.le_of_ble_eq_true rfl) ?_
  refine x_iload_n d_In_hashCode_0f7a4_0 rfl (?_ : WD _ _ 1 _ _ _ _ _ _)
  exact x_ireturn rfl d_In_hashCode_0f7a4_1 h
set_option maxRecDepth 20000 in
theorem e_Ln_init {G : Gq} {K : Wd → Prop} {w : Wd} {mc ms : Nat} (x0 : Nat) (x1 : Int) (x2 : Nat) (x3 : Nat) (x4 : Option Nat) (h : DV G M_Hn_init [vA x0, vI x1, vA x2, vA x3, vP x4] w 0 0 (fun w1 => K w1)) : DV G M_Ln_init [vA x0, vI x1, vA x2, vA x3, vP x4] w mc ms K := by
  refine DC.of ok_M_Ln_init (ls := [(0, vA x0), (1, vI x1), (2, vA x2), (3, vA x3), (4, vP x4)]) rfl (Nat.le_of_ble_eq_true rfl) ?_
  refine x_aload_nP (some x0) d_Ln_init_0 rfl (?_ : WD _ _ 1 _ _ _ _ _ _)
  refine x_iload_n d_Ln_init_1 rfl (?_ : WD _ _ 2 _ _ _ _ _ _)
  refine x_aload_nP (some x2) d_Ln_init_2 rfl (?_ : WD _ _ 3 _ _ _ _ _ _)
  refine x_aload_nP (some x3) d_Ln_init_3 rfl (?_ : WD _ _ 4 _ _ _ _ _ _)
  refine x_aloadP x4 d_Ln_init_4 rfl (?_ : WD _ _ 6 _ _ _ _ _ _)
  refine x_callI (ν := M_Hn_init) [vI x1, vA x2, vA x3, vP x4] ok_M_Hn_init oki_M_Hn_init rfl rfl (qm_7 (i := 145) rfl rfl) np_M_Hn_init rfl ⟨Nat.le_of_ble_eq_true rfl, Nat.le_of_ble_eq_true rfl⟩ (Nat.le_of_ble_eq_true rfl) rfl d_Ln_init_6 (Nat.zero_le _) (Nat.zero_le _) (DV.k h (fun w1 gw1 h => (?_ : WD _ _ 9 _ _ _ _ _ _)))
  exact x_return rfl d_Ln_init_9 h
set_option maxRecDepth 20000 in
theorem e_Lm_linkNodeAtEnd {G : Gq} {K : Wd → Prop} {w : Wd} {mc ms : Nat} (x0 : Nat) (x1 : Nat) (h : (Is G w x0 (kO 20)) ∧ ((wI w x0 11) = 0) ∧ (Ow w x0 (kO 20)) ∧ ((wR w x0 9) = none → K (uR (uR w x0 9 (some x1)) x0 8 (some x1))) ∧ (∀ a4 : Nat, (wR w x0 9) = some a4 → (Ow (uR w x0 9 (some x1)) x1 (kO 21)) ∧ (Ow (uR (uR w x0 9 (some x1)) x1 4 (some a4)) a4 (kO 21)) ∧ K (uR (uR (uR w x0 9 (some x1)) x1 4 (some a4)) a4 5 (some x1)))) : DV G M_Lm_linkNodeAtEnd [vA x0, vA x1] w mc ms K := by
  refine DC.of ok_M_Lm_linkNodeAtEnd (ls := [(0, vA x0), (1, vA x1)]) rfl (Nat.le_of_ble_eq_true rfl) ?_
  refine x_aload_nP (some x0) d_Lm_linkNodeAtEnd_0 rfl (?_ : WD _ _ 1 _ _ _ _ _ _)
  obtain ⟨k1, h⟩ := h
  obtain ⟨h2, h⟩ := h
  refine x_getI (ref := "java/util/LinkedHashMap") (j := 11) 11 k1 clk_20 (by decide) (qm_6 (i := 154) rfl rfl) (Or.inl rfl) rfl rfl d_Lm_linkNodeAtEnd_1 (y := 0) (h2) (?_ : WD _ _ 4 _ _ _ _ _ _)
  refine x_iconst d_Lm_linkNodeAtEnd_4 (by decide) (?_ : WD _ _ 5 _ _ _ _ _ _)
  refine x_icmp_ne 43 d_Lm_linkNodeAtEnd_5 rfl ⟨fun hc => (?_ : WD _ _ 43 _ _ _ _ _ _), fun hc => absurd hc (by decide)⟩
  refine x_aload_nP (some x0) d_Lm_linkNodeAtEnd_43 rfl (?_ : WD _ _ 44 _ _ _ _ _ _)
  refine x_getP (ref := "java/util/LinkedHashMap") (j := 9) 9 k1 clk_20 (by decide) (qm_6 (i := 152) rfl rfl) (Or.inl rfl) rfl rfl d_Lm_linkNodeAtEnd_44 (y := (wR w x0 9)) rfl (?_ : WD _ _ 47 _ _ _ _ _ _)
  refine x_astore_nP (wR w x0 9) (ls' := [(2, vP (wR w x0 9)), (0, vA x0), (1, vA x1)]) d_Lm_linkNodeAtEnd_47 rfl (by decide) rfl (?_ : WD _ _ 48 _ _ _ _ _ _)
  refine x_aload_nP (some x0) d_Lm_linkNodeAtEnd_48 rfl (?_ : WD _ _ 49 _ _ _ _ _ _)
  refine x_aload_nP (some x1) d_Lm_linkNodeAtEnd_49 rfl (?_ : WD _ _ 50 _ _ _ _ _ _)
  obtain ⟨k3, h⟩ := h
  refine x_putP (ref := "java/util/LinkedHashMap") (j := 9) (some x1) 9 k3 clk_20 (by decide) (qm_6 (i := 152) rfl rfl) (Or.inl rfl) (Or.inl rfl) tyX28_ok rfl nmX28 d_Lm_linkNodeAtEnd_50 rfl rfl (nar_P (by first | exact Or.inl ⟨_, rfl⟩ | exact Or.inr ⟨_, rfl⟩) _) (fit_P (by first | exact Or.inl ⟨_, rfl⟩ | exact Or.inr ⟨_, rfl⟩) _) (?_ : WD _ _ 53 _ _ _ _ _ _)
  refine x_aload_nP (wR w x0 9) d_Lm_linkNodeAtEnd_53 rfl (?_ : WD _ _ 54 _ _ _ _ _ _)
  refine x_ifnonnull 65 d_Lm_linkNodeAtEnd_54 rfl ⟨fun e5 => (?_ : WD _ _ 57 _ _ _ _ _ _), fun a4 e5 => (?_ : WD _ _ 65 _ _ _ _ _ _)⟩
  · replace h := h.1 e5
    rw [e5]
    refine x_aload_nP (some x0) d_Lm_linkNodeAtEnd_57 rfl (?_ : WD _ _ 58 _ _ _ _ _ _)
    refine x_aload_nP (some x1) d_Lm_linkNodeAtEnd_58 rfl (?_ : WD _ _ 59 _ _ _ _ _ _)
    refine x_putP (ref := "java/util/LinkedHashMap") (j := 8) (some x1) 8 k3 clk_20 (by decide) (qm_6 (i := 149) rfl rfl) (Or.inl rfl) (Or.inl rfl) tyX28_ok rfl nmX28 d_Lm_linkNodeAtEnd_59 rfl rfl (nar_P (by first | exact Or.inl ⟨_, rfl⟩ | exact Or.inr ⟨_, rfl⟩) _) (fit_P (by first | exact Or.inl ⟨_, rfl⟩ | exact Or.inr ⟨_, rfl⟩) _) (?_ : WD _ _ 62 _ _ _ _ _ _)
    refine x_goto 75 d_Lm_linkNodeAtEnd_62 rfl ?_
    exact x_return rfl d_Lm_linkNodeAtEnd_75 h
  · replace h := h.2 a4 e5
    rw [e5]
    refine x_aload_nP (some x1) d_Lm_linkNodeAtEnd_65 rfl (?_ : WD _ _ 66 _ _ _ _ _ _)
    refine x_aload_nP (some a4) d_Lm_linkNodeAtEnd_66 rfl (?_ : WD _ _ 67 _ _ _ _ _ _)
    obtain ⟨k6, h⟩ := h
    refine x_putP (ref := "java/util/LinkedHashMap$Entry") (j := 4) (some a4) 4 k6 clk_21 (by decide) (qm_7 (i := 149) rfl rfl) (Or.inl rfl) (Or.inl rfl) tyX24_ok rfl nmX24 d_Lm_linkNodeAtEnd_67 rfl rfl (nar_P (by first | exact Or.inl ⟨_, rfl⟩ | exact Or.inr ⟨_, rfl⟩) _) (fit_P (by first | exact Or.inl ⟨_, rfl⟩ | exact Or.inr ⟨_, rfl⟩) _) (?_ : WD _ _ 70 _ _ _ _ _ _)
    refine x_aload_nP (some a4) d_Lm_linkNodeAtEnd_70 rfl (?_ : WD _ _ 71 _ _ _ _ _ _)
    refine x_aload_nP (some x1) d_Lm_linkNodeAtEnd_71 rfl (?_ : WD _ _ 72 _ _ _ _ _ _)
    obtain ⟨k7, h⟩ := h
    refine x_putP (ref := "java/util/LinkedHashMap$Entry") (j := 5) (some x1) 5 k7 clk_21 (by decide) (qm_7 (i := 151) rfl rfl) (Or.inl rfl) (Or.inl rfl) tyX24_ok rfl nmX24 d_Lm_linkNodeAtEnd_72 rfl rfl (nar_P (by first | exact Or.inl ⟨_, rfl⟩ | exact Or.inr ⟨_, rfl⟩) _) (fit_P (by first | exact Or.inl ⟨_, rfl⟩ | exact Or.inr ⟨_, rfl⟩) _) (?_ : WD _ _ 75 _ _ _ _ _ _)
    exact x_return rfl d_Lm_linkNodeAtEnd_75 h
set_option maxRecDepth 20000 in
theorem e_Lm_removeEldestEntry {G : Gq} {K : Int → Wd → Prop} {w : Wd} {mc ms : Nat} (x0 : Nat) (x1 : Nat) (h : K 0 w) : DI G M_Lm_removeEldestEntry [vA x0, vA x1] w mc ms K := by
  refine DC.of ok_M_Lm_removeEldestEntry (ls := [(0, vA x0), (1, vA x1)]) rfl (Nat.le_of_ble_eq_true rfl) ?_
  refine x_iconst d_Lm_removeEldestEntry_0 (by decide) (?_ : WD _ _ 1 _ _ _ _ _ _)
  exact x_zreturn rfl d_Lm_removeEldestEntry_1 (by decide) h
set_option maxRecDepth 20000 in
theorem e_Ma_min {G : Gq} {K : Int → Wd → Prop} {w : Wd} {mc ms : Nat} (x0 : Int) (x1 : Int) (h : (x1 < x0 → K x1 w) ∧ (¬ x1 < x0 → K x0 w)) : DI G M_Ma_min [vI x0, vI x1] w mc ms K := by
  refine DC.of ok_M_Ma_min (ls := [(0, vI x0), (1, vI x1)]) rfl (Nat.le_of_ble_eq_true rfl) ?_
  refine x_iload_n d_Ma_min_0 rfl (?_ : WD _ _ 1 _ _ _ _ _ _)
  refine x_iload_n d_Ma_min_1 rfl (?_ : WD _ _ 2 _ _ _ _ _ _)
  refine x_icmp_gt 9 d_Ma_min_2 rfl ⟨fun c1 => (?_ : WD _ _ 9 _ _ _ _ _ _), fun c1 => (?_ : WD _ _ 5 _ _ _ _ _ _)⟩
  · replace h := h.1 c1
    refine x_iload_n d_Ma_min_9 rfl (?_ : WD _ _ 10 _ _ _ _ _ _)
    exact x_ireturn rfl d_Ma_min_10 h
  · replace h := h.2 c1
    refine x_iload_n d_Ma_min_5 rfl (?_ : WD _ _ 6 _ _ _ _ _ _)
    refine x_goto 10 d_Ma_min_6 rfl ?_
    exact x_ireturn rfl d_Ma_min_10 h
set_option maxRecDepth 20000 in
theorem e_Ar_copyOfRangeByte {G : Gq} {K : Option Nat → Wd → Prop} {w : Wd} {mc ms : Nat} (x0 : Nat) (x1 : Int) (x2 : Int) (h : DV G M_Ar_checkLength [vI x1, vI x2] w 0 0 (fun w1 => (inR (x2 - x1)) ∧ ∃ n4 : Nat, (x2 - x1) = (n4 : Int) ∧ ((n4 ≤ 100000) ∧ (1 ≤ mc) ∧ (n4 ≤ ms) ∧ ∀ q9 : Nat, Fr G w1 q9 → (∃ n11 : Nat, ((Is G (uN w1 q9 (kA 1 n4)) x0 (kA 1 n11)) ∧ (inR (n11 : Int)) ∧ (inR ((n11 : Int) - x1)) ∧ DI G M_Ma_min [vI ((n11 : Int) - x1), vI (x2 - x1)] (uN w1 q9 (kA 1 n4)) 0 0 (fun v16 w15 => (0 ≤ x1) ∧ (0 ≤ v16) ∧ (x1 + v16 ≤ (n11 : Int)) ∧ (0 + v16 ≤ (n4 : Int)) ∧ (∀ i : Int, 0 ≤ i → i < v16 → -128 ≤ wI w15 x0 (x1 + i) ∧ wI w15 x0 (x1 + i) ≤ 127) ∧ K (some q9) (uF w15 q9 (cpyI w15 x0 q9 x1 0 v16)))))))) : DP G M_Ar_copyOfRangeByte [vA x0, vI x1, vI x2] w mc ms K := by
  refine DC.of ok_M_Ar_copyOfRangeByte (ls := [(0, vA x0), (1, vI x1), (2, vI x2)]) rfl (Nat.le_of_ble_eq_true rfl) ?_
  refine x_iload_n d_Ar_copyOfRangeByte_0 rfl (?_ : WD _ _ 1 _ _ _ _ _ _)
  refine x_iload_n d_Ar_copyOfRangeByte_1 rfl (?_ : WD _ _ 2 _ _ _ _ _ _)
  refine x_callS (ν := M_Ar_checkLength) [vI x1, vI x2] ok_M_Ar_checkLength oks_M_Ar_checkLength (qm_4 (i := 208) rfl rfl) np_M_Ar_checkLength rfl ⟨Nat.le_of_ble_eq_true rfl, Nat.le_of_ble_eq_true rfl⟩ (Nat.le_of_ble_eq_true rfl) rfl d_Ar_copyOfRangeByte_2 (Nat.zero_le _) (Nat.zero_le _) (DV.k h (fun w1 gw1 h => (?_ : WD _ _ 5 _ _ _ _ _ _)))
  refine x_iload_n d_Ar_copyOfRangeByte_5 rfl (?_ : WD _ _ 6 _ _ _ _ _ _)
  refine x_iload_n d_Ar_copyOfRangeByte_6 rfl (?_ : WD _ _ 7 _ _ _ _ _ _)
  obtain ⟨h3, h⟩ := h
  refine x_isub d_Ar_copyOfRangeByte_7 h3 (?_ : WD _ _ 8 _ _ _ _ _ _)
  refine x_istore_n (ls' := [(3, vI (x2 - x1)), (0, vA x0), (1, vI x1), (2, vI x2)]) d_Ar_copyOfRangeByte_8 rfl (by decide) rfl (?_ : WD _ _ 9 _ _ _ _ _ _)
  refine x_iload_n d_Ar_copyOfRangeByte_9 rfl (?_ : WD _ _ 10 _ _ _ _ _ _)
  obtain ⟨n4, e5, h⟩ := h
  obtain ⟨h6, h⟩ := h
  obtain ⟨h7, h⟩ := h
  obtain ⟨h8, h⟩ := h
  refine x_newa (t := 1) n4 e5 d_Ar_copyOfRangeByte_10 rfl (qm_1 (i := 74) rfl rfl) (fun _ => rfl) (fun _ _ => rfl) (fun _ => rfl) h6 (by decide) h7 h8 (fun q9 fq9 => (?_ : WD _ _ 12 _ _ _ _ _ _))
  replace h := h q9 fq9
  have k10 : Ow (uN w1 q9 (kA 1 n4)) q9 (kA 1 n4) := Ow.nw
  refine x_astoreP (some q9) (ls' := [(4, vA q9), (3, vI (x2 - x1)), (0, vA x0), (1, vI x1), (2, vI x2)]) d_Ar_copyOfRangeByte_12 (by decide) rfl (?_ : WD _ _ 14 _ _ _ _ _ _)
  refine x_aload_nP (some x0) d_Ar_copyOfRangeByte_14 rfl (?_ : WD _ _ 15 _ _ _ _ _ _)
  refine x_iload_n d_Ar_copyOfRangeByte_15 rfl (?_ : WD _ _ 16 _ _ _ _ _ _)
  refine x_aloadP (some q9) d_Ar_copyOfRangeByte_16 rfl (?_ : WD _ _ 18 _ _ _ _ _ _)
  refine x_iconst d_Ar_copyOfRangeByte_18 (by decide) (?_ : WD _ _ 19 _ _ _ _ _ _)
  refine x_aload_nP (some x0) d_Ar_copyOfRangeByte_19 rfl (?_ : WD _ _ 20 _ _ _ _ _ _)
  obtain ⟨n11, h⟩ := h
  obtain ⟨k12, h⟩ := h
  obtain ⟨h13, h⟩ := h
  refine x_alenA k12 (fun _ => rfl) h13 d_Ar_copyOfRangeByte_20 (?_ : WD _ _ 21 _ _ _ _ _ _)
  refine x_iload_n d_Ar_copyOfRangeByte_21 rfl (?_ : WD _ _ 22 _ _ _ _ _ _)
  obtain ⟨h14, h⟩ := h
  refine x_isub d_Ar_copyOfRangeByte_22 h14 (?_ : WD _ _ 23 _ _ _ _ _ _)
  refine x_iload_n d_Ar_copyOfRangeByte_23 rfl (?_ : WD _ _ 24 _ _ _ _ _ _)
  refine x_callS (ν := M_Ma_min) [vI ((n11 : Int) - x1), vI (x2 - x1)] ok_M_Ma_min oks_M_Ma_min (qm_3 (i := 164) rfl rfl) np_M_Ma_min rfl ⟨Nat.le_of_ble_eq_true rfl, Nat.le_of_ble_eq_true rfl⟩ (Nat.le_of_ble_eq_true rfl) rfl d_Ar_copyOfRangeByte_24 (Nat.zero_le _) (Nat.zero_le _) (DI.k h (fun v16 w15 gw15 h => (?_ : WD _ _ 27 _ _ _ _ _ _)))
  obtain ⟨h17, h⟩ := h
  obtain ⟨h18, h⟩ := h
  obtain ⟨h19, h⟩ := h
  obtain ⟨h20, h⟩ := h
  obtain ⟨h21, h⟩ := h
  refine x_copyB (k12.q gw15.k) (k10.q gw15.k) (qm_3 (i := 167) rfl rfl) (qm_3 (i := 169) rfl rfl) (qm_3 (i := 168) rfl rfl) (qm_1 (i := 25) rfl rfl) h17 (by decide) h18 h19 h20 h21 ⟨Nat.le_of_ble_eq_true rfl, Nat.le_of_ble_eq_true rfl⟩ d_Ar_copyOfRangeByte_27 (?_ : WD _ _ 30 _ _ _ _ _ _)
  refine x_aloadP (some q9) d_Ar_copyOfRangeByte_30 rfl (?_ : WD _ _ 32 _ _ _ _ _ _)
  exact x_areturn (some q9) rfl (Or.inr ⟨_, rfl⟩) d_Ar_copyOfRangeByte_32 h
set_option maxRecDepth 20000 in
theorem e_Ss_hugeLength {G : Gq} {K : Int → Wd → Prop} {w : Wd} {mc ms : Nat} (x0 : Int) (x1 : Int) (h : (inR (x0 + x1)) ∧ (0 ≤ (x0 + x1) → (2147483639 < (x0 + x1) → K (x0 + x1) w) ∧ (¬ 2147483639 < (x0 + x1) → K 2147483639 w)) ∧ (¬ 0 ≤ (x0 + x1) → False)) : DI G M_Ss_hugeLength [vI x0, vI x1] w mc ms K := by
  refine DC.of ok_M_Ss_hugeLength (ls := [(0, vI x0), (1, vI x1)]) rfl (Nat.le_of_ble_eq_true rfl) ?_
  refine x_iload_n d_Ss_hugeLength_0 rfl (?_ : WD _ _ 1 _ _ _ _ _ _)
  refine x_iload_n d_Ss_hugeLength_1 rfl (?_ : WD _ _ 2 _ _ _ _ _ _)
  obtain ⟨h1, h⟩ := h
  refine x_iadd d_Ss_hugeLength_2 h1 (?_ : WD _ _ 3 _ _ _ _ _ _)
  refine x_istore_n (ls' := [(2, vI (x0 + x1)), (0, vI x0), (1, vI x1)]) d_Ss_hugeLength_3 rfl (by decide) rfl (?_ : WD _ _ 4 _ _ _ _ _ _)
  refine x_iload_n d_Ss_hugeLength_4 rfl (?_ : WD _ _ 5 _ _ _ _ _ _)
  refine x_if_ge 49 d_Ss_hugeLength_5 rfl ⟨fun c2 => (?_ : WD _ _ 49 _ _ _ _ _ _), fun c2 => (?_ : WD _ _ 8 _ _ _ _ _ _)⟩
  · replace h := h.1 c2
    refine x_iload_n d_Ss_hugeLength_49 rfl (?_ : WD _ _ 50 _ _ _ _ _ _)
    refine x_ldc 2147483639 d_Ss_hugeLength_50 (qm_3 (i := 117) rfl rfl) (by decide) (by decide) (?_ : WD _ _ 52 _ _ _ _ _ _)
    refine x_icmp_gt 58 d_Ss_hugeLength_52 rfl ⟨fun c3 => (?_ : WD _ _ 58 _ _ _ _ _ _), fun c3 => (?_ : WD _ _ 55 _ _ _ _ _ _)⟩
    · replace h := h.1 c3
      refine x_iload_n d_Ss_hugeLength_58 rfl (?_ : WD _ _ 59 _ _ _ _ _ _)
      exact x_ireturn rfl d_Ss_hugeLength_59 h
    · replace h := h.2 c3
      refine x_ldc 2147483639 d_Ss_hugeLength_55 (qm_3 (i := 117) rfl rfl) (by decide) (by decide) (?_ : WD _ _ 57 _ _ _ _ _ _)
      exact x_ireturn rfl d_Ss_hugeLength_57 h
  · replace h := h.2 c2
    exact h.elim
set_option maxRecDepth 20000 in
theorem e_Ar_copyOf_6403c {G : Gq} {K : Option Nat → Wd → Prop} {w : Wd} {mc ms : Nat} (x0 : Nat) (x1 : Int) (x2 : Nat) (h : (¬ (some x2) = (some (xa G 284)) → False) ∧ ((some x2) = (some (xa G 284)) → ∃ n2 : Nat, x1 = (n2 : Int) ∧ ((n2 ≤ 100000) ∧ (1 ≤ mc) ∧ (n2 ≤ ms) ∧ ∀ q7 : Nat, Fr G w q7 → (∃ n9 : Nat, ((Is G (uN w q7 (kR 4 n2)) x0 (kR 4 n9)) ∧ (inR (n9 : Int)) ∧ DI G M_Ma_min [vI (n9 : Int), vI x1] (uN w q7 (kR 4 n2)) 0 0 (fun v13 w12 => (0 ≤ v13) ∧ (0 + v13 ≤ (n9 : Int)) ∧ (0 + v13 ≤ (n2 : Int)) ∧ (∀ i : Int, 0 ≤ i → i < v13 → ∀ y : Nat, wR w12 x0 (0 + i) = some y → Els G w12 y "java/lang/Object") ∧ (Ow w12 x0 (kR 4 n9)) ∧ K (some q7) (uG w12 q7 (cpyR w12 x0 q7 0 0 v13)))))))) : DP G M_Ar_copyOf_6403c [vA x0, vI x1, vA x2] w mc ms K := by
  refine DC.of ok_M_Ar_copyOf_6403c (ls := [(0, vA x0), (1, vI x1), (2, vA x2)]) rfl (Nat.le_of_ble_eq_true rfl) ?_
  refine x_aload_nP (some x2) d_Ar_copyOf_6403c_0 rfl (?_ : WD _ _ 1 _ _ _ _ _ _)
  refine x_ldcM (qm_3 (i := 161) rfl rfl) d_Ar_copyOf_6403c_1 (?_ : WD _ _ 3 _ _ _ _ _ _)
  refine x_acmp_ne (some x2) (some (xa G 284)) 13 d_Ar_copyOf_6403c_3 rfl ⟨fun c1 => (?_ : WD _ _ 13 _ _ _ _ _ _), fun c1 => (?_ : WD _ _ 6 _ _ _ _ _ _)⟩
  · replace h := h.1 c1
    refine x_aload_nP (some x2) d_Ar_copyOf_6403c_13 rfl (?_ : WD _ _ 14 _ _ _ _ _ _)
    exact h.elim
  · replace h := h.2 c1
    refine x_iload_n d_Ar_copyOf_6403c_6 rfl (?_ : WD _ _ 7 _ _ _ _ _ _)
    obtain ⟨n2, e3, h⟩ := h
    obtain ⟨h4, h⟩ := h
    obtain ⟨h5, h⟩ := h
    obtain ⟨h6, h⟩ := h
    refine x_newq (t := 4) n2 e3 d_Ar_copyOf_6403c_7 (qm_3 (i := 163) rfl rfl) (by decide) (fun _ => rfl) h4 h5 h6 (fun q7 fq7 => (?_ : WD _ _ 10 _ _ _ _ _ _))
    replace h := h q7 fq7
    have k8 : Ow (uN w q7 (kR 4 n2)) q7 (kR 4 n2) := Ow.nw
    refine x_goto 24 d_Ar_copyOf_6403c_10 rfl ?_
    refine x_astore_nP (some q7) (ls' := [(3, vA q7), (0, vA x0), (1, vI x1), (2, vA x2)]) d_Ar_copyOf_6403c_24 rfl (by decide) rfl (?_ : WD _ _ 25 _ _ _ _ _ _)
    refine x_aload_nP (some x0) d_Ar_copyOf_6403c_25 rfl (?_ : WD _ _ 26 _ _ _ _ _ _)
    refine x_iconst d_Ar_copyOf_6403c_26 (by decide) (?_ : WD _ _ 27 _ _ _ _ _ _)
    refine x_aload_nP (some q7) d_Ar_copyOf_6403c_27 rfl (?_ : WD _ _ 28 _ _ _ _ _ _)
    refine x_iconst d_Ar_copyOf_6403c_28 (by decide) (?_ : WD _ _ 29 _ _ _ _ _ _)
    refine x_aload_nP (some x0) d_Ar_copyOf_6403c_29 rfl (?_ : WD _ _ 30 _ _ _ _ _ _)
    obtain ⟨n9, h⟩ := h
    obtain ⟨k10, h⟩ := h
    obtain ⟨h11, h⟩ := h
    refine x_alenR k10 (Or.inr (fun _ => rfl)) (fun h => absurd h (by decide)) h11 d_Ar_copyOf_6403c_30 (?_ : WD _ _ 31 _ _ _ _ _ _)
    refine x_iload_n d_Ar_copyOf_6403c_31 rfl (?_ : WD _ _ 32 _ _ _ _ _ _)
    refine x_callS (ν := M_Ma_min) [vI (n9 : Int), vI x1] ok_M_Ma_min oks_M_Ma_min (qm_3 (i := 164) rfl rfl) np_M_Ma_min rfl ⟨Nat.le_of_ble_eq_true rfl, Nat.le_of_ble_eq_true rfl⟩ (Nat.le_of_ble_eq_true rfl) rfl d_Ar_copyOf_6403c_32 (Nat.zero_le _) (Nat.zero_le _) (DI.k h (fun v13 w12 gw12 h => (?_ : WD _ _ 35 _ _ _ _ _ _)))
    obtain ⟨h14, h⟩ := h
    obtain ⟨h15, h⟩ := h
    obtain ⟨h16, h⟩ := h
    obtain ⟨h17, h⟩ := h
    obtain ⟨k18, h⟩ := h
    refine x_copyR (k10.q gw12.k) (k8.q gw12.k) k18.1 (qm_3 (i := 167) rfl rfl) (qm_3 (i := 169) rfl rfl) (qm_3 (i := 168) rfl rfl) (qm_1 (i := 25) rfl rfl) (by decide) (by decide) h14 h15 h16 h17 ⟨Nat.le_of_ble_eq_true rfl, Nat.le_of_ble_eq_true rfl⟩ d_Ar_copyOf_6403c_35 (?_ : WD _ _ 38 _ _ _ _ _ _)
    refine x_aload_nP (some q7) d_Ar_copyOf_6403c_38 rfl (?_ : WD _ _ 39 _ _ _ _ _ _)
    exact x_areturn (some q7) rfl (Or.inr ⟨_, rfl⟩) d_Ar_copyOf_6403c_39 h
set_option maxRecDepth 20000 in
theorem e_In_numberOfLeadingZeros {G : Gq} {K : Int → Wd → Prop} {w : Wd} {mc ms : Nat} (x0 : Int) (h : (0 < x0 → (x0 < 65536 → (x0 < 256 → (x0 < 16 → (x0 < 4 → (inR (31 - (iushrq x0 1))) ∧ K (31 - (iushrq x0 1)) w) ∧ (¬ x0 < 4 → (inR (31 + (-2))) ∧ (inR ((31 + (-2)) - (iushrq (iushrq x0 2) 1))) ∧ K ((31 + (-2)) - (iushrq (iushrq x0 2) 1)) w)) ∧ (¬ x0 < 16 → (inR (31 + (-4))) ∧ ((iushrq x0 4) < 4 → (inR ((31 + (-4)) - (iushrq (iushrq x0 4) 1))) ∧ K ((31 + (-4)) - (iushrq (iushrq x0 4) 1)) w) ∧ (¬ (iushrq x0 4) < 4 → (inR ((31 + (-4)) + (-2))) ∧ (inR (((31 + (-4)) + (-2)) - (iushrq (iushrq (iushrq x0 4) 2) 1))) ∧ K (((31 + (-4)) + (-2)) - (iushrq (iushrq (iushrq x0 4) 2) 1)) w))) ∧ (¬ x0 < 256 → (inR (31 + (-8))) ∧ ((iushrq x0 8) < 16 → ((iushrq x0 8) < 4 → (inR ((31 + (-8)) - (iushrq (iushrq x0 8) 1))) ∧ K ((31 + (-8)) - (iushrq (iushrq x0 8) 1)) w) ∧ (¬ (iushrq x0 8) < 4 → (inR ((31 + (-8)) + (-2))) ∧ (inR (((31 + (-8)) + (-2)) - (iushrq (iushrq (iushrq x0 8) 2) 1))) ∧ K (((31 + (-8)) + (-2)) - (iushrq (iushrq (iushrq x0 8) 2) 1)) w)) ∧ (¬ (iushrq x0 8) < 16 → (inR ((31 + (-8)) + (-4))) ∧ ((iushrq (iushrq x0 8) 4) < 4 → (inR (((31 + (-8)) + (-4)) - (iushrq (iushrq (iushrq x0 8) 4) 1))) ∧ K (((31 + (-8)) + (-4)) - (iushrq (iushrq (iushrq x0 8) 4) 1)) w) ∧ (¬ (iushrq (iushrq x0 8) 4) < 4 → (inR (((31 + (-8)) + (-4)) + (-2))) ∧ (inR ((((31 + (-8)) + (-4)) + (-2)) - (iushrq (iushrq (iushrq (iushrq x0 8) 4) 2) 1))) ∧ K ((((31 + (-8)) + (-4)) + (-2)) - (iushrq (iushrq (iushrq (iushrq x0 8) 4) 2) 1)) w)))) ∧ (¬ x0 < 65536 → (inR (31 + (-16))) ∧ ((iushrq x0 16) < 256 → ((iushrq x0 16) < 16 → ((iushrq x0 16) < 4 → (inR ((31 + (-16)) - (iushrq (iushrq x0 16) 1))) ∧ K ((31 + (-16)) - (iushrq (iushrq x0 16) 1)) w) ∧ (¬ (iushrq x0 16) < 4 → (inR ((31 + (-16)) + (-2))) ∧ (inR (((31 + (-16)) + (-2)) - (iushrq (iushrq (iushrq x0 16) 2) 1))) ∧ K (((31 + (-16)) + (-2)) - (iushrq (iushrq (iushrq x0 16) 2) 1)) w)) ∧ (¬ (iushrq x0 16) < 16 → (inR ((31 + (-16)) + (-4))) ∧ ((iushrq (iushrq x0 16) 4) < 4 → (inR (((31 + (-16)) + (-4)) - (iushrq (iushrq (iushrq x0 16) 4) 1))) ∧ K (((31 + (-16)) + (-4)) - (iushrq (iushrq (iushrq x0 16) 4) 1)) w) ∧ (¬ (iushrq (iushrq x0 16) 4) < 4 → (inR (((31 + (-16)) + (-4)) + (-2))) ∧ (inR ((((31 + (-16)) + (-4)) + (-2)) - (iushrq (iushrq (iushrq (iushrq x0 16) 4) 2) 1))) ∧ K ((((31 + (-16)) + (-4)) + (-2)) - (iushrq (iushrq (iushrq (iushrq x0 16) 4) 2) 1)) w))) ∧ (¬ (iushrq x0 16) < 256 → (inR ((31 + (-16)) + (-8))) ∧ ((iushrq (iushrq x0 16) 8) < 16 → ((iushrq (iushrq x0 16) 8) < 4 → (inR (((31 + (-16)) + (-8)) - (iushrq (iushrq (iushrq x0 16) 8) 1))) ∧ K (((31 + (-16)) + (-8)) - (iushrq (iushrq (iushrq x0 16) 8) 1)) w) ∧ (¬ (iushrq (iushrq x0 16) 8) < 4 → (inR (((31 + (-16)) + (-8)) + (-2))) ∧ (inR ((((31 + (-16)) + (-8)) + (-2)) - (iushrq (iushrq (iushrq (iushrq x0 16) 8) 2) 1))) ∧ K ((((31 + (-16)) + (-8)) + (-2)) - (iushrq (iushrq (iushrq (iushrq x0 16) 8) 2) 1)) w)) ∧ (¬ (iushrq (iushrq x0 16) 8) < 16 → (inR (((31 + (-16)) + (-8)) + (-4))) ∧ ((iushrq (iushrq (iushrq x0 16) 8) 4) < 4 → (inR ((((31 + (-16)) + (-8)) + (-4)) - (iushrq (iushrq (iushrq (iushrq x0 16) 8) 4) 1))) ∧ K ((((31 + (-16)) + (-8)) + (-4)) - (iushrq (iushrq (iushrq (iushrq x0 16) 8) 4) 1)) w) ∧ (¬ (iushrq (iushrq (iushrq x0 16) 8) 4) < 4 → (inR ((((31 + (-16)) + (-8)) + (-4)) + (-2))) ∧ (inR (((((31 + (-16)) + (-8)) + (-4)) + (-2)) - (iushrq (iushrq (iushrq (iushrq (iushrq x0 16) 8) 4) 2) 1))) ∧ K (((((31 + (-16)) + (-8)) + (-4)) + (-2)) - (iushrq (iushrq (iushrq (iushrq (iushrq x0 16) 8) 4) 2) 1)) w))))) ∧ (¬ 0 < x0 → (¬ x0 = 0 → K 0 w) ∧ (x0 = 0 → K 32 w))) : DI G M_In_numberOfLeadingZeros [vI x0] w mc ms K := by
  refine DC.of ok_M_In_numberOfLeadingZeros (ls := [(0, vI x0)]) rfl (Nat.le_of_ble_eq_true rfl) ?_
  refine x_iload_n d_In_numberOfLeadingZeros_0 rfl (?_ : WD _ _ 1 _ _ _ _ _ _)
  refine x_if_gt 15 d_In_numberOfLeadingZeros_1 rfl ⟨fun c1 => (?_ : WD _ _ 15 _ _ _ _ _ _), fun c1 => (?_ : WD _ _ 4 _ _ _ _ _ _)⟩
  · replace h := h.1 c1
    refine x_bipush d_In_numberOfLeadingZeros_15 (by decide) (by decide) (?_ : WD _ _ 17 _ _ _ _ _ _)
    refine x_istore_n (ls' := [(1, vI 31), (0, vI x0)]) d_In_numberOfLeadingZeros_17 rfl (by decide) rfl (?_ : WD _ _ 18 _ _ _ _ _ _)
    refine x_iload_n d_In_numberOfLeadingZeros_18 rfl (?_ : WD _ _ 19 _ _ _ _ _ _)
    refine x_ldcw 65536 d_In_numberOfLeadingZeros_19 (qm_6 (i := 148) rfl rfl) (by decide) (by decide) (?_ : WD _ _ 22 _ _ _ _ _ _)
    refine x_icmp_lt 33 d_In_numberOfLeadingZeros_22 rfl ⟨fun c2 => (?_ : WD _ _ 33 _ _ _ _ _ _), fun c2 => (?_ : WD _ _ 25 _ _ _ _ _ _)⟩
    · replace h := h.1 c2
      refine x_iload_n d_In_numberOfLeadingZeros_33 rfl (?_ : WD _ _ 34 _ _ _ _ _ _)
      refine x_sipush d_In_numberOfLeadingZeros_34 (by decide) (by decide) (?_ : WD _ _ 37 _ _ _ _ _ _)
      refine x_icmp_lt 48 d_In_numberOfLeadingZeros_37 rfl ⟨fun c3 => (?_ : WD _ _ 48 _ _ _ _ _ _), fun c3 => (?_ : WD _ _ 40 _ _ _ _ _ _)⟩
      · replace h := h.1 c3
        refine x_iload_n d_In_numberOfLeadingZeros_48 rfl (?_ : WD _ _ 49 _ _ _ _ _ _)
        refine x_bipush d_In_numberOfLeadingZeros_49 (by decide) (by decide) (?_ : WD _ _ 51 _ _ _ _ _ _)
        refine x_icmp_lt 61 d_In_numberOfLeadingZeros_51 rfl ⟨fun c4 => (?_ : WD _ _ 61 _ _ _ _ _ _), fun c4 => (?_ : WD _ _ 54 _ _ _ _ _ _)⟩
        · replace h := h.1 c4
          refine x_iload_n d_In_numberOfLeadingZeros_61 rfl (?_ : WD _ _ 62 _ _ _ _ _ _)
          refine x_iconst d_In_numberOfLeadingZeros_62 (by decide) (?_ : WD _ _ 63 _ _ _ _ _ _)
          refine x_icmp_lt 73 d_In_numberOfLeadingZeros_63 rfl ⟨fun c5 => (?_ : WD _ _ 73 _ _ _ _ _ _), fun c5 => (?_ : WD _ _ 66 _ _ _ _ _ _)⟩
          · replace h := h.1 c5
            refine x_iload_n d_In_numberOfLeadingZeros_73 rfl (?_ : WD _ _ 74 _ _ _ _ _ _)
            refine x_iload_n d_In_numberOfLeadingZeros_74 rfl (?_ : WD _ _ 75 _ _ _ _ _ _)
            refine x_iconst d_In_numberOfLeadingZeros_75 (by decide) (?_ : WD _ _ 76 _ _ _ _ _ _)
            refine x_iushrq d_In_numberOfLeadingZeros_76 (?_ : WD _ _ 77 _ _ _ _ _ _)
            obtain ⟨h6, h⟩ := h
            refine x_isub d_In_numberOfLeadingZeros_77 h6 (?_ : WD _ _ 78 _ _ _ _ _ _)
            exact x_ireturn rfl d_In_numberOfLeadingZeros_78 h
          · replace h := h.2 c5
            obtain ⟨h7, h⟩ := h
            refine x_iinc (ls' := [(1, vI (31 + (-2))), (0, vI x0)]) d_In_numberOfLeadingZeros_66 rfl h7 (by decide) rfl (?_ : WD _ _ 69 _ _ _ _ _ _)
            refine x_iload_n d_In_numberOfLeadingZeros_69 rfl (?_ : WD _ _ 70 _ _ _ _ _ _)
            refine x_iconst d_In_numberOfLeadingZeros_70 (by decide) (?_ : WD _ _ 71 _ _ _ _ _ _)
            refine x_iushrq d_In_numberOfLeadingZeros_71 (?_ : WD _ _ 72 _ _ _ _ _ _)
            refine x_istore_n (ls' := [(0, vI (iushrq x0 2)), (1, vI (31 + (-2)))]) d_In_numberOfLeadingZeros_72 rfl (by decide) rfl (?_ : WD _ _ 73 _ _ _ _ _ _)
            refine x_iload_n d_In_numberOfLeadingZeros_73 rfl (?_ : WD _ _ 74 _ _ _ _ _ _)
            refine x_iload_n d_In_numberOfLeadingZeros_74 rfl (?_ : WD _ _ 75 _ _ _ _ _ _)
            refine x_iconst d_In_numberOfLeadingZeros_75 (by decide) (?_ : WD _ _ 76 _ _ _ _ _ _)
            refine x_iushrq d_In_numberOfLeadingZeros_76 (?_ : WD _ _ 77 _ _ _ _ _ _)
            obtain ⟨h8, h⟩ := h
            refine x_isub d_In_numberOfLeadingZeros_77 h8 (?_ : WD _ _ 78 _ _ _ _ _ _)
            exact x_ireturn rfl d_In_numberOfLeadingZeros_78 h
        · replace h := h.2 c4
          obtain ⟨h9, h⟩ := h
          refine x_iinc (ls' := [(1, vI (31 + (-4))), (0, vI x0)]) d_In_numberOfLeadingZeros_54 rfl h9 (by decide) rfl (?_ : WD _ _ 57 _ _ _ _ _ _)
          refine x_iload_n d_In_numberOfLeadingZeros_57 rfl (?_ : WD _ _ 58 _ _ _ _ _ _)
          refine x_iconst d_In_numberOfLeadingZeros_58 (by decide) (?_ : WD _ _ 59 _ _ _ _ _ _)
          refine x_iushrq d_In_numberOfLeadingZeros_59 (?_ : WD _ _ 60 _ _ _ _ _ _)
          refine x_istore_n (ls' := [(0, vI (iushrq x0 4)), (1, vI (31 + (-4)))]) d_In_numberOfLeadingZeros_60 rfl (by decide) rfl (?_ : WD _ _ 61 _ _ _ _ _ _)
          refine x_iload_n d_In_numberOfLeadingZeros_61 rfl (?_ : WD _ _ 62 _ _ _ _ _ _)
          refine x_iconst d_In_numberOfLeadingZeros_62 (by decide) (?_ : WD _ _ 63 _ _ _ _ _ _)
          refine x_icmp_lt 73 d_In_numberOfLeadingZeros_63 rfl ⟨fun c10 => (?_ : WD _ _ 73 _ _ _ _ _ _), fun c10 => (?_ : WD _ _ 66 _ _ _ _ _ _)⟩
          · replace h := h.1 c10
            refine x_iload_n d_In_numberOfLeadingZeros_73 rfl (?_ : WD _ _ 74 _ _ _ _ _ _)
            refine x_iload_n d_In_numberOfLeadingZeros_74 rfl (?_ : WD _ _ 75 _ _ _ _ _ _)
            refine x_iconst d_In_numberOfLeadingZeros_75 (by decide) (?_ : WD _ _ 76 _ _ _ _ _ _)
            refine x_iushrq d_In_numberOfLeadingZeros_76 (?_ : WD _ _ 77 _ _ _ _ _ _)
            obtain ⟨h11, h⟩ := h
            refine x_isub d_In_numberOfLeadingZeros_77 h11 (?_ : WD _ _ 78 _ _ _ _ _ _)
            exact x_ireturn rfl d_In_numberOfLeadingZeros_78 h
          · replace h := h.2 c10
            obtain ⟨h12, h⟩ := h
            refine x_iinc (ls' := [(1, vI ((31 + (-4)) + (-2))), (0, vI (iushrq x0 4))]) d_In_numberOfLeadingZeros_66 rfl h12 (by decide) rfl (?_ : WD _ _ 69 _ _ _ _ _ _)
            refine x_iload_n d_In_numberOfLeadingZeros_69 rfl (?_ : WD _ _ 70 _ _ _ _ _ _)
            refine x_iconst d_In_numberOfLeadingZeros_70 (by decide) (?_ : WD _ _ 71 _ _ _ _ _ _)
            refine x_iushrq d_In_numberOfLeadingZeros_71 (?_ : WD _ _ 72 _ _ _ _ _ _)
            refine x_istore_n (ls' := [(0, vI (iushrq (iushrq x0 4) 2)), (1, vI ((31 + (-4)) + (-2)))]) d_In_numberOfLeadingZeros_72 rfl (by decide) rfl (?_ : WD _ _ 73 _ _ _ _ _ _)
            refine x_iload_n d_In_numberOfLeadingZeros_73 rfl (?_ : WD _ _ 74 _ _ _ _ _ _)
            refine x_iload_n d_In_numberOfLeadingZeros_74 rfl (?_ : WD _ _ 75 _ _ _ _ _ _)
            refine x_iconst d_In_numberOfLeadingZeros_75 (by decide) (?_ : WD _ _ 76 _ _ _ _ _ _)
            refine x_iushrq d_In_numberOfLeadingZeros_76 (?_ : WD _ _ 77 _ _ _ _ _ _)
            obtain ⟨h13, h⟩ := h
            refine x_isub d_In_numberOfLeadingZeros_77 h13 (?_ : WD _ _ 78 _ _ _ _ _ _)
            exact x_ireturn rfl d_In_numberOfLeadingZeros_78 h
      · replace h := h.2 c3
        obtain ⟨h14, h⟩ := h
        refine x_iinc (ls' := [(1, vI (31 + (-8))), (0, vI x0)]) d_In_numberOfLeadingZeros_40 rfl h14 (by decide) rfl (?_ : WD _ _ 43 _ _ _ _ _ _)
        refine x_iload_n d_In_numberOfLeadingZeros_43 rfl (?_ : WD _ _ 44 _ _ _ _ _ _)
        refine x_bipush d_In_numberOfLeadingZeros_44 (by decide) (by decide) (?_ : WD _ _ 46 _ _ _ _ _ _)
        refine x_iushrq d_In_numberOfLeadingZeros_46 (?_ : WD _ _ 47 _ _ _ _ _ _)
        refine x_istore_n (ls' := [(0, vI (iushrq x0 8)), (1, vI (31 + (-8)))]) d_In_numberOfLeadingZeros_47 rfl (by decide) rfl (?_ : WD _ _ 48 _ _ _ _ _ _)
        refine x_iload_n d_In_numberOfLeadingZeros_48 rfl (?_ : WD _ _ 49 _ _ _ _ _ _)
        refine x_bipush d_In_numberOfLeadingZeros_49 (by decide) (by decide) (?_ : WD _ _ 51 _ _ _ _ _ _)
        refine x_icmp_lt 61 d_In_numberOfLeadingZeros_51 rfl ⟨fun c15 => (?_ : WD _ _ 61 _ _ _ _ _ _), fun c15 => (?_ : WD _ _ 54 _ _ _ _ _ _)⟩
        · replace h := h.1 c15
          refine x_iload_n d_In_numberOfLeadingZeros_61 rfl (?_ : WD _ _ 62 _ _ _ _ _ _)
          refine x_iconst d_In_numberOfLeadingZeros_62 (by decide) (?_ : WD _ _ 63 _ _ _ _ _ _)
          refine x_icmp_lt 73 d_In_numberOfLeadingZeros_63 rfl ⟨fun c16 => (?_ : WD _ _ 73 _ _ _ _ _ _), fun c16 => (?_ : WD _ _ 66 _ _ _ _ _ _)⟩
          · replace h := h.1 c16
            refine x_iload_n d_In_numberOfLeadingZeros_73 rfl (?_ : WD _ _ 74 _ _ _ _ _ _)
            refine x_iload_n d_In_numberOfLeadingZeros_74 rfl (?_ : WD _ _ 75 _ _ _ _ _ _)
            refine x_iconst d_In_numberOfLeadingZeros_75 (by decide) (?_ : WD _ _ 76 _ _ _ _ _ _)
            refine x_iushrq d_In_numberOfLeadingZeros_76 (?_ : WD _ _ 77 _ _ _ _ _ _)
            obtain ⟨h17, h⟩ := h
            refine x_isub d_In_numberOfLeadingZeros_77 h17 (?_ : WD _ _ 78 _ _ _ _ _ _)
            exact x_ireturn rfl d_In_numberOfLeadingZeros_78 h
          · replace h := h.2 c16
            obtain ⟨h18, h⟩ := h
            refine x_iinc (ls' := [(1, vI ((31 + (-8)) + (-2))), (0, vI (iushrq x0 8))]) d_In_numberOfLeadingZeros_66 rfl h18 (by decide) rfl (?_ : WD _ _ 69 _ _ _ _ _ _)
            refine x_iload_n d_In_numberOfLeadingZeros_69 rfl (?_ : WD _ _ 70 _ _ _ _ _ _)
            refine x_iconst d_In_numberOfLeadingZeros_70 (by decide) (?_ : WD _ _ 71 _ _ _ _ _ _)
            refine x_iushrq d_In_numberOfLeadingZeros_71 (?_ : WD _ _ 72 _ _ _ _ _ _)
            refine x_istore_n (ls' := [(0, vI (iushrq (iushrq x0 8) 2)), (1, vI ((31 + (-8)) + (-2)))]) d_In_numberOfLeadingZeros_72 rfl (by decide) rfl (?_ : WD _ _ 73 _ _ _ _ _ _)
            refine x_iload_n d_In_numberOfLeadingZeros_73 rfl (?_ : WD _ _ 74 _ _ _ _ _ _)
            refine x_iload_n d_In_numberOfLeadingZeros_74 rfl (?_ : WD _ _ 75 _ _ _ _ _ _)
            refine x_iconst d_In_numberOfLeadingZeros_75 (by decide) (?_ : WD _ _ 76 _ _ _ _ _ _)
            refine x_iushrq d_In_numberOfLeadingZeros_76 (?_ : WD _ _ 77 _ _ _ _ _ _)
            obtain ⟨h19, h⟩ := h
            refine x_isub d_In_numberOfLeadingZeros_77 h19 (?_ : WD _ _ 78 _ _ _ _ _ _)
            exact x_ireturn rfl d_In_numberOfLeadingZeros_78 h
        · replace h := h.2 c15
          obtain ⟨h20, h⟩ := h
          refine x_iinc (ls' := [(1, vI ((31 + (-8)) + (-4))), (0, vI (iushrq x0 8))]) d_In_numberOfLeadingZeros_54 rfl h20 (by decide) rfl (?_ : WD _ _ 57 _ _ _ _ _ _)
          refine x_iload_n d_In_numberOfLeadingZeros_57 rfl (?_ : WD _ _ 58 _ _ _ _ _ _)
          refine x_iconst d_In_numberOfLeadingZeros_58 (by decide) (?_ : WD _ _ 59 _ _ _ _ _ _)
          refine x_iushrq d_In_numberOfLeadingZeros_59 (?_ : WD _ _ 60 _ _ _ _ _ _)
          refine x_istore_n (ls' := [(0, vI (iushrq (iushrq x0 8) 4)), (1, vI ((31 + (-8)) + (-4)))]) d_In_numberOfLeadingZeros_60 rfl (by decide) rfl (?_ : WD _ _ 61 _ _ _ _ _ _)
          refine x_iload_n d_In_numberOfLeadingZeros_61 rfl (?_ : WD _ _ 62 _ _ _ _ _ _)
          refine x_iconst d_In_numberOfLeadingZeros_62 (by decide) (?_ : WD _ _ 63 _ _ _ _ _ _)
          refine x_icmp_lt 73 d_In_numberOfLeadingZeros_63 rfl ⟨fun c21 => (?_ : WD _ _ 73 _ _ _ _ _ _), fun c21 => (?_ : WD _ _ 66 _ _ _ _ _ _)⟩
          · replace h := h.1 c21
            refine x_iload_n d_In_numberOfLeadingZeros_73 rfl (?_ : WD _ _ 74 _ _ _ _ _ _)
            refine x_iload_n d_In_numberOfLeadingZeros_74 rfl (?_ : WD _ _ 75 _ _ _ _ _ _)
            refine x_iconst d_In_numberOfLeadingZeros_75 (by decide) (?_ : WD _ _ 76 _ _ _ _ _ _)
            refine x_iushrq d_In_numberOfLeadingZeros_76 (?_ : WD _ _ 77 _ _ _ _ _ _)
            obtain ⟨h22, h⟩ := h
            refine x_isub d_In_numberOfLeadingZeros_77 h22 (?_ : WD _ _ 78 _ _ _ _ _ _)
            exact x_ireturn rfl d_In_numberOfLeadingZeros_78 h
          · replace h := h.2 c21
            obtain ⟨h23, h⟩ := h
            refine x_iinc (ls' := [(1, vI (((31 + (-8)) + (-4)) + (-2))), (0, vI (iushrq (iushrq x0 8) 4))]) d_In_numberOfLeadingZeros_66 rfl h23 (by decide) rfl (?_ : WD _ _ 69 _ _ _ _ _ _)
            refine x_iload_n d_In_numberOfLeadingZeros_69 rfl (?_ : WD _ _ 70 _ _ _ _ _ _)
            refine x_iconst d_In_numberOfLeadingZeros_70 (by decide) (?_ : WD _ _ 71 _ _ _ _ _ _)
            refine x_iushrq d_In_numberOfLeadingZeros_71 (?_ : WD _ _ 72 _ _ _ _ _ _)
            refine x_istore_n (ls' := [(0, vI (iushrq (iushrq (iushrq x0 8) 4) 2)), (1, vI (((31 + (-8)) + (-4)) + (-2)))]) d_In_numberOfLeadingZeros_72 rfl (by decide) rfl (?_ : WD _ _ 73 _ _ _ _ _ _)
            refine x_iload_n d_In_numberOfLeadingZeros_73 rfl (?_ : WD _ _ 74 _ _ _ _ _ _)
            refine x_iload_n d_In_numberOfLeadingZeros_74 rfl (?_ : WD _ _ 75 _ _ _ _ _ _)
            refine x_iconst d_In_numberOfLeadingZeros_75 (by decide) (?_ : WD _ _ 76 _ _ _ _ _ _)
            refine x_iushrq d_In_numberOfLeadingZeros_76 (?_ : WD _ _ 77 _ _ _ _ _ _)
            obtain ⟨h24, h⟩ := h
            refine x_isub d_In_numberOfLeadingZeros_77 h24 (?_ : WD _ _ 78 _ _ _ _ _ _)
            exact x_ireturn rfl d_In_numberOfLeadingZeros_78 h
    · replace h := h.2 c2
      obtain ⟨h25, h⟩ := h
      refine x_iinc (ls' := [(1, vI (31 + (-16))), (0, vI x0)]) d_In_numberOfLeadingZeros_25 rfl h25 (by decide) rfl (?_ : WD _ _ 28 _ _ _ _ _ _)
      refine x_iload_n d_In_numberOfLeadingZeros_28 rfl (?_ : WD _ _ 29 _ _ _ _ _ _)
      refine x_bipush d_In_numberOfLeadingZeros_29 (by decide) (by decide) (?_ : WD _ _ 31 _ _ _ _ _ _)
      refine x_iushrq d_In_numberOfLeadingZeros_31 (?_ : WD _ _ 32 _ _ _ _ _ _)
      refine x_istore_n (ls' := [(0, vI (iushrq x0 16)), (1, vI (31 + (-16)))]) d_In_numberOfLeadingZeros_32 rfl (by decide) rfl (?_ : WD _ _ 33 _ _ _ _ _ _)
      refine x_iload_n d_In_numberOfLeadingZeros_33 rfl (?_ : WD _ _ 34 _ _ _ _ _ _)
      refine x_sipush d_In_numberOfLeadingZeros_34 (by decide) (by decide) (?_ : WD _ _ 37 _ _ _ _ _ _)
      refine x_icmp_lt 48 d_In_numberOfLeadingZeros_37 rfl ⟨fun c26 => (?_ : WD _ _ 48 _ _ _ _ _ _), fun c26 => (?_ : WD _ _ 40 _ _ _ _ _ _)⟩
      · replace h := h.1 c26
        refine x_iload_n d_In_numberOfLeadingZeros_48 rfl (?_ : WD _ _ 49 _ _ _ _ _ _)
        refine x_bipush d_In_numberOfLeadingZeros_49 (by decide) (by decide) (?_ : WD _ _ 51 _ _ _ _ _ _)
        refine x_icmp_lt 61 d_In_numberOfLeadingZeros_51 rfl ⟨fun c27 => (?_ : WD _ _ 61 _ _ _ _ _ _), fun c27 => (?_ : WD _ _ 54 _ _ _ _ _ _)⟩
        · replace h := h.1 c27
          refine x_iload_n d_In_numberOfLeadingZeros_61 rfl (?_ : WD _ _ 62 _ _ _ _ _ _)
          refine x_iconst d_In_numberOfLeadingZeros_62 (by decide) (?_ : WD _ _ 63 _ _ _ _ _ _)
          refine x_icmp_lt 73 d_In_numberOfLeadingZeros_63 rfl ⟨fun c28 => (?_ : WD _ _ 73 _ _ _ _ _ _), fun c28 => (?_ : WD _ _ 66 _ _ _ _ _ _)⟩
          · replace h := h.1 c28
            refine x_iload_n d_In_numberOfLeadingZeros_73 rfl (?_ : WD _ _ 74 _ _ _ _ _ _)
            refine x_iload_n d_In_numberOfLeadingZeros_74 rfl (?_ : WD _ _ 75 _ _ _ _ _ _)
            refine x_iconst d_In_numberOfLeadingZeros_75 (by decide) (?_ : WD _ _ 76 _ _ _ _ _ _)
            refine x_iushrq d_In_numberOfLeadingZeros_76 (?_ : WD _ _ 77 _ _ _ _ _ _)
            obtain ⟨h29, h⟩ := h
            refine x_isub d_In_numberOfLeadingZeros_77 h29 (?_ : WD _ _ 78 _ _ _ _ _ _)
            exact x_ireturn rfl d_In_numberOfLeadingZeros_78 h
          · replace h := h.2 c28
            obtain ⟨h30, h⟩ := h
            refine x_iinc (ls' := [(1, vI ((31 + (-16)) + (-2))), (0, vI (iushrq x0 16))]) d_In_numberOfLeadingZeros_66 rfl h30 (by decide) rfl (?_ : WD _ _ 69 _ _ _ _ _ _)
            refine x_iload_n d_In_numberOfLeadingZeros_69 rfl (?_ : WD _ _ 70 _ _ _ _ _ _)
            refine x_iconst d_In_numberOfLeadingZeros_70 (by decide) (?_ : WD _ _ 71 _ _ _ _ _ _)
            refine x_iushrq d_In_numberOfLeadingZeros_71 (?_ : WD _ _ 72 _ _ _ _ _ _)
            refine x_istore_n (ls' := [(0, vI (iushrq (iushrq x0 16) 2)), (1, vI ((31 + (-16)) + (-2)))]) d_In_numberOfLeadingZeros_72 rfl (by decide) rfl (?_ : WD _ _ 73 _ _ _ _ _ _)
            refine x_iload_n d_In_numberOfLeadingZeros_73 rfl (?_ : WD _ _ 74 _ _ _ _ _ _)
            refine x_iload_n d_In_numberOfLeadingZeros_74 rfl (?_ : WD _ _ 75 _ _ _ _ _ _)
            refine x_iconst d_In_numberOfLeadingZeros_75 (by decide) (?_ : WD _ _ 76 _ _ _ _ _ _)
            refine x_iushrq d_In_numberOfLeadingZeros_76 (?_ : WD _ _ 77 _ _ _ _ _ _)
            obtain ⟨h31, h⟩ := h
            refine x_isub d_In_numberOfLeadingZeros_77 h31 (?_ : WD _ _ 78 _ _ _ _ _ _)
            exact x_ireturn rfl d_In_numberOfLeadingZeros_78 h
        · replace h := h.2 c27
          obtain ⟨h32, h⟩ := h
          refine x_iinc (ls' := [(1, vI ((31 + (-16)) + (-4))), (0, vI (iushrq x0 16))]) d_In_numberOfLeadingZeros_54 rfl h32 (by decide) rfl (?_ : WD _ _ 57 _ _ _ _ _ _)
          refine x_iload_n d_In_numberOfLeadingZeros_57 rfl (?_ : WD _ _ 58 _ _ _ _ _ _)
          refine x_iconst d_In_numberOfLeadingZeros_58 (by decide) (?_ : WD _ _ 59 _ _ _ _ _ _)
          refine x_iushrq d_In_numberOfLeadingZeros_59 (?_ : WD _ _ 60 _ _ _ _ _ _)
          refine x_istore_n (ls' := [(0, vI (iushrq (iushrq x0 16) 4)), (1, vI ((31 + (-16)) + (-4)))]) d_In_numberOfLeadingZeros_60 rfl (by decide) rfl (?_ : WD _ _ 61 _ _ _ _ _ _)
          refine x_iload_n d_In_numberOfLeadingZeros_61 rfl (?_ : WD _ _ 62 _ _ _ _ _ _)
          refine x_iconst d_In_numberOfLeadingZeros_62 (by decide) (?_ : WD _ _ 63 _ _ _ _ _ _)
          refine x_icmp_lt 73 d_In_numberOfLeadingZeros_63 rfl ⟨fun c33 => (?_ : WD _ _ 73 _ _ _ _ _ _), fun c33 => (?_ : WD _ _ 66 _ _ _ _ _ _)⟩
          · replace h := h.1 c33
            refine x_iload_n d_In_numberOfLeadingZeros_73 rfl (?_ : WD _ _ 74 _ _ _ _ _ _)
            refine x_iload_n d_In_numberOfLeadingZeros_74 rfl (?_ : WD _ _ 75 _ _ _ _ _ _)
            refine x_iconst d_In_numberOfLeadingZeros_75 (by decide) (?_ : WD _ _ 76 _ _ _ _ _ _)
            refine x_iushrq d_In_numberOfLeadingZeros_76 (?_ : WD _ _ 77 _ _ _ _ _ _)
            obtain ⟨h34, h⟩ := h
            refine x_isub d_In_numberOfLeadingZeros_77 h34 (?_ : WD _ _ 78 _ _ _ _ _ _)
            exact x_ireturn rfl d_In_numberOfLeadingZeros_78 h
          · replace h := h.2 c33
            obtain ⟨h35, h⟩ := h
            refine x_iinc (ls' := [(1, vI (((31 + (-16)) + (-4)) + (-2))), (0, vI (iushrq (iushrq x0 16) 4))]) d_In_numberOfLeadingZeros_66 rfl h35 (by decide) rfl (?_ : WD _ _ 69 _ _ _ _ _ _)
            refine x_iload_n d_In_numberOfLeadingZeros_69 rfl (?_ : WD _ _ 70 _ _ _ _ _ _)
            refine x_iconst d_In_numberOfLeadingZeros_70 (by decide) (?_ : WD _ _ 71 _ _ _ _ _ _)
            refine x_iushrq d_In_numberOfLeadingZeros_71 (?_ : WD _ _ 72 _ _ _ _ _ _)
            refine x_istore_n (ls' := [(0, vI (iushrq (iushrq (iushrq x0 16) 4) 2)), (1, vI (((31 + (-16)) + (-4)) + (-2)))]) d_In_numberOfLeadingZeros_72 rfl (by decide) rfl (?_ : WD _ _ 73 _ _ _ _ _ _)
            refine x_iload_n d_In_numberOfLeadingZeros_73 rfl (?_ : WD _ _ 74 _ _ _ _ _ _)
            refine x_iload_n d_In_numberOfLeadingZeros_74 rfl (?_ : WD _ _ 75 _ _ _ _ _ _)
            refine x_iconst d_In_numberOfLeadingZeros_75 (by decide) (?_ : WD _ _ 76 _ _ _ _ _ _)
            refine x_iushrq d_In_numberOfLeadingZeros_76 (?_ : WD _ _ 77 _ _ _ _ _ _)
            obtain ⟨h36, h⟩ := h
            refine x_isub d_In_numberOfLeadingZeros_77 h36 (?_ : WD _ _ 78 _ _ _ _ _ _)
            exact x_ireturn rfl d_In_numberOfLeadingZeros_78 h
      · replace h := h.2 c26
        obtain ⟨h37, h⟩ := h
        refine x_iinc (ls' := [(1, vI ((31 + (-16)) + (-8))), (0, vI (iushrq x0 16))]) d_In_numberOfLeadingZeros_40 rfl h37 (by decide) rfl (?_ : WD _ _ 43 _ _ _ _ _ _)
        refine x_iload_n d_In_numberOfLeadingZeros_43 rfl (?_ : WD _ _ 44 _ _ _ _ _ _)
        refine x_bipush d_In_numberOfLeadingZeros_44 (by decide) (by decide) (?_ : WD _ _ 46 _ _ _ _ _ _)
        refine x_iushrq d_In_numberOfLeadingZeros_46 (?_ : WD _ _ 47 _ _ _ _ _ _)
        refine x_istore_n (ls' := [(0, vI (iushrq (iushrq x0 16) 8)), (1, vI ((31 + (-16)) + (-8)))]) d_In_numberOfLeadingZeros_47 rfl (by decide) rfl (?_ : WD _ _ 48 _ _ _ _ _ _)
        refine x_iload_n d_In_numberOfLeadingZeros_48 rfl (?_ : WD _ _ 49 _ _ _ _ _ _)
        refine x_bipush d_In_numberOfLeadingZeros_49 (by decide) (by decide) (?_ : WD _ _ 51 _ _ _ _ _ _)
        refine x_icmp_lt 61 d_In_numberOfLeadingZeros_51 rfl ⟨fun c38 => (?_ : WD _ _ 61 _ _ _ _ _ _), fun c38 => (?_ : WD _ _ 54 _ _ _ _ _ _)⟩
        · replace h := h.1 c38
          refine x_iload_n d_In_numberOfLeadingZeros_61 rfl (?_ : WD _ _ 62 _ _ _ _ _ _)
          refine x_iconst d_In_numberOfLeadingZeros_62 (by decide) (?_ : WD _ _ 63 _ _ _ _ _ _)
          refine x_icmp_lt 73 d_In_numberOfLeadingZeros_63 rfl ⟨fun c39 => (?_ : WD _ _ 73 _ _ _ _ _ _), fun c39 => (?_ : WD _ _ 66 _ _ _ _ _ _)⟩
          · replace h := h.1 c39
            refine x_iload_n d_In_numberOfLeadingZeros_73 rfl (?_ : WD _ _ 74 _ _ _ _ _ _)
            refine x_iload_n d_In_numberOfLeadingZeros_74 rfl (?_ : WD _ _ 75 _ _ _ _ _ _)
            refine x_iconst d_In_numberOfLeadingZeros_75 (by decide) (?_ : WD _ _ 76 _ _ _ _ _ _)
            refine x_iushrq d_In_numberOfLeadingZeros_76 (?_ : WD _ _ 77 _ _ _ _ _ _)
            obtain ⟨h40, h⟩ := h
            refine x_isub d_In_numberOfLeadingZeros_77 h40 (?_ : WD _ _ 78 _ _ _ _ _ _)
            exact x_ireturn rfl d_In_numberOfLeadingZeros_78 h
          · replace h := h.2 c39
            obtain ⟨h41, h⟩ := h
            refine x_iinc (ls' := [(1, vI (((31 + (-16)) + (-8)) + (-2))), (0, vI (iushrq (iushrq x0 16) 8))]) d_In_numberOfLeadingZeros_66 rfl h41 (by decide) rfl (?_ : WD _ _ 69 _ _ _ _ _ _)
            refine x_iload_n d_In_numberOfLeadingZeros_69 rfl (?_ : WD _ _ 70 _ _ _ _ _ _)
            refine x_iconst d_In_numberOfLeadingZeros_70 (by decide) (?_ : WD _ _ 71 _ _ _ _ _ _)
            refine x_iushrq d_In_numberOfLeadingZeros_71 (?_ : WD _ _ 72 _ _ _ _ _ _)
            refine x_istore_n (ls' := [(0, vI (iushrq (iushrq (iushrq x0 16) 8) 2)), (1, vI (((31 + (-16)) + (-8)) + (-2)))]) d_In_numberOfLeadingZeros_72 rfl (by decide) rfl (?_ : WD _ _ 73 _ _ _ _ _ _)
            refine x_iload_n d_In_numberOfLeadingZeros_73 rfl (?_ : WD _ _ 74 _ _ _ _ _ _)
            refine x_iload_n d_In_numberOfLeadingZeros_74 rfl (?_ : WD _ _ 75 _ _ _ _ _ _)
            refine x_iconst d_In_numberOfLeadingZeros_75 (by decide) (?_ : WD _ _ 76 _ _ _ _ _ _)
            refine x_iushrq d_In_numberOfLeadingZeros_76 (?_ : WD _ _ 77 _ _ _ _ _ _)
            obtain ⟨h42, h⟩ := h
            refine x_isub d_In_numberOfLeadingZeros_77 h42 (?_ : WD _ _ 78 _ _ _ _ _ _)
            exact x_ireturn rfl d_In_numberOfLeadingZeros_78 h
        · replace h := h.2 c38
          obtain ⟨h43, h⟩ := h
          refine x_iinc (ls' := [(1, vI (((31 + (-16)) + (-8)) + (-4))), (0, vI (iushrq (iushrq x0 16) 8))]) d_In_numberOfLeadingZeros_54 rfl h43 (by decide) rfl (?_ : WD _ _ 57 _ _ _ _ _ _)
          refine x_iload_n d_In_numberOfLeadingZeros_57 rfl (?_ : WD _ _ 58 _ _ _ _ _ _)
          refine x_iconst d_In_numberOfLeadingZeros_58 (by decide) (?_ : WD _ _ 59 _ _ _ _ _ _)
          refine x_iushrq d_In_numberOfLeadingZeros_59 (?_ : WD _ _ 60 _ _ _ _ _ _)
          refine x_istore_n (ls' := [(0, vI (iushrq (iushrq (iushrq x0 16) 8) 4)), (1, vI (((31 + (-16)) + (-8)) + (-4)))]) d_In_numberOfLeadingZeros_60 rfl (by decide) rfl (?_ : WD _ _ 61 _ _ _ _ _ _)
          refine x_iload_n d_In_numberOfLeadingZeros_61 rfl (?_ : WD _ _ 62 _ _ _ _ _ _)
          refine x_iconst d_In_numberOfLeadingZeros_62 (by decide) (?_ : WD _ _ 63 _ _ _ _ _ _)
          refine x_icmp_lt 73 d_In_numberOfLeadingZeros_63 rfl ⟨fun c44 => (?_ : WD _ _ 73 _ _ _ _ _ _), fun c44 => (?_ : WD _ _ 66 _ _ _ _ _ _)⟩
          · replace h := h.1 c44
            refine x_iload_n d_In_numberOfLeadingZeros_73 rfl (?_ : WD _ _ 74 _ _ _ _ _ _)
            refine x_iload_n d_In_numberOfLeadingZeros_74 rfl (?_ : WD _ _ 75 _ _ _ _ _ _)
            refine x_iconst d_In_numberOfLeadingZeros_75 (by decide) (?_ : WD _ _ 76 _ _ _ _ _ _)
            refine x_iushrq d_In_numberOfLeadingZeros_76 (?_ : WD _ _ 77 _ _ _ _ _ _)
            obtain ⟨h45, h⟩ := h
            refine x_isub d_In_numberOfLeadingZeros_77 h45 (?_ : WD _ _ 78 _ _ _ _ _ _)
            exact x_ireturn rfl d_In_numberOfLeadingZeros_78 h
          · replace h := h.2 c44
            obtain ⟨h46, h⟩ := h
            refine x_iinc (ls' := [(1, vI ((((31 + (-16)) + (-8)) + (-4)) + (-2))), (0, vI (iushrq (iushrq (iushrq x0 16) 8) 4))]) d_In_numberOfLeadingZeros_66 rfl h46 (by decide) rfl (?_ : WD _ _ 69 _ _ _ _ _ _)
            refine x_iload_n d_In_numberOfLeadingZeros_69 rfl (?_ : WD _ _ 70 _ _ _ _ _ _)
            refine x_iconst d_In_numberOfLeadingZeros_70 (by decide) (?_ : WD _ _ 71 _ _ _ _ _ _)
            refine x_iushrq d_In_numberOfLeadingZeros_71 (?_ : WD _ _ 72 _ _ _ _ _ _)
            refine x_istore_n (ls' := [(0, vI (iushrq (iushrq (iushrq (iushrq x0 16) 8) 4) 2)), (1, vI ((((31 + (-16)) + (-8)) + (-4)) + (-2)))]) d_In_numberOfLeadingZeros_72 rfl (by decide) rfl (?_ : WD _ _ 73 _ _ _ _ _ _)
            refine x_iload_n d_In_numberOfLeadingZeros_73 rfl (?_ : WD _ _ 74 _ _ _ _ _ _)
            refine x_iload_n d_In_numberOfLeadingZeros_74 rfl (?_ : WD _ _ 75 _ _ _ _ _ _)
            refine x_iconst d_In_numberOfLeadingZeros_75 (by decide) (?_ : WD _ _ 76 _ _ _ _ _ _)
            refine x_iushrq d_In_numberOfLeadingZeros_76 (?_ : WD _ _ 77 _ _ _ _ _ _)
            obtain ⟨h47, h⟩ := h
            refine x_isub d_In_numberOfLeadingZeros_77 h47 (?_ : WD _ _ 78 _ _ _ _ _ _)
            exact x_ireturn rfl d_In_numberOfLeadingZeros_78 h
  · replace h := h.2 c1
    refine x_iload_n d_In_numberOfLeadingZeros_4 rfl (?_ : WD _ _ 5 _ _ _ _ _ _)
    refine x_if_ne 13 d_In_numberOfLeadingZeros_5 rfl ⟨fun c48 => (?_ : WD _ _ 13 _ _ _ _ _ _), fun c48 => (?_ : WD _ _ 8 _ _ _ _ _ _)⟩
    · replace h := h.1 c48
      refine x_iconst d_In_numberOfLeadingZeros_13 (by decide) (?_ : WD _ _ 14 _ _ _ _ _ _)
      exact x_ireturn rfl d_In_numberOfLeadingZeros_14 h
    · replace h := h.2 c48
      refine x_bipush d_In_numberOfLeadingZeros_8 (by decide) (by decide) (?_ : WD _ _ 10 _ _ _ _ _ _)
      refine x_goto 14 d_In_numberOfLeadingZeros_10 rfl ?_
      exact x_ireturn rfl d_In_numberOfLeadingZeros_14 h
set_option maxRecDepth 20000 in
theorem e_Hn_init {G : Gq} {K : Wd → Prop} {w : Wd} {mc ms : Nat} (x0 : Nat) (x1 : Int) (x2 : Nat) (x3 : Nat) (x4 : Option Nat) (h : (Ow w x0 (kO 21)) ∧ K (uR (uR (uR (uI w x0 0 x1) x0 1 (some x2)) x0 2 (some x3)) x0 3 x4)) : DV G M_Hn_init [vA x0, vI x1, vA x2, vA x3, vP x4] w mc ms K := by
  refine DC.of ok_M_Hn_init (ls := [(0, vA x0), (1, vI x1), (2, vA x2), (3, vA x3), (4, vP x4)]) rfl (Nat.le_of_ble_eq_true rfl) ?_
  refine x_aload_nP (some x0) d_Hn_init_0 rfl (?_ : WD _ _ 1 _ _ _ _ _ _)
  refine x_obj d_Hn_init_1 (qm_7 (i := 148) rfl rfl) (qm_1 (i := 58) rfl rfl) (qm_1 (i := 59) rfl rfl) ⟨Nat.le_of_ble_eq_true rfl, Nat.le_of_ble_eq_true rfl⟩ (?_ : WD _ _ 4 _ _ _ _ _ _)
  refine x_aload_nP (some x0) d_Hn_init_4 rfl (?_ : WD _ _ 5 _ _ _ _ _ _)
  refine x_iload_n d_Hn_init_5 rfl (?_ : WD _ _ 6 _ _ _ _ _ _)
  obtain ⟨k1, h⟩ := h
  refine x_putI (ref := "java/util/HashMap$Node") (j := 0) 0 k1 clk_21 (by decide) (qm_7 (i := 153) rfl rfl) (Or.inl rfl) (Or.inr ⟨rfl, rfl, rfl⟩) tyX24_ok rfl nmX24 d_Hn_init_6 rfl rfl (fun _ => rfl) rfl (?_ : WD _ _ 9 _ _ _ _ _ _)
  refine x_aload_nP (some x0) d_Hn_init_9 rfl (?_ : WD _ _ 10 _ _ _ _ _ _)
  refine x_aload_nP (some x2) d_Hn_init_10 rfl (?_ : WD _ _ 11 _ _ _ _ _ _)
  refine x_putP (ref := "java/util/HashMap$Node") (j := 1) (some x2) 1 k1 clk_21 (by decide) (qm_7 (i := 159) rfl rfl) (Or.inl rfl) (Or.inr ⟨rfl, rfl, rfl⟩) tyX24_ok rfl nmX24 d_Hn_init_11 rfl rfl (nar_P (by first | exact Or.inl ⟨_, rfl⟩ | exact Or.inr ⟨_, rfl⟩) _) (fit_P (by first | exact Or.inl ⟨_, rfl⟩ | exact Or.inr ⟨_, rfl⟩) _) (?_ : WD _ _ 14 _ _ _ _ _ _)
  refine x_aload_nP (some x0) d_Hn_init_14 rfl (?_ : WD _ _ 15 _ _ _ _ _ _)
  refine x_aload_nP (some x3) d_Hn_init_15 rfl (?_ : WD _ _ 16 _ _ _ _ _ _)
  refine x_putP (ref := "java/util/HashMap$Node") (j := 2) (some x3) 2 k1 clk_21 (by decide) (qm_7 (i := 166) rfl rfl) (Or.inl rfl) (Or.inl rfl) tyX24_ok rfl nmX24 d_Hn_init_16 rfl rfl (nar_P (by first | exact Or.inl ⟨_, rfl⟩ | exact Or.inr ⟨_, rfl⟩) _) (fit_P (by first | exact Or.inl ⟨_, rfl⟩ | exact Or.inr ⟨_, rfl⟩) _) (?_ : WD _ _ 19 _ _ _ _ _ _)
  refine x_aload_nP (some x0) d_Hn_init_19 rfl (?_ : WD _ _ 20 _ _ _ _ _ _)
  refine x_aloadP x4 d_Hn_init_20 rfl (?_ : WD _ _ 22 _ _ _ _ _ _)
  refine x_putP (ref := "java/util/HashMap$Node") (j := 3) x4 3 k1 clk_21 (by decide) (qm_7 (i := 170) rfl rfl) (Or.inl rfl) (Or.inl rfl) tyX24_ok rfl nmX24 d_Hn_init_22 rfl rfl (nar_P (by first | exact Or.inl ⟨_, rfl⟩ | exact Or.inr ⟨_, rfl⟩) _) (fit_P (by first | exact Or.inl ⟨_, rfl⟩ | exact Or.inr ⟨_, rfl⟩) _) (?_ : WD _ _ 25 _ _ _ _ _ _)
  exact x_return rfl d_Hn_init_25 h
set_option maxRecDepth 20000 in
theorem e_Ar_checkLength {G : Gq} {K : Wd → Prop} {w : Wd} {mc ms : Nat} (x0 : Int) (x1 : Int) (h : (x0 ≤ x1 → K w) ∧ (¬ x0 ≤ x1 → False)) : DV G M_Ar_checkLength [vI x0, vI x1] w mc ms K := by
  refine DC.of ok_M_Ar_checkLength (ls := [(0, vI x0), (1, vI x1)]) rfl (Nat.le_of_ble_eq_true rfl) ?_
  refine x_iload_n d_Ar_checkLength_0 rfl (?_ : WD _ _ 1 _ _ _ _ _ _)
  refine x_iload_n d_Ar_checkLength_1 rfl (?_ : WD _ _ 2 _ _ _ _ _ _)
  refine x_icmp_ge 37 d_Ar_checkLength_2 rfl ⟨fun c1 => (?_ : WD _ _ 37 _ _ _ _ _ _), fun c1 => (?_ : WD _ _ 5 _ _ _ _ _ _)⟩
  · replace h := h.1 c1
    exact x_return rfl d_Ar_checkLength_37 h
  · replace h := h.2 c1
    exact h.elim
