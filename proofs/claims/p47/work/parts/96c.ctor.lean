-- the constructors, walked
theorem hf_X0 : ∀ j, j < 12 → defaultValue (tyX0 j) = vp_V [.null, .null, .int 0, .int 0, .int 0, .int 0, .int 0, .null, .null, .null, .null, .null] j := by
  intro j hj
  match j, hj with
  | 0, _ => rfl
  | 1, _ => rfl
  | 2, _ => rfl
  | 3, _ => rfl
  | 4, _ => rfl
  | 5, _ => rfl
  | 6, _ => rfl
  | 7, _ => rfl
  | 8, _ => rfl
  | 9, _ => rfl
  | 10, _ => rfl
  | 11, _ => rfl
  | j + 12, h => omega
theorem hf_X1 : ∀ j, j < 3 → defaultValue (tyX1 j) = vp_V [.null, .int 0, .int 0] j := by
  intro j hj
  match j, hj with
  | 0, _ => rfl
  | 1, _ => rfl
  | 2, _ => rfl
  | j + 3, h => omega
theorem hf_X2 : ∀ j, j < 6 → defaultValue (tyX2 j) = vp_V [.int 0, .int 0, .int 0, .null, .null, .null] j := by
  intro j hj
  match j, hj with
  | 0, _ => rfl
  | 1, _ => rfl
  | 2, _ => rfl
  | 3, _ => rfl
  | 4, _ => rfl
  | 5, _ => rfl
  | j + 6, h => omega
theorem hf_X3 : ∀ j, j < 5 → defaultValue (tyX3 j) = vp_V [.null, .null, .null, .null, .int 0] j := by
  intro j hj
  match j, hj with
  | 0, _ => rfl
  | 1, _ => rfl
  | 2, _ => rfl
  | 3, _ => rfl
  | 4, _ => rfl
  | j + 5, h => omega
theorem hf_X4 : ∀ j, j < 2 → defaultValue (tyX4 j) = vp_V [.null, .int 0] j := by
  intro j hj
  match j, hj with
  | 0, _ => rfl
  | 1, _ => rfl
  | j + 2, h => omega
theorem hf_X5 : ∀ j, j < 6 → defaultValue (tyX5 j) = vp_V [.null, .int 0, .int 0, .null, .int 0, .int 0] j := by
  intro j hj
  match j, hj with
  | 0, _ => rfl
  | 1, _ => rfl
  | 2, _ => rfl
  | 3, _ => rfl
  | 4, _ => rfl
  | 5, _ => rfl
  | j + 6, h => omega
theorem hf_X6 : ∀ j, j < 5 → defaultValue (tyX6 j) = vp_V [.null, .null, .null, .null, .int 0] j := by
  intro j hj
  match j, hj with
  | 0, _ => rfl
  | 1, _ => rfl
  | 2, _ => rfl
  | 3, _ => rfl
  | 4, _ => rfl
  | j + 5, h => omega
theorem hf_X7 : ∀ j, j < 2 → defaultValue (tyX7 j) = vp_V [.null, .int 0] j := by
  intro j hj
  match j, hj with
  | 0, _ => rfl
  | 1, _ => rfl
  | j + 2, h => omega
theorem hf_X8 : ∀ j, j < 1 → defaultValue (tyX8 j) = vp_V [.null] j := by
  intro j hj
  match j, hj with
  | 0, _ => rfl
  | j + 1, h => omega
theorem hf_X9 : ∀ j, j < 8 → defaultValue (tyX9 j) = vp_V [.int 0, .int 0, .null, .null, .null, .null, .null, .null] j := by
  intro j hj
  match j, hj with
  | 0, _ => rfl
  | 1, _ => rfl
  | 2, _ => rfl
  | 3, _ => rfl
  | 4, _ => rfl
  | 5, _ => rfl
  | 6, _ => rfl
  | 7, _ => rfl
  | j + 8, h => omega
theorem hf_X10 : ∀ j, j < 11 → defaultValue (tyX10 j) = vp_V [.null, .null, .null, .null, .null, .null, .null, .null, .null, .null, .null] j := by
  intro j hj
  match j, hj with
  | 0, _ => rfl
  | 1, _ => rfl
  | 2, _ => rfl
  | 3, _ => rfl
  | 4, _ => rfl
  | 5, _ => rfl
  | 6, _ => rfl
  | 7, _ => rfl
  | 8, _ => rfl
  | 9, _ => rfl
  | 10, _ => rfl
  | j + 11, h => omega
abbrev w1_Ta (G : Gq) (h0 : Nat) (f : Nat → Nat) : va_W := [(h0, .inr (7, [.ref (f 0), .int 0])), (f 0, .inl (G.2.2 1, 900, .inl (fun _ => 0)))]
set_option maxRecDepth 20000 in
set_option maxHeartbeats 4000000 in
theorem kc_Ta (G : Gq) (h0 : Nat) (z : Nat) : KC M_Ta_init G (1, 1, 900, 12) [.ref h0] [(h0, .inr (7, [.null, .int 0]))] (w1_Ta G h0) z := by
  refine KC.of ok_M_Ta_init (ls := [(0, .ref h0)]) rfl (Nat.le_of_ble_eq_true rfl) (?_ : WK _ _ _ _ _ _ 0 [(0, .ref h0)] [] [(h0, .inr (7, [.null, .int 0]))] 0 0)
  refine k_aloadn 0 d_Ta_init_0 rfl (?_ : WK _ _ _ _ _ _ 1 [(0, .ref h0)] [.ref h0] [(h0, .inr (7, [.null, .int 0]))] 0 0)
  refine k_obj d_Ta_init_1 (qm_1 (i := 65) rfl rfl) (qm_1 (i := 58) rfl rfl) (qm_1 (i := 59) rfl rfl) (by decide) (?_ : WK _ _ _ _ _ _ 4 [(0, .ref h0)] [] [(h0, .inr (7, [.null, .int 0]))] 0 0)
  refine k_aloadn 0 d_Ta_init_4 rfl (?_ : WK _ _ _ _ _ _ 5 [(0, .ref h0)] [.ref h0] [(h0, .inr (7, [.null, .int 0]))] 0 0)
  refine k_sipush d_Ta_init_5 (by decide) (?_ : WK _ _ _ _ _ _ 8 [(0, .ref h0)] [.int 900, .ref h0] [(h0, .inr (7, [.null, .int 0]))] 0 0)
  refine k_newa (N := 900) (ty := .byte) (cA := G.2.2 1) 1 d_Ta_init_8 rfl (qm_1 (i := 74) rfl rfl) rfl (fun _ _ => rfl) (fun _ => rfl) (by decide) (by decide) (Nat.le_of_ble_eq_true rfl) (Nat.le_of_ble_eq_true rfl) (Nat.le_of_ble_eq_true rfl) (fun q8 => (?_ : WK _ _ _ _ _ _ 10 [(0, .ref h0)] [.ref q8, .ref h0] [(h0, .inr (7, [.null, .int 0])), (q8, .inl (G.2.2 1, 900, .inl (fun _ => 0)))] 1 900))
  refine k_putF (ty := .array .byte) 0 0 d_Ta_init_10 rfl clk_7 (by decide) (qm_1 (i := 66) rfl rfl) tyX7_ok nmX7 rfl rfl rfl (by decide +kernel) rfl rfl (Nat.le_of_ble_eq_true rfl) rfl (?_ : WK _ _ _ _ _ _ 13 [(0, .ref h0)] [] [(h0, .inr (7, [.ref q8, .int 0])), (q8, .inl (G.2.2 1, 900, .inl (fun _ => 0)))] 1 900)
  exact k_ret (fun k => match k with | 0 => q8 | _ => 0) d_Ta_init_13 rfl rfl rfl rfl
abbrev w1_Le (G : Gq) (h0 : Nat) (f : Nat → Nat) : va_W := [(h0, .inr (3, [.ref (f 0), .ref (f 1), .ref (f 2), .ref (f 3), .int 0])), (f 0, .inl (G.2.2 0, 48, .inl (fun _ => 0))), (f 1, .inl (G.2.2 0, 48, .inl (fun _ => 0))), (f 2, .inl (G.2.2 0, 48, .inl (fun _ => 0))), (f 3, .inl (G.2.2 0, 48, .inl (fun _ => 0)))]
set_option maxRecDepth 20000 in
set_option maxHeartbeats 4000000 in
theorem kc_Le (G : Gq) (h0 : Nat) (z : Nat) : KC M_Le_init G (1, 4, 192, 12) [.ref h0] [(h0, .inr (3, [.null, .null, .null, .null, .int 0]))] (w1_Le G h0) z := by
  refine KC.of ok_M_Le_init (ls := [(0, .ref h0)]) rfl (Nat.le_of_ble_eq_true rfl) (?_ : WK _ _ _ _ _ _ 0 [(0, .ref h0)] [] [(h0, .inr (3, [.null, .null, .null, .null, .int 0]))] 0 0)
  refine k_aloadn 0 d_Le_init_0 rfl (?_ : WK _ _ _ _ _ _ 1 [(0, .ref h0)] [.ref h0] [(h0, .inr (3, [.null, .null, .null, .null, .int 0]))] 0 0)
  refine k_obj d_Le_init_1 (qm_1 (i := 80) rfl rfl) (qm_1 (i := 58) rfl rfl) (qm_1 (i := 59) rfl rfl) (by decide) (?_ : WK _ _ _ _ _ _ 4 [(0, .ref h0)] [] [(h0, .inr (3, [.null, .null, .null, .null, .int 0]))] 0 0)
  refine k_aloadn 0 d_Le_init_4 rfl (?_ : WK _ _ _ _ _ _ 5 [(0, .ref h0)] [.ref h0] [(h0, .inr (3, [.null, .null, .null, .null, .int 0]))] 0 0)
  refine k_bipush d_Le_init_5 (by decide) (?_ : WK _ _ _ _ _ _ 7 [(0, .ref h0)] [.int 48, .ref h0] [(h0, .inr (3, [.null, .null, .null, .null, .int 0]))] 0 0)
  refine k_newa (N := 48) (ty := .int) (cA := G.2.2 0) 0 d_Le_init_7 rfl (qm_1 (i := 107) rfl rfl) rfl (fun _ _ => rfl) (fun _ => rfl) (by decide) (by decide) (Nat.le_of_ble_eq_true rfl) (Nat.le_of_ble_eq_true rfl) (Nat.le_of_ble_eq_true rfl) (fun q7 => (?_ : WK _ _ _ _ _ _ 9 [(0, .ref h0)] [.ref q7, .ref h0] [(h0, .inr (3, [.null, .null, .null, .null, .int 0])), (q7, .inl (G.2.2 0, 48, .inl (fun _ => 0)))] 1 48))
  refine k_putF (ty := .array .int) 0 0 d_Le_init_9 rfl clk_3 (by decide) (qm_1 (i := 81) rfl rfl) tyX3_ok nmX3 rfl rfl rfl (by decide +kernel) rfl rfl (Nat.le_of_ble_eq_true rfl) rfl (?_ : WK _ _ _ _ _ _ 12 [(0, .ref h0)] [] [(h0, .inr (3, [.ref q7, .null, .null, .null, .int 0])), (q7, .inl (G.2.2 0, 48, .inl (fun _ => 0)))] 1 48)
  refine k_aloadn 0 d_Le_init_12 rfl (?_ : WK _ _ _ _ _ _ 13 [(0, .ref h0)] [.ref h0] [(h0, .inr (3, [.ref q7, .null, .null, .null, .int 0])), (q7, .inl (G.2.2 0, 48, .inl (fun _ => 0)))] 1 48)
  refine k_bipush d_Le_init_13 (by decide) (?_ : WK _ _ _ _ _ _ 15 [(0, .ref h0)] [.int 48, .ref h0] [(h0, .inr (3, [.ref q7, .null, .null, .null, .int 0])), (q7, .inl (G.2.2 0, 48, .inl (fun _ => 0)))] 1 48)
  refine k_newa (N := 48) (ty := .int) (cA := G.2.2 0) 0 d_Le_init_15 rfl (qm_1 (i := 107) rfl rfl) rfl (fun _ _ => rfl) (fun _ => rfl) (by decide) (by decide) (Nat.le_of_ble_eq_true rfl) (Nat.le_of_ble_eq_true rfl) (Nat.le_of_ble_eq_true rfl) (fun q15 => (?_ : WK _ _ _ _ _ _ 17 [(0, .ref h0)] [.ref q15, .ref h0] [(h0, .inr (3, [.ref q7, .null, .null, .null, .int 0])), (q7, .inl (G.2.2 0, 48, .inl (fun _ => 0))), (q15, .inl (G.2.2 0, 48, .inl (fun _ => 0)))] 2 96))
  refine k_putF (ty := .array .int) 0 1 d_Le_init_17 rfl clk_3 (by decide) (qm_1 (i := 83) rfl rfl) tyX3_ok nmX3 rfl rfl rfl (by decide +kernel) rfl rfl (Nat.le_of_ble_eq_true rfl) rfl (?_ : WK _ _ _ _ _ _ 20 [(0, .ref h0)] [] [(h0, .inr (3, [.ref q7, .ref q15, .null, .null, .int 0])), (q7, .inl (G.2.2 0, 48, .inl (fun _ => 0))), (q15, .inl (G.2.2 0, 48, .inl (fun _ => 0)))] 2 96)
  refine k_aloadn 0 d_Le_init_20 rfl (?_ : WK _ _ _ _ _ _ 21 [(0, .ref h0)] [.ref h0] [(h0, .inr (3, [.ref q7, .ref q15, .null, .null, .int 0])), (q7, .inl (G.2.2 0, 48, .inl (fun _ => 0))), (q15, .inl (G.2.2 0, 48, .inl (fun _ => 0)))] 2 96)
  refine k_bipush d_Le_init_21 (by decide) (?_ : WK _ _ _ _ _ _ 23 [(0, .ref h0)] [.int 48, .ref h0] [(h0, .inr (3, [.ref q7, .ref q15, .null, .null, .int 0])), (q7, .inl (G.2.2 0, 48, .inl (fun _ => 0))), (q15, .inl (G.2.2 0, 48, .inl (fun _ => 0)))] 2 96)
  refine k_newa (N := 48) (ty := .int) (cA := G.2.2 0) 0 d_Le_init_23 rfl (qm_1 (i := 107) rfl rfl) rfl (fun _ _ => rfl) (fun _ => rfl) (by decide) (by decide) (Nat.le_of_ble_eq_true rfl) (Nat.le_of_ble_eq_true rfl) (Nat.le_of_ble_eq_true rfl) (fun q23 => (?_ : WK _ _ _ _ _ _ 25 [(0, .ref h0)] [.ref q23, .ref h0] [(h0, .inr (3, [.ref q7, .ref q15, .null, .null, .int 0])), (q7, .inl (G.2.2 0, 48, .inl (fun _ => 0))), (q15, .inl (G.2.2 0, 48, .inl (fun _ => 0))), (q23, .inl (G.2.2 0, 48, .inl (fun _ => 0)))] 3 144))
  refine k_putF (ty := .array .int) 0 2 d_Le_init_25 rfl clk_3 (by decide) (qm_1 (i := 85) rfl rfl) tyX3_ok nmX3 rfl rfl rfl (by decide +kernel) rfl rfl (Nat.le_of_ble_eq_true rfl) rfl (?_ : WK _ _ _ _ _ _ 28 [(0, .ref h0)] [] [(h0, .inr (3, [.ref q7, .ref q15, .ref q23, .null, .int 0])), (q7, .inl (G.2.2 0, 48, .inl (fun _ => 0))), (q15, .inl (G.2.2 0, 48, .inl (fun _ => 0))), (q23, .inl (G.2.2 0, 48, .inl (fun _ => 0)))] 3 144)
  refine k_aloadn 0 d_Le_init_28 rfl (?_ : WK _ _ _ _ _ _ 29 [(0, .ref h0)] [.ref h0] [(h0, .inr (3, [.ref q7, .ref q15, .ref q23, .null, .int 0])), (q7, .inl (G.2.2 0, 48, .inl (fun _ => 0))), (q15, .inl (G.2.2 0, 48, .inl (fun _ => 0))), (q23, .inl (G.2.2 0, 48, .inl (fun _ => 0)))] 3 144)
  refine k_bipush d_Le_init_29 (by decide) (?_ : WK _ _ _ _ _ _ 31 [(0, .ref h0)] [.int 48, .ref h0] [(h0, .inr (3, [.ref q7, .ref q15, .ref q23, .null, .int 0])), (q7, .inl (G.2.2 0, 48, .inl (fun _ => 0))), (q15, .inl (G.2.2 0, 48, .inl (fun _ => 0))), (q23, .inl (G.2.2 0, 48, .inl (fun _ => 0)))] 3 144)
  refine k_newa (N := 48) (ty := .int) (cA := G.2.2 0) 0 d_Le_init_31 rfl (qm_1 (i := 107) rfl rfl) rfl (fun _ _ => rfl) (fun _ => rfl) (by decide) (by decide) (Nat.le_of_ble_eq_true rfl) (Nat.le_of_ble_eq_true rfl) (Nat.le_of_ble_eq_true rfl) (fun q31 => (?_ : WK _ _ _ _ _ _ 33 [(0, .ref h0)] [.ref q31, .ref h0] [(h0, .inr (3, [.ref q7, .ref q15, .ref q23, .null, .int 0])), (q7, .inl (G.2.2 0, 48, .inl (fun _ => 0))), (q15, .inl (G.2.2 0, 48, .inl (fun _ => 0))), (q23, .inl (G.2.2 0, 48, .inl (fun _ => 0))), (q31, .inl (G.2.2 0, 48, .inl (fun _ => 0)))] 4 192))
  refine k_putF (ty := .array .int) 0 3 d_Le_init_33 rfl clk_3 (by decide) (qm_1 (i := 87) rfl rfl) tyX3_ok nmX3 rfl rfl rfl (by decide +kernel) rfl rfl (Nat.le_of_ble_eq_true rfl) rfl (?_ : WK _ _ _ _ _ _ 36 [(0, .ref h0)] [] [(h0, .inr (3, [.ref q7, .ref q15, .ref q23, .ref q31, .int 0])), (q7, .inl (G.2.2 0, 48, .inl (fun _ => 0))), (q15, .inl (G.2.2 0, 48, .inl (fun _ => 0))), (q23, .inl (G.2.2 0, 48, .inl (fun _ => 0))), (q31, .inl (G.2.2 0, 48, .inl (fun _ => 0)))] 4 192)
  exact k_ret (fun k => match k with | 0 => q7 | 1 => q15 | 2 => q23 | 3 => q31 | _ => 0) d_Le_init_36 rfl rfl rfl rfl
abbrev w1_Te (G : Gq) (h0 : Nat) (f : Nat → Nat) : va_W := [(h0, .inr (8, [.ref (f 0)])), (f 0, .inl (G.2.2 0, 5, .inl (upd (upd (upd (upd (upd (fun _ => 0) 0 50000) 1 50) 2 0) 3 0) 4 7)))]
set_option maxRecDepth 20000 in
set_option maxHeartbeats 4000000 in
theorem kc_Te (G : Gq) (h0 : Nat) (z : Nat) : KC M_Te_init G (1, 1, 5, 12) [.ref h0] [(h0, .inr (8, [.null]))] (w1_Te G h0) z := by
  refine KC.of ok_M_Te_init (ls := [(0, .ref h0)]) rfl (Nat.le_of_ble_eq_true rfl) (?_ : WK _ _ _ _ _ _ 0 [(0, .ref h0)] [] [(h0, .inr (8, [.null]))] 0 0)
  refine k_aloadn 0 d_Te_init_0 rfl (?_ : WK _ _ _ _ _ _ 1 [(0, .ref h0)] [.ref h0] [(h0, .inr (8, [.null]))] 0 0)
  refine k_obj d_Te_init_1 (qm_1 (i := 143) rfl rfl) (qm_1 (i := 58) rfl rfl) (qm_1 (i := 59) rfl rfl) (by decide) (?_ : WK _ _ _ _ _ _ 4 [(0, .ref h0)] [] [(h0, .inr (8, [.null]))] 0 0)
  refine k_aloadn 0 d_Te_init_4 rfl (?_ : WK _ _ _ _ _ _ 5 [(0, .ref h0)] [.ref h0] [(h0, .inr (8, [.null]))] 0 0)
  refine k_iconst d_Te_init_5 (by decide) (?_ : WK _ _ _ _ _ _ 6 [(0, .ref h0)] [.int 5, .ref h0] [(h0, .inr (8, [.null]))] 0 0)
  refine k_newa (N := 5) (ty := .int) (cA := G.2.2 0) 0 d_Te_init_6 rfl (qm_1 (i := 107) rfl rfl) rfl (fun _ _ => rfl) (fun _ => rfl) (by decide) (by decide) (Nat.le_of_ble_eq_true rfl) (Nat.le_of_ble_eq_true rfl) (Nat.le_of_ble_eq_true rfl) (fun q6 => (?_ : WK _ _ _ _ _ _ 8 [(0, .ref h0)] [.ref q6, .ref h0] [(h0, .inr (8, [.null])), (q6, .inl (G.2.2 0, 5, .inl (fun _ => 0)))] 1 5))
  refine k_dup d_Te_init_8 rfl (?_ : WK _ _ _ _ _ _ 9 [(0, .ref h0)] [.ref q6, .ref q6, .ref h0] [(h0, .inr (8, [.null])), (q6, .inl (G.2.2 0, 5, .inl (fun _ => 0)))] 1 5)
  refine k_iconst d_Te_init_9 (by decide) (?_ : WK _ _ _ _ _ _ 10 [(0, .ref h0)] [.int 0, .ref q6, .ref q6, .ref h0] [(h0, .inr (8, [.null])), (q6, .inl (G.2.2 0, 5, .inl (fun _ => 0)))] 1 5)
  refine k_ldc d_Te_init_10 (qm_1 (i := 144) rfl rfl) (?_ : WK _ _ _ _ _ _ 12 [(0, .ref h0)] [.int 50000, .int 0, .ref q6, .ref q6, .ref h0] [(h0, .inr (8, [.null])), (q6, .inl (G.2.2 0, 5, .inl (fun _ => 0)))] 1 5)
  refine k_iast 1 d_Te_init_12 rfl rfl (by unfold vp_in; decide) (by rfl) (?_ : WK _ _ _ _ _ _ 13 [(0, .ref h0)] [.ref q6, .ref h0] [(h0, .inr (8, [.null])), (q6, .inl (G.2.2 0, 5, .inl (upd (fun _ => 0) 0 50000)))] 1 5)
  refine k_dup d_Te_init_13 rfl (?_ : WK _ _ _ _ _ _ 14 [(0, .ref h0)] [.ref q6, .ref q6, .ref h0] [(h0, .inr (8, [.null])), (q6, .inl (G.2.2 0, 5, .inl (upd (fun _ => 0) 0 50000)))] 1 5)
  refine k_iconst d_Te_init_14 (by decide) (?_ : WK _ _ _ _ _ _ 15 [(0, .ref h0)] [.int 1, .ref q6, .ref q6, .ref h0] [(h0, .inr (8, [.null])), (q6, .inl (G.2.2 0, 5, .inl (upd (fun _ => 0) 0 50000)))] 1 5)
  refine k_bipush d_Te_init_15 (by decide) (?_ : WK _ _ _ _ _ _ 17 [(0, .ref h0)] [.int 50, .int 1, .ref q6, .ref q6, .ref h0] [(h0, .inr (8, [.null])), (q6, .inl (G.2.2 0, 5, .inl (upd (fun _ => 0) 0 50000)))] 1 5)
  refine k_iast 1 d_Te_init_17 rfl rfl (by unfold vp_in; decide) (by rfl) (?_ : WK _ _ _ _ _ _ 18 [(0, .ref h0)] [.ref q6, .ref h0] [(h0, .inr (8, [.null])), (q6, .inl (G.2.2 0, 5, .inl (upd (upd (fun _ => 0) 0 50000) 1 50)))] 1 5)
  refine k_dup d_Te_init_18 rfl (?_ : WK _ _ _ _ _ _ 19 [(0, .ref h0)] [.ref q6, .ref q6, .ref h0] [(h0, .inr (8, [.null])), (q6, .inl (G.2.2 0, 5, .inl (upd (upd (fun _ => 0) 0 50000) 1 50)))] 1 5)
  refine k_iconst d_Te_init_19 (by decide) (?_ : WK _ _ _ _ _ _ 20 [(0, .ref h0)] [.int 2, .ref q6, .ref q6, .ref h0] [(h0, .inr (8, [.null])), (q6, .inl (G.2.2 0, 5, .inl (upd (upd (fun _ => 0) 0 50000) 1 50)))] 1 5)
  refine k_iconst d_Te_init_20 (by decide) (?_ : WK _ _ _ _ _ _ 21 [(0, .ref h0)] [.int 0, .int 2, .ref q6, .ref q6, .ref h0] [(h0, .inr (8, [.null])), (q6, .inl (G.2.2 0, 5, .inl (upd (upd (fun _ => 0) 0 50000) 1 50)))] 1 5)
  refine k_iast 1 d_Te_init_21 rfl rfl (by unfold vp_in; decide) (by rfl) (?_ : WK _ _ _ _ _ _ 22 [(0, .ref h0)] [.ref q6, .ref h0] [(h0, .inr (8, [.null])), (q6, .inl (G.2.2 0, 5, .inl (upd (upd (upd (fun _ => 0) 0 50000) 1 50) 2 0)))] 1 5)
  refine k_dup d_Te_init_22 rfl (?_ : WK _ _ _ _ _ _ 23 [(0, .ref h0)] [.ref q6, .ref q6, .ref h0] [(h0, .inr (8, [.null])), (q6, .inl (G.2.2 0, 5, .inl (upd (upd (upd (fun _ => 0) 0 50000) 1 50) 2 0)))] 1 5)
  refine k_iconst d_Te_init_23 (by decide) (?_ : WK _ _ _ _ _ _ 24 [(0, .ref h0)] [.int 3, .ref q6, .ref q6, .ref h0] [(h0, .inr (8, [.null])), (q6, .inl (G.2.2 0, 5, .inl (upd (upd (upd (fun _ => 0) 0 50000) 1 50) 2 0)))] 1 5)
  refine k_iconst d_Te_init_24 (by decide) (?_ : WK _ _ _ _ _ _ 25 [(0, .ref h0)] [.int 0, .int 3, .ref q6, .ref q6, .ref h0] [(h0, .inr (8, [.null])), (q6, .inl (G.2.2 0, 5, .inl (upd (upd (upd (fun _ => 0) 0 50000) 1 50) 2 0)))] 1 5)
  refine k_iast 1 d_Te_init_25 rfl rfl (by unfold vp_in; decide) (by rfl) (?_ : WK _ _ _ _ _ _ 26 [(0, .ref h0)] [.ref q6, .ref h0] [(h0, .inr (8, [.null])), (q6, .inl (G.2.2 0, 5, .inl (upd (upd (upd (upd (fun _ => 0) 0 50000) 1 50) 2 0) 3 0)))] 1 5)
  refine k_dup d_Te_init_26 rfl (?_ : WK _ _ _ _ _ _ 27 [(0, .ref h0)] [.ref q6, .ref q6, .ref h0] [(h0, .inr (8, [.null])), (q6, .inl (G.2.2 0, 5, .inl (upd (upd (upd (upd (fun _ => 0) 0 50000) 1 50) 2 0) 3 0)))] 1 5)
  refine k_iconst d_Te_init_27 (by decide) (?_ : WK _ _ _ _ _ _ 28 [(0, .ref h0)] [.int 4, .ref q6, .ref q6, .ref h0] [(h0, .inr (8, [.null])), (q6, .inl (G.2.2 0, 5, .inl (upd (upd (upd (upd (fun _ => 0) 0 50000) 1 50) 2 0) 3 0)))] 1 5)
  refine k_bipush d_Te_init_28 (by decide) (?_ : WK _ _ _ _ _ _ 30 [(0, .ref h0)] [.int 7, .int 4, .ref q6, .ref q6, .ref h0] [(h0, .inr (8, [.null])), (q6, .inl (G.2.2 0, 5, .inl (upd (upd (upd (upd (fun _ => 0) 0 50000) 1 50) 2 0) 3 0)))] 1 5)
  refine k_iast 1 d_Te_init_30 rfl rfl (by unfold vp_in; decide) (by rfl) (?_ : WK _ _ _ _ _ _ 31 [(0, .ref h0)] [.ref q6, .ref h0] [(h0, .inr (8, [.null])), (q6, .inl (G.2.2 0, 5, .inl (upd (upd (upd (upd (upd (fun _ => 0) 0 50000) 1 50) 2 0) 3 0) 4 7)))] 1 5)
  refine k_putF (ty := .array .int) 0 0 d_Te_init_31 rfl clk_8 (by decide) (qm_1 (i := 145) rfl rfl) tyX8_ok nmX8 rfl rfl rfl (by decide +kernel) rfl rfl (Nat.le_of_ble_eq_true rfl) rfl (?_ : WK _ _ _ _ _ _ 34 [(0, .ref h0)] [] [(h0, .inr (8, [.ref q6])), (q6, .inl (G.2.2 0, 5, .inl (upd (upd (upd (upd (upd (fun _ => 0) 0 50000) 1 50) 2 0) 3 0) 4 7)))] 1 5)
  exact k_ret (fun k => match k with | 0 => q6 | _ => 0) d_Te_init_34 rfl rfl rfl rfl
abbrev w1_La (G : Gq) (h0 a1 : Nat) (f : Nat → Nat) : va_W := [(h0, .inr (2, [.int 0, .int 0, .int 0, .ref a1, .ref (f 0), .ref (f 1)])), (f 0, .inl (G.2.2 0, 48, .inl (fun _ => 0))), (f 1, .inl (G.2.2 0, 48, .inl (fun _ => 0)))]
set_option maxRecDepth 20000 in
set_option maxHeartbeats 4000000 in
theorem kc_La (G : Gq) (h0 a1 : Nat) (z : Nat) : KC M_La_init G (1, 2, 96, 12) [.ref h0, .ref a1] [(h0, .inr (2, [.int 0, .int 0, .int 0, .null, .null, .null]))] (w1_La G h0 a1) z := by
  refine KC.of ok_M_La_init (ls := [(0, .ref h0), (1, .ref a1)]) rfl (Nat.le_of_ble_eq_true rfl) (?_ : WK _ _ _ _ _ _ 0 [(0, .ref h0), (1, .ref a1)] [] [(h0, .inr (2, [.int 0, .int 0, .int 0, .null, .null, .null]))] 0 0)
  refine k_aloadn 0 d_La_init_0 rfl (?_ : WK _ _ _ _ _ _ 1 [(0, .ref h0), (1, .ref a1)] [.ref h0] [(h0, .inr (2, [.int 0, .int 0, .int 0, .null, .null, .null]))] 0 0)
  refine k_obj d_La_init_1 (qm_1 (i := 154) rfl rfl) (qm_1 (i := 58) rfl rfl) (qm_1 (i := 59) rfl rfl) (by decide) (?_ : WK _ _ _ _ _ _ 4 [(0, .ref h0), (1, .ref a1)] [] [(h0, .inr (2, [.int 0, .int 0, .int 0, .null, .null, .null]))] 0 0)
  refine k_aloadn 0 d_La_init_4 rfl (?_ : WK _ _ _ _ _ _ 5 [(0, .ref h0), (1, .ref a1)] [.ref h0] [(h0, .inr (2, [.int 0, .int 0, .int 0, .null, .null, .null]))] 0 0)
  refine k_bipush d_La_init_5 (by decide) (?_ : WK _ _ _ _ _ _ 7 [(0, .ref h0), (1, .ref a1)] [.int 48, .ref h0] [(h0, .inr (2, [.int 0, .int 0, .int 0, .null, .null, .null]))] 0 0)
  refine k_newa (N := 48) (ty := .int) (cA := G.2.2 0) 0 d_La_init_7 rfl (qm_1 (i := 107) rfl rfl) rfl (fun _ _ => rfl) (fun _ => rfl) (by decide) (by decide) (Nat.le_of_ble_eq_true rfl) (Nat.le_of_ble_eq_true rfl) (Nat.le_of_ble_eq_true rfl) (fun q7 => (?_ : WK _ _ _ _ _ _ 9 [(0, .ref h0), (1, .ref a1)] [.ref q7, .ref h0] [(h0, .inr (2, [.int 0, .int 0, .int 0, .null, .null, .null])), (q7, .inl (G.2.2 0, 48, .inl (fun _ => 0)))] 1 48))
  refine k_putF (ty := .array .int) 0 4 d_La_init_9 rfl clk_2 (by decide) (qm_1 (i := 165) rfl rfl) tyX2_ok nmX2 rfl rfl rfl (by decide +kernel) rfl rfl (Nat.le_of_ble_eq_true rfl) rfl (?_ : WK _ _ _ _ _ _ 12 [(0, .ref h0), (1, .ref a1)] [] [(h0, .inr (2, [.int 0, .int 0, .int 0, .null, .ref q7, .null])), (q7, .inl (G.2.2 0, 48, .inl (fun _ => 0)))] 1 48)
  refine k_aloadn 0 d_La_init_12 rfl (?_ : WK _ _ _ _ _ _ 13 [(0, .ref h0), (1, .ref a1)] [.ref h0] [(h0, .inr (2, [.int 0, .int 0, .int 0, .null, .ref q7, .null])), (q7, .inl (G.2.2 0, 48, .inl (fun _ => 0)))] 1 48)
  refine k_bipush d_La_init_13 (by decide) (?_ : WK _ _ _ _ _ _ 15 [(0, .ref h0), (1, .ref a1)] [.int 48, .ref h0] [(h0, .inr (2, [.int 0, .int 0, .int 0, .null, .ref q7, .null])), (q7, .inl (G.2.2 0, 48, .inl (fun _ => 0)))] 1 48)
  refine k_newa (N := 48) (ty := .int) (cA := G.2.2 0) 0 d_La_init_15 rfl (qm_1 (i := 107) rfl rfl) rfl (fun _ _ => rfl) (fun _ => rfl) (by decide) (by decide) (Nat.le_of_ble_eq_true rfl) (Nat.le_of_ble_eq_true rfl) (Nat.le_of_ble_eq_true rfl) (fun q15 => (?_ : WK _ _ _ _ _ _ 17 [(0, .ref h0), (1, .ref a1)] [.ref q15, .ref h0] [(h0, .inr (2, [.int 0, .int 0, .int 0, .null, .ref q7, .null])), (q7, .inl (G.2.2 0, 48, .inl (fun _ => 0))), (q15, .inl (G.2.2 0, 48, .inl (fun _ => 0)))] 2 96))
  refine k_putF (ty := .array .int) 0 5 d_La_init_17 rfl clk_2 (by decide) (qm_1 (i := 166) rfl rfl) tyX2_ok nmX2 rfl rfl rfl (by decide +kernel) rfl rfl (Nat.le_of_ble_eq_true rfl) rfl (?_ : WK _ _ _ _ _ _ 20 [(0, .ref h0), (1, .ref a1)] [] [(h0, .inr (2, [.int 0, .int 0, .int 0, .null, .ref q7, .ref q15])), (q7, .inl (G.2.2 0, 48, .inl (fun _ => 0))), (q15, .inl (G.2.2 0, 48, .inl (fun _ => 0)))] 2 96)
  refine k_aloadn 0 d_La_init_20 rfl (?_ : WK _ _ _ _ _ _ 21 [(0, .ref h0), (1, .ref a1)] [.ref h0] [(h0, .inr (2, [.int 0, .int 0, .int 0, .null, .ref q7, .ref q15])), (q7, .inl (G.2.2 0, 48, .inl (fun _ => 0))), (q15, .inl (G.2.2 0, 48, .inl (fun _ => 0)))] 2 96)
  refine k_aloadn 1 d_La_init_21 rfl (?_ : WK _ _ _ _ _ _ 22 [(0, .ref h0), (1, .ref a1)] [.ref a1, .ref h0] [(h0, .inr (2, [.int 0, .int 0, .int 0, .null, .ref q7, .ref q15])), (q7, .inl (G.2.2 0, 48, .inl (fun _ => 0))), (q15, .inl (G.2.2 0, 48, .inl (fun _ => 0)))] 2 96)
  refine k_putF (ty := .object "CoinSampler$Ledger") 0 3 d_La_init_22 rfl clk_2 (by decide) (qm_1 (i := 164) rfl rfl) tyX2_ok nmX2 rfl rfl rfl (by decide +kernel) rfl rfl (Nat.le_of_ble_eq_true rfl) rfl (?_ : WK _ _ _ _ _ _ 25 [(0, .ref h0), (1, .ref a1)] [] [(h0, .inr (2, [.int 0, .int 0, .int 0, .ref a1, .ref q7, .ref q15])), (q7, .inl (G.2.2 0, 48, .inl (fun _ => 0))), (q15, .inl (G.2.2 0, 48, .inl (fun _ => 0)))] 2 96)
  exact k_ret (fun k => match k with | 0 => q7 | 1 => q15 | _ => 0) d_La_init_25 rfl rfl rfl rfl
abbrev w1_Wa (G : Gq) (h0 a1 : Nat) (f : Nat → Nat) : va_W := [(h0, .inr (9, [.int 0, .int 0, .ref (f 0), .ref (f 1), .ref (f 2), .ref (f 3), .ref (f 4), .ref a1])), (f 0, .inl (G.2.2 0, 5, .inl (fun _ => 0))), (f 1, .inl (G.2.2 0, 240, .inl (fun _ => 0))), (f 2, .inl (G.2.2 0, 240, .inl (fun _ => 0))), (f 3, .inl (G.2.2 0, 240, .inl (fun _ => 0))), (f 4, .inl (G.2.2 0, 5, .inl (fun _ => 0)))]
set_option maxRecDepth 20000 in
set_option maxHeartbeats 4000000 in
theorem kc_Wa (G : Gq) (h0 a1 : Nat) (z : Nat) : KC M_Wa_init G (1, 5, 730, 12) [.ref h0, .ref a1] [(h0, .inr (9, [.int 0, .int 0, .null, .null, .null, .null, .null, .null]))] (w1_Wa G h0 a1) z := by
  refine KC.of ok_M_Wa_init (ls := [(0, .ref h0), (1, .ref a1)]) rfl (Nat.le_of_ble_eq_true rfl) (?_ : WK _ _ _ _ _ _ 0 [(0, .ref h0), (1, .ref a1)] [] [(h0, .inr (9, [.int 0, .int 0, .null, .null, .null, .null, .null, .null]))] 0 0)
  refine k_aloadn 0 d_Wa_init_0 rfl (?_ : WK _ _ _ _ _ _ 1 [(0, .ref h0), (1, .ref a1)] [.ref h0] [(h0, .inr (9, [.int 0, .int 0, .null, .null, .null, .null, .null, .null]))] 0 0)
  refine k_obj d_Wa_init_1 (qm_1 (i := 185) rfl rfl) (qm_1 (i := 58) rfl rfl) (qm_1 (i := 59) rfl rfl) (by decide) (?_ : WK _ _ _ _ _ _ 4 [(0, .ref h0), (1, .ref a1)] [] [(h0, .inr (9, [.int 0, .int 0, .null, .null, .null, .null, .null, .null]))] 0 0)
  refine k_aloadn 0 d_Wa_init_4 rfl (?_ : WK _ _ _ _ _ _ 5 [(0, .ref h0), (1, .ref a1)] [.ref h0] [(h0, .inr (9, [.int 0, .int 0, .null, .null, .null, .null, .null, .null]))] 0 0)
  refine k_iconst d_Wa_init_5 (by decide) (?_ : WK _ _ _ _ _ _ 6 [(0, .ref h0), (1, .ref a1)] [.int 5, .ref h0] [(h0, .inr (9, [.int 0, .int 0, .null, .null, .null, .null, .null, .null]))] 0 0)
  refine k_newa (N := 5) (ty := .int) (cA := G.2.2 0) 0 d_Wa_init_6 rfl (qm_1 (i := 107) rfl rfl) rfl (fun _ _ => rfl) (fun _ => rfl) (by decide) (by decide) (Nat.le_of_ble_eq_true rfl) (Nat.le_of_ble_eq_true rfl) (Nat.le_of_ble_eq_true rfl) (fun q6 => (?_ : WK _ _ _ _ _ _ 8 [(0, .ref h0), (1, .ref a1)] [.ref q6, .ref h0] [(h0, .inr (9, [.int 0, .int 0, .null, .null, .null, .null, .null, .null])), (q6, .inl (G.2.2 0, 5, .inl (fun _ => 0)))] 1 5))
  refine k_putF (ty := .array .int) 0 2 d_Wa_init_8 rfl clk_9 (by decide) (qm_1 (i := 191) rfl rfl) tyX9_ok nmX9 rfl rfl rfl (by decide +kernel) rfl rfl (Nat.le_of_ble_eq_true rfl) rfl (?_ : WK _ _ _ _ _ _ 11 [(0, .ref h0), (1, .ref a1)] [] [(h0, .inr (9, [.int 0, .int 0, .ref q6, .null, .null, .null, .null, .null])), (q6, .inl (G.2.2 0, 5, .inl (fun _ => 0)))] 1 5)
  refine k_aloadn 0 d_Wa_init_11 rfl (?_ : WK _ _ _ _ _ _ 12 [(0, .ref h0), (1, .ref a1)] [.ref h0] [(h0, .inr (9, [.int 0, .int 0, .ref q6, .null, .null, .null, .null, .null])), (q6, .inl (G.2.2 0, 5, .inl (fun _ => 0)))] 1 5)
  refine k_sipush d_Wa_init_12 (by decide) (?_ : WK _ _ _ _ _ _ 15 [(0, .ref h0), (1, .ref a1)] [.int 240, .ref h0] [(h0, .inr (9, [.int 0, .int 0, .ref q6, .null, .null, .null, .null, .null])), (q6, .inl (G.2.2 0, 5, .inl (fun _ => 0)))] 1 5)
  refine k_newa (N := 240) (ty := .int) (cA := G.2.2 0) 0 d_Wa_init_15 rfl (qm_1 (i := 107) rfl rfl) rfl (fun _ _ => rfl) (fun _ => rfl) (by decide) (by decide) (Nat.le_of_ble_eq_true rfl) (Nat.le_of_ble_eq_true rfl) (Nat.le_of_ble_eq_true rfl) (fun q15 => (?_ : WK _ _ _ _ _ _ 17 [(0, .ref h0), (1, .ref a1)] [.ref q15, .ref h0] [(h0, .inr (9, [.int 0, .int 0, .ref q6, .null, .null, .null, .null, .null])), (q6, .inl (G.2.2 0, 5, .inl (fun _ => 0))), (q15, .inl (G.2.2 0, 240, .inl (fun _ => 0)))] 2 245))
  refine k_putF (ty := .array .int) 0 3 d_Wa_init_17 rfl clk_9 (by decide) (qm_1 (i := 193) rfl rfl) tyX9_ok nmX9 rfl rfl rfl (by decide +kernel) rfl rfl (Nat.le_of_ble_eq_true rfl) rfl (?_ : WK _ _ _ _ _ _ 20 [(0, .ref h0), (1, .ref a1)] [] [(h0, .inr (9, [.int 0, .int 0, .ref q6, .ref q15, .null, .null, .null, .null])), (q6, .inl (G.2.2 0, 5, .inl (fun _ => 0))), (q15, .inl (G.2.2 0, 240, .inl (fun _ => 0)))] 2 245)
  refine k_aloadn 0 d_Wa_init_20 rfl (?_ : WK _ _ _ _ _ _ 21 [(0, .ref h0), (1, .ref a1)] [.ref h0] [(h0, .inr (9, [.int 0, .int 0, .ref q6, .ref q15, .null, .null, .null, .null])), (q6, .inl (G.2.2 0, 5, .inl (fun _ => 0))), (q15, .inl (G.2.2 0, 240, .inl (fun _ => 0)))] 2 245)
  refine k_sipush d_Wa_init_21 (by decide) (?_ : WK _ _ _ _ _ _ 24 [(0, .ref h0), (1, .ref a1)] [.int 240, .ref h0] [(h0, .inr (9, [.int 0, .int 0, .ref q6, .ref q15, .null, .null, .null, .null])), (q6, .inl (G.2.2 0, 5, .inl (fun _ => 0))), (q15, .inl (G.2.2 0, 240, .inl (fun _ => 0)))] 2 245)
  refine k_newa (N := 240) (ty := .int) (cA := G.2.2 0) 0 d_Wa_init_24 rfl (qm_1 (i := 107) rfl rfl) rfl (fun _ _ => rfl) (fun _ => rfl) (by decide) (by decide) (Nat.le_of_ble_eq_true rfl) (Nat.le_of_ble_eq_true rfl) (Nat.le_of_ble_eq_true rfl) (fun q24 => (?_ : WK _ _ _ _ _ _ 26 [(0, .ref h0), (1, .ref a1)] [.ref q24, .ref h0] [(h0, .inr (9, [.int 0, .int 0, .ref q6, .ref q15, .null, .null, .null, .null])), (q6, .inl (G.2.2 0, 5, .inl (fun _ => 0))), (q15, .inl (G.2.2 0, 240, .inl (fun _ => 0))), (q24, .inl (G.2.2 0, 240, .inl (fun _ => 0)))] 3 485))
  refine k_putF (ty := .array .int) 0 4 d_Wa_init_26 rfl clk_9 (by decide) (qm_1 (i := 196) rfl rfl) tyX9_ok nmX9 rfl rfl rfl (by decide +kernel) rfl rfl (Nat.le_of_ble_eq_true rfl) rfl (?_ : WK _ _ _ _ _ _ 29 [(0, .ref h0), (1, .ref a1)] [] [(h0, .inr (9, [.int 0, .int 0, .ref q6, .ref q15, .ref q24, .null, .null, .null])), (q6, .inl (G.2.2 0, 5, .inl (fun _ => 0))), (q15, .inl (G.2.2 0, 240, .inl (fun _ => 0))), (q24, .inl (G.2.2 0, 240, .inl (fun _ => 0)))] 3 485)
  refine k_aloadn 0 d_Wa_init_29 rfl (?_ : WK _ _ _ _ _ _ 30 [(0, .ref h0), (1, .ref a1)] [.ref h0] [(h0, .inr (9, [.int 0, .int 0, .ref q6, .ref q15, .ref q24, .null, .null, .null])), (q6, .inl (G.2.2 0, 5, .inl (fun _ => 0))), (q15, .inl (G.2.2 0, 240, .inl (fun _ => 0))), (q24, .inl (G.2.2 0, 240, .inl (fun _ => 0)))] 3 485)
  refine k_sipush d_Wa_init_30 (by decide) (?_ : WK _ _ _ _ _ _ 33 [(0, .ref h0), (1, .ref a1)] [.int 240, .ref h0] [(h0, .inr (9, [.int 0, .int 0, .ref q6, .ref q15, .ref q24, .null, .null, .null])), (q6, .inl (G.2.2 0, 5, .inl (fun _ => 0))), (q15, .inl (G.2.2 0, 240, .inl (fun _ => 0))), (q24, .inl (G.2.2 0, 240, .inl (fun _ => 0)))] 3 485)
  refine k_newa (N := 240) (ty := .int) (cA := G.2.2 0) 0 d_Wa_init_33 rfl (qm_1 (i := 107) rfl rfl) rfl (fun _ _ => rfl) (fun _ => rfl) (by decide) (by decide) (Nat.le_of_ble_eq_true rfl) (Nat.le_of_ble_eq_true rfl) (Nat.le_of_ble_eq_true rfl) (fun q33 => (?_ : WK _ _ _ _ _ _ 35 [(0, .ref h0), (1, .ref a1)] [.ref q33, .ref h0] [(h0, .inr (9, [.int 0, .int 0, .ref q6, .ref q15, .ref q24, .null, .null, .null])), (q6, .inl (G.2.2 0, 5, .inl (fun _ => 0))), (q15, .inl (G.2.2 0, 240, .inl (fun _ => 0))), (q24, .inl (G.2.2 0, 240, .inl (fun _ => 0))), (q33, .inl (G.2.2 0, 240, .inl (fun _ => 0)))] 4 725))
  refine k_putF (ty := .array .int) 0 5 d_Wa_init_35 rfl clk_9 (by decide) (qm_1 (i := 198) rfl rfl) tyX9_ok nmX9 rfl rfl rfl (by decide +kernel) rfl rfl (Nat.le_of_ble_eq_true rfl) rfl (?_ : WK _ _ _ _ _ _ 38 [(0, .ref h0), (1, .ref a1)] [] [(h0, .inr (9, [.int 0, .int 0, .ref q6, .ref q15, .ref q24, .ref q33, .null, .null])), (q6, .inl (G.2.2 0, 5, .inl (fun _ => 0))), (q15, .inl (G.2.2 0, 240, .inl (fun _ => 0))), (q24, .inl (G.2.2 0, 240, .inl (fun _ => 0))), (q33, .inl (G.2.2 0, 240, .inl (fun _ => 0)))] 4 725)
  refine k_aloadn 0 d_Wa_init_38 rfl (?_ : WK _ _ _ _ _ _ 39 [(0, .ref h0), (1, .ref a1)] [.ref h0] [(h0, .inr (9, [.int 0, .int 0, .ref q6, .ref q15, .ref q24, .ref q33, .null, .null])), (q6, .inl (G.2.2 0, 5, .inl (fun _ => 0))), (q15, .inl (G.2.2 0, 240, .inl (fun _ => 0))), (q24, .inl (G.2.2 0, 240, .inl (fun _ => 0))), (q33, .inl (G.2.2 0, 240, .inl (fun _ => 0)))] 4 725)
  refine k_iconst d_Wa_init_39 (by decide) (?_ : WK _ _ _ _ _ _ 40 [(0, .ref h0), (1, .ref a1)] [.int 5, .ref h0] [(h0, .inr (9, [.int 0, .int 0, .ref q6, .ref q15, .ref q24, .ref q33, .null, .null])), (q6, .inl (G.2.2 0, 5, .inl (fun _ => 0))), (q15, .inl (G.2.2 0, 240, .inl (fun _ => 0))), (q24, .inl (G.2.2 0, 240, .inl (fun _ => 0))), (q33, .inl (G.2.2 0, 240, .inl (fun _ => 0)))] 4 725)
  refine k_newa (N := 5) (ty := .int) (cA := G.2.2 0) 0 d_Wa_init_40 rfl (qm_1 (i := 107) rfl rfl) rfl (fun _ _ => rfl) (fun _ => rfl) (by decide) (by decide) (Nat.le_of_ble_eq_true rfl) (Nat.le_of_ble_eq_true rfl) (Nat.le_of_ble_eq_true rfl) (fun q40 => (?_ : WK _ _ _ _ _ _ 42 [(0, .ref h0), (1, .ref a1)] [.ref q40, .ref h0] [(h0, .inr (9, [.int 0, .int 0, .ref q6, .ref q15, .ref q24, .ref q33, .null, .null])), (q6, .inl (G.2.2 0, 5, .inl (fun _ => 0))), (q15, .inl (G.2.2 0, 240, .inl (fun _ => 0))), (q24, .inl (G.2.2 0, 240, .inl (fun _ => 0))), (q33, .inl (G.2.2 0, 240, .inl (fun _ => 0))), (q40, .inl (G.2.2 0, 5, .inl (fun _ => 0)))] 5 730))
  refine k_putF (ty := .array .int) 0 6 d_Wa_init_42 rfl clk_9 (by decide) (qm_1 (i := 200) rfl rfl) tyX9_ok nmX9 rfl rfl rfl (by decide +kernel) rfl rfl (Nat.le_of_ble_eq_true rfl) rfl (?_ : WK _ _ _ _ _ _ 45 [(0, .ref h0), (1, .ref a1)] [] [(h0, .inr (9, [.int 0, .int 0, .ref q6, .ref q15, .ref q24, .ref q33, .ref q40, .null])), (q6, .inl (G.2.2 0, 5, .inl (fun _ => 0))), (q15, .inl (G.2.2 0, 240, .inl (fun _ => 0))), (q24, .inl (G.2.2 0, 240, .inl (fun _ => 0))), (q33, .inl (G.2.2 0, 240, .inl (fun _ => 0))), (q40, .inl (G.2.2 0, 5, .inl (fun _ => 0)))] 5 730)
  refine k_aloadn 0 d_Wa_init_45 rfl (?_ : WK _ _ _ _ _ _ 46 [(0, .ref h0), (1, .ref a1)] [.ref h0] [(h0, .inr (9, [.int 0, .int 0, .ref q6, .ref q15, .ref q24, .ref q33, .ref q40, .null])), (q6, .inl (G.2.2 0, 5, .inl (fun _ => 0))), (q15, .inl (G.2.2 0, 240, .inl (fun _ => 0))), (q24, .inl (G.2.2 0, 240, .inl (fun _ => 0))), (q33, .inl (G.2.2 0, 240, .inl (fun _ => 0))), (q40, .inl (G.2.2 0, 5, .inl (fun _ => 0)))] 5 730)
  refine k_aloadn 1 d_Wa_init_46 rfl (?_ : WK _ _ _ _ _ _ 47 [(0, .ref h0), (1, .ref a1)] [.ref a1, .ref h0] [(h0, .inr (9, [.int 0, .int 0, .ref q6, .ref q15, .ref q24, .ref q33, .ref q40, .null])), (q6, .inl (G.2.2 0, 5, .inl (fun _ => 0))), (q15, .inl (G.2.2 0, 240, .inl (fun _ => 0))), (q24, .inl (G.2.2 0, 240, .inl (fun _ => 0))), (q33, .inl (G.2.2 0, 240, .inl (fun _ => 0))), (q40, .inl (G.2.2 0, 5, .inl (fun _ => 0)))] 5 730)
  refine k_putF (ty := .object "CoinSampler$Layout") 0 7 d_Wa_init_47 rfl clk_9 (by decide) (qm_1 (i := 201) rfl rfl) tyX9_ok nmX9 rfl rfl rfl (by decide +kernel) rfl rfl (Nat.le_of_ble_eq_true rfl) rfl (?_ : WK _ _ _ _ _ _ 50 [(0, .ref h0), (1, .ref a1)] [] [(h0, .inr (9, [.int 0, .int 0, .ref q6, .ref q15, .ref q24, .ref q33, .ref q40, .ref a1])), (q6, .inl (G.2.2 0, 5, .inl (fun _ => 0))), (q15, .inl (G.2.2 0, 240, .inl (fun _ => 0))), (q24, .inl (G.2.2 0, 240, .inl (fun _ => 0))), (q33, .inl (G.2.2 0, 240, .inl (fun _ => 0))), (q40, .inl (G.2.2 0, 5, .inl (fun _ => 0)))] 5 730)
  exact k_ret (fun k => match k with | 0 => q6 | 1 => q15 | 2 => q24 | 3 => q33 | 4 => q40 | _ => 0) d_Wa_init_50 rfl rfl rfl rfl
abbrev w1_Fa (G : Gq) (h0 : Nat) (f : Nat → Nat) : va_W := [(h0, .inr (1, [.ref (f 0), .int (-1), .int (-1)])), (f 0, .inl (G.2.2 0, 401, .inl (fun _ => 0)))]
set_option maxRecDepth 20000 in
set_option maxHeartbeats 4000000 in
theorem kc_Fa (G : Gq) (h0 : Nat) (z : Nat) : KC M_Fa_init G (1, 1, 401, 12) [.ref h0] [(h0, .inr (1, [.null, .int 0, .int 0]))] (w1_Fa G h0) z := by
  refine KC.of ok_M_Fa_init (ls := [(0, .ref h0)]) rfl (Nat.le_of_ble_eq_true rfl) (?_ : WK _ _ _ _ _ _ 0 [(0, .ref h0)] [] [(h0, .inr (1, [.null, .int 0, .int 0]))] 0 0)
  refine k_aloadn 0 d_Fa_init_0 rfl (?_ : WK _ _ _ _ _ _ 1 [(0, .ref h0)] [.ref h0] [(h0, .inr (1, [.null, .int 0, .int 0]))] 0 0)
  refine k_obj d_Fa_init_1 (qm_1 (i := 224) rfl rfl) (qm_1 (i := 58) rfl rfl) (qm_1 (i := 59) rfl rfl) (by decide) (?_ : WK _ _ _ _ _ _ 4 [(0, .ref h0)] [] [(h0, .inr (1, [.null, .int 0, .int 0]))] 0 0)
  refine k_aloadn 0 d_Fa_init_4 rfl (?_ : WK _ _ _ _ _ _ 5 [(0, .ref h0)] [.ref h0] [(h0, .inr (1, [.null, .int 0, .int 0]))] 0 0)
  refine k_sipush d_Fa_init_5 (by decide) (?_ : WK _ _ _ _ _ _ 8 [(0, .ref h0)] [.int 401, .ref h0] [(h0, .inr (1, [.null, .int 0, .int 0]))] 0 0)
  refine k_newa (N := 401) (ty := .int) (cA := G.2.2 0) 0 d_Fa_init_8 rfl (qm_1 (i := 107) rfl rfl) rfl (fun _ _ => rfl) (fun _ => rfl) (by decide) (by decide) (Nat.le_of_ble_eq_true rfl) (Nat.le_of_ble_eq_true rfl) (Nat.le_of_ble_eq_true rfl) (fun q8 => (?_ : WK _ _ _ _ _ _ 10 [(0, .ref h0)] [.ref q8, .ref h0] [(h0, .inr (1, [.null, .int 0, .int 0])), (q8, .inl (G.2.2 0, 401, .inl (fun _ => 0)))] 1 401))
  refine k_putF (ty := .array .int) 0 0 d_Fa_init_10 rfl clk_1 (by decide) (qm_1 (i := 225) rfl rfl) tyX1_ok nmX1 rfl rfl rfl (by decide +kernel) rfl rfl (Nat.le_of_ble_eq_true rfl) rfl (?_ : WK _ _ _ _ _ _ 13 [(0, .ref h0)] [] [(h0, .inr (1, [.ref q8, .int 0, .int 0])), (q8, .inl (G.2.2 0, 401, .inl (fun _ => 0)))] 1 401)
  refine k_aloadn 0 d_Fa_init_13 rfl (?_ : WK _ _ _ _ _ _ 14 [(0, .ref h0)] [.ref h0] [(h0, .inr (1, [.ref q8, .int 0, .int 0])), (q8, .inl (G.2.2 0, 401, .inl (fun _ => 0)))] 1 401)
  refine k_iconst d_Fa_init_14 (by decide) (?_ : WK _ _ _ _ _ _ 15 [(0, .ref h0)] [.int (-1), .ref h0] [(h0, .inr (1, [.ref q8, .int 0, .int 0])), (q8, .inl (G.2.2 0, 401, .inl (fun _ => 0)))] 1 401)
  refine k_put (ty := .int) 0 1 d_Fa_init_15 rfl clk_1 (by decide) (qm_1 (i := 226) rfl rfl) tyX1_ok nmX1 rfl (by decide +kernel) rfl rfl (Nat.le_of_ble_eq_true rfl) rfl (?_ : WK _ _ _ _ _ _ 18 [(0, .ref h0)] [] [(h0, .inr (1, [.ref q8, .int (-1), .int 0])), (q8, .inl (G.2.2 0, 401, .inl (fun _ => 0)))] 1 401)
  refine k_aloadn 0 d_Fa_init_18 rfl (?_ : WK _ _ _ _ _ _ 19 [(0, .ref h0)] [.ref h0] [(h0, .inr (1, [.ref q8, .int (-1), .int 0])), (q8, .inl (G.2.2 0, 401, .inl (fun _ => 0)))] 1 401)
  refine k_iconst d_Fa_init_19 (by decide) (?_ : WK _ _ _ _ _ _ 20 [(0, .ref h0)] [.int (-1), .ref h0] [(h0, .inr (1, [.ref q8, .int (-1), .int 0])), (q8, .inl (G.2.2 0, 401, .inl (fun _ => 0)))] 1 401)
  refine k_put (ty := .int) 0 2 d_Fa_init_20 rfl clk_1 (by decide) (qm_1 (i := 227) rfl rfl) tyX1_ok nmX1 rfl (by decide +kernel) rfl rfl (Nat.le_of_ble_eq_true rfl) rfl (?_ : WK _ _ _ _ _ _ 23 [(0, .ref h0)] [] [(h0, .inr (1, [.ref q8, .int (-1), .int (-1)])), (q8, .inl (G.2.2 0, 401, .inl (fun _ => 0)))] 1 401)
  exact k_ret (fun k => match k with | 0 => q8 | _ => 0) d_Fa_init_23 rfl rfl rfl rfl
abbrev w1_Es (G : Gq) (h0 a1 a2 a3 a4 a5 : Nat) (f : Nat → Nat) : va_W := [(h0, .inr (0, [.ref (f 0), .ref (f 1), .int 0, .int 0, .int 0, .int 0, .int 0, .ref a1, .ref a2, .ref a3, .ref a4, .ref a5])), (f 0, .inl (G.2.2 0, 240, .inl (fun _ => 0))), (f 1, .inl (G.2.2 0, 240, .inl (fun _ => 0)))]
set_option maxRecDepth 20000 in
set_option maxHeartbeats 4000000 in
theorem kc_Es (G : Gq) (h0 a1 a2 a3 a4 a5 : Nat) (z : Nat) : KC M_Es_init G (1, 2, 480, 12) [.ref h0, .ref a1, .ref a2, .ref a3, .ref a4, .ref a5] [(h0, .inr (0, [.null, .null, .int 0, .int 0, .int 0, .int 0, .int 0, .null, .null, .null, .null, .null]))] (w1_Es G h0 a1 a2 a3 a4 a5) z := by
  refine KC.of ok_M_Es_init (ls := [(0, .ref h0), (1, .ref a1), (2, .ref a2), (3, .ref a3), (4, .ref a4), (5, .ref a5)]) rfl (Nat.le_of_ble_eq_true rfl) (?_ : WK _ _ _ _ _ _ 0 [(0, .ref h0), (1, .ref a1), (2, .ref a2), (3, .ref a3), (4, .ref a4), (5, .ref a5)] [] [(h0, .inr (0, [.null, .null, .int 0, .int 0, .int 0, .int 0, .int 0, .null, .null, .null, .null, .null]))] 0 0)
  refine k_aloadn 0 d_Es_init_0 rfl (?_ : WK _ _ _ _ _ _ 1 [(0, .ref h0), (1, .ref a1), (2, .ref a2), (3, .ref a3), (4, .ref a4), (5, .ref a5)] [.ref h0] [(h0, .inr (0, [.null, .null, .int 0, .int 0, .int 0, .int 0, .int 0, .null, .null, .null, .null, .null]))] 0 0)
  refine k_obj d_Es_init_1 (qm_2 (i := 0) rfl rfl) (qm_1 (i := 58) rfl rfl) (qm_1 (i := 59) rfl rfl) (by decide) (?_ : WK _ _ _ _ _ _ 4 [(0, .ref h0), (1, .ref a1), (2, .ref a2), (3, .ref a3), (4, .ref a4), (5, .ref a5)] [] [(h0, .inr (0, [.null, .null, .int 0, .int 0, .int 0, .int 0, .int 0, .null, .null, .null, .null, .null]))] 0 0)
  refine k_aloadn 0 d_Es_init_4 rfl (?_ : WK _ _ _ _ _ _ 5 [(0, .ref h0), (1, .ref a1), (2, .ref a2), (3, .ref a3), (4, .ref a4), (5, .ref a5)] [.ref h0] [(h0, .inr (0, [.null, .null, .int 0, .int 0, .int 0, .int 0, .int 0, .null, .null, .null, .null, .null]))] 0 0)
  refine k_sipush d_Es_init_5 (by decide) (?_ : WK _ _ _ _ _ _ 8 [(0, .ref h0), (1, .ref a1), (2, .ref a2), (3, .ref a3), (4, .ref a4), (5, .ref a5)] [.int 240, .ref h0] [(h0, .inr (0, [.null, .null, .int 0, .int 0, .int 0, .int 0, .int 0, .null, .null, .null, .null, .null]))] 0 0)
  refine k_newa (N := 240) (ty := .int) (cA := G.2.2 0) 0 d_Es_init_8 rfl (qm_1 (i := 107) rfl rfl) rfl (fun _ _ => rfl) (fun _ => rfl) (by decide) (by decide) (Nat.le_of_ble_eq_true rfl) (Nat.le_of_ble_eq_true rfl) (Nat.le_of_ble_eq_true rfl) (fun q8 => (?_ : WK _ _ _ _ _ _ 10 [(0, .ref h0), (1, .ref a1), (2, .ref a2), (3, .ref a3), (4, .ref a4), (5, .ref a5)] [.ref q8, .ref h0] [(h0, .inr (0, [.null, .null, .int 0, .int 0, .int 0, .int 0, .int 0, .null, .null, .null, .null, .null])), (q8, .inl (G.2.2 0, 240, .inl (fun _ => 0)))] 1 240))
  refine k_putF (ty := .array .int) 0 0 d_Es_init_10 rfl clk_0 (by decide) (qm_2 (i := 1) rfl rfl) tyX0_ok nmX0 rfl rfl rfl (by decide +kernel) rfl rfl (Nat.le_of_ble_eq_true rfl) rfl (?_ : WK _ _ _ _ _ _ 13 [(0, .ref h0), (1, .ref a1), (2, .ref a2), (3, .ref a3), (4, .ref a4), (5, .ref a5)] [] [(h0, .inr (0, [.ref q8, .null, .int 0, .int 0, .int 0, .int 0, .int 0, .null, .null, .null, .null, .null])), (q8, .inl (G.2.2 0, 240, .inl (fun _ => 0)))] 1 240)
  refine k_aloadn 0 d_Es_init_13 rfl (?_ : WK _ _ _ _ _ _ 14 [(0, .ref h0), (1, .ref a1), (2, .ref a2), (3, .ref a3), (4, .ref a4), (5, .ref a5)] [.ref h0] [(h0, .inr (0, [.ref q8, .null, .int 0, .int 0, .int 0, .int 0, .int 0, .null, .null, .null, .null, .null])), (q8, .inl (G.2.2 0, 240, .inl (fun _ => 0)))] 1 240)
  refine k_sipush d_Es_init_14 (by decide) (?_ : WK _ _ _ _ _ _ 17 [(0, .ref h0), (1, .ref a1), (2, .ref a2), (3, .ref a3), (4, .ref a4), (5, .ref a5)] [.int 240, .ref h0] [(h0, .inr (0, [.ref q8, .null, .int 0, .int 0, .int 0, .int 0, .int 0, .null, .null, .null, .null, .null])), (q8, .inl (G.2.2 0, 240, .inl (fun _ => 0)))] 1 240)
  refine k_newa (N := 240) (ty := .int) (cA := G.2.2 0) 0 d_Es_init_17 rfl (qm_1 (i := 107) rfl rfl) rfl (fun _ _ => rfl) (fun _ => rfl) (by decide) (by decide) (Nat.le_of_ble_eq_true rfl) (Nat.le_of_ble_eq_true rfl) (Nat.le_of_ble_eq_true rfl) (fun q17 => (?_ : WK _ _ _ _ _ _ 19 [(0, .ref h0), (1, .ref a1), (2, .ref a2), (3, .ref a3), (4, .ref a4), (5, .ref a5)] [.ref q17, .ref h0] [(h0, .inr (0, [.ref q8, .null, .int 0, .int 0, .int 0, .int 0, .int 0, .null, .null, .null, .null, .null])), (q8, .inl (G.2.2 0, 240, .inl (fun _ => 0))), (q17, .inl (G.2.2 0, 240, .inl (fun _ => 0)))] 2 480))
  refine k_putF (ty := .array .int) 0 1 d_Es_init_19 rfl clk_0 (by decide) (qm_2 (i := 3) rfl rfl) tyX0_ok nmX0 rfl rfl rfl (by decide +kernel) rfl rfl (Nat.le_of_ble_eq_true rfl) rfl (?_ : WK _ _ _ _ _ _ 22 [(0, .ref h0), (1, .ref a1), (2, .ref a2), (3, .ref a3), (4, .ref a4), (5, .ref a5)] [] [(h0, .inr (0, [.ref q8, .ref q17, .int 0, .int 0, .int 0, .int 0, .int 0, .null, .null, .null, .null, .null])), (q8, .inl (G.2.2 0, 240, .inl (fun _ => 0))), (q17, .inl (G.2.2 0, 240, .inl (fun _ => 0)))] 2 480)
  refine k_aloadn 0 d_Es_init_22 rfl (?_ : WK _ _ _ _ _ _ 23 [(0, .ref h0), (1, .ref a1), (2, .ref a2), (3, .ref a3), (4, .ref a4), (5, .ref a5)] [.ref h0] [(h0, .inr (0, [.ref q8, .ref q17, .int 0, .int 0, .int 0, .int 0, .int 0, .null, .null, .null, .null, .null])), (q8, .inl (G.2.2 0, 240, .inl (fun _ => 0))), (q17, .inl (G.2.2 0, 240, .inl (fun _ => 0)))] 2 480)
  refine k_aloadn 1 d_Es_init_23 rfl (?_ : WK _ _ _ _ _ _ 24 [(0, .ref h0), (1, .ref a1), (2, .ref a2), (3, .ref a3), (4, .ref a4), (5, .ref a5)] [.ref a1, .ref h0] [(h0, .inr (0, [.ref q8, .ref q17, .int 0, .int 0, .int 0, .int 0, .int 0, .null, .null, .null, .null, .null])), (q8, .inl (G.2.2 0, 240, .inl (fun _ => 0))), (q17, .inl (G.2.2 0, 240, .inl (fun _ => 0)))] 2 480)
  refine k_putF (ty := .object "CoinSampler$Ledger") 0 7 d_Es_init_24 rfl clk_0 (by decide) (qm_2 (i := 10) rfl rfl) tyX0_ok nmX0 rfl rfl rfl (by decide +kernel) rfl rfl (Nat.le_of_ble_eq_true rfl) rfl (?_ : WK _ _ _ _ _ _ 27 [(0, .ref h0), (1, .ref a1), (2, .ref a2), (3, .ref a3), (4, .ref a4), (5, .ref a5)] [] [(h0, .inr (0, [.ref q8, .ref q17, .int 0, .int 0, .int 0, .int 0, .int 0, .ref a1, .null, .null, .null, .null])), (q8, .inl (G.2.2 0, 240, .inl (fun _ => 0))), (q17, .inl (G.2.2 0, 240, .inl (fun _ => 0)))] 2 480)
  refine k_aloadn 0 d_Es_init_27 rfl (?_ : WK _ _ _ _ _ _ 28 [(0, .ref h0), (1, .ref a1), (2, .ref a2), (3, .ref a3), (4, .ref a4), (5, .ref a5)] [.ref h0] [(h0, .inr (0, [.ref q8, .ref q17, .int 0, .int 0, .int 0, .int 0, .int 0, .ref a1, .null, .null, .null, .null])), (q8, .inl (G.2.2 0, 240, .inl (fun _ => 0))), (q17, .inl (G.2.2 0, 240, .inl (fun _ => 0)))] 2 480)
  refine k_aloadn 2 d_Es_init_28 rfl (?_ : WK _ _ _ _ _ _ 29 [(0, .ref h0), (1, .ref a1), (2, .ref a2), (3, .ref a3), (4, .ref a4), (5, .ref a5)] [.ref a2, .ref h0] [(h0, .inr (0, [.ref q8, .ref q17, .int 0, .int 0, .int 0, .int 0, .int 0, .ref a1, .null, .null, .null, .null])), (q8, .inl (G.2.2 0, 240, .inl (fun _ => 0))), (q17, .inl (G.2.2 0, 240, .inl (fun _ => 0)))] 2 480)
  refine k_putF (ty := .object "CoinSampler$Layout") 0 8 d_Es_init_29 rfl clk_0 (by decide) (qm_2 (i := 11) rfl rfl) tyX0_ok nmX0 rfl rfl rfl (by decide +kernel) rfl rfl (Nat.le_of_ble_eq_true rfl) rfl (?_ : WK _ _ _ _ _ _ 32 [(0, .ref h0), (1, .ref a1), (2, .ref a2), (3, .ref a3), (4, .ref a4), (5, .ref a5)] [] [(h0, .inr (0, [.ref q8, .ref q17, .int 0, .int 0, .int 0, .int 0, .int 0, .ref a1, .ref a2, .null, .null, .null])), (q8, .inl (G.2.2 0, 240, .inl (fun _ => 0))), (q17, .inl (G.2.2 0, 240, .inl (fun _ => 0)))] 2 480)
  refine k_aloadn 0 d_Es_init_32 rfl (?_ : WK _ _ _ _ _ _ 33 [(0, .ref h0), (1, .ref a1), (2, .ref a2), (3, .ref a3), (4, .ref a4), (5, .ref a5)] [.ref h0] [(h0, .inr (0, [.ref q8, .ref q17, .int 0, .int 0, .int 0, .int 0, .int 0, .ref a1, .ref a2, .null, .null, .null])), (q8, .inl (G.2.2 0, 240, .inl (fun _ => 0))), (q17, .inl (G.2.2 0, 240, .inl (fun _ => 0)))] 2 480)
  refine k_aloadn 3 d_Es_init_33 rfl (?_ : WK _ _ _ _ _ _ 34 [(0, .ref h0), (1, .ref a1), (2, .ref a2), (3, .ref a3), (4, .ref a4), (5, .ref a5)] [.ref a3, .ref h0] [(h0, .inr (0, [.ref q8, .ref q17, .int 0, .int 0, .int 0, .int 0, .int 0, .ref a1, .ref a2, .null, .null, .null])), (q8, .inl (G.2.2 0, 240, .inl (fun _ => 0))), (q17, .inl (G.2.2 0, 240, .inl (fun _ => 0)))] 2 480)
  refine k_putF (ty := .object "CoinSampler$Walk") 0 9 d_Es_init_34 rfl clk_0 (by decide) (qm_2 (i := 12) rfl rfl) tyX0_ok nmX0 rfl rfl rfl (by decide +kernel) rfl rfl (Nat.le_of_ble_eq_true rfl) rfl (?_ : WK _ _ _ _ _ _ 37 [(0, .ref h0), (1, .ref a1), (2, .ref a2), (3, .ref a3), (4, .ref a4), (5, .ref a5)] [] [(h0, .inr (0, [.ref q8, .ref q17, .int 0, .int 0, .int 0, .int 0, .int 0, .ref a1, .ref a2, .ref a3, .null, .null])), (q8, .inl (G.2.2 0, 240, .inl (fun _ => 0))), (q17, .inl (G.2.2 0, 240, .inl (fun _ => 0)))] 2 480)
  refine k_aloadn 0 d_Es_init_37 rfl (?_ : WK _ _ _ _ _ _ 38 [(0, .ref h0), (1, .ref a1), (2, .ref a2), (3, .ref a3), (4, .ref a4), (5, .ref a5)] [.ref h0] [(h0, .inr (0, [.ref q8, .ref q17, .int 0, .int 0, .int 0, .int 0, .int 0, .ref a1, .ref a2, .ref a3, .null, .null])), (q8, .inl (G.2.2 0, 240, .inl (fun _ => 0))), (q17, .inl (G.2.2 0, 240, .inl (fun _ => 0)))] 2 480)
  refine k_aload 4 d_Es_init_38 rfl (?_ : WK _ _ _ _ _ _ 40 [(0, .ref h0), (1, .ref a1), (2, .ref a2), (3, .ref a3), (4, .ref a4), (5, .ref a5)] [.ref a4, .ref h0] [(h0, .inr (0, [.ref q8, .ref q17, .int 0, .int 0, .int 0, .int 0, .int 0, .ref a1, .ref a2, .ref a3, .null, .null])), (q8, .inl (G.2.2 0, 240, .inl (fun _ => 0))), (q17, .inl (G.2.2 0, 240, .inl (fun _ => 0)))] 2 480)
  refine k_putF (ty := .object "CoinSampler$Terms") 0 10 d_Es_init_40 rfl clk_0 (by decide) (qm_2 (i := 13) rfl rfl) tyX0_ok nmX0 rfl rfl rfl (by decide +kernel) rfl rfl (Nat.le_of_ble_eq_true rfl) rfl (?_ : WK _ _ _ _ _ _ 43 [(0, .ref h0), (1, .ref a1), (2, .ref a2), (3, .ref a3), (4, .ref a4), (5, .ref a5)] [] [(h0, .inr (0, [.ref q8, .ref q17, .int 0, .int 0, .int 0, .int 0, .int 0, .ref a1, .ref a2, .ref a3, .ref a4, .null])), (q8, .inl (G.2.2 0, 240, .inl (fun _ => 0))), (q17, .inl (G.2.2 0, 240, .inl (fun _ => 0)))] 2 480)
  refine k_aloadn 0 d_Es_init_43 rfl (?_ : WK _ _ _ _ _ _ 44 [(0, .ref h0), (1, .ref a1), (2, .ref a2), (3, .ref a3), (4, .ref a4), (5, .ref a5)] [.ref h0] [(h0, .inr (0, [.ref q8, .ref q17, .int 0, .int 0, .int 0, .int 0, .int 0, .ref a1, .ref a2, .ref a3, .ref a4, .null])), (q8, .inl (G.2.2 0, 240, .inl (fun _ => 0))), (q17, .inl (G.2.2 0, 240, .inl (fun _ => 0)))] 2 480)
  refine k_aload 5 d_Es_init_44 rfl (?_ : WK _ _ _ _ _ _ 46 [(0, .ref h0), (1, .ref a1), (2, .ref a2), (3, .ref a3), (4, .ref a4), (5, .ref a5)] [.ref a5, .ref h0] [(h0, .inr (0, [.ref q8, .ref q17, .int 0, .int 0, .int 0, .int 0, .int 0, .ref a1, .ref a2, .ref a3, .ref a4, .null])), (q8, .inl (G.2.2 0, 240, .inl (fun _ => 0))), (q17, .inl (G.2.2 0, 240, .inl (fun _ => 0)))] 2 480)
  refine k_putF (ty := .object "CoinSampler$Factors") 0 11 d_Es_init_46 rfl clk_0 (by decide) (qm_2 (i := 14) rfl rfl) tyX0_ok nmX0 rfl rfl rfl (by decide +kernel) rfl rfl (Nat.le_of_ble_eq_true rfl) rfl (?_ : WK _ _ _ _ _ _ 49 [(0, .ref h0), (1, .ref a1), (2, .ref a2), (3, .ref a3), (4, .ref a4), (5, .ref a5)] [] [(h0, .inr (0, [.ref q8, .ref q17, .int 0, .int 0, .int 0, .int 0, .int 0, .ref a1, .ref a2, .ref a3, .ref a4, .ref a5])), (q8, .inl (G.2.2 0, 240, .inl (fun _ => 0))), (q17, .inl (G.2.2 0, 240, .inl (fun _ => 0)))] 2 480)
  exact k_ret (fun k => match k with | 0 => q8 | 1 => q17 | _ => 0) d_Es_init_49 rfl rfl rfl rfl
abbrev w1_St (G : Gq) (h0 a1 a2 : Nat) (f : Nat → Nat) : va_W := [(h0, .inr (6, [.ref a1, .ref a2, .ref (f 0), .ref (f 1), .int 0])), (f 0, .inl (G.2.2 2, 48, .inl (fun _ => 0))), (f 1, .inl (G.2.2 0, 49, .inl (fun _ => 0)))]
set_option maxRecDepth 20000 in
set_option maxHeartbeats 4000000 in
theorem kc_St (G : Gq) (h0 a1 a2 : Nat) (z : Nat) : KC M_St_init G (1, 2, 97, 12) [.ref h0, .ref a1, .ref a2] [(h0, .inr (6, [.null, .null, .null, .null, .int 0]))] (w1_St G h0 a1 a2) z := by
  refine KC.of ok_M_St_init (ls := [(0, .ref h0), (1, .ref a1), (2, .ref a2)]) rfl (Nat.le_of_ble_eq_true rfl) (?_ : WK _ _ _ _ _ _ 0 [(0, .ref h0), (1, .ref a1), (2, .ref a2)] [] [(h0, .inr (6, [.null, .null, .null, .null, .int 0]))] 0 0)
  refine k_aloadn 0 d_St_init_0 rfl (?_ : WK _ _ _ _ _ _ 1 [(0, .ref h0), (1, .ref a1), (2, .ref a2)] [.ref h0] [(h0, .inr (6, [.null, .null, .null, .null, .int 0]))] 0 0)
  refine k_obj d_St_init_1 (qm_2 (i := 45) rfl rfl) (qm_1 (i := 58) rfl rfl) (qm_1 (i := 59) rfl rfl) (by decide) (?_ : WK _ _ _ _ _ _ 4 [(0, .ref h0), (1, .ref a1), (2, .ref a2)] [] [(h0, .inr (6, [.null, .null, .null, .null, .int 0]))] 0 0)
  refine k_aloadn 0 d_St_init_4 rfl (?_ : WK _ _ _ _ _ _ 5 [(0, .ref h0), (1, .ref a1), (2, .ref a2)] [.ref h0] [(h0, .inr (6, [.null, .null, .null, .null, .int 0]))] 0 0)
  refine k_bipush d_St_init_5 (by decide) (?_ : WK _ _ _ _ _ _ 7 [(0, .ref h0), (1, .ref a1), (2, .ref a2)] [.int 48, .ref h0] [(h0, .inr (6, [.null, .null, .null, .null, .int 0]))] 0 0)
  refine k_newa (N := 48) (ty := .boolean) (cA := G.2.2 2) 2 d_St_init_7 rfl (qm_2 (i := 61) rfl rfl) rfl (fun _ _ => rfl) (fun _ => rfl) (by decide) (by decide) (Nat.le_of_ble_eq_true rfl) (Nat.le_of_ble_eq_true rfl) (Nat.le_of_ble_eq_true rfl) (fun q7 => (?_ : WK _ _ _ _ _ _ 9 [(0, .ref h0), (1, .ref a1), (2, .ref a2)] [.ref q7, .ref h0] [(h0, .inr (6, [.null, .null, .null, .null, .int 0])), (q7, .inl (G.2.2 2, 48, .inl (fun _ => 0)))] 1 48))
  refine k_putF (ty := .array .boolean) 0 2 d_St_init_9 rfl clk_6 (by decide) (qm_2 (i := 48) rfl rfl) tyX6_ok nmX6 rfl rfl rfl (by decide +kernel) rfl rfl (Nat.le_of_ble_eq_true rfl) rfl (?_ : WK _ _ _ _ _ _ 12 [(0, .ref h0), (1, .ref a1), (2, .ref a2)] [] [(h0, .inr (6, [.null, .null, .ref q7, .null, .int 0])), (q7, .inl (G.2.2 2, 48, .inl (fun _ => 0)))] 1 48)
  refine k_aloadn 0 d_St_init_12 rfl (?_ : WK _ _ _ _ _ _ 13 [(0, .ref h0), (1, .ref a1), (2, .ref a2)] [.ref h0] [(h0, .inr (6, [.null, .null, .ref q7, .null, .int 0])), (q7, .inl (G.2.2 2, 48, .inl (fun _ => 0)))] 1 48)
  refine k_bipush d_St_init_13 (by decide) (?_ : WK _ _ _ _ _ _ 15 [(0, .ref h0), (1, .ref a1), (2, .ref a2)] [.int 49, .ref h0] [(h0, .inr (6, [.null, .null, .ref q7, .null, .int 0])), (q7, .inl (G.2.2 2, 48, .inl (fun _ => 0)))] 1 48)
  refine k_newa (N := 49) (ty := .int) (cA := G.2.2 0) 0 d_St_init_15 rfl (qm_1 (i := 107) rfl rfl) rfl (fun _ _ => rfl) (fun _ => rfl) (by decide) (by decide) (Nat.le_of_ble_eq_true rfl) (Nat.le_of_ble_eq_true rfl) (Nat.le_of_ble_eq_true rfl) (fun q15 => (?_ : WK _ _ _ _ _ _ 17 [(0, .ref h0), (1, .ref a1), (2, .ref a2)] [.ref q15, .ref h0] [(h0, .inr (6, [.null, .null, .ref q7, .null, .int 0])), (q7, .inl (G.2.2 2, 48, .inl (fun _ => 0))), (q15, .inl (G.2.2 0, 49, .inl (fun _ => 0)))] 2 97))
  refine k_putF (ty := .array .int) 0 3 d_St_init_17 rfl clk_6 (by decide) (qm_2 (i := 49) rfl rfl) tyX6_ok nmX6 rfl rfl rfl (by decide +kernel) rfl rfl (Nat.le_of_ble_eq_true rfl) rfl (?_ : WK _ _ _ _ _ _ 20 [(0, .ref h0), (1, .ref a1), (2, .ref a2)] [] [(h0, .inr (6, [.null, .null, .ref q7, .ref q15, .int 0])), (q7, .inl (G.2.2 2, 48, .inl (fun _ => 0))), (q15, .inl (G.2.2 0, 49, .inl (fun _ => 0)))] 2 97)
  refine k_aloadn 0 d_St_init_20 rfl (?_ : WK _ _ _ _ _ _ 21 [(0, .ref h0), (1, .ref a1), (2, .ref a2)] [.ref h0] [(h0, .inr (6, [.null, .null, .ref q7, .ref q15, .int 0])), (q7, .inl (G.2.2 2, 48, .inl (fun _ => 0))), (q15, .inl (G.2.2 0, 49, .inl (fun _ => 0)))] 2 97)
  refine k_aloadn 1 d_St_init_21 rfl (?_ : WK _ _ _ _ _ _ 22 [(0, .ref h0), (1, .ref a1), (2, .ref a2)] [.ref a1, .ref h0] [(h0, .inr (6, [.null, .null, .ref q7, .ref q15, .int 0])), (q7, .inl (G.2.2 2, 48, .inl (fun _ => 0))), (q15, .inl (G.2.2 0, 49, .inl (fun _ => 0)))] 2 97)
  refine k_putF (ty := .object "CoinSampler$Ledger") 0 0 d_St_init_22 rfl clk_6 (by decide) (qm_2 (i := 46) rfl rfl) tyX6_ok nmX6 rfl rfl rfl (by decide +kernel) rfl rfl (Nat.le_of_ble_eq_true rfl) rfl (?_ : WK _ _ _ _ _ _ 25 [(0, .ref h0), (1, .ref a1), (2, .ref a2)] [] [(h0, .inr (6, [.ref a1, .null, .ref q7, .ref q15, .int 0])), (q7, .inl (G.2.2 2, 48, .inl (fun _ => 0))), (q15, .inl (G.2.2 0, 49, .inl (fun _ => 0)))] 2 97)
  refine k_aloadn 0 d_St_init_25 rfl (?_ : WK _ _ _ _ _ _ 26 [(0, .ref h0), (1, .ref a1), (2, .ref a2)] [.ref h0] [(h0, .inr (6, [.ref a1, .null, .ref q7, .ref q15, .int 0])), (q7, .inl (G.2.2 2, 48, .inl (fun _ => 0))), (q15, .inl (G.2.2 0, 49, .inl (fun _ => 0)))] 2 97)
  refine k_aloadn 2 d_St_init_26 rfl (?_ : WK _ _ _ _ _ _ 27 [(0, .ref h0), (1, .ref a1), (2, .ref a2)] [.ref a2, .ref h0] [(h0, .inr (6, [.ref a1, .null, .ref q7, .ref q15, .int 0])), (q7, .inl (G.2.2 2, 48, .inl (fun _ => 0))), (q15, .inl (G.2.2 0, 49, .inl (fun _ => 0)))] 2 97)
  refine k_putF (ty := .object "CoinSampler$Layout") 0 1 d_St_init_27 rfl clk_6 (by decide) (qm_2 (i := 47) rfl rfl) tyX6_ok nmX6 rfl rfl rfl (by decide +kernel) rfl rfl (Nat.le_of_ble_eq_true rfl) rfl (?_ : WK _ _ _ _ _ _ 30 [(0, .ref h0), (1, .ref a1), (2, .ref a2)] [] [(h0, .inr (6, [.ref a1, .ref a2, .ref q7, .ref q15, .int 0])), (q7, .inl (G.2.2 2, 48, .inl (fun _ => 0))), (q15, .inl (G.2.2 0, 49, .inl (fun _ => 0)))] 2 97)
  exact k_ret (fun k => match k with | 0 => q7 | 1 => q15 | _ => 0) d_St_init_30 rfl rfl rfl rfl
abbrev w1_Li (G : Gq) (h0 : Nat) (f : Nat → Nat) : va_W := [(h0, .inr (4, [.ref (f 0), .int 0])), (f 0, .inl (G.2.2 3, 32, .inl (fun _ => 0)))]
set_option maxRecDepth 20000 in
set_option maxHeartbeats 4000000 in
theorem kc_Li (G : Gq) (h0 : Nat) (z : Nat) : KC M_Li_init G (1, 1, 32, 12) [.ref h0] [(h0, .inr (4, [.null, .int 0]))] (w1_Li G h0) z := by
  refine KC.of ok_M_Li_init (ls := [(0, .ref h0)]) rfl (Nat.le_of_ble_eq_true rfl) (?_ : WK _ _ _ _ _ _ 0 [(0, .ref h0)] [] [(h0, .inr (4, [.null, .int 0]))] 0 0)
  refine k_aloadn 0 d_Li_init_0 rfl (?_ : WK _ _ _ _ _ _ 1 [(0, .ref h0)] [.ref h0] [(h0, .inr (4, [.null, .int 0]))] 0 0)
  refine k_obj d_Li_init_1 (qm_2 (i := 67) rfl rfl) (qm_1 (i := 58) rfl rfl) (qm_1 (i := 59) rfl rfl) (by decide) (?_ : WK _ _ _ _ _ _ 4 [(0, .ref h0)] [] [(h0, .inr (4, [.null, .int 0]))] 0 0)
  refine k_aloadn 0 d_Li_init_4 rfl (?_ : WK _ _ _ _ _ _ 5 [(0, .ref h0)] [.ref h0] [(h0, .inr (4, [.null, .int 0]))] 0 0)
  refine k_bipush d_Li_init_5 (by decide) (?_ : WK _ _ _ _ _ _ 7 [(0, .ref h0)] [.int 32, .ref h0] [(h0, .inr (4, [.null, .int 0]))] 0 0)
  refine k_newa (N := 32) (ty := .char) (cA := G.2.2 3) 3 d_Li_init_7 rfl (qm_2 (i := 76) rfl rfl) rfl (fun _ _ => rfl) (fun _ => rfl) (by decide) (by decide) (Nat.le_of_ble_eq_true rfl) (Nat.le_of_ble_eq_true rfl) (Nat.le_of_ble_eq_true rfl) (fun q7 => (?_ : WK _ _ _ _ _ _ 9 [(0, .ref h0)] [.ref q7, .ref h0] [(h0, .inr (4, [.null, .int 0])), (q7, .inl (G.2.2 3, 32, .inl (fun _ => 0)))] 1 32))
  refine k_putF (ty := .array .char) 0 0 d_Li_init_9 rfl clk_4 (by decide) (qm_2 (i := 68) rfl rfl) tyX4_ok nmX4 rfl rfl rfl (by decide +kernel) rfl rfl (Nat.le_of_ble_eq_true rfl) rfl (?_ : WK _ _ _ _ _ _ 12 [(0, .ref h0)] [] [(h0, .inr (4, [.ref q7, .int 0])), (q7, .inl (G.2.2 3, 32, .inl (fun _ => 0)))] 1 32)
  exact k_ret (fun k => match k with | 0 => q7 | _ => 0) d_Li_init_12 rfl rfl rfl rfl
abbrev w1_Re (G : Gq) (h0 a1 : Nat) (f : Nat → Nat) : va_W := [(h0, .inr (5, [.ref (f 0), .int 0, .int (-1), .ref a1, .int 0, .int 0])), (f 0, .inr (3, [.ref (f 1), .ref (f 2), .ref (f 3), .ref (f 4), .int 0])), (f 1, .inl (G.2.2 0, 48, .inl (fun _ => 0))), (f 2, .inl (G.2.2 0, 48, .inl (fun _ => 0))), (f 3, .inl (G.2.2 0, 48, .inl (fun _ => 0))), (f 4, .inl (G.2.2 0, 48, .inl (fun _ => 0)))]
set_option maxRecDepth 20000 in
set_option maxHeartbeats 4000000 in
theorem kc_Re (G : Gq) (h0 a1 : Nat) (z : Nat) : KC M_Re_init G (2, 5, 197, 32) [.ref h0, .ref a1] [(h0, .inr (5, [.null, .int 0, .int 0, .null, .int 0, .int 0]))] (w1_Re G h0 a1) z := by
  refine KC.of ok_M_Re_init (ls := [(0, .ref h0), (1, .ref a1)]) rfl (Nat.le_of_ble_eq_true rfl) (?_ : WK _ _ _ _ _ _ 0 [(0, .ref h0), (1, .ref a1)] [] [(h0, .inr (5, [.null, .int 0, .int 0, .null, .int 0, .int 0]))] 0 0)
  refine k_aloadn 0 d_Re_init_0 rfl (?_ : WK _ _ _ _ _ _ 1 [(0, .ref h0), (1, .ref a1)] [.ref h0] [(h0, .inr (5, [.null, .int 0, .int 0, .null, .int 0, .int 0]))] 0 0)
  refine k_obj d_Re_init_1 (qm_1 (i := 113) rfl rfl) (qm_1 (i := 58) rfl rfl) (qm_1 (i := 59) rfl rfl) (by decide) (?_ : WK _ _ _ _ _ _ 4 [(0, .ref h0), (1, .ref a1)] [] [(h0, .inr (5, [.null, .int 0, .int 0, .null, .int 0, .int 0]))] 0 0)
  refine k_aloadn 0 d_Re_init_4 rfl (?_ : WK _ _ _ _ _ _ 5 [(0, .ref h0), (1, .ref a1)] [.ref h0] [(h0, .inr (5, [.null, .int 0, .int 0, .null, .int 0, .int 0]))] 0 0)
  refine k_new (fs := [.null, .null, .null, .null, .int 0]) d_Re_init_5 clk_3 tyX3_ok (qm_1 (i := 114) rfl rfl) (qm_1 (i := 76) rfl rfl) (qm_1 (i := 3) rfl rfl) (fun j hj => hf_X3 j hj) (Nat.le_of_ble_eq_true rfl) (Nat.le_of_ble_eq_true rfl) (fun q5 => (?_ : WK _ _ _ _ _ _ 8 [(0, .ref h0), (1, .ref a1)] [.ref q5, .ref h0] [(h0, .inr (5, [.null, .int 0, .int 0, .null, .int 0, .int 0])), (q5, .inr (3, [.null, .null, .null, .null, .int 0]))] 1 5))
  refine k_dup d_Re_init_8 rfl (?_ : WK _ _ _ _ _ _ 9 [(0, .ref h0), (1, .ref a1)] [.ref q5, .ref q5, .ref h0] [(h0, .inr (5, [.null, .int 0, .int 0, .null, .int 0, .int 0])), (q5, .inr (3, [.null, .null, .null, .null, .int 0]))] 1 5)
  refine k_callN (ν := M_Le_init) (Rν := (1, 4, 192, 12)) (As := []) (st := [.ref q5, .ref h0]) (wr := [(h0, .inr (5, [.null, .int 0, .int 0, .null, .int 0, .int 0]))]) (nA := 0) (fun z => kc_Le G q5 z) d_Re_init_9 ok_M_Le_init okv_M_Le_init (List.mem_of_getElem? (i := 2) rfl) rfl rfl np_M_Le_init rfl (by decide) (Nat.le_of_ble_eq_true rfl) rfl rfl (Nat.le_of_ble_eq_true rfl) (Nat.le_of_ble_eq_true rfl) (fun g9 => (?_ : WK _ _ _ _ _ _ 12 [(0, .ref h0), (1, .ref a1)] [.ref q5, .ref h0] [(h0, .inr (5, [.null, .int 0, .int 0, .null, .int 0, .int 0])), (q5, .inr (3, [.ref (g9 0), .ref (g9 1), .ref (g9 2), .ref (g9 3), .int 0])), (g9 0, .inl (G.2.2 0, 48, .inl (fun _ => 0))), (g9 1, .inl (G.2.2 0, 48, .inl (fun _ => 0))), (g9 2, .inl (G.2.2 0, 48, .inl (fun _ => 0))), (g9 3, .inl (G.2.2 0, 48, .inl (fun _ => 0)))] 5 197))
  refine k_putF (ty := .object "CoinSampler$Ledger") 0 0 d_Re_init_12 rfl clk_5 (by decide) (qm_1 (i := 116) rfl rfl) tyX5_ok nmX5 rfl rfl rfl (by decide +kernel) rfl rfl (Nat.le_of_ble_eq_true rfl) rfl (?_ : WK _ _ _ _ _ _ 15 [(0, .ref h0), (1, .ref a1)] [] [(h0, .inr (5, [.ref q5, .int 0, .int 0, .null, .int 0, .int 0])), (q5, .inr (3, [.ref (g9 0), .ref (g9 1), .ref (g9 2), .ref (g9 3), .int 0])), (g9 0, .inl (G.2.2 0, 48, .inl (fun _ => 0))), (g9 1, .inl (G.2.2 0, 48, .inl (fun _ => 0))), (g9 2, .inl (G.2.2 0, 48, .inl (fun _ => 0))), (g9 3, .inl (G.2.2 0, 48, .inl (fun _ => 0)))] 5 197)
  refine k_aloadn 0 d_Re_init_15 rfl (?_ : WK _ _ _ _ _ _ 16 [(0, .ref h0), (1, .ref a1)] [.ref h0] [(h0, .inr (5, [.ref q5, .int 0, .int 0, .null, .int 0, .int 0])), (q5, .inr (3, [.ref (g9 0), .ref (g9 1), .ref (g9 2), .ref (g9 3), .int 0])), (g9 0, .inl (G.2.2 0, 48, .inl (fun _ => 0))), (g9 1, .inl (G.2.2 0, 48, .inl (fun _ => 0))), (g9 2, .inl (G.2.2 0, 48, .inl (fun _ => 0))), (g9 3, .inl (G.2.2 0, 48, .inl (fun _ => 0)))] 5 197)
  refine k_iconst d_Re_init_16 (by decide) (?_ : WK _ _ _ _ _ _ 17 [(0, .ref h0), (1, .ref a1)] [.int (-1), .ref h0] [(h0, .inr (5, [.ref q5, .int 0, .int 0, .null, .int 0, .int 0])), (q5, .inr (3, [.ref (g9 0), .ref (g9 1), .ref (g9 2), .ref (g9 3), .int 0])), (g9 0, .inl (G.2.2 0, 48, .inl (fun _ => 0))), (g9 1, .inl (G.2.2 0, 48, .inl (fun _ => 0))), (g9 2, .inl (G.2.2 0, 48, .inl (fun _ => 0))), (g9 3, .inl (G.2.2 0, 48, .inl (fun _ => 0)))] 5 197)
  refine k_put (ty := .int) 0 2 d_Re_init_17 rfl clk_5 (by decide) (qm_1 (i := 120) rfl rfl) tyX5_ok nmX5 rfl (by decide +kernel) rfl rfl (Nat.le_of_ble_eq_true rfl) rfl (?_ : WK _ _ _ _ _ _ 20 [(0, .ref h0), (1, .ref a1)] [] [(h0, .inr (5, [.ref q5, .int 0, .int (-1), .null, .int 0, .int 0])), (q5, .inr (3, [.ref (g9 0), .ref (g9 1), .ref (g9 2), .ref (g9 3), .int 0])), (g9 0, .inl (G.2.2 0, 48, .inl (fun _ => 0))), (g9 1, .inl (G.2.2 0, 48, .inl (fun _ => 0))), (g9 2, .inl (G.2.2 0, 48, .inl (fun _ => 0))), (g9 3, .inl (G.2.2 0, 48, .inl (fun _ => 0)))] 5 197)
  refine k_aloadn 0 d_Re_init_20 rfl (?_ : WK _ _ _ _ _ _ 21 [(0, .ref h0), (1, .ref a1)] [.ref h0] [(h0, .inr (5, [.ref q5, .int 0, .int (-1), .null, .int 0, .int 0])), (q5, .inr (3, [.ref (g9 0), .ref (g9 1), .ref (g9 2), .ref (g9 3), .int 0])), (g9 0, .inl (G.2.2 0, 48, .inl (fun _ => 0))), (g9 1, .inl (G.2.2 0, 48, .inl (fun _ => 0))), (g9 2, .inl (G.2.2 0, 48, .inl (fun _ => 0))), (g9 3, .inl (G.2.2 0, 48, .inl (fun _ => 0)))] 5 197)
  refine k_aloadn 1 d_Re_init_21 rfl (?_ : WK _ _ _ _ _ _ 22 [(0, .ref h0), (1, .ref a1)] [.ref a1, .ref h0] [(h0, .inr (5, [.ref q5, .int 0, .int (-1), .null, .int 0, .int 0])), (q5, .inr (3, [.ref (g9 0), .ref (g9 1), .ref (g9 2), .ref (g9 3), .int 0])), (g9 0, .inl (G.2.2 0, 48, .inl (fun _ => 0))), (g9 1, .inl (G.2.2 0, 48, .inl (fun _ => 0))), (g9 2, .inl (G.2.2 0, 48, .inl (fun _ => 0))), (g9 3, .inl (G.2.2 0, 48, .inl (fun _ => 0)))] 5 197)
  refine k_putF (ty := .object "CoinSampler$Tape") 0 3 d_Re_init_22 rfl clk_5 (by decide) (qm_1 (i := 122) rfl rfl) tyX5_ok nmX5 rfl rfl rfl (by decide +kernel) rfl rfl (Nat.le_of_ble_eq_true rfl) rfl (?_ : WK _ _ _ _ _ _ 25 [(0, .ref h0), (1, .ref a1)] [] [(h0, .inr (5, [.ref q5, .int 0, .int (-1), .ref a1, .int 0, .int 0])), (q5, .inr (3, [.ref (g9 0), .ref (g9 1), .ref (g9 2), .ref (g9 3), .int 0])), (g9 0, .inl (G.2.2 0, 48, .inl (fun _ => 0))), (g9 1, .inl (G.2.2 0, 48, .inl (fun _ => 0))), (g9 2, .inl (G.2.2 0, 48, .inl (fun _ => 0))), (g9 3, .inl (G.2.2 0, 48, .inl (fun _ => 0)))] 5 197)
  exact k_ret (fun k => match k with | 0 => q5 | 1 => g9 0 | 2 => g9 1 | 3 => g9 2 | 4 => g9 3 | _ => 0) d_Re_init_25 rfl rfl rfl rfl
