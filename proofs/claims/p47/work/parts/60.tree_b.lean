-- what each stretch of a method asks (printed by wip/gen/gen_dout.py)
set_option maxRecDepth 20000 in
theorem e_Bo_init {G : Gq} {K : Wd → Prop} {w : Wd} {mc ms : Nat} (x0 : Nat) (h : (1 ≤ mc) ∧ (3 ≤ ms) ∧ ∀ q3 : Nat, Fr G w q3 → (DV G M_Al_init [vA q3] (uN w q3 (kO 14)) 0 0 (fun w5 => (Ow w5 x0 (kO 11)) ∧ (1 ≤ (mc - 1)) ∧ (3 ≤ (ms - 3)) ∧ ∀ q10 : Nat, Fr G (uR w5 x0 0 (some q3)) q10 → (DV G M_Al_init [vA q10] (uN (uR w5 x0 0 (some q3)) q10 (kO 14)) 0 0 (fun w12 => (1 ≤ ((mc - 1) - 1)) ∧ (5 ≤ ((ms - 3) - 3)) ∧ ∀ q16 : Nat, Fr G (uR w12 x0 1 (some q10)) q16 → ((0 < (5 : Int)) ∧ (1 < (5 : Int)) ∧ (2 < (5 : Int)) ∧ (3 < (5 : Int)) ∧ (4 < (5 : Int)) ∧ K (uI (uR (uI (uI (uI (uI (uI (uN (uR w12 x0 1 (some q10)) q16 (kA 0 5)) q16 0 50000) q16 1 50) q16 2 0) q16 3 0) q16 4 7) x0 2 (some q16)) x0 4 7))))))) : DV G M_Bo_init [vA x0] w mc ms K := by
  refine DC.of ok_M_Bo_init (ls := [(0, vA x0)]) rfl (Nat.le_of_ble_eq_true rfl) ?_
  refine x_aload_nP (some x0) d_Bo_init_0 rfl (?_ : WD _ _ 1 _ _ _ _ _ _)
  refine x_obj d_Bo_init_1 (qm_2 (i := 124) rfl rfl) (qm_1 (i := 58) rfl rfl) (qm_1 (i := 59) rfl rfl) ⟨Nat.le_of_ble_eq_true rfl, Nat.le_of_ble_eq_true rfl⟩ (?_ : WD _ _ 4 _ _ _ _ _ _)
  refine x_aload_nP (some x0) d_Bo_init_4 rfl (?_ : WD _ _ 5 _ _ _ _ _ _)
  obtain ⟨h1, h⟩ := h
  obtain ⟨h2, h⟩ := h
  refine x_new d_Bo_init_5 clk_14 tyJx4a65c_ok (qm_2 (i := 125) rfl rfl) (qm_2 (i := 126) rfl rfl) (qm_1 (i := 15) rfl rfl) hfd_14 h1 h2 (fun q3 fq3 => (?_ : WD _ _ 8 _ _ _ _ _ _))
  replace h := h q3 fq3
  have k4 : Ow (uN w q3 (kO 14)) q3 (kO 14) := Ow.nw
  refine x_dup d_Bo_init_8 rfl (?_ : WD _ _ 9 _ _ _ _ _ _)
  refine x_callI (ν := M_Al_init) [] ok_M_Al_init oki_M_Al_init rfl rfl (qm_2 (i := 127) rfl rfl) np_M_Al_init rfl ⟨Nat.le_of_ble_eq_true rfl, Nat.le_of_ble_eq_true rfl⟩ (Nat.le_of_ble_eq_true rfl) rfl d_Bo_init_9 (Nat.zero_le _) (Nat.zero_le _) (DV.k h (fun w5 gw5 h => (?_ : WD _ _ 12 _ _ _ _ _ _)))
  obtain ⟨k7, h⟩ := h
  refine x_putP (ref := "CoinSamplerLaw$Books") (j := 0) (some q3) 0 k7 clk_11 (by decide) (qm_2 (i := 155) rfl rfl) (Or.inl rfl) (Or.inl rfl) tyX11_ok rfl nmX11 d_Bo_init_12 rfl rfl (nar_P (by first | exact Or.inl ⟨_, rfl⟩ | exact Or.inr ⟨_, rfl⟩) _) (fit_P (by first | exact Or.inl ⟨_, rfl⟩ | exact Or.inr ⟨_, rfl⟩) _) (?_ : WD _ _ 15 _ _ _ _ _ _)
  refine x_aload_nP (some x0) d_Bo_init_15 rfl (?_ : WD _ _ 16 _ _ _ _ _ _)
  obtain ⟨h8, h⟩ := h
  obtain ⟨h9, h⟩ := h
  refine x_new d_Bo_init_16 clk_14 tyJx4a65c_ok (qm_2 (i := 125) rfl rfl) (qm_2 (i := 126) rfl rfl) (qm_1 (i := 15) rfl rfl) hfd_14 h8 h9 (fun q10 fq10 => (?_ : WD _ _ 19 _ _ _ _ _ _))
  replace h := h q10 fq10
  have k11 : Ow (uN (uR w5 x0 0 (some q3)) q10 (kO 14)) q10 (kO 14) := Ow.nw
  refine x_dup d_Bo_init_19 rfl (?_ : WD _ _ 20 _ _ _ _ _ _)
  refine x_callI (ν := M_Al_init) [] ok_M_Al_init oki_M_Al_init rfl rfl (qm_2 (i := 127) rfl rfl) np_M_Al_init rfl ⟨Nat.le_of_ble_eq_true rfl, Nat.le_of_ble_eq_true rfl⟩ (Nat.le_of_ble_eq_true rfl) rfl d_Bo_init_20 (Nat.zero_le _) (Nat.zero_le _) (DV.k h (fun w12 gw12 h => (?_ : WD _ _ 23 _ _ _ _ _ _)))
  refine x_putP (ref := "CoinSamplerLaw$Books") (j := 1) (some q10) 1 ((k7.nu fq10).q gw12.k) clk_11 (by decide) (qm_2 (i := 157) rfl rfl) (Or.inl rfl) (Or.inl rfl) tyX11_ok rfl nmX11 d_Bo_init_23 rfl rfl (nar_P (by first | exact Or.inl ⟨_, rfl⟩ | exact Or.inr ⟨_, rfl⟩) _) (fit_P (by first | exact Or.inl ⟨_, rfl⟩ | exact Or.inr ⟨_, rfl⟩) _) (?_ : WD _ _ 26 _ _ _ _ _ _)
  refine x_aload_nP (some x0) d_Bo_init_26 rfl (?_ : WD _ _ 27 _ _ _ _ _ _)
  refine x_iconst d_Bo_init_27 (by decide) (?_ : WD _ _ 28 _ _ _ _ _ _)
  obtain ⟨h14, h⟩ := h
  obtain ⟨h15, h⟩ := h
  refine x_newa (t := 0) 5 rfl d_Bo_init_28 rfl (qm_1 (i := 107) rfl rfl) (fun _ => rfl) (fun _ _ => rfl) (fun _ => rfl) (by decide) (by decide) h14 h15 (fun q16 fq16 => (?_ : WD _ _ 30 _ _ _ _ _ _))
  replace h := h q16 fq16
  have k17 : Ow (uN (uR w12 x0 1 (some q10)) q16 (kA 0 5)) q16 (kA 0 5) := Ow.nw
  refine x_dup d_Bo_init_30 rfl (?_ : WD _ _ 31 _ _ _ _ _ _)
  refine x_iconst d_Bo_init_31 (by decide) (?_ : WD _ _ 32 _ _ _ _ _ _)
  refine x_ldc 50000 d_Bo_init_32 (qm_2 (i := 154) rfl rfl) (by decide) (by decide) (?_ : WD _ _ 34 _ _ _ _ _ _)
  obtain ⟨h18, h⟩ := h
  refine x_iast k17 d_Bo_init_34 (by decide) h18 (?_ : WD _ _ 35 _ _ _ _ _ _)
  refine x_dup d_Bo_init_35 rfl (?_ : WD _ _ 36 _ _ _ _ _ _)
  refine x_iconst d_Bo_init_36 (by decide) (?_ : WD _ _ 37 _ _ _ _ _ _)
  refine x_bipush d_Bo_init_37 (by decide) (by decide) (?_ : WD _ _ 39 _ _ _ _ _ _)
  obtain ⟨h19, h⟩ := h
  refine x_iast k17 d_Bo_init_39 (by decide) h19 (?_ : WD _ _ 40 _ _ _ _ _ _)
  refine x_dup d_Bo_init_40 rfl (?_ : WD _ _ 41 _ _ _ _ _ _)
  refine x_iconst d_Bo_init_41 (by decide) (?_ : WD _ _ 42 _ _ _ _ _ _)
  refine x_iconst d_Bo_init_42 (by decide) (?_ : WD _ _ 43 _ _ _ _ _ _)
  obtain ⟨h20, h⟩ := h
  refine x_iast k17 d_Bo_init_43 (by decide) h20 (?_ : WD _ _ 44 _ _ _ _ _ _)
  refine x_dup d_Bo_init_44 rfl (?_ : WD _ _ 45 _ _ _ _ _ _)
  refine x_iconst d_Bo_init_45 (by decide) (?_ : WD _ _ 46 _ _ _ _ _ _)
  refine x_iconst d_Bo_init_46 (by decide) (?_ : WD _ _ 47 _ _ _ _ _ _)
  obtain ⟨h21, h⟩ := h
  refine x_iast k17 d_Bo_init_47 (by decide) h21 (?_ : WD _ _ 48 _ _ _ _ _ _)
  refine x_dup d_Bo_init_48 rfl (?_ : WD _ _ 49 _ _ _ _ _ _)
  refine x_iconst d_Bo_init_49 (by decide) (?_ : WD _ _ 50 _ _ _ _ _ _)
  refine x_bipush d_Bo_init_50 (by decide) (by decide) (?_ : WD _ _ 52 _ _ _ _ _ _)
  obtain ⟨h22, h⟩ := h
  refine x_iast k17 d_Bo_init_52 (by decide) h22 (?_ : WD _ _ 53 _ _ _ _ _ _)
  refine x_putP (ref := "CoinSamplerLaw$Books") (j := 2) (some q16) 2 (((k7.nu fq10).q gw12.k).nu fq16) clk_11 (by decide) (qm_2 (i := 159) rfl rfl) (Or.inl rfl) (Or.inl rfl) tyX11_ok rfl nmX11 d_Bo_init_53 rfl rfl (nar_P (by first | exact Or.inl ⟨_, rfl⟩ | exact Or.inr ⟨_, rfl⟩) _) (fit_P (by first | exact Or.inl ⟨_, rfl⟩ | exact Or.inr ⟨_, rfl⟩) _) (?_ : WD _ _ 56 _ _ _ _ _ _)
  refine x_aload_nP (some x0) d_Bo_init_56 rfl (?_ : WD _ _ 57 _ _ _ _ _ _)
  refine x_bipush d_Bo_init_57 (by decide) (by decide) (?_ : WD _ _ 59 _ _ _ _ _ _)
  refine x_putI (ref := "CoinSamplerLaw$Books") (j := 4) 4 (((k7.nu fq10).q gw12.k).nu fq16) clk_11 (by decide) (qm_2 (i := 163) rfl rfl) (Or.inl rfl) (Or.inl rfl) tyX11_ok rfl nmX11 d_Bo_init_59 rfl rfl (fun _ => rfl) rfl (?_ : WD _ _ 62 _ _ _ _ _ _)
  exact x_return rfl d_Bo_init_62 h
set_option maxRecDepth 20000 in
theorem e_Bo_hits {G : Gq} {K : Option Nat → Wd → Prop} {w : Wd} {mc ms : Nat} (x0 : Nat) (h : (Is G w x0 (kO 11)) ∧ ∃ a2 : Nat, (wR w x0 1) = some a2 ∧ ((Is G w a2 (kO 14)) ∧ DI G M_Al_size [vA a2] w 0 0 (fun v6 w5 => ∃ c7 s8 : Nat, c7 ≤ mc ∧ s8 ≤ ms ∧ (DP G M_Bo_hits_ [vA x0, vI v6] w5 c7 s8 (fun v12 w11 => K v12 w11))))) : DP G M_Bo_hits [vA x0] w mc ms K := by
  refine DC.of ok_M_Bo_hits (ls := [(0, vA x0)]) rfl (Nat.le_of_ble_eq_true rfl) ?_
  refine x_aload_nP (some x0) d_Bo_hits_0 rfl (?_ : WD _ _ 1 _ _ _ _ _ _)
  refine x_aload_nP (some x0) d_Bo_hits_1 rfl (?_ : WD _ _ 2 _ _ _ _ _ _)
  obtain ⟨k1, h⟩ := h
  refine x_getP (ref := "CoinSamplerLaw$Books") (j := 1) 1 k1 clk_11 (by decide) (qm_2 (i := 157) rfl rfl) (Or.inl rfl) rfl rfl d_Bo_hits_2 (y := (wR w x0 1)) rfl (?_ : WD _ _ 5 _ _ _ _ _ _)
  obtain ⟨a2, e3, h⟩ := h
  rw [e3]
  obtain ⟨k4, h⟩ := h
  refine x_callV (ν := M_Al_size) [] ok_M_Al_size okv_M_Al_size k4 rfl rfl (qm_2 (i := 186) rfl rfl) np_M_Al_size rfl ⟨Nat.le_of_ble_eq_true rfl, Nat.le_of_ble_eq_true rfl⟩ (Nat.le_of_ble_eq_true rfl) rfl d_Bo_hits_5 (Nat.zero_le _) (Nat.zero_le _) (DI.k h (fun v6 w5 gw5 h => (?_ : WD _ _ 8 _ _ _ _ _ _)))
  obtain ⟨c7, s8, h9, h10, h⟩ := h
  refine x_callV (ν := M_Bo_hits_) [vI v6] ok_M_Bo_hits_ okv_M_Bo_hits_ (k1.q gw5.k) rfl rfl (qm_2 (i := 190) rfl rfl) np_M_Bo_hits_ rfl ⟨Nat.le_of_ble_eq_true rfl, Nat.le_of_ble_eq_true rfl⟩ (Nat.le_of_ble_eq_true rfl) rfl d_Bo_hits_8 h9 h10 (DP.k h (fun v12 w11 gw11 h => (?_ : WD _ _ 11 _ _ _ _ _ _)))
  exact x_areturn v12 rfl (Or.inl ⟨_, rfl⟩) d_Bo_hits_11 h
set_option maxRecDepth 20000 in
theorem e_Bo_hits_ {G : Gq} {K : Option Nat → Wd → Prop} {w : Wd} {mc ms : Nat} (x0 : Nat) (x1 : Int) (h : (1 ≤ mc) ∧ (3 ≤ ms) ∧ ∀ q3 : Nat, Fr G w q3 → (DV G M_Al_init [vA q3] (uN w q3 (kO 14)) 0 0 (fun w5 => ∃ c7 s8 : Nat, c7 ≤ (mc - 1) ∧ s8 ≤ (ms - 3) ∧ ((Is G w5 x0 (kO 11)) ∧ DP G M_Bo_owners [vA x0] w5 c7 s8 (fun v13 w12 => WD G M_Bo_hits_ 16 [(0, vA x0), (1, vI x1), (2, vA q3), (3, vP v13), (4, vI 0)] [] w12 ((mc - 1) - c7) ((ms - 3) - s8) (yP K)))))) : DP G M_Bo_hits_ [vA x0, vI x1] w mc ms K := by
  refine DC.of ok_M_Bo_hits_ (ls := [(0, vA x0), (1, vI x1)]) rfl (Nat.le_of_ble_eq_true rfl) ?_
  obtain ⟨h1, h⟩ := h
  obtain ⟨h2, h⟩ := h
  refine x_new d_Bo_hits__0 clk_14 tyJx4a65c_ok (qm_2 (i := 125) rfl rfl) (qm_2 (i := 126) rfl rfl) (qm_1 (i := 15) rfl rfl) hfd_14 h1 h2 (fun q3 fq3 => (?_ : WD _ _ 3 _ _ _ _ _ _))
  replace h := h q3 fq3
  have k4 : Ow (uN w q3 (kO 14)) q3 (kO 14) := Ow.nw
  refine x_dup d_Bo_hits__3 rfl (?_ : WD _ _ 4 _ _ _ _ _ _)
  refine x_callI (ν := M_Al_init) [] ok_M_Al_init oki_M_Al_init rfl rfl (qm_2 (i := 127) rfl rfl) np_M_Al_init rfl ⟨Nat.le_of_ble_eq_true rfl, Nat.le_of_ble_eq_true rfl⟩ (Nat.le_of_ble_eq_true rfl) rfl d_Bo_hits__4 (Nat.zero_le _) (Nat.zero_le _) (DV.k h (fun w5 gw5 h => (?_ : WD _ _ 7 _ _ _ _ _ _)))
  refine x_astore_nP (some q3) (ls' := [(2, vA q3), (0, vA x0), (1, vI x1)]) d_Bo_hits__7 rfl (by decide) rfl (?_ : WD _ _ 8 _ _ _ _ _ _)
  refine x_aload_nP (some x0) d_Bo_hits__8 rfl (?_ : WD _ _ 9 _ _ _ _ _ _)
  obtain ⟨c7, s8, h9, h10, h⟩ := h
  obtain ⟨k11, h⟩ := h
  refine x_callV (ν := M_Bo_owners) [] ok_M_Bo_owners okv_M_Bo_owners k11 rfl rfl (qm_2 (i := 194) rfl rfl) np_M_Bo_owners rfl ⟨Nat.le_of_ble_eq_true rfl, Nat.le_of_ble_eq_true rfl⟩ (Nat.le_of_ble_eq_true rfl) rfl d_Bo_hits__9 h9 h10 (DP.k h (fun v13 w12 gw12 h => (?_ : WD _ _ 12 _ _ _ _ _ _)))
  refine x_astore_nP v13 (ls' := [(3, vP v13), (2, vA q3), (0, vA x0), (1, vI x1)]) d_Bo_hits__12 rfl (by decide) rfl (?_ : WD _ _ 13 _ _ _ _ _ _)
  refine x_iconst d_Bo_hits__13 (by decide) (?_ : WD _ _ 14 _ _ _ _ _ _)
  refine x_istore (ls' := [(4, vI 0), (3, vP v13), (2, vA q3), (0, vA x0), (1, vI x1)]) d_Bo_hits__14 (by decide) rfl (?_ : WD _ _ 16 _ _ _ _ _ _)
  refine x_pick (ls' := [(0, vA x0), (1, vI x1), (2, vA q3), (3, vP v13), (4, vI 0)]) [3, 4, 2, 1, 0] rfl ?_
  exact h
set_option maxRecDepth 20000 in
theorem l_Bo_hits__1 {G : Gq} {K : Option Nat → Wd → Prop} {w : Wd} {rc rs : Nat} (x0 : Nat) (x1 : Int) (x2 : Nat) (x3 : Option Nat) (x4 : Int) (h : (x1 ≤ x4 → K (some x2) w) ∧ (¬ x1 ≤ x4 → (Is G w x0 (kO 11)) ∧ ∃ a16 : Nat, (wR w x0 1) = some a16 ∧ ((Is G w a16 (kO 14)) ∧ DP G M_Al_get [vA a16, vI x4] w 0 0 (fun v20 w19 => ∃ a21 : Nat, v20 = some a21 ∧ ((Is G w19 a21 (kO 16)) ∧ DI G M_In_intValue [vA a21] w19 0 0 (fun v25 w24 => WD G M_Bo_hits_ 39 [(0, vA x0), (1, vI x1), (2, vA x2), (3, vP x3), (4, vI x4), (5, vI v25)] [] w24 rc rs (yP K))))))) : WD G M_Bo_hits_ 16 [(0, vA x0), (1, vI x1), (2, vA x2), (3, vP x3), (4, vI x4)] [] w rc rs (yP K) := by
  refine x_iload d_Bo_hits__16 rfl (?_ : WD _ _ 18 _ _ _ _ _ _)
  refine x_iload_n d_Bo_hits__18 rfl (?_ : WD _ _ 19 _ _ _ _ _ _)
  refine x_icmp_ge 86 d_Bo_hits__19 rfl ⟨fun c14 => (?_ : WD _ _ 86 _ _ _ _ _ _), fun c14 => (?_ : WD _ _ 22 _ _ _ _ _ _)⟩
  · replace h := h.1 c14
    refine x_aload_nP (some x2) d_Bo_hits__86 rfl (?_ : WD _ _ 87 _ _ _ _ _ _)
    exact x_areturn (some x2) rfl (Or.inl ⟨_, rfl⟩) d_Bo_hits__87 h
  · replace h := h.2 c14
    refine x_aload_nP (some x0) d_Bo_hits__22 rfl (?_ : WD _ _ 23 _ _ _ _ _ _)
    obtain ⟨k15, h⟩ := h
    refine x_getP (ref := "CoinSamplerLaw$Books") (j := 1) 1 k15 clk_11 (by decide) (qm_2 (i := 157) rfl rfl) (Or.inl rfl) rfl rfl d_Bo_hits__23 (y := (wR w x0 1)) rfl (?_ : WD _ _ 26 _ _ _ _ _ _)
    refine x_iload d_Bo_hits__26 rfl (?_ : WD _ _ 28 _ _ _ _ _ _)
    obtain ⟨a16, e17, h⟩ := h
    rw [e17]
    obtain ⟨k18, h⟩ := h
    refine x_callV (ν := M_Al_get) [vI x4] ok_M_Al_get okv_M_Al_get k18 rfl rfl (qm_3 (i := 58) rfl rfl) np_M_Al_get rfl ⟨Nat.le_of_ble_eq_true rfl, Nat.le_of_ble_eq_true rfl⟩ (Nat.le_of_ble_eq_true rfl) rfl d_Bo_hits__28 (Nat.zero_le _) (Nat.zero_le _) (DP.k h (fun v20 w19 gw19 h => (?_ : WD _ _ 31 _ _ _ _ _ _)))
    obtain ⟨a21, e22, h⟩ := h
    rw [e22]
    obtain ⟨k23, h⟩ := h
    refine x_cast k23 rfl (Or.inl rfl) (qm_3 (i := 72) rfl rfl) d_Bo_hits__31 (?_ : WD _ _ 34 _ _ _ _ _ _)
    refine x_callV (ν := M_In_intValue) [] ok_M_In_intValue okv_M_In_intValue k23 rfl rfl (qm_3 (i := 73) rfl rfl) np_M_In_intValue rfl ⟨Nat.le_of_ble_eq_true rfl, Nat.le_of_ble_eq_true rfl⟩ (Nat.le_of_ble_eq_true rfl) rfl d_Bo_hits__34 (Nat.zero_le _) (Nat.zero_le _) (DI.k h (fun v25 w24 gw24 h => (?_ : WD _ _ 37 _ _ _ _ _ _)))
    refine x_istore (ls' := [(5, vI v25), (0, vA x0), (1, vI x1), (2, vA x2), (3, vP x3), (4, vI x4)]) d_Bo_hits__37 (by decide) rfl (?_ : WD _ _ 39 _ _ _ _ _ _)
    refine x_pick (ls' := [(0, vA x0), (1, vI x1), (2, vA x2), (3, vP x3), (4, vI x4), (5, vI v25)]) [1, 2, 3, 4, 5, 0] rfl ?_
    exact h
set_option maxRecDepth 20000 in
theorem l_Bo_hits__2 {G : Gq} {K : Option Nat → Wd → Prop} {w : Wd} {rc rs : Nat} (x0 : Nat) (x1 : Int) (x2 : Nat) (x3 : Option Nat) (x4 : Int) (x5 : Int) (h : ∃ a26 : Nat, x3 = some a26 ∧ (∃ n28 : Nat, ((Is G w a26 (kA 0 n28)) ∧ (inR (n28 : Int)) ∧ ((n28 : Int) < x5 → (inR (x4 + 1)) ∧ WD G M_Bo_hits_ 16 [(0, vA x0), (1, vI x1), (2, vA x2), (3, vP (some a26)), (4, vI (x4 + 1))] [] w rc rs (yP K)) ∧ (¬ (n28 : Int) < x5 → (1 ≤ rc) ∧ (3 ≤ rs) ∧ ∀ q35 : Nat, Fr G w q35 → ((inR (x5 - 1)) ∧ (0 ≤ (x5 - 1)) ∧ ((x5 - 1) < (n28 : Int)) ∧ DV G M_Hi_init [vA q35, vI (wI w a26 (x5 - 1)), vI x5, vI x4] (uN w q35 (kO 12)) 0 0 (fun w40 => ∃ c42 s43 : Nat, c42 ≤ (rc - 1) ∧ s43 ≤ (rs - 3) ∧ ((Is G w40 x2 (kO 14)) ∧ DI G M_Al_add_9ea2d [vA x2, vA q35] w40 c42 s43 (fun v48 w47 => (Is G w47 x0 (kO 11)) ∧ (inR (x5 + (wI w47 x0 3))) ∧ WD G M_Bo_hits_ 39 [(0, vA x0), (1, vI x1), (2, vA x2), (3, vP (some a26)), (4, vI x4), (5, vI (x5 + (wI w47 x0 3)))] [] w47 ((rc - 1) - c42) ((rs - 3) - s43) (yP K))))))))) : WD G M_Bo_hits_ 39 [(0, vA x0), (1, vI x1), (2, vA x2), (3, vP x3), (4, vI x4), (5, vI x5)] [] w rc rs (yP K) := by
  refine x_iload d_Bo_hits__39 rfl (?_ : WD _ _ 41 _ _ _ _ _ _)
  refine x_aload_nP x3 d_Bo_hits__41 rfl (?_ : WD _ _ 42 _ _ _ _ _ _)
  obtain ⟨a26, e27, h⟩ := h
  rw [e27]
  obtain ⟨n28, h⟩ := h
  obtain ⟨k29, h⟩ := h
  obtain ⟨h30, h⟩ := h
  refine x_alenA k29 (fun _ => rfl) h30 d_Bo_hits__42 (?_ : WD _ _ 43 _ _ _ _ _ _)
  refine x_icmp_gt 80 d_Bo_hits__43 rfl ⟨fun c31 => (?_ : WD _ _ 80 _ _ _ _ _ _), fun c31 => (?_ : WD _ _ 46 _ _ _ _ _ _)⟩
  · replace h := h.1 c31
    obtain ⟨h32, h⟩ := h
    refine x_iinc (ls' := [(4, vI (x4 + 1)), (0, vA x0), (1, vI x1), (2, vA x2), (3, vA a26), (5, vI x5)]) d_Bo_hits__80 rfl h32 (by decide) rfl (?_ : WD _ _ 83 _ _ _ _ _ _)
    refine x_goto 16 d_Bo_hits__83 rfl ?_
    refine x_pick (ls' := [(0, vA x0), (1, vI x1), (2, vA x2), (3, vP (some a26)), (4, vI (x4 + 1))]) [1, 2, 3, 4, 0] rfl ?_
    exact h
  · replace h := h.2 c31
    refine x_aload_nP (some x2) d_Bo_hits__46 rfl (?_ : WD _ _ 47 _ _ _ _ _ _)
    obtain ⟨h33, h⟩ := h
    obtain ⟨h34, h⟩ := h
    refine x_new d_Bo_hits__47 clk_12 tyX12_ok (qm_3 (i := 77) rfl rfl) (qm_3 (i := 78) rfl rfl) (qm_1 (i := 32) rfl rfl) hfd_12 h33 h34 (fun q35 fq35 => (?_ : WD _ _ 50 _ _ _ _ _ _))
    replace h := h q35 fq35
    have k36 : Ow (uN w q35 (kO 12)) q35 (kO 12) := Ow.nw
    refine x_dup d_Bo_hits__50 rfl (?_ : WD _ _ 51 _ _ _ _ _ _)
    refine x_aload_nP (some a26) d_Bo_hits__51 rfl (?_ : WD _ _ 52 _ _ _ _ _ _)
    refine x_iload d_Bo_hits__52 rfl (?_ : WD _ _ 54 _ _ _ _ _ _)
    refine x_iconst d_Bo_hits__54 (by decide) (?_ : WD _ _ 55 _ _ _ _ _ _)
    obtain ⟨h37, h⟩ := h
    refine x_isub d_Bo_hits__55 h37 (?_ : WD _ _ 56 _ _ _ _ _ _)
    obtain ⟨h38, h⟩ := h
    obtain ⟨h39, h⟩ := h
    refine x_iald (k29.nu fq35) d_Bo_hits__56 h38 h39 (y := (wI w a26 (x5 - 1))) (wI_uN (fq35.ne k29)) (?_ : WD _ _ 57 _ _ _ _ _ _)
    refine x_iload d_Bo_hits__57 rfl (?_ : WD _ _ 59 _ _ _ _ _ _)
    refine x_iload d_Bo_hits__59 rfl (?_ : WD _ _ 61 _ _ _ _ _ _)
    refine x_callI (ν := M_Hi_init) [vI (wI w a26 (x5 - 1)), vI x5, vI x4] ok_M_Hi_init oki_M_Hi_init rfl rfl (qm_3 (i := 79) rfl rfl) np_M_Hi_init rfl ⟨Nat.le_of_ble_eq_true rfl, Nat.le_of_ble_eq_true rfl⟩ (Nat.le_of_ble_eq_true rfl) rfl d_Bo_hits__61 (Nat.zero_le _) (Nat.zero_le _) (DV.k h (fun w40 gw40 h => (?_ : WD _ _ 64 _ _ _ _ _ _)))
    obtain ⟨c42, s43, h44, h45, h⟩ := h
    obtain ⟨k46, h⟩ := h
    refine x_callV (ν := M_Al_add_9ea2d) [vA q35] ok_M_Al_add_9ea2d okv_M_Al_add_9ea2d k46 rfl rfl (qm_3 (i := 97) rfl rfl) np_M_Al_add_9ea2d rfl ⟨Nat.le_of_ble_eq_true rfl, Nat.le_of_ble_eq_true rfl⟩ (Nat.le_of_ble_eq_true rfl) rfl d_Bo_hits__64 h44 h45 (DI.k h (fun v48 w47 gw47 h => (?_ : WD _ _ 67 _ _ _ _ _ _)))
    refine x_pop d_Bo_hits__67 rfl (?_ : WD _ _ 68 _ _ _ _ _ _)
    refine x_iload d_Bo_hits__68 rfl (?_ : WD _ _ 70 _ _ _ _ _ _)
    refine x_aload_nP (some x0) d_Bo_hits__70 rfl (?_ : WD _ _ 71 _ _ _ _ _ _)
    obtain ⟨k49, h⟩ := h
    refine x_getI (ref := "CoinSamplerLaw$Books") (j := 3) 3 k49 clk_11 (by decide) (qm_2 (i := 161) rfl rfl) (Or.inl rfl) rfl rfl d_Bo_hits__71 (y := (wI w47 x0 3)) rfl (?_ : WD _ _ 74 _ _ _ _ _ _)
    obtain ⟨h50, h⟩ := h
    refine x_iadd d_Bo_hits__74 h50 (?_ : WD _ _ 75 _ _ _ _ _ _)
    refine x_istore (ls' := [(5, vI (x5 + (wI w47 x0 3))), (0, vA x0), (1, vI x1), (2, vA x2), (3, vA a26), (4, vI x4)]) d_Bo_hits__75 (by decide) rfl (?_ : WD _ _ 77 _ _ _ _ _ _)
    refine x_goto 39 d_Bo_hits__77 rfl ?_
    refine x_pick (ls' := [(0, vA x0), (1, vI x1), (2, vA x2), (3, vP (some a26)), (4, vI x4), (5, vI (x5 + (wI w47 x0 3)))]) [1, 2, 3, 4, 5, 0] rfl ?_
    exact h
set_option maxRecDepth 20000 in
theorem e_Bo_size {G : Gq} {K : Int → Wd → Prop} {w : Wd} {mc ms : Nat} (x0 : Nat) (x1 : Int) (x2 : Int) (h : ∃ c1 s2 : Nat, c1 ≤ mc ∧ s2 ≤ ms ∧ ((Is G w x0 (kO 11)) ∧ DI G M_Bo_allCoins [vA x0] w c1 s2 (fun v7 w6 => WD G M_Bo_size 9 [(0, vA x0), (1, vI x1), (2, vI x2), (3, vL v7), (5, vI 1)] [] w6 (mc - c1) (ms - s2) (yI K)))) : DI G M_Bo_size [vA x0, vI x1, vI x2] w mc ms K := by
  refine DC.of ok_M_Bo_size (ls := [(0, vA x0), (1, vI x1), (2, vI x2)]) rfl (Nat.le_of_ble_eq_true rfl) ?_
  refine x_aload_nP (some x0) d_Bo_size_0 rfl (?_ : WD _ _ 1 _ _ _ _ _ _)
  obtain ⟨c1, s2, h3, h4, h⟩ := h
  obtain ⟨k5, h⟩ := h
  refine x_callV (ν := M_Bo_allCoins) [] ok_M_Bo_allCoins okv_M_Bo_allCoins k5 rfl rfl (qm_5 (i := 194) rfl rfl) np_M_Bo_allCoins rfl ⟨Nat.le_of_ble_eq_true rfl, Nat.le_of_ble_eq_true rfl⟩ (Nat.le_of_ble_eq_true rfl) rfl d_Bo_size_1 h3 h4 (DI.k h (fun v7 w6 gw6 h => (?_ : WD _ _ 4 _ _ _ _ _ _)))
  refine x_i2l d_Bo_size_4 (?_ : WD _ _ 5 _ _ _ _ _ _)
  refine x_lstore_n (ls' := [(3, vL v7), (0, vA x0), (1, vI x1), (2, vI x2)]) d_Bo_size_5 rfl (by decide) rfl (?_ : WD _ _ 6 _ _ _ _ _ _)
  refine x_iconst d_Bo_size_6 (by decide) (?_ : WD _ _ 7 _ _ _ _ _ _)
  refine x_istore (ls' := [(5, vI 1), (3, vL v7), (0, vA x0), (1, vI x1), (2, vI x2)]) d_Bo_size_7 (by decide) rfl (?_ : WD _ _ 9 _ _ _ _ _ _)
  refine x_pick (ls' := [(0, vA x0), (1, vI x1), (2, vI x2), (3, vL v7), (5, vI 1)]) [2, 3, 4, 1, 0] rfl ?_
  exact h
set_option maxRecDepth 20000 in
theorem l_Bo_size_1 {G : Gq} {K : Int → Wd → Prop} {w : Wd} {rc rs : Nat} (x0 : Nat) (x1 : Int) (x2 : Int) (x3 : Int) (x5 : Int) (h : (401 ≤ x5 → K (-1) w) ∧ (¬ 401 ≤ x5 → (Is G w x0 (kO 11)) ∧ ∃ a10 : Nat, (wR w x0 2) = some a10 ∧ (∃ n12 : Nat, ((Is G w a10 (kA 0 n12)) ∧ (1 < (n12 : Int)) ∧ DI G M_Bo_upper [vI x5, vI x2, vI (wI w a10 1)] w 0 0 (fun v16 w15 => (inL (x3 * v16)) ∧ (0 ≤ (x3 * v16)) ∧ ((lcq ((x3 * v16) / 1000000) x1) ≤ 0 → K x5 w15) ∧ (¬ (lcq ((x3 * v16) / 1000000) x1) ≤ 0 → (inR (x5 + 1)) ∧ WD G M_Bo_size 9 [(0, vA x0), (1, vI x1), (2, vI x2), (3, vL x3), (5, vI (x5 + 1))] [] w15 rc rs (yI K))))))) : WD G M_Bo_size 9 [(0, vA x0), (1, vI x1), (2, vI x2), (3, vL x3), (5, vI x5)] [] w rc rs (yI K) := by
  refine x_iload d_Bo_size_9 rfl (?_ : WD _ _ 11 _ _ _ _ _ _)
  refine x_sipush d_Bo_size_11 (by decide) (by decide) (?_ : WD _ _ 14 _ _ _ _ _ _)
  refine x_icmp_ge 48 d_Bo_size_14 rfl ⟨fun c8 => (?_ : WD _ _ 48 _ _ _ _ _ _), fun c8 => (?_ : WD _ _ 17 _ _ _ _ _ _)⟩
  · replace h := h.1 c8
    refine x_iload d_Bo_size_48 rfl (?_ : WD _ _ 50 _ _ _ _ _ _)
    refine x_sipush d_Bo_size_50 (by decide) (by decide) (?_ : WD _ _ 53 _ _ _ _ _ _)
    refine x_icmp_ge 61 d_Bo_size_53 rfl ⟨fun hc => (?_ : WD _ _ 61 _ _ _ _ _ _), fun hc => absurd c8 hc⟩
    refine x_iconst d_Bo_size_61 (by decide) (?_ : WD _ _ 62 _ _ _ _ _ _)
    exact x_ireturn rfl d_Bo_size_62 h
  · replace h := h.2 c8
    refine x_lload_n d_Bo_size_17 rfl (?_ : WD _ _ 18 _ _ _ _ _ _)
    refine x_iload d_Bo_size_18 rfl (?_ : WD _ _ 20 _ _ _ _ _ _)
    refine x_iload_n d_Bo_size_20 rfl (?_ : WD _ _ 21 _ _ _ _ _ _)
    refine x_aload_nP (some x0) d_Bo_size_21 rfl (?_ : WD _ _ 22 _ _ _ _ _ _)
    obtain ⟨k9, h⟩ := h
    refine x_getP (ref := "CoinSamplerLaw$Books") (j := 2) 2 k9 clk_11 (by decide) (qm_2 (i := 159) rfl rfl) (Or.inl rfl) rfl rfl d_Bo_size_22 (y := (wR w x0 2)) rfl (?_ : WD _ _ 25 _ _ _ _ _ _)
    refine x_iconst d_Bo_size_25 (by decide) (?_ : WD _ _ 26 _ _ _ _ _ _)
    obtain ⟨a10, e11, h⟩ := h
    rw [e11]
    obtain ⟨n12, h⟩ := h
    obtain ⟨k13, h⟩ := h
    obtain ⟨h14, h⟩ := h
    refine x_iald k13 d_Bo_size_26 (by decide) h14 (y := (wI w a10 1)) rfl (?_ : WD _ _ 27 _ _ _ _ _ _)
    refine x_callS (ν := M_Bo_upper) [vI x5, vI x2, vI (wI w a10 1)] ok_M_Bo_upper oks_M_Bo_upper (qm_5 (i := 198) rfl rfl) np_M_Bo_upper rfl ⟨Nat.le_of_ble_eq_true rfl, Nat.le_of_ble_eq_true rfl⟩ (Nat.le_of_ble_eq_true rfl) rfl d_Bo_size_27 (Nat.zero_le _) (Nat.zero_le _) (DI.k h (fun v16 w15 gw15 h => (?_ : WD _ _ 30 _ _ _ _ _ _)))
    refine x_i2l d_Bo_size_30 (?_ : WD _ _ 31 _ _ _ _ _ _)
    obtain ⟨h17, h⟩ := h
    refine x_lmul d_Bo_size_31 h17 (?_ : WD _ _ 32 _ _ _ _ _ _)
    refine x_ldc2 1000000 d_Bo_size_32 (qm_5 (i := 204) rfl rfl) (by decide) (by decide) (?_ : WD _ _ 35 _ _ _ _ _ _)
    obtain ⟨h18, h⟩ := h
    refine x_ldivn d_Bo_size_35 h18 (by decide) (?_ : WD _ _ 36 _ _ _ _ _ _)
    refine x_iload_n d_Bo_size_36 rfl (?_ : WD _ _ 37 _ _ _ _ _ _)
    refine x_i2l d_Bo_size_37 (?_ : WD _ _ 38 _ _ _ _ _ _)
    refine x_lcmp d_Bo_size_38 (?_ : WD _ _ 39 _ _ _ _ _ _)
    refine x_if_le 48 d_Bo_size_39 rfl ⟨fun c19 => (?_ : WD _ _ 48 _ _ _ _ _ _), fun c19 => (?_ : WD _ _ 42 _ _ _ _ _ _)⟩
    · replace h := h.1 c19
      refine x_iload d_Bo_size_48 rfl (?_ : WD _ _ 50 _ _ _ _ _ _)
      refine x_sipush d_Bo_size_50 (by decide) (by decide) (?_ : WD _ _ 53 _ _ _ _ _ _)
      refine x_icmp_ge 61 d_Bo_size_53 rfl ⟨fun hc => absurd hc c8, fun hc => (?_ : WD _ _ 56 _ _ _ _ _ _)⟩
      refine x_iload d_Bo_size_56 rfl (?_ : WD _ _ 58 _ _ _ _ _ _)
      refine x_goto 62 d_Bo_size_58 rfl ?_
      exact x_ireturn rfl d_Bo_size_62 h
    · replace h := h.2 c19
      obtain ⟨h20, h⟩ := h
      refine x_iinc (ls' := [(5, vI (x5 + 1)), (0, vA x0), (1, vI x1), (2, vI x2), (3, vL x3)]) d_Bo_size_42 rfl h20 (by decide) rfl (?_ : WD _ _ 45 _ _ _ _ _ _)
      refine x_goto 9 d_Bo_size_45 rfl ?_
      refine x_pick (ls' := [(0, vA x0), (1, vI x1), (2, vI x2), (3, vL x3), (5, vI (x5 + 1))]) [1, 2, 3, 4, 0] rfl ?_
      exact h
set_option maxRecDepth 20000 in
theorem e_Bo_allCoins {G : Gq} {K : Int → Wd → Prop} {w : Wd} {mc ms : Nat} (x0 : Nat) (h : (Is G w x0 (kO 11)) ∧ ∃ a2 : Nat, (wR w x0 0) = some a2 ∧ (∃ c4 s5 : Nat, c4 ≤ mc ∧ s5 ≤ ms ∧ ((Is G w a2 (kO 14)) ∧ DP G M_Al_iterator [vA a2] w c4 s5 (fun v10 w9 => WD G M_Bo_allCoins 10 [(1, vI 0), (2, vP v10)] [] w9 (mc - c4) (ms - s5) (yI K))))) : DI G M_Bo_allCoins [vA x0] w mc ms K := by
  refine DC.of ok_M_Bo_allCoins (ls := [(0, vA x0)]) rfl (Nat.le_of_ble_eq_true rfl) ?_
  refine x_iconst d_Bo_allCoins_0 (by decide) (?_ : WD _ _ 1 _ _ _ _ _ _)
  refine x_istore_n (ls' := [(1, vI 0), (0, vA x0)]) d_Bo_allCoins_1 rfl (by decide) rfl (?_ : WD _ _ 2 _ _ _ _ _ _)
  refine x_aload_nP (some x0) d_Bo_allCoins_2 rfl (?_ : WD _ _ 3 _ _ _ _ _ _)
  obtain ⟨k1, h⟩ := h
  refine x_getP (ref := "CoinSamplerLaw$Books") (j := 0) 0 k1 clk_11 (by decide) (qm_2 (i := 155) rfl rfl) (Or.inl rfl) rfl rfl d_Bo_allCoins_3 (y := (wR w x0 0)) rfl (?_ : WD _ _ 6 _ _ _ _ _ _)
  obtain ⟨a2, e3, h⟩ := h
  rw [e3]
  obtain ⟨c4, s5, h6, h7, h⟩ := h
  obtain ⟨k8, h⟩ := h
  refine x_callV (ν := M_Al_iterator) [] ok_M_Al_iterator okv_M_Al_iterator k8 rfl rfl (qm_2 (i := 198) rfl rfl) np_M_Al_iterator rfl ⟨Nat.le_of_ble_eq_true rfl, Nat.le_of_ble_eq_true rfl⟩ (Nat.le_of_ble_eq_true rfl) rfl d_Bo_allCoins_6 h6 h7 (DP.k h (fun v10 w9 gw9 h => (?_ : WD _ _ 9 _ _ _ _ _ _)))
  refine x_astore_nP v10 (ls' := [(2, vP v10), (1, vI 0), (0, vA x0)]) d_Bo_allCoins_9 rfl (by decide) rfl (?_ : WD _ _ 10 _ _ _ _ _ _)
  refine x_pick (ls' := [(1, vI 0), (2, vP v10)]) [1, 0] rfl ?_
  exact h
set_option maxRecDepth 20000 in
theorem l_Bo_allCoins_1 {G : Gq} {K : Int → Wd → Prop} {w : Wd} {rc rs : Nat} (x1 : Int) (x2 : Option Nat) (h : ∃ a11 : Nat, x2 = some a11 ∧ ((Is G w a11 (kO 15)) ∧ DI G M_Ai_hasNext [vA a11] w 0 0 (fun v15 w14 => (v15 = 0 → K x1 w14) ∧ (¬ v15 = 0 → DP G M_Ai_next [vA a11] w14 0 0 (fun v18 w17 => ∃ a19 : Nat, v18 = some a19 ∧ ((Is G w17 a19 (kO 13)) ∧ DI G M_It_coins [vA a19] w17 0 0 (fun v23 w22 => (inR (x1 + v23)) ∧ WD G M_Bo_allCoins 10 [(1, vI (x1 + v23)), (2, vP (some a11))] [] w22 rc rs (yI K)))))))) : WD G M_Bo_allCoins 10 [(1, vI x1), (2, vP x2)] [] w rc rs (yI K) := by
  refine x_aload_nP x2 d_Bo_allCoins_10 rfl (?_ : WD _ _ 11 _ _ _ _ _ _)
  obtain ⟨a11, e12, h⟩ := h
  rw [e12]
  obtain ⟨k13, h⟩ := h
  refine x_callF (ν := M_Ai_hasNext) ⟨"java/util/Iterator", "hasNext", "()Z"⟩ [] ok_M_Ai_hasNext oki_M_Ai_hasNext k13 rfl (qm_2 (i := 226) rfl rfl) (by decide) (qm_2 (i := 222) rfl rfl) (show _ = some 0 from by decide +kernel) rfl ⟨Nat.le_of_ble_eq_true rfl, Nat.le_of_ble_eq_true rfl⟩ (Nat.le_of_ble_eq_true rfl) rfl d_Bo_allCoins_11 (Nat.zero_le _) (Nat.zero_le _) (DI.k h (fun v15 w14 gw14 h => (?_ : WD _ _ 16 _ _ _ _ _ _)))
  refine x_if_eq 39 d_Bo_allCoins_16 rfl ⟨fun c16 => (?_ : WD _ _ 39 _ _ _ _ _ _), fun c16 => (?_ : WD _ _ 19 _ _ _ _ _ _)⟩
  · replace h := h.1 c16
    refine x_iload_n d_Bo_allCoins_39 rfl (?_ : WD _ _ 40 _ _ _ _ _ _)
    exact x_ireturn rfl d_Bo_allCoins_40 h
  · replace h := h.2 c16
    refine x_aload_nP (some a11) d_Bo_allCoins_19 rfl (?_ : WD _ _ 20 _ _ _ _ _ _)
    refine x_callF (ν := M_Ai_next) ⟨"java/util/Iterator", "next", "()Ljava/lang/Object;"⟩ [] ok_M_Ai_next oki_M_Ai_next (k13.q gw14.k) rfl (qm_3 (i := 7) rfl rfl) (by decide) (qm_3 (i := 4) rfl rfl) (show _ = some 0 from by decide +kernel) rfl ⟨Nat.le_of_ble_eq_true rfl, Nat.le_of_ble_eq_true rfl⟩ (Nat.le_of_ble_eq_true rfl) rfl d_Bo_allCoins_20 (Nat.zero_le _) (Nat.zero_le _) (DP.k h (fun v18 w17 gw17 h => (?_ : WD _ _ 25 _ _ _ _ _ _)))
    obtain ⟨a19, e20, h⟩ := h
    rw [e20]
    obtain ⟨k21, h⟩ := h
    refine x_cast k21 rfl (Or.inl rfl) (qm_3 (i := 45) rfl rfl) d_Bo_allCoins_25 (?_ : WD _ _ 28 _ _ _ _ _ _)
    refine x_astore_nP (some a19) (ls' := [(3, vA a19), (1, vI x1), (2, vA a11)]) d_Bo_allCoins_28 rfl (by decide) rfl (?_ : WD _ _ 29 _ _ _ _ _ _)
    refine x_iload_n d_Bo_allCoins_29 rfl (?_ : WD _ _ 30 _ _ _ _ _ _)
    refine x_aload_nP (some a19) d_Bo_allCoins_30 rfl (?_ : WD _ _ 31 _ _ _ _ _ _)
    refine x_callV (ν := M_It_coins) [] ok_M_It_coins okv_M_It_coins k21 rfl rfl (qm_3 (i := 50) rfl rfl) np_M_It_coins rfl ⟨Nat.le_of_ble_eq_true rfl, Nat.le_of_ble_eq_true rfl⟩ (Nat.le_of_ble_eq_true rfl) rfl d_Bo_allCoins_31 (Nat.zero_le _) (Nat.zero_le _) (DI.k h (fun v23 w22 gw22 h => (?_ : WD _ _ 34 _ _ _ _ _ _)))
    obtain ⟨h24, h⟩ := h
    refine x_iadd d_Bo_allCoins_34 h24 (?_ : WD _ _ 35 _ _ _ _ _ _)
    refine x_istore_n (ls' := [(1, vI (x1 + v23)), (3, vA a19), (2, vA a11)]) d_Bo_allCoins_35 rfl (by decide) rfl (?_ : WD _ _ 36 _ _ _ _ _ _)
    refine x_goto 10 d_Bo_allCoins_36 rfl ?_
    refine x_pick (ls' := [(1, vI (x1 + v23)), (2, vP (some a11))]) [0, 2] rfl ?_
    exact h
set_option maxRecDepth 20000 in
theorem e_Bo_draws {G : Gq} {K : Int → Wd → Prop} {w : Wd} {mc ms : Nat} (x0 : Nat) (h : WD G M_Bo_draws 4 [(0, vA x0), (1, vI 0), (2, vI 0)] [] w mc ms (yI K)) : DI G M_Bo_draws [vA x0] w mc ms K := by
  refine DC.of ok_M_Bo_draws (ls := [(0, vA x0)]) rfl (Nat.le_of_ble_eq_true rfl) ?_
  refine x_iconst d_Bo_draws_0 (by decide) (?_ : WD _ _ 1 _ _ _ _ _ _)
  refine x_istore_n (ls' := [(1, vI 0), (0, vA x0)]) d_Bo_draws_1 rfl (by decide) rfl (?_ : WD _ _ 2 _ _ _ _ _ _)
  refine x_iconst d_Bo_draws_2 (by decide) (?_ : WD _ _ 3 _ _ _ _ _ _)
  refine x_istore_n (ls' := [(2, vI 0), (1, vI 0), (0, vA x0)]) d_Bo_draws_3 rfl (by decide) rfl (?_ : WD _ _ 4 _ _ _ _ _ _)
  refine x_pick (ls' := [(0, vA x0), (1, vI 0), (2, vI 0)]) [2, 1, 0] rfl ?_
  exact h
set_option maxRecDepth 20000 in
theorem l_Bo_draws_1 {G : Gq} {K : Int → Wd → Prop} {w : Wd} {rc rs : Nat} (x0 : Nat) (x1 : Int) (x2 : Int) (h : (50 ≤ x2 → (Is G w x0 (kO 11)) ∧ ∃ c3 s4 : Nat, c3 ≤ rc ∧ s4 ≤ rs ∧ (DP G M_In_valueOf [vI x1] w c3 s4 (fun v8 w7 => ∃ a9 : Nat, (wR w x0 1) = some a9 ∧ (∃ a11 : Nat, v8 = some a11 ∧ ((Is G w7 a9 (kO 14)) ∧ DI G M_Al_contains [vA a9, vA a11] w7 0 0 (fun v15 w14 => (v15 = 0 → ∃ c17 s18 : Nat, c17 ≤ (rc - c3) ∧ s18 ≤ (rs - s4) ∧ (DP G M_In_valueOf [vI x1] w14 c17 s18 (fun v22 w21 => ∃ a23 : Nat, (wR w14 x0 1) = some a23 ∧ (∃ a25 : Nat, v22 = some a25 ∧ (∃ c27 s28 : Nat, c27 ≤ ((rc - c3) - c17) ∧ s28 ≤ ((rs - s4) - s18) ∧ ((Is G w21 a23 (kO 14)) ∧ DI G M_Al_add_9ea2d [vA a23, vA a25] w21 c27 s28 (fun v33 w32 => K x1 w32))))))) ∧ (¬ v15 = 0 → WD G M_Bo_draws 84 [(0, vA x0), (1, vI 1)] [] w14 (rc - c3) (rs - s4) (yI K)))))))) ∧ (¬ 50 ≤ x2 → (x1 = 0 → (Is G w x0 (kO 11)) ∧ (inL ((wI w x0 4) * 1103)) ∧ (inL (((wI w x0 4) * 1103) + 12345)) ∧ (0 ≤ (((wI w x0 4) * 1103) + 12345)) ∧ (inR ((((wI w x0 4) * 1103) + 12345) % 1000003)) ∧ (Ow w x0 (kO 11)) ∧ (0 ≤ ((((wI w x0 4) * 1103) + 12345) % 1000003)) ∧ (0 < (wI w x0 3)) ∧ (inR (1 + (((((wI w x0 4) * 1103) + 12345) % 1000003) % (wI w x0 3)))) ∧ (inR (x2 + 1)) ∧ WD G M_Bo_draws 4 [(0, vA x0), (1, vI (1 + (((((wI w x0 4) * 1103) + 12345) % 1000003) % (wI w x0 3)))), (2, vI (x2 + 1))] [] (uI w x0 4 ((((wI w x0 4) * 1103) + 12345) % 1000003)) rc rs (yI K)) ∧ (¬ x1 = 0 → (Is G w x0 (kO 11)) ∧ ∃ c46 s47 : Nat, c46 ≤ rc ∧ s47 ≤ rs ∧ (DP G M_In_valueOf [vI x1] w c46 s47 (fun v51 w50 => ∃ a52 : Nat, (wR w x0 1) = some a52 ∧ (∃ a54 : Nat, v51 = some a54 ∧ ((Is G w50 a52 (kO 14)) ∧ DI G M_Al_contains [vA a52, vA a54] w50 0 0 (fun v58 w57 => (v58 = 0 → ∃ c60 s61 : Nat, c60 ≤ (rc - c46) ∧ s61 ≤ (rs - s47) ∧ (DP G M_In_valueOf [vI x1] w57 c60 s61 (fun v65 w64 => ∃ a66 : Nat, (wR w57 x0 1) = some a66 ∧ (∃ a68 : Nat, v65 = some a68 ∧ ((Is G w64 a66 (kO 14)) ∧ DI G M_Al_contains [vA a66, vA a68] w64 0 0 (fun v72 w71 => (v72 = 0 → ∃ c74 s75 : Nat, c74 ≤ ((rc - c46) - c60) ∧ s75 ≤ ((rs - s47) - s61) ∧ (DP G M_In_valueOf [vI x1] w71 c74 s75 (fun v79 w78 => ∃ a80 : Nat, (wR w71 x0 1) = some a80 ∧ (∃ a82 : Nat, v79 = some a82 ∧ (∃ c84 s85 : Nat, c84 ≤ (((rc - c46) - c60) - c74) ∧ s85 ≤ (((rs - s47) - s61) - s75) ∧ ((Is G w78 a80 (kO 14)) ∧ DI G M_Al_add_9ea2d [vA a80, vA a82] w78 c84 s85 (fun v90 w89 => K x1 w89))))))) ∧ (¬ v72 = 0 → WD G M_Bo_draws 84 [(0, vA x0), (1, vI 1)] [] w71 ((rc - c46) - c60) ((rs - s47) - s61) (yI K)))))))) ∧ (¬ v58 = 0 → (inL ((wI w57 x0 4) * 1103)) ∧ (inL (((wI w57 x0 4) * 1103) + 12345)) ∧ (0 ≤ (((wI w57 x0 4) * 1103) + 12345)) ∧ (inR ((((wI w57 x0 4) * 1103) + 12345) % 1000003)) ∧ (Ow w57 x0 (kO 11)) ∧ (0 ≤ ((((wI w57 x0 4) * 1103) + 12345) % 1000003)) ∧ (0 < (wI w57 x0 3)) ∧ (inR (1 + (((((wI w57 x0 4) * 1103) + 12345) % 1000003) % (wI w57 x0 3)))) ∧ (inR (x2 + 1)) ∧ WD G M_Bo_draws 4 [(0, vA x0), (1, vI (1 + (((((wI w57 x0 4) * 1103) + 12345) % 1000003) % (wI w57 x0 3)))), (2, vI (x2 + 1))] [] (uI w57 x0 4 ((((wI w57 x0 4) * 1103) + 12345) % 1000003)) (rc - c46) (rs - s47) (yI K)))))))))) : WD G M_Bo_draws 4 [(0, vA x0), (1, vI x1), (2, vI x2)] [] w rc rs (yI K) := by
  refine x_iload_n d_Bo_draws_4 rfl (?_ : WD _ _ 5 _ _ _ _ _ _)
  refine x_bipush d_Bo_draws_5 (by decide) (by decide) (?_ : WD _ _ 7 _ _ _ _ _ _)
  refine x_icmp_ge 68 d_Bo_draws_7 rfl ⟨fun c1 => (?_ : WD _ _ 68 _ _ _ _ _ _), fun c1 => (?_ : WD _ _ 10 _ _ _ _ _ _)⟩
  · replace h := h.1 c1
    refine x_aload_nP (some x0) d_Bo_draws_68 rfl (?_ : WD _ _ 69 _ _ _ _ _ _)
    obtain ⟨k2, h⟩ := h
    refine x_getP (ref := "CoinSamplerLaw$Books") (j := 1) 1 k2 clk_11 (by decide) (qm_2 (i := 157) rfl rfl) (Or.inl rfl) rfl rfl d_Bo_draws_69 (y := (wR w x0 1)) rfl (?_ : WD _ _ 72 _ _ _ _ _ _)
    refine x_iload_n d_Bo_draws_72 rfl (?_ : WD _ _ 73 _ _ _ _ _ _)
    obtain ⟨c3, s4, h5, h6, h⟩ := h
    refine x_callS (ν := M_In_valueOf) [vI x1] ok_M_In_valueOf oks_M_In_valueOf (qm_6 (i := 1) rfl rfl) np_M_In_valueOf rfl ⟨Nat.le_of_ble_eq_true rfl, Nat.le_of_ble_eq_true rfl⟩ (Nat.le_of_ble_eq_true rfl) rfl d_Bo_draws_73 h5 h6 (DP.k h (fun v8 w7 gw7 h => (?_ : WD _ _ 76 _ _ _ _ _ _)))
    obtain ⟨a9, e10, h⟩ := h
    rw [e10]
    obtain ⟨a11, e12, h⟩ := h
    rw [e12]
    obtain ⟨k13, h⟩ := h
    refine x_callV (ν := M_Al_contains) [vA a11] ok_M_Al_contains okv_M_Al_contains k13 rfl rfl (qm_6 (i := 21) rfl rfl) np_M_Al_contains rfl ⟨Nat.le_of_ble_eq_true rfl, Nat.le_of_ble_eq_true rfl⟩ (Nat.le_of_ble_eq_true rfl) rfl d_Bo_draws_76 (Nat.zero_le _) (Nat.zero_le _) (DI.k h (fun v15 w14 gw14 h => (?_ : WD _ _ 79 _ _ _ _ _ _)))
    refine x_if_eq 104 d_Bo_draws_79 rfl ⟨fun c16 => (?_ : WD _ _ 104 _ _ _ _ _ _), fun c16 => (?_ : WD _ _ 82 _ _ _ _ _ _)⟩
    · replace h := h.1 c16
      refine x_aload_nP (some x0) d_Bo_draws_104 rfl (?_ : WD _ _ 105 _ _ _ _ _ _)
      refine x_getP (ref := "CoinSamplerLaw$Books") (j := 1) 1 ((k2.q gw7.k).q gw14.k) clk_11 (by decide) (qm_2 (i := 157) rfl rfl) (Or.inl rfl) rfl rfl d_Bo_draws_105 (y := (wR w14 x0 1)) rfl (?_ : WD _ _ 108 _ _ _ _ _ _)
      refine x_iload_n d_Bo_draws_108 rfl (?_ : WD _ _ 109 _ _ _ _ _ _)
      obtain ⟨c17, s18, h19, h20, h⟩ := h
      refine x_callS (ν := M_In_valueOf) [vI x1] ok_M_In_valueOf oks_M_In_valueOf (qm_6 (i := 1) rfl rfl) np_M_In_valueOf rfl ⟨Nat.le_of_ble_eq_true rfl, Nat.le_of_ble_eq_true rfl⟩ (Nat.le_of_ble_eq_true rfl) rfl d_Bo_draws_109 h19 h20 (DP.k h (fun v22 w21 gw21 h => (?_ : WD _ _ 112 _ _ _ _ _ _)))
      obtain ⟨a23, e24, h⟩ := h
      rw [e24]
      obtain ⟨a25, e26, h⟩ := h
      rw [e26]
      obtain ⟨c27, s28, h29, h30, h⟩ := h
      obtain ⟨k31, h⟩ := h
      refine x_callV (ν := M_Al_add_9ea2d) [vA a25] ok_M_Al_add_9ea2d okv_M_Al_add_9ea2d k31 rfl rfl (qm_3 (i := 97) rfl rfl) np_M_Al_add_9ea2d rfl ⟨Nat.le_of_ble_eq_true rfl, Nat.le_of_ble_eq_true rfl⟩ (Nat.le_of_ble_eq_true rfl) rfl d_Bo_draws_112 h29 h30 (DI.k h (fun v33 w32 gw32 h => (?_ : WD _ _ 115 _ _ _ _ _ _)))
      refine x_pop d_Bo_draws_115 rfl (?_ : WD _ _ 116 _ _ _ _ _ _)
      refine x_iload_n d_Bo_draws_116 rfl (?_ : WD _ _ 117 _ _ _ _ _ _)
      exact x_ireturn rfl d_Bo_draws_117 h
    · replace h := h.2 c16
      refine x_iconst d_Bo_draws_82 (by decide) (?_ : WD _ _ 83 _ _ _ _ _ _)
      refine x_istore_n (ls' := [(1, vI 1), (0, vA x0), (2, vI x2)]) d_Bo_draws_83 rfl (by decide) rfl (?_ : WD _ _ 84 _ _ _ _ _ _)
      refine x_pick (ls' := [(0, vA x0), (1, vI 1)]) [1, 0] rfl ?_
      exact h
  · replace h := h.2 c1
    refine x_iload_n d_Bo_draws_10 rfl (?_ : WD _ _ 11 _ _ _ _ _ _)
    refine x_if_eq 28 d_Bo_draws_11 rfl ⟨fun c34 => (?_ : WD _ _ 28 _ _ _ _ _ _), fun c34 => (?_ : WD _ _ 14 _ _ _ _ _ _)⟩
    · replace h := h.1 c34
      refine x_aload_nP (some x0) d_Bo_draws_28 rfl (?_ : WD _ _ 29 _ _ _ _ _ _)
      refine x_aload_nP (some x0) d_Bo_draws_29 rfl (?_ : WD _ _ 30 _ _ _ _ _ _)
      obtain ⟨k35, h⟩ := h
      refine x_getI (ref := "CoinSamplerLaw$Books") (j := 4) 4 k35 clk_11 (by decide) (qm_2 (i := 163) rfl rfl) (Or.inl rfl) rfl rfl d_Bo_draws_30 (y := (wI w x0 4)) rfl (?_ : WD _ _ 33 _ _ _ _ _ _)
      refine x_i2l d_Bo_draws_33 (?_ : WD _ _ 34 _ _ _ _ _ _)
      refine x_ldc2 1103 d_Bo_draws_34 (qm_6 (i := 66) rfl rfl) (by decide) (by decide) (?_ : WD _ _ 37 _ _ _ _ _ _)
      obtain ⟨h36, h⟩ := h
      refine x_lmul d_Bo_draws_37 h36 (?_ : WD _ _ 38 _ _ _ _ _ _)
      refine x_ldc2 12345 d_Bo_draws_38 (qm_6 (i := 67) rfl rfl) (by decide) (by decide) (?_ : WD _ _ 41 _ _ _ _ _ _)
      obtain ⟨h37, h⟩ := h
      refine x_ladd d_Bo_draws_41 h37 (?_ : WD _ _ 42 _ _ _ _ _ _)
      refine x_ldc2 1000003 d_Bo_draws_42 (qm_6 (i := 68) rfl rfl) (by decide) (by decide) (?_ : WD _ _ 45 _ _ _ _ _ _)
      obtain ⟨h38, h⟩ := h
      refine x_lremn d_Bo_draws_45 h38 (by decide) (?_ : WD _ _ 46 _ _ _ _ _ _)
      obtain ⟨h39, h⟩ := h
      refine x_l2i d_Bo_draws_46 h39 (?_ : WD _ _ 47 _ _ _ _ _ _)
      obtain ⟨k40, h⟩ := h
      refine x_putI (ref := "CoinSamplerLaw$Books") (j := 4) 4 k40 clk_11 (by decide) (qm_2 (i := 163) rfl rfl) (Or.inl rfl) (Or.inl rfl) tyX11_ok rfl nmX11 d_Bo_draws_47 rfl rfl (fun _ => rfl) rfl (?_ : WD _ _ 50 _ _ _ _ _ _)
      refine x_iconst d_Bo_draws_50 (by decide) (?_ : WD _ _ 51 _ _ _ _ _ _)
      refine x_aload_nP (some x0) d_Bo_draws_51 rfl (?_ : WD _ _ 52 _ _ _ _ _ _)
      refine x_getI (ref := "CoinSamplerLaw$Books") (j := 4) 4 k40.is clk_11 (by decide) (qm_2 (i := 163) rfl rfl) (Or.inl rfl) rfl rfl d_Bo_draws_52 (y := ((((wI w x0 4) * 1103) + 12345) % 1000003)) (wI_uI_s) (?_ : WD _ _ 55 _ _ _ _ _ _)
      refine x_aload_nP (some x0) d_Bo_draws_55 rfl (?_ : WD _ _ 56 _ _ _ _ _ _)
      refine x_getI (ref := "CoinSamplerLaw$Books") (j := 3) 3 k40.is clk_11 (by decide) (qm_2 (i := 161) rfl rfl) (Or.inl rfl) rfl rfl d_Bo_draws_56 (y := (wI w x0 3)) (wI_uI_j (by decide)) (?_ : WD _ _ 59 _ _ _ _ _ _)
      obtain ⟨h41, h⟩ := h
      obtain ⟨h42, h⟩ := h
      refine x_iremn d_Bo_draws_59 h41 h42 (?_ : WD _ _ 60 _ _ _ _ _ _)
      obtain ⟨h43, h⟩ := h
      refine x_iadd d_Bo_draws_60 h43 (?_ : WD _ _ 61 _ _ _ _ _ _)
      refine x_istore_n (ls' := [(1, vI (1 + (((((wI w x0 4) * 1103) + 12345) % 1000003) % (wI w x0 3)))), (0, vA x0), (2, vI x2)]) d_Bo_draws_61 rfl (by decide) rfl (?_ : WD _ _ 62 _ _ _ _ _ _)
      obtain ⟨h44, h⟩ := h
      refine x_iinc (ls' := [(2, vI (x2 + 1)), (1, vI (1 + (((((wI w x0 4) * 1103) + 12345) % 1000003) % (wI w x0 3)))), (0, vA x0)]) d_Bo_draws_62 rfl h44 (by decide) rfl (?_ : WD _ _ 65 _ _ _ _ _ _)
      refine x_goto 4 d_Bo_draws_65 rfl ?_
      refine x_pick (ls' := [(0, vA x0), (1, vI (1 + (((((wI w x0 4) * 1103) + 12345) % 1000003) % (wI w x0 3)))), (2, vI (x2 + 1))]) [2, 1, 0] rfl ?_
      exact h
    · replace h := h.2 c34
      refine x_aload_nP (some x0) d_Bo_draws_14 rfl (?_ : WD _ _ 15 _ _ _ _ _ _)
      obtain ⟨k45, h⟩ := h
      refine x_getP (ref := "CoinSamplerLaw$Books") (j := 1) 1 k45 clk_11 (by decide) (qm_2 (i := 157) rfl rfl) (Or.inl rfl) rfl rfl d_Bo_draws_15 (y := (wR w x0 1)) rfl (?_ : WD _ _ 18 _ _ _ _ _ _)
      refine x_iload_n d_Bo_draws_18 rfl (?_ : WD _ _ 19 _ _ _ _ _ _)
      obtain ⟨c46, s47, h48, h49, h⟩ := h
      refine x_callS (ν := M_In_valueOf) [vI x1] ok_M_In_valueOf oks_M_In_valueOf (qm_6 (i := 1) rfl rfl) np_M_In_valueOf rfl ⟨Nat.le_of_ble_eq_true rfl, Nat.le_of_ble_eq_true rfl⟩ (Nat.le_of_ble_eq_true rfl) rfl d_Bo_draws_19 h48 h49 (DP.k h (fun v51 w50 gw50 h => (?_ : WD _ _ 22 _ _ _ _ _ _)))
      obtain ⟨a52, e53, h⟩ := h
      rw [e53]
      obtain ⟨a54, e55, h⟩ := h
      rw [e55]
      obtain ⟨k56, h⟩ := h
      refine x_callV (ν := M_Al_contains) [vA a54] ok_M_Al_contains okv_M_Al_contains k56 rfl rfl (qm_6 (i := 21) rfl rfl) np_M_Al_contains rfl ⟨Nat.le_of_ble_eq_true rfl, Nat.le_of_ble_eq_true rfl⟩ (Nat.le_of_ble_eq_true rfl) rfl d_Bo_draws_22 (Nat.zero_le _) (Nat.zero_le _) (DI.k h (fun v58 w57 gw57 h => (?_ : WD _ _ 25 _ _ _ _ _ _)))
      refine x_if_eq 68 d_Bo_draws_25 rfl ⟨fun c59 => (?_ : WD _ _ 68 _ _ _ _ _ _), fun c59 => (?_ : WD _ _ 28 _ _ _ _ _ _)⟩
      · replace h := h.1 c59
        refine x_aload_nP (some x0) d_Bo_draws_68 rfl (?_ : WD _ _ 69 _ _ _ _ _ _)
        refine x_getP (ref := "CoinSamplerLaw$Books") (j := 1) 1 ((k45.q gw50.k).q gw57.k) clk_11 (by decide) (qm_2 (i := 157) rfl rfl) (Or.inl rfl) rfl rfl d_Bo_draws_69 (y := (wR w57 x0 1)) rfl (?_ : WD _ _ 72 _ _ _ _ _ _)
        refine x_iload_n d_Bo_draws_72 rfl (?_ : WD _ _ 73 _ _ _ _ _ _)
        obtain ⟨c60, s61, h62, h63, h⟩ := h
        refine x_callS (ν := M_In_valueOf) [vI x1] ok_M_In_valueOf oks_M_In_valueOf (qm_6 (i := 1) rfl rfl) np_M_In_valueOf rfl ⟨Nat.le_of_ble_eq_true rfl, Nat.le_of_ble_eq_true rfl⟩ (Nat.le_of_ble_eq_true rfl) rfl d_Bo_draws_73 h62 h63 (DP.k h (fun v65 w64 gw64 h => (?_ : WD _ _ 76 _ _ _ _ _ _)))
        obtain ⟨a66, e67, h⟩ := h
        rw [e67]
        obtain ⟨a68, e69, h⟩ := h
        rw [e69]
        obtain ⟨k70, h⟩ := h
        refine x_callV (ν := M_Al_contains) [vA a68] ok_M_Al_contains okv_M_Al_contains k70 rfl rfl (qm_6 (i := 21) rfl rfl) np_M_Al_contains rfl ⟨Nat.le_of_ble_eq_true rfl, Nat.le_of_ble_eq_true rfl⟩ (Nat.le_of_ble_eq_true rfl) rfl d_Bo_draws_76 (Nat.zero_le _) (Nat.zero_le _) (DI.k h (fun v72 w71 gw71 h => (?_ : WD _ _ 79 _ _ _ _ _ _)))
        refine x_if_eq 104 d_Bo_draws_79 rfl ⟨fun c73 => (?_ : WD _ _ 104 _ _ _ _ _ _), fun c73 => (?_ : WD _ _ 82 _ _ _ _ _ _)⟩
        · replace h := h.1 c73
          refine x_aload_nP (some x0) d_Bo_draws_104 rfl (?_ : WD _ _ 105 _ _ _ _ _ _)
          refine x_getP (ref := "CoinSamplerLaw$Books") (j := 1) 1 ((((k45.q gw50.k).q gw57.k).q gw64.k).q gw71.k) clk_11 (by decide) (qm_2 (i := 157) rfl rfl) (Or.inl rfl) rfl rfl d_Bo_draws_105 (y := (wR w71 x0 1)) rfl (?_ : WD _ _ 108 _ _ _ _ _ _)
          refine x_iload_n d_Bo_draws_108 rfl (?_ : WD _ _ 109 _ _ _ _ _ _)
          obtain ⟨c74, s75, h76, h77, h⟩ := h
          refine x_callS (ν := M_In_valueOf) [vI x1] ok_M_In_valueOf oks_M_In_valueOf (qm_6 (i := 1) rfl rfl) np_M_In_valueOf rfl ⟨Nat.le_of_ble_eq_true rfl, Nat.le_of_ble_eq_true rfl⟩ (Nat.le_of_ble_eq_true rfl) rfl d_Bo_draws_109 h76 h77 (DP.k h (fun v79 w78 gw78 h => (?_ : WD _ _ 112 _ _ _ _ _ _)))
          obtain ⟨a80, e81, h⟩ := h
          rw [e81]
          obtain ⟨a82, e83, h⟩ := h
          rw [e83]
          obtain ⟨c84, s85, h86, h87, h⟩ := h
          obtain ⟨k88, h⟩ := h
          refine x_callV (ν := M_Al_add_9ea2d) [vA a82] ok_M_Al_add_9ea2d okv_M_Al_add_9ea2d k88 rfl rfl (qm_3 (i := 97) rfl rfl) np_M_Al_add_9ea2d rfl ⟨Nat.le_of_ble_eq_true rfl, Nat.le_of_ble_eq_true rfl⟩ (Nat.le_of_ble_eq_true rfl) rfl d_Bo_draws_112 h86 h87 (DI.k h (fun v90 w89 gw89 h => (?_ : WD _ _ 115 _ _ _ _ _ _)))
          refine x_pop d_Bo_draws_115 rfl (?_ : WD _ _ 116 _ _ _ _ _ _)
          refine x_iload_n d_Bo_draws_116 rfl (?_ : WD _ _ 117 _ _ _ _ _ _)
          exact x_ireturn rfl d_Bo_draws_117 h
        · replace h := h.2 c73
          refine x_iconst d_Bo_draws_82 (by decide) (?_ : WD _ _ 83 _ _ _ _ _ _)
          refine x_istore_n (ls' := [(1, vI 1), (0, vA x0), (2, vI x2)]) d_Bo_draws_83 rfl (by decide) rfl (?_ : WD _ _ 84 _ _ _ _ _ _)
          refine x_pick (ls' := [(0, vA x0), (1, vI 1)]) [1, 0] rfl ?_
          exact h
      · replace h := h.2 c59
        refine x_aload_nP (some x0) d_Bo_draws_28 rfl (?_ : WD _ _ 29 _ _ _ _ _ _)
        refine x_aload_nP (some x0) d_Bo_draws_29 rfl (?_ : WD _ _ 30 _ _ _ _ _ _)
        refine x_getI (ref := "CoinSamplerLaw$Books") (j := 4) 4 ((k45.q gw50.k).q gw57.k) clk_11 (by decide) (qm_2 (i := 163) rfl rfl) (Or.inl rfl) rfl rfl d_Bo_draws_30 (y := (wI w57 x0 4)) rfl (?_ : WD _ _ 33 _ _ _ _ _ _)
        refine x_i2l d_Bo_draws_33 (?_ : WD _ _ 34 _ _ _ _ _ _)
        refine x_ldc2 1103 d_Bo_draws_34 (qm_6 (i := 66) rfl rfl) (by decide) (by decide) (?_ : WD _ _ 37 _ _ _ _ _ _)
        obtain ⟨h91, h⟩ := h
        refine x_lmul d_Bo_draws_37 h91 (?_ : WD _ _ 38 _ _ _ _ _ _)
        refine x_ldc2 12345 d_Bo_draws_38 (qm_6 (i := 67) rfl rfl) (by decide) (by decide) (?_ : WD _ _ 41 _ _ _ _ _ _)
        obtain ⟨h92, h⟩ := h
        refine x_ladd d_Bo_draws_41 h92 (?_ : WD _ _ 42 _ _ _ _ _ _)
        refine x_ldc2 1000003 d_Bo_draws_42 (qm_6 (i := 68) rfl rfl) (by decide) (by decide) (?_ : WD _ _ 45 _ _ _ _ _ _)
        obtain ⟨h93, h⟩ := h
        refine x_lremn d_Bo_draws_45 h93 (by decide) (?_ : WD _ _ 46 _ _ _ _ _ _)
        obtain ⟨h94, h⟩ := h
        refine x_l2i d_Bo_draws_46 h94 (?_ : WD _ _ 47 _ _ _ _ _ _)
        obtain ⟨k95, h⟩ := h
        refine x_putI (ref := "CoinSamplerLaw$Books") (j := 4) 4 k95 clk_11 (by decide) (qm_2 (i := 163) rfl rfl) (Or.inl rfl) (Or.inl rfl) tyX11_ok rfl nmX11 d_Bo_draws_47 rfl rfl (fun _ => rfl) rfl (?_ : WD _ _ 50 _ _ _ _ _ _)
        refine x_iconst d_Bo_draws_50 (by decide) (?_ : WD _ _ 51 _ _ _ _ _ _)
        refine x_aload_nP (some x0) d_Bo_draws_51 rfl (?_ : WD _ _ 52 _ _ _ _ _ _)
        refine x_getI (ref := "CoinSamplerLaw$Books") (j := 4) 4 k95.is clk_11 (by decide) (qm_2 (i := 163) rfl rfl) (Or.inl rfl) rfl rfl d_Bo_draws_52 (y := ((((wI w57 x0 4) * 1103) + 12345) % 1000003)) (wI_uI_s) (?_ : WD _ _ 55 _ _ _ _ _ _)
        refine x_aload_nP (some x0) d_Bo_draws_55 rfl (?_ : WD _ _ 56 _ _ _ _ _ _)
        refine x_getI (ref := "CoinSamplerLaw$Books") (j := 3) 3 k95.is clk_11 (by decide) (qm_2 (i := 161) rfl rfl) (Or.inl rfl) rfl rfl d_Bo_draws_56 (y := (wI w57 x0 3)) (wI_uI_j (by decide)) (?_ : WD _ _ 59 _ _ _ _ _ _)
        obtain ⟨h96, h⟩ := h
        obtain ⟨h97, h⟩ := h
        refine x_iremn d_Bo_draws_59 h96 h97 (?_ : WD _ _ 60 _ _ _ _ _ _)
        obtain ⟨h98, h⟩ := h
        refine x_iadd d_Bo_draws_60 h98 (?_ : WD _ _ 61 _ _ _ _ _ _)
        refine x_istore_n (ls' := [(1, vI (1 + (((((wI w57 x0 4) * 1103) + 12345) % 1000003) % (wI w57 x0 3)))), (0, vA x0), (2, vI x2)]) d_Bo_draws_61 rfl (by decide) rfl (?_ : WD _ _ 62 _ _ _ _ _ _)
        obtain ⟨h99, h⟩ := h
        refine x_iinc (ls' := [(2, vI (x2 + 1)), (1, vI (1 + (((((wI w57 x0 4) * 1103) + 12345) % 1000003) % (wI w57 x0 3)))), (0, vA x0)]) d_Bo_draws_62 rfl h99 (by decide) rfl (?_ : WD _ _ 65 _ _ _ _ _ _)
        refine x_goto 4 d_Bo_draws_65 rfl ?_
        refine x_pick (ls' := [(0, vA x0), (1, vI (1 + (((((wI w57 x0 4) * 1103) + 12345) % 1000003) % (wI w57 x0 3)))), (2, vI (x2 + 1))]) [2, 1, 0] rfl ?_
        exact h
set_option maxRecDepth 20000 in
theorem l_Bo_draws_2 {G : Gq} {K : Int → Wd → Prop} {w : Wd} {rc rs : Nat} (x0 : Nat) (x1 : Int) (h : (Is G w x0 (kO 11)) ∧ ∃ c101 s102 : Nat, c101 ≤ rc ∧ s102 ≤ rs ∧ (DP G M_In_valueOf [vI x1] w c101 s102 (fun v106 w105 => ∃ a107 : Nat, (wR w x0 1) = some a107 ∧ (∃ a109 : Nat, v106 = some a109 ∧ ((Is G w105 a107 (kO 14)) ∧ DI G M_Al_contains [vA a107, vA a109] w105 0 0 (fun v113 w112 => (v113 = 0 → ∃ c115 s116 : Nat, c115 ≤ (rc - c101) ∧ s116 ≤ (rs - s102) ∧ (DP G M_In_valueOf [vI x1] w112 c115 s116 (fun v120 w119 => ∃ a121 : Nat, (wR w112 x0 1) = some a121 ∧ (∃ a123 : Nat, v120 = some a123 ∧ (∃ c125 s126 : Nat, c125 ≤ ((rc - c101) - c115) ∧ s126 ≤ ((rs - s102) - s116) ∧ ((Is G w119 a121 (kO 14)) ∧ DI G M_Al_add_9ea2d [vA a121, vA a123] w119 c125 s126 (fun v131 w130 => K x1 w130))))))) ∧ (¬ v113 = 0 → (inR (x1 + 1)) ∧ WD G M_Bo_draws 84 [(0, vA x0), (1, vI (x1 + 1))] [] w112 (rc - c101) (rs - s102) (yI K)))))))) : WD G M_Bo_draws 84 [(0, vA x0), (1, vI x1)] [] w rc rs (yI K) := by
  refine x_aload_nP (some x0) d_Bo_draws_84 rfl (?_ : WD _ _ 85 _ _ _ _ _ _)
  obtain ⟨k100, h⟩ := h
  refine x_getP (ref := "CoinSamplerLaw$Books") (j := 1) 1 k100 clk_11 (by decide) (qm_2 (i := 157) rfl rfl) (Or.inl rfl) rfl rfl d_Bo_draws_85 (y := (wR w x0 1)) rfl (?_ : WD _ _ 88 _ _ _ _ _ _)
  refine x_iload_n d_Bo_draws_88 rfl (?_ : WD _ _ 89 _ _ _ _ _ _)
  obtain ⟨c101, s102, h103, h104, h⟩ := h
  refine x_callS (ν := M_In_valueOf) [vI x1] ok_M_In_valueOf oks_M_In_valueOf (qm_6 (i := 1) rfl rfl) np_M_In_valueOf rfl ⟨Nat.le_of_ble_eq_true rfl, Nat.le_of_ble_eq_true rfl⟩ (Nat.le_of_ble_eq_true rfl) rfl d_Bo_draws_89 h103 h104 (DP.k h (fun v106 w105 gw105 h => (?_ : WD _ _ 92 _ _ _ _ _ _)))
  obtain ⟨a107, e108, h⟩ := h
  rw [e108]
  obtain ⟨a109, e110, h⟩ := h
  rw [e110]
  obtain ⟨k111, h⟩ := h
  refine x_callV (ν := M_Al_contains) [vA a109] ok_M_Al_contains okv_M_Al_contains k111 rfl rfl (qm_6 (i := 21) rfl rfl) np_M_Al_contains rfl ⟨Nat.le_of_ble_eq_true rfl, Nat.le_of_ble_eq_true rfl⟩ (Nat.le_of_ble_eq_true rfl) rfl d_Bo_draws_92 (Nat.zero_le _) (Nat.zero_le _) (DI.k h (fun v113 w112 gw112 h => (?_ : WD _ _ 95 _ _ _ _ _ _)))
  refine x_if_eq 104 d_Bo_draws_95 rfl ⟨fun c114 => (?_ : WD _ _ 104 _ _ _ _ _ _), fun c114 => (?_ : WD _ _ 98 _ _ _ _ _ _)⟩
  · replace h := h.1 c114
    refine x_aload_nP (some x0) d_Bo_draws_104 rfl (?_ : WD _ _ 105 _ _ _ _ _ _)
    refine x_getP (ref := "CoinSamplerLaw$Books") (j := 1) 1 ((k100.q gw105.k).q gw112.k) clk_11 (by decide) (qm_2 (i := 157) rfl rfl) (Or.inl rfl) rfl rfl d_Bo_draws_105 (y := (wR w112 x0 1)) rfl (?_ : WD _ _ 108 _ _ _ _ _ _)
    refine x_iload_n d_Bo_draws_108 rfl (?_ : WD _ _ 109 _ _ _ _ _ _)
    obtain ⟨c115, s116, h117, h118, h⟩ := h
    refine x_callS (ν := M_In_valueOf) [vI x1] ok_M_In_valueOf oks_M_In_valueOf (qm_6 (i := 1) rfl rfl) np_M_In_valueOf rfl ⟨Nat.le_of_ble_eq_true rfl, Nat.le_of_ble_eq_true rfl⟩ (Nat.le_of_ble_eq_true rfl) rfl d_Bo_draws_109 h117 h118 (DP.k h (fun v120 w119 gw119 h => (?_ : WD _ _ 112 _ _ _ _ _ _)))
    obtain ⟨a121, e122, h⟩ := h
    rw [e122]
    obtain ⟨a123, e124, h⟩ := h
    rw [e124]
    obtain ⟨c125, s126, h127, h128, h⟩ := h
    obtain ⟨k129, h⟩ := h
    refine x_callV (ν := M_Al_add_9ea2d) [vA a123] ok_M_Al_add_9ea2d okv_M_Al_add_9ea2d k129 rfl rfl (qm_3 (i := 97) rfl rfl) np_M_Al_add_9ea2d rfl ⟨Nat.le_of_ble_eq_true rfl, Nat.le_of_ble_eq_true rfl⟩ (Nat.le_of_ble_eq_true rfl) rfl d_Bo_draws_112 h127 h128 (DI.k h (fun v131 w130 gw130 h => (?_ : WD _ _ 115 _ _ _ _ _ _)))
    refine x_pop d_Bo_draws_115 rfl (?_ : WD _ _ 116 _ _ _ _ _ _)
    refine x_iload_n d_Bo_draws_116 rfl (?_ : WD _ _ 117 _ _ _ _ _ _)
    exact x_ireturn rfl d_Bo_draws_117 h
  · replace h := h.2 c114
    obtain ⟨h132, h⟩ := h
    refine x_iinc (ls' := [(1, vI (x1 + 1)), (0, vA x0)]) d_Bo_draws_98 rfl h132 (by decide) rfl (?_ : WD _ _ 101 _ _ _ _ _ _)
    refine x_goto 84 d_Bo_draws_101 rfl ?_
    refine x_pick (ls' := [(0, vA x0), (1, vI (x1 + 1))]) [1, 0] rfl ?_
    exact h
set_option maxRecDepth 20000 in
theorem e_Bo_certain {G : Gq} {K : Int → Wd → Prop} {w : Wd} {mc ms : Nat} (x0 : Nat) (x1 : Nat) (h : (Is G w x0 (kO 11)) ∧ ((wI w x0 3) ≤ 0 → K 0 w) ∧ (¬ (wI w x0 3) ≤ 0 → (Is G w x1 (kO 13)) ∧ ((wI w x1 2) < (wI w x0 3) → K 0 w) ∧ (¬ (wI w x1 2) < (wI w x0 3) → K 1 w))) : DI G M_Bo_certain [vA x0, vA x1] w mc ms K := by
  refine DC.of ok_M_Bo_certain (ls := [(0, vA x0), (1, vA x1)]) rfl (Nat.le_of_ble_eq_true rfl) ?_
  refine x_aload_nP (some x0) d_Bo_certain_0 rfl (?_ : WD _ _ 1 _ _ _ _ _ _)
  obtain ⟨k1, h⟩ := h
  refine x_getI (ref := "CoinSamplerLaw$Books") (j := 3) 3 k1 clk_11 (by decide) (qm_2 (i := 161) rfl rfl) (Or.inl rfl) rfl rfl d_Bo_certain_1 (y := (wI w x0 3)) rfl (?_ : WD _ _ 4 _ _ _ _ _ _)
  refine x_if_le 22 d_Bo_certain_4 rfl ⟨fun c2 => (?_ : WD _ _ 22 _ _ _ _ _ _), fun c2 => (?_ : WD _ _ 7 _ _ _ _ _ _)⟩
  · replace h := h.1 c2
    refine x_iconst d_Bo_certain_22 (by decide) (?_ : WD _ _ 23 _ _ _ _ _ _)
    exact x_zreturn rfl d_Bo_certain_23 (by decide) h
  · replace h := h.2 c2
    refine x_aload_nP (some x1) d_Bo_certain_7 rfl (?_ : WD _ _ 8 _ _ _ _ _ _)
    obtain ⟨k3, h⟩ := h
    refine x_getI (ref := "CoinSamplerLaw$Item") (j := 2) 2 k3 clk_13 (by decide) (qm_4 (i := 156) rfl rfl) (Or.inl rfl) rfl rfl d_Bo_certain_8 (y := (wI w x1 2)) rfl (?_ : WD _ _ 11 _ _ _ _ _ _)
    refine x_aload_nP (some x0) d_Bo_certain_11 rfl (?_ : WD _ _ 12 _ _ _ _ _ _)
    refine x_getI (ref := "CoinSamplerLaw$Books") (j := 3) 3 k1 clk_11 (by decide) (qm_2 (i := 161) rfl rfl) (Or.inl rfl) rfl rfl d_Bo_certain_12 (y := (wI w x0 3)) rfl (?_ : WD _ _ 15 _ _ _ _ _ _)
    refine x_icmp_lt 22 d_Bo_certain_15 rfl ⟨fun c4 => (?_ : WD _ _ 22 _ _ _ _ _ _), fun c4 => (?_ : WD _ _ 18 _ _ _ _ _ _)⟩
    · replace h := h.1 c4
      refine x_iconst d_Bo_certain_22 (by decide) (?_ : WD _ _ 23 _ _ _ _ _ _)
      exact x_zreturn rfl d_Bo_certain_23 (by decide) h
    · replace h := h.2 c4
      refine x_iconst d_Bo_certain_18 (by decide) (?_ : WD _ _ 19 _ _ _ _ _ _)
      refine x_goto 23 d_Bo_certain_19 rfl ?_
      exact x_zreturn rfl d_Bo_certain_23 (by decide) h
set_option maxRecDepth 20000 in
theorem e_Bo_find {G : Gq} {K : Int → Wd → Prop} {w : Wd} {mc ms : Nat} (x0 : Nat) (x1 : Int) (x2 : Int) (h : WD G M_Bo_find 2 [(0, vA x0), (1, vI x1), (2, vI x2), (3, vI 0)] [] w mc ms (yI K)) : DI G M_Bo_find [vA x0, vI x1, vI x2] w mc ms K := by
  refine DC.of ok_M_Bo_find (ls := [(0, vA x0), (1, vI x1), (2, vI x2)]) rfl (Nat.le_of_ble_eq_true rfl) ?_
  refine x_iconst d_Bo_find_0 (by decide) (?_ : WD _ _ 1 _ _ _ _ _ _)
  refine x_istore_n (ls' := [(3, vI 0), (0, vA x0), (1, vI x1), (2, vI x2)]) d_Bo_find_1 rfl (by decide) rfl (?_ : WD _ _ 2 _ _ _ _ _ _)
  refine x_pick (ls' := [(0, vA x0), (1, vI x1), (2, vI x2), (3, vI 0)]) [1, 2, 3, 0] rfl ?_
  exact h
set_option maxRecDepth 20000 in
theorem l_Bo_find_1 {G : Gq} {K : Int → Wd → Prop} {w : Wd} {rc rs : Nat} (x0 : Nat) (x1 : Int) (x2 : Int) (x3 : Int) (h : (Is G w x0 (kO 11)) ∧ ∃ a2 : Nat, (wR w x0 0) = some a2 ∧ ((Is G w a2 (kO 14)) ∧ DI G M_Al_size [vA a2] w 0 0 (fun v6 w5 => (v6 ≤ x3 → K (-1) w5) ∧ (¬ v6 ≤ x3 → ∃ a8 : Nat, (wR w5 x0 0) = some a8 ∧ ((Is G w5 a8 (kO 14)) ∧ DP G M_Al_get [vA a8, vI x3] w5 0 0 (fun v12 w11 => ∃ a13 : Nat, v12 = some a13 ∧ ((Is G w11 a13 (kO 13)) ∧ (¬ (wI w11 a13 0) = x1 → (inR (x3 + 1)) ∧ WD G M_Bo_find 2 [(0, vA x0), (1, vI x1), (2, vI x2), (3, vI (x3 + 1))] [] w11 rc rs (yI K)) ∧ ((wI w11 a13 0) = x1 → ∃ a18 : Nat, (wR w11 x0 0) = some a18 ∧ ((Is G w11 a18 (kO 14)) ∧ DP G M_Al_get [vA a18, vI x3] w11 0 0 (fun v22 w21 => ∃ a23 : Nat, v22 = some a23 ∧ ((Is G w21 a23 (kO 13)) ∧ (¬ (wI w21 a23 1) = x2 → (inR (x3 + 1)) ∧ WD G M_Bo_find 2 [(0, vA x0), (1, vI x1), (2, vI x2), (3, vI (x3 + 1))] [] w21 rc rs (yI K)) ∧ ((wI w21 a23 1) = x2 → K x3 w21)))))))))))) : WD G M_Bo_find 2 [(0, vA x0), (1, vI x1), (2, vI x2), (3, vI x3)] [] w rc rs (yI K) := by
  refine x_iload_n d_Bo_find_2 rfl (?_ : WD _ _ 3 _ _ _ _ _ _)
  refine x_aload_nP (some x0) d_Bo_find_3 rfl (?_ : WD _ _ 4 _ _ _ _ _ _)
  obtain ⟨k1, h⟩ := h
  refine x_getP (ref := "CoinSamplerLaw$Books") (j := 0) 0 k1 clk_11 (by decide) (qm_2 (i := 155) rfl rfl) (Or.inl rfl) rfl rfl d_Bo_find_4 (y := (wR w x0 0)) rfl (?_ : WD _ _ 7 _ _ _ _ _ _)
  obtain ⟨a2, e3, h⟩ := h
  rw [e3]
  obtain ⟨k4, h⟩ := h
  refine x_callV (ν := M_Al_size) [] ok_M_Al_size okv_M_Al_size k4 rfl rfl (qm_2 (i := 186) rfl rfl) np_M_Al_size rfl ⟨Nat.le_of_ble_eq_true rfl, Nat.le_of_ble_eq_true rfl⟩ (Nat.le_of_ble_eq_true rfl) rfl d_Bo_find_7 (Nat.zero_le _) (Nat.zero_le _) (DI.k h (fun v6 w5 gw5 h => (?_ : WD _ _ 10 _ _ _ _ _ _)))
  refine x_icmp_ge 57 d_Bo_find_10 rfl ⟨fun c7 => (?_ : WD _ _ 57 _ _ _ _ _ _), fun c7 => (?_ : WD _ _ 13 _ _ _ _ _ _)⟩
  · replace h := h.1 c7
    refine x_iconst d_Bo_find_57 (by decide) (?_ : WD _ _ 58 _ _ _ _ _ _)
    exact x_ireturn rfl d_Bo_find_58 h
  · replace h := h.2 c7
    refine x_aload_nP (some x0) d_Bo_find_13 rfl (?_ : WD _ _ 14 _ _ _ _ _ _)
    refine x_getP (ref := "CoinSamplerLaw$Books") (j := 0) 0 (k1.q gw5.k) clk_11 (by decide) (qm_2 (i := 155) rfl rfl) (Or.inl rfl) rfl rfl d_Bo_find_14 (y := (wR w5 x0 0)) rfl (?_ : WD _ _ 17 _ _ _ _ _ _)
    refine x_iload_n d_Bo_find_17 rfl (?_ : WD _ _ 18 _ _ _ _ _ _)
    obtain ⟨a8, e9, h⟩ := h
    rw [e9]
    obtain ⟨k10, h⟩ := h
    refine x_callV (ν := M_Al_get) [vI x3] ok_M_Al_get okv_M_Al_get k10 rfl rfl (qm_3 (i := 58) rfl rfl) np_M_Al_get rfl ⟨Nat.le_of_ble_eq_true rfl, Nat.le_of_ble_eq_true rfl⟩ (Nat.le_of_ble_eq_true rfl) rfl d_Bo_find_18 (Nat.zero_le _) (Nat.zero_le _) (DP.k h (fun v12 w11 gw11 h => (?_ : WD _ _ 21 _ _ _ _ _ _)))
    obtain ⟨a13, e14, h⟩ := h
    rw [e14]
    obtain ⟨k15, h⟩ := h
    refine x_cast k15 rfl (Or.inl rfl) (qm_3 (i := 45) rfl rfl) d_Bo_find_21 (?_ : WD _ _ 24 _ _ _ _ _ _)
    refine x_getI (ref := "CoinSamplerLaw$Item") (j := 0) 0 k15 clk_13 (by decide) (qm_4 (i := 152) rfl rfl) (Or.inl rfl) rfl rfl d_Bo_find_24 (y := (wI w11 a13 0)) rfl (?_ : WD _ _ 27 _ _ _ _ _ _)
    refine x_iload_n d_Bo_find_27 rfl (?_ : WD _ _ 28 _ _ _ _ _ _)
    refine x_icmp_ne 51 d_Bo_find_28 rfl ⟨fun c16 => (?_ : WD _ _ 51 _ _ _ _ _ _), fun c16 => (?_ : WD _ _ 31 _ _ _ _ _ _)⟩
    · replace h := h.1 c16
      obtain ⟨h17, h⟩ := h
      refine x_iinc (ls' := [(3, vI (x3 + 1)), (0, vA x0), (1, vI x1), (2, vI x2)]) d_Bo_find_51 rfl h17 (by decide) rfl (?_ : WD _ _ 54 _ _ _ _ _ _)
      refine x_goto 2 d_Bo_find_54 rfl ?_
      refine x_pick (ls' := [(0, vA x0), (1, vI x1), (2, vI x2), (3, vI (x3 + 1))]) [1, 2, 3, 0] rfl ?_
      exact h
    · replace h := h.2 c16
      refine x_aload_nP (some x0) d_Bo_find_31 rfl (?_ : WD _ _ 32 _ _ _ _ _ _)
      refine x_getP (ref := "CoinSamplerLaw$Books") (j := 0) 0 ((k1.q gw5.k).q gw11.k) clk_11 (by decide) (qm_2 (i := 155) rfl rfl) (Or.inl rfl) rfl rfl d_Bo_find_32 (y := (wR w11 x0 0)) rfl (?_ : WD _ _ 35 _ _ _ _ _ _)
      refine x_iload_n d_Bo_find_35 rfl (?_ : WD _ _ 36 _ _ _ _ _ _)
      obtain ⟨a18, e19, h⟩ := h
      rw [e19]
      obtain ⟨k20, h⟩ := h
      refine x_callV (ν := M_Al_get) [vI x3] ok_M_Al_get okv_M_Al_get k20 rfl rfl (qm_3 (i := 58) rfl rfl) np_M_Al_get rfl ⟨Nat.le_of_ble_eq_true rfl, Nat.le_of_ble_eq_true rfl⟩ (Nat.le_of_ble_eq_true rfl) rfl d_Bo_find_36 (Nat.zero_le _) (Nat.zero_le _) (DP.k h (fun v22 w21 gw21 h => (?_ : WD _ _ 39 _ _ _ _ _ _)))
      obtain ⟨a23, e24, h⟩ := h
      rw [e24]
      obtain ⟨k25, h⟩ := h
      refine x_cast k25 rfl (Or.inl rfl) (qm_3 (i := 45) rfl rfl) d_Bo_find_39 (?_ : WD _ _ 42 _ _ _ _ _ _)
      refine x_getI (ref := "CoinSamplerLaw$Item") (j := 1) 1 k25 clk_13 (by decide) (qm_4 (i := 154) rfl rfl) (Or.inl rfl) rfl rfl d_Bo_find_42 (y := (wI w21 a23 1)) rfl (?_ : WD _ _ 45 _ _ _ _ _ _)
      refine x_iload_n d_Bo_find_45 rfl (?_ : WD _ _ 46 _ _ _ _ _ _)
      refine x_icmp_ne 51 d_Bo_find_46 rfl ⟨fun c26 => (?_ : WD _ _ 51 _ _ _ _ _ _), fun c26 => (?_ : WD _ _ 49 _ _ _ _ _ _)⟩
      · replace h := h.1 c26
        obtain ⟨h27, h⟩ := h
        refine x_iinc (ls' := [(3, vI (x3 + 1)), (0, vA x0), (1, vI x1), (2, vI x2)]) d_Bo_find_51 rfl h27 (by decide) rfl (?_ : WD _ _ 54 _ _ _ _ _ _)
        refine x_goto 2 d_Bo_find_54 rfl ?_
        refine x_pick (ls' := [(0, vA x0), (1, vI x1), (2, vI x2), (3, vI (x3 + 1))]) [1, 2, 3, 0] rfl ?_
        exact h
      · replace h := h.2 c26
        refine x_iload_n d_Bo_find_49 rfl (?_ : WD _ _ 50 _ _ _ _ _ _)
        exact x_ireturn rfl d_Bo_find_50 h
set_option maxRecDepth 20000 in
theorem e_It_init {G : Gq} {K : Wd → Prop} {w : Wd} {mc ms : Nat} (x0 : Nat) (h : (Ow w x0 (kO 13)) ∧ K (uI w x0 3 (-1))) : DV G M_It_init [vA x0] w mc ms K := by
  refine DC.of ok_M_It_init (ls := [(0, vA x0)]) rfl (Nat.le_of_ble_eq_true rfl) ?_
  refine x_aload_nP (some x0) d_It_init_0 rfl (?_ : WD _ _ 1 _ _ _ _ _ _)
  refine x_obj d_It_init_1 (qm_4 (i := 150) rfl rfl) (qm_1 (i := 58) rfl rfl) (qm_1 (i := 59) rfl rfl) ⟨Nat.le_of_ble_eq_true rfl, Nat.le_of_ble_eq_true rfl⟩ (?_ : WD _ _ 4 _ _ _ _ _ _)
  refine x_aload_nP (some x0) d_It_init_4 rfl (?_ : WD _ _ 5 _ _ _ _ _ _)
  refine x_iconst d_It_init_5 (by decide) (?_ : WD _ _ 6 _ _ _ _ _ _)
  obtain ⟨k1, h⟩ := h
  refine x_putI (ref := "CoinSamplerLaw$Item") (j := 3) 3 k1 clk_13 (by decide) (qm_4 (i := 158) rfl rfl) (Or.inl rfl) (Or.inl rfl) tyX13_ok rfl nmX13 d_It_init_6 rfl rfl (fun _ => rfl) rfl (?_ : WD _ _ 9 _ _ _ _ _ _)
  exact x_return rfl d_It_init_9 h
set_option maxRecDepth 20000 in
theorem e_It_coins {G : Gq} {K : Int → Wd → Prop} {w : Wd} {mc ms : Nat} (x0 : Nat) (h : (Is G w x0 (kO 13)) ∧ DI G M_Ma_max [vI 0, vI (wI w x0 2)] w 0 0 (fun v3 w2 => K v3 w2)) : DI G M_It_coins [vA x0] w mc ms K := by
  refine DC.of ok_M_It_coins (ls := [(0, vA x0)]) rfl (Nat.le_of_ble_eq_true rfl) ?_
  refine x_iconst d_It_coins_0 (by decide) (?_ : WD _ _ 1 _ _ _ _ _ _)
  refine x_aload_nP (some x0) d_It_coins_1 rfl (?_ : WD _ _ 2 _ _ _ _ _ _)
  obtain ⟨k1, h⟩ := h
  refine x_getI (ref := "CoinSamplerLaw$Item") (j := 2) 2 k1 clk_13 (by decide) (qm_4 (i := 155) rfl rfl) (Or.inl rfl) rfl rfl d_It_coins_2 (y := (wI w x0 2)) rfl (?_ : WD _ _ 5 _ _ _ _ _ _)
  refine x_callS (ν := M_Ma_max) [vI 0, vI (wI w x0 2)] ok_M_Ma_max oks_M_Ma_max (qm_3 (i := 54) rfl rfl) np_M_Ma_max rfl ⟨Nat.le_of_ble_eq_true rfl, Nat.le_of_ble_eq_true rfl⟩ (Nat.le_of_ble_eq_true rfl) rfl d_It_coins_5 (Nat.zero_le _) (Nat.zero_le _) (DI.k h (fun v3 w2 gw2 h => (?_ : WD _ _ 8 _ _ _ _ _ _)))
  exact x_ireturn rfl d_It_coins_8 h
set_option maxRecDepth 20000 in
theorem e_It_error {G : Gq} {K : Int → Wd → Prop} {w : Wd} {mc ms : Nat} (x0 : Nat) (h : (Is G w x0 (kO 13)) ∧ (0 ≤ (wI w x0 3) → (inR ((wI w x0 2) - (wI w x0 3))) ∧ K ((wI w x0 2) - (wI w x0 3)) w) ∧ (¬ 0 ≤ (wI w x0 3) → K 0 w)) : DI G M_It_error [vA x0] w mc ms K := by
  refine DC.of ok_M_It_error (ls := [(0, vA x0)]) rfl (Nat.le_of_ble_eq_true rfl) ?_
  refine x_aload_nP (some x0) d_It_error_0 rfl (?_ : WD _ _ 1 _ _ _ _ _ _)
  obtain ⟨k1, h⟩ := h
  refine x_getI (ref := "CoinSamplerLaw$Item") (j := 3) 3 k1 clk_13 (by decide) (qm_4 (i := 158) rfl rfl) (Or.inl rfl) rfl rfl d_It_error_1 (y := (wI w x0 3)) rfl (?_ : WD _ _ 4 _ _ _ _ _ _)
  refine x_if_ge 11 d_It_error_4 rfl ⟨fun c2 => (?_ : WD _ _ 11 _ _ _ _ _ _), fun c2 => (?_ : WD _ _ 7 _ _ _ _ _ _)⟩
  · replace h := h.1 c2
    refine x_aload_nP (some x0) d_It_error_11 rfl (?_ : WD _ _ 12 _ _ _ _ _ _)
    refine x_getI (ref := "CoinSamplerLaw$Item") (j := 2) 2 k1 clk_13 (by decide) (qm_4 (i := 155) rfl rfl) (Or.inl rfl) rfl rfl d_It_error_12 (y := (wI w x0 2)) rfl (?_ : WD _ _ 15 _ _ _ _ _ _)
    refine x_aload_nP (some x0) d_It_error_15 rfl (?_ : WD _ _ 16 _ _ _ _ _ _)
    refine x_getI (ref := "CoinSamplerLaw$Item") (j := 3) 3 k1 clk_13 (by decide) (qm_4 (i := 158) rfl rfl) (Or.inl rfl) rfl rfl d_It_error_16 (y := (wI w x0 3)) rfl (?_ : WD _ _ 19 _ _ _ _ _ _)
    obtain ⟨h3, h⟩ := h
    refine x_isub d_It_error_19 h3 (?_ : WD _ _ 20 _ _ _ _ _ _)
    exact x_ireturn rfl d_It_error_20 h
  · replace h := h.2 c2
    refine x_iconst d_It_error_7 (by decide) (?_ : WD _ _ 8 _ _ _ _ _ _)
    refine x_goto 20 d_It_error_8 rfl ?_
    exact x_ireturn rfl d_It_error_20 h
set_option maxRecDepth 20000 in
theorem e_It_taint {G : Gq} {K : Int → Wd → Prop} {w : Wd} {mc ms : Nat} (x0 : Nat) (h : (Is G w x0 (kO 13)) ∧ (0 ≤ (wI w x0 3) → DI G M_It_error [vA x0] w 0 0 (fun v4 w3 => (inR (10000 * v4)) ∧ ((wI w3 x0 2) ≠ 0) ∧ (inR ((10000 * v4).tdiv (wI w3 x0 2))) ∧ K ((10000 * v4).tdiv (wI w3 x0 2)) w3)) ∧ (¬ 0 ≤ (wI w x0 3) → K 0 w)) : DI G M_It_taint [vA x0] w mc ms K := by
  refine DC.of ok_M_It_taint (ls := [(0, vA x0)]) rfl (Nat.le_of_ble_eq_true rfl) ?_
  refine x_aload_nP (some x0) d_It_taint_0 rfl (?_ : WD _ _ 1 _ _ _ _ _ _)
  obtain ⟨k1, h⟩ := h
  refine x_getI (ref := "CoinSamplerLaw$Item") (j := 3) 3 k1 clk_13 (by decide) (qm_4 (i := 158) rfl rfl) (Or.inl rfl) rfl rfl d_It_taint_1 (y := (wI w x0 3)) rfl (?_ : WD _ _ 4 _ _ _ _ _ _)
  refine x_if_ge 11 d_It_taint_4 rfl ⟨fun c2 => (?_ : WD _ _ 11 _ _ _ _ _ _), fun c2 => (?_ : WD _ _ 7 _ _ _ _ _ _)⟩
  · replace h := h.1 c2
    refine x_sipush d_It_taint_11 (by decide) (by decide) (?_ : WD _ _ 14 _ _ _ _ _ _)
    refine x_aload_nP (some x0) d_It_taint_14 rfl (?_ : WD _ _ 15 _ _ _ _ _ _)
    refine x_callV (ν := M_It_error) [] ok_M_It_error okv_M_It_error k1 rfl rfl (qm_6 (i := 212) rfl rfl) np_M_It_error rfl ⟨Nat.le_of_ble_eq_true rfl, Nat.le_of_ble_eq_true rfl⟩ (Nat.le_of_ble_eq_true rfl) rfl d_It_taint_15 (Nat.zero_le _) (Nat.zero_le _) (DI.k h (fun v4 w3 gw3 h => (?_ : WD _ _ 18 _ _ _ _ _ _)))
    obtain ⟨h5, h⟩ := h
    refine x_imul d_It_taint_18 h5 (?_ : WD _ _ 19 _ _ _ _ _ _)
    refine x_aload_nP (some x0) d_It_taint_19 rfl (?_ : WD _ _ 20 _ _ _ _ _ _)
    refine x_getI (ref := "CoinSamplerLaw$Item") (j := 2) 2 (k1.q gw3.k) clk_13 (by decide) (qm_4 (i := 155) rfl rfl) (Or.inl rfl) rfl rfl d_It_taint_20 (y := (wI w3 x0 2)) rfl (?_ : WD _ _ 23 _ _ _ _ _ _)
    obtain ⟨h6, h⟩ := h
    obtain ⟨h7, h⟩ := h
    refine x_idiv d_It_taint_23 h6 h7 (?_ : WD _ _ 24 _ _ _ _ _ _)
    exact x_ireturn rfl d_It_taint_24 h
  · replace h := h.2 c2
    refine x_iconst d_It_taint_7 (by decide) (?_ : WD _ _ 8 _ _ _ _ _ _)
    refine x_goto 24 d_It_taint_8 rfl ?_
    exact x_ireturn rfl d_It_taint_24 h
set_option maxRecDepth 20000 in
theorem e_Bo_part {G : Gq} {K : Int → Wd → Prop} {w : Wd} {mc ms : Nat} (x0 : Nat) (x1 : Nat) (x2 : Int) (h : (Is G w x0 (kO 11)) ∧ (Is G w x1 (kO 12)) ∧ ∃ a3 : Nat, (wR w x0 0) = some a3 ∧ ((Is G w a3 (kO 14)) ∧ DP G M_Al_get [vA a3, vI (wI w x1 0)] w 0 0 (fun v7 w6 => ∃ a8 : Nat, v7 = some a8 ∧ ((Is G w6 a8 (kO 13)) ∧ DI G M_It_taint [vA a8] w6 0 0 (fun v12 w11 => (inL (v12 * (wI w11 x0 3))) ∧ (inL (10000 * x2)) ∧ ((10000 * x2) ≠ 0) ∧ (inL ((v12 * (wI w11 x0 3)).tdiv (10000 * x2))) ∧ (inR ((v12 * (wI w11 x0 3)).tdiv (10000 * x2))) ∧ K ((v12 * (wI w11 x0 3)).tdiv (10000 * x2)) w11))))) : DI G M_Bo_part [vA x0, vA x1, vI x2] w mc ms K := by
  refine DC.of ok_M_Bo_part (ls := [(0, vA x0), (1, vA x1), (2, vI x2)]) rfl (Nat.le_of_ble_eq_true rfl) ?_
  refine x_aload_nP (some x0) d_Bo_part_0 rfl (?_ : WD _ _ 1 _ _ _ _ _ _)
  obtain ⟨k1, h⟩ := h
  refine x_getP (ref := "CoinSamplerLaw$Books") (j := 0) 0 k1 clk_11 (by decide) (qm_2 (i := 155) rfl rfl) (Or.inl rfl) rfl rfl d_Bo_part_1 (y := (wR w x0 0)) rfl (?_ : WD _ _ 4 _ _ _ _ _ _)
  refine x_aload_nP (some x1) d_Bo_part_4 rfl (?_ : WD _ _ 5 _ _ _ _ _ _)
  obtain ⟨k2, h⟩ := h
  refine x_getI (ref := "CoinSamplerLaw$Hit") (j := 0) 0 k2 clk_12 (by decide) (qm_3 (i := 84) rfl rfl) (Or.inl rfl) rfl rfl d_Bo_part_5 (y := (wI w x1 0)) rfl (?_ : WD _ _ 8 _ _ _ _ _ _)
  obtain ⟨a3, e4, h⟩ := h
  rw [e4]
  obtain ⟨k5, h⟩ := h
  refine x_callV (ν := M_Al_get) [vI (wI w x1 0)] ok_M_Al_get okv_M_Al_get k5 rfl rfl (qm_3 (i := 58) rfl rfl) np_M_Al_get rfl ⟨Nat.le_of_ble_eq_true rfl, Nat.le_of_ble_eq_true rfl⟩ (Nat.le_of_ble_eq_true rfl) rfl d_Bo_part_8 (Nat.zero_le _) (Nat.zero_le _) (DP.k h (fun v7 w6 gw6 h => (?_ : WD _ _ 11 _ _ _ _ _ _)))
  obtain ⟨a8, e9, h⟩ := h
  rw [e9]
  obtain ⟨k10, h⟩ := h
  refine x_cast k10 rfl (Or.inl rfl) (qm_3 (i := 45) rfl rfl) d_Bo_part_11 (?_ : WD _ _ 14 _ _ _ _ _ _)
  refine x_callV (ν := M_It_taint) [] ok_M_It_taint okv_M_It_taint k10 rfl rfl (qm_9 (i := 30) rfl rfl) np_M_It_taint rfl ⟨Nat.le_of_ble_eq_true rfl, Nat.le_of_ble_eq_true rfl⟩ (Nat.le_of_ble_eq_true rfl) rfl d_Bo_part_14 (Nat.zero_le _) (Nat.zero_le _) (DI.k h (fun v12 w11 gw11 h => (?_ : WD _ _ 17 _ _ _ _ _ _)))
  refine x_i2l d_Bo_part_17 (?_ : WD _ _ 18 _ _ _ _ _ _)
  refine x_aload_nP (some x0) d_Bo_part_18 rfl (?_ : WD _ _ 19 _ _ _ _ _ _)
  refine x_getI (ref := "CoinSamplerLaw$Books") (j := 3) 3 ((k1.q gw6.k).q gw11.k) clk_11 (by decide) (qm_2 (i := 161) rfl rfl) (Or.inl rfl) rfl rfl d_Bo_part_19 (y := (wI w11 x0 3)) rfl (?_ : WD _ _ 22 _ _ _ _ _ _)
  refine x_i2l d_Bo_part_22 (?_ : WD _ _ 23 _ _ _ _ _ _)
  obtain ⟨h13, h⟩ := h
  refine x_lmul d_Bo_part_23 h13 (?_ : WD _ _ 24 _ _ _ _ _ _)
  refine x_ldc2 10000 d_Bo_part_24 (qm_9 (i := 31) rfl rfl) (by decide) (by decide) (?_ : WD _ _ 27 _ _ _ _ _ _)
  refine x_iload_n d_Bo_part_27 rfl (?_ : WD _ _ 28 _ _ _ _ _ _)
  refine x_i2l d_Bo_part_28 (?_ : WD _ _ 29 _ _ _ _ _ _)
  obtain ⟨h14, h⟩ := h
  refine x_lmul d_Bo_part_29 h14 (?_ : WD _ _ 30 _ _ _ _ _ _)
  obtain ⟨h15, h⟩ := h
  obtain ⟨h16, h⟩ := h
  refine x_ldiv d_Bo_part_30 h15 h16 (?_ : WD _ _ 31 _ _ _ _ _ _)
  obtain ⟨h17, h⟩ := h
  refine x_l2i d_Bo_part_31 h17 (?_ : WD _ _ 32 _ _ _ _ _ _)
  exact x_ireturn rfl d_Bo_part_32 h
set_option maxRecDepth 20000 in
theorem e_Bo_owners {G : Gq} {K : Option Nat → Wd → Prop} {w : Wd} {mc ms : Nat} (x0 : Nat) (h : (Is G w x0 (kO 11)) ∧ ∃ a2 : Nat, (wR w x0 0) = some a2 ∧ (∃ c4 s5 : Nat, c4 ≤ mc ∧ s5 ≤ ms ∧ ((Is G w a2 (kO 14)) ∧ DP G M_Al_iterator [vA a2] w c4 s5 (fun v10 w9 => WD G M_Bo_owners 19 [(0, vA x0), (1, vI 0), (2, vI 0), (3, vL (wI w x0 3)), (5, vP v10)] [] w9 (mc - c4) (ms - s5) (yP K))))) : DP G M_Bo_owners [vA x0] w mc ms K := by
  refine DC.of ok_M_Bo_owners (ls := [(0, vA x0)]) rfl (Nat.le_of_ble_eq_true rfl) ?_
  refine x_iconst d_Bo_owners_0 (by decide) (?_ : WD _ _ 1 _ _ _ _ _ _)
  refine x_istore_n (ls' := [(1, vI 0), (0, vA x0)]) d_Bo_owners_1 rfl (by decide) rfl (?_ : WD _ _ 2 _ _ _ _ _ _)
  refine x_iconst d_Bo_owners_2 (by decide) (?_ : WD _ _ 3 _ _ _ _ _ _)
  refine x_istore_n (ls' := [(2, vI 0), (1, vI 0), (0, vA x0)]) d_Bo_owners_3 rfl (by decide) rfl (?_ : WD _ _ 4 _ _ _ _ _ _)
  refine x_aload_nP (some x0) d_Bo_owners_4 rfl (?_ : WD _ _ 5 _ _ _ _ _ _)
  obtain ⟨k1, h⟩ := h
  refine x_getI (ref := "CoinSamplerLaw$Books") (j := 3) 3 k1 clk_11 (by decide) (qm_2 (i := 161) rfl rfl) (Or.inl rfl) rfl rfl d_Bo_owners_5 (y := (wI w x0 3)) rfl (?_ : WD _ _ 8 _ _ _ _ _ _)
  refine x_i2l d_Bo_owners_8 (?_ : WD _ _ 9 _ _ _ _ _ _)
  refine x_lstore_n (ls' := [(3, vL (wI w x0 3)), (2, vI 0), (1, vI 0), (0, vA x0)]) d_Bo_owners_9 rfl (by decide) rfl (?_ : WD _ _ 10 _ _ _ _ _ _)
  refine x_aload_nP (some x0) d_Bo_owners_10 rfl (?_ : WD _ _ 11 _ _ _ _ _ _)
  refine x_getP (ref := "CoinSamplerLaw$Books") (j := 0) 0 k1 clk_11 (by decide) (qm_2 (i := 155) rfl rfl) (Or.inl rfl) rfl rfl d_Bo_owners_11 (y := (wR w x0 0)) rfl (?_ : WD _ _ 14 _ _ _ _ _ _)
  obtain ⟨a2, e3, h⟩ := h
  rw [e3]
  obtain ⟨c4, s5, h6, h7, h⟩ := h
  obtain ⟨k8, h⟩ := h
  refine x_callV (ν := M_Al_iterator) [] ok_M_Al_iterator okv_M_Al_iterator k8 rfl rfl (qm_2 (i := 198) rfl rfl) np_M_Al_iterator rfl ⟨Nat.le_of_ble_eq_true rfl, Nat.le_of_ble_eq_true rfl⟩ (Nat.le_of_ble_eq_true rfl) rfl d_Bo_owners_14 h6 h7 (DP.k h (fun v10 w9 gw9 h => (?_ : WD _ _ 17 _ _ _ _ _ _)))
  refine x_astoreP v10 (ls' := [(5, vP v10), (3, vL (wI w x0 3)), (2, vI 0), (1, vI 0), (0, vA x0)]) d_Bo_owners_17 (by decide) rfl (?_ : WD _ _ 19 _ _ _ _ _ _)
  refine x_pick (ls' := [(0, vA x0), (1, vI 0), (2, vI 0), (3, vL (wI w x0 3)), (5, vP v10)]) [4, 3, 2, 1, 0] rfl ?_
  exact h
set_option maxRecDepth 20000 in
theorem l_Bo_owners_1 {G : Gq} {K : Option Nat → Wd → Prop} {w : Wd} {rc rs : Nat} (x0 : Nat) (x1 : Int) (x2 : Int) (x3 : Int) (x5 : Option Nat) (h : ∃ a11 : Nat, x5 = some a11 ∧ ((Is G w a11 (kO 15)) ∧ DI G M_Ai_hasNext [vA a11] w 0 0 (fun v15 w14 => (v15 = 0 → (Is G w14 x0 (kO 11)) ∧ ((wR w14 x0 5) = none → ∃ n20 : Nat, x1 = (n20 : Int) ∧ ((n20 ≤ 100000) ∧ (1 ≤ rc) ∧ (n20 ≤ rs) ∧ ∀ q25 : Nat, Fr G w14 q25 → ((Ow (uN w14 q25 (kA 0 n20)) x0 (kO 11)) ∧ WD G M_Bo_owners 127 [(0, vA x0), (2, vI x2), (5, vA q25), (6, vI 0)] [] (uJ (uR (uN w14 q25 (kA 0 n20)) x0 5 (some q25)) x0 6 x3) (rc - 1) (rs - n20) (yP K)))) ∧ (∀ a18 : Nat, (wR w14 x0 5) = some a18 → (¬ (lcq x3 (wJ w14 x0 6)) = 0 → ∃ n29 : Nat, x1 = (n29 : Int) ∧ ((n29 ≤ 100000) ∧ (1 ≤ rc) ∧ (n29 ≤ rs) ∧ ∀ q34 : Nat, Fr G w14 q34 → ((Ow (uN w14 q34 (kA 0 n29)) x0 (kO 11)) ∧ WD G M_Bo_owners 127 [(0, vA x0), (2, vI x2), (5, vA q34), (6, vI 0)] [] (uJ (uR (uN w14 q34 (kA 0 n29)) x0 5 (some q34)) x0 6 x3) (rc - 1) (rs - n29) (yP K)))) ∧ ((lcq x3 (wJ w14 x0 6)) = 0 → ∃ a37 : Nat, (wR w14 x0 5) = some a37 ∧ (∃ n39 : Nat, ((Is G w14 a37 (kA 0 n39)) ∧ (inR (n39 : Int)) ∧ (¬ (n39 : Int) = x1 → ∃ n43 : Nat, x1 = (n43 : Int) ∧ ((n43 ≤ 100000) ∧ (1 ≤ rc) ∧ (n43 ≤ rs) ∧ ∀ q48 : Nat, Fr G w14 q48 → ((Ow (uN w14 q48 (kA 0 n43)) x0 (kO 11)) ∧ WD G M_Bo_owners 127 [(0, vA x0), (2, vI x2), (5, vA q48), (6, vI 0)] [] (uJ (uR (uN w14 q48 (kA 0 n43)) x0 5 (some q48)) x0 6 x3) (rc - 1) (rs - n43) (yP K)))) ∧ ((n39 : Int) = x1 → K (wR w14 x0 5) w14)))))) ∧ (¬ v15 = 0 → DP G M_Ai_next [vA a11] w14 0 0 (fun v52 w51 => ∃ a53 : Nat, v52 = some a53 ∧ ((Is G w51 a53 (kO 13)) ∧ (Is G w51 x0 (kO 11)) ∧ DI G M_Bo_certain [vA x0, vA a53] w51 0 0 (fun v58 w57 => (v58 = 0 → DI G M_It_coins [vA a53] w57 0 0 (fun v61 w60 => (inR (x1 + v61)) ∧ WD G M_Bo_owners 19 [(0, vA x0), (1, vI (x1 + v61)), (2, vI x2), (3, vL (wrl ((wrl (31 * x3)) + (wI w60 a53 2)))), (5, vP (some a11))] [] w60 rc rs (yP K))) ∧ (¬ v58 = 0 → (inR (x1 + 0)) ∧ WD G M_Bo_owners 19 [(0, vA x0), (1, vI (x1 + 0)), (2, vI x2), (3, vL (wrl ((wrl (31 * x3)) + (wI w57 a53 2)))), (5, vP (some a11))] [] w57 rc rs (yP K))))))))) : WD G M_Bo_owners 19 [(0, vA x0), (1, vI x1), (2, vI x2), (3, vL x3), (5, vP x5)] [] w rc rs (yP K) := by
  refine x_aloadP x5 d_Bo_owners_19 rfl (?_ : WD _ _ 21 _ _ _ _ _ _)
  obtain ⟨a11, e12, h⟩ := h
  rw [e12]
  obtain ⟨k13, h⟩ := h
  refine x_callF (ν := M_Ai_hasNext) ⟨"java/util/Iterator", "hasNext", "()Z"⟩ [] ok_M_Ai_hasNext oki_M_Ai_hasNext k13 rfl (qm_2 (i := 226) rfl rfl) (by decide) (qm_2 (i := 222) rfl rfl) (show _ = some 0 from by decide +kernel) rfl ⟨Nat.le_of_ble_eq_true rfl, Nat.le_of_ble_eq_true rfl⟩ (Nat.le_of_ble_eq_true rfl) rfl d_Bo_owners_21 (Nat.zero_le _) (Nat.zero_le _) (DI.k h (fun v15 w14 gw14 h => (?_ : WD _ _ 26 _ _ _ _ _ _)))
  refine x_if_eq 78 d_Bo_owners_26 rfl ⟨fun c16 => (?_ : WD _ _ 78 _ _ _ _ _ _), fun c16 => (?_ : WD _ _ 29 _ _ _ _ _ _)⟩
  · replace h := h.1 c16
    refine x_aload_nP (some x0) d_Bo_owners_78 rfl (?_ : WD _ _ 79 _ _ _ _ _ _)
    obtain ⟨k17, h⟩ := h
    refine x_getP (ref := "CoinSamplerLaw$Books") (j := 5) 5 k17 clk_11 (by decide) (qm_2 (i := 165) rfl rfl) (Or.inl rfl) rfl rfl d_Bo_owners_79 (y := (wR w14 x0 5)) rfl (?_ : WD _ _ 82 _ _ _ _ _ _)
    refine x_ifnull 108 d_Bo_owners_82 rfl ⟨fun e19 => (?_ : WD _ _ 108 _ _ _ _ _ _), fun a18 e19 => (?_ : WD _ _ 85 _ _ _ _ _ _)⟩
    · replace h := h.1 e19
      refine x_iload_n d_Bo_owners_108 rfl (?_ : WD _ _ 109 _ _ _ _ _ _)
      obtain ⟨n20, e21, h⟩ := h
      obtain ⟨h22, h⟩ := h
      obtain ⟨h23, h⟩ := h
      obtain ⟨h24, h⟩ := h
      refine x_newa (t := 0) n20 e21 d_Bo_owners_109 rfl (qm_1 (i := 107) rfl rfl) (fun _ => rfl) (fun _ _ => rfl) (fun _ => rfl) h22 (by decide) h23 h24 (fun q25 fq25 => (?_ : WD _ _ 111 _ _ _ _ _ _))
      replace h := h q25 fq25
      have k26 : Ow (uN w14 q25 (kA 0 n20)) q25 (kA 0 n20) := Ow.nw
      refine x_astoreP (some q25) (ls' := [(5, vA q25), (0, vA x0), (1, vI x1), (2, vI x2), (3, vL x3)]) d_Bo_owners_111 (by decide) rfl (?_ : WD _ _ 113 _ _ _ _ _ _)
      refine x_aload_nP (some x0) d_Bo_owners_113 rfl (?_ : WD _ _ 114 _ _ _ _ _ _)
      refine x_aloadP (some q25) d_Bo_owners_114 rfl (?_ : WD _ _ 116 _ _ _ _ _ _)
      obtain ⟨k27, h⟩ := h
      refine x_putP (ref := "CoinSamplerLaw$Books") (j := 5) (some q25) 5 k27 clk_11 (by decide) (qm_2 (i := 165) rfl rfl) (Or.inl rfl) (Or.inl rfl) tyX11_ok rfl nmX11 d_Bo_owners_116 rfl rfl (nar_P (by first | exact Or.inl ⟨_, rfl⟩ | exact Or.inr ⟨_, rfl⟩) _) (fit_P (by first | exact Or.inl ⟨_, rfl⟩ | exact Or.inr ⟨_, rfl⟩) _) (?_ : WD _ _ 119 _ _ _ _ _ _)
      refine x_aload_nP (some x0) d_Bo_owners_119 rfl (?_ : WD _ _ 120 _ _ _ _ _ _)
      refine x_lload_n d_Bo_owners_120 rfl (?_ : WD _ _ 121 _ _ _ _ _ _)
      refine x_putJ (ref := "CoinSamplerLaw$Books") (j := 6) 6 k27 clk_11 (by decide) (qm_2 (i := 166) rfl rfl) (Or.inl rfl) (Or.inl rfl) tyX11_ok rfl nmX11 d_Bo_owners_121 rfl rfl rfl (?_ : WD _ _ 124 _ _ _ _ _ _)
      refine x_iconst d_Bo_owners_124 (by decide) (?_ : WD _ _ 125 _ _ _ _ _ _)
      refine x_istore (ls' := [(6, vI 0), (5, vA q25), (0, vA x0), (1, vI x1), (2, vI x2), (3, vL x3)]) d_Bo_owners_125 (by decide) rfl (?_ : WD _ _ 127 _ _ _ _ _ _)
      refine x_pick (ls' := [(0, vA x0), (2, vI x2), (5, vA q25), (6, vI 0)]) [2, 4, 1, 0] rfl ?_
      exact h
    · replace h := h.2 a18 e19
      refine x_lload_n d_Bo_owners_85 rfl (?_ : WD _ _ 86 _ _ _ _ _ _)
      refine x_aload_nP (some x0) d_Bo_owners_86 rfl (?_ : WD _ _ 87 _ _ _ _ _ _)
      refine x_getJ (ref := "CoinSamplerLaw$Books") (j := 6) 6 k17 clk_11 (by decide) (qm_2 (i := 166) rfl rfl) (Or.inl rfl) rfl rfl d_Bo_owners_87 (y := (wJ w14 x0 6)) rfl (?_ : WD _ _ 90 _ _ _ _ _ _)
      refine x_lcmp d_Bo_owners_90 (?_ : WD _ _ 91 _ _ _ _ _ _)
      refine x_if_ne 108 d_Bo_owners_91 rfl ⟨fun c28 => (?_ : WD _ _ 108 _ _ _ _ _ _), fun c28 => (?_ : WD _ _ 94 _ _ _ _ _ _)⟩
      · replace h := h.1 c28
        refine x_iload_n d_Bo_owners_108 rfl (?_ : WD _ _ 109 _ _ _ _ _ _)
        obtain ⟨n29, e30, h⟩ := h
        obtain ⟨h31, h⟩ := h
        obtain ⟨h32, h⟩ := h
        obtain ⟨h33, h⟩ := h
        refine x_newa (t := 0) n29 e30 d_Bo_owners_109 rfl (qm_1 (i := 107) rfl rfl) (fun _ => rfl) (fun _ _ => rfl) (fun _ => rfl) h31 (by decide) h32 h33 (fun q34 fq34 => (?_ : WD _ _ 111 _ _ _ _ _ _))
        replace h := h q34 fq34
        have k35 : Ow (uN w14 q34 (kA 0 n29)) q34 (kA 0 n29) := Ow.nw
        refine x_astoreP (some q34) (ls' := [(5, vA q34), (0, vA x0), (1, vI x1), (2, vI x2), (3, vL x3)]) d_Bo_owners_111 (by decide) rfl (?_ : WD _ _ 113 _ _ _ _ _ _)
        refine x_aload_nP (some x0) d_Bo_owners_113 rfl (?_ : WD _ _ 114 _ _ _ _ _ _)
        refine x_aloadP (some q34) d_Bo_owners_114 rfl (?_ : WD _ _ 116 _ _ _ _ _ _)
        obtain ⟨k36, h⟩ := h
        refine x_putP (ref := "CoinSamplerLaw$Books") (j := 5) (some q34) 5 k36 clk_11 (by decide) (qm_2 (i := 165) rfl rfl) (Or.inl rfl) (Or.inl rfl) tyX11_ok rfl nmX11 d_Bo_owners_116 rfl rfl (nar_P (by first | exact Or.inl ⟨_, rfl⟩ | exact Or.inr ⟨_, rfl⟩) _) (fit_P (by first | exact Or.inl ⟨_, rfl⟩ | exact Or.inr ⟨_, rfl⟩) _) (?_ : WD _ _ 119 _ _ _ _ _ _)
        refine x_aload_nP (some x0) d_Bo_owners_119 rfl (?_ : WD _ _ 120 _ _ _ _ _ _)
        refine x_lload_n d_Bo_owners_120 rfl (?_ : WD _ _ 121 _ _ _ _ _ _)
        refine x_putJ (ref := "CoinSamplerLaw$Books") (j := 6) 6 k36 clk_11 (by decide) (qm_2 (i := 166) rfl rfl) (Or.inl rfl) (Or.inl rfl) tyX11_ok rfl nmX11 d_Bo_owners_121 rfl rfl rfl (?_ : WD _ _ 124 _ _ _ _ _ _)
        refine x_iconst d_Bo_owners_124 (by decide) (?_ : WD _ _ 125 _ _ _ _ _ _)
        refine x_istore (ls' := [(6, vI 0), (5, vA q34), (0, vA x0), (1, vI x1), (2, vI x2), (3, vL x3)]) d_Bo_owners_125 (by decide) rfl (?_ : WD _ _ 127 _ _ _ _ _ _)
        refine x_pick (ls' := [(0, vA x0), (2, vI x2), (5, vA q34), (6, vI 0)]) [2, 4, 1, 0] rfl ?_
        exact h
      · replace h := h.2 c28
        refine x_aload_nP (some x0) d_Bo_owners_94 rfl (?_ : WD _ _ 95 _ _ _ _ _ _)
        refine x_getP (ref := "CoinSamplerLaw$Books") (j := 5) 5 k17 clk_11 (by decide) (qm_2 (i := 165) rfl rfl) (Or.inl rfl) rfl rfl d_Bo_owners_95 (y := (wR w14 x0 5)) rfl (?_ : WD _ _ 98 _ _ _ _ _ _)
        obtain ⟨a37, e38, h⟩ := h
        rw [e38]
        obtain ⟨n39, h⟩ := h
        obtain ⟨k40, h⟩ := h
        obtain ⟨h41, h⟩ := h
        refine x_alenA k40 (fun _ => rfl) h41 d_Bo_owners_98 (?_ : WD _ _ 99 _ _ _ _ _ _)
        refine x_iload_n d_Bo_owners_99 rfl (?_ : WD _ _ 100 _ _ _ _ _ _)
        refine x_icmp_ne 108 d_Bo_owners_100 rfl ⟨fun c42 => (?_ : WD _ _ 108 _ _ _ _ _ _), fun c42 => (?_ : WD _ _ 103 _ _ _ _ _ _)⟩
        · replace h := h.1 c42
          refine x_iload_n d_Bo_owners_108 rfl (?_ : WD _ _ 109 _ _ _ _ _ _)
          obtain ⟨n43, e44, h⟩ := h
          obtain ⟨h45, h⟩ := h
          obtain ⟨h46, h⟩ := h
          obtain ⟨h47, h⟩ := h
          refine x_newa (t := 0) n43 e44 d_Bo_owners_109 rfl (qm_1 (i := 107) rfl rfl) (fun _ => rfl) (fun _ _ => rfl) (fun _ => rfl) h45 (by decide) h46 h47 (fun q48 fq48 => (?_ : WD _ _ 111 _ _ _ _ _ _))
          replace h := h q48 fq48
          have k49 : Ow (uN w14 q48 (kA 0 n43)) q48 (kA 0 n43) := Ow.nw
          refine x_astoreP (some q48) (ls' := [(5, vA q48), (0, vA x0), (1, vI x1), (2, vI x2), (3, vL x3)]) d_Bo_owners_111 (by decide) rfl (?_ : WD _ _ 113 _ _ _ _ _ _)
          refine x_aload_nP (some x0) d_Bo_owners_113 rfl (?_ : WD _ _ 114 _ _ _ _ _ _)
          refine x_aloadP (some q48) d_Bo_owners_114 rfl (?_ : WD _ _ 116 _ _ _ _ _ _)
          obtain ⟨k50, h⟩ := h
          refine x_putP (ref := "CoinSamplerLaw$Books") (j := 5) (some q48) 5 k50 clk_11 (by decide) (qm_2 (i := 165) rfl rfl) (Or.inl rfl) (Or.inl rfl) tyX11_ok rfl nmX11 d_Bo_owners_116 rfl rfl (nar_P (by first | exact Or.inl ⟨_, rfl⟩ | exact Or.inr ⟨_, rfl⟩) _) (fit_P (by first | exact Or.inl ⟨_, rfl⟩ | exact Or.inr ⟨_, rfl⟩) _) (?_ : WD _ _ 119 _ _ _ _ _ _)
          refine x_aload_nP (some x0) d_Bo_owners_119 rfl (?_ : WD _ _ 120 _ _ _ _ _ _)
          refine x_lload_n d_Bo_owners_120 rfl (?_ : WD _ _ 121 _ _ _ _ _ _)
          refine x_putJ (ref := "CoinSamplerLaw$Books") (j := 6) 6 k50 clk_11 (by decide) (qm_2 (i := 166) rfl rfl) (Or.inl rfl) (Or.inl rfl) tyX11_ok rfl nmX11 d_Bo_owners_121 rfl rfl rfl (?_ : WD _ _ 124 _ _ _ _ _ _)
          refine x_iconst d_Bo_owners_124 (by decide) (?_ : WD _ _ 125 _ _ _ _ _ _)
          refine x_istore (ls' := [(6, vI 0), (5, vA q48), (0, vA x0), (1, vI x1), (2, vI x2), (3, vL x3)]) d_Bo_owners_125 (by decide) rfl (?_ : WD _ _ 127 _ _ _ _ _ _)
          refine x_pick (ls' := [(0, vA x0), (2, vI x2), (5, vA q48), (6, vI 0)]) [2, 4, 1, 0] rfl ?_
          exact h
        · replace h := h.2 c42
          refine x_aload_nP (some x0) d_Bo_owners_103 rfl (?_ : WD _ _ 104 _ _ _ _ _ _)
          refine x_getP (ref := "CoinSamplerLaw$Books") (j := 5) 5 k17 clk_11 (by decide) (qm_2 (i := 165) rfl rfl) (Or.inl rfl) rfl rfl d_Bo_owners_104 (y := (wR w14 x0 5)) rfl (?_ : WD _ _ 107 _ _ _ _ _ _)
          exact x_areturn (wR w14 x0 5) rfl (Or.inr ⟨_, rfl⟩) d_Bo_owners_107 h
  · replace h := h.2 c16
    refine x_aloadP (some a11) d_Bo_owners_29 rfl (?_ : WD _ _ 31 _ _ _ _ _ _)
    refine x_callF (ν := M_Ai_next) ⟨"java/util/Iterator", "next", "()Ljava/lang/Object;"⟩ [] ok_M_Ai_next oki_M_Ai_next (k13.q gw14.k) rfl (qm_3 (i := 7) rfl rfl) (by decide) (qm_3 (i := 4) rfl rfl) (show _ = some 0 from by decide +kernel) rfl ⟨Nat.le_of_ble_eq_true rfl, Nat.le_of_ble_eq_true rfl⟩ (Nat.le_of_ble_eq_true rfl) rfl d_Bo_owners_31 (Nat.zero_le _) (Nat.zero_le _) (DP.k h (fun v52 w51 gw51 h => (?_ : WD _ _ 36 _ _ _ _ _ _)))
    obtain ⟨a53, e54, h⟩ := h
    rw [e54]
    obtain ⟨k55, h⟩ := h
    refine x_cast k55 rfl (Or.inl rfl) (qm_3 (i := 45) rfl rfl) d_Bo_owners_36 (?_ : WD _ _ 39 _ _ _ _ _ _)
    refine x_astoreP (some a53) (ls' := [(6, vA a53), (0, vA x0), (1, vI x1), (2, vI x2), (3, vL x3), (5, vA a11)]) d_Bo_owners_39 (by decide) rfl (?_ : WD _ _ 41 _ _ _ _ _ _)
    refine x_iload_n d_Bo_owners_41 rfl (?_ : WD _ _ 42 _ _ _ _ _ _)
    refine x_aload_nP (some x0) d_Bo_owners_42 rfl (?_ : WD _ _ 43 _ _ _ _ _ _)
    refine x_aloadP (some a53) d_Bo_owners_43 rfl (?_ : WD _ _ 45 _ _ _ _ _ _)
    obtain ⟨k56, h⟩ := h
    refine x_callV (ν := M_Bo_certain) [vA a53] ok_M_Bo_certain okv_M_Bo_certain k56 rfl rfl (qm_3 (i := 46) rfl rfl) np_M_Bo_certain rfl ⟨Nat.le_of_ble_eq_true rfl, Nat.le_of_ble_eq_true rfl⟩ (Nat.le_of_ble_eq_true rfl) rfl d_Bo_owners_45 (Nat.zero_le _) (Nat.zero_le _) (DI.k h (fun v58 w57 gw57 h => (?_ : WD _ _ 48 _ _ _ _ _ _)))
    refine x_if_eq 55 d_Bo_owners_48 rfl ⟨fun c59 => (?_ : WD _ _ 55 _ _ _ _ _ _), fun c59 => (?_ : WD _ _ 51 _ _ _ _ _ _)⟩
    · replace h := h.1 c59
      refine x_aloadP (some a53) d_Bo_owners_55 rfl (?_ : WD _ _ 57 _ _ _ _ _ _)
      refine x_callV (ν := M_It_coins) [] ok_M_It_coins okv_M_It_coins (k55.q gw57.k) rfl rfl (qm_3 (i := 50) rfl rfl) np_M_It_coins rfl ⟨Nat.le_of_ble_eq_true rfl, Nat.le_of_ble_eq_true rfl⟩ (Nat.le_of_ble_eq_true rfl) rfl d_Bo_owners_57 (Nat.zero_le _) (Nat.zero_le _) (DI.k h (fun v61 w60 gw60 h => (?_ : WD _ _ 60 _ _ _ _ _ _)))
      obtain ⟨h62, h⟩ := h
      refine x_iadd d_Bo_owners_60 h62 (?_ : WD _ _ 61 _ _ _ _ _ _)
      refine x_istore_n (ls' := [(1, vI (x1 + v61)), (6, vA a53), (0, vA x0), (2, vI x2), (3, vL x3), (5, vA a11)]) d_Bo_owners_61 rfl (by decide) rfl (?_ : WD _ _ 62 _ _ _ _ _ _)
      refine x_ldc2 31 d_Bo_owners_62 (qm_3 (i := 57) rfl rfl) (by decide) (by decide) (?_ : WD _ _ 65 _ _ _ _ _ _)
      refine x_lload_n d_Bo_owners_65 rfl (?_ : WD _ _ 66 _ _ _ _ _ _)
      refine x_lmulw d_Bo_owners_66 (?_ : WD _ _ 67 _ _ _ _ _ _)
      refine x_aloadP (some a53) d_Bo_owners_67 rfl (?_ : WD _ _ 69 _ _ _ _ _ _)
      refine x_getI (ref := "CoinSamplerLaw$Item") (j := 2) 2 ((k55.q gw57.k).q gw60.k) clk_13 (by decide) (qm_4 (i := 156) rfl rfl) (Or.inl rfl) rfl rfl d_Bo_owners_69 (y := (wI w60 a53 2)) rfl (?_ : WD _ _ 72 _ _ _ _ _ _)
      refine x_i2l d_Bo_owners_72 (?_ : WD _ _ 73 _ _ _ _ _ _)
      refine x_laddw d_Bo_owners_73 (?_ : WD _ _ 74 _ _ _ _ _ _)
      refine x_lstore_n (ls' := [(3, vL (wrl ((wrl (31 * x3)) + (wI w60 a53 2)))), (1, vI (x1 + v61)), (6, vA a53), (0, vA x0), (2, vI x2), (5, vA a11)]) d_Bo_owners_74 rfl (by decide) rfl (?_ : WD _ _ 75 _ _ _ _ _ _)
      refine x_goto 19 d_Bo_owners_75 rfl ?_
      refine x_pick (ls' := [(0, vA x0), (1, vI (x1 + v61)), (2, vI x2), (3, vL (wrl ((wrl (31 * x3)) + (wI w60 a53 2)))), (5, vP (some a11))]) [3, 1, 4, 0, 5] rfl ?_
      exact h
    · replace h := h.2 c59
      refine x_iconst d_Bo_owners_51 (by decide) (?_ : WD _ _ 52 _ _ _ _ _ _)
      refine x_goto 60 d_Bo_owners_52 rfl ?_
      obtain ⟨h63, h⟩ := h
      refine x_iadd d_Bo_owners_60 h63 (?_ : WD _ _ 61 _ _ _ _ _ _)
      refine x_istore_n (ls' := [(1, vI (x1 + 0)), (6, vA a53), (0, vA x0), (2, vI x2), (3, vL x3), (5, vA a11)]) d_Bo_owners_61 rfl (by decide) rfl (?_ : WD _ _ 62 _ _ _ _ _ _)
      refine x_ldc2 31 d_Bo_owners_62 (qm_3 (i := 57) rfl rfl) (by decide) (by decide) (?_ : WD _ _ 65 _ _ _ _ _ _)
      refine x_lload_n d_Bo_owners_65 rfl (?_ : WD _ _ 66 _ _ _ _ _ _)
      refine x_lmulw d_Bo_owners_66 (?_ : WD _ _ 67 _ _ _ _ _ _)
      refine x_aloadP (some a53) d_Bo_owners_67 rfl (?_ : WD _ _ 69 _ _ _ _ _ _)
      refine x_getI (ref := "CoinSamplerLaw$Item") (j := 2) 2 (k55.q gw57.k) clk_13 (by decide) (qm_4 (i := 156) rfl rfl) (Or.inl rfl) rfl rfl d_Bo_owners_69 (y := (wI w57 a53 2)) rfl (?_ : WD _ _ 72 _ _ _ _ _ _)
      refine x_i2l d_Bo_owners_72 (?_ : WD _ _ 73 _ _ _ _ _ _)
      refine x_laddw d_Bo_owners_73 (?_ : WD _ _ 74 _ _ _ _ _ _)
      refine x_lstore_n (ls' := [(3, vL (wrl ((wrl (31 * x3)) + (wI w57 a53 2)))), (1, vI (x1 + 0)), (6, vA a53), (0, vA x0), (2, vI x2), (5, vA a11)]) d_Bo_owners_74 rfl (by decide) rfl (?_ : WD _ _ 75 _ _ _ _ _ _)
      refine x_goto 19 d_Bo_owners_75 rfl ?_
      refine x_pick (ls' := [(0, vA x0), (1, vI (x1 + 0)), (2, vI x2), (3, vL (wrl ((wrl (31 * x3)) + (wI w57 a53 2)))), (5, vP (some a11))]) [3, 1, 4, 0, 5] rfl ?_
      exact h
set_option maxRecDepth 20000 in
theorem l_Bo_owners_2 {G : Gq} {K : Option Nat → Wd → Prop} {w : Wd} {rc rs : Nat} (x0 : Nat) (x2 : Int) (x5 : Nat) (x6 : Int) (h : (Is G w x0 (kO 11)) ∧ ∃ a65 : Nat, (wR w x0 0) = some a65 ∧ ((Is G w a65 (kO 14)) ∧ DI G M_Al_size [vA a65] w 0 0 (fun v69 w68 => (v69 ≤ x6 → K (some x5) w68) ∧ (¬ v69 ≤ x6 → WD G M_Bo_owners 142 [(0, vA x0), (2, vI x2), (5, vA x5), (6, vI x6), (7, vI 0)] [] w68 rc rs (yP K))))) : WD G M_Bo_owners 127 [(0, vA x0), (2, vI x2), (5, vA x5), (6, vI x6)] [] w rc rs (yP K) := by
  refine x_iload d_Bo_owners_127 rfl (?_ : WD _ _ 129 _ _ _ _ _ _)
  refine x_aload_nP (some x0) d_Bo_owners_129 rfl (?_ : WD _ _ 130 _ _ _ _ _ _)
  obtain ⟨k64, h⟩ := h
  refine x_getP (ref := "CoinSamplerLaw$Books") (j := 0) 0 k64 clk_11 (by decide) (qm_2 (i := 155) rfl rfl) (Or.inl rfl) rfl rfl d_Bo_owners_130 (y := (wR w x0 0)) rfl (?_ : WD _ _ 133 _ _ _ _ _ _)
  obtain ⟨a65, e66, h⟩ := h
  rw [e66]
  obtain ⟨k67, h⟩ := h
  refine x_callV (ν := M_Al_size) [] ok_M_Al_size okv_M_Al_size k67 rfl rfl (qm_2 (i := 186) rfl rfl) np_M_Al_size rfl ⟨Nat.le_of_ble_eq_true rfl, Nat.le_of_ble_eq_true rfl⟩ (Nat.le_of_ble_eq_true rfl) rfl d_Bo_owners_133 (Nat.zero_le _) (Nat.zero_le _) (DI.k h (fun v69 w68 gw68 h => (?_ : WD _ _ 136 _ _ _ _ _ _)))
  refine x_icmp_ge 202 d_Bo_owners_136 rfl ⟨fun c70 => (?_ : WD _ _ 202 _ _ _ _ _ _), fun c70 => (?_ : WD _ _ 139 _ _ _ _ _ _)⟩
  · replace h := h.1 c70
    refine x_aloadP (some x5) d_Bo_owners_202 rfl (?_ : WD _ _ 204 _ _ _ _ _ _)
    exact x_areturn (some x5) rfl (Or.inr ⟨_, rfl⟩) d_Bo_owners_204 h
  · replace h := h.2 c70
    refine x_iconst d_Bo_owners_139 (by decide) (?_ : WD _ _ 140 _ _ _ _ _ _)
    refine x_istore (ls' := [(7, vI 0), (0, vA x0), (2, vI x2), (5, vA x5), (6, vI x6)]) d_Bo_owners_140 (by decide) rfl (?_ : WD _ _ 142 _ _ _ _ _ _)
    refine x_pick (ls' := [(0, vA x0), (2, vI x2), (5, vA x5), (6, vI x6), (7, vI 0)]) [1, 2, 3, 4, 0] rfl ?_
    exact h
set_option maxRecDepth 20000 in
theorem l_Bo_owners_3 {G : Gq} {K : Option Nat → Wd → Prop} {w : Wd} {rc rs : Nat} (x0 : Nat) (x2 : Int) (x5 : Nat) (x6 : Int) (x7 : Int) (h : (Is G w x0 (kO 11)) ∧ ∃ a72 : Nat, (wR w x0 0) = some a72 ∧ ((Is G w a72 (kO 14)) ∧ DP G M_Al_get [vA a72, vI x6] w 0 0 (fun v76 w75 => ∃ a77 : Nat, v76 = some a77 ∧ ((Is G w75 a77 (kO 13)) ∧ DI G M_It_coins [vA a77] w75 0 0 (fun v81 w80 => (v81 ≤ x7 → (inR (x6 + 1)) ∧ WD G M_Bo_owners 127 [(0, vA x0), (2, vI x2), (5, vA x5), (6, vI (x6 + 1))] [] w80 rc rs (yP K)) ∧ (¬ v81 ≤ x7 → ∃ a84 : Nat, (wR w80 x0 0) = some a84 ∧ ((Is G w80 a84 (kO 14)) ∧ DP G M_Al_get [vA a84, vI x6] w80 0 0 (fun v88 w87 => ∃ a89 : Nat, v88 = some a89 ∧ ((Is G w87 a89 (kO 13)) ∧ DI G M_Bo_certain [vA x0, vA a89] w87 0 0 (fun v93 w92 => (¬ v93 = 0 → (inR (x6 + 1)) ∧ WD G M_Bo_owners 127 [(0, vA x0), (2, vI x2), (5, vA x5), (6, vI (x6 + 1))] [] w92 rc rs (yP K)) ∧ (v93 = 0 → (inR (x2 + 1)) ∧ ∃ n97 : Nat, ((Ow w92 x5 (kA 0 n97)) ∧ (0 ≤ x2) ∧ (x2 < (n97 : Int)) ∧ (inR (x7 + 1)) ∧ WD G M_Bo_owners 142 [(0, vA x0), (2, vI (x2 + 1)), (5, vA x5), (6, vI x6), (7, vI (x7 + 1))] [] (uI w92 x5 x2 x6) rc rs (yP K))))))))))))) : WD G M_Bo_owners 142 [(0, vA x0), (2, vI x2), (5, vA x5), (6, vI x6), (7, vI x7)] [] w rc rs (yP K) := by
  refine x_iload d_Bo_owners_142 rfl (?_ : WD _ _ 144 _ _ _ _ _ _)
  refine x_aload_nP (some x0) d_Bo_owners_144 rfl (?_ : WD _ _ 145 _ _ _ _ _ _)
  obtain ⟨k71, h⟩ := h
  refine x_getP (ref := "CoinSamplerLaw$Books") (j := 0) 0 k71 clk_11 (by decide) (qm_2 (i := 155) rfl rfl) (Or.inl rfl) rfl rfl d_Bo_owners_145 (y := (wR w x0 0)) rfl (?_ : WD _ _ 148 _ _ _ _ _ _)
  refine x_iload d_Bo_owners_148 rfl (?_ : WD _ _ 150 _ _ _ _ _ _)
  obtain ⟨a72, e73, h⟩ := h
  rw [e73]
  obtain ⟨k74, h⟩ := h
  refine x_callV (ν := M_Al_get) [vI x6] ok_M_Al_get okv_M_Al_get k74 rfl rfl (qm_3 (i := 58) rfl rfl) np_M_Al_get rfl ⟨Nat.le_of_ble_eq_true rfl, Nat.le_of_ble_eq_true rfl⟩ (Nat.le_of_ble_eq_true rfl) rfl d_Bo_owners_150 (Nat.zero_le _) (Nat.zero_le _) (DP.k h (fun v76 w75 gw75 h => (?_ : WD _ _ 153 _ _ _ _ _ _)))
  obtain ⟨a77, e78, h⟩ := h
  rw [e78]
  obtain ⟨k79, h⟩ := h
  refine x_cast k79 rfl (Or.inl rfl) (qm_3 (i := 45) rfl rfl) d_Bo_owners_153 (?_ : WD _ _ 156 _ _ _ _ _ _)
  refine x_callV (ν := M_It_coins) [] ok_M_It_coins okv_M_It_coins k79 rfl rfl (qm_3 (i := 50) rfl rfl) np_M_It_coins rfl ⟨Nat.le_of_ble_eq_true rfl, Nat.le_of_ble_eq_true rfl⟩ (Nat.le_of_ble_eq_true rfl) rfl d_Bo_owners_156 (Nat.zero_le _) (Nat.zero_le _) (DI.k h (fun v81 w80 gw80 h => (?_ : WD _ _ 159 _ _ _ _ _ _)))
  refine x_icmp_ge 196 d_Bo_owners_159 rfl ⟨fun c82 => (?_ : WD _ _ 196 _ _ _ _ _ _), fun c82 => (?_ : WD _ _ 162 _ _ _ _ _ _)⟩
  · replace h := h.1 c82
    obtain ⟨h83, h⟩ := h
    refine x_iinc (ls' := [(6, vI (x6 + 1)), (0, vA x0), (2, vI x2), (5, vA x5), (7, vI x7)]) d_Bo_owners_196 rfl h83 (by decide) rfl (?_ : WD _ _ 199 _ _ _ _ _ _)
    refine x_goto 127 d_Bo_owners_199 rfl ?_
    refine x_pick (ls' := [(0, vA x0), (2, vI x2), (5, vA x5), (6, vI (x6 + 1))]) [1, 2, 3, 0] rfl ?_
    exact h
  · replace h := h.2 c82
    refine x_aload_nP (some x0) d_Bo_owners_162 rfl (?_ : WD _ _ 163 _ _ _ _ _ _)
    refine x_aload_nP (some x0) d_Bo_owners_163 rfl (?_ : WD _ _ 164 _ _ _ _ _ _)
    refine x_getP (ref := "CoinSamplerLaw$Books") (j := 0) 0 ((k71.q gw75.k).q gw80.k) clk_11 (by decide) (qm_2 (i := 155) rfl rfl) (Or.inl rfl) rfl rfl d_Bo_owners_164 (y := (wR w80 x0 0)) rfl (?_ : WD _ _ 167 _ _ _ _ _ _)
    refine x_iload d_Bo_owners_167 rfl (?_ : WD _ _ 169 _ _ _ _ _ _)
    obtain ⟨a84, e85, h⟩ := h
    rw [e85]
    obtain ⟨k86, h⟩ := h
    refine x_callV (ν := M_Al_get) [vI x6] ok_M_Al_get okv_M_Al_get k86 rfl rfl (qm_3 (i := 58) rfl rfl) np_M_Al_get rfl ⟨Nat.le_of_ble_eq_true rfl, Nat.le_of_ble_eq_true rfl⟩ (Nat.le_of_ble_eq_true rfl) rfl d_Bo_owners_169 (Nat.zero_le _) (Nat.zero_le _) (DP.k h (fun v88 w87 gw87 h => (?_ : WD _ _ 172 _ _ _ _ _ _)))
    obtain ⟨a89, e90, h⟩ := h
    rw [e90]
    obtain ⟨k91, h⟩ := h
    refine x_cast k91 rfl (Or.inl rfl) (qm_3 (i := 45) rfl rfl) d_Bo_owners_172 (?_ : WD _ _ 175 _ _ _ _ _ _)
    refine x_callV (ν := M_Bo_certain) [vA a89] ok_M_Bo_certain okv_M_Bo_certain (((k71.q gw75.k).q gw80.k).q gw87.k) rfl rfl (qm_3 (i := 46) rfl rfl) np_M_Bo_certain rfl ⟨Nat.le_of_ble_eq_true rfl, Nat.le_of_ble_eq_true rfl⟩ (Nat.le_of_ble_eq_true rfl) rfl d_Bo_owners_175 (Nat.zero_le _) (Nat.zero_le _) (DI.k h (fun v93 w92 gw92 h => (?_ : WD _ _ 178 _ _ _ _ _ _)))
    refine x_if_ne 196 d_Bo_owners_178 rfl ⟨fun c94 => (?_ : WD _ _ 196 _ _ _ _ _ _), fun c94 => (?_ : WD _ _ 181 _ _ _ _ _ _)⟩
    · replace h := h.1 c94
      obtain ⟨h95, h⟩ := h
      refine x_iinc (ls' := [(6, vI (x6 + 1)), (0, vA x0), (2, vI x2), (5, vA x5), (7, vI x7)]) d_Bo_owners_196 rfl h95 (by decide) rfl (?_ : WD _ _ 199 _ _ _ _ _ _)
      refine x_goto 127 d_Bo_owners_199 rfl ?_
      refine x_pick (ls' := [(0, vA x0), (2, vI x2), (5, vA x5), (6, vI (x6 + 1))]) [1, 2, 3, 0] rfl ?_
      exact h
    · replace h := h.2 c94
      refine x_aloadP (some x5) d_Bo_owners_181 rfl (?_ : WD _ _ 183 _ _ _ _ _ _)
      refine x_iload_n d_Bo_owners_183 rfl (?_ : WD _ _ 184 _ _ _ _ _ _)
      obtain ⟨h96, h⟩ := h
      refine x_iinc (ls' := [(2, vI (x2 + 1)), (0, vA x0), (5, vA x5), (6, vI x6), (7, vI x7)]) d_Bo_owners_184 rfl h96 (by decide) rfl (?_ : WD _ _ 187 _ _ _ _ _ _)
      refine x_iload d_Bo_owners_187 rfl (?_ : WD _ _ 189 _ _ _ _ _ _)
      obtain ⟨n97, h⟩ := h
      obtain ⟨k98, h⟩ := h
      obtain ⟨h99, h⟩ := h
      obtain ⟨h100, h⟩ := h
      refine x_iast k98 d_Bo_owners_189 h99 h100 (?_ : WD _ _ 190 _ _ _ _ _ _)
      obtain ⟨h101, h⟩ := h
      refine x_iinc (ls' := [(7, vI (x7 + 1)), (2, vI (x2 + 1)), (0, vA x0), (5, vA x5), (6, vI x6)]) d_Bo_owners_190 rfl h101 (by decide) rfl (?_ : WD _ _ 193 _ _ _ _ _ _)
      refine x_goto 142 d_Bo_owners_193 rfl ?_
      refine x_pick (ls' := [(0, vA x0), (2, vI (x2 + 1)), (5, vA x5), (6, vI x6), (7, vI (x7 + 1))]) [2, 1, 3, 4, 0] rfl ?_
      exact h
set_option maxRecDepth 20000 in
theorem e_Bo_drawn {G : Gq} {K : Option Nat → Wd → Prop} {w : Wd} {mc ms : Nat} (x0 : Nat) (x1 : Nat) (h : (Is G w x0 (kO 11)) ∧ ∃ a2 : Nat, (wR w x0 0) = some a2 ∧ ((Is G w a2 (kO 14)) ∧ DI G M_Al_size [vA a2] w 0 0 (fun v6 w5 => ∃ n7 : Nat, v6 = (n7 : Int) ∧ ((n7 ≤ 100000) ∧ (1 ≤ mc) ∧ (n7 ≤ ms) ∧ ∀ q12 : Nat, Fr G w5 q12 → (∃ c14 s15 : Nat, c14 ≤ (mc - 1) ∧ s15 ≤ (ms - n7) ∧ ((Is G (uN w5 q12 (kA 2 n7)) x1 (kO 14)) ∧ DP G M_Al_iterator [vA x1] (uN w5 q12 (kA 2 n7)) c14 s15 (fun v20 w19 => WD G M_Bo_drawn 15 [(0, vA x0), (2, vA q12), (3, vP v20)] [] w19 ((mc - 1) - c14) ((ms - n7) - s15) (yP K)))))))) : DP G M_Bo_drawn [vA x0, vA x1] w mc ms K := by
  refine DC.of ok_M_Bo_drawn (ls := [(0, vA x0), (1, vA x1)]) rfl (Nat.le_of_ble_eq_true rfl) ?_
  refine x_aload_nP (some x0) d_Bo_drawn_0 rfl (?_ : WD _ _ 1 _ _ _ _ _ _)
  obtain ⟨k1, h⟩ := h
  refine x_getP (ref := "CoinSamplerLaw$Books") (j := 0) 0 k1 clk_11 (by decide) (qm_2 (i := 155) rfl rfl) (Or.inl rfl) rfl rfl d_Bo_drawn_1 (y := (wR w x0 0)) rfl (?_ : WD _ _ 4 _ _ _ _ _ _)
  obtain ⟨a2, e3, h⟩ := h
  rw [e3]
  obtain ⟨k4, h⟩ := h
  refine x_callV (ν := M_Al_size) [] ok_M_Al_size okv_M_Al_size k4 rfl rfl (qm_2 (i := 186) rfl rfl) np_M_Al_size rfl ⟨Nat.le_of_ble_eq_true rfl, Nat.le_of_ble_eq_true rfl⟩ (Nat.le_of_ble_eq_true rfl) rfl d_Bo_drawn_4 (Nat.zero_le _) (Nat.zero_le _) (DI.k h (fun v6 w5 gw5 h => (?_ : WD _ _ 7 _ _ _ _ _ _)))
  obtain ⟨n7, e8, h⟩ := h
  obtain ⟨h9, h⟩ := h
  obtain ⟨h10, h⟩ := h
  obtain ⟨h11, h⟩ := h
  refine x_newa (t := 2) n7 e8 d_Bo_drawn_7 rfl (qm_2 (i := 61) rfl rfl) (fun _ => rfl) (fun _ _ => rfl) (fun _ => rfl) h9 (by decide) h10 h11 (fun q12 fq12 => (?_ : WD _ _ 9 _ _ _ _ _ _))
  replace h := h q12 fq12
  have k13 : Ow (uN w5 q12 (kA 2 n7)) q12 (kA 2 n7) := Ow.nw
  refine x_astore_nP (some q12) (ls' := [(2, vA q12), (0, vA x0), (1, vA x1)]) d_Bo_drawn_9 rfl (by decide) rfl (?_ : WD _ _ 10 _ _ _ _ _ _)
  refine x_aload_nP (some x1) d_Bo_drawn_10 rfl (?_ : WD _ _ 11 _ _ _ _ _ _)
  obtain ⟨c14, s15, h16, h17, h⟩ := h
  obtain ⟨k18, h⟩ := h
  refine x_callV (ν := M_Al_iterator) [] ok_M_Al_iterator okv_M_Al_iterator k18 rfl rfl (qm_2 (i := 198) rfl rfl) np_M_Al_iterator rfl ⟨Nat.le_of_ble_eq_true rfl, Nat.le_of_ble_eq_true rfl⟩ (Nat.le_of_ble_eq_true rfl) rfl d_Bo_drawn_11 h16 h17 (DP.k h (fun v20 w19 gw19 h => (?_ : WD _ _ 14 _ _ _ _ _ _)))
  refine x_astore_nP v20 (ls' := [(3, vP v20), (2, vA q12), (0, vA x0), (1, vA x1)]) d_Bo_drawn_14 rfl (by decide) rfl (?_ : WD _ _ 15 _ _ _ _ _ _)
  refine x_pick (ls' := [(0, vA x0), (2, vA q12), (3, vP v20)]) [2, 1, 0] rfl ?_
  exact h
set_option maxRecDepth 20000 in
theorem l_Bo_drawn_1 {G : Gq} {K : Option Nat → Wd → Prop} {w : Wd} {rc rs : Nat} (x0 : Nat) (x2 : Nat) (x3 : Option Nat) (h : ∃ a21 : Nat, x3 = some a21 ∧ ((Is G w a21 (kO 15)) ∧ DI G M_Ai_hasNext [vA a21] w 0 0 (fun v25 w24 => (v25 = 0 → WD G M_Bo_drawn 48 [(0, vA x0), (2, vA x2), (3, vI 0)] [] w24 rc rs (yP K)) ∧ (¬ v25 = 0 → DP G M_Ai_next [vA a21] w24 0 0 (fun v28 w27 => ∃ a29 : Nat, v28 = some a29 ∧ ((Is G w27 a29 (kO 12)) ∧ ∃ n32 : Nat, ((Ow w27 x2 (kA 2 n32)) ∧ (0 ≤ (wI w27 a29 0)) ∧ ((wI w27 a29 0) < (n32 : Int)) ∧ WD G M_Bo_drawn 15 [(0, vA x0), (2, vA x2), (3, vP (some a21))] [] (uI w27 x2 (wI w27 a29 0) 1) rc rs (yP K)))))))) : WD G M_Bo_drawn 15 [(0, vA x0), (2, vA x2), (3, vP x3)] [] w rc rs (yP K) := by
  refine x_aload_nP x3 d_Bo_drawn_15 rfl (?_ : WD _ _ 16 _ _ _ _ _ _)
  obtain ⟨a21, e22, h⟩ := h
  rw [e22]
  obtain ⟨k23, h⟩ := h
  refine x_callF (ν := M_Ai_hasNext) ⟨"java/util/Iterator", "hasNext", "()Z"⟩ [] ok_M_Ai_hasNext oki_M_Ai_hasNext k23 rfl (qm_2 (i := 226) rfl rfl) (by decide) (qm_2 (i := 222) rfl rfl) (show _ = some 0 from by decide +kernel) rfl ⟨Nat.le_of_ble_eq_true rfl, Nat.le_of_ble_eq_true rfl⟩ (Nat.le_of_ble_eq_true rfl) rfl d_Bo_drawn_16 (Nat.zero_le _) (Nat.zero_le _) (DI.k h (fun v25 w24 gw24 h => (?_ : WD _ _ 21 _ _ _ _ _ _)))
  refine x_if_eq 46 d_Bo_drawn_21 rfl ⟨fun c26 => (?_ : WD _ _ 46 _ _ _ _ _ _), fun c26 => (?_ : WD _ _ 24 _ _ _ _ _ _)⟩
  · replace h := h.1 c26
    refine x_iconst d_Bo_drawn_46 (by decide) (?_ : WD _ _ 47 _ _ _ _ _ _)
    refine x_istore_n (ls' := [(3, vI 0), (0, vA x0), (2, vA x2)]) d_Bo_drawn_47 rfl (by decide) rfl (?_ : WD _ _ 48 _ _ _ _ _ _)
    refine x_pick (ls' := [(0, vA x0), (2, vA x2), (3, vI 0)]) [1, 2, 0] rfl ?_
    exact h
  · replace h := h.2 c26
    refine x_aload_nP (some a21) d_Bo_drawn_24 rfl (?_ : WD _ _ 25 _ _ _ _ _ _)
    refine x_callF (ν := M_Ai_next) ⟨"java/util/Iterator", "next", "()Ljava/lang/Object;"⟩ [] ok_M_Ai_next oki_M_Ai_next (k23.q gw24.k) rfl (qm_3 (i := 7) rfl rfl) (by decide) (qm_3 (i := 4) rfl rfl) (show _ = some 0 from by decide +kernel) rfl ⟨Nat.le_of_ble_eq_true rfl, Nat.le_of_ble_eq_true rfl⟩ (Nat.le_of_ble_eq_true rfl) rfl d_Bo_drawn_25 (Nat.zero_le _) (Nat.zero_le _) (DP.k h (fun v28 w27 gw27 h => (?_ : WD _ _ 30 _ _ _ _ _ _)))
    obtain ⟨a29, e30, h⟩ := h
    rw [e30]
    obtain ⟨k31, h⟩ := h
    refine x_cast k31 rfl (Or.inl rfl) (qm_3 (i := 77) rfl rfl) d_Bo_drawn_30 (?_ : WD _ _ 33 _ _ _ _ _ _)
    refine x_astoreP (some a29) (ls' := [(4, vA a29), (0, vA x0), (2, vA x2), (3, vA a21)]) d_Bo_drawn_33 (by decide) rfl (?_ : WD _ _ 35 _ _ _ _ _ _)
    refine x_aload_nP (some x2) d_Bo_drawn_35 rfl (?_ : WD _ _ 36 _ _ _ _ _ _)
    refine x_aloadP (some a29) d_Bo_drawn_36 rfl (?_ : WD _ _ 38 _ _ _ _ _ _)
    refine x_getI (ref := "CoinSamplerLaw$Hit") (j := 0) 0 k31 clk_12 (by decide) (qm_3 (i := 84) rfl rfl) (Or.inl rfl) rfl rfl d_Bo_drawn_38 (y := (wI w27 a29 0)) rfl (?_ : WD _ _ 41 _ _ _ _ _ _)
    refine x_iconst d_Bo_drawn_41 (by decide) (?_ : WD _ _ 42 _ _ _ _ _ _)
    obtain ⟨n32, h⟩ := h
    obtain ⟨k33, h⟩ := h
    obtain ⟨h34, h⟩ := h
    obtain ⟨h35, h⟩ := h
    refine x_zast k33 d_Bo_drawn_42 h34 h35 (by decide) (?_ : WD _ _ 43 _ _ _ _ _ _)
    refine x_goto 15 d_Bo_drawn_43 rfl ?_
    refine x_pick (ls' := [(0, vA x0), (2, vA x2), (3, vP (some a21))]) [1, 2, 3] rfl ?_
    exact h
set_option maxRecDepth 20000 in
theorem l_Bo_drawn_2 {G : Gq} {K : Option Nat → Wd → Prop} {w : Wd} {rc rs : Nat} (x0 : Nat) (x2 : Nat) (x3 : Int) (h : ∃ n36 : Nat, ((Is G w x2 (kA 2 n36)) ∧ (inR (n36 : Int)) ∧ ((n36 : Int) ≤ x3 → K (some x2) w) ∧ (¬ (n36 : Int) ≤ x3 → (0 ≤ x3) ∧ (x3 < (n36 : Int)) ∧ (Is G w x0 (kO 11)) ∧ ∃ a43 : Nat, (wR w x0 0) = some a43 ∧ ((Is G w a43 (kO 14)) ∧ DP G M_Al_get [vA a43, vI x3] w 0 0 (fun v47 w46 => ∃ a48 : Nat, v47 = some a48 ∧ ((Is G w46 a48 (kO 13)) ∧ DI G M_Bo_certain [vA x0, vA a48] w46 0 0 (fun v52 w51 => (Ow w51 x2 (kA 2 n36)) ∧ ((iorq (wI w x2 x3) v52) = 0 ∨ (iorq (wI w x2 x3) v52) = 1) ∧ (inR (x3 + 1)) ∧ WD G M_Bo_drawn 48 [(0, vA x0), (2, vA x2), (3, vI (x3 + 1))] [] (uI w51 x2 x3 (iorq (wI w x2 x3) v52)) rc rs (yP K)))))))) : WD G M_Bo_drawn 48 [(0, vA x0), (2, vA x2), (3, vI x3)] [] w rc rs (yP K) := by
  refine x_iload_n d_Bo_drawn_48 rfl (?_ : WD _ _ 49 _ _ _ _ _ _)
  refine x_aload_nP (some x2) d_Bo_drawn_49 rfl (?_ : WD _ _ 50 _ _ _ _ _ _)
  obtain ⟨n36, h⟩ := h
  obtain ⟨k37, h⟩ := h
  obtain ⟨h38, h⟩ := h
  refine x_alenA k37 (fun _ => rfl) h38 d_Bo_drawn_50 (?_ : WD _ _ 51 _ _ _ _ _ _)
  refine x_icmp_ge 81 d_Bo_drawn_51 rfl ⟨fun c39 => (?_ : WD _ _ 81 _ _ _ _ _ _), fun c39 => (?_ : WD _ _ 54 _ _ _ _ _ _)⟩
  · replace h := h.1 c39
    refine x_aload_nP (some x2) d_Bo_drawn_81 rfl (?_ : WD _ _ 82 _ _ _ _ _ _)
    exact x_areturn (some x2) rfl (Or.inr ⟨_, rfl⟩) d_Bo_drawn_82 h
  · replace h := h.2 c39
    refine x_aload_nP (some x2) d_Bo_drawn_54 rfl (?_ : WD _ _ 55 _ _ _ _ _ _)
    refine x_iload_n d_Bo_drawn_55 rfl (?_ : WD _ _ 56 _ _ _ _ _ _)
    refine x_dup2 d_Bo_drawn_56 rfl rfl (?_ : WD _ _ 57 _ _ _ _ _ _)
    obtain ⟨h40, h⟩ := h
    obtain ⟨h41, h⟩ := h
    refine x_zald k37 d_Bo_drawn_57 h40 h41 (y := (wI w x2 x3)) rfl (?_ : WD _ _ 58 _ _ _ _ _ _)
    refine x_aload_nP (some x0) d_Bo_drawn_58 rfl (?_ : WD _ _ 59 _ _ _ _ _ _)
    refine x_aload_nP (some x0) d_Bo_drawn_59 rfl (?_ : WD _ _ 60 _ _ _ _ _ _)
    obtain ⟨k42, h⟩ := h
    refine x_getP (ref := "CoinSamplerLaw$Books") (j := 0) 0 k42 clk_11 (by decide) (qm_2 (i := 155) rfl rfl) (Or.inl rfl) rfl rfl d_Bo_drawn_60 (y := (wR w x0 0)) rfl (?_ : WD _ _ 63 _ _ _ _ _ _)
    refine x_iload_n d_Bo_drawn_63 rfl (?_ : WD _ _ 64 _ _ _ _ _ _)
    obtain ⟨a43, e44, h⟩ := h
    rw [e44]
    obtain ⟨k45, h⟩ := h
    refine x_callV (ν := M_Al_get) [vI x3] ok_M_Al_get okv_M_Al_get k45 rfl rfl (qm_3 (i := 58) rfl rfl) np_M_Al_get rfl ⟨Nat.le_of_ble_eq_true rfl, Nat.le_of_ble_eq_true rfl⟩ (Nat.le_of_ble_eq_true rfl) rfl d_Bo_drawn_64 (Nat.zero_le _) (Nat.zero_le _) (DP.k h (fun v47 w46 gw46 h => (?_ : WD _ _ 67 _ _ _ _ _ _)))
    obtain ⟨a48, e49, h⟩ := h
    rw [e49]
    obtain ⟨k50, h⟩ := h
    refine x_cast k50 rfl (Or.inl rfl) (qm_3 (i := 45) rfl rfl) d_Bo_drawn_67 (?_ : WD _ _ 70 _ _ _ _ _ _)
    refine x_callV (ν := M_Bo_certain) [vA a48] ok_M_Bo_certain okv_M_Bo_certain (k42.q gw46.k) rfl rfl (qm_3 (i := 46) rfl rfl) np_M_Bo_certain rfl ⟨Nat.le_of_ble_eq_true rfl, Nat.le_of_ble_eq_true rfl⟩ (Nat.le_of_ble_eq_true rfl) rfl d_Bo_drawn_70 (Nat.zero_le _) (Nat.zero_le _) (DI.k h (fun v52 w51 gw51 h => (?_ : WD _ _ 73 _ _ _ _ _ _)))
    refine x_iorq d_Bo_drawn_73 (?_ : WD _ _ 74 _ _ _ _ _ _)
    obtain ⟨k53, h⟩ := h
    obtain ⟨h54, h⟩ := h
    refine x_zast k53 d_Bo_drawn_74 h40 h41 h54 (?_ : WD _ _ 75 _ _ _ _ _ _)
    obtain ⟨h55, h⟩ := h
    refine x_iinc (ls' := [(3, vI (x3 + 1)), (0, vA x0), (2, vA x2)]) d_Bo_drawn_75 rfl h55 (by decide) rfl (?_ : WD _ _ 78 _ _ _ _ _ _)
    refine x_goto 48 d_Bo_drawn_78 rfl ?_
    refine x_pick (ls' := [(0, vA x0), (2, vA x2), (3, vI (x3 + 1))]) [1, 2, 0] rfl ?_
    exact h
set_option maxRecDepth 20000 in
theorem e_Bo_projected {G : Gq} {K : Int → Wd → Prop} {w : Wd} {mc ms : Nat} (x0 : Nat) (x1 : Nat) (x2 : Int) (x3 : Int) (h : ∃ c1 s2 : Nat, c1 ≤ mc ∧ s2 ≤ ms ∧ ((Is G w x1 (kO 14)) ∧ DP G M_Al_iterator [vA x1] w c1 s2 (fun v7 w6 => WD G M_Bo_projected 9 [(0, vA x0), (2, vI x2), (3, vI x3), (4, vI 0), (5, vP v7)] [] w6 (mc - c1) (ms - s2) (yI K)))) : DI G M_Bo_projected [vA x0, vA x1, vI x2, vI x3] w mc ms K := by
  refine DC.of ok_M_Bo_projected (ls := [(0, vA x0), (1, vA x1), (2, vI x2), (3, vI x3)]) rfl (Nat.le_of_ble_eq_true rfl) ?_
  refine x_iconst d_Bo_projected_0 (by decide) (?_ : WD _ _ 1 _ _ _ _ _ _)
  refine x_istore (ls' := [(4, vI 0), (0, vA x0), (1, vA x1), (2, vI x2), (3, vI x3)]) d_Bo_projected_1 (by decide) rfl (?_ : WD _ _ 3 _ _ _ _ _ _)
  refine x_aload_nP (some x1) d_Bo_projected_3 rfl (?_ : WD _ _ 4 _ _ _ _ _ _)
  obtain ⟨c1, s2, h3, h4, h⟩ := h
  obtain ⟨k5, h⟩ := h
  refine x_callV (ν := M_Al_iterator) [] ok_M_Al_iterator okv_M_Al_iterator k5 rfl rfl (qm_2 (i := 198) rfl rfl) np_M_Al_iterator rfl ⟨Nat.le_of_ble_eq_true rfl, Nat.le_of_ble_eq_true rfl⟩ (Nat.le_of_ble_eq_true rfl) rfl d_Bo_projected_4 h3 h4 (DP.k h (fun v7 w6 gw6 h => (?_ : WD _ _ 7 _ _ _ _ _ _)))
  refine x_astoreP v7 (ls' := [(5, vP v7), (4, vI 0), (0, vA x0), (1, vA x1), (2, vI x2), (3, vI x3)]) d_Bo_projected_7 (by decide) rfl (?_ : WD _ _ 9 _ _ _ _ _ _)
  refine x_pick (ls' := [(0, vA x0), (2, vI x2), (3, vI x3), (4, vI 0), (5, vP v7)]) [2, 4, 5, 1, 0] rfl ?_
  exact h
set_option maxRecDepth 20000 in
theorem l_Bo_projected_1 {G : Gq} {K : Int → Wd → Prop} {w : Wd} {rc rs : Nat} (x0 : Nat) (x2 : Int) (x3 : Int) (x4 : Int) (x5 : Option Nat) (h : ∃ a8 : Nat, x5 = some a8 ∧ ((Is G w a8 (kO 15)) ∧ DI G M_Ai_hasNext [vA a8] w 0 0 (fun v12 w11 => (v12 = 0 → K x4 w11) ∧ (¬ v12 = 0 → DP G M_Ai_next [vA a8] w11 0 0 (fun v15 w14 => ∃ a16 : Nat, v15 = some a16 ∧ ((Is G w14 a16 (kO 12)) ∧ (Is G w14 x0 (kO 11)) ∧ DI G M_Bo_part [vA x0, vA a16, vI x2] w14 0 0 (fun v21 w20 => (inR (x3 * v21)) ∧ DI G M_Ma_max [vI 0, vI (x3 * v21)] w20 0 0 (fun v24 w23 => (inR (x4 + v24)) ∧ WD G M_Bo_projected 9 [(0, vA x0), (2, vI x2), (3, vI x3), (4, vI (x4 + v24)), (5, vP (some a8))] [] w23 rc rs (yI K))))))))) : WD G M_Bo_projected 9 [(0, vA x0), (2, vI x2), (3, vI x3), (4, vI x4), (5, vP x5)] [] w rc rs (yI K) := by
  refine x_aloadP x5 d_Bo_projected_9 rfl (?_ : WD _ _ 11 _ _ _ _ _ _)
  obtain ⟨a8, e9, h⟩ := h
  rw [e9]
  obtain ⟨k10, h⟩ := h
  refine x_callF (ν := M_Ai_hasNext) ⟨"java/util/Iterator", "hasNext", "()Z"⟩ [] ok_M_Ai_hasNext oki_M_Ai_hasNext k10 rfl (qm_2 (i := 226) rfl rfl) (by decide) (qm_2 (i := 222) rfl rfl) (show _ = some 0 from by decide +kernel) rfl ⟨Nat.le_of_ble_eq_true rfl, Nat.le_of_ble_eq_true rfl⟩ (Nat.le_of_ble_eq_true rfl) rfl d_Bo_projected_11 (Nat.zero_le _) (Nat.zero_le _) (DI.k h (fun v12 w11 gw11 h => (?_ : WD _ _ 16 _ _ _ _ _ _)))
  refine x_if_eq 52 d_Bo_projected_16 rfl ⟨fun c13 => (?_ : WD _ _ 52 _ _ _ _ _ _), fun c13 => (?_ : WD _ _ 19 _ _ _ _ _ _)⟩
  · replace h := h.1 c13
    refine x_iload d_Bo_projected_52 rfl (?_ : WD _ _ 54 _ _ _ _ _ _)
    exact x_ireturn rfl d_Bo_projected_54 h
  · replace h := h.2 c13
    refine x_aloadP (some a8) d_Bo_projected_19 rfl (?_ : WD _ _ 21 _ _ _ _ _ _)
    refine x_callF (ν := M_Ai_next) ⟨"java/util/Iterator", "next", "()Ljava/lang/Object;"⟩ [] ok_M_Ai_next oki_M_Ai_next (k10.q gw11.k) rfl (qm_3 (i := 7) rfl rfl) (by decide) (qm_3 (i := 4) rfl rfl) (show _ = some 0 from by decide +kernel) rfl ⟨Nat.le_of_ble_eq_true rfl, Nat.le_of_ble_eq_true rfl⟩ (Nat.le_of_ble_eq_true rfl) rfl d_Bo_projected_21 (Nat.zero_le _) (Nat.zero_le _) (DP.k h (fun v15 w14 gw14 h => (?_ : WD _ _ 26 _ _ _ _ _ _)))
    obtain ⟨a16, e17, h⟩ := h
    rw [e17]
    obtain ⟨k18, h⟩ := h
    refine x_cast k18 rfl (Or.inl rfl) (qm_3 (i := 77) rfl rfl) d_Bo_projected_26 (?_ : WD _ _ 29 _ _ _ _ _ _)
    refine x_astoreP (some a16) (ls' := [(6, vA a16), (0, vA x0), (2, vI x2), (3, vI x3), (4, vI x4), (5, vA a8)]) d_Bo_projected_29 (by decide) rfl (?_ : WD _ _ 31 _ _ _ _ _ _)
    refine x_iload d_Bo_projected_31 rfl (?_ : WD _ _ 33 _ _ _ _ _ _)
    refine x_iconst d_Bo_projected_33 (by decide) (?_ : WD _ _ 34 _ _ _ _ _ _)
    refine x_iload_n d_Bo_projected_34 rfl (?_ : WD _ _ 35 _ _ _ _ _ _)
    refine x_aload_nP (some x0) d_Bo_projected_35 rfl (?_ : WD _ _ 36 _ _ _ _ _ _)
    refine x_aloadP (some a16) d_Bo_projected_36 rfl (?_ : WD _ _ 38 _ _ _ _ _ _)
    refine x_iload_n d_Bo_projected_38 rfl (?_ : WD _ _ 39 _ _ _ _ _ _)
    obtain ⟨k19, h⟩ := h
    refine x_callV (ν := M_Bo_part) [vA a16, vI x2] ok_M_Bo_part okv_M_Bo_part k19 rfl rfl (qm_10 (i := 111) rfl rfl) np_M_Bo_part rfl ⟨Nat.le_of_ble_eq_true rfl, Nat.le_of_ble_eq_true rfl⟩ (Nat.le_of_ble_eq_true rfl) rfl d_Bo_projected_39 (Nat.zero_le _) (Nat.zero_le _) (DI.k h (fun v21 w20 gw20 h => (?_ : WD _ _ 42 _ _ _ _ _ _)))
    obtain ⟨h22, h⟩ := h
    refine x_imul d_Bo_projected_42 h22 (?_ : WD _ _ 43 _ _ _ _ _ _)
    refine x_callS (ν := M_Ma_max) [vI 0, vI (x3 * v21)] ok_M_Ma_max oks_M_Ma_max (qm_10 (i := 112) rfl rfl) np_M_Ma_max rfl ⟨Nat.le_of_ble_eq_true rfl, Nat.le_of_ble_eq_true rfl⟩ (Nat.le_of_ble_eq_true rfl) rfl d_Bo_projected_43 (Nat.zero_le _) (Nat.zero_le _) (DI.k h (fun v24 w23 gw23 h => (?_ : WD _ _ 46 _ _ _ _ _ _)))
    obtain ⟨h25, h⟩ := h
    refine x_iadd d_Bo_projected_46 h25 (?_ : WD _ _ 47 _ _ _ _ _ _)
    refine x_istore (ls' := [(4, vI (x4 + v24)), (6, vA a16), (0, vA x0), (2, vI x2), (3, vI x3), (5, vA a8)]) d_Bo_projected_47 (by decide) rfl (?_ : WD _ _ 49 _ _ _ _ _ _)
    refine x_goto 9 d_Bo_projected_49 rfl ?_
    refine x_pick (ls' := [(0, vA x0), (2, vI x2), (3, vI x3), (4, vI (x4 + v24)), (5, vP (some a8))]) [2, 3, 4, 0, 5] rfl ?_
    exact h
set_option maxRecDepth 20000 in
theorem e_Bo_known {G : Gq} {K : Int → Wd → Prop} {w : Wd} {mc ms : Nat} (x0 : Nat) (x1 : Int) (h : (Is G w x0 (kO 11)) ∧ ∃ a2 : Nat, (wR w x0 0) = some a2 ∧ (∃ c4 s5 : Nat, c4 ≤ mc ∧ s5 ≤ ms ∧ ((Is G w a2 (kO 14)) ∧ DP G M_Al_iterator [vA a2] w c4 s5 (fun v10 w9 => WD G M_Bo_known 10 [(0, vA x0), (1, vI x1), (2, vI 0), (3, vP v10)] [] w9 (mc - c4) (ms - s5) (yI K))))) : DI G M_Bo_known [vA x0, vI x1] w mc ms K := by
  refine DC.of ok_M_Bo_known (ls := [(0, vA x0), (1, vI x1)]) rfl (Nat.le_of_ble_eq_true rfl) ?_
  refine x_iconst d_Bo_known_0 (by decide) (?_ : WD _ _ 1 _ _ _ _ _ _)
  refine x_istore_n (ls' := [(2, vI 0), (0, vA x0), (1, vI x1)]) d_Bo_known_1 rfl (by decide) rfl (?_ : WD _ _ 2 _ _ _ _ _ _)
  refine x_aload_nP (some x0) d_Bo_known_2 rfl (?_ : WD _ _ 3 _ _ _ _ _ _)
  obtain ⟨k1, h⟩ := h
  refine x_getP (ref := "CoinSamplerLaw$Books") (j := 0) 0 k1 clk_11 (by decide) (qm_2 (i := 155) rfl rfl) (Or.inl rfl) rfl rfl d_Bo_known_3 (y := (wR w x0 0)) rfl (?_ : WD _ _ 6 _ _ _ _ _ _)
  obtain ⟨a2, e3, h⟩ := h
  rw [e3]
  obtain ⟨c4, s5, h6, h7, h⟩ := h
  obtain ⟨k8, h⟩ := h
  refine x_callV (ν := M_Al_iterator) [] ok_M_Al_iterator okv_M_Al_iterator k8 rfl rfl (qm_2 (i := 198) rfl rfl) np_M_Al_iterator rfl ⟨Nat.le_of_ble_eq_true rfl, Nat.le_of_ble_eq_true rfl⟩ (Nat.le_of_ble_eq_true rfl) rfl d_Bo_known_6 h6 h7 (DP.k h (fun v10 w9 gw9 h => (?_ : WD _ _ 9 _ _ _ _ _ _)))
  refine x_astore_nP v10 (ls' := [(3, vP v10), (2, vI 0), (0, vA x0), (1, vI x1)]) d_Bo_known_9 rfl (by decide) rfl (?_ : WD _ _ 10 _ _ _ _ _ _)
  refine x_pick (ls' := [(0, vA x0), (1, vI x1), (2, vI 0), (3, vP v10)]) [2, 3, 1, 0] rfl ?_
  exact h
set_option maxRecDepth 20000 in
theorem l_Bo_known_1 {G : Gq} {K : Int → Wd → Prop} {w : Wd} {rc rs : Nat} (x0 : Nat) (x1 : Int) (x2 : Int) (x3 : Option Nat) (h : ∃ a11 : Nat, x3 = some a11 ∧ ((Is G w a11 (kO 15)) ∧ DI G M_Ai_hasNext [vA a11] w 0 0 (fun v15 w14 => (v15 = 0 → K x2 w14) ∧ (¬ v15 = 0 → DP G M_Ai_next [vA a11] w14 0 0 (fun v18 w17 => ∃ a19 : Nat, v18 = some a19 ∧ ((Is G w17 a19 (kO 13)) ∧ (Is G w17 x0 (kO 11)) ∧ DI G M_Bo_certain [vA x0, vA a19] w17 0 0 (fun v24 w23 => (v24 = 0 → WD G M_Bo_known 10 [(0, vA x0), (1, vI x1), (2, vI x2), (3, vP (some a11))] [] w23 rc rs (yI K)) ∧ (¬ v24 = 0 → DI G M_It_error [vA a19] w23 0 0 (fun v27 w26 => (inR (x1 * v27)) ∧ DI G M_Ma_max [vI 0, vI (x1 * v27)] w26 0 0 (fun v30 w29 => (inR (x2 + v30)) ∧ WD G M_Bo_known 10 [(0, vA x0), (1, vI x1), (2, vI (x2 + v30)), (3, vP (some a11))] [] w29 rc rs (yI K))))))))))) : WD G M_Bo_known 10 [(0, vA x0), (1, vI x1), (2, vI x2), (3, vP x3)] [] w rc rs (yI K) := by
  refine x_aload_nP x3 d_Bo_known_10 rfl (?_ : WD _ _ 11 _ _ _ _ _ _)
  obtain ⟨a11, e12, h⟩ := h
  rw [e12]
  obtain ⟨k13, h⟩ := h
  refine x_callF (ν := M_Ai_hasNext) ⟨"java/util/Iterator", "hasNext", "()Z"⟩ [] ok_M_Ai_hasNext oki_M_Ai_hasNext k13 rfl (qm_2 (i := 226) rfl rfl) (by decide) (qm_2 (i := 222) rfl rfl) (show _ = some 0 from by decide +kernel) rfl ⟨Nat.le_of_ble_eq_true rfl, Nat.le_of_ble_eq_true rfl⟩ (Nat.le_of_ble_eq_true rfl) rfl d_Bo_known_11 (Nat.zero_le _) (Nat.zero_le _) (DI.k h (fun v15 w14 gw14 h => (?_ : WD _ _ 16 _ _ _ _ _ _)))
  refine x_if_eq 56 d_Bo_known_16 rfl ⟨fun c16 => (?_ : WD _ _ 56 _ _ _ _ _ _), fun c16 => (?_ : WD _ _ 19 _ _ _ _ _ _)⟩
  · replace h := h.1 c16
    refine x_iload_n d_Bo_known_56 rfl (?_ : WD _ _ 57 _ _ _ _ _ _)
    exact x_ireturn rfl d_Bo_known_57 h
  · replace h := h.2 c16
    refine x_aload_nP (some a11) d_Bo_known_19 rfl (?_ : WD _ _ 20 _ _ _ _ _ _)
    refine x_callF (ν := M_Ai_next) ⟨"java/util/Iterator", "next", "()Ljava/lang/Object;"⟩ [] ok_M_Ai_next oki_M_Ai_next (k13.q gw14.k) rfl (qm_3 (i := 7) rfl rfl) (by decide) (qm_3 (i := 4) rfl rfl) (show _ = some 0 from by decide +kernel) rfl ⟨Nat.le_of_ble_eq_true rfl, Nat.le_of_ble_eq_true rfl⟩ (Nat.le_of_ble_eq_true rfl) rfl d_Bo_known_20 (Nat.zero_le _) (Nat.zero_le _) (DP.k h (fun v18 w17 gw17 h => (?_ : WD _ _ 25 _ _ _ _ _ _)))
    obtain ⟨a19, e20, h⟩ := h
    rw [e20]
    obtain ⟨k21, h⟩ := h
    refine x_cast k21 rfl (Or.inl rfl) (qm_3 (i := 45) rfl rfl) d_Bo_known_25 (?_ : WD _ _ 28 _ _ _ _ _ _)
    refine x_astoreP (some a19) (ls' := [(4, vA a19), (0, vA x0), (1, vI x1), (2, vI x2), (3, vA a11)]) d_Bo_known_28 (by decide) rfl (?_ : WD _ _ 30 _ _ _ _ _ _)
    refine x_aload_nP (some x0) d_Bo_known_30 rfl (?_ : WD _ _ 31 _ _ _ _ _ _)
    refine x_aloadP (some a19) d_Bo_known_31 rfl (?_ : WD _ _ 33 _ _ _ _ _ _)
    obtain ⟨k22, h⟩ := h
    refine x_callV (ν := M_Bo_certain) [vA a19] ok_M_Bo_certain okv_M_Bo_certain k22 rfl rfl (qm_3 (i := 46) rfl rfl) np_M_Bo_certain rfl ⟨Nat.le_of_ble_eq_true rfl, Nat.le_of_ble_eq_true rfl⟩ (Nat.le_of_ble_eq_true rfl) rfl d_Bo_known_33 (Nat.zero_le _) (Nat.zero_le _) (DI.k h (fun v24 w23 gw23 h => (?_ : WD _ _ 36 _ _ _ _ _ _)))
    refine x_if_eq 53 d_Bo_known_36 rfl ⟨fun c25 => (?_ : WD _ _ 53 _ _ _ _ _ _), fun c25 => (?_ : WD _ _ 39 _ _ _ _ _ _)⟩
    · replace h := h.1 c25
      refine x_goto 10 d_Bo_known_53 rfl ?_
      refine x_pick (ls' := [(0, vA x0), (1, vI x1), (2, vI x2), (3, vP (some a11))]) [1, 2, 3, 4] rfl ?_
      exact h
    · replace h := h.2 c25
      refine x_iload_n d_Bo_known_39 rfl (?_ : WD _ _ 40 _ _ _ _ _ _)
      refine x_iconst d_Bo_known_40 (by decide) (?_ : WD _ _ 41 _ _ _ _ _ _)
      refine x_iload_n d_Bo_known_41 rfl (?_ : WD _ _ 42 _ _ _ _ _ _)
      refine x_aloadP (some a19) d_Bo_known_42 rfl (?_ : WD _ _ 44 _ _ _ _ _ _)
      refine x_callV (ν := M_It_error) [] ok_M_It_error okv_M_It_error (k21.q gw23.k) rfl rfl (qm_10 (i := 117) rfl rfl) np_M_It_error rfl ⟨Nat.le_of_ble_eq_true rfl, Nat.le_of_ble_eq_true rfl⟩ (Nat.le_of_ble_eq_true rfl) rfl d_Bo_known_44 (Nat.zero_le _) (Nat.zero_le _) (DI.k h (fun v27 w26 gw26 h => (?_ : WD _ _ 47 _ _ _ _ _ _)))
      obtain ⟨h28, h⟩ := h
      refine x_imul d_Bo_known_47 h28 (?_ : WD _ _ 48 _ _ _ _ _ _)
      refine x_callS (ν := M_Ma_max) [vI 0, vI (x1 * v27)] ok_M_Ma_max oks_M_Ma_max (qm_10 (i := 112) rfl rfl) np_M_Ma_max rfl ⟨Nat.le_of_ble_eq_true rfl, Nat.le_of_ble_eq_true rfl⟩ (Nat.le_of_ble_eq_true rfl) rfl d_Bo_known_48 (Nat.zero_le _) (Nat.zero_le _) (DI.k h (fun v30 w29 gw29 h => (?_ : WD _ _ 51 _ _ _ _ _ _)))
      obtain ⟨h31, h⟩ := h
      refine x_iadd d_Bo_known_51 h31 (?_ : WD _ _ 52 _ _ _ _ _ _)
      refine x_istore_n (ls' := [(2, vI (x2 + v30)), (4, vA a19), (0, vA x0), (1, vI x1), (3, vA a11)]) d_Bo_known_52 rfl (by decide) rfl (?_ : WD _ _ 53 _ _ _ _ _ _)
      refine x_goto 10 d_Bo_known_53 rfl ?_
      refine x_pick (ls' := [(0, vA x0), (1, vI x1), (2, vI (x2 + v30)), (3, vP (some a11))]) [2, 3, 0, 4] rfl ?_
      exact h
set_option maxRecDepth 20000 in
theorem e_Bo_bound {G : Gq} {K : Int → Wd → Prop} {w : Wd} {mc ms : Nat} (x0 : Nat) (x1 : Int) (x2 : Int) (x3 : Int) (h : ∃ c1 s2 : Nat, c1 ≤ mc ∧ s2 ≤ ms ∧ ((Is G w x0 (kO 11)) ∧ DP G M_Bo_hits_ [vA x0, vI x2] w c1 s2 (fun v7 w6 => ∃ a8 : Nat, v7 = some a8 ∧ ((Is G w6 a8 (kO 14)) ∧ DI G M_Al_size [vA a8] w6 0 0 (fun v12 w11 => (inR (v12 + x3)) ∧ ∃ c14 s15 : Nat, c14 ≤ (mc - c1) ∧ s15 ≤ (ms - s2) ∧ (DI G M_Bo_basic [vA x0, vI (v12 + x3)] w11 c14 s15 (fun v19 w18 => ∃ c20 s21 : Nat, c20 ≤ ((mc - c1) - c14) ∧ s21 ≤ ((ms - s2) - s15) ∧ (DI G M_Bo_rises [vA x0, vA a8, vI x1, vI (v12 + x3)] w18 c20 s21 (fun v25 w24 => (inR (v19 + v25)) ∧ ∃ c27 s28 : Nat, c27 ≤ (((mc - c1) - c14) - c20) ∧ s28 ≤ (((ms - s2) - s15) - s21) ∧ (DI G M_Bo_known [vA x0, vI x1] w24 c27 s28 (fun v32 w31 => (inR ((v19 + v25) + v32)) ∧ ∃ a34 : Nat, (wR w31 x0 2) = some a34 ∧ (∃ n36 : Nat, ((Is G w31 a34 (kA 0 n36)) ∧ (3 < (n36 : Int)) ∧ (¬ (wI w31 a34 3) = 0 → (inR (-x1)) ∧ ∃ c41 s42 : Nat, c41 ≤ ((((mc - c1) - c14) - c20) - c27) ∧ s42 ≤ ((((ms - s2) - s15) - s21) - s28) ∧ (DI G M_Bo_known [vA x0, vI (-x1)] w31 c41 s42 (fun v46 w45 => (inR (((v19 + v25) + v32) - v46)) ∧ ∃ c48 s49 : Nat, c48 ≤ (((((mc - c1) - c14) - c20) - c27) - c41) ∧ s49 ≤ (((((ms - s2) - s15) - s21) - s28) - s42) ∧ (DI G M_Bo_projected [vA x0, vA a8, vI x2, vI (-x1)] w45 c48 s49 (fun v53 w52 => (inR ((((v19 + v25) + v32) - v46) - v53)) ∧ K ((((v19 + v25) + v32) - v46) - v53) w52))))) ∧ ((wI w31 a34 3) = 0 → K ((v19 + v25) + v32) w31)))))))))))))) : DI G M_Bo_bound [vA x0, vI x1, vI x2, vI x3] w mc ms K := by
  refine DC.of ok_M_Bo_bound (ls := [(0, vA x0), (1, vI x1), (2, vI x2), (3, vI x3)]) rfl (Nat.le_of_ble_eq_true rfl) ?_
  refine x_aload_nP (some x0) d_Bo_bound_0 rfl (?_ : WD _ _ 1 _ _ _ _ _ _)
  refine x_iload_n d_Bo_bound_1 rfl (?_ : WD _ _ 2 _ _ _ _ _ _)
  obtain ⟨c1, s2, h3, h4, h⟩ := h
  obtain ⟨k5, h⟩ := h
  refine x_callV (ν := M_Bo_hits_) [vI x2] ok_M_Bo_hits_ okv_M_Bo_hits_ k5 rfl rfl (qm_2 (i := 190) rfl rfl) np_M_Bo_hits_ rfl ⟨Nat.le_of_ble_eq_true rfl, Nat.le_of_ble_eq_true rfl⟩ (Nat.le_of_ble_eq_true rfl) rfl d_Bo_bound_2 h3 h4 (DP.k h (fun v7 w6 gw6 h => (?_ : WD _ _ 5 _ _ _ _ _ _)))
  refine x_astoreP v7 (ls' := [(4, vP v7), (0, vA x0), (1, vI x1), (2, vI x2), (3, vI x3)]) d_Bo_bound_5 (by decide) rfl (?_ : WD _ _ 7 _ _ _ _ _ _)
  refine x_aloadP v7 d_Bo_bound_7 rfl (?_ : WD _ _ 9 _ _ _ _ _ _)
  obtain ⟨a8, e9, h⟩ := h
  rw [e9]
  obtain ⟨k10, h⟩ := h
  refine x_callV (ν := M_Al_size) [] ok_M_Al_size okv_M_Al_size k10 rfl rfl (qm_2 (i := 186) rfl rfl) np_M_Al_size rfl ⟨Nat.le_of_ble_eq_true rfl, Nat.le_of_ble_eq_true rfl⟩ (Nat.le_of_ble_eq_true rfl) rfl d_Bo_bound_9 (Nat.zero_le _) (Nat.zero_le _) (DI.k h (fun v12 w11 gw11 h => (?_ : WD _ _ 12 _ _ _ _ _ _)))
  refine x_iload_n d_Bo_bound_12 rfl (?_ : WD _ _ 13 _ _ _ _ _ _)
  obtain ⟨h13, h⟩ := h
  refine x_iadd d_Bo_bound_13 h13 (?_ : WD _ _ 14 _ _ _ _ _ _)
  refine x_istore (ls' := [(5, vI (v12 + x3)), (4, vA a8), (0, vA x0), (1, vI x1), (2, vI x2), (3, vI x3)]) d_Bo_bound_14 (by decide) rfl (?_ : WD _ _ 16 _ _ _ _ _ _)
  refine x_aload_nP (some x0) d_Bo_bound_16 rfl (?_ : WD _ _ 17 _ _ _ _ _ _)
  refine x_iload d_Bo_bound_17 rfl (?_ : WD _ _ 19 _ _ _ _ _ _)
  obtain ⟨c14, s15, h16, h17, h⟩ := h
  refine x_callV (ν := M_Bo_basic) [vI (v12 + x3)] ok_M_Bo_basic okv_M_Bo_basic ((k5.q gw6.k).q gw11.k) rfl rfl (qm_10 (i := 122) rfl rfl) np_M_Bo_basic rfl ⟨Nat.le_of_ble_eq_true rfl, Nat.le_of_ble_eq_true rfl⟩ (Nat.le_of_ble_eq_true rfl) rfl d_Bo_bound_19 h16 h17 (DI.k h (fun v19 w18 gw18 h => (?_ : WD _ _ 22 _ _ _ _ _ _)))
  refine x_aload_nP (some x0) d_Bo_bound_22 rfl (?_ : WD _ _ 23 _ _ _ _ _ _)
  refine x_aloadP (some a8) d_Bo_bound_23 rfl (?_ : WD _ _ 25 _ _ _ _ _ _)
  refine x_iload_n d_Bo_bound_25 rfl (?_ : WD _ _ 26 _ _ _ _ _ _)
  refine x_iload d_Bo_bound_26 rfl (?_ : WD _ _ 28 _ _ _ _ _ _)
  obtain ⟨c20, s21, h22, h23, h⟩ := h
  refine x_callV (ν := M_Bo_rises) [vA a8, vI x1, vI (v12 + x3)] ok_M_Bo_rises okv_M_Bo_rises (((k5.q gw6.k).q gw11.k).q gw18.k) rfl rfl (qm_10 (i := 126) rfl rfl) np_M_Bo_rises rfl ⟨Nat.le_of_ble_eq_true rfl, Nat.le_of_ble_eq_true rfl⟩ (Nat.le_of_ble_eq_true rfl) rfl d_Bo_bound_28 h22 h23 (DI.k h (fun v25 w24 gw24 h => (?_ : WD _ _ 31 _ _ _ _ _ _)))
  obtain ⟨h26, h⟩ := h
  refine x_iadd d_Bo_bound_31 h26 (?_ : WD _ _ 32 _ _ _ _ _ _)
  refine x_aload_nP (some x0) d_Bo_bound_32 rfl (?_ : WD _ _ 33 _ _ _ _ _ _)
  refine x_iload_n d_Bo_bound_33 rfl (?_ : WD _ _ 34 _ _ _ _ _ _)
  obtain ⟨c27, s28, h29, h30, h⟩ := h
  refine x_callV (ν := M_Bo_known) [vI x1] ok_M_Bo_known okv_M_Bo_known ((((k5.q gw6.k).q gw11.k).q gw18.k).q gw24.k) rfl rfl (qm_10 (i := 145) rfl rfl) np_M_Bo_known rfl ⟨Nat.le_of_ble_eq_true rfl, Nat.le_of_ble_eq_true rfl⟩ (Nat.le_of_ble_eq_true rfl) rfl d_Bo_bound_34 h29 h30 (DI.k h (fun v32 w31 gw31 h => (?_ : WD _ _ 37 _ _ _ _ _ _)))
  obtain ⟨h33, h⟩ := h
  refine x_iadd d_Bo_bound_37 h33 (?_ : WD _ _ 38 _ _ _ _ _ _)
  refine x_istore (ls' := [(6, vI ((v19 + v25) + v32)), (5, vI (v12 + x3)), (4, vA a8), (0, vA x0), (1, vI x1), (2, vI x2), (3, vI x3)]) d_Bo_bound_38 (by decide) rfl (?_ : WD _ _ 40 _ _ _ _ _ _)
  refine x_aload_nP (some x0) d_Bo_bound_40 rfl (?_ : WD _ _ 41 _ _ _ _ _ _)
  refine x_getP (ref := "CoinSamplerLaw$Books") (j := 2) 2 (((((k5.q gw6.k).q gw11.k).q gw18.k).q gw24.k).q gw31.k) clk_11 (by decide) (qm_2 (i := 159) rfl rfl) (Or.inl rfl) rfl rfl d_Bo_bound_41 (y := (wR w31 x0 2)) rfl (?_ : WD _ _ 44 _ _ _ _ _ _)
  refine x_iconst d_Bo_bound_44 (by decide) (?_ : WD _ _ 45 _ _ _ _ _ _)
  obtain ⟨a34, e35, h⟩ := h
  rw [e35]
  obtain ⟨n36, h⟩ := h
  obtain ⟨k37, h⟩ := h
  obtain ⟨h38, h⟩ := h
  refine x_iald k37 d_Bo_bound_45 (by decide) h38 (y := (wI w31 a34 3)) rfl (?_ : WD _ _ 46 _ _ _ _ _ _)
  refine x_if_ne 54 d_Bo_bound_46 rfl ⟨fun c39 => (?_ : WD _ _ 54 _ _ _ _ _ _), fun c39 => (?_ : WD _ _ 49 _ _ _ _ _ _)⟩
  · replace h := h.1 c39
    refine x_iload d_Bo_bound_54 rfl (?_ : WD _ _ 56 _ _ _ _ _ _)
    refine x_aload_nP (some x0) d_Bo_bound_56 rfl (?_ : WD _ _ 57 _ _ _ _ _ _)
    refine x_iload_n d_Bo_bound_57 rfl (?_ : WD _ _ 58 _ _ _ _ _ _)
    obtain ⟨h40, h⟩ := h
    refine x_ineg d_Bo_bound_58 h40 (?_ : WD _ _ 59 _ _ _ _ _ _)
    obtain ⟨c41, s42, h43, h44, h⟩ := h
    refine x_callV (ν := M_Bo_known) [vI (-x1)] ok_M_Bo_known okv_M_Bo_known (((((k5.q gw6.k).q gw11.k).q gw18.k).q gw24.k).q gw31.k) rfl rfl (qm_10 (i := 145) rfl rfl) np_M_Bo_known rfl ⟨Nat.le_of_ble_eq_true rfl, Nat.le_of_ble_eq_true rfl⟩ (Nat.le_of_ble_eq_true rfl) rfl d_Bo_bound_59 h43 h44 (DI.k h (fun v46 w45 gw45 h => (?_ : WD _ _ 62 _ _ _ _ _ _)))
    obtain ⟨h47, h⟩ := h
    refine x_isub d_Bo_bound_62 h47 (?_ : WD _ _ 63 _ _ _ _ _ _)
    refine x_aload_nP (some x0) d_Bo_bound_63 rfl (?_ : WD _ _ 64 _ _ _ _ _ _)
    refine x_aloadP (some a8) d_Bo_bound_64 rfl (?_ : WD _ _ 66 _ _ _ _ _ _)
    refine x_iload_n d_Bo_bound_66 rfl (?_ : WD _ _ 67 _ _ _ _ _ _)
    refine x_iload_n d_Bo_bound_67 rfl (?_ : WD _ _ 68 _ _ _ _ _ _)
    refine x_ineg d_Bo_bound_68 h40 (?_ : WD _ _ 69 _ _ _ _ _ _)
    obtain ⟨c48, s49, h50, h51, h⟩ := h
    refine x_callV (ν := M_Bo_projected) [vA a8, vI x2, vI (-x1)] ok_M_Bo_projected okv_M_Bo_projected ((((((k5.q gw6.k).q gw11.k).q gw18.k).q gw24.k).q gw31.k).q gw45.k) rfl rfl (qm_10 (i := 146) rfl rfl) np_M_Bo_projected rfl ⟨Nat.le_of_ble_eq_true rfl, Nat.le_of_ble_eq_true rfl⟩ (Nat.le_of_ble_eq_true rfl) rfl d_Bo_bound_69 h50 h51 (DI.k h (fun v53 w52 gw52 h => (?_ : WD _ _ 72 _ _ _ _ _ _)))
    obtain ⟨h54, h⟩ := h
    refine x_isub d_Bo_bound_72 h54 (?_ : WD _ _ 73 _ _ _ _ _ _)
    exact x_ireturn rfl d_Bo_bound_73 h
  · replace h := h.2 c39
    refine x_iload d_Bo_bound_49 rfl (?_ : WD _ _ 51 _ _ _ _ _ _)
    refine x_goto 73 d_Bo_bound_51 rfl ?_
    exact x_ireturn rfl d_Bo_bound_73 h
set_option maxRecDepth 20000 in
theorem e_Bo_basic {G : Gq} {K : Int → Wd → Prop} {w : Wd} {mc ms : Nat} (x0 : Nat) (x1 : Int) (h : ∃ c1 s2 : Nat, c1 ≤ mc ∧ s2 ≤ ms ∧ ((Is G w x0 (kO 11)) ∧ DP G M_Bo_owners [vA x0] w c1 s2 (fun v7 w6 => ∃ a8 : Nat, v7 = some a8 ∧ (∃ n10 : Nat, ((Is G w6 a8 (kA 0 n10)) ∧ (inR (n10 : Int)) ∧ ∃ a13 : Nat, (wR w6 x0 2) = some a13 ∧ (∃ n15 : Nat, ((Is G w6 a13 (kA 0 n15)) ∧ (1 < (n15 : Int)) ∧ DI G M_Bo_upper [vI x1, vI 0, vI (wI w6 a13 1)] w6 0 0 (fun v19 w18 => (inL ((n10 : Int) * v19)) ∧ (0 ≤ ((n10 : Int) * v19)) ∧ (inR (((n10 : Int) * v19) / 1000000)) ∧ K (((n10 : Int) * v19) / 1000000) w18)))))))) : DI G M_Bo_basic [vA x0, vI x1] w mc ms K := by
  refine DC.of ok_M_Bo_basic (ls := [(0, vA x0), (1, vI x1)]) rfl (Nat.le_of_ble_eq_true rfl) ?_
  refine x_aload_nP (some x0) d_Bo_basic_0 rfl (?_ : WD _ _ 1 _ _ _ _ _ _)
  obtain ⟨c1, s2, h3, h4, h⟩ := h
  obtain ⟨k5, h⟩ := h
  refine x_callV (ν := M_Bo_owners) [] ok_M_Bo_owners okv_M_Bo_owners k5 rfl rfl (qm_2 (i := 194) rfl rfl) np_M_Bo_owners rfl ⟨Nat.le_of_ble_eq_true rfl, Nat.le_of_ble_eq_true rfl⟩ (Nat.le_of_ble_eq_true rfl) rfl d_Bo_basic_1 h3 h4 (DP.k h (fun v7 w6 gw6 h => (?_ : WD _ _ 4 _ _ _ _ _ _)))
  obtain ⟨a8, e9, h⟩ := h
  rw [e9]
  obtain ⟨n10, h⟩ := h
  obtain ⟨k11, h⟩ := h
  obtain ⟨h12, h⟩ := h
  refine x_alenA k11 (fun _ => rfl) h12 d_Bo_basic_4 (?_ : WD _ _ 5 _ _ _ _ _ _)
  refine x_i2l d_Bo_basic_5 (?_ : WD _ _ 6 _ _ _ _ _ _)
  refine x_iload_n d_Bo_basic_6 rfl (?_ : WD _ _ 7 _ _ _ _ _ _)
  refine x_iconst d_Bo_basic_7 (by decide) (?_ : WD _ _ 8 _ _ _ _ _ _)
  refine x_aload_nP (some x0) d_Bo_basic_8 rfl (?_ : WD _ _ 9 _ _ _ _ _ _)
  refine x_getP (ref := "CoinSamplerLaw$Books") (j := 2) 2 (k5.q gw6.k) clk_11 (by decide) (qm_2 (i := 159) rfl rfl) (Or.inl rfl) rfl rfl d_Bo_basic_9 (y := (wR w6 x0 2)) rfl (?_ : WD _ _ 12 _ _ _ _ _ _)
  refine x_iconst d_Bo_basic_12 (by decide) (?_ : WD _ _ 13 _ _ _ _ _ _)
  obtain ⟨a13, e14, h⟩ := h
  rw [e14]
  obtain ⟨n15, h⟩ := h
  obtain ⟨k16, h⟩ := h
  obtain ⟨h17, h⟩ := h
  refine x_iald k16 d_Bo_basic_13 (by decide) h17 (y := (wI w6 a13 1)) rfl (?_ : WD _ _ 14 _ _ _ _ _ _)
  refine x_callS (ν := M_Bo_upper) [vI x1, vI 0, vI (wI w6 a13 1)] ok_M_Bo_upper oks_M_Bo_upper (qm_5 (i := 198) rfl rfl) np_M_Bo_upper rfl ⟨Nat.le_of_ble_eq_true rfl, Nat.le_of_ble_eq_true rfl⟩ (Nat.le_of_ble_eq_true rfl) rfl d_Bo_basic_14 (Nat.zero_le _) (Nat.zero_le _) (DI.k h (fun v19 w18 gw18 h => (?_ : WD _ _ 17 _ _ _ _ _ _)))
  refine x_i2l d_Bo_basic_17 (?_ : WD _ _ 18 _ _ _ _ _ _)
  obtain ⟨h20, h⟩ := h
  refine x_lmul d_Bo_basic_18 h20 (?_ : WD _ _ 19 _ _ _ _ _ _)
  refine x_ldc2 1000000 d_Bo_basic_19 (qm_5 (i := 204) rfl rfl) (by decide) (by decide) (?_ : WD _ _ 22 _ _ _ _ _ _)
  obtain ⟨h21, h⟩ := h
  refine x_ldivn d_Bo_basic_22 h21 (by decide) (?_ : WD _ _ 23 _ _ _ _ _ _)
  obtain ⟨h22, h⟩ := h
  refine x_l2i d_Bo_basic_23 h22 (?_ : WD _ _ 24 _ _ _ _ _ _)
  exact x_ireturn rfl d_Bo_basic_24 h
set_option maxRecDepth 20000 in
theorem e_Bo_rises {G : Gq} {K : Int → Wd → Prop} {w : Wd} {mc ms : Nat} (x0 : Nat) (x1 : Nat) (x2 : Int) (x3 : Int) (h : ∃ c1 s2 : Nat, c1 ≤ mc ∧ s2 ≤ ms ∧ ((Is G w x0 (kO 11)) ∧ DP G M_Bo_ranked [vA x0, vA x1, vI x2] w c1 s2 (fun v7 w6 => ∃ c8 s9 : Nat, c8 ≤ (mc - c1) ∧ s9 ≤ (ms - s2) ∧ (DP G M_Bo_owners [vA x0] w6 c8 s9 (fun v13 w12 => ∃ a14 : Nat, v13 = some a14 ∧ (∃ n16 : Nat, ((Is G w12 a14 (kA 0 n16)) ∧ (inR (n16 : Int)) ∧ ∃ a19 : Nat, (wR w12 x0 2) = some a19 ∧ (∃ n21 : Nat, ((Is G w12 a19 (kA 0 n21)) ∧ (1 < (n21 : Int)) ∧ DI G M_Bo_upper [vI x3, vI 0, vI (wI w12 a19 1)] w12 0 0 (fun v25 w24 => WD G M_Bo_rises 34 [(0, vA x0), (3, vI x3), (4, vP v7), (5, vI 0), (6, vI (n16 : Int)), (7, vI v25), (8, vI 1)] [] w24 ((mc - c1) - c8) ((ms - s2) - s9) (yI K))))))))))) : DI G M_Bo_rises [vA x0, vA x1, vI x2, vI x3] w mc ms K := by
  refine DC.of ok_M_Bo_rises (ls := [(0, vA x0), (1, vA x1), (2, vI x2), (3, vI x3)]) rfl (Nat.le_of_ble_eq_true rfl) ?_
  refine x_aload_nP (some x0) d_Bo_rises_0 rfl (?_ : WD _ _ 1 _ _ _ _ _ _)
  refine x_aload_nP (some x1) d_Bo_rises_1 rfl (?_ : WD _ _ 2 _ _ _ _ _ _)
  refine x_iload_n d_Bo_rises_2 rfl (?_ : WD _ _ 3 _ _ _ _ _ _)
  obtain ⟨c1, s2, h3, h4, h⟩ := h
  obtain ⟨k5, h⟩ := h
  refine x_callV (ν := M_Bo_ranked) [vA x1, vI x2] ok_M_Bo_ranked okv_M_Bo_ranked k5 rfl rfl (qm_10 (i := 130) rfl rfl) np_M_Bo_ranked rfl ⟨Nat.le_of_ble_eq_true rfl, Nat.le_of_ble_eq_true rfl⟩ (Nat.le_of_ble_eq_true rfl) rfl d_Bo_rises_3 h3 h4 (DP.k h (fun v7 w6 gw6 h => (?_ : WD _ _ 6 _ _ _ _ _ _)))
  refine x_astoreP v7 (ls' := [(4, vP v7), (0, vA x0), (1, vA x1), (2, vI x2), (3, vI x3)]) d_Bo_rises_6 (by decide) rfl (?_ : WD _ _ 8 _ _ _ _ _ _)
  refine x_iconst d_Bo_rises_8 (by decide) (?_ : WD _ _ 9 _ _ _ _ _ _)
  refine x_istore (ls' := [(5, vI 0), (4, vP v7), (0, vA x0), (1, vA x1), (2, vI x2), (3, vI x3)]) d_Bo_rises_9 (by decide) rfl (?_ : WD _ _ 11 _ _ _ _ _ _)
  refine x_aload_nP (some x0) d_Bo_rises_11 rfl (?_ : WD _ _ 12 _ _ _ _ _ _)
  obtain ⟨c8, s9, h10, h11, h⟩ := h
  refine x_callV (ν := M_Bo_owners) [] ok_M_Bo_owners okv_M_Bo_owners (k5.q gw6.k) rfl rfl (qm_2 (i := 194) rfl rfl) np_M_Bo_owners rfl ⟨Nat.le_of_ble_eq_true rfl, Nat.le_of_ble_eq_true rfl⟩ (Nat.le_of_ble_eq_true rfl) rfl d_Bo_rises_12 h10 h11 (DP.k h (fun v13 w12 gw12 h => (?_ : WD _ _ 15 _ _ _ _ _ _)))
  obtain ⟨a14, e15, h⟩ := h
  rw [e15]
  obtain ⟨n16, h⟩ := h
  obtain ⟨k17, h⟩ := h
  obtain ⟨h18, h⟩ := h
  refine x_alenA k17 (fun _ => rfl) h18 d_Bo_rises_15 (?_ : WD _ _ 16 _ _ _ _ _ _)
  refine x_istore (ls' := [(6, vI (n16 : Int)), (5, vI 0), (4, vP v7), (0, vA x0), (1, vA x1), (2, vI x2), (3, vI x3)]) d_Bo_rises_16 (by decide) rfl (?_ : WD _ _ 18 _ _ _ _ _ _)
  refine x_iload_n d_Bo_rises_18 rfl (?_ : WD _ _ 19 _ _ _ _ _ _)
  refine x_iconst d_Bo_rises_19 (by decide) (?_ : WD _ _ 20 _ _ _ _ _ _)
  refine x_aload_nP (some x0) d_Bo_rises_20 rfl (?_ : WD _ _ 21 _ _ _ _ _ _)
  refine x_getP (ref := "CoinSamplerLaw$Books") (j := 2) 2 ((k5.q gw6.k).q gw12.k) clk_11 (by decide) (qm_2 (i := 159) rfl rfl) (Or.inl rfl) rfl rfl d_Bo_rises_21 (y := (wR w12 x0 2)) rfl (?_ : WD _ _ 24 _ _ _ _ _ _)
  refine x_iconst d_Bo_rises_24 (by decide) (?_ : WD _ _ 25 _ _ _ _ _ _)
  obtain ⟨a19, e20, h⟩ := h
  rw [e20]
  obtain ⟨n21, h⟩ := h
  obtain ⟨k22, h⟩ := h
  obtain ⟨h23, h⟩ := h
  refine x_iald k22 d_Bo_rises_25 (by decide) h23 (y := (wI w12 a19 1)) rfl (?_ : WD _ _ 26 _ _ _ _ _ _)
  refine x_callS (ν := M_Bo_upper) [vI x3, vI 0, vI (wI w12 a19 1)] ok_M_Bo_upper oks_M_Bo_upper (qm_5 (i := 198) rfl rfl) np_M_Bo_upper rfl ⟨Nat.le_of_ble_eq_true rfl, Nat.le_of_ble_eq_true rfl⟩ (Nat.le_of_ble_eq_true rfl) rfl d_Bo_rises_26 (Nat.zero_le _) (Nat.zero_le _) (DI.k h (fun v25 w24 gw24 h => (?_ : WD _ _ 29 _ _ _ _ _ _)))
  refine x_istore (ls' := [(7, vI v25), (6, vI (n16 : Int)), (5, vI 0), (4, vP v7), (0, vA x0), (1, vA x1), (2, vI x2), (3, vI x3)]) d_Bo_rises_29 (by decide) rfl (?_ : WD _ _ 31 _ _ _ _ _ _)
  refine x_iconst d_Bo_rises_31 (by decide) (?_ : WD _ _ 32 _ _ _ _ _ _)
  refine x_istore (ls' := [(8, vI 1), (7, vI v25), (6, vI (n16 : Int)), (5, vI 0), (4, vP v7), (0, vA x0), (1, vA x1), (2, vI x2), (3, vI x3)]) d_Bo_rises_32 (by decide) rfl (?_ : WD _ _ 34 _ _ _ _ _ _)
  refine x_pick (ls' := [(0, vA x0), (3, vI x3), (4, vP v7), (5, vI 0), (6, vI (n16 : Int)), (7, vI v25), (8, vI 1)]) [5, 8, 4, 3, 2, 1, 0] rfl ?_
  exact h
set_option maxRecDepth 20000 in
theorem l_Bo_rises_1 {G : Gq} {K : Int → Wd → Prop} {w : Wd} {rc rs : Nat} (x0 : Nat) (x3 : Int) (x4 : Option Nat) (x5 : Int) (x6 : Int) (x7 : Int) (x8 : Int) (h : ∃ a26 : Nat, x4 = some a26 ∧ ((Is G w a26 (kO 14)) ∧ DI G M_Al_size [vA a26] w 0 0 (fun v30 w29 => (v30 < x8 → K x5 w29) ∧ (¬ v30 < x8 → (Is G w29 x0 (kO 11)) ∧ ∃ a33 : Nat, (wR w29 x0 2) = some a33 ∧ (∃ n35 : Nat, ((Is G w29 a33 (kA 0 n35)) ∧ (1 < (n35 : Int)) ∧ DI G M_Bo_upper [vI x3, vI x8, vI (wI w29 a33 1)] w29 0 0 (fun v39 w38 => (inR (v39 - x7)) ∧ (inL (x6 * (v39 - x7))) ∧ (inR (x8 - 1)) ∧ DP G M_Al_get [vA a26, vI (x8 - 1)] w38 0 0 (fun v44 w43 => ∃ a45 : Nat, v44 = some a45 ∧ ((Is G w43 a45 (kO 12)) ∧ ∃ a48 : Nat, (wR w38 x0 0) = some a48 ∧ ((Is G w43 a48 (kO 14)) ∧ DP G M_Al_get [vA a48, vI (wI w43 a45 0)] w43 0 0 (fun v52 w51 => ∃ a53 : Nat, v52 = some a53 ∧ ((Is G w51 a53 (kO 13)) ∧ DI G M_It_taint [vA a53] w51 0 0 (fun v57 w56 => DI G M_Ma_abs [vI v57] w56 0 0 (fun v59 w58 => (inL ((x6 * (v39 - x7)) * v59)) ∧ (0 ≤ ((x6 * (v39 - x7)) * v59)) ∧ (inR (((x6 * (v39 - x7)) * v59) / 10000000000)) ∧ (inR (x5 + (((x6 * (v39 - x7)) * v59) / 10000000000))) ∧ (inR (x8 + 1)) ∧ WD G M_Bo_rises 34 [(0, vA x0), (3, vI x3), (4, vP (some a26)), (5, vI (x5 + (((x6 * (v39 - x7)) * v59) / 10000000000))), (6, vI x6), (7, vI v39), (8, vI (x8 + 1))] [] w58 rc rs (yI K))))))))))))))) : WD G M_Bo_rises 34 [(0, vA x0), (3, vI x3), (4, vP x4), (5, vI x5), (6, vI x6), (7, vI x7), (8, vI x8)] [] w rc rs (yI K) := by
  refine x_iload d_Bo_rises_34 rfl (?_ : WD _ _ 36 _ _ _ _ _ _)
  refine x_aloadP x4 d_Bo_rises_36 rfl (?_ : WD _ _ 38 _ _ _ _ _ _)
  obtain ⟨a26, e27, h⟩ := h
  rw [e27]
  obtain ⟨k28, h⟩ := h
  refine x_callV (ν := M_Al_size) [] ok_M_Al_size okv_M_Al_size k28 rfl rfl (qm_2 (i := 186) rfl rfl) np_M_Al_size rfl ⟨Nat.le_of_ble_eq_true rfl, Nat.le_of_ble_eq_true rfl⟩ (Nat.le_of_ble_eq_true rfl) rfl d_Bo_rises_38 (Nat.zero_le _) (Nat.zero_le _) (DI.k h (fun v30 w29 gw29 h => (?_ : WD _ _ 41 _ _ _ _ _ _)))
  refine x_icmp_gt 121 d_Bo_rises_41 rfl ⟨fun c31 => (?_ : WD _ _ 121 _ _ _ _ _ _), fun c31 => (?_ : WD _ _ 44 _ _ _ _ _ _)⟩
  · replace h := h.1 c31
    refine x_iload d_Bo_rises_121 rfl (?_ : WD _ _ 123 _ _ _ _ _ _)
    exact x_ireturn rfl d_Bo_rises_123 h
  · replace h := h.2 c31
    refine x_iload_n d_Bo_rises_44 rfl (?_ : WD _ _ 45 _ _ _ _ _ _)
    refine x_iload d_Bo_rises_45 rfl (?_ : WD _ _ 47 _ _ _ _ _ _)
    refine x_aload_nP (some x0) d_Bo_rises_47 rfl (?_ : WD _ _ 48 _ _ _ _ _ _)
    obtain ⟨k32, h⟩ := h
    refine x_getP (ref := "CoinSamplerLaw$Books") (j := 2) 2 k32 clk_11 (by decide) (qm_2 (i := 159) rfl rfl) (Or.inl rfl) rfl rfl d_Bo_rises_48 (y := (wR w29 x0 2)) rfl (?_ : WD _ _ 51 _ _ _ _ _ _)
    refine x_iconst d_Bo_rises_51 (by decide) (?_ : WD _ _ 52 _ _ _ _ _ _)
    obtain ⟨a33, e34, h⟩ := h
    rw [e34]
    obtain ⟨n35, h⟩ := h
    obtain ⟨k36, h⟩ := h
    obtain ⟨h37, h⟩ := h
    refine x_iald k36 d_Bo_rises_52 (by decide) h37 (y := (wI w29 a33 1)) rfl (?_ : WD _ _ 53 _ _ _ _ _ _)
    refine x_callS (ν := M_Bo_upper) [vI x3, vI x8, vI (wI w29 a33 1)] ok_M_Bo_upper oks_M_Bo_upper (qm_5 (i := 198) rfl rfl) np_M_Bo_upper rfl ⟨Nat.le_of_ble_eq_true rfl, Nat.le_of_ble_eq_true rfl⟩ (Nat.le_of_ble_eq_true rfl) rfl d_Bo_rises_53 (Nat.zero_le _) (Nat.zero_le _) (DI.k h (fun v39 w38 gw38 h => (?_ : WD _ _ 56 _ _ _ _ _ _)))
    refine x_istore (ls' := [(9, vI v39), (0, vA x0), (3, vI x3), (4, vA a26), (5, vI x5), (6, vI x6), (7, vI x7), (8, vI x8)]) d_Bo_rises_56 (by decide) rfl (?_ : WD _ _ 58 _ _ _ _ _ _)
    refine x_iload d_Bo_rises_58 rfl (?_ : WD _ _ 60 _ _ _ _ _ _)
    refine x_iload d_Bo_rises_60 rfl (?_ : WD _ _ 62 _ _ _ _ _ _)
    refine x_i2l d_Bo_rises_62 (?_ : WD _ _ 63 _ _ _ _ _ _)
    refine x_iload d_Bo_rises_63 rfl (?_ : WD _ _ 65 _ _ _ _ _ _)
    refine x_iload d_Bo_rises_65 rfl (?_ : WD _ _ 67 _ _ _ _ _ _)
    obtain ⟨h40, h⟩ := h
    refine x_isub d_Bo_rises_67 h40 (?_ : WD _ _ 68 _ _ _ _ _ _)
    refine x_i2l d_Bo_rises_68 (?_ : WD _ _ 69 _ _ _ _ _ _)
    obtain ⟨h41, h⟩ := h
    refine x_lmul d_Bo_rises_69 h41 (?_ : WD _ _ 70 _ _ _ _ _ _)
    refine x_aload_nP (some x0) d_Bo_rises_70 rfl (?_ : WD _ _ 71 _ _ _ _ _ _)
    refine x_getP (ref := "CoinSamplerLaw$Books") (j := 0) 0 (k32.q gw38.k) clk_11 (by decide) (qm_2 (i := 155) rfl rfl) (Or.inl rfl) rfl rfl d_Bo_rises_71 (y := (wR w38 x0 0)) rfl (?_ : WD _ _ 74 _ _ _ _ _ _)
    refine x_aloadP (some a26) d_Bo_rises_74 rfl (?_ : WD _ _ 76 _ _ _ _ _ _)
    refine x_iload d_Bo_rises_76 rfl (?_ : WD _ _ 78 _ _ _ _ _ _)
    refine x_iconst d_Bo_rises_78 (by decide) (?_ : WD _ _ 79 _ _ _ _ _ _)
    obtain ⟨h42, h⟩ := h
    refine x_isub d_Bo_rises_79 h42 (?_ : WD _ _ 80 _ _ _ _ _ _)
    refine x_callV (ν := M_Al_get) [vI (x8 - 1)] ok_M_Al_get okv_M_Al_get ((k28.q gw29.k).q gw38.k) rfl rfl (qm_3 (i := 58) rfl rfl) np_M_Al_get rfl ⟨Nat.le_of_ble_eq_true rfl, Nat.le_of_ble_eq_true rfl⟩ (Nat.le_of_ble_eq_true rfl) rfl d_Bo_rises_80 (Nat.zero_le _) (Nat.zero_le _) (DP.k h (fun v44 w43 gw43 h => (?_ : WD _ _ 83 _ _ _ _ _ _)))
    obtain ⟨a45, e46, h⟩ := h
    rw [e46]
    obtain ⟨k47, h⟩ := h
    refine x_cast k47 rfl (Or.inl rfl) (qm_3 (i := 77) rfl rfl) d_Bo_rises_83 (?_ : WD _ _ 86 _ _ _ _ _ _)
    refine x_getI (ref := "CoinSamplerLaw$Hit") (j := 0) 0 k47 clk_12 (by decide) (qm_3 (i := 84) rfl rfl) (Or.inl rfl) rfl rfl d_Bo_rises_86 (y := (wI w43 a45 0)) rfl (?_ : WD _ _ 89 _ _ _ _ _ _)
    obtain ⟨a48, e49, h⟩ := h
    rw [e49]
    obtain ⟨k50, h⟩ := h
    refine x_callV (ν := M_Al_get) [vI (wI w43 a45 0)] ok_M_Al_get okv_M_Al_get k50 rfl rfl (qm_3 (i := 58) rfl rfl) np_M_Al_get rfl ⟨Nat.le_of_ble_eq_true rfl, Nat.le_of_ble_eq_true rfl⟩ (Nat.le_of_ble_eq_true rfl) rfl d_Bo_rises_89 (Nat.zero_le _) (Nat.zero_le _) (DP.k h (fun v52 w51 gw51 h => (?_ : WD _ _ 92 _ _ _ _ _ _)))
    obtain ⟨a53, e54, h⟩ := h
    rw [e54]
    obtain ⟨k55, h⟩ := h
    refine x_cast k55 rfl (Or.inl rfl) (qm_3 (i := 45) rfl rfl) d_Bo_rises_92 (?_ : WD _ _ 95 _ _ _ _ _ _)
    refine x_callV (ν := M_It_taint) [] ok_M_It_taint okv_M_It_taint k55 rfl rfl (qm_9 (i := 30) rfl rfl) np_M_It_taint rfl ⟨Nat.le_of_ble_eq_true rfl, Nat.le_of_ble_eq_true rfl⟩ (Nat.le_of_ble_eq_true rfl) rfl d_Bo_rises_95 (Nat.zero_le _) (Nat.zero_le _) (DI.k h (fun v57 w56 gw56 h => (?_ : WD _ _ 98 _ _ _ _ _ _)))
    refine x_callS (ν := M_Ma_abs) [vI v57] ok_M_Ma_abs oks_M_Ma_abs (qm_10 (i := 143) rfl rfl) np_M_Ma_abs rfl ⟨Nat.le_of_ble_eq_true rfl, Nat.le_of_ble_eq_true rfl⟩ (Nat.le_of_ble_eq_true rfl) rfl d_Bo_rises_98 (Nat.zero_le _) (Nat.zero_le _) (DI.k h (fun v59 w58 gw58 h => (?_ : WD _ _ 101 _ _ _ _ _ _)))
    refine x_i2l d_Bo_rises_101 (?_ : WD _ _ 102 _ _ _ _ _ _)
    obtain ⟨h60, h⟩ := h
    refine x_lmul d_Bo_rises_102 h60 (?_ : WD _ _ 103 _ _ _ _ _ _)
    refine x_ldc2 10000000000 d_Bo_rises_103 (qm_10 (i := 144) rfl rfl) (by decide) (by decide) (?_ : WD _ _ 106 _ _ _ _ _ _)
    obtain ⟨h61, h⟩ := h
    refine x_ldivn d_Bo_rises_106 h61 (by decide) (?_ : WD _ _ 107 _ _ _ _ _ _)
    obtain ⟨h62, h⟩ := h
    refine x_l2i d_Bo_rises_107 h62 (?_ : WD _ _ 108 _ _ _ _ _ _)
    obtain ⟨h63, h⟩ := h
    refine x_iadd d_Bo_rises_108 h63 (?_ : WD _ _ 109 _ _ _ _ _ _)
    refine x_istore (ls' := [(5, vI (x5 + (((x6 * (v39 - x7)) * v59) / 10000000000))), (9, vI v39), (0, vA x0), (3, vI x3), (4, vA a26), (6, vI x6), (7, vI x7), (8, vI x8)]) d_Bo_rises_109 (by decide) rfl (?_ : WD _ _ 111 _ _ _ _ _ _)
    refine x_iload d_Bo_rises_111 rfl (?_ : WD _ _ 113 _ _ _ _ _ _)
    refine x_istore (ls' := [(7, vI v39), (5, vI (x5 + (((x6 * (v39 - x7)) * v59) / 10000000000))), (9, vI v39), (0, vA x0), (3, vI x3), (4, vA a26), (6, vI x6), (8, vI x8)]) d_Bo_rises_113 (by decide) rfl (?_ : WD _ _ 115 _ _ _ _ _ _)
    obtain ⟨h64, h⟩ := h
    refine x_iinc (ls' := [(8, vI (x8 + 1)), (7, vI v39), (5, vI (x5 + (((x6 * (v39 - x7)) * v59) / 10000000000))), (9, vI v39), (0, vA x0), (3, vI x3), (4, vA a26), (6, vI x6)]) d_Bo_rises_115 rfl h64 (by decide) rfl (?_ : WD _ _ 118 _ _ _ _ _ _)
    refine x_goto 34 d_Bo_rises_118 rfl ?_
    refine x_pick (ls' := [(0, vA x0), (3, vI x3), (4, vP (some a26)), (5, vI (x5 + (((x6 * (v39 - x7)) * v59) / 10000000000))), (6, vI x6), (7, vI v39), (8, vI (x8 + 1))]) [4, 5, 6, 2, 7, 1, 0] rfl ?_
    exact h
set_option maxRecDepth 20000 in
theorem e_Bo_ranked {G : Gq} {K : Option Nat → Wd → Prop} {w : Wd} {mc ms : Nat} (x0 : Nat) (x1 : Nat) (x2 : Int) (h : (1 ≤ mc) ∧ (3 ≤ ms) ∧ ∀ q3 : Nat, Fr G w q3 → (DV G M_Al_init [vA q3] (uN w q3 (kO 14)) 0 0 (fun w5 => ∃ c7 s8 : Nat, c7 ≤ (mc - 1) ∧ s8 ≤ (ms - 3) ∧ ((Is G w5 x1 (kO 14)) ∧ DP G M_Al_iterator [vA x1] w5 c7 s8 (fun v13 w12 => WD G M_Bo_ranked 14 [(0, vA x0), (2, vI x2), (3, vA q3), (4, vP v13)] [] w12 ((mc - 1) - c7) ((ms - 3) - s8) (yP K)))))) : DP G M_Bo_ranked [vA x0, vA x1, vI x2] w mc ms K := by
  refine DC.of ok_M_Bo_ranked (ls := [(0, vA x0), (1, vA x1), (2, vI x2)]) rfl (Nat.le_of_ble_eq_true rfl) ?_
  obtain ⟨h1, h⟩ := h
  obtain ⟨h2, h⟩ := h
  refine x_new d_Bo_ranked_0 clk_14 tyJx4a65c_ok (qm_2 (i := 125) rfl rfl) (qm_2 (i := 126) rfl rfl) (qm_1 (i := 15) rfl rfl) hfd_14 h1 h2 (fun q3 fq3 => (?_ : WD _ _ 3 _ _ _ _ _ _))
  replace h := h q3 fq3
  have k4 : Ow (uN w q3 (kO 14)) q3 (kO 14) := Ow.nw
  refine x_dup d_Bo_ranked_3 rfl (?_ : WD _ _ 4 _ _ _ _ _ _)
  refine x_callI (ν := M_Al_init) [] ok_M_Al_init oki_M_Al_init rfl rfl (qm_2 (i := 127) rfl rfl) np_M_Al_init rfl ⟨Nat.le_of_ble_eq_true rfl, Nat.le_of_ble_eq_true rfl⟩ (Nat.le_of_ble_eq_true rfl) rfl d_Bo_ranked_4 (Nat.zero_le _) (Nat.zero_le _) (DV.k h (fun w5 gw5 h => (?_ : WD _ _ 7 _ _ _ _ _ _)))
  refine x_astore_nP (some q3) (ls' := [(3, vA q3), (0, vA x0), (1, vA x1), (2, vI x2)]) d_Bo_ranked_7 rfl (by decide) rfl (?_ : WD _ _ 8 _ _ _ _ _ _)
  refine x_aload_nP (some x1) d_Bo_ranked_8 rfl (?_ : WD _ _ 9 _ _ _ _ _ _)
  obtain ⟨c7, s8, h9, h10, h⟩ := h
  obtain ⟨k11, h⟩ := h
  refine x_callV (ν := M_Al_iterator) [] ok_M_Al_iterator okv_M_Al_iterator k11 rfl rfl (qm_2 (i := 198) rfl rfl) np_M_Al_iterator rfl ⟨Nat.le_of_ble_eq_true rfl, Nat.le_of_ble_eq_true rfl⟩ (Nat.le_of_ble_eq_true rfl) rfl d_Bo_ranked_9 h9 h10 (DP.k h (fun v13 w12 gw12 h => (?_ : WD _ _ 12 _ _ _ _ _ _)))
  refine x_astoreP v13 (ls' := [(4, vP v13), (3, vA q3), (0, vA x0), (1, vA x1), (2, vI x2)]) d_Bo_ranked_12 (by decide) rfl (?_ : WD _ _ 14 _ _ _ _ _ _)
  refine x_pick (ls' := [(0, vA x0), (2, vI x2), (3, vA q3), (4, vP v13)]) [2, 4, 1, 0] rfl ?_
  exact h
set_option maxRecDepth 20000 in
theorem l_Bo_ranked_1 {G : Gq} {K : Option Nat → Wd → Prop} {w : Wd} {rc rs : Nat} (x0 : Nat) (x2 : Int) (x3 : Nat) (x4 : Option Nat) (h : ∃ a14 : Nat, x4 = some a14 ∧ ((Is G w a14 (kO 15)) ∧ DI G M_Ai_hasNext [vA a14] w 0 0 (fun v18 w17 => (v18 = 0 → K (some x3) w17) ∧ (¬ v18 = 0 → DP G M_Ai_next [vA a14] w17 0 0 (fun v21 w20 => ∃ a22 : Nat, v21 = some a22 ∧ ((Is G w20 a22 (kO 12)) ∧ (Is G w20 x0 (kO 11)) ∧ ∃ a26 : Nat, (wR w20 x0 0) = some a26 ∧ ((Is G w20 a26 (kO 14)) ∧ DP G M_Al_get [vA a26, vI (wI w20 a22 0)] w20 0 0 (fun v30 w29 => ∃ a31 : Nat, v30 = some a31 ∧ ((Is G w29 a31 (kO 13)) ∧ DI G M_It_taint [vA a31] w29 0 0 (fun v35 w34 => (inR (x2 * v35)) ∧ (Is G w34 x3 (kO 14)) ∧ DI G M_Al_size [vA x3] w34 0 0 (fun v39 w38 => (0 < (x2 * v35) → WD G M_Bo_ranked 72 [(0, vA x0), (2, vI x2), (3, vA x3), (4, vA a14), (5, vA a22), (6, vI (x2 * v35)), (7, vI v39)] [] w38 rc rs (yP K)) ∧ (¬ 0 < (x2 * v35) → WD G M_Bo_ranked 14 [(0, vA x0), (2, vI x2), (3, vA x3), (4, vP (some a14))] [] w38 rc rs (yP K))))))))))))) : WD G M_Bo_ranked 14 [(0, vA x0), (2, vI x2), (3, vA x3), (4, vP x4)] [] w rc rs (yP K) := by
  refine x_aloadP x4 d_Bo_ranked_14 rfl (?_ : WD _ _ 16 _ _ _ _ _ _)
  obtain ⟨a14, e15, h⟩ := h
  rw [e15]
  obtain ⟨k16, h⟩ := h
  refine x_callF (ν := M_Ai_hasNext) ⟨"java/util/Iterator", "hasNext", "()Z"⟩ [] ok_M_Ai_hasNext oki_M_Ai_hasNext k16 rfl (qm_2 (i := 226) rfl rfl) (by decide) (qm_2 (i := 222) rfl rfl) (show _ = some 0 from by decide +kernel) rfl ⟨Nat.le_of_ble_eq_true rfl, Nat.le_of_ble_eq_true rfl⟩ (Nat.le_of_ble_eq_true rfl) rfl d_Bo_ranked_16 (Nat.zero_le _) (Nat.zero_le _) (DI.k h (fun v18 w17 gw17 h => (?_ : WD _ _ 21 _ _ _ _ _ _)))
  refine x_if_eq 128 d_Bo_ranked_21 rfl ⟨fun c19 => (?_ : WD _ _ 128 _ _ _ _ _ _), fun c19 => (?_ : WD _ _ 24 _ _ _ _ _ _)⟩
  · replace h := h.1 c19
    refine x_aload_nP (some x3) d_Bo_ranked_128 rfl (?_ : WD _ _ 129 _ _ _ _ _ _)
    exact x_areturn (some x3) rfl (Or.inl ⟨_, rfl⟩) d_Bo_ranked_129 h
  · replace h := h.2 c19
    refine x_aloadP (some a14) d_Bo_ranked_24 rfl (?_ : WD _ _ 26 _ _ _ _ _ _)
    refine x_callF (ν := M_Ai_next) ⟨"java/util/Iterator", "next", "()Ljava/lang/Object;"⟩ [] ok_M_Ai_next oki_M_Ai_next (k16.q gw17.k) rfl (qm_3 (i := 7) rfl rfl) (by decide) (qm_3 (i := 4) rfl rfl) (show _ = some 0 from by decide +kernel) rfl ⟨Nat.le_of_ble_eq_true rfl, Nat.le_of_ble_eq_true rfl⟩ (Nat.le_of_ble_eq_true rfl) rfl d_Bo_ranked_26 (Nat.zero_le _) (Nat.zero_le _) (DP.k h (fun v21 w20 gw20 h => (?_ : WD _ _ 31 _ _ _ _ _ _)))
    obtain ⟨a22, e23, h⟩ := h
    rw [e23]
    obtain ⟨k24, h⟩ := h
    refine x_cast k24 rfl (Or.inl rfl) (qm_3 (i := 77) rfl rfl) d_Bo_ranked_31 (?_ : WD _ _ 34 _ _ _ _ _ _)
    refine x_astoreP (some a22) (ls' := [(5, vA a22), (0, vA x0), (2, vI x2), (3, vA x3), (4, vA a14)]) d_Bo_ranked_34 (by decide) rfl (?_ : WD _ _ 36 _ _ _ _ _ _)
    refine x_iload_n d_Bo_ranked_36 rfl (?_ : WD _ _ 37 _ _ _ _ _ _)
    refine x_aload_nP (some x0) d_Bo_ranked_37 rfl (?_ : WD _ _ 38 _ _ _ _ _ _)
    obtain ⟨k25, h⟩ := h
    refine x_getP (ref := "CoinSamplerLaw$Books") (j := 0) 0 k25 clk_11 (by decide) (qm_2 (i := 155) rfl rfl) (Or.inl rfl) rfl rfl d_Bo_ranked_38 (y := (wR w20 x0 0)) rfl (?_ : WD _ _ 41 _ _ _ _ _ _)
    refine x_aloadP (some a22) d_Bo_ranked_41 rfl (?_ : WD _ _ 43 _ _ _ _ _ _)
    refine x_getI (ref := "CoinSamplerLaw$Hit") (j := 0) 0 k24 clk_12 (by decide) (qm_3 (i := 84) rfl rfl) (Or.inl rfl) rfl rfl d_Bo_ranked_43 (y := (wI w20 a22 0)) rfl (?_ : WD _ _ 46 _ _ _ _ _ _)
    obtain ⟨a26, e27, h⟩ := h
    rw [e27]
    obtain ⟨k28, h⟩ := h
    refine x_callV (ν := M_Al_get) [vI (wI w20 a22 0)] ok_M_Al_get okv_M_Al_get k28 rfl rfl (qm_3 (i := 58) rfl rfl) np_M_Al_get rfl ⟨Nat.le_of_ble_eq_true rfl, Nat.le_of_ble_eq_true rfl⟩ (Nat.le_of_ble_eq_true rfl) rfl d_Bo_ranked_46 (Nat.zero_le _) (Nat.zero_le _) (DP.k h (fun v30 w29 gw29 h => (?_ : WD _ _ 49 _ _ _ _ _ _)))
    obtain ⟨a31, e32, h⟩ := h
    rw [e32]
    obtain ⟨k33, h⟩ := h
    refine x_cast k33 rfl (Or.inl rfl) (qm_3 (i := 45) rfl rfl) d_Bo_ranked_49 (?_ : WD _ _ 52 _ _ _ _ _ _)
    refine x_callV (ν := M_It_taint) [] ok_M_It_taint okv_M_It_taint k33 rfl rfl (qm_9 (i := 30) rfl rfl) np_M_It_taint rfl ⟨Nat.le_of_ble_eq_true rfl, Nat.le_of_ble_eq_true rfl⟩ (Nat.le_of_ble_eq_true rfl) rfl d_Bo_ranked_52 (Nat.zero_le _) (Nat.zero_le _) (DI.k h (fun v35 w34 gw34 h => (?_ : WD _ _ 55 _ _ _ _ _ _)))
    obtain ⟨h36, h⟩ := h
    refine x_imul d_Bo_ranked_55 h36 (?_ : WD _ _ 56 _ _ _ _ _ _)
    refine x_istore (ls' := [(6, vI (x2 * v35)), (5, vA a22), (0, vA x0), (2, vI x2), (3, vA x3), (4, vA a14)]) d_Bo_ranked_56 (by decide) rfl (?_ : WD _ _ 58 _ _ _ _ _ _)
    refine x_aload_nP (some x3) d_Bo_ranked_58 rfl (?_ : WD _ _ 59 _ _ _ _ _ _)
    obtain ⟨k37, h⟩ := h
    refine x_callV (ν := M_Al_size) [] ok_M_Al_size okv_M_Al_size k37 rfl rfl (qm_2 (i := 186) rfl rfl) np_M_Al_size rfl ⟨Nat.le_of_ble_eq_true rfl, Nat.le_of_ble_eq_true rfl⟩ (Nat.le_of_ble_eq_true rfl) rfl d_Bo_ranked_59 (Nat.zero_le _) (Nat.zero_le _) (DI.k h (fun v39 w38 gw38 h => (?_ : WD _ _ 62 _ _ _ _ _ _)))
    refine x_istore (ls' := [(7, vI v39), (6, vI (x2 * v35)), (5, vA a22), (0, vA x0), (2, vI x2), (3, vA x3), (4, vA a14)]) d_Bo_ranked_62 (by decide) rfl (?_ : WD _ _ 64 _ _ _ _ _ _)
    refine x_iload d_Bo_ranked_64 rfl (?_ : WD _ _ 66 _ _ _ _ _ _)
    refine x_if_gt 72 d_Bo_ranked_66 rfl ⟨fun c40 => (?_ : WD _ _ 72 _ _ _ _ _ _), fun c40 => (?_ : WD _ _ 69 _ _ _ _ _ _)⟩
    · replace h := h.1 c40
      refine x_pick (ls' := [(0, vA x0), (2, vI x2), (3, vA x3), (4, vA a14), (5, vA a22), (6, vI (x2 * v35)), (7, vI v39)]) [3, 4, 5, 6, 2, 1, 0] rfl ?_
      exact h
    · replace h := h.2 c40
      refine x_goto 14 d_Bo_ranked_69 rfl ?_
      refine x_pick (ls' := [(0, vA x0), (2, vI x2), (3, vA x3), (4, vP (some a14))]) [3, 4, 5, 6] rfl ?_
      exact h
set_option maxRecDepth 20000 in
theorem l_Bo_ranked_2 {G : Gq} {K : Option Nat → Wd → Prop} {w : Wd} {rc rs : Nat} (x0 : Nat) (x2 : Int) (x3 : Nat) (x4 : Nat) (x5 : Nat) (x6 : Int) (x7 : Int) (h : (x7 ≤ 0 → ∃ c42 s43 : Nat, c42 ≤ rc ∧ s43 ≤ rs ∧ ((Is G w x3 (kO 14)) ∧ DV G M_Al_add_7a177 [vA x3, vI x7, vA x5] w c42 s43 (fun w47 => WD G M_Bo_ranked 14 [(0, vA x0), (2, vI x2), (3, vA x3), (4, vP (some x4))] [] w47 (rc - c42) (rs - s43) (yP K)))) ∧ (¬ x7 ≤ 0 → (Is G w x0 (kO 11)) ∧ (inR (x7 - 1)) ∧ (Is G w x3 (kO 14)) ∧ DP G M_Al_get [vA x3, vI (x7 - 1)] w 0 0 (fun v53 w52 => ∃ a54 : Nat, v53 = some a54 ∧ ((Is G w52 a54 (kO 12)) ∧ ∃ a57 : Nat, (wR w x0 0) = some a57 ∧ ((Is G w52 a57 (kO 14)) ∧ DP G M_Al_get [vA a57, vI (wI w52 a54 0)] w52 0 0 (fun v61 w60 => ∃ a62 : Nat, v61 = some a62 ∧ ((Is G w60 a62 (kO 13)) ∧ DI G M_It_taint [vA a62] w60 0 0 (fun v66 w65 => (inR (x2 * v66)) ∧ (x6 ≤ (x2 * v66) → ∃ c69 s70 : Nat, c69 ≤ rc ∧ s70 ≤ rs ∧ (DV G M_Al_add_7a177 [vA x3, vI x7, vA x5] w65 c69 s70 (fun w73 => WD G M_Bo_ranked 14 [(0, vA x0), (2, vI x2), (3, vA x3), (4, vP (some x4))] [] w73 (rc - c69) (rs - s70) (yP K)))) ∧ (¬ x6 ≤ (x2 * v66) → (inR (x7 + (-1))) ∧ WD G M_Bo_ranked 72 [(0, vA x0), (2, vI x2), (3, vA x3), (4, vA x4), (5, vA x5), (6, vI x6), (7, vI (x7 + (-1)))] [] w65 rc rs (yP K)))))))))) : WD G M_Bo_ranked 72 [(0, vA x0), (2, vI x2), (3, vA x3), (4, vA x4), (5, vA x5), (6, vI x6), (7, vI x7)] [] w rc rs (yP K) := by
  refine x_iload d_Bo_ranked_72 rfl (?_ : WD _ _ 74 _ _ _ _ _ _)
  refine x_if_le 117 d_Bo_ranked_74 rfl ⟨fun c41 => (?_ : WD _ _ 117 _ _ _ _ _ _), fun c41 => (?_ : WD _ _ 77 _ _ _ _ _ _)⟩
  · replace h := h.1 c41
    refine x_aload_nP (some x3) d_Bo_ranked_117 rfl (?_ : WD _ _ 118 _ _ _ _ _ _)
    refine x_iload d_Bo_ranked_118 rfl (?_ : WD _ _ 120 _ _ _ _ _ _)
    refine x_aloadP (some x5) d_Bo_ranked_120 rfl (?_ : WD _ _ 122 _ _ _ _ _ _)
    obtain ⟨c42, s43, h44, h45, h⟩ := h
    obtain ⟨k46, h⟩ := h
    refine x_callV (ν := M_Al_add_7a177) [vI x7, vA x5] ok_M_Al_add_7a177 okv_M_Al_add_7a177 k46 rfl rfl (qm_10 (i := 134) rfl rfl) np_M_Al_add_7a177 rfl ⟨Nat.le_of_ble_eq_true rfl, Nat.le_of_ble_eq_true rfl⟩ (Nat.le_of_ble_eq_true rfl) rfl d_Bo_ranked_122 h44 h45 (DV.k h (fun w47 gw47 h => (?_ : WD _ _ 125 _ _ _ _ _ _)))
    refine x_goto 14 d_Bo_ranked_125 rfl ?_
    refine x_pick (ls' := [(0, vA x0), (2, vI x2), (3, vA x3), (4, vP (some x4))]) [0, 1, 2, 3] rfl ?_
    exact h
  · replace h := h.2 c41
    refine x_iload_n d_Bo_ranked_77 rfl (?_ : WD _ _ 78 _ _ _ _ _ _)
    refine x_aload_nP (some x0) d_Bo_ranked_78 rfl (?_ : WD _ _ 79 _ _ _ _ _ _)
    obtain ⟨k49, h⟩ := h
    refine x_getP (ref := "CoinSamplerLaw$Books") (j := 0) 0 k49 clk_11 (by decide) (qm_2 (i := 155) rfl rfl) (Or.inl rfl) rfl rfl d_Bo_ranked_79 (y := (wR w x0 0)) rfl (?_ : WD _ _ 82 _ _ _ _ _ _)
    refine x_aload_nP (some x3) d_Bo_ranked_82 rfl (?_ : WD _ _ 83 _ _ _ _ _ _)
    refine x_iload d_Bo_ranked_83 rfl (?_ : WD _ _ 85 _ _ _ _ _ _)
    refine x_iconst d_Bo_ranked_85 (by decide) (?_ : WD _ _ 86 _ _ _ _ _ _)
    obtain ⟨h50, h⟩ := h
    refine x_isub d_Bo_ranked_86 h50 (?_ : WD _ _ 87 _ _ _ _ _ _)
    obtain ⟨k51, h⟩ := h
    refine x_callV (ν := M_Al_get) [vI (x7 - 1)] ok_M_Al_get okv_M_Al_get k51 rfl rfl (qm_3 (i := 58) rfl rfl) np_M_Al_get rfl ⟨Nat.le_of_ble_eq_true rfl, Nat.le_of_ble_eq_true rfl⟩ (Nat.le_of_ble_eq_true rfl) rfl d_Bo_ranked_87 (Nat.zero_le _) (Nat.zero_le _) (DP.k h (fun v53 w52 gw52 h => (?_ : WD _ _ 90 _ _ _ _ _ _)))
    obtain ⟨a54, e55, h⟩ := h
    rw [e55]
    obtain ⟨k56, h⟩ := h
    refine x_cast k56 rfl (Or.inl rfl) (qm_3 (i := 77) rfl rfl) d_Bo_ranked_90 (?_ : WD _ _ 93 _ _ _ _ _ _)
    refine x_getI (ref := "CoinSamplerLaw$Hit") (j := 0) 0 k56 clk_12 (by decide) (qm_3 (i := 84) rfl rfl) (Or.inl rfl) rfl rfl d_Bo_ranked_93 (y := (wI w52 a54 0)) rfl (?_ : WD _ _ 96 _ _ _ _ _ _)
    obtain ⟨a57, e58, h⟩ := h
    rw [e58]
    obtain ⟨k59, h⟩ := h
    refine x_callV (ν := M_Al_get) [vI (wI w52 a54 0)] ok_M_Al_get okv_M_Al_get k59 rfl rfl (qm_3 (i := 58) rfl rfl) np_M_Al_get rfl ⟨Nat.le_of_ble_eq_true rfl, Nat.le_of_ble_eq_true rfl⟩ (Nat.le_of_ble_eq_true rfl) rfl d_Bo_ranked_96 (Nat.zero_le _) (Nat.zero_le _) (DP.k h (fun v61 w60 gw60 h => (?_ : WD _ _ 99 _ _ _ _ _ _)))
    obtain ⟨a62, e63, h⟩ := h
    rw [e63]
    obtain ⟨k64, h⟩ := h
    refine x_cast k64 rfl (Or.inl rfl) (qm_3 (i := 45) rfl rfl) d_Bo_ranked_99 (?_ : WD _ _ 102 _ _ _ _ _ _)
    refine x_callV (ν := M_It_taint) [] ok_M_It_taint okv_M_It_taint k64 rfl rfl (qm_9 (i := 30) rfl rfl) np_M_It_taint rfl ⟨Nat.le_of_ble_eq_true rfl, Nat.le_of_ble_eq_true rfl⟩ (Nat.le_of_ble_eq_true rfl) rfl d_Bo_ranked_102 (Nat.zero_le _) (Nat.zero_le _) (DI.k h (fun v66 w65 gw65 h => (?_ : WD _ _ 105 _ _ _ _ _ _)))
    obtain ⟨h67, h⟩ := h
    refine x_imul d_Bo_ranked_105 h67 (?_ : WD _ _ 106 _ _ _ _ _ _)
    refine x_iload d_Bo_ranked_106 rfl (?_ : WD _ _ 108 _ _ _ _ _ _)
    refine x_icmp_ge 117 d_Bo_ranked_108 rfl ⟨fun c68 => (?_ : WD _ _ 117 _ _ _ _ _ _), fun c68 => (?_ : WD _ _ 111 _ _ _ _ _ _)⟩
    · replace h := h.1 c68
      refine x_aload_nP (some x3) d_Bo_ranked_117 rfl (?_ : WD _ _ 118 _ _ _ _ _ _)
      refine x_iload d_Bo_ranked_118 rfl (?_ : WD _ _ 120 _ _ _ _ _ _)
      refine x_aloadP (some x5) d_Bo_ranked_120 rfl (?_ : WD _ _ 122 _ _ _ _ _ _)
      obtain ⟨c69, s70, h71, h72, h⟩ := h
      refine x_callV (ν := M_Al_add_7a177) [vI x7, vA x5] ok_M_Al_add_7a177 okv_M_Al_add_7a177 (((k51.q gw52.k).q gw60.k).q gw65.k) rfl rfl (qm_10 (i := 134) rfl rfl) np_M_Al_add_7a177 rfl ⟨Nat.le_of_ble_eq_true rfl, Nat.le_of_ble_eq_true rfl⟩ (Nat.le_of_ble_eq_true rfl) rfl d_Bo_ranked_122 h71 h72 (DV.k h (fun w73 gw73 h => (?_ : WD _ _ 125 _ _ _ _ _ _)))
      refine x_goto 14 d_Bo_ranked_125 rfl ?_
      refine x_pick (ls' := [(0, vA x0), (2, vI x2), (3, vA x3), (4, vP (some x4))]) [0, 1, 2, 3] rfl ?_
      exact h
    · replace h := h.2 c68
      obtain ⟨h75, h⟩ := h
      refine x_iinc (ls' := [(7, vI (x7 + (-1))), (0, vA x0), (2, vI x2), (3, vA x3), (4, vA x4), (5, vA x5), (6, vI x6)]) d_Bo_ranked_111 rfl h75 (by decide) rfl (?_ : WD _ _ 114 _ _ _ _ _ _)
      refine x_goto 72 d_Bo_ranked_114 rfl ?_
      refine x_pick (ls' := [(0, vA x0), (2, vI x2), (3, vA x3), (4, vA x4), (5, vA x5), (6, vI x6), (7, vI (x7 + (-1)))]) [1, 2, 3, 4, 5, 6, 0] rfl ?_
      exact h
set_option maxRecDepth 20000 in
theorem e_Bo_rise {G : Gq} {K : Int → Wd → Prop} {w : Wd} {mc ms : Nat} (x0 : Nat) (x1 : Nat) (x2 : Int) (x3 : Int) (x4 : Int) (h : (Is G w x0 (kO 11)) ∧ ∃ a2 : Nat, (wR w x0 2) = some a2 ∧ (∃ n4 : Nat, ((Is G w a2 (kA 0 n4)) ∧ (1 < (n4 : Int)) ∧ DI G M_Bo_upper [vI x3, vI x2, vI (wI w a2 1)] w 0 0 (fun v8 w7 => (inR (x2 - 1)) ∧ ∃ a10 : Nat, (wR w7 x0 2) = some a10 ∧ (∃ n12 : Nat, ((Is G w7 a10 (kA 0 n12)) ∧ (1 < (n12 : Int)) ∧ DI G M_Bo_upper [vI x3, vI (x2 - 1), vI (wI w7 a10 1)] w7 0 0 (fun v16 w15 => (inR (v8 - v16)) ∧ (inL (x4 * (v8 - v16))) ∧ (Is G w15 x1 (kO 14)) ∧ DP G M_Al_get [vA x1, vI (x2 - 1)] w15 0 0 (fun v21 w20 => ∃ a22 : Nat, v21 = some a22 ∧ ((Is G w20 a22 (kO 12)) ∧ ∃ a25 : Nat, (wR w15 x0 0) = some a25 ∧ ((Is G w20 a25 (kO 14)) ∧ DP G M_Al_get [vA a25, vI (wI w20 a22 0)] w20 0 0 (fun v29 w28 => ∃ a30 : Nat, v29 = some a30 ∧ ((Is G w28 a30 (kO 13)) ∧ DI G M_It_taint [vA a30] w28 0 0 (fun v34 w33 => DI G M_Ma_abs [vI v34] w33 0 0 (fun v36 w35 => (inL ((x4 * (v8 - v16)) * v36)) ∧ (0 ≤ ((x4 * (v8 - v16)) * v36)) ∧ (inR (((x4 * (v8 - v16)) * v36) / 10000000000)) ∧ K (((x4 * (v8 - v16)) * v36) / 10000000000) w35)))))))))))))) : DI G M_Bo_rise [vA x0, vA x1, vI x2, vI x3, vI x4] w mc ms K := by
  refine DC.of ok_M_Bo_rise (ls := [(0, vA x0), (1, vA x1), (2, vI x2), (3, vI x3), (4, vI x4)]) rfl (Nat.le_of_ble_eq_true rfl) ?_
  refine x_iload_n d_Bo_rise_0 rfl (?_ : WD _ _ 1 _ _ _ _ _ _)
  refine x_iload_n d_Bo_rise_1 rfl (?_ : WD _ _ 2 _ _ _ _ _ _)
  refine x_aload_nP (some x0) d_Bo_rise_2 rfl (?_ : WD _ _ 3 _ _ _ _ _ _)
  obtain ⟨k1, h⟩ := h
  refine x_getP (ref := "CoinSamplerLaw$Books") (j := 2) 2 k1 clk_11 (by decide) (qm_2 (i := 159) rfl rfl) (Or.inl rfl) rfl rfl d_Bo_rise_3 (y := (wR w x0 2)) rfl (?_ : WD _ _ 6 _ _ _ _ _ _)
  refine x_iconst d_Bo_rise_6 (by decide) (?_ : WD _ _ 7 _ _ _ _ _ _)
  obtain ⟨a2, e3, h⟩ := h
  rw [e3]
  obtain ⟨n4, h⟩ := h
  obtain ⟨k5, h⟩ := h
  obtain ⟨h6, h⟩ := h
  refine x_iald k5 d_Bo_rise_7 (by decide) h6 (y := (wI w a2 1)) rfl (?_ : WD _ _ 8 _ _ _ _ _ _)
  refine x_callS (ν := M_Bo_upper) [vI x3, vI x2, vI (wI w a2 1)] ok_M_Bo_upper oks_M_Bo_upper (qm_5 (i := 198) rfl rfl) np_M_Bo_upper rfl ⟨Nat.le_of_ble_eq_true rfl, Nat.le_of_ble_eq_true rfl⟩ (Nat.le_of_ble_eq_true rfl) rfl d_Bo_rise_8 (Nat.zero_le _) (Nat.zero_le _) (DI.k h (fun v8 w7 gw7 h => (?_ : WD _ _ 11 _ _ _ _ _ _)))
  refine x_iload_n d_Bo_rise_11 rfl (?_ : WD _ _ 12 _ _ _ _ _ _)
  refine x_iload_n d_Bo_rise_12 rfl (?_ : WD _ _ 13 _ _ _ _ _ _)
  refine x_iconst d_Bo_rise_13 (by decide) (?_ : WD _ _ 14 _ _ _ _ _ _)
  obtain ⟨h9, h⟩ := h
  refine x_isub d_Bo_rise_14 h9 (?_ : WD _ _ 15 _ _ _ _ _ _)
  refine x_aload_nP (some x0) d_Bo_rise_15 rfl (?_ : WD _ _ 16 _ _ _ _ _ _)
  refine x_getP (ref := "CoinSamplerLaw$Books") (j := 2) 2 (k1.q gw7.k) clk_11 (by decide) (qm_2 (i := 159) rfl rfl) (Or.inl rfl) rfl rfl d_Bo_rise_16 (y := (wR w7 x0 2)) rfl (?_ : WD _ _ 19 _ _ _ _ _ _)
  refine x_iconst d_Bo_rise_19 (by decide) (?_ : WD _ _ 20 _ _ _ _ _ _)
  obtain ⟨a10, e11, h⟩ := h
  rw [e11]
  obtain ⟨n12, h⟩ := h
  obtain ⟨k13, h⟩ := h
  obtain ⟨h14, h⟩ := h
  refine x_iald k13 d_Bo_rise_20 (by decide) h14 (y := (wI w7 a10 1)) rfl (?_ : WD _ _ 21 _ _ _ _ _ _)
  refine x_callS (ν := M_Bo_upper) [vI x3, vI (x2 - 1), vI (wI w7 a10 1)] ok_M_Bo_upper oks_M_Bo_upper (qm_5 (i := 198) rfl rfl) np_M_Bo_upper rfl ⟨Nat.le_of_ble_eq_true rfl, Nat.le_of_ble_eq_true rfl⟩ (Nat.le_of_ble_eq_true rfl) rfl d_Bo_rise_21 (Nat.zero_le _) (Nat.zero_le _) (DI.k h (fun v16 w15 gw15 h => (?_ : WD _ _ 24 _ _ _ _ _ _)))
  obtain ⟨h17, h⟩ := h
  refine x_isub d_Bo_rise_24 h17 (?_ : WD _ _ 25 _ _ _ _ _ _)
  refine x_i2l d_Bo_rise_25 (?_ : WD _ _ 26 _ _ _ _ _ _)
  refine x_lstore (ls' := [(5, vL (v8 - v16)), (0, vA x0), (1, vA x1), (2, vI x2), (3, vI x3), (4, vI x4)]) d_Bo_rise_26 (by decide) rfl (?_ : WD _ _ 28 _ _ _ _ _ _)
  refine x_iload d_Bo_rise_28 rfl (?_ : WD _ _ 30 _ _ _ _ _ _)
  refine x_i2l d_Bo_rise_30 (?_ : WD _ _ 31 _ _ _ _ _ _)
  refine x_lload d_Bo_rise_31 rfl (?_ : WD _ _ 33 _ _ _ _ _ _)
  obtain ⟨h18, h⟩ := h
  refine x_lmul d_Bo_rise_33 h18 (?_ : WD _ _ 34 _ _ _ _ _ _)
  refine x_aload_nP (some x0) d_Bo_rise_34 rfl (?_ : WD _ _ 35 _ _ _ _ _ _)
  refine x_getP (ref := "CoinSamplerLaw$Books") (j := 0) 0 ((k1.q gw7.k).q gw15.k) clk_11 (by decide) (qm_2 (i := 155) rfl rfl) (Or.inl rfl) rfl rfl d_Bo_rise_35 (y := (wR w15 x0 0)) rfl (?_ : WD _ _ 38 _ _ _ _ _ _)
  refine x_aload_nP (some x1) d_Bo_rise_38 rfl (?_ : WD _ _ 39 _ _ _ _ _ _)
  refine x_iload_n d_Bo_rise_39 rfl (?_ : WD _ _ 40 _ _ _ _ _ _)
  refine x_iconst d_Bo_rise_40 (by decide) (?_ : WD _ _ 41 _ _ _ _ _ _)
  refine x_isub d_Bo_rise_41 h9 (?_ : WD _ _ 42 _ _ _ _ _ _)
  obtain ⟨k19, h⟩ := h
  refine x_callV (ν := M_Al_get) [vI (x2 - 1)] ok_M_Al_get okv_M_Al_get k19 rfl rfl (qm_3 (i := 58) rfl rfl) np_M_Al_get rfl ⟨Nat.le_of_ble_eq_true rfl, Nat.le_of_ble_eq_true rfl⟩ (Nat.le_of_ble_eq_true rfl) rfl d_Bo_rise_42 (Nat.zero_le _) (Nat.zero_le _) (DP.k h (fun v21 w20 gw20 h => (?_ : WD _ _ 45 _ _ _ _ _ _)))
  obtain ⟨a22, e23, h⟩ := h
  rw [e23]
  obtain ⟨k24, h⟩ := h
  refine x_cast k24 rfl (Or.inl rfl) (qm_3 (i := 77) rfl rfl) d_Bo_rise_45 (?_ : WD _ _ 48 _ _ _ _ _ _)
  refine x_getI (ref := "CoinSamplerLaw$Hit") (j := 0) 0 k24 clk_12 (by decide) (qm_3 (i := 84) rfl rfl) (Or.inl rfl) rfl rfl d_Bo_rise_48 (y := (wI w20 a22 0)) rfl (?_ : WD _ _ 51 _ _ _ _ _ _)
  obtain ⟨a25, e26, h⟩ := h
  rw [e26]
  obtain ⟨k27, h⟩ := h
  refine x_callV (ν := M_Al_get) [vI (wI w20 a22 0)] ok_M_Al_get okv_M_Al_get k27 rfl rfl (qm_3 (i := 58) rfl rfl) np_M_Al_get rfl ⟨Nat.le_of_ble_eq_true rfl, Nat.le_of_ble_eq_true rfl⟩ (Nat.le_of_ble_eq_true rfl) rfl d_Bo_rise_51 (Nat.zero_le _) (Nat.zero_le _) (DP.k h (fun v29 w28 gw28 h => (?_ : WD _ _ 54 _ _ _ _ _ _)))
  obtain ⟨a30, e31, h⟩ := h
  rw [e31]
  obtain ⟨k32, h⟩ := h
  refine x_cast k32 rfl (Or.inl rfl) (qm_3 (i := 45) rfl rfl) d_Bo_rise_54 (?_ : WD _ _ 57 _ _ _ _ _ _)
  refine x_callV (ν := M_It_taint) [] ok_M_It_taint okv_M_It_taint k32 rfl rfl (qm_9 (i := 30) rfl rfl) np_M_It_taint rfl ⟨Nat.le_of_ble_eq_true rfl, Nat.le_of_ble_eq_true rfl⟩ (Nat.le_of_ble_eq_true rfl) rfl d_Bo_rise_57 (Nat.zero_le _) (Nat.zero_le _) (DI.k h (fun v34 w33 gw33 h => (?_ : WD _ _ 60 _ _ _ _ _ _)))
  refine x_callS (ν := M_Ma_abs) [vI v34] ok_M_Ma_abs oks_M_Ma_abs (qm_10 (i := 143) rfl rfl) np_M_Ma_abs rfl ⟨Nat.le_of_ble_eq_true rfl, Nat.le_of_ble_eq_true rfl⟩ (Nat.le_of_ble_eq_true rfl) rfl d_Bo_rise_60 (Nat.zero_le _) (Nat.zero_le _) (DI.k h (fun v36 w35 gw35 h => (?_ : WD _ _ 63 _ _ _ _ _ _)))
  refine x_i2l d_Bo_rise_63 (?_ : WD _ _ 64 _ _ _ _ _ _)
  obtain ⟨h37, h⟩ := h
  refine x_lmul d_Bo_rise_64 h37 (?_ : WD _ _ 65 _ _ _ _ _ _)
  refine x_ldc2 10000000000 d_Bo_rise_65 (qm_10 (i := 144) rfl rfl) (by decide) (by decide) (?_ : WD _ _ 68 _ _ _ _ _ _)
  obtain ⟨h38, h⟩ := h
  refine x_ldivn d_Bo_rise_68 h38 (by decide) (?_ : WD _ _ 69 _ _ _ _ _ _)
  obtain ⟨h39, h⟩ := h
  refine x_l2i d_Bo_rise_69 h39 (?_ : WD _ _ 70 _ _ _ _ _ _)
  exact x_ireturn rfl d_Bo_rise_70 h
set_option maxRecDepth 20000 in
theorem e_Hi_init {G : Gq} {K : Wd → Prop} {w : Wd} {mc ms : Nat} (x0 : Nat) (x1 : Int) (x2 : Int) (x3 : Int) (h : (Ow w x0 (kO 12)) ∧ K (uI (uI (uI w x0 0 x1) x0 1 x2) x0 2 x3)) : DV G M_Hi_init [vA x0, vI x1, vI x2, vI x3] w mc ms K := by
  refine DC.of ok_M_Hi_init (ls := [(0, vA x0), (1, vI x1), (2, vI x2), (3, vI x3)]) rfl (Nat.le_of_ble_eq_true rfl) ?_
  refine x_aload_nP (some x0) d_Hi_init_0 rfl (?_ : WD _ _ 1 _ _ _ _ _ _)
  refine x_obj d_Hi_init_1 (qm_3 (i := 82) rfl rfl) (qm_1 (i := 58) rfl rfl) (qm_1 (i := 59) rfl rfl) ⟨Nat.le_of_ble_eq_true rfl, Nat.le_of_ble_eq_true rfl⟩ (?_ : WD _ _ 4 _ _ _ _ _ _)
  refine x_aload_nP (some x0) d_Hi_init_4 rfl (?_ : WD _ _ 5 _ _ _ _ _ _)
  refine x_iload_n d_Hi_init_5 rfl (?_ : WD _ _ 6 _ _ _ _ _ _)
  obtain ⟨k1, h⟩ := h
  refine x_putI (ref := "CoinSamplerLaw$Hit") (j := 0) 0 k1 clk_12 (by decide) (qm_3 (i := 83) rfl rfl) (Or.inl rfl) (Or.inr ⟨rfl, rfl, rfl⟩) tyX12_ok rfl nmX12 d_Hi_init_6 rfl rfl (fun _ => rfl) rfl (?_ : WD _ _ 9 _ _ _ _ _ _)
  refine x_aload_nP (some x0) d_Hi_init_9 rfl (?_ : WD _ _ 10 _ _ _ _ _ _)
  refine x_iload_n d_Hi_init_10 rfl (?_ : WD _ _ 11 _ _ _ _ _ _)
  refine x_putI (ref := "CoinSamplerLaw$Hit") (j := 1) 1 k1 clk_12 (by decide) (qm_3 (i := 86) rfl rfl) (Or.inl rfl) (Or.inr ⟨rfl, rfl, rfl⟩) tyX12_ok rfl nmX12 d_Hi_init_11 rfl rfl (fun _ => rfl) rfl (?_ : WD _ _ 14 _ _ _ _ _ _)
  refine x_aload_nP (some x0) d_Hi_init_14 rfl (?_ : WD _ _ 15 _ _ _ _ _ _)
  refine x_iload_n d_Hi_init_15 rfl (?_ : WD _ _ 16 _ _ _ _ _ _)
  refine x_putI (ref := "CoinSamplerLaw$Hit") (j := 2) 2 k1 clk_12 (by decide) (qm_3 (i := 88) rfl rfl) (Or.inl rfl) (Or.inr ⟨rfl, rfl, rfl⟩) tyX12_ok rfl nmX12 d_Hi_init_16 rfl rfl (fun _ => rfl) rfl (?_ : WD _ _ 19 _ _ _ _ _ _)
  exact x_return rfl d_Hi_init_19 h
set_option maxRecDepth 20000 in
theorem e_Bo_upper {G : Gq} {K : Int → Wd → Prop} {w : Wd} {mc ms : Nat} (x0 : Int) (x1 : Int) (x2 : Int) (h : (x1 < x0 → WD G M_Bo_upper 14 [(0, vI x0), (1, vI x1), (2, vI x2), (3, vI 0), (4, vI 1000000)] [] w mc ms (yI K)) ∧ (¬ x1 < x0 → K 1000000 w)) : DI G M_Bo_upper [vI x0, vI x1, vI x2] w mc ms K := by
  refine DC.of ok_M_Bo_upper (ls := [(0, vI x0), (1, vI x1), (2, vI x2)]) rfl (Nat.le_of_ble_eq_true rfl) ?_
  refine x_iload_n d_Bo_upper_0 rfl (?_ : WD _ _ 1 _ _ _ _ _ _)
  refine x_iload_n d_Bo_upper_1 rfl (?_ : WD _ _ 2 _ _ _ _ _ _)
  refine x_icmp_lt 8 d_Bo_upper_2 rfl ⟨fun c1 => (?_ : WD _ _ 8 _ _ _ _ _ _), fun c1 => (?_ : WD _ _ 5 _ _ _ _ _ _)⟩
  · replace h := h.1 c1
    refine x_iconst d_Bo_upper_8 (by decide) (?_ : WD _ _ 9 _ _ _ _ _ _)
    refine x_istore_n (ls' := [(3, vI 0), (0, vI x0), (1, vI x1), (2, vI x2)]) d_Bo_upper_9 rfl (by decide) rfl (?_ : WD _ _ 10 _ _ _ _ _ _)
    refine x_ldc 1000000 d_Bo_upper_10 (qm_5 (i := 201) rfl rfl) (by decide) (by decide) (?_ : WD _ _ 12 _ _ _ _ _ _)
    refine x_istore (ls' := [(4, vI 1000000), (3, vI 0), (0, vI x0), (1, vI x1), (2, vI x2)]) d_Bo_upper_12 (by decide) rfl (?_ : WD _ _ 14 _ _ _ _ _ _)
    refine x_pick (ls' := [(0, vI x0), (1, vI x1), (2, vI x2), (3, vI 0), (4, vI 1000000)]) [2, 3, 4, 1, 0] rfl ?_
    exact h
  · replace h := h.2 c1
    refine x_ldc 1000000 d_Bo_upper_5 (qm_5 (i := 201) rfl rfl) (by decide) (by decide) (?_ : WD _ _ 7 _ _ _ _ _ _)
    exact x_ireturn rfl d_Bo_upper_7 h
set_option maxRecDepth 20000 in
theorem l_Bo_upper_1 {G : Gq} {K : Int → Wd → Prop} {w : Wd} {rc rs : Nat} (x0 : Int) (x1 : Int) (x2 : Int) (x3 : Int) (x4 : Int) (h : (inR (x4 - x3)) ∧ ((x4 - x3) ≤ 1 → K x4 w) ∧ (¬ (x4 - x3) ≤ 1 → (inR (x3 + x4)) ∧ (0 ≤ (x3 + x4)) ∧ (vf_n64 (FP.ddiv (FP.i2d (Int32.ofInt ((x3 + x4) / 2))) 4696837146684686336)) ∧ (vf_n64 (FP.dsub FP.dconst1 (FP.ddiv (FP.i2d (Int32.ofInt ((x3 + x4) / 2))) 4696837146684686336))) ∧ WD G M_Bo_upper 51 [(0, vI x0), (1, vI x1), (2, vI x2), (3, vI x3), (4, vI x4), (5, vI ((x3 + x4) / 2)), (6, vD (FP.ddiv (FP.i2d (Int32.ofInt ((x3 + x4) / 2))) 4696837146684686336)), (8, vD (FP.dsub FP.dconst1 (FP.ddiv (FP.i2d (Int32.ofInt ((x3 + x4) / 2))) 4696837146684686336))), (10, vD FP.dconst1), (12, vI x0)] [] w rc rs (yI K))) : WD G M_Bo_upper 14 [(0, vI x0), (1, vI x1), (2, vI x2), (3, vI x3), (4, vI x4)] [] w rc rs (yI K) := by
  refine x_iload d_Bo_upper_14 rfl (?_ : WD _ _ 16 _ _ _ _ _ _)
  refine x_iload_n d_Bo_upper_16 rfl (?_ : WD _ _ 17 _ _ _ _ _ _)
  obtain ⟨h2, h⟩ := h
  refine x_isub d_Bo_upper_17 h2 (?_ : WD _ _ 18 _ _ _ _ _ _)
  refine x_iconst d_Bo_upper_18 (by decide) (?_ : WD _ _ 19 _ _ _ _ _ _)
  refine x_icmp_le 142 d_Bo_upper_19 rfl ⟨fun c3 => (?_ : WD _ _ 142 _ _ _ _ _ _), fun c3 => (?_ : WD _ _ 22 _ _ _ _ _ _)⟩
  · replace h := h.1 c3
    refine x_iload d_Bo_upper_142 rfl (?_ : WD _ _ 144 _ _ _ _ _ _)
    exact x_ireturn rfl d_Bo_upper_144 h
  · replace h := h.2 c3
    refine x_iload_n d_Bo_upper_22 rfl (?_ : WD _ _ 23 _ _ _ _ _ _)
    refine x_iload d_Bo_upper_23 rfl (?_ : WD _ _ 25 _ _ _ _ _ _)
    obtain ⟨h4, h⟩ := h
    refine x_iadd d_Bo_upper_25 h4 (?_ : WD _ _ 26 _ _ _ _ _ _)
    refine x_iconst d_Bo_upper_26 (by decide) (?_ : WD _ _ 27 _ _ _ _ _ _)
    obtain ⟨h5, h⟩ := h
    refine x_idivn d_Bo_upper_27 h5 (by decide) (?_ : WD _ _ 28 _ _ _ _ _ _)
    refine x_istore (ls' := [(5, vI ((x3 + x4) / 2)), (0, vI x0), (1, vI x1), (2, vI x2), (3, vI x3), (4, vI x4)]) d_Bo_upper_28 (by decide) rfl (?_ : WD _ _ 30 _ _ _ _ _ _)
    refine x_iload d_Bo_upper_30 rfl (?_ : WD _ _ 32 _ _ _ _ _ _)
    refine x_i2d d_Bo_upper_32 (?_ : WD _ _ 33 _ _ _ _ _ _)
    refine x_ldc2d d_Bo_upper_33 (qm_5 (i := 202) rfl rfl) (?_ : WD _ _ 36 _ _ _ _ _ _)
    obtain ⟨h6, h⟩ := h
    refine x_ddiv d_Bo_upper_36 h6 (?_ : WD _ _ 37 _ _ _ _ _ _)
    refine x_dstore (ls' := [(6, vD (FP.ddiv (FP.i2d (Int32.ofInt ((x3 + x4) / 2))) 4696837146684686336)), (5, vI ((x3 + x4) / 2)), (0, vI x0), (1, vI x1), (2, vI x2), (3, vI x3), (4, vI x4)]) d_Bo_upper_37 (by decide) rfl (?_ : WD _ _ 39 _ _ _ _ _ _)
    refine x_dconst1 d_Bo_upper_39 (?_ : WD _ _ 40 _ _ _ _ _ _)
    refine x_dload d_Bo_upper_40 rfl (?_ : WD _ _ 42 _ _ _ _ _ _)
    obtain ⟨h7, h⟩ := h
    refine x_dsub d_Bo_upper_42 h7 (?_ : WD _ _ 43 _ _ _ _ _ _)
    refine x_dstore (ls' := [(8, vD (FP.dsub FP.dconst1 (FP.ddiv (FP.i2d (Int32.ofInt ((x3 + x4) / 2))) 4696837146684686336))), (6, vD (FP.ddiv (FP.i2d (Int32.ofInt ((x3 + x4) / 2))) 4696837146684686336)), (5, vI ((x3 + x4) / 2)), (0, vI x0), (1, vI x1), (2, vI x2), (3, vI x3), (4, vI x4)]) d_Bo_upper_43 (by decide) rfl (?_ : WD _ _ 45 _ _ _ _ _ _)
    refine x_dconst1 d_Bo_upper_45 (?_ : WD _ _ 46 _ _ _ _ _ _)
    refine x_dstore (ls' := [(10, vD FP.dconst1), (8, vD (FP.dsub FP.dconst1 (FP.ddiv (FP.i2d (Int32.ofInt ((x3 + x4) / 2))) 4696837146684686336))), (6, vD (FP.ddiv (FP.i2d (Int32.ofInt ((x3 + x4) / 2))) 4696837146684686336)), (5, vI ((x3 + x4) / 2)), (0, vI x0), (1, vI x1), (2, vI x2), (3, vI x3), (4, vI x4)]) d_Bo_upper_46 (by decide) rfl (?_ : WD _ _ 48 _ _ _ _ _ _)
    refine x_iload_n d_Bo_upper_48 rfl (?_ : WD _ _ 49 _ _ _ _ _ _)
    refine x_istore (ls' := [(12, vI x0), (10, vD FP.dconst1), (8, vD (FP.dsub FP.dconst1 (FP.ddiv (FP.i2d (Int32.ofInt ((x3 + x4) / 2))) 4696837146684686336))), (6, vD (FP.ddiv (FP.i2d (Int32.ofInt ((x3 + x4) / 2))) 4696837146684686336)), (5, vI ((x3 + x4) / 2)), (0, vI x0), (1, vI x1), (2, vI x2), (3, vI x3), (4, vI x4)]) d_Bo_upper_49 (by decide) rfl (?_ : WD _ _ 51 _ _ _ _ _ _)
    refine x_pick (ls' := [(0, vI x0), (1, vI x1), (2, vI x2), (3, vI x3), (4, vI x4), (5, vI ((x3 + x4) / 2)), (6, vD (FP.ddiv (FP.i2d (Int32.ofInt ((x3 + x4) / 2))) 4696837146684686336)), (8, vD (FP.dsub FP.dconst1 (FP.ddiv (FP.i2d (Int32.ofInt ((x3 + x4) / 2))) 4696837146684686336))), (10, vD FP.dconst1), (12, vI x0)]) [5, 6, 7, 8, 9, 4, 3, 2, 1, 0] rfl ?_
    exact h
set_option maxRecDepth 20000 in
theorem l_Bo_upper_2 {G : Gq} {K : Int → Wd → Prop} {w : Wd} {rc rs : Nat} (x0 : Int) (x1 : Int) (x2 : Int) (x3 : Int) (x4 : Int) (x5 : Int) (x6 : UInt64) (x8 : UInt64) (x10 : UInt64) (x12 : Int) (h : (x12 ≤ 0 → WD G M_Bo_upper 76 [(0, vI x0), (1, vI x1), (2, vI x2), (3, vI x3), (4, vI x4), (5, vI x5), (6, vD x6), (8, vD x8), (10, vD x10), (12, vD x10), (14, vI 1)] [] w rc rs (yI K)) ∧ (¬ x12 ≤ 0 → (vf_n64 (FP.dmul x10 x8)) ∧ (inR (x12 + (-1))) ∧ WD G M_Bo_upper 51 [(0, vI x0), (1, vI x1), (2, vI x2), (3, vI x3), (4, vI x4), (5, vI x5), (6, vD x6), (8, vD x8), (10, vD (FP.dmul x10 x8)), (12, vI (x12 + (-1)))] [] w rc rs (yI K))) : WD G M_Bo_upper 51 [(0, vI x0), (1, vI x1), (2, vI x2), (3, vI x3), (4, vI x4), (5, vI x5), (6, vD x6), (8, vD x8), (10, vD x10), (12, vI x12)] [] w rc rs (yI K) := by
  refine x_iload d_Bo_upper_51 rfl (?_ : WD _ _ 53 _ _ _ _ _ _)
  refine x_if_le 69 d_Bo_upper_53 rfl ⟨fun c8 => (?_ : WD _ _ 69 _ _ _ _ _ _), fun c8 => (?_ : WD _ _ 56 _ _ _ _ _ _)⟩
  · replace h := h.1 c8
    refine x_dload d_Bo_upper_69 rfl (?_ : WD _ _ 71 _ _ _ _ _ _)
    refine x_dstore (ls' := [(12, vD x10), (0, vI x0), (1, vI x1), (2, vI x2), (3, vI x3), (4, vI x4), (5, vI x5), (6, vD x6), (8, vD x8), (10, vD x10)]) d_Bo_upper_71 (by decide) rfl (?_ : WD _ _ 73 _ _ _ _ _ _)
    refine x_iconst d_Bo_upper_73 (by decide) (?_ : WD _ _ 74 _ _ _ _ _ _)
    refine x_istore (ls' := [(14, vI 1), (12, vD x10), (0, vI x0), (1, vI x1), (2, vI x2), (3, vI x3), (4, vI x4), (5, vI x5), (6, vD x6), (8, vD x8), (10, vD x10)]) d_Bo_upper_74 (by decide) rfl (?_ : WD _ _ 76 _ _ _ _ _ _)
    refine x_pick (ls' := [(0, vI x0), (1, vI x1), (2, vI x2), (3, vI x3), (4, vI x4), (5, vI x5), (6, vD x6), (8, vD x8), (10, vD x10), (12, vD x10), (14, vI 1)]) [2, 3, 4, 5, 6, 7, 8, 9, 10, 1, 0] rfl ?_
    exact h
  · replace h := h.2 c8
    refine x_dload d_Bo_upper_56 rfl (?_ : WD _ _ 58 _ _ _ _ _ _)
    refine x_dload d_Bo_upper_58 rfl (?_ : WD _ _ 60 _ _ _ _ _ _)
    obtain ⟨h9, h⟩ := h
    refine x_dmul d_Bo_upper_60 h9 (?_ : WD _ _ 61 _ _ _ _ _ _)
    refine x_dstore (ls' := [(10, vD (FP.dmul x10 x8)), (0, vI x0), (1, vI x1), (2, vI x2), (3, vI x3), (4, vI x4), (5, vI x5), (6, vD x6), (8, vD x8), (12, vI x12)]) d_Bo_upper_61 (by decide) rfl (?_ : WD _ _ 63 _ _ _ _ _ _)
    obtain ⟨h10, h⟩ := h
    refine x_iinc (ls' := [(12, vI (x12 + (-1))), (10, vD (FP.dmul x10 x8)), (0, vI x0), (1, vI x1), (2, vI x2), (3, vI x3), (4, vI x4), (5, vI x5), (6, vD x6), (8, vD x8)]) d_Bo_upper_63 rfl h10 (by decide) rfl (?_ : WD _ _ 66 _ _ _ _ _ _)
    refine x_goto 51 d_Bo_upper_66 rfl ?_
    refine x_pick (ls' := [(0, vI x0), (1, vI x1), (2, vI x2), (3, vI x3), (4, vI x4), (5, vI x5), (6, vD x6), (8, vD x8), (10, vD (FP.dmul x10 x8)), (12, vI (x12 + (-1)))]) [2, 3, 4, 5, 6, 7, 8, 9, 1, 0] rfl ?_
    exact h
set_option maxRecDepth 20000 in
theorem l_Bo_upper_3 {G : Gq} {K : Int → Wd → Prop} {w : Wd} {rc rs : Nat} (x0 : Int) (x1 : Int) (x2 : Int) (x3 : Int) (x4 : Int) (x5 : Int) (x6 : UInt64) (x8 : UInt64) (x10 : UInt64) (x12 : UInt64) (x14 : Int) (h : (x1 < x14 → (vf_n64 (FP.ddiv (FP.i2d (Int32.ofInt x2)) 4652007308841189376)) ∧ (0 < (dcq .g x12 (FP.ddiv (FP.i2d (Int32.ofInt x2)) 4652007308841189376)) → WD G M_Bo_upper 14 [(0, vI x0), (1, vI x1), (2, vI x2), (3, vI x5), (4, vI x4)] [] w rc rs (yI K)) ∧ (¬ 0 < (dcq .g x12 (FP.ddiv (FP.i2d (Int32.ofInt x2)) 4652007308841189376)) → WD G M_Bo_upper 14 [(0, vI x0), (1, vI x1), (2, vI x2), (3, vI x3), (4, vI x5)] [] w rc rs (yI K))) ∧ (¬ x1 < x14 → (inR (x0 - x14)) ∧ (inR ((x0 - x14) + 1)) ∧ (vf_n64 (FP.dmul x10 (FP.i2d (Int32.ofInt ((x0 - x14) + 1))))) ∧ (vf_n64 (FP.ddiv (FP.dmul x10 (FP.i2d (Int32.ofInt ((x0 - x14) + 1)))) (FP.i2d (Int32.ofInt x14)))) ∧ (vf_n64 (FP.dmul (FP.ddiv (FP.dmul x10 (FP.i2d (Int32.ofInt ((x0 - x14) + 1)))) (FP.i2d (Int32.ofInt x14))) x6)) ∧ (vf_n64 (FP.ddiv (FP.dmul (FP.ddiv (FP.dmul x10 (FP.i2d (Int32.ofInt ((x0 - x14) + 1)))) (FP.i2d (Int32.ofInt x14))) x6) x8)) ∧ (vf_n64 (FP.dadd x12 (FP.ddiv (FP.dmul (FP.ddiv (FP.dmul x10 (FP.i2d (Int32.ofInt ((x0 - x14) + 1)))) (FP.i2d (Int32.ofInt x14))) x6) x8))) ∧ (inR (x14 + 1)) ∧ WD G M_Bo_upper 76 [(0, vI x0), (1, vI x1), (2, vI x2), (3, vI x3), (4, vI x4), (5, vI x5), (6, vD x6), (8, vD x8), (10, vD (FP.ddiv (FP.dmul (FP.ddiv (FP.dmul x10 (FP.i2d (Int32.ofInt ((x0 - x14) + 1)))) (FP.i2d (Int32.ofInt x14))) x6) x8)), (12, vD (FP.dadd x12 (FP.ddiv (FP.dmul (FP.ddiv (FP.dmul x10 (FP.i2d (Int32.ofInt ((x0 - x14) + 1)))) (FP.i2d (Int32.ofInt x14))) x6) x8))), (14, vI (x14 + 1))] [] w rc rs (yI K))) : WD G M_Bo_upper 76 [(0, vI x0), (1, vI x1), (2, vI x2), (3, vI x3), (4, vI x4), (5, vI x5), (6, vD x6), (8, vD x8), (10, vD x10), (12, vD x12), (14, vI x14)] [] w rc rs (yI K) := by
  refine x_iload d_Bo_upper_76 rfl (?_ : WD _ _ 78 _ _ _ _ _ _)
  refine x_iload_n d_Bo_upper_78 rfl (?_ : WD _ _ 79 _ _ _ _ _ _)
  refine x_icmp_gt 117 d_Bo_upper_79 rfl ⟨fun c11 => (?_ : WD _ _ 117 _ _ _ _ _ _), fun c11 => (?_ : WD _ _ 82 _ _ _ _ _ _)⟩
  · replace h := h.1 c11
    refine x_dload d_Bo_upper_117 rfl (?_ : WD _ _ 119 _ _ _ _ _ _)
    refine x_iload_n d_Bo_upper_119 rfl (?_ : WD _ _ 120 _ _ _ _ _ _)
    refine x_i2d d_Bo_upper_120 (?_ : WD _ _ 121 _ _ _ _ _ _)
    refine x_ldc2d d_Bo_upper_121 (qm_5 (i := 203) rfl rfl) (?_ : WD _ _ 124 _ _ _ _ _ _)
    obtain ⟨h12, h⟩ := h
    refine x_ddiv d_Bo_upper_124 h12 (?_ : WD _ _ 125 _ _ _ _ _ _)
    refine x_dcmp d_Bo_upper_125 (?_ : WD _ _ 126 _ _ _ _ _ _)
    refine x_if_gt 136 d_Bo_upper_126 rfl ⟨fun c13 => (?_ : WD _ _ 136 _ _ _ _ _ _), fun c13 => (?_ : WD _ _ 129 _ _ _ _ _ _)⟩
    · replace h := h.1 c13
      refine x_iload d_Bo_upper_136 rfl (?_ : WD _ _ 138 _ _ _ _ _ _)
      refine x_istore_n (ls' := [(3, vI x5), (0, vI x0), (1, vI x1), (2, vI x2), (4, vI x4), (5, vI x5), (6, vD x6), (8, vD x8), (10, vD x10), (12, vD x12), (14, vI x14)]) d_Bo_upper_138 rfl (by decide) rfl (?_ : WD _ _ 139 _ _ _ _ _ _)
      refine x_goto 14 d_Bo_upper_139 rfl ?_
      refine x_pick (ls' := [(0, vI x0), (1, vI x1), (2, vI x2), (3, vI x5), (4, vI x4)]) [1, 2, 3, 0, 4] rfl ?_
      exact h
    · replace h := h.2 c13
      refine x_iload d_Bo_upper_129 rfl (?_ : WD _ _ 131 _ _ _ _ _ _)
      refine x_istore (ls' := [(4, vI x5), (0, vI x0), (1, vI x1), (2, vI x2), (3, vI x3), (5, vI x5), (6, vD x6), (8, vD x8), (10, vD x10), (12, vD x12), (14, vI x14)]) d_Bo_upper_131 (by decide) rfl (?_ : WD _ _ 133 _ _ _ _ _ _)
      refine x_goto 139 d_Bo_upper_133 rfl ?_
      refine x_goto 14 d_Bo_upper_139 rfl ?_
      refine x_pick (ls' := [(0, vI x0), (1, vI x1), (2, vI x2), (3, vI x3), (4, vI x5)]) [1, 2, 3, 4, 0] rfl ?_
      exact h
  · replace h := h.2 c11
    refine x_dload d_Bo_upper_82 rfl (?_ : WD _ _ 84 _ _ _ _ _ _)
    refine x_iload_n d_Bo_upper_84 rfl (?_ : WD _ _ 85 _ _ _ _ _ _)
    refine x_iload d_Bo_upper_85 rfl (?_ : WD _ _ 87 _ _ _ _ _ _)
    obtain ⟨h14, h⟩ := h
    refine x_isub d_Bo_upper_87 h14 (?_ : WD _ _ 88 _ _ _ _ _ _)
    refine x_iconst d_Bo_upper_88 (by decide) (?_ : WD _ _ 89 _ _ _ _ _ _)
    obtain ⟨h15, h⟩ := h
    refine x_iadd d_Bo_upper_89 h15 (?_ : WD _ _ 90 _ _ _ _ _ _)
    refine x_i2d d_Bo_upper_90 (?_ : WD _ _ 91 _ _ _ _ _ _)
    obtain ⟨h16, h⟩ := h
    refine x_dmul d_Bo_upper_91 h16 (?_ : WD _ _ 92 _ _ _ _ _ _)
    refine x_iload d_Bo_upper_92 rfl (?_ : WD _ _ 94 _ _ _ _ _ _)
    refine x_i2d d_Bo_upper_94 (?_ : WD _ _ 95 _ _ _ _ _ _)
    obtain ⟨h17, h⟩ := h
    refine x_ddiv d_Bo_upper_95 h17 (?_ : WD _ _ 96 _ _ _ _ _ _)
    refine x_dload d_Bo_upper_96 rfl (?_ : WD _ _ 98 _ _ _ _ _ _)
    obtain ⟨h18, h⟩ := h
    refine x_dmul d_Bo_upper_98 h18 (?_ : WD _ _ 99 _ _ _ _ _ _)
    refine x_dload d_Bo_upper_99 rfl (?_ : WD _ _ 101 _ _ _ _ _ _)
    obtain ⟨h19, h⟩ := h
    refine x_ddiv d_Bo_upper_101 h19 (?_ : WD _ _ 102 _ _ _ _ _ _)
    refine x_dstore (ls' := [(10, vD (FP.ddiv (FP.dmul (FP.ddiv (FP.dmul x10 (FP.i2d (Int32.ofInt ((x0 - x14) + 1)))) (FP.i2d (Int32.ofInt x14))) x6) x8)), (0, vI x0), (1, vI x1), (2, vI x2), (3, vI x3), (4, vI x4), (5, vI x5), (6, vD x6), (8, vD x8), (12, vD x12), (14, vI x14)]) d_Bo_upper_102 (by decide) rfl (?_ : WD _ _ 104 _ _ _ _ _ _)
    refine x_dload d_Bo_upper_104 rfl (?_ : WD _ _ 106 _ _ _ _ _ _)
    refine x_dload d_Bo_upper_106 rfl (?_ : WD _ _ 108 _ _ _ _ _ _)
    obtain ⟨h20, h⟩ := h
    refine x_dadd d_Bo_upper_108 h20 (?_ : WD _ _ 109 _ _ _ _ _ _)
    refine x_dstore (ls' := [(12, vD (FP.dadd x12 (FP.ddiv (FP.dmul (FP.ddiv (FP.dmul x10 (FP.i2d (Int32.ofInt ((x0 - x14) + 1)))) (FP.i2d (Int32.ofInt x14))) x6) x8))), (10, vD (FP.ddiv (FP.dmul (FP.ddiv (FP.dmul x10 (FP.i2d (Int32.ofInt ((x0 - x14) + 1)))) (FP.i2d (Int32.ofInt x14))) x6) x8)), (0, vI x0), (1, vI x1), (2, vI x2), (3, vI x3), (4, vI x4), (5, vI x5), (6, vD x6), (8, vD x8), (14, vI x14)]) d_Bo_upper_109 (by decide) rfl (?_ : WD _ _ 111 _ _ _ _ _ _)
    obtain ⟨h21, h⟩ := h
    refine x_iinc (ls' := [(14, vI (x14 + 1)), (12, vD (FP.dadd x12 (FP.ddiv (FP.dmul (FP.ddiv (FP.dmul x10 (FP.i2d (Int32.ofInt ((x0 - x14) + 1)))) (FP.i2d (Int32.ofInt x14))) x6) x8))), (10, vD (FP.ddiv (FP.dmul (FP.ddiv (FP.dmul x10 (FP.i2d (Int32.ofInt ((x0 - x14) + 1)))) (FP.i2d (Int32.ofInt x14))) x6) x8)), (0, vI x0), (1, vI x1), (2, vI x2), (3, vI x3), (4, vI x4), (5, vI x5), (6, vD x6), (8, vD x8)]) d_Bo_upper_111 rfl h21 (by decide) rfl (?_ : WD _ _ 114 _ _ _ _ _ _)
    refine x_goto 76 d_Bo_upper_114 rfl ?_
    refine x_pick (ls' := [(0, vI x0), (1, vI x1), (2, vI x2), (3, vI x3), (4, vI x4), (5, vI x5), (6, vD x6), (8, vD x8), (10, vD (FP.ddiv (FP.dmul (FP.ddiv (FP.dmul x10 (FP.i2d (Int32.ofInt ((x0 - x14) + 1)))) (FP.i2d (Int32.ofInt x14))) x6) x8)), (12, vD (FP.dadd x12 (FP.ddiv (FP.dmul (FP.ddiv (FP.dmul x10 (FP.i2d (Int32.ofInt ((x0 - x14) + 1)))) (FP.i2d (Int32.ofInt x14))) x6) x8))), (14, vI (x14 + 1))]) [3, 4, 5, 6, 7, 8, 9, 10, 2, 1, 0] rfl ?_
    exact h
