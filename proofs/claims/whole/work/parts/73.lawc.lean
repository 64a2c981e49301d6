-- the law: its cases, its loop
def lofs : Array Int := #[191, 254, 277, 300, 333, 376, 409, 442, 465, 488, 501, 514, 527, 560, 593, 626, 659, 682, 705, 728, 761, 784, 807, 840, 873, 896, 919, 952, 975, 998, 1011, 1044, 1057, 1070, 1103, 1116, 1139, 1172, 1185, 1208, 1231, 1254, 1297, 1330]
def tgtq (t : Nat) : Nat := (lofs.getD t 0 + 33).toNat
theorem d_law_33 : decode code 33 = .ok (.tableswitch 1353 0 43 lofs, 191) := by decide +kernel
theorem lofs_at : ∀ t, t < 44 → lofs[t]? = some ((tgtq t : Int) - 33) := by decide +kernel
section LC
variable {p : Program} {l : Launch} {e : Env} {s : State} {m : MethodId} {args : Array Value} {below : List Frame} {meth : Method} {c : Code} {G : Gq} {b L : Nat} {xs : Nat → Int32} {Z : State → Prop} {i : Nat} {σ : St}
theorem lc_feed (X : LX p s m args meth c G b L xs) (hi : i + 6 ≤ L) (hσ : WF σ) (hR : RL σ) (kk : ∀ σ2, WF σ2 → RL σ2 → LW p l e s m args below meth c G b Z i 1386 [] σ2) : LW p l e s m args below meth c G b Z i 224 [] σ := by
  obtain ⟨A, hC, hF, hM, hN, hA, hB⟩ := hR
  exact la_case (μ := M_Cs_feed) (ν := M_Mo_feed) (n := 5) (ix := 13) (iy := 17) (off := 1104) X ⟨by decide +kernel, by decide +kernel, by decide +kernel, by decide +kernel, by decide +kernel, by decide +kernel, by decide +kernel, by decide⟩ ⟨ok_M_Cs_feed, okv_M_Cs_feed, (qm_2 (i := 89) rfl rfl), np_M_Cs_feed, by decide⟩ ⟨ok_M_Mo_feed, okv_M_Mo_feed, (qm_5 (i := 145) rfl rfl), np_M_Mo_feed, by decide⟩ rfl rfl (by omega) hσ (rl_case hM hN (fun K k => c_feed hC hF hA k) (fun K σ1 a b k => p_feed a b hA k) (feed_ok hA) (feedB hB)) kk
theorem lc_text (X : LX p s m args meth c G b L xs) (hi : i + 6 ≤ L) (hσ : WF σ) (hR : RL σ) (kk : ∀ σ2, WF σ2 → RL σ2 → LW p l e s m args below meth c G b Z i 1386 [] σ2) : LW p l e s m args below meth c G b Z i 287 [] σ := by
  obtain ⟨A, hC, hF, hM, hN, hA, hB⟩ := hR
  exact la_case (μ := M_Cs_text) (ν := M_Mo_text) (n := 1) (ix := 18) (iy := 22) (off := 1081) X ⟨by decide +kernel, by decide +kernel, by decide +kernel, by decide +kernel, by decide +kernel, by decide +kernel, by decide +kernel, by decide⟩ ⟨ok_M_Cs_text, okv_M_Cs_text, (qm_2 (i := 97) rfl rfl), np_M_Cs_text, by decide⟩ ⟨ok_M_Mo_text, okv_M_Mo_text, (qm_5 (i := 149) rfl rfl), np_M_Mo_text, by decide⟩ rfl rfl (by omega) hσ (rl_case hM hN (fun K k => c_text hC hF hA k) (fun K σ1 a b k => p_text a b hA hB k) (text_ok hA) (textB hA hB)) kk
theorem lc_fault (X : LX p s m args meth c G b L xs) (hi : i + 6 ≤ L) (hσ : WF σ) (hR : RL σ) (kk : ∀ σ2, WF σ2 → RL σ2 → LW p l e s m args below meth c G b Z i 1386 [] σ2) : LW p l e s m args below meth c G b Z i 310 [] σ := by
  obtain ⟨A, hC, hF, hM, hN, hA, hB⟩ := hR
  exact la_case (μ := M_Cs_fault) (ν := M_Mo_fault) (n := 1) (ix := 23) (iy := 26) (off := 1058) X ⟨by decide +kernel, by decide +kernel, by decide +kernel, by decide +kernel, by decide +kernel, by decide +kernel, by decide +kernel, by decide⟩ ⟨ok_M_Cs_fault, okv_M_Cs_fault, (qm_3 (i := 6) rfl rfl), np_M_Cs_fault, by decide⟩ ⟨ok_M_Mo_fault, okv_M_Mo_fault, (qm_5 (i := 208) rfl rfl), np_M_Mo_fault, by decide⟩ rfl rfl (by omega) hσ (rl_case hM hN (fun K k => c_fault hC hF k) (fun K σ1 a b k => p_fault a b k) hA hB) kk
theorem lc_terms (X : LX p s m args meth c G b L xs) (hi : i + 6 ≤ L) (hσ : WF σ) (hR : RL σ) (kk : ∀ σ2, WF σ2 → RL σ2 → LW p l e s m args below meth c G b Z i 1386 [] σ2) : LW p l e s m args below meth c G b Z i 333 [] σ := by
  obtain ⟨A, hC, hF, hM, hN, hA, hB⟩ := hR
  exact la_case (μ := M_Cs_terms) (ν := M_Mo_terms) (n := 2) (ix := 27) (iy := 31) (off := 1025) X ⟨by decide +kernel, by decide +kernel, by decide +kernel, by decide +kernel, by decide +kernel, by decide +kernel, by decide +kernel, by decide⟩ ⟨ok_M_Cs_terms, okv_M_Cs_terms, (qm_3 (i := 10) rfl rfl), np_M_Cs_terms, by decide⟩ ⟨ok_M_Mo_terms, okv_M_Mo_terms, (qm_5 (i := 212) rfl rfl), np_M_Mo_terms, by decide⟩ rfl rfl (by omega) hσ (rl_case hM hN (fun K k => c_terms hC hF k) (fun K σ1 a b k => p_terms a b k) (terms_ok hA) (termsB hB)) kk
theorem lc_add (X : LX p s m args meth c G b L xs) (hi : i + 6 ≤ L) (hσ : WF σ) (hR : RL σ) (kk : ∀ σ2, WF σ2 → RL σ2 → LW p l e s m args below meth c G b Z i 1386 [] σ2) : LW p l e s m args below meth c G b Z i 366 [] σ := by
  obtain ⟨A, hC, hF, hM, hN, hA, hB⟩ := hR
  exact la_case (μ := M_Cs_add) (ν := M_Mo_add) (n := 3) (ix := 32) (iy := 36) (off := 982) X ⟨by decide +kernel, by decide +kernel, by decide +kernel, by decide +kernel, by decide +kernel, by decide +kernel, by decide +kernel, by decide⟩ ⟨ok_M_Cs_add, okv_M_Cs_add, (qm_3 (i := 27) rfl rfl), np_M_Cs_add, by decide⟩ ⟨ok_M_Mo_add, okv_M_Mo_add, (qm_5 (i := 217) rfl rfl), np_M_Mo_add, by decide⟩ rfl rfl (by omega) hσ (rl_case hM hN (fun K k => c_add hC hF hA k) (fun K σ1 a b k => p_add a b hA k) (add_ok hA) (addB hB)) kk
theorem lc_post (X : LX p s m args meth c G b L xs) (hi : i + 6 ≤ L) (hσ : WF σ) (hR : RL σ) (kk : ∀ σ2, WF σ2 → RL σ2 → LW p l e s m args below meth c G b Z i 1386 [] σ2) : LW p l e s m args below meth c G b Z i 409 [] σ := by
  obtain ⟨A, hC, hF, hM, hN, hA, hB⟩ := hR
  exact la_case (μ := M_Cs_post) (ν := M_Mo_post) (n := 2) (ix := 37) (iy := 40) (off := 949) X ⟨by decide +kernel, by decide +kernel, by decide +kernel, by decide +kernel, by decide +kernel, by decide +kernel, by decide +kernel, by decide⟩ ⟨ok_M_Cs_post, okv_M_Cs_post, (qm_3 (i := 39) rfl rfl), np_M_Cs_post, by decide⟩ ⟨ok_M_Mo_post, okv_M_Mo_post, (qm_5 (i := 225) rfl rfl), np_M_Mo_post, by decide⟩ rfl rfl (by omega) hσ (rl_case hM hN (fun K k => c_post hC hF hA k) (fun K σ1 a b k => p_post a b hA k) (post_ok hA) (postB hB)) kk
theorem lc_audit (X : LX p s m args meth c G b L xs) (hi : i + 6 ≤ L) (hσ : WF σ) (hR : RL σ) (kk : ∀ σ2, WF σ2 → RL σ2 → LW p l e s m args below meth c G b Z i 1386 [] σ2) : LW p l e s m args below meth c G b Z i 442 [] σ := by
  obtain ⟨A, hC, hF, hM, hN, hA, hB⟩ := hR
  exact la_case (μ := M_Cs_audit) (ν := M_Mo_audit) (n := 2) (ix := 41) (iy := 44) (off := 916) X ⟨by decide +kernel, by decide +kernel, by decide +kernel, by decide +kernel, by decide +kernel, by decide +kernel, by decide +kernel, by decide⟩ ⟨ok_M_Cs_audit, okv_M_Cs_audit, (qm_3 (i := 45) rfl rfl), np_M_Cs_audit, by decide⟩ ⟨ok_M_Mo_audit, okv_M_Mo_audit, (qm_5 (i := 238) rfl rfl), np_M_Mo_audit, by decide⟩ rfl rfl (by omega) hσ (rl_case hM hN (fun K k => c_audit hC hF hA k) (fun K σ1 a b k => p_audit a b hA k) (audit_ok hA) (auditB hB)) kk
theorem lc_forget (X : LX p s m args meth c G b L xs) (hi : i + 6 ≤ L) (hσ : WF σ) (hR : RL σ) (kk : ∀ σ2, WF σ2 → RL σ2 → LW p l e s m args below meth c G b Z i 1386 [] σ2) : LW p l e s m args below meth c G b Z i 475 [] σ := by
  obtain ⟨A, hC, hF, hM, hN, hA, hB⟩ := hR
  exact la_case (μ := M_Cs_forget) (ν := M_Mo_forget) (n := 1) (ix := 45) (iy := 48) (off := 893) X ⟨by decide +kernel, by decide +kernel, by decide +kernel, by decide +kernel, by decide +kernel, by decide +kernel, by decide +kernel, by decide⟩ ⟨ok_M_Cs_forget, okv_M_Cs_forget, (qm_3 (i := 51) rfl rfl), np_M_Cs_forget, by decide⟩ ⟨ok_M_Mo_forget, okv_M_Mo_forget, (qm_6 (i := 15) rfl rfl), np_M_Mo_forget, by decide⟩ rfl rfl (by omega) hσ (rl_case hM hN (fun K k => c_forget hC hF hA k) (fun K σ1 a b k => p_forget a b hA k) (forget_ok hA) (forgetB hB)) kk
theorem lc_interval (X : LX p s m args meth c G b L xs) (hi : i + 6 ≤ L) (hσ : WF σ) (hR : RL σ) (kk : ∀ σ2, WF σ2 → RL σ2 → LW p l e s m args below meth c G b Z i 1386 [] σ2) : LW p l e s m args below meth c G b Z i 498 [] σ := by
  obtain ⟨A, hC, hF, hM, hN, hA, hB⟩ := hR
  exact la_case (μ := M_Cs_interval) (ν := M_Mo_interval) (n := 1) (ix := 49) (iy := 52) (off := 870) X ⟨by decide +kernel, by decide +kernel, by decide +kernel, by decide +kernel, by decide +kernel, by decide +kernel, by decide +kernel, by decide⟩ ⟨ok_M_Cs_interval, okv_M_Cs_interval, (qm_3 (i := 55) rfl rfl), np_M_Cs_interval, by decide⟩ ⟨ok_M_Mo_interval, okv_M_Mo_interval, (qm_6 (i := 19) rfl rfl), np_M_Mo_interval, by decide⟩ rfl rfl (by omega) hσ (rl_case hM hN (fun K k => c_interval hC hF hA k) (fun K σ1 a b k => p_interval a b hA k) (interval_ok hA) (intervalB hB)) kk
theorem lc_plan (X : LX p s m args meth c G b L xs) (hi : i + 6 ≤ L) (hσ : WF σ) (hR : RL σ) (kk : ∀ σ2, WF σ2 → RL σ2 → LW p l e s m args below meth c G b Z i 1386 [] σ2) : LW p l e s m args below meth c G b Z i 521 [] σ := by
  obtain ⟨A, hC, hF, hM, hN, hA, hB⟩ := hR
  exact la_case (μ := M_Cs_plan) (ν := M_Mo_plan) (n := 0) (ix := 53) (iy := 57) (off := 857) X ⟨by decide +kernel, by decide +kernel, by decide +kernel, by decide +kernel, by decide +kernel, by decide +kernel, by decide +kernel, by decide⟩ ⟨ok_M_Cs_plan, okv_M_Cs_plan, (qm_3 (i := 59) rfl rfl), np_M_Cs_plan, by decide⟩ ⟨ok_M_Mo_plan, okv_M_Mo_plan, (qm_6 (i := 34) rfl rfl), np_M_Mo_plan, by decide⟩ rfl rfl (by omega) hσ (rl_case hM hN (fun K k => c_plan hC hF hA k) (fun K σ1 a b k => p_plan a b hA k) (plan_ok hA) (planB hB)) kk
theorem lc_draw (X : LX p s m args meth c G b L xs) (hi : i + 6 ≤ L) (hσ : WF σ) (hR : RL σ) (kk : ∀ σ2, WF σ2 → RL σ2 → LW p l e s m args below meth c G b Z i 1386 [] σ2) : LW p l e s m args below meth c G b Z i 534 [] σ := by
  obtain ⟨A, hC, hF, hM, hN, hA, hB⟩ := hR
  exact la_case (μ := M_Cs_draw) (ν := M_Mo_draw) (n := 0) (ix := 58) (iy := 61) (off := 844) X ⟨by decide +kernel, by decide +kernel, by decide +kernel, by decide +kernel, by decide +kernel, by decide +kernel, by decide +kernel, by decide⟩ ⟨ok_M_Cs_draw, okv_M_Cs_draw, (qm_3 (i := 85) rfl rfl), np_M_Cs_draw, by decide⟩ ⟨ok_M_Mo_draw, okv_M_Mo_draw, (qm_6 (i := 61) rfl rfl), np_M_Mo_draw, by decide⟩ rfl rfl (by omega) hσ (rl_case hM hN (fun K k => c_draw hC hF hA k) (fun K σ1 a b k => p_draw a b hA k) (draw_ok hA) (drawB hB)) kk
theorem lc_clear (X : LX p s m args meth c G b L xs) (hi : i + 6 ≤ L) (hσ : WF σ) (hR : RL σ) (kk : ∀ σ2, WF σ2 → RL σ2 → LW p l e s m args below meth c G b Z i 1386 [] σ2) : LW p l e s m args below meth c G b Z i 547 [] σ := by
  obtain ⟨A, hC, hF, hM, hN, hA, hB⟩ := hR
  exact la_case (μ := M_Cs_clear) (ν := M_Mo_clear) (n := 0) (ix := 62) (iy := 65) (off := 831) X ⟨by decide +kernel, by decide +kernel, by decide +kernel, by decide +kernel, by decide +kernel, by decide +kernel, by decide +kernel, by decide⟩ ⟨ok_M_Cs_clear, okv_M_Cs_clear, (qm_3 (i := 124) rfl rfl), np_M_Cs_clear, by decide⟩ ⟨ok_M_Mo_clear, okv_M_Mo_clear, (qm_6 (i := 76) rfl rfl), np_M_Mo_clear, by decide⟩ rfl rfl (by omega) hσ (rl_case hM hN (fun K k => c_clear hC hF k) (fun K σ1 a b k => p_clear a b k) (clear_ok hA) (clearB hB)) kk
theorem lc_find (X : LX p s m args meth c G b L xs) (hi : i + 6 ≤ L) (hσ : WF σ) (hR : RL σ) (kk : ∀ σ2, WF σ2 → RL σ2 → LW p l e s m args below meth c G b Z i 1386 [] σ2) : LW p l e s m args below meth c G b Z i 560 [] σ := by
  obtain ⟨A, hC, hF, hM, hN, hA, hB⟩ := hR
  exact la_case (μ := M_Cs_find) (ν := M_Mo_find) (n := 2) (ix := 66) (iy := 69) (off := 798) X ⟨by decide +kernel, by decide +kernel, by decide +kernel, by decide +kernel, by decide +kernel, by decide +kernel, by decide +kernel, by decide⟩ ⟨ok_M_Cs_find, okv_M_Cs_find, (qm_3 (i := 128) rfl rfl), np_M_Cs_find, by decide⟩ ⟨ok_M_Mo_find, okv_M_Mo_find, (qm_6 (i := 80) rfl rfl), np_M_Mo_find, by decide⟩ rfl rfl (by omega) hσ (rl_case hM hN (fun K k => c_find hC hF hA k) (fun K σ1 a b k => p_find a b hA k) hA hB) kk
theorem lc_item (X : LX p s m args meth c G b L xs) (hi : i + 6 ≤ L) (hσ : WF σ) (hR : RL σ) (kk : ∀ σ2, WF σ2 → RL σ2 → LW p l e s m args below meth c G b Z i 1386 [] σ2) : LW p l e s m args below meth c G b Z i 593 [] σ := by
  obtain ⟨A, hC, hF, hM, hN, hA, hB⟩ := hR
  exact la_case (μ := M_Cs_item) (ν := M_Mo_item) (n := 2) (ix := 70) (iy := 73) (off := 765) X ⟨by decide +kernel, by decide +kernel, by decide +kernel, by decide +kernel, by decide +kernel, by decide +kernel, by decide +kernel, by decide⟩ ⟨ok_M_Cs_item, okv_M_Cs_item, (qm_3 (i := 132) rfl rfl), np_M_Cs_item, by decide⟩ ⟨ok_M_Mo_item, okv_M_Mo_item, (qm_6 (i := 84) rfl rfl), np_M_Mo_item, by decide⟩ rfl rfl (by omega) hσ (rl_case hM hN (fun K k => c_item hC hF hA k) (fun K σ1 a b k => p_item a b hA k) hA hB) kk
theorem lc_coin (X : LX p s m args meth c G b L xs) (hi : i + 6 ≤ L) (hσ : WF σ) (hR : RL σ) (kk : ∀ σ2, WF σ2 → RL σ2 → LW p l e s m args below meth c G b Z i 1386 [] σ2) : LW p l e s m args below meth c G b Z i 626 [] σ := by
  obtain ⟨A, hC, hF, hM, hN, hA, hB⟩ := hR
  exact la_case (μ := M_Cs_coin) (ν := M_Mo_coin) (n := 2) (ix := 74) (iy := 77) (off := 732) X ⟨by decide +kernel, by decide +kernel, by decide +kernel, by decide +kernel, by decide +kernel, by decide +kernel, by decide +kernel, by decide⟩ ⟨ok_M_Cs_coin, okv_M_Cs_coin, (qm_3 (i := 172) rfl rfl), np_M_Cs_coin, by decide⟩ ⟨ok_M_Mo_coin, okv_M_Mo_coin, (qm_6 (i := 109) rfl rfl), np_M_Mo_coin, by decide⟩ rfl rfl (by omega) hσ (rl_case hM hN (fun K k => c_coin hC hF hA k) (fun K σ1 a b k => p_coin a b hA k) hA hB) kk
theorem lc_hit (X : LX p s m args meth c G b L xs) (hi : i + 6 ≤ L) (hσ : WF σ) (hR : RL σ) (kk : ∀ σ2, WF σ2 → RL σ2 → LW p l e s m args below meth c G b Z i 1386 [] σ2) : LW p l e s m args below meth c G b Z i 659 [] σ := by
  obtain ⟨A, hC, hF, hM, hN, hA, hB⟩ := hR
  exact la_case (μ := M_Cs_hit) (ν := M_Mo_hit) (n := 2) (ix := 78) (iy := 81) (off := 699) X ⟨by decide +kernel, by decide +kernel, by decide +kernel, by decide +kernel, by decide +kernel, by decide +kernel, by decide +kernel, by decide⟩ ⟨ok_M_Cs_hit, okv_M_Cs_hit, (qm_3 (i := 181) rfl rfl), np_M_Cs_hit, by decide⟩ ⟨ok_M_Mo_hit, okv_M_Mo_hit, (qm_6 (i := 113) rfl rfl), np_M_Mo_hit, by decide⟩ rfl rfl (by omega) hσ (rl_case hM hN (fun K k => c_hit hC hF hA k) (fun K σ1 a b k => p_hit a b hA k) hA hB) kk
theorem lc_start (X : LX p s m args meth c G b L xs) (hi : i + 6 ≤ L) (hσ : WF σ) (hR : RL σ) (kk : ∀ σ2, WF σ2 → RL σ2 → LW p l e s m args below meth c G b Z i 1386 [] σ2) : LW p l e s m args below meth c G b Z i 692 [] σ := by
  obtain ⟨A, hC, hF, hM, hN, hA, hB⟩ := hR
  exact la_case (μ := M_Cs_start) (ν := M_Mo_start) (n := 1) (ix := 82) (iy := 85) (off := 676) X ⟨by decide +kernel, by decide +kernel, by decide +kernel, by decide +kernel, by decide +kernel, by decide +kernel, by decide +kernel, by decide⟩ ⟨ok_M_Cs_start, okv_M_Cs_start, (qm_3 (i := 189) rfl rfl), np_M_Cs_start, by decide⟩ ⟨ok_M_Mo_start, okv_M_Mo_start, (qm_6 (i := 117) rfl rfl), np_M_Mo_start, by decide⟩ rfl rfl (by omega) hσ (rl_case hM hN (fun K k => c_start hC hF hA k) (fun K σ1 a b k => p_start a b hA k) hA hB) kk
theorem lc_certain (X : LX p s m args meth c G b L xs) (hi : i + 6 ≤ L) (hσ : WF σ) (hR : RL σ) (kk : ∀ σ2, WF σ2 → RL σ2 → LW p l e s m args below meth c G b Z i 1386 [] σ2) : LW p l e s m args below meth c G b Z i 715 [] σ := by
  obtain ⟨A, hC, hF, hM, hN, hA, hB⟩ := hR
  exact la_case (μ := M_Cs_certain) (ν := M_Mo_certain) (n := 1) (ix := 86) (iy := 89) (off := 653) X ⟨by decide +kernel, by decide +kernel, by decide +kernel, by decide +kernel, by decide +kernel, by decide +kernel, by decide +kernel, by decide⟩ ⟨ok_M_Cs_certain, okv_M_Cs_certain, (qm_3 (i := 194) rfl rfl), np_M_Cs_certain, by decide⟩ ⟨ok_M_Mo_certain, okv_M_Mo_certain, (qm_6 (i := 121) rfl rfl), np_M_Mo_certain, by decide⟩ rfl rfl (by omega) hσ (rl_case hM hN (fun K k => c_certain hC hF hA k) (fun K σ1 a b k => p_certain a b hA k) hA hB) kk
theorem lc_lacking (X : LX p s m args meth c G b L xs) (hi : i + 6 ≤ L) (hσ : WF σ) (hR : RL σ) (kk : ∀ σ2, WF σ2 → RL σ2 → LW p l e s m args below meth c G b Z i 1386 [] σ2) : LW p l e s m args below meth c G b Z i 738 [] σ := by
  obtain ⟨A, hC, hF, hM, hN, hA, hB⟩ := hR
  exact la_case (μ := M_Cs_lacking) (ν := M_Mo_lacking) (n := 1) (ix := 90) (iy := 93) (off := 630) X ⟨by decide +kernel, by decide +kernel, by decide +kernel, by decide +kernel, by decide +kernel, by decide +kernel, by decide +kernel, by decide⟩ ⟨ok_M_Cs_lacking, okv_M_Cs_lacking, (qm_3 (i := 213) rfl rfl), np_M_Cs_lacking, by decide⟩ ⟨ok_M_Mo_lacking, okv_M_Mo_lacking, (qm_6 (i := 137) rfl rfl), np_M_Mo_lacking, by decide⟩ rfl rfl (by omega) hσ (rl_case hM hN (fun K k => c_lacking hC hF hA k) (fun K σ1 a b k => p_lacking a b hA k) hA hB) kk
theorem lc_account (X : LX p s m args meth c G b L xs) (hi : i + 6 ≤ L) (hσ : WF σ) (hR : RL σ) (kk : ∀ σ2, WF σ2 → RL σ2 → LW p l e s m args below meth c G b Z i 1386 [] σ2) : LW p l e s m args below meth c G b Z i 761 [] σ := by
  obtain ⟨A, hC, hF, hM, hN, hA, hB⟩ := hR
  exact la_case (μ := M_Cs_account) (ν := M_Mo_account) (n := 2) (ix := 94) (iy := 97) (off := 597) X ⟨by decide +kernel, by decide +kernel, by decide +kernel, by decide +kernel, by decide +kernel, by decide +kernel, by decide +kernel, by decide⟩ ⟨ok_M_Cs_account, okv_M_Cs_account, (qm_3 (i := 217) rfl rfl), np_M_Cs_account, by decide⟩ ⟨ok_M_Mo_account, okv_M_Mo_account, (qm_6 (i := 157) rfl rfl), np_M_Mo_account, by decide⟩ rfl rfl (by omega) hσ (rl_case hM hN (fun K k => c_account hC hF hA k) (fun K σ1 a b k => p_account a b hA k) hA hB) kk
theorem lc_accounts (X : LX p s m args meth c G b L xs) (hi : i + 6 ≤ L) (hσ : WF σ) (hR : RL σ) (kk : ∀ σ2, WF σ2 → RL σ2 → LW p l e s m args below meth c G b Z i 1386 [] σ2) : LW p l e s m args below meth c G b Z i 794 [] σ := by
  obtain ⟨A, hC, hF, hM, hN, hA, hB⟩ := hR
  exact la_case (μ := M_Cs_accounts) (ν := M_Mo_accounts) (n := 1) (ix := 98) (iy := 101) (off := 574) X ⟨by decide +kernel, by decide +kernel, by decide +kernel, by decide +kernel, by decide +kernel, by decide +kernel, by decide +kernel, by decide⟩ ⟨ok_M_Cs_accounts, okv_M_Cs_accounts, (qm_4 (i := 0) rfl rfl), np_M_Cs_accounts, by decide⟩ ⟨ok_M_Mo_accounts, okv_M_Mo_accounts, (qm_6 (i := 167) rfl rfl), np_M_Mo_accounts, by decide⟩ rfl rfl (by omega) hσ (rl_case hM hN (fun K k => c_accounts hC hF hA k) (fun K σ1 a b k => p_accounts a b hA k) hA hB) kk
theorem lc_drawn (X : LX p s m args meth c G b L xs) (hi : i + 6 ≤ L) (hσ : WF σ) (hR : RL σ) (kk : ∀ σ2, WF σ2 → RL σ2 → LW p l e s m args below meth c G b Z i 1386 [] σ2) : LW p l e s m args below meth c G b Z i 817 [] σ := by
  obtain ⟨A, hC, hF, hM, hN, hA, hB⟩ := hR
  exact la_case (μ := M_Cs_drawn) (ν := M_Mo_drawn) (n := 1) (ix := 102) (iy := 105) (off := 551) X ⟨by decide +kernel, by decide +kernel, by decide +kernel, by decide +kernel, by decide +kernel, by decide +kernel, by decide +kernel, by decide⟩ ⟨ok_M_Cs_drawn, okv_M_Cs_drawn, (qm_4 (i := 8) rfl rfl), np_M_Cs_drawn, by decide⟩ ⟨ok_M_Mo_drawn, okv_M_Mo_drawn, (qm_6 (i := 141) rfl rfl), np_M_Mo_drawn, by decide⟩ rfl rfl (by omega) hσ (rl_case hM hN (fun K k => c_drawn hC hF hA k) (fun K σ1 a b k => p_drawn a b hA k) hA hB) kk
theorem lc_line (X : LX p s m args meth c G b L xs) (hi : i + 6 ≤ L) (hσ : WF σ) (hR : RL σ) (kk : ∀ σ2, WF σ2 → RL σ2 → LW p l e s m args below meth c G b Z i 1386 [] σ2) : LW p l e s m args below meth c G b Z i 840 [] σ := by
  obtain ⟨A, hC, hF, hM, hN, hA, hB⟩ := hR
  exact la_case (μ := M_Cs_line) (ν := M_Mo_line_) (n := 2) (ix := 106) (iy := 109) (off := 518) X ⟨by decide +kernel, by decide +kernel, by decide +kernel, by decide +kernel, by decide +kernel, by decide +kernel, by decide +kernel, by decide⟩ ⟨ok_M_Cs_line, okv_M_Cs_line, (qm_4 (i := 12) rfl rfl), np_M_Cs_line, by decide⟩ ⟨ok_M_Mo_line_, okv_M_Mo_line_, (qm_6 (i := 145) rfl rfl), np_M_Mo_line_, by decide⟩ rfl rfl (by omega) hσ (rl_case hM hN (fun K k => c_line hC hF hA k) (fun K σ1 a b k => p_line a b hA k) hA hB) kk
theorem lc_upper (X : LX p s m args meth c G b L xs) (hi : i + 6 ≤ L) (hσ : WF σ) (hR : RL σ) (kk : ∀ σ2, WF σ2 → RL σ2 → LW p l e s m args below meth c G b Z i 1386 [] σ2) : LW p l e s m args below meth c G b Z i 873 [] σ := by
  obtain ⟨A, hC, hF, hM, hN, hA, hB⟩ := hR
  exact la_case (μ := M_Cs_upper) (ν := M_Mo_upper) (n := 2) (ix := 110) (iy := 113) (off := 485) X ⟨by decide +kernel, by decide +kernel, by decide +kernel, by decide +kernel, by decide +kernel, by decide +kernel, by decide +kernel, by decide⟩ ⟨ok_M_Cs_upper, okv_M_Cs_upper, (qm_4 (i := 33) rfl rfl), np_M_Cs_upper, by decide⟩ ⟨ok_M_Mo_upper, okv_M_Mo_upper, (qm_6 (i := 171) rfl rfl), np_M_Mo_upper, by decide⟩ rfl rfl (by omega) hσ (rl_case hM hN (fun K k => c_upper hC hF hA k) (fun K σ1 a b k => p_upper a b hA k) hA hB) kk
theorem lc_size (X : LX p s m args meth c G b L xs) (hi : i + 6 ≤ L) (hσ : WF σ) (hR : RL σ) (kk : ∀ σ2, WF σ2 → RL σ2 → LW p l e s m args below meth c G b Z i 1386 [] σ2) : LW p l e s m args below meth c G b Z i 906 [] σ := by
  obtain ⟨A, hC, hF, hM, hN, hA, hB⟩ := hR
  exact la_case (μ := M_Cs_size) (ν := M_Mo_size) (n := 1) (ix := 114) (iy := 117) (off := 462) X ⟨by decide +kernel, by decide +kernel, by decide +kernel, by decide +kernel, by decide +kernel, by decide +kernel, by decide +kernel, by decide⟩ ⟨ok_M_Cs_size, okv_M_Cs_size, (qm_4 (i := 38) rfl rfl), np_M_Cs_size, by decide⟩ ⟨ok_M_Mo_size, okv_M_Mo_size, (qm_6 (i := 176) rfl rfl), np_M_Mo_size, by decide⟩ rfl rfl (by omega) hσ (rl_case hM hN (fun K k => c_size hC hF hA k) (fun K σ1 a b k => p_size a b hA k) hA hB) kk
theorem lc_projected (X : LX p s m args meth c G b L xs) (hi : i + 6 ≤ L) (hσ : WF σ) (hR : RL σ) (kk : ∀ σ2, WF σ2 → RL σ2 → LW p l e s m args below meth c G b Z i 1386 [] σ2) : LW p l e s m args below meth c G b Z i 929 [] σ := by
  obtain ⟨A, hC, hF, hM, hN, hA, hB⟩ := hR
  exact la_case (μ := M_Cs_projected) (ν := M_Mo_projected) (n := 1) (ix := 118) (iy := 121) (off := 439) X ⟨by decide +kernel, by decide +kernel, by decide +kernel, by decide +kernel, by decide +kernel, by decide +kernel, by decide +kernel, by decide⟩ ⟨ok_M_Cs_projected, okv_M_Cs_projected, (qm_4 (i := 46) rfl rfl), np_M_Cs_projected, by decide⟩ ⟨ok_M_Mo_projected, okv_M_Mo_projected, (qm_6 (i := 181) rfl rfl), np_M_Mo_projected, by decide⟩ rfl rfl (by omega) hσ (rl_case hM hN (fun K k => c_projected hC hF hA k) (fun K σ1 a b k => p_projected a b hA k) hA hB) kk
theorem lc_taint (X : LX p s m args meth c G b L xs) (hi : i + 6 ≤ L) (hσ : WF σ) (hR : RL σ) (kk : ∀ σ2, WF σ2 → RL σ2 → LW p l e s m args below meth c G b Z i 1386 [] σ2) : LW p l e s m args below meth c G b Z i 952 [] σ := by
  obtain ⟨A, hC, hF, hM, hN, hA, hB⟩ := hR
  exact la_case (μ := M_Cs_taint) (ν := M_Mo_taint) (n := 2) (ix := 122) (iy := 125) (off := 406) X ⟨by decide +kernel, by decide +kernel, by decide +kernel, by decide +kernel, by decide +kernel, by decide +kernel, by decide +kernel, by decide⟩ ⟨ok_M_Cs_taint, okv_M_Cs_taint, (qm_4 (i := 63) rfl rfl), np_M_Cs_taint, by decide⟩ ⟨ok_M_Mo_taint, okv_M_Mo_taint, (qm_6 (i := 193) rfl rfl), np_M_Mo_taint, by decide⟩ rfl rfl (by omega) hσ (rl_case hM hN (fun K k => c_taint hC hF hA k) (fun K σ1 a b k => p_taint a b hA k) hA hB) kk
theorem lc_bound (X : LX p s m args meth c G b L xs) (hi : i + 6 ≤ L) (hσ : WF σ) (hR : RL σ) (kk : ∀ σ2, WF σ2 → RL σ2 → LW p l e s m args below meth c G b Z i 1386 [] σ2) : LW p l e s m args below meth c G b Z i 985 [] σ := by
  obtain ⟨A, hC, hF, hM, hN, hA, hB⟩ := hR
  exact la_case (μ := M_Cs_bound) (ν := M_Mo_bound) (n := 1) (ix := 126) (iy := 129) (off := 383) X ⟨by decide +kernel, by decide +kernel, by decide +kernel, by decide +kernel, by decide +kernel, by decide +kernel, by decide +kernel, by decide⟩ ⟨ok_M_Cs_bound, okv_M_Cs_bound, (qm_4 (i := 88) rfl rfl), np_M_Cs_bound, by decide⟩ ⟨ok_M_Mo_bound, okv_M_Mo_bound, (qm_6 (i := 206) rfl rfl), np_M_Mo_bound, by decide⟩ rfl rfl (by omega) hσ (rl_case hM hN (fun K k => c_bound hC hF hA k) (fun K σ1 a b k => p_bound a b hA k) hA hB) kk
theorem lc_below (X : LX p s m args meth c G b L xs) (hi : i + 6 ≤ L) (hσ : WF σ) (hR : RL σ) (kk : ∀ σ2, WF σ2 → RL σ2 → LW p l e s m args below meth c G b Z i 1386 [] σ2) : LW p l e s m args below meth c G b Z i 1008 [] σ := by
  obtain ⟨A, hC, hF, hM, hN, hA, hB⟩ := hR
  exact la_case (μ := M_Cs_below) (ν := M_Mo_below) (n := 1) (ix := 130) (iy := 133) (off := 360) X ⟨by decide +kernel, by decide +kernel, by decide +kernel, by decide +kernel, by decide +kernel, by decide +kernel, by decide +kernel, by decide⟩ ⟨ok_M_Cs_below, okv_M_Cs_below, (qm_4 (i := 114) rfl rfl), np_M_Cs_below, by decide⟩ ⟨ok_M_Mo_below, okv_M_Mo_below, (qm_6 (i := 222) rfl rfl), np_M_Mo_below, by decide⟩ rfl rfl (by omega) hσ (rl_case hM hN (fun K k => c_below hC hF hA k) (fun K σ1 a b k => p_below a b hA k) hA hB) kk
theorem lc_judged (X : LX p s m args meth c G b L xs) (hi : i + 6 ≤ L) (hσ : WF σ) (hR : RL σ) (kk : ∀ σ2, WF σ2 → RL σ2 → LW p l e s m args below meth c G b Z i 1386 [] σ2) : LW p l e s m args below meth c G b Z i 1031 [] σ := by
  obtain ⟨A, hC, hF, hM, hN, hA, hB⟩ := hR
  exact la_case (μ := M_Cs_judged) (ν := M_Mo_judged) (n := 0) (ix := 134) (iy := 137) (off := 347) X ⟨by decide +kernel, by decide +kernel, by decide +kernel, by decide +kernel, by decide +kernel, by decide +kernel, by decide +kernel, by decide⟩ ⟨ok_M_Cs_judged, okv_M_Cs_judged, (qm_4 (i := 118) rfl rfl), np_M_Cs_judged, by decide⟩ ⟨ok_M_Mo_judged, okv_M_Mo_judged, (qm_6 (i := 227) rfl rfl), np_M_Mo_judged, by decide⟩ rfl rfl (by omega) hσ (rl_case hM hN (fun K k => c_judged hC hF hA k) (fun K σ1 a b k => p_judged a b hA k) hA hB) kk
theorem lc_would (X : LX p s m args meth c G b L xs) (hi : i + 6 ≤ L) (hσ : WF σ) (hR : RL σ) (kk : ∀ σ2, WF σ2 → RL σ2 → LW p l e s m args below meth c G b Z i 1386 [] σ2) : LW p l e s m args below meth c G b Z i 1044 [] σ := by
  obtain ⟨A, hC, hF, hM, hN, hA, hB⟩ := hR
  exact la_case (μ := M_Cs_would) (ν := M_Mo_would) (n := 2) (ix := 138) (iy := 141) (off := 314) X ⟨by decide +kernel, by decide +kernel, by decide +kernel, by decide +kernel, by decide +kernel, by decide +kernel, by decide +kernel, by decide⟩ ⟨ok_M_Cs_would, okv_M_Cs_would, (qm_4 (i := 132) rfl rfl), np_M_Cs_would, by decide⟩ ⟨ok_M_Mo_would, okv_M_Mo_would, (qm_6 (i := 231) rfl rfl), np_M_Mo_would, by decide⟩ rfl rfl (by omega) hσ (rl_case hM hN (fun K k => c_would hC hF hA k) (fun K σ1 a b k => p_would a b hA k) hA hB) kk
theorem lc_dearest (X : LX p s m args meth c G b L xs) (hi : i + 6 ≤ L) (hσ : WF σ) (hR : RL σ) (kk : ∀ σ2, WF σ2 → RL σ2 → LW p l e s m args below meth c G b Z i 1386 [] σ2) : LW p l e s m args below meth c G b Z i 1077 [] σ := by
  obtain ⟨A, hC, hF, hM, hN, hA, hB⟩ := hR
  exact la_case (μ := M_Cs_dearest) (ν := M_Mo_dearest) (n := 0) (ix := 142) (iy := 145) (off := 301) X ⟨by decide +kernel, by decide +kernel, by decide +kernel, by decide +kernel, by decide +kernel, by decide +kernel, by decide +kernel, by decide⟩ ⟨ok_M_Cs_dearest, okv_M_Cs_dearest, (qm_4 (i := 140) rfl rfl), np_M_Cs_dearest, by decide⟩ ⟨ok_M_Mo_dearest, okv_M_Mo_dearest, (qm_6 (i := 239) rfl rfl), np_M_Mo_dearest, by decide⟩ rfl rfl (by omega) hσ (rl_case hM hN (fun K k => c_dearest hC hF hA k) (fun K σ1 a b k => p_dearest a b hA k) hA hB) kk
theorem lc_more (X : LX p s m args meth c G b L xs) (hi : i + 6 ≤ L) (hσ : WF σ) (hR : RL σ) (kk : ∀ σ2, WF σ2 → RL σ2 → LW p l e s m args below meth c G b Z i 1386 [] σ2) : LW p l e s m args below meth c G b Z i 1090 [] σ := by
  obtain ⟨A, hC, hF, hM, hN, hA, hB⟩ := hR
  exact la_case (μ := M_Cs_more) (ν := M_Mo_more) (n := 0) (ix := 146) (iy := 149) (off := 288) X ⟨by decide +kernel, by decide +kernel, by decide +kernel, by decide +kernel, by decide +kernel, by decide +kernel, by decide +kernel, by decide⟩ ⟨ok_M_Cs_more, okv_M_Cs_more, (qm_4 (i := 144) rfl rfl), np_M_Cs_more, by decide⟩ ⟨ok_M_Mo_more, okv_M_Mo_more, (qm_7 (i := 3) rfl rfl), np_M_Mo_more, by decide⟩ rfl rfl (by omega) hσ (rl_case hM hN (fun K k => c_more hC hF hA k) (fun K σ1 a b k => p_more a b hA k) hA hB) kk
theorem lc_step (X : LX p s m args meth c G b L xs) (hi : i + 6 ≤ L) (hσ : WF σ) (hR : RL σ) (kk : ∀ σ2, WF σ2 → RL σ2 → LW p l e s m args below meth c G b Z i 1386 [] σ2) : LW p l e s m args below meth c G b Z i 1103 [] σ := by
  obtain ⟨A, hC, hF, hM, hN, hA, hB⟩ := hR
  exact la_case (μ := M_Cs_step) (ν := M_Mo_step) (n := 2) (ix := 150) (iy := 153) (off := 255) X ⟨by decide +kernel, by decide +kernel, by decide +kernel, by decide +kernel, by decide +kernel, by decide +kernel, by decide +kernel, by decide⟩ ⟨ok_M_Cs_step, okv_M_Cs_step, (qm_4 (i := 149) rfl rfl), np_M_Cs_step, by decide⟩ ⟨ok_M_Mo_step, okv_M_Mo_step, (qm_7 (i := 7) rfl rfl), np_M_Mo_step, by decide⟩ rfl rfl (by omega) hσ (rl_case hM hN (fun K k => c_step hC hF hA (xs_in _) k) (fun K σ1 a b k => p_step a b hA k) hA hB) kk
theorem lc_risky (X : LX p s m args meth c G b L xs) (hi : i + 6 ≤ L) (hσ : WF σ) (hR : RL σ) (kk : ∀ σ2, WF σ2 → RL σ2 → LW p l e s m args below meth c G b Z i 1386 [] σ2) : LW p l e s m args below meth c G b Z i 1136 [] σ := by
  obtain ⟨A, hC, hF, hM, hN, hA, hB⟩ := hR
  exact la_case (μ := M_Cs_risky) (ν := M_Mo_risky) (n := 0) (ix := 154) (iy := 157) (off := 242) X ⟨by decide +kernel, by decide +kernel, by decide +kernel, by decide +kernel, by decide +kernel, by decide +kernel, by decide +kernel, by decide⟩ ⟨ok_M_Cs_risky, okv_M_Cs_risky, (qm_4 (i := 154) rfl rfl), np_M_Cs_risky, by decide⟩ ⟨ok_M_Mo_risky, okv_M_Mo_risky, (qm_7 (i := 15) rfl rfl), np_M_Mo_risky, by decide⟩ rfl rfl (by omega) hσ (rl_case hM hN (fun K k => c_risky hC hF hA k) (fun K σ1 a b k => p_risky a b hA k) hA hB) kk
theorem lc_sizes (X : LX p s m args meth c G b L xs) (hi : i + 6 ≤ L) (hσ : WF σ) (hR : RL σ) (kk : ∀ σ2, WF σ2 → RL σ2 → LW p l e s m args below meth c G b Z i 1386 [] σ2) : LW p l e s m args below meth c G b Z i 1149 [] σ := by
  obtain ⟨A, hC, hF, hM, hN, hA, hB⟩ := hR
  exact la_case (μ := M_Cs_sizes) (ν := M_Mo_sizes) (n := 1) (ix := 158) (iy := 161) (off := 219) X ⟨by decide +kernel, by decide +kernel, by decide +kernel, by decide +kernel, by decide +kernel, by decide +kernel, by decide +kernel, by decide⟩ ⟨ok_M_Cs_sizes, okv_M_Cs_sizes, (qm_4 (i := 162) rfl rfl), np_M_Cs_sizes, by decide⟩ ⟨ok_M_Mo_sizes, okv_M_Mo_sizes, (qm_7 (i := 19) rfl rfl), np_M_Mo_sizes, by decide⟩ rfl rfl (by omega) hσ (rl_case hM hN (fun K k => c_sizes hC hF hA k) (fun K σ1 a b k => p_sizes a b hA k) hA hB) kk
theorem lc_trial (X : LX p s m args meth c G b L xs) (hi : i + 6 ≤ L) (hσ : WF σ) (hR : RL σ) (kk : ∀ σ2, WF σ2 → RL σ2 → LW p l e s m args below meth c G b Z i 1386 [] σ2) : LW p l e s m args below meth c G b Z i 1172 [] σ := by
  obtain ⟨A, hC, hF, hM, hN, hA, hB⟩ := hR
  exact la_case (μ := M_Cs_trial) (ν := M_Mo_trial) (n := 2) (ix := 162) (iy := 165) (off := 186) X ⟨by decide +kernel, by decide +kernel, by decide +kernel, by decide +kernel, by decide +kernel, by decide +kernel, by decide +kernel, by decide⟩ ⟨ok_M_Cs_trial, okv_M_Cs_trial, (qm_4 (i := 166) rfl rfl), np_M_Cs_trial, by decide⟩ ⟨ok_M_Mo_trial, okv_M_Mo_trial, (qm_7 (i := 24) rfl rfl), np_M_Mo_trial, by decide⟩ rfl rfl (by omega) hσ (rl_case hM hN (fun K k => c_trial hC hF hA k) (fun K σ1 a b k => p_trial a b hA k) hA hB) kk
theorem lc_covered (X : LX p s m args meth c G b L xs) (hi : i + 6 ≤ L) (hσ : WF σ) (hR : RL σ) (kk : ∀ σ2, WF σ2 → RL σ2 → LW p l e s m args below meth c G b Z i 1386 [] σ2) : LW p l e s m args below meth c G b Z i 1205 [] σ := by
  obtain ⟨A, hC, hF, hM, hN, hA, hB⟩ := hR
  exact la_case (μ := M_Cs_covered) (ν := M_Mo_covered) (n := 0) (ix := 166) (iy := 169) (off := 173) X ⟨by decide +kernel, by decide +kernel, by decide +kernel, by decide +kernel, by decide +kernel, by decide +kernel, by decide +kernel, by decide⟩ ⟨ok_M_Cs_covered, okv_M_Cs_covered, (qm_4 (i := 189) rfl rfl), np_M_Cs_covered, by decide⟩ ⟨ok_M_Mo_covered, okv_M_Mo_covered, (qm_7 (i := 32) rfl rfl), np_M_Mo_covered, by decide⟩ rfl rfl (by omega) hσ (rl_case hM hN (fun K k => c_covered hC hF hA k) (fun K σ1 a b k => p_covered a b hA k) hA hB) kk
theorem lc_caught (X : LX p s m args meth c G b L xs) (hi : i + 6 ≤ L) (hσ : WF σ) (hR : RL σ) (kk : ∀ σ2, WF σ2 → RL σ2 → LW p l e s m args below meth c G b Z i 1386 [] σ2) : LW p l e s m args below meth c G b Z i 1218 [] σ := by
  obtain ⟨A, hC, hF, hM, hN, hA, hB⟩ := hR
  exact la_case (μ := M_Cs_caught) (ν := M_Mo_caught) (n := 1) (ix := 170) (iy := 173) (off := 150) X ⟨by decide +kernel, by decide +kernel, by decide +kernel, by decide +kernel, by decide +kernel, by decide +kernel, by decide +kernel, by decide⟩ ⟨ok_M_Cs_caught, okv_M_Cs_caught, (qm_4 (i := 194) rfl rfl), np_M_Cs_caught, by decide⟩ ⟨ok_M_Mo_caught, okv_M_Mo_caught, (qm_7 (i := 37) rfl rfl), np_M_Mo_caught, by decide⟩ rfl rfl (by omega) hσ (rl_case hM hN (fun K k => c_caught hC hF hA k) (fun K σ1 a b k => p_caught a b hA k) hA hB) kk
theorem lc_worst (X : LX p s m args meth c G b L xs) (hi : i + 6 ≤ L) (hσ : WF σ) (hR : RL σ) (kk : ∀ σ2, WF σ2 → RL σ2 → LW p l e s m args below meth c G b Z i 1386 [] σ2) : LW p l e s m args below meth c G b Z i 1241 [] σ := by
  obtain ⟨A, hC, hF, hM, hN, hA, hB⟩ := hR
  exact la_case (μ := M_Cs_worst) (ν := M_Mo_worst) (n := 1) (ix := 174) (iy := 177) (off := 127) X ⟨by decide +kernel, by decide +kernel, by decide +kernel, by decide +kernel, by decide +kernel, by decide +kernel, by decide +kernel, by decide⟩ ⟨ok_M_Cs_worst, okv_M_Cs_worst, (qm_4 (i := 221) rfl rfl), np_M_Cs_worst, by decide⟩ ⟨ok_M_Mo_worst, okv_M_Mo_worst, (qm_7 (i := 57) rfl rfl), np_M_Mo_worst, by decide⟩ rfl rfl (by omega) hσ (rl_case hM hN (fun K k => c_worst hC hF hA k) (fun K σ1 a b k => p_worst a b hA k) hA hB) kk
theorem lc_chance (X : LX p s m args meth c G b L xs) (hi : i + 6 ≤ L) (hσ : WF σ) (hR : RL σ) (kk : ∀ σ2, WF σ2 → RL σ2 → LW p l e s m args below meth c G b Z i 1386 [] σ2) : LW p l e s m args below meth c G b Z i 1264 [] σ := by
  obtain ⟨A, hC, hF, hM, hN, hA, hB⟩ := hR
  exact la_case (μ := M_Cs_chance) (ν := M_Mo_chance) (n := 1) (ix := 178) (iy := 181) (off := 104) X ⟨by decide +kernel, by decide +kernel, by decide +kernel, by decide +kernel, by decide +kernel, by decide +kernel, by decide +kernel, by decide⟩ ⟨ok_M_Cs_chance, okv_M_Cs_chance, (qm_4 (i := 230) rfl rfl), np_M_Cs_chance, by decide⟩ ⟨ok_M_Mo_chance, okv_M_Mo_chance, (qm_7 (i := 61) rfl rfl), np_M_Mo_chance, by decide⟩ rfl rfl (by omega) hσ (rl_case hM hN (fun K k => c_chance hC hF hA k) (fun K σ1 a b k => p_chance a b hA k) hA hB) kk
theorem lc_were (X : LX p s m args meth c G b L xs) (hi : i + 6 ≤ L) (hσ : WF σ) (hR : RL σ) (kk : ∀ σ2, WF σ2 → RL σ2 → LW p l e s m args below meth c G b Z i 1386 [] σ2) : LW p l e s m args below meth c G b Z i 1287 [] σ := by
  obtain ⟨A, hC, hF, hM, hN, hA, hB⟩ := hR
  exact la_case (μ := M_Cs_were) (ν := M_Mo_were) (n := 3) (ix := 182) (iy := 185) (off := 61) X ⟨by decide +kernel, by decide +kernel, by decide +kernel, by decide +kernel, by decide +kernel, by decide +kernel, by decide +kernel, by decide⟩ ⟨ok_M_Cs_were, okv_M_Cs_were, (qm_4 (i := 237) rfl rfl), np_M_Cs_were, by decide⟩ ⟨ok_M_Mo_were, okv_M_Mo_were, (qm_7 (i := 68) rfl rfl), np_M_Mo_were, by decide⟩ rfl rfl (by omega) hσ (rl_case hM hN (fun K k => c_were hC hF hA k) (fun K σ1 a b k => p_were a b hA k) hA hB) kk
theorem lc_both (X : LX p s m args meth c G b L xs) (hi : i + 6 ≤ L) (hσ : WF σ) (hR : RL σ) (kk : ∀ σ2, WF σ2 → RL σ2 → LW p l e s m args below meth c G b Z i 1386 [] σ2) : LW p l e s m args below meth c G b Z i 1330 [] σ := by
  obtain ⟨A, hC, hF, hM, hN, hA, hB⟩ := hR
  exact la_case (μ := M_Cs_both) (ν := M_Mo_both) (n := 2) (ix := 186) (iy := 189) (off := 28) X ⟨by decide +kernel, by decide +kernel, by decide +kernel, by decide +kernel, by decide +kernel, by decide +kernel, by decide +kernel, by decide⟩ ⟨ok_M_Cs_both, okv_M_Cs_both, (qm_5 (i := 7) rfl rfl), np_M_Cs_both, by decide⟩ ⟨ok_M_Mo_both, okv_M_Mo_both, (qm_7 (i := 72) rfl rfl), np_M_Mo_both, by decide⟩ rfl rfl (by omega) hσ (rl_case hM hN (fun K k => c_both hC hF hA k) (fun K σ1 a b k => p_both a b hA k) hA hB) kk
theorem lc_count (X : LX p s m args meth c G b L xs) (hi : i + 6 ≤ L) (hσ : WF σ) (hR : RL σ) (kk : ∀ σ2, WF σ2 → RL σ2 → LW p l e s m args below meth c G b Z i 1386 [] σ2) : LW p l e s m args below meth c G b Z i 1363 [] σ := by
  obtain ⟨A, hC, hF, hM, hN, hA, hB⟩ := hR
  exact la_case (μ := M_Cs_count) (ν := M_Mo_count) (n := 1) (ix := 190) (iy := 193) (off := 5) X ⟨by decide +kernel, by decide +kernel, by decide +kernel, by decide +kernel, by decide +kernel, by decide +kernel, by decide +kernel, by decide⟩ ⟨ok_M_Cs_count, okv_M_Cs_count, (qm_5 (i := 15) rfl rfl), np_M_Cs_count, by decide⟩ ⟨ok_M_Mo_count, okv_M_Mo_count, (qm_7 (i := 76) rfl rfl), np_M_Mo_count, by decide⟩ rfl rfl (by omega) hσ (rl_case hM hN (fun K k => c_count hC hF hA (xs_in _) k) (fun K σ1 a b k => p_count a b hA k) hA hB) kk
theorem la_all (X : LX p s m args meth c G b L xs) (hi : i + 6 ≤ L) (hσ : WF σ) (hR : RL σ) (kk : ∀ σ2, WF σ2 → RL σ2 → LW p l e s m args below meth c G b Z i 1386 [] σ2) : ∀ t : Nat, t < 44 → LW p l e s m args below meth c G b Z i (tgtq t) [] σ
  | 0, _ => (show tgtq 0 = 224 by decide +kernel) ▸ lc_feed X hi hσ hR kk
  | 1, _ => (show tgtq 1 = 287 by decide +kernel) ▸ lc_text X hi hσ hR kk
  | 2, _ => (show tgtq 2 = 310 by decide +kernel) ▸ lc_fault X hi hσ hR kk
  | 3, _ => (show tgtq 3 = 333 by decide +kernel) ▸ lc_terms X hi hσ hR kk
  | 4, _ => (show tgtq 4 = 366 by decide +kernel) ▸ lc_add X hi hσ hR kk
  | 5, _ => (show tgtq 5 = 409 by decide +kernel) ▸ lc_post X hi hσ hR kk
  | 6, _ => (show tgtq 6 = 442 by decide +kernel) ▸ lc_audit X hi hσ hR kk
  | 7, _ => (show tgtq 7 = 475 by decide +kernel) ▸ lc_forget X hi hσ hR kk
  | 8, _ => (show tgtq 8 = 498 by decide +kernel) ▸ lc_interval X hi hσ hR kk
  | 9, _ => (show tgtq 9 = 521 by decide +kernel) ▸ lc_plan X hi hσ hR kk
  | 10, _ => (show tgtq 10 = 534 by decide +kernel) ▸ lc_draw X hi hσ hR kk
  | 11, _ => (show tgtq 11 = 547 by decide +kernel) ▸ lc_clear X hi hσ hR kk
  | 12, _ => (show tgtq 12 = 560 by decide +kernel) ▸ lc_find X hi hσ hR kk
  | 13, _ => (show tgtq 13 = 593 by decide +kernel) ▸ lc_item X hi hσ hR kk
  | 14, _ => (show tgtq 14 = 626 by decide +kernel) ▸ lc_coin X hi hσ hR kk
  | 15, _ => (show tgtq 15 = 659 by decide +kernel) ▸ lc_hit X hi hσ hR kk
  | 16, _ => (show tgtq 16 = 692 by decide +kernel) ▸ lc_start X hi hσ hR kk
  | 17, _ => (show tgtq 17 = 715 by decide +kernel) ▸ lc_certain X hi hσ hR kk
  | 18, _ => (show tgtq 18 = 738 by decide +kernel) ▸ lc_lacking X hi hσ hR kk
  | 19, _ => (show tgtq 19 = 761 by decide +kernel) ▸ lc_account X hi hσ hR kk
  | 20, _ => (show tgtq 20 = 794 by decide +kernel) ▸ lc_accounts X hi hσ hR kk
  | 21, _ => (show tgtq 21 = 817 by decide +kernel) ▸ lc_drawn X hi hσ hR kk
  | 22, _ => (show tgtq 22 = 840 by decide +kernel) ▸ lc_line X hi hσ hR kk
  | 23, _ => (show tgtq 23 = 873 by decide +kernel) ▸ lc_upper X hi hσ hR kk
  | 24, _ => (show tgtq 24 = 906 by decide +kernel) ▸ lc_size X hi hσ hR kk
  | 25, _ => (show tgtq 25 = 929 by decide +kernel) ▸ lc_projected X hi hσ hR kk
  | 26, _ => (show tgtq 26 = 952 by decide +kernel) ▸ lc_taint X hi hσ hR kk
  | 27, _ => (show tgtq 27 = 985 by decide +kernel) ▸ lc_bound X hi hσ hR kk
  | 28, _ => (show tgtq 28 = 1008 by decide +kernel) ▸ lc_below X hi hσ hR kk
  | 29, _ => (show tgtq 29 = 1031 by decide +kernel) ▸ lc_judged X hi hσ hR kk
  | 30, _ => (show tgtq 30 = 1044 by decide +kernel) ▸ lc_would X hi hσ hR kk
  | 31, _ => (show tgtq 31 = 1077 by decide +kernel) ▸ lc_dearest X hi hσ hR kk
  | 32, _ => (show tgtq 32 = 1090 by decide +kernel) ▸ lc_more X hi hσ hR kk
  | 33, _ => (show tgtq 33 = 1103 by decide +kernel) ▸ lc_step X hi hσ hR kk
  | 34, _ => (show tgtq 34 = 1136 by decide +kernel) ▸ lc_risky X hi hσ hR kk
  | 35, _ => (show tgtq 35 = 1149 by decide +kernel) ▸ lc_sizes X hi hσ hR kk
  | 36, _ => (show tgtq 36 = 1172 by decide +kernel) ▸ lc_trial X hi hσ hR kk
  | 37, _ => (show tgtq 37 = 1205 by decide +kernel) ▸ lc_covered X hi hσ hR kk
  | 38, _ => (show tgtq 38 = 1218 by decide +kernel) ▸ lc_caught X hi hσ hR kk
  | 39, _ => (show tgtq 39 = 1241 by decide +kernel) ▸ lc_worst X hi hσ hR kk
  | 40, _ => (show tgtq 40 = 1264 by decide +kernel) ▸ lc_chance X hi hσ hR kk
  | 41, _ => (show tgtq 41 = 1287 by decide +kernel) ▸ lc_were X hi hσ hR kk
  | 42, _ => (show tgtq 42 = 1330 by decide +kernel) ▸ lc_both X hi hσ hR kk
  | 43, _ => (show tgtq 43 = 1363 by decide +kernel) ▸ lc_count X hi hσ hR kk
  | t + 44, h => absurd h (by omega)
theorem la_step (X : LX p s m args meth c G b L xs) (hiL : i ≤ L) (hσ : WF σ) (hR : RL σ) (hend : ∀ (H : Heap) (lsA : Array Slot), W p l e room_1 s m args below meth c H [] 57 6305 Z (F0 m 1393 lsA [.int 1]))
    (kk : i + 6 ≤ L → ∀ σ2, WF σ2 → RL σ2 → LW p l e s m args below meth c G b Z (i + 6) 18 [] σ2) : LW p l e s m args below meth c G b Z i 18 [] σ := by
  obtain ⟨hx, hb, hml, hown, hts, hK, hnj, hlt, hE, hX, hbl, hL⟩ := id X
  have hbA : ¬ (fun q : Nat => s.heap.size ≤ q) b := Nat.not_le.mpr hbl
  have hn : Int32.ofNat L = Int32.ofInt (L : Int) := rfl
  intro H locs lsA hP hS hl
  refine lv_iload_n hx hb (show decode code 18 = .ok (.iload_n 3, 1) by decide +kernel) rfl (lv_at hl 3 rfl) ?_
  refine lv_aload_n hx hb (show decode code 19 = .ok (.aload_n 0, 1) by decide +kernel) rfl (lv_at hl 0 rfl) ?_
  refine va_slen hx hb hX hbl hbA hS (show decode code 20 = .ok (.arraylength, 1) by decide +kernel) ?_
  refine lv_bipush (v := Int32.ofInt 6) hx hb (show decode code 21 = .ok (.bipush 6, 2) by decide +kernel) (by decide) ?_
  refine lv_isub hx hb (show decode code 23 = .ok (.isub, 1) by decide +kernel) ?_
  rw [hn, qi_sub]
  refine lv_icmp_gt (tgt := 1392) hx hb (show decode code 24 = .ok (.if_icmp .gt 1368, 3) by decide +kernel) (by decide) (fun _ => ?_) (fun g => ?_)
  · refine lv_iconst (v := 1) hx hb (show decode code 1392 = .ok (.iconst 1, 1) by decide +kernel) (by decide) ?_
    exact va_forget (fun q hq => hS.2.2 q hq) (hend _ _)
  · rw [qi_lt (by omega) (by omega)] at g
    have hi6 : i + 6 ≤ L := by omega
    have hin : vp_in (Int32.ofInt (i : Int)) L := qi_in (by omega) (by omega) (by omega)
    have k2 : ∀ σ2, WF σ2 → RL σ2 → LW p l e s m args below meth c G b Z i 1386 [] σ2 := fun σ2 h1 h2 H locs lsA hP hS hl => by
      have e6 : Int32.ofInt (i : Int) + Int32.ofInt 6 = Int32.ofInt ((i + 6 : Nat) : Int) := by rw [qi_add]; rfl
      refine lv_iinc (v := Int32.ofInt ((i + 6 : Nat) : Int)) (lv' := [(3, .int (Int32.ofInt ((i + 6 : Nat) : Int))), (0, .ref b), (1, .ref (G.2.1 0)), (2, .ref (G.2.1 35))]) hx hb (show decode code 1386 = .ok (.iinc 3 6, 3) by decide +kernel) hl (k := 3) rfl e6 (by decide) rfl (fun ls hl => ?_)
      refine lv_goto (tgt := 18) hx hb (show decode code 1389 = .ok (.goto (-1371), 3) by decide +kernel) (by decide) ?_
      exact kk hi6 σ2 h1 h2 H locs ls hP hS (lv_sub hl [1, 2, 3, 0] rfl)
    refine lv_aload_n hx hb (show decode code 27 = .ok (.aload_n 0, 1) by decide +kernel) rfl (lv_at hl 0 rfl) ?_
    refine lv_iload_n hx hb (show decode code 28 = .ok (.iload_n 3, 1) by decide +kernel) rfl (lv_at hl 3 rfl) ?_
    refine va_sld hx hb hX hbl hbA hS hin (show decode code 29 = .ok (.iaload, 1) by decide +kernel) ?_
    refine lv_bipush (v := Int32.ofInt 63) hx hb (show decode code 30 = .ok (.bipush 63, 2) by decide +kernel) (by decide) ?_
    refine lv_iand hx hb (show decode code 32 = .ok (.iand, 1) by decide +kernel) ?_
    generalize xs (Int32.ofInt (i : Int)).toNatClampNeg &&& Int32.ofInt 63 = y
    by_cases hy : y.toInt < 0 ∨ 43 < y.toInt
    · exact lv_tableOut (tgt := 1386) hx hb d_law_33 hy (by decide) (k2 σ hσ hR H locs lsA hP hS hl)
    · have ht : y.toInt.toNat < 44 := by omega
      refine lv_tableIn (tgt := tgtq y.toInt.toNat) hx hb d_law_33 (by omega) (by omega) (off := (tgtq y.toInt.toNat : Int) - 33) ?_ ?_ (la_all X hi6 hσ hR k2 _ ht H locs lsA hP hS hl)
      · rw [Int.sub_zero]
        exact lofs_at _ ht
      · show (33 : Int) + _ = _
        omega
theorem la_loop (X : LX p s m args meth c G b L xs) (hend : ∀ (H : Heap) (lsA : Array Slot), W p l e room_1 s m args below meth c H [] 57 6305 Z (F0 m 1393 lsA [.int 1])) : ∀ (n i : Nat) (σ : St), i ≤ L → L ≤ i + n → WF σ → RL σ → LW p l e s m args below meth c G b Z i 18 [] σ := by
  intro n
  induction n with
  | zero => intro i σ h1 h2 hσ hR; exact la_step X h1 hσ hR hend (fun h => absurd h (by omega))
  | succ n ih => intro i σ h1 h2 hσ hR; exact la_step X h1 hσ hR hend (fun h σ2 g1 g2 => ih (i + 6) σ2 h (by omega) g1 g2)
end LC
