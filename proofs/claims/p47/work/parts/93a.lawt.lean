-- the law, from where the class stands made (printed by wip/gen/gen_wz.py)
def M_Cl_law (nm : String) : Md := (⟨"CoinSamplerLaw", nm, "([I)Z"⟩, code, 6, some .boolean, room_1.frames, room_1.locals)
theorem d_Cl_law_8 : decode code 8 = .ok (.new 28, 3) := by decide +kernel
theorem d_Cl_law_11 : decode code 11 = .ok (.dup, 1) := by decide +kernel
theorem d_Cl_law_12 : decode code 12 = .ok (.invokespecial 199, 3) := by decide +kernel
theorem d_Cl_law_15 : decode code 15 = .ok (.astore_n 2, 1) := by decide +kernel
theorem d_Cl_law_16 : decode code 16 = .ok (.iconst 1, 1) := by decide +kernel
theorem d_Cl_law_17 : decode code 17 = .ok (.newarray .int, 2) := by decide +kernel
theorem d_Cl_law_19 : decode code 19 = .ok (.dup, 1) := by decide +kernel
theorem d_Cl_law_20 : decode code 20 = .ok (.iconst 0, 1) := by decide +kernel
theorem d_Cl_law_21 : decode code 21 = .ok (.aload_n 0, 1) := by decide +kernel
theorem d_Cl_law_22 : decode code 22 = .ok (.iconst 0, 1) := by decide +kernel
theorem d_Cl_law_23 : decode code 23 = .ok (.invokestatic 200, 3) := by decide +kernel
theorem d_Cl_law_26 : decode code 26 = .ok (.iastore, 1) := by decide +kernel
theorem d_Cl_law_27 : decode code 27 = .ok (.astore_n 3, 1) := by decide +kernel
theorem d_Cl_law_28 : decode code 28 = .ok (.iconst 1, 1) := by decide +kernel
theorem d_Cl_law_29 : decode code 29 = .ok (.istore 4, 2) := by decide +kernel
theorem d_Cl_law_31 : decode code 31 = .ok (.iload 4, 2) := by decide +kernel
theorem d_Cl_law_33 : decode code 33 = .ok (.aload_n 0, 1) := by decide +kernel
theorem d_Cl_law_34 : decode code 34 = .ok (.arraylength, 1) := by decide +kernel
theorem d_Cl_law_35 : decode code 35 = .ok (.if_icmp .ge 127, 3) := by decide +kernel
theorem d_Cl_law_38 : decode code 38 = .ok (.iload 4, 2) := by decide +kernel
theorem d_Cl_law_40 : decode code 40 = .ok (.bipush 26, 2) := by decide +kernel
theorem d_Cl_law_42 : decode code 42 = .ok (.if_icmp .ge 120, 3) := by decide +kernel
theorem d_Cl_law_45 : decode code 45 = .ok (.aload_n 3, 1) := by decide +kernel
theorem d_Cl_law_46 : decode code 46 = .ok (.iconst 0, 1) := by decide +kernel
theorem d_Cl_law_47 : decode code 47 = .ok (.dup2, 1) := by decide +kernel
theorem d_Cl_law_48 : decode code 48 = .ok (.iaload, 1) := by decide +kernel
theorem d_Cl_law_49 : decode code 49 = .ok (.aload_n 0, 1) := by decide +kernel
theorem d_Cl_law_50 : decode code 50 = .ok (.iload 4, 2) := by decide +kernel
theorem d_Cl_law_52 : decode code 52 = .ok (.iaload, 1) := by decide +kernel
theorem d_Cl_law_53 : decode code 53 = .ok (.ixor, 1) := by decide +kernel
theorem d_Cl_law_54 : decode code 54 = .ok (.iastore, 1) := by decide +kernel
theorem d_Cl_law_55 : decode code 55 = .ok (.aload_n 1, 1) := by decide +kernel
theorem d_Cl_law_56 : decode code 56 = .ok (.aload_n 2, 1) := by decide +kernel
theorem d_Cl_law_57 : decode code 57 = .ok (.aload_n 3, 1) := by decide +kernel
theorem d_Cl_law_58 : decode code 58 = .ok (.iload 4, 2) := by decide +kernel
theorem d_Cl_law_60 : decode code 60 = .ok (.iconst 1, 1) := by decide +kernel
theorem d_Cl_law_61 : decode code 61 = .ok (.if_icmp .ne 7, 3) := by decide +kernel
theorem d_Cl_law_64 : decode code 64 = .ok (.iconst 0, 1) := by decide +kernel
theorem d_Cl_law_65 : decode code 65 = .ok (.goto 24, 3) := by decide +kernel
theorem d_Cl_law_68 : decode code 68 = .ok (.iload 4, 2) := by decide +kernel
theorem d_Cl_law_70 : decode code 70 = .ok (.iconst 2, 1) := by decide +kernel
theorem d_Cl_law_71 : decode code 71 = .ok (.if_icmp .ne 8, 3) := by decide +kernel
theorem d_Cl_law_74 : decode code 74 = .ok (.bipush 11, 2) := by decide +kernel
theorem d_Cl_law_76 : decode code 76 = .ok (.goto 13, 3) := by decide +kernel
theorem d_Cl_law_79 : decode code 79 = .ok (.aload_n 0, 1) := by decide +kernel
theorem d_Cl_law_80 : decode code 80 = .ok (.iload 4, 2) := by decide +kernel
theorem d_Cl_law_82 : decode code 82 = .ok (.iaload, 1) := by decide +kernel
theorem d_Cl_law_83 : decode code 83 = .ok (.ldc 203, 2) := by decide +kernel
theorem d_Cl_law_85 : decode code 85 = .ok (.iand, 1) := by decide +kernel
theorem d_Cl_law_86 : decode code 86 = .ok (.bipush 19, 2) := by decide +kernel
theorem d_Cl_law_88 : decode code 88 = .ok (.irem, 1) := by decide +kernel
theorem d_Cl_law_89 : decode code 89 = .ok (.invokestatic 204, 3) := by decide +kernel
theorem d_Cl_law_92 : decode code 92 = .ok (.ifCond .ne 5, 3) := by decide +kernel
theorem d_Cl_law_95 : decode code 95 = .ok (.iconst 0, 1) := by decide +kernel
theorem d_Cl_law_96 : decode code 96 = .ok (.ireturn, 1) := by decide +kernel
theorem d_Cl_law_97 : decode code 97 = .ok (.aload_n 2, 1) := by decide +kernel
theorem d_Cl_law_98 : decode code 98 = .ok (.invokevirtual 208, 3) := by decide +kernel
theorem d_Cl_law_101 : decode code 101 = .ok (.astore 5, 2) := by decide +kernel
theorem d_Cl_law_103 : decode code 103 = .ok (.aload_n 1, 1) := by decide +kernel
theorem d_Cl_law_104 : decode code 104 = .ok (.aload_n 2, 1) := by decide +kernel
theorem d_Cl_law_105 : decode code 105 = .ok (.aload 5, 2) := by decide +kernel
theorem d_Cl_law_107 : decode code 107 = .ok (.invokestatic 212, 3) := by decide +kernel
theorem d_Cl_law_110 : decode code 110 = .ok (.ifCond .eq 44, 3) := by decide +kernel
theorem d_Cl_law_113 : decode code 113 = .ok (.aload_n 1, 1) := by decide +kernel
theorem d_Cl_law_114 : decode code 114 = .ok (.aload_n 2, 1) := by decide +kernel
theorem d_Cl_law_115 : decode code 115 = .ok (.aload 5, 2) := by decide +kernel
theorem d_Cl_law_117 : decode code 117 = .ok (.aload_n 3, 1) := by decide +kernel
theorem d_Cl_law_118 : decode code 118 = .ok (.invokestatic 215, 3) := by decide +kernel
theorem d_Cl_law_121 : decode code 121 = .ok (.ifCond .eq 33, 3) := by decide +kernel
theorem d_Cl_law_124 : decode code 124 = .ok (.aload_n 1, 1) := by decide +kernel
theorem d_Cl_law_125 : decode code 125 = .ok (.aload_n 2, 1) := by decide +kernel
theorem d_Cl_law_126 : decode code 126 = .ok (.aload 5, 2) := by decide +kernel
theorem d_Cl_law_128 : decode code 128 = .ok (.invokestatic 219, 3) := by decide +kernel
theorem d_Cl_law_131 : decode code 131 = .ok (.ifCond .eq 23, 3) := by decide +kernel
theorem d_Cl_law_134 : decode code 134 = .ok (.aload_n 1, 1) := by decide +kernel
theorem d_Cl_law_135 : decode code 135 = .ok (.aload_n 2, 1) := by decide +kernel
theorem d_Cl_law_136 : decode code 136 = .ok (.aload 5, 2) := by decide +kernel
theorem d_Cl_law_138 : decode code 138 = .ok (.invokestatic 222, 3) := by decide +kernel
theorem d_Cl_law_141 : decode code 141 = .ok (.ifCond .eq 13, 3) := by decide +kernel
theorem d_Cl_law_144 : decode code 144 = .ok (.aload_n 1, 1) := by decide +kernel
theorem d_Cl_law_145 : decode code 145 = .ok (.aload_n 2, 1) := by decide +kernel
theorem d_Cl_law_146 : decode code 146 = .ok (.aload 5, 2) := by decide +kernel
theorem d_Cl_law_148 : decode code 148 = .ok (.invokestatic 225, 3) := by decide +kernel
theorem d_Cl_law_151 : decode code 151 = .ok (.ifCond .ne 5, 3) := by decide +kernel
theorem d_Cl_law_154 : decode code 154 = .ok (.iconst 0, 1) := by decide +kernel
theorem d_Cl_law_155 : decode code 155 = .ok (.ireturn, 1) := by decide +kernel
theorem d_Cl_law_156 : decode code 156 = .ok (.iinc 4 1, 3) := by decide +kernel
theorem d_Cl_law_159 : decode code 159 = .ok (.goto (-128), 3) := by decide +kernel
theorem d_Cl_law_162 : decode code 162 = .ok (.iconst 1, 1) := by decide +kernel
theorem d_Cl_law_163 : decode code 163 = .ok (.ireturn, 1) := by decide +kernel
section KZ
variable {z L : Nat} {xs : Nat → Int32} {G : Gq} {μ ν : Md} {vs : List Vq} {w : Wd} {mc ms pc rc rs : Nat} {ls : List (Nat × Vq)} {st : List Vq} {Q : Option Vq → Wd → Prop}
theorem DI.kz {K : Int → Wd → Prop} (h : DI G ν vs w mc ms K) (k : ∀ v w', Gw G w w' → K v w' → WZ z L xs G μ pc ls (vI v :: st) w' rc rs Q) : DC G ν vs w mc ms (fun r w' => WZ z L xs G μ pc ls (r.toList ++ st) w' rc rs Q) := DC.mono h (fun r w' _ _ _ hg hr => by obtain ⟨v, rfl, hv⟩ := hr; exact k v w' hg hv)
theorem DP.kz {K : Option Nat → Wd → Prop} (h : DP G ν vs w mc ms K) (k : ∀ v w', Gw G w w' → K v w' → WZ z L xs G μ pc ls (vP v :: st) w' rc rs Q) : DC G ν vs w mc ms (fun r w' => WZ z L xs G μ pc ls (r.toList ++ st) w' rc rs Q) := DC.mono h (fun r w' _ _ _ hg hr => by obtain ⟨v, rfl, hv⟩ := hr; exact k v w' hg hv)
theorem DV.kz {K : Wd → Prop} (h : DV G ν vs w mc ms K) (k : ∀ w', Gw G w w' → K w' → WZ z L xs G μ pc ls st w' rc rs Q) : DC G ν vs w mc ms (fun r w' => WZ z L xs G μ pc ls (r.toList ++ st) w' rc rs Q) := DC.mono h (fun r w' _ _ _ hg hr => by obtain ⟨rfl, hv⟩ := hr; exact k w' hg hv)
end KZ
set_option maxRecDepth 20000 in
theorem ez_Cl_cell {nm : String} {z L : Nat} {xs : Nat → Int32} (hL : (L : Int) ≤ 260) {G : Gq} {K : Int → Wd → Prop} {w : Wd} {mc ms : Nat} (x1 : Int) (h : ((L : Int) ≤ x1 → K 0 w) ∧ (¬ (L : Int) ≤ x1 → (0 ≤ x1) ∧ (x1 < (L : Int)) ∧ K ((xs (x1).toNat).toInt) w)) : ZI z L xs G M_Cl_cell [vA z, vI x1] w mc ms K := by
  refine ZC.of ok_M_Cl_cell (ls := [(0, vA z), (1, vI x1)]) rfl (Nat.le_of_ble_eq_true rfl) ?_
  refine z_iload_n d_Cl_cell_0 rfl (?_ : WZ _ _ _ _ _ 1 _ _ _ _ _ _)
  refine z_aload_nP (some z) d_Cl_cell_1 rfl (?_ : WZ _ _ _ _ _ 2 _ _ _ _ _ _)
  refine z_slen hL d_Cl_cell_2 (?_ : WZ _ _ _ _ _ 3 _ _ _ _ _ _)
  refine z_icmp_ge 12 d_Cl_cell_3 rfl ⟨fun c1 => (?_ : WZ _ _ _ _ _ 12 _ _ _ _ _ _), fun c1 => (?_ : WZ _ _ _ _ _ 6 _ _ _ _ _ _)⟩
  · replace h := h.1 c1
    refine z_iconst d_Cl_cell_12 (by decide) (?_ : WZ _ _ _ _ _ 13 _ _ _ _ _ _)
    exact z_ireturn rfl d_Cl_cell_13 h
  · replace h := h.2 c1
    refine z_aload_nP (some z) d_Cl_cell_6 rfl (?_ : WZ _ _ _ _ _ 7 _ _ _ _ _ _)
    refine z_iload_n d_Cl_cell_7 rfl (?_ : WZ _ _ _ _ _ 8 _ _ _ _ _ _)
    obtain ⟨h2, h⟩ := h
    obtain ⟨h3, h⟩ := h
    refine z_sld d_Cl_cell_8 h2 h3 (?_ : WZ _ _ _ _ _ 9 _ _ _ _ _ _)
    refine z_goto 13 d_Cl_cell_9 rfl ?_
    exact z_ireturn rfl d_Cl_cell_13 h
set_option maxRecDepth 20000 in
theorem l_Cl_law_1 {nm : String} {z L : Nat} {xs : Nat → Int32} (hL : (L : Int) ≤ 260) {G : Gq} {K : Int → Wd → Prop} {w : Wd} {rc rs : Nat} (h : (1 ≤ rc) ∧ (7 ≤ rs) ∧ ∀ q3 : Nat, Fr G w q3 → (∃ c5 s6 : Nat, c5 ≤ (rc - 1) ∧ s6 ≤ (rs - 7) ∧ (DV G M_Bo_init [vA q3] (uN w q3 (kO 11)) c5 s6 (fun w9 => (1 ≤ ((rc - 1) - c5)) ∧ (1 ≤ ((rs - 7) - s6)) ∧ ∀ q13 : Nat, Fr G w9 q13 → (ZI z L xs G M_Cl_cell [vA z, vI 0] (uN w9 q13 (kA 0 1)) 0 0 (fun v16 w15 => (0 < (1 : Int)) ∧ WZ z L xs G (M_Cl_law nm) 31 [(0, vA z), (1, vR 0), (2, vA q3), (3, vA q13), (4, vI 1)] [] (uI w15 q13 0 v16) (((rc - 1) - c5) - 1) (((rs - 7) - s6) - 1) (yI K))))))) : WZ z L xs G (M_Cl_law nm) 8 [(0, vA z), (1, vR 0)] [] w rc rs (yI K) := by
  obtain ⟨h1, h⟩ := h
  obtain ⟨h2, h⟩ := h
  refine z_new d_Cl_law_8 clk_11 tyX11_ok (qm_2 (i := 119) rfl rfl) (qm_2 (i := 120) rfl rfl) (qm_1 (i := 12) rfl rfl) hfd_11 h1 h2 (fun q3 fq3 => (?_ : WZ _ _ _ _ _ 11 _ _ _ _ _ _))
  replace h := h q3 fq3
  have k4 : Ow (uN w q3 (kO 11)) q3 (kO 11) := Ow.nw
  refine z_dup d_Cl_law_11 rfl (?_ : WZ _ _ _ _ _ 12 _ _ _ _ _ _)
  obtain ⟨c5, s6, h7, h8, h⟩ := h
  refine z_callIN (ν := M_Bo_init) "CoinSamplerLaw" [] ok_M_Bo_init oki_M_Bo_init rfl rfl (by show Cond.methodLinkNest "CoinSamplerLaw" 199 (mn M_Bo_init) "CoinSamplerLaw" ∈ nwq; decide) np_M_Bo_init rfl ⟨Nat.le_of_ble_eq_true rfl, Nat.le_of_ble_eq_true rfl⟩ (Nat.le_of_ble_eq_true rfl) rfl d_Cl_law_12 h7 h8 (DV.kz h (fun w9 gw9 h => (?_ : WZ _ _ _ _ _ 15 _ _ _ _ _ _)))
  refine z_astore_nP (some q3) (ls' := [(2, vA q3), (0, vA z), (1, vR 0)]) d_Cl_law_15 rfl (Nat.le_of_ble_eq_true rfl) rfl (?_ : WZ _ _ _ _ _ 16 _ _ _ _ _ _)
  refine z_iconst d_Cl_law_16 (by decide) (?_ : WZ _ _ _ _ _ 17 _ _ _ _ _ _)
  obtain ⟨h11, h⟩ := h
  obtain ⟨h12, h⟩ := h
  refine z_newa (t := 0) 1 rfl d_Cl_law_17 rfl (qm_1 (i := 107) rfl rfl) (fun _ => rfl) (fun _ _ => rfl) (fun _ => rfl) (by decide) (by decide) h11 h12 (fun q13 fq13 => (?_ : WZ _ _ _ _ _ 19 _ _ _ _ _ _))
  replace h := h q13 fq13
  have k14 : Ow (uN w9 q13 (kA 0 1)) q13 (kA 0 1) := Ow.nw
  refine z_dup d_Cl_law_19 rfl (?_ : WZ _ _ _ _ _ 20 _ _ _ _ _ _)
  refine z_iconst d_Cl_law_20 (by decide) (?_ : WZ _ _ _ _ _ 21 _ _ _ _ _ _)
  refine z_aload_nP (some z) d_Cl_law_21 rfl (?_ : WZ _ _ _ _ _ 22 _ _ _ _ _ _)
  refine z_iconst d_Cl_law_22 (by decide) (?_ : WZ _ _ _ _ _ 23 _ _ _ _ _ _)
  refine z_callSZ (ν := M_Cl_cell) [vA z, vI 0] ok_M_Cl_cell oks_M_Cl_cell (qm_3 (i := 172) rfl rfl) np_M_Cl_cell rfl ⟨Nat.le_of_ble_eq_true rfl, Nat.le_of_ble_eq_true rfl⟩ (Nat.le_of_ble_eq_true rfl) rfl d_Cl_law_23 (Nat.zero_le _) (Nat.zero_le _) (ZI.k h (fun v16 w15 gw15 h => (?_ : WZ _ _ _ _ _ 26 _ _ _ _ _ _)))
  obtain ⟨h17, h⟩ := h
  refine z_iast (k14.q gw15.k) d_Cl_law_26 (by decide) h17 (?_ : WZ _ _ _ _ _ 27 _ _ _ _ _ _)
  refine z_astore_nP (some q13) (ls' := [(3, vA q13), (2, vA q3), (0, vA z), (1, vR 0)]) d_Cl_law_27 rfl (Nat.le_of_ble_eq_true rfl) rfl (?_ : WZ _ _ _ _ _ 28 _ _ _ _ _ _)
  refine z_iconst d_Cl_law_28 (by decide) (?_ : WZ _ _ _ _ _ 29 _ _ _ _ _ _)
  refine z_istore (ls' := [(4, vI 1), (3, vA q13), (2, vA q3), (0, vA z), (1, vR 0)]) d_Cl_law_29 (Nat.le_of_ble_eq_true rfl) rfl (?_ : WZ _ _ _ _ _ 31 _ _ _ _ _ _)
  refine z_pick (ls' := [(0, vA z), (1, vR 0), (2, vA q3), (3, vA q13), (4, vI 1)]) [3, 4, 2, 1, 0] rfl ?_
  exact h
set_option maxRecDepth 20000 in
theorem l_Cl_law_2 {nm : String} {z L : Nat} {xs : Nat → Int32} (hL : (L : Int) ≤ 260) {G : Gq} {K : Int → Wd → Prop} {w : Wd} {rc rs : Nat} (x2 : Nat) (x3 : Nat) (x4 : Int) (h : ((L : Int) ≤ x4 → K 1 w) ∧ (¬ (L : Int) ≤ x4 → (26 ≤ x4 → K 1 w) ∧ (¬ 26 ≤ x4 → ∃ n20 : Nat, ((Is G w x3 (kA 0 n20)) ∧ (0 < (n20 : Int)) ∧ (0 ≤ x4) ∧ (x4 < (L : Int)) ∧ (Ow w x3 (kA 0 n20)) ∧ (¬ x4 = 1 → (¬ x4 = 2 → (0 ≤ (iandq ((xs (x4).toNat).toInt) 2147483647)) ∧ WZ z L xs G (M_Cl_law nm) 89 [(0, vA z), (1, vR 0), (2, vA x2), (3, vA x3), (4, vI x4)] [vI ((iandq ((xs (x4).toNat).toInt) 2147483647) % 19), vA x3, vA x2, vR 0] (uI w x3 0 (ixorq (wI w x3 0) ((xs (x4).toNat).toInt))) rc rs (yI K)) ∧ (x4 = 2 → WZ z L xs G (M_Cl_law nm) 89 [(0, vA z), (1, vR 0), (2, vA x2), (3, vA x3), (4, vI x4)] [vI 11, vA x3, vA x2, vR 0] (uI w x3 0 (ixorq (wI w x3 0) ((xs (x4).toNat).toInt))) rc rs (yI K))) ∧ (x4 = 1 → WZ z L xs G (M_Cl_law nm) 89 [(0, vA z), (1, vR 0), (2, vA x2), (3, vA x3), (4, vI x4)] [vI 0, vA x3, vA x2, vR 0] (uI w x3 0 (ixorq (wI w x3 0) ((xs (x4).toNat).toInt))) rc rs (yI K)))))) : WZ z L xs G (M_Cl_law nm) 31 [(0, vA z), (1, vR 0), (2, vA x2), (3, vA x3), (4, vI x4)] [] w rc rs (yI K) := by
  refine z_iload d_Cl_law_31 rfl (?_ : WZ _ _ _ _ _ 33 _ _ _ _ _ _)
  refine z_aload_nP (some z) d_Cl_law_33 rfl (?_ : WZ _ _ _ _ _ 34 _ _ _ _ _ _)
  refine z_slen hL d_Cl_law_34 (?_ : WZ _ _ _ _ _ 35 _ _ _ _ _ _)
  refine z_icmp_ge 162 d_Cl_law_35 rfl ⟨fun c18 => (?_ : WZ _ _ _ _ _ 162 _ _ _ _ _ _), fun c18 => (?_ : WZ _ _ _ _ _ 38 _ _ _ _ _ _)⟩
  · replace h := h.1 c18
    refine z_iconst d_Cl_law_162 (by decide) (?_ : WZ _ _ _ _ _ 163 _ _ _ _ _ _)
    exact z_zreturn rfl d_Cl_law_163 (by decide) h
  · replace h := h.2 c18
    refine z_iload d_Cl_law_38 rfl (?_ : WZ _ _ _ _ _ 40 _ _ _ _ _ _)
    refine z_bipush d_Cl_law_40 (by decide) (by decide) (?_ : WZ _ _ _ _ _ 42 _ _ _ _ _ _)
    refine z_icmp_ge 162 d_Cl_law_42 rfl ⟨fun c19 => (?_ : WZ _ _ _ _ _ 162 _ _ _ _ _ _), fun c19 => (?_ : WZ _ _ _ _ _ 45 _ _ _ _ _ _)⟩
    · replace h := h.1 c19
      refine z_iconst d_Cl_law_162 (by decide) (?_ : WZ _ _ _ _ _ 163 _ _ _ _ _ _)
      exact z_zreturn rfl d_Cl_law_163 (by decide) h
    · replace h := h.2 c19
      refine z_aload_nP (some x3) d_Cl_law_45 rfl (?_ : WZ _ _ _ _ _ 46 _ _ _ _ _ _)
      refine z_iconst d_Cl_law_46 (by decide) (?_ : WZ _ _ _ _ _ 47 _ _ _ _ _ _)
      refine z_dup2 d_Cl_law_47 rfl rfl (?_ : WZ _ _ _ _ _ 48 _ _ _ _ _ _)
      obtain ⟨n20, h⟩ := h
      obtain ⟨k21, h⟩ := h
      obtain ⟨h22, h⟩ := h
      refine z_iald k21 d_Cl_law_48 (by decide) h22 (y := (wI w x3 0)) rfl (?_ : WZ _ _ _ _ _ 49 _ _ _ _ _ _)
      refine z_aload_nP (some z) d_Cl_law_49 rfl (?_ : WZ _ _ _ _ _ 50 _ _ _ _ _ _)
      refine z_iload d_Cl_law_50 rfl (?_ : WZ _ _ _ _ _ 52 _ _ _ _ _ _)
      obtain ⟨h23, h⟩ := h
      obtain ⟨h24, h⟩ := h
      refine z_sld d_Cl_law_52 h23 h24 (?_ : WZ _ _ _ _ _ 53 _ _ _ _ _ _)
      refine z_ixorq d_Cl_law_53 (?_ : WZ _ _ _ _ _ 54 _ _ _ _ _ _)
      obtain ⟨k25, h⟩ := h
      refine z_iast k25 d_Cl_law_54 (by decide) h22 (?_ : WZ _ _ _ _ _ 55 _ _ _ _ _ _)
      refine z_aload_n d_Cl_law_55 rfl (?_ : WZ _ _ _ _ _ 56 _ _ _ _ _ _)
      refine z_aload_nP (some x2) d_Cl_law_56 rfl (?_ : WZ _ _ _ _ _ 57 _ _ _ _ _ _)
      refine z_aload_nP (some x3) d_Cl_law_57 rfl (?_ : WZ _ _ _ _ _ 58 _ _ _ _ _ _)
      refine z_iload d_Cl_law_58 rfl (?_ : WZ _ _ _ _ _ 60 _ _ _ _ _ _)
      refine z_iconst d_Cl_law_60 (by decide) (?_ : WZ _ _ _ _ _ 61 _ _ _ _ _ _)
      refine z_icmp_ne 68 d_Cl_law_61 rfl ⟨fun c26 => (?_ : WZ _ _ _ _ _ 68 _ _ _ _ _ _), fun c26 => (?_ : WZ _ _ _ _ _ 64 _ _ _ _ _ _)⟩
      · replace h := h.1 c26
        refine z_iload d_Cl_law_68 rfl (?_ : WZ _ _ _ _ _ 70 _ _ _ _ _ _)
        refine z_iconst d_Cl_law_70 (by decide) (?_ : WZ _ _ _ _ _ 71 _ _ _ _ _ _)
        refine z_icmp_ne 79 d_Cl_law_71 rfl ⟨fun c27 => (?_ : WZ _ _ _ _ _ 79 _ _ _ _ _ _), fun c27 => (?_ : WZ _ _ _ _ _ 74 _ _ _ _ _ _)⟩
        · replace h := h.1 c27
          refine z_aload_nP (some z) d_Cl_law_79 rfl (?_ : WZ _ _ _ _ _ 80 _ _ _ _ _ _)
          refine z_iload d_Cl_law_80 rfl (?_ : WZ _ _ _ _ _ 82 _ _ _ _ _ _)
          refine z_sld d_Cl_law_82 h23 h24 (?_ : WZ _ _ _ _ _ 83 _ _ _ _ _ _)
          refine z_ldc 2147483647 d_Cl_law_83 (qm_10 (i := 171) rfl rfl) (by decide) (by decide) (?_ : WZ _ _ _ _ _ 85 _ _ _ _ _ _)
          refine z_iandq d_Cl_law_85 (?_ : WZ _ _ _ _ _ 86 _ _ _ _ _ _)
          refine z_bipush d_Cl_law_86 (by decide) (by decide) (?_ : WZ _ _ _ _ _ 88 _ _ _ _ _ _)
          obtain ⟨h28, h⟩ := h
          refine z_iremn d_Cl_law_88 h28 (by decide) (?_ : WZ _ _ _ _ _ 89 _ _ _ _ _ _)
          exact h
        · replace h := h.2 c27
          refine z_bipush d_Cl_law_74 (by decide) (by decide) (?_ : WZ _ _ _ _ _ 76 _ _ _ _ _ _)
          refine z_goto 89 d_Cl_law_76 rfl ?_
          exact h
      · replace h := h.2 c26
        refine z_iconst d_Cl_law_64 (by decide) (?_ : WZ _ _ _ _ _ 65 _ _ _ _ _ _)
        refine z_goto 89 d_Cl_law_65 rfl ?_
        exact h
set_option maxRecDepth 20000 in
theorem l_Cl_law_3 {nm : String} {z L : Nat} {xs : Nat → Int32} (hL : (L : Int) ≤ 260) {G : Gq} {K : Int → Wd → Prop} {w : Wd} {rc rs : Nat} (x2 : Nat) (x3 : Nat) (x4 : Int) (y0 : Int) (y1 : Nat) (y2 : Nat) (h : ∃ c29 s30 : Nat, c29 ≤ rc ∧ s30 ≤ rs ∧ (DI G M_Cl_act [vR 0, vA y2, vA y1, vI y0] w c29 s30 (fun v34 w33 => (¬ v34 = 0 → WZ z L xs G (M_Cl_law nm) 97 [(0, vA z), (1, vR 0), (2, vA x2), (3, vA x3), (4, vI x4)] [] w33 (rc - c29) (rs - s30) (yI K)) ∧ (v34 = 0 → K 0 w33)))) : WZ z L xs G (M_Cl_law nm) 89 [(0, vA z), (1, vR 0), (2, vA x2), (3, vA x3), (4, vI x4)] [vI y0, vA y1, vA y2, vR 0] w rc rs (yI K) := by
  obtain ⟨c29, s30, h31, h32, h⟩ := h
  refine z_callS (ν := M_Cl_act) [vR 0, vA y2, vA y1, vI y0] ok_M_Cl_act oks_M_Cl_act (qm_3 (i := 175) rfl rfl) np_M_Cl_act rfl ⟨Nat.le_of_ble_eq_true rfl, Nat.le_of_ble_eq_true rfl⟩ (Nat.le_of_ble_eq_true rfl) rfl d_Cl_law_89 h31 h32 (DI.kz h (fun v34 w33 gw33 h => (?_ : WZ _ _ _ _ _ 92 _ _ _ _ _ _)))
  refine z_if_ne 97 d_Cl_law_92 rfl ⟨fun c35 => (?_ : WZ _ _ _ _ _ 97 _ _ _ _ _ _), fun c35 => (?_ : WZ _ _ _ _ _ 95 _ _ _ _ _ _)⟩
  · replace h := h.1 c35
    exact h
  · replace h := h.2 c35
    refine z_iconst d_Cl_law_95 (by decide) (?_ : WZ _ _ _ _ _ 96 _ _ _ _ _ _)
    exact z_zreturn rfl d_Cl_law_96 (by decide) h
set_option maxRecDepth 20000 in
theorem l_Cl_law_4 {nm : String} {z L : Nat} {xs : Nat → Int32} (hL : (L : Int) ≤ 260) {G : Gq} {K : Int → Wd → Prop} {w : Wd} {rc rs : Nat} (x2 : Nat) (x3 : Nat) (x4 : Int) (h : ∃ c36 s37 : Nat, c36 ≤ rc ∧ s37 ≤ rs ∧ ((Is G w x2 (kO 11)) ∧ DP G M_Bo_hits [vA x2] w c36 s37 (fun v42 w41 => ∃ a43 : Nat, v42 = some a43 ∧ (∃ c45 s46 : Nat, c45 ≤ (rc - c36) ∧ s46 ≤ (rs - s37) ∧ (DI G M_Cl_items [vR 0, vA x2, vA a43] w41 c45 s46 (fun v50 w49 => (v50 = 0 → K 0 w49) ∧ (¬ v50 = 0 → ∃ c52 s53 : Nat, c52 ≤ ((rc - c36) - c45) ∧ s53 ≤ ((rs - s37) - s46) ∧ (DI G M_Cl_walk [vR 0, vA x2, vA a43, vA x3] w49 c52 s53 (fun v57 w56 => (v57 = 0 → K 0 w56) ∧ (¬ v57 = 0 → ∃ c59 s60 : Nat, c59 ≤ (((rc - c36) - c45) - c52) ∧ s60 ≤ (((rs - s37) - s46) - s53) ∧ (DI G M_Cl_lists [vR 0, vA x2, vA a43] w56 c59 s60 (fun v64 w63 => (v64 = 0 → K 0 w63) ∧ (¬ v64 = 0 → ∃ c66 s67 : Nat, c66 ≤ ((((rc - c36) - c45) - c52) - c59) ∧ s67 ≤ ((((rs - s37) - s46) - s53) - s60) ∧ (DI G M_Cl_makes [vR 0, vA x2, vA a43] w63 c66 s67 (fun v71 w70 => (v71 = 0 → K 0 w70) ∧ (¬ v71 = 0 → ∃ c73 s74 : Nat, c73 ≤ (((((rc - c36) - c45) - c52) - c59) - c66) ∧ s74 ≤ (((((rs - s37) - s46) - s53) - s60) - s67) ∧ (DI G M_Cl_counts [vR 0, vA x2, vA a43] w70 c73 s74 (fun v78 w77 => (¬ v78 = 0 → (inR (x4 + 1)) ∧ WZ z L xs G (M_Cl_law nm) 31 [(0, vA z), (1, vR 0), (2, vA x2), (3, vA x3), (4, vI (x4 + 1))] [] w77 ((((((rc - c36) - c45) - c52) - c59) - c66) - c73) ((((((rs - s37) - s46) - s53) - s60) - s67) - s74) (yI K)) ∧ (v78 = 0 → K 0 w77))))))))))))))))))) : WZ z L xs G (M_Cl_law nm) 97 [(0, vA z), (1, vR 0), (2, vA x2), (3, vA x3), (4, vI x4)] [] w rc rs (yI K) := by
  refine z_aload_nP (some x2) d_Cl_law_97 rfl (?_ : WZ _ _ _ _ _ 98 _ _ _ _ _ _)
  obtain ⟨c36, s37, h38, h39, h⟩ := h
  obtain ⟨k40, h⟩ := h
  refine z_callV (ν := M_Bo_hits) [] ok_M_Bo_hits okv_M_Bo_hits k40 rfl rfl (qm_2 (i := 182) rfl rfl) np_M_Bo_hits rfl ⟨Nat.le_of_ble_eq_true rfl, Nat.le_of_ble_eq_true rfl⟩ (Nat.le_of_ble_eq_true rfl) rfl d_Cl_law_98 h38 h39 (DP.kz h (fun v42 w41 gw41 h => (?_ : WZ _ _ _ _ _ 101 _ _ _ _ _ _)))
  refine z_astoreP v42 (ls' := [(5, vP v42), (0, vA z), (1, vR 0), (2, vA x2), (3, vA x3), (4, vI x4)]) d_Cl_law_101 (Nat.le_of_ble_eq_true rfl) rfl (?_ : WZ _ _ _ _ _ 103 _ _ _ _ _ _)
  refine z_aload_n d_Cl_law_103 rfl (?_ : WZ _ _ _ _ _ 104 _ _ _ _ _ _)
  refine z_aload_nP (some x2) d_Cl_law_104 rfl (?_ : WZ _ _ _ _ _ 105 _ _ _ _ _ _)
  refine z_aloadP v42 d_Cl_law_105 rfl (?_ : WZ _ _ _ _ _ 107 _ _ _ _ _ _)
  obtain ⟨a43, e44, h⟩ := h
  rw [e44]
  obtain ⟨c45, s46, h47, h48, h⟩ := h
  refine z_callS (ν := M_Cl_items) [vR 0, vA x2, vA a43] ok_M_Cl_items oks_M_Cl_items (qm_6 (i := 108) rfl rfl) np_M_Cl_items rfl ⟨Nat.le_of_ble_eq_true rfl, Nat.le_of_ble_eq_true rfl⟩ (Nat.le_of_ble_eq_true rfl) rfl d_Cl_law_107 h47 h48 (DI.kz h (fun v50 w49 gw49 h => (?_ : WZ _ _ _ _ _ 110 _ _ _ _ _ _)))
  refine z_if_eq 154 d_Cl_law_110 rfl ⟨fun c51 => (?_ : WZ _ _ _ _ _ 154 _ _ _ _ _ _), fun c51 => (?_ : WZ _ _ _ _ _ 113 _ _ _ _ _ _)⟩
  · replace h := h.1 c51
    refine z_iconst d_Cl_law_154 (by decide) (?_ : WZ _ _ _ _ _ 155 _ _ _ _ _ _)
    exact z_zreturn rfl d_Cl_law_155 (by decide) h
  · replace h := h.2 c51
    refine z_aload_n d_Cl_law_113 rfl (?_ : WZ _ _ _ _ _ 114 _ _ _ _ _ _)
    refine z_aload_nP (some x2) d_Cl_law_114 rfl (?_ : WZ _ _ _ _ _ 115 _ _ _ _ _ _)
    refine z_aloadP (some a43) d_Cl_law_115 rfl (?_ : WZ _ _ _ _ _ 117 _ _ _ _ _ _)
    refine z_aload_nP (some x3) d_Cl_law_117 rfl (?_ : WZ _ _ _ _ _ 118 _ _ _ _ _ _)
    obtain ⟨c52, s53, h54, h55, h⟩ := h
    refine z_callS (ν := M_Cl_walk) [vR 0, vA x2, vA a43, vA x3] ok_M_Cl_walk oks_M_Cl_walk (qm_9 (i := 166) rfl rfl) np_M_Cl_walk rfl ⟨Nat.le_of_ble_eq_true rfl, Nat.le_of_ble_eq_true rfl⟩ (Nat.le_of_ble_eq_true rfl) rfl d_Cl_law_118 h54 h55 (DI.kz h (fun v57 w56 gw56 h => (?_ : WZ _ _ _ _ _ 121 _ _ _ _ _ _)))
    refine z_if_eq 154 d_Cl_law_121 rfl ⟨fun c58 => (?_ : WZ _ _ _ _ _ 154 _ _ _ _ _ _), fun c58 => (?_ : WZ _ _ _ _ _ 124 _ _ _ _ _ _)⟩
    · replace h := h.1 c58
      refine z_iconst d_Cl_law_154 (by decide) (?_ : WZ _ _ _ _ _ 155 _ _ _ _ _ _)
      exact z_zreturn rfl d_Cl_law_155 (by decide) h
    · replace h := h.2 c58
      refine z_aload_n d_Cl_law_124 rfl (?_ : WZ _ _ _ _ _ 125 _ _ _ _ _ _)
      refine z_aload_nP (some x2) d_Cl_law_125 rfl (?_ : WZ _ _ _ _ _ 126 _ _ _ _ _ _)
      refine z_aloadP (some a43) d_Cl_law_126 rfl (?_ : WZ _ _ _ _ _ 128 _ _ _ _ _ _)
      obtain ⟨c59, s60, h61, h62, h⟩ := h
      refine z_callS (ν := M_Cl_lists) [vR 0, vA x2, vA a43] ok_M_Cl_lists oks_M_Cl_lists (qm_9 (i := 192) rfl rfl) np_M_Cl_lists rfl ⟨Nat.le_of_ble_eq_true rfl, Nat.le_of_ble_eq_true rfl⟩ (Nat.le_of_ble_eq_true rfl) rfl d_Cl_law_128 h61 h62 (DI.kz h (fun v64 w63 gw63 h => (?_ : WZ _ _ _ _ _ 131 _ _ _ _ _ _)))
      refine z_if_eq 154 d_Cl_law_131 rfl ⟨fun c65 => (?_ : WZ _ _ _ _ _ 154 _ _ _ _ _ _), fun c65 => (?_ : WZ _ _ _ _ _ 134 _ _ _ _ _ _)⟩
      · replace h := h.1 c65
        refine z_iconst d_Cl_law_154 (by decide) (?_ : WZ _ _ _ _ _ 155 _ _ _ _ _ _)
        exact z_zreturn rfl d_Cl_law_155 (by decide) h
      · replace h := h.2 c65
        refine z_aload_n d_Cl_law_134 rfl (?_ : WZ _ _ _ _ _ 135 _ _ _ _ _ _)
        refine z_aload_nP (some x2) d_Cl_law_135 rfl (?_ : WZ _ _ _ _ _ 136 _ _ _ _ _ _)
        refine z_aloadP (some a43) d_Cl_law_136 rfl (?_ : WZ _ _ _ _ _ 138 _ _ _ _ _ _)
        obtain ⟨c66, s67, h68, h69, h⟩ := h
        refine z_callS (ν := M_Cl_makes) [vR 0, vA x2, vA a43] ok_M_Cl_makes oks_M_Cl_makes (qm_10 (i := 18) rfl rfl) np_M_Cl_makes rfl ⟨Nat.le_of_ble_eq_true rfl, Nat.le_of_ble_eq_true rfl⟩ (Nat.le_of_ble_eq_true rfl) rfl d_Cl_law_138 h68 h69 (DI.kz h (fun v71 w70 gw70 h => (?_ : WZ _ _ _ _ _ 141 _ _ _ _ _ _)))
        refine z_if_eq 154 d_Cl_law_141 rfl ⟨fun c72 => (?_ : WZ _ _ _ _ _ 154 _ _ _ _ _ _), fun c72 => (?_ : WZ _ _ _ _ _ 144 _ _ _ _ _ _)⟩
        · replace h := h.1 c72
          refine z_iconst d_Cl_law_154 (by decide) (?_ : WZ _ _ _ _ _ 155 _ _ _ _ _ _)
          exact z_zreturn rfl d_Cl_law_155 (by decide) h
        · replace h := h.2 c72
          refine z_aload_n d_Cl_law_144 rfl (?_ : WZ _ _ _ _ _ 145 _ _ _ _ _ _)
          refine z_aload_nP (some x2) d_Cl_law_145 rfl (?_ : WZ _ _ _ _ _ 146 _ _ _ _ _ _)
          refine z_aloadP (some a43) d_Cl_law_146 rfl (?_ : WZ _ _ _ _ _ 148 _ _ _ _ _ _)
          obtain ⟨c73, s74, h75, h76, h⟩ := h
          refine z_callS (ν := M_Cl_counts) [vR 0, vA x2, vA a43] ok_M_Cl_counts oks_M_Cl_counts (qm_10 (i := 155) rfl rfl) np_M_Cl_counts rfl ⟨Nat.le_of_ble_eq_true rfl, Nat.le_of_ble_eq_true rfl⟩ (Nat.le_of_ble_eq_true rfl) rfl d_Cl_law_148 h75 h76 (DI.kz h (fun v78 w77 gw77 h => (?_ : WZ _ _ _ _ _ 151 _ _ _ _ _ _)))
          refine z_if_ne 156 d_Cl_law_151 rfl ⟨fun c79 => (?_ : WZ _ _ _ _ _ 156 _ _ _ _ _ _), fun c79 => (?_ : WZ _ _ _ _ _ 154 _ _ _ _ _ _)⟩
          · replace h := h.1 c79
            obtain ⟨h80, h⟩ := h
            refine z_iinc (ls' := [(4, vI (x4 + 1)), (5, vA a43), (0, vA z), (1, vR 0), (2, vA x2), (3, vA x3)]) d_Cl_law_156 rfl h80 (Nat.le_of_ble_eq_true rfl) rfl (?_ : WZ _ _ _ _ _ 159 _ _ _ _ _ _)
            refine z_goto 31 d_Cl_law_159 rfl ?_
            refine z_pick (ls' := [(0, vA z), (1, vR 0), (2, vA x2), (3, vA x3), (4, vI (x4 + 1))]) [2, 3, 4, 5, 0] rfl ?_
            exact h
          · replace h := h.2 c79
            refine z_iconst d_Cl_law_154 (by decide) (?_ : WZ _ _ _ _ _ 155 _ _ _ _ _ _)
            exact z_zreturn rfl d_Cl_law_155 (by decide) h
