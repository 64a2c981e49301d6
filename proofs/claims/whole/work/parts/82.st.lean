-- the start: classes, static arrays, texts
theorem tq_1 {w : Cond} {i : Nat} (h : tables_1_1[i]? = some w) : w ∈ lw_tbl := List.mem_append_right _ (List.mem_append_left _ (List.mem_of_getElem? h))
theorem tq_2 {w : Cond} {i : Nat} (h : tables_1_2[i]? = some w) : w ∈ lw_tbl := List.mem_append_right _ (List.mem_append_right _ (List.mem_append_left _ (List.mem_of_getElem? h)))
theorem tq_3 {w : Cond} {i : Nat} (h : tables_1_3[i]? = some w) : w ∈ lw_tbl := List.mem_append_right _ (List.mem_append_right _ (List.mem_append_right _ (List.mem_append_left _ (List.mem_of_getElem? h))))
theorem uw_tbl {args : Array Value} {s : State} (hts : ∀ w ∈ lw_tbl, w.before args s = true) : ∀ w ∈ UW, w.before args s = true := fun w hw => hts w (List.mem_filter.mp hw).1
theorem start_NL {args : Array Value} {s : State} (hts : ∀ w ∈ lw_tbl, w.before args s = true) : NL s := fun q hq => by
  have h : ∀ k : Nat, k < 6 → ∀ q, nlq[k]? = some q → va_Nw (.methodLinkNest q.1 q.2.1 q.2.2.1 q.2.2.2) s := fun k hk q hq => by
    match k, hk with
    | 0, _ => cases hq; exact va_Nw.of rfl (hts _ (tq_1 (i := 29) rfl))
    | 1, _ => cases hq; exact va_Nw.of rfl (hts _ (tq_1 (i := 44) rfl))
    | 2, _ => cases hq; exact va_Nw.of rfl (hts _ (tq_1 (i := 83) rfl))
    | 3, _ => cases hq; exact va_Nw.of rfl (hts _ (tq_1 (i := 108) rfl))
    | 4, _ => cases hq; exact va_Nw.of rfl (hts _ (tq_1 (i := 190) rfl))
    | 5, _ => cases hq; exact va_Nw.of rfl (hts _ (tq_2 (i := 34) rfl))
    | k + 6, h => omega
  obtain ⟨k, hk⟩ := List.mem_iff_getElem?.mp hq
  exact h k (List.getElem?_eq_some_iff.mp hk).1 q hk
theorem start_A {args : Array Value} {s : State} {ty : FieldType} (h : (Cond.arrayClass ty).before args s = true) : ∃ cA : ClassId, ArrOfT s cA ty ∧ s.vm.findClass ("[" ++ ty.toString) = some cA := by
  obtain ⟨cA, kA, comp, h1, h2, h3⟩ := Cond.arrayClass_spec h
  exact ⟨cA, fun N z => ⟨(fun k h => by cases h), kA, h2, comp, h3⟩, h1⟩
theorem start_K {args : Array Value} {s : State} (hts : ∀ w ∈ lw_tbl, w.before args s = true) : ∃ (D : va_G) (cA : Nat → ClassId), ∀ x : Nat → Nat, va_K D vwCl (tyq (D, x, cA)) s := by
  have hu := uw_tbl hts
  have hcl : ∀ k : Nat, ∃ x : ClassId × (Nat → Nat), ∀ q, vwCl[k]? = some q → u_Kn s q.1 q.2.1 q.2.2 x.1 x.2 := by
    intro k
    match k with
    | 0 =>
      obtain ⟨c0, i0, h⟩ := u_known (C := RX0) (T := TX0) (N := 12) (n := 12) hu cw_0 (hu _ (qm_1 (i := 205) rfl rfl))
      exact ⟨(c0, i0), fun q hq => by cases hq; exact h⟩
    | 1 =>
      obtain ⟨c0, i0, h⟩ := u_known (C := RX1) (T := TX1) (N := 3) (n := 3) hu cw_1 (hu _ (qm_1 (i := 189) rfl rfl))
      exact ⟨(c0, i0), fun q hq => by cases hq; exact h⟩
    | 2 =>
      obtain ⟨c0, i0, h⟩ := u_known (C := RX2) (T := TX2) (N := 6) (n := 6) hu cw_2 (hu _ (qm_1 (i := 118) rfl rfl))
      exact ⟨(c0, i0), fun q hq => by cases hq; exact h⟩
    | 3 =>
      obtain ⟨c0, i0, h⟩ := u_known (C := RX3) (T := TX3) (N := 5) (n := 5) hu cw_3 (hu _ (qm_1 (i := 43) rfl rfl))
      exact ⟨(c0, i0), fun q hq => by cases hq; exact h⟩
    | 4 =>
      obtain ⟨c0, i0, h⟩ := u_known (C := RX4) (T := TX4) (N := 2) (n := 2) hu cw_4 (hu _ (qm_2 (i := 33) rfl rfl))
      exact ⟨(c0, i0), fun q hq => by cases hq; exact h⟩
    | 5 =>
      obtain ⟨c0, i0, h⟩ := u_known (C := RX5) (T := TX5) (N := 6) (n := 6) hu cw_5 (hu _ (qm_1 (i := 77) rfl rfl))
      exact ⟨(c0, i0), fun q hq => by cases hq; exact h⟩
    | 6 =>
      obtain ⟨c0, i0, h⟩ := u_known (C := RX6) (T := TX6) (N := 5) (n := 5) hu cw_6 (hu _ (qm_2 (i := 10) rfl rfl))
      exact ⟨(c0, i0), fun q hq => by cases hq; exact h⟩
    | 7 =>
      obtain ⟨c0, i0, h⟩ := u_known (C := RX7) (T := TX7) (N := 2) (n := 2) hu cw_7 (hu _ (qm_1 (i := 28) rfl rfl))
      exact ⟨(c0, i0), fun q hq => by cases hq; exact h⟩
    | 8 =>
      obtain ⟨c0, i0, h⟩ := u_known (C := RX8) (T := TX8) (N := 1) (n := 1) hu cw_8 (hu _ (qm_1 (i := 107) rfl rfl))
      exact ⟨(c0, i0), fun q hq => by cases hq; exact h⟩
    | 9 =>
      obtain ⟨c0, i0, h⟩ := u_known (C := RX9) (T := TX9) (N := 8) (n := 8) hu cw_9 (hu _ (qm_1 (i := 150) rfl rfl))
      exact ⟨(c0, i0), fun q hq => by cases hq; exact h⟩
    | 10 =>
      obtain ⟨c0, i0, h⟩ := u_known (C := RX10) (T := TX10) (N := 11) (n := 11) hu cw_10 (hu _ (qm_1 (i := 20) rfl rfl))
      exact ⟨(c0, i0), fun q hq => by cases hq; exact h⟩
    | 11 =>
      obtain ⟨c0, i0, h⟩ := u_known (C := RX11) (T := TX11) (N := 36) (n := 36) hu cw_11 (hu _ (qm_5 (i := 28) rfl rfl))
      exact ⟨(c0, i0), fun q hq => by cases hq; exact h⟩
    | k + 12 => exact ⟨(0, fun _ => 0), fun q hq => by simp at hq⟩
  obtain ⟨dd, hdd⟩ := Classical.axiomOfChoice hcl
  obtain ⟨c0, a0, b0⟩ := start_A (hu _ (qm_1 (i := 75) rfl rfl))
  obtain ⟨c1, a1, b1⟩ := start_A (hu _ (qm_1 (i := 41) rfl rfl))
  obtain ⟨c2, a2, b2⟩ := start_A (hu _ (qm_2 (i := 31) rfl rfl))
  obtain ⟨c3, a3, b3⟩ := start_A (hu _ (qm_2 (i := 46) rfl rfl))
  refine ⟨(fun k => (dd k).1, fun k => (dd k).2), fun t => if t = 0 then c0 else if t = 1 then c1 else if t = 2 then c2 else c3, fun x => ⟨fun c q hq => hdd c q hq, fun k q hq => ?_⟩⟩
  match k, hq with
  | 0, hq => cases hq; exact ⟨a0, b0⟩
  | 1, hq => cases hq; exact ⟨a1, b1⟩
  | 2, hq => cases hq; exact ⟨a2, b2⟩
  | 3, hq => cases hq; exact ⟨a3, b3⟩
  | k + 4, hq => simp [tyq] at hq
theorem vk_S.cg {N : Nat} {len : List Nat} {byt : List (List Int32)} {k1 v1 k2 v2 : Nat → Nat} {A : Nat → Prop} {U : State} {H : Heap} (h : vk_S N len byt k1 v1 A U H) (hk : ∀ i, i < N → k2 i = k1 i) (hv : ∀ i, i < N → v2 i = v1 i) : vk_S N len byt k2 v2 A U H :=
  ⟨fun i hi => by rw [hk i hi, hv i hi]; exact h.1 i hi, fun i j hi hj e => h.2 i j hi hj (by rw [hk i hi, hk j hj] at e; exact e)⟩
set_option maxRecDepth 20000 in
theorem start_E {args : Array Value} {s : State} (hts : ∀ w ∈ lw_tbl, w.before args s = true) (hgv : (Jvm.Cond.and given_1 narrow_1).before args s = true) : ∃ x : Nat → Nat, ∀ G : Gq, (∀ k, 60 ≤ k → G.2.1 k = x k) → Extq G (fun q : Nat => s.heap.size ≤ q) s s.heap := by
  have hfl := flat_of_before _ hgv
  have hnot : ∀ a : Nat, a < s.heap.size → ¬ (fun q : Nat => s.heap.size ≤ q) a := fun a h => Nat.not_le.mpr h
  obtain ⟨tLEAST, eLEAST, zLEAST⟩ : ∃ t : Nat, (Term.static "CoinSampler$Terms" "LEAST" "[I").eval args s none [] s = some (.ref t) ∧ va_T .int t 5 (fun j => .int (Int32.ofInt (leastq (j : Int)))) (fun q : Nat => s.heap.size ≤ q) s s.heap := by
    refine va_Tof (by decide) (hfl (.arrayOf (.static "CoinSampler$Terms" "LEAST" "[I") .int) (by decide +kernel)) (va_eqt (hfl (.eq (.length (.static "CoinSampler$Terms" "LEAST" "[I")) (.int 5)) (by decide +kernel))) (fun j hj => ?_) hnot
    match j, hj with
    | 0, _ => exact va_eqt (hfl (.eq (.elem (.static "CoinSampler$Terms" "LEAST" "[I") (.int 0)) (.int 1)) (by decide +kernel))
    | 1, _ => exact va_eqt (hfl (.eq (.elem (.static "CoinSampler$Terms" "LEAST" "[I") (.int 1)) (.int 1)) (by decide +kernel))
    | 2, _ => exact va_eqt (hfl (.eq (.elem (.static "CoinSampler$Terms" "LEAST" "[I") (.int 2)) (.int 0)) (by decide +kernel))
    | 3, _ => exact va_eqt (hfl (.eq (.elem (.static "CoinSampler$Terms" "LEAST" "[I") (.int 3)) (.int 0)) (by decide +kernel))
    | 4, _ => exact va_eqt (hfl (.eq (.elem (.static "CoinSampler$Terms" "LEAST" "[I") (.int 4)) (.int 0)) (by decide +kernel))
    | j + 5, h => omega
  obtain ⟨tGREATEST, eGREATEST, zGREATEST⟩ : ∃ t : Nat, (Term.static "CoinSampler$Terms" "GREATEST" "[I").eval args s none [] s = some (.ref t) ∧ va_T .int t 5 (fun j => .int (Int32.ofInt (greatq (j : Int)))) (fun q : Nat => s.heap.size ≤ q) s s.heap := by
    refine va_Tof (by decide) (hfl (.arrayOf (.static "CoinSampler$Terms" "GREATEST" "[I") .int) (by decide +kernel)) (va_eqt (hfl (.eq (.length (.static "CoinSampler$Terms" "GREATEST" "[I")) (.int 5)) (by decide +kernel))) (fun j hj => ?_) hnot
    match j, hj with
    | 0, _ => exact va_eqt (hfl (.eq (.elem (.static "CoinSampler$Terms" "GREATEST" "[I") (.int 0)) (.int 9999999)) (by decide +kernel))
    | 1, _ => exact va_eqt (hfl (.eq (.elem (.static "CoinSampler$Terms" "GREATEST" "[I") (.int 1)) (.int 500)) (by decide +kernel))
    | 2, _ => exact va_eqt (hfl (.eq (.elem (.static "CoinSampler$Terms" "GREATEST" "[I") (.int 2)) (.int 9)) (by decide +kernel))
    | 3, _ => exact va_eqt (hfl (.eq (.elem (.static "CoinSampler$Terms" "GREATEST" "[I") (.int 3)) (.int 1)) (by decide +kernel))
    | 4, _ => exact va_eqt (hfl (.eq (.elem (.static "CoinSampler$Terms" "GREATEST" "[I") (.int 4)) (.int 1000003)) (by decide +kernel))
    | j + 5, h => omega
  obtain ⟨adK, adV, hS, hSe⟩ := vk_Sof (args := args) (s := s) (N := 2) (tm := fun i => if i = 0 then .string "CoinSampler$Reader" 47 else .string "CoinSampler$Reader" 53) (len := lenq) (byt := bytq) (A := fun q : Nat => s.heap.size ≤ q)
    (fun i hi => by
      match i, hi with
      | 0, _ => decide
      | 1, _ => decide
      | i + 2, h => omega)
    (fun i hi => by
      match i, hi with
      | 0, _ => exact hfl (.exactly (.string "CoinSampler$Reader" 47) "java/lang/String") (by decide +kernel)
      | 1, _ => exact hfl (.exactly (.string "CoinSampler$Reader" 53) "java/lang/String") (by decide +kernel)
      | i + 2, h => omega)
    (fun i hi => by
      match i, hi with
      | 0, _ => exact hfl (.eq (.field (.string "CoinSampler$Reader" 47) "java/lang/String" "coder" "B") (.int 0)) (by decide +kernel)
      | 1, _ => exact hfl (.eq (.field (.string "CoinSampler$Reader" 53) "java/lang/String" "coder" "B") (.int 0)) (by decide +kernel)
      | i + 2, h => omega)
    (fun i hi => by
      match i, hi with
      | 0, _ => exact hfl (.arrayOf (.field (.string "CoinSampler$Reader" 47) "java/lang/String" "value" "[B") .byte) (by decide +kernel)
      | 1, _ => exact hfl (.arrayOf (.field (.string "CoinSampler$Reader" 53) "java/lang/String" "value" "[B") .byte) (by decide +kernel)
      | i + 2, h => omega)
    (fun i hi => by
      match i, hi with
      | 0, _ => exact hfl (.eq (.length (.field (.string "CoinSampler$Reader" 47) "java/lang/String" "value" "[B")) (.int 4)) (by decide +kernel)
      | 1, _ => exact hfl (.eq (.length (.field (.string "CoinSampler$Reader" 53) "java/lang/String" "value" "[B")) (.int 5)) (by decide +kernel)
      | i + 2, h => omega)
    (fun i hi j hj => by
      match i, hi, j, hj with
      | 0, _, 0, _ => exact hfl (.eq (.elem (.field (.string "CoinSampler$Reader" 47) "java/lang/String" "value" "[B") (.int 0)) (.int 105)) (by decide +kernel)
      | 0, _, 1, _ => exact hfl (.eq (.elem (.field (.string "CoinSampler$Reader" 47) "java/lang/String" "value" "[B") (.int 1)) (.int 116)) (by decide +kernel)
      | 0, _, 2, _ => exact hfl (.eq (.elem (.field (.string "CoinSampler$Reader" 47) "java/lang/String" "value" "[B") (.int 2)) (.int 101)) (by decide +kernel)
      | 0, _, 3, _ => exact hfl (.eq (.elem (.field (.string "CoinSampler$Reader" 47) "java/lang/String" "value" "[B") (.int 3)) (.int 109)) (by decide +kernel)
      | 0, _, j + 4, h => exact absurd h (by show ¬ j + 4 < 4; omega)
      | 1, _, 0, _ => exact hfl (.eq (.elem (.field (.string "CoinSampler$Reader" 53) "java/lang/String" "value" "[B") (.int 0)) (.int 97)) (by decide +kernel)
      | 1, _, 1, _ => exact hfl (.eq (.elem (.field (.string "CoinSampler$Reader" 53) "java/lang/String" "value" "[B") (.int 1)) (.int 117)) (by decide +kernel)
      | 1, _, 2, _ => exact hfl (.eq (.elem (.field (.string "CoinSampler$Reader" 53) "java/lang/String" "value" "[B") (.int 2)) (.int 100)) (by decide +kernel)
      | 1, _, 3, _ => exact hfl (.eq (.elem (.field (.string "CoinSampler$Reader" 53) "java/lang/String" "value" "[B") (.int 3)) (.int 105)) (by decide +kernel)
      | 1, _, 4, _ => exact hfl (.eq (.elem (.field (.string "CoinSampler$Reader" 53) "java/lang/String" "value" "[B") (.int 4)) (.int 116)) (by decide +kernel)
      | 1, _, j + 5, h => exact absurd h (by show ¬ j + 5 < 5; omega)
      | i + 2, h, _, _ => omega)
    (fun i j hi hj hij => by
      match i, hi, j, hj with
      | 0, _, 0, _ => exact absurd rfl hij
      | 1, _, 1, _ => exact absurd rfl hij
      | 0, _, 1, _ => exact Or.inl (hfl (.not (.eq (.string "CoinSampler$Reader" 47) (.string "CoinSampler$Reader" 53))) (by decide +kernel))
      | 1, _, 0, _ => exact Or.inr (hfl (.not (.eq (.string "CoinSampler$Reader" 47) (.string "CoinSampler$Reader" 53))) (by decide +kernel))
      | i + 2, h, _, _ => omega
      | _, _, j + 2, h => omega) hnot
  refine ⟨fun k => if k = 60 then tLEAST else if k = 61 then tGREATEST else if k < 64 then adK (k - 62) else adV (k - 64), fun G hG => ?_⟩
  have g60 : G.2.1 60 = tLEAST := hG 60 (by decide)
  have g61 : G.2.1 61 = tGREATEST := hG 61 (by decide)
  have g62 : G.2.1 62 = adK 0 := hG 62 (by decide)
  have g63 : G.2.1 63 = adK 1 := hG 63 (by decide)
  have g64 : G.2.1 64 = adV 0 := hG 64 (by decide)
  have g65 : G.2.1 65 = adV 1 := hG 65 (by decide)
  refine ⟨?_, ?_, ?_, ?_, ?_, ?_, ?_, ?_, ?_⟩
  · rw [g60]; exact va_Zof (hts _ (tq_3 (i := 20) rfl)) (hts _ (tq_1 (i := 5) rfl)) eLEAST hnot
  · rw [g60]; exact zLEAST
  · rw [g61]; exact va_Zof (hts _ (tq_3 (i := 22) rfl)) (hts _ (tq_1 (i := 5) rfl)) eGREATEST hnot
  · rw [g61]; exact zGREATEST
  · refine hS.cg (fun i hi => ?_) (fun i hi => ?_)
    · match i, hi with
      | 0, _ => exact g62
      | 1, _ => exact g63
      | i + 2, h => omega
    · match i, hi with
      | 0, _ => exact g64
      | 1, _ => exact g65
      | i + 2, h => omega
  · rw [g62]; exact vk_R.of (A := args) (hts _ (tq_2 (i := 125) rfl)) (hSe 0 (by decide))
  · rw [g63]; exact vk_R.of (A := args) (hts _ (tq_2 (i := 178) rfl)) (hSe 1 (by decide))
  · exact va_Zof (hts _ (tq_2 (i := 139) rfl)) (hts _ (tq_1 (i := 13) rfl)) (va_eqt (hfl (.eq (.static "java/lang/String" "COMPACT_STRINGS" "Z") (.int 1)) (by decide +kernel))) hnot
  · exact va_Zqof (hts _ (tq_2 (i := 155) rfl)) (hts _ (tq_1 (i := 15) rfl)) (hfl (.isRef (.static "jdk/internal/util/Preconditions" "SIOOBE_FORMATTER" "Ljava/util/function/BiFunction;")) (by decide +kernel)) hnot
