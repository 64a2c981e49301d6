-- what the class reads of its statics and texts (printed by wip/gen/gen_sx47.py)
theorem vk_S.cg {N : Nat} {len : List Nat} {byt : List (List Int32)} {k1 v1 k2 v2 : Nat → Nat} {A : Nat → Prop} {U : State} {H : Heap} (h : vk_S N len byt k1 v1 A U H) (hk : ∀ i, i < N → k2 i = k1 i) (hv : ∀ i, i < N → v2 i = v1 i) : vk_S N len byt k2 v2 A U H :=
  ⟨fun i hi => by rw [hk i hi, hv i hi]; exact h.1 i hi, fun i j hi hj e => h.2 i j hi hj (by rw [hk i hi, hk j hj] at e; exact e)⟩
set_option maxRecDepth 20000 in
theorem start_E {args : Array Value} {s : State} (hts : ∀ w ∈ lw_tbl, w.before args s = true) (hgv : (Jvm.Cond.and given_1 narrow_1).before args s = true) : ∃ x : Nat → Nat, ∀ G : Gq, (∀ k, 60 ≤ k → k < 66 → G.2.1 k = x k) → Extq G (fun q : Nat => s.heap.size ≤ q) s s.heap := by
  have hfl := flat_of_before _ hgv
  have hnot : ∀ a : Nat, a < s.heap.size → ¬ (fun q : Nat => s.heap.size ≤ q) a := fun a h => Nat.not_le.mpr h
  obtain ⟨tLEAST, eLEAST, zLEAST⟩ : ∃ t : Nat, (Term.static "CoinSampler$Terms" "LEAST" "[I").eval args s none [] s = some (.ref t) ∧ va_T .int t 5 (fun j => .int (Int32.ofInt (leastq (j : Int)))) (fun q : Nat => s.heap.size ≤ q) s s.heap := by
    refine va_Tof (by decide) (hfl (.arrayOf (.static "CoinSampler$Terms" "LEAST" "[I") .int) (by decide +kernel)) (va_eqt (hfl (.eq (.length (.static "CoinSampler$Terms" "LEAST" "[I")) (.int 5)) (by decide +kernel))) (fun j hj => ?_) hnot
    match j, hj with
    | 0, _ => exact va_eqt (hfl (.eq (.elem (.static "CoinSampler$Terms" "LEAST" "[I") (.int 0)) (.int 1)) (by decide +kernel))
    | 1, _ => exact va_eqt (hfl (.eq (.elem (.static "CoinSampler$Terms" "LEAST" "[I") (.int 1)) (.int 1)) (by decide +kernel))
    | 2, _ => exact va_eqt (hfl (.eq (.elem (.static "CoinSampler$Terms" "LEAST" "[I") (.int 2)) (.int 0)) (by decide +kernel))
    | 3, _ => exact va_eqt (hfl (.eq (.elem (.static "CoinSampler$Terms" "LEAST" "[I") (.int 3)) (.int 0)) (by decide +kernel))
    | 4, _ => exact va_eqt (hfl (.eq (.elem (.static "CoinSampler$Terms" "LEAST" "[I") (.int 4)) (.int 0)) (by decide +kernel))
    | j + 5, h => omega
  obtain ⟨tGREATEST, eGREATEST, zGREATEST⟩ : ∃ t : Nat, (Term.static "CoinSampler$Terms" "GREATEST" "[I").eval args s none [] s = some (.ref t) ∧ va_T .int t 5 (fun j => .int (Int32.ofInt (greatq (j : Int)))) (fun q : Nat => s.heap.size ≤ q) s s.heap := by
    refine va_Tof (by decide) (hfl (.arrayOf (.static "CoinSampler$Terms" "GREATEST" "[I") .int) (by decide +kernel)) (va_eqt (hfl (.eq (.length (.static "CoinSampler$Terms" "GREATEST" "[I")) (.int 5)) (by decide +kernel))) (fun j hj => ?_) hnot
    match j, hj with
    | 0, _ => exact va_eqt (hfl (.eq (.elem (.static "CoinSampler$Terms" "GREATEST" "[I") (.int 0)) (.int 9999999)) (by decide +kernel))
    | 1, _ => exact va_eqt (hfl (.eq (.elem (.static "CoinSampler$Terms" "GREATEST" "[I") (.int 1)) (.int 500)) (by decide +kernel))
    | 2, _ => exact va_eqt (hfl (.eq (.elem (.static "CoinSampler$Terms" "GREATEST" "[I") (.int 2)) (.int 9)) (by decide +kernel))
    | 3, _ => exact va_eqt (hfl (.eq (.elem (.static "CoinSampler$Terms" "GREATEST" "[I") (.int 3)) (.int 1)) (by decide +kernel))
    | 4, _ => exact va_eqt (hfl (.eq (.elem (.static "CoinSampler$Terms" "GREATEST" "[I") (.int 4)) (.int 1000003)) (by decide +kernel))
    | j + 5, h => omega
  obtain ⟨adK, adV, hS, hSe⟩ := vk_Sof (args := args) (s := s) (N := 2) (tm := fun i => if i = 0 then .string "CoinSampler$Reader" 47 else .string "CoinSampler$Reader" 53) (len := lenq) (byt := bytq) (A := fun q : Nat => s.heap.size ≤ q)
    (fun i hi => by
      match i, hi with
      | 0, _ => decide
      | 1, _ => decide
      | i + 2, h => omega)
    (fun i hi => by
      match i, hi with
      | 0, _ => exact hfl (.exactly (.string "CoinSampler$Reader" 47) "java/lang/String") (by decide +kernel)
      | 1, _ => exact hfl (.exactly (.string "CoinSampler$Reader" 53) "java/lang/String") (by decide +kernel)
      | i + 2, h => omega)
    (fun i hi => by
      match i, hi with
      | 0, _ => exact hfl (.eq (.field (.string "CoinSampler$Reader" 47) "java/lang/String" "coder" "B") (.int 0)) (by decide +kernel)
      | 1, _ => exact hfl (.eq (.field (.string "CoinSampler$Reader" 53) "java/lang/String" "coder" "B") (.int 0)) (by decide +kernel)
      | i + 2, h => omega)
    (fun i hi => by
      match i, hi with
      | 0, _ => exact hfl (.arrayOf (.field (.string "CoinSampler$Reader" 47) "java/lang/String" "value" "[B") .byte) (by decide +kernel)
      | 1, _ => exact hfl (.arrayOf (.field (.string "CoinSampler$Reader" 53) "java/lang/String" "value" "[B") .byte) (by decide +kernel)
      | i + 2, h => omega)
    (fun i hi => by
      match i, hi with
      | 0, _ => exact hfl (.eq (.length (.field (.string "CoinSampler$Reader" 47) "java/lang/String" "value" "[B")) (.int 4)) (by decide +kernel)
      | 1, _ => exact hfl (.eq (.length (.field (.string "CoinSampler$Reader" 53) "java/lang/String" "value" "[B")) (.int 5)) (by decide +kernel)
      | i + 2, h => omega)
    (fun i hi j hj => by
      match i, hi, j, hj with
      | 0, _, 0, _ => exact hfl (.eq (.elem (.field (.string "CoinSampler$Reader" 47) "java/lang/String" "value" "[B") (.int 0)) (.int 105)) (by decide +kernel)
      | 0, _, 1, _ => exact hfl (.eq (.elem (.field (.string "CoinSampler$Reader" 47) "java/lang/String" "value" "[B") (.int 1)) (.int 116)) (by decide +kernel)
      | 0, _, 2, _ => exact hfl (.eq (.elem (.field (.string "CoinSampler$Reader" 47) "java/lang/String" "value" "[B") (.int 2)) (.int 101)) (by decide +kernel)
      | 0, _, 3, _ => exact hfl (.eq (.elem (.field (.string "CoinSampler$Reader" 47) "java/lang/String" "value" "[B") (.int 3)) (.int 109)) (by decide +kernel)
      | 0, _, j + 4, h => exact absurd h (by show ¬ j + 4 < 4; omega)
      | 1, _, 0, _ => exact hfl (.eq (.elem (.field (.string "CoinSampler$Reader" 53) "java/lang/String" "value" "[B") (.int 0)) (.int 97)) (by decide +kernel)
      | 1, _, 1, _ => exact hfl (.eq (.elem (.field (.string "CoinSampler$Reader" 53) "java/lang/String" "value" "[B") (.int 1)) (.int 117)) (by decide +kernel)
      | 1, _, 2, _ => exact hfl (.eq (.elem (.field (.string "CoinSampler$Reader" 53) "java/lang/String" "value" "[B") (.int 2)) (.int 100)) (by decide +kernel)
      | 1, _, 3, _ => exact hfl (.eq (.elem (.field (.string "CoinSampler$Reader" 53) "java/lang/String" "value" "[B") (.int 3)) (.int 105)) (by decide +kernel)
      | 1, _, 4, _ => exact hfl (.eq (.elem (.field (.string "CoinSampler$Reader" 53) "java/lang/String" "value" "[B") (.int 4)) (.int 116)) (by decide +kernel)
      | 1, _, j + 5, h => exact absurd h (by show ¬ j + 5 < 5; omega)
      | i + 2, h, _, _ => omega)
    (fun i j hi hj hij => by
      match i, hi, j, hj with
      | 0, _, 0, _ => exact absurd rfl hij
      | 1, _, 1, _ => exact absurd rfl hij
      | 0, _, 1, _ => exact Or.inl (hfl (.not (.eq (.string "CoinSampler$Reader" 47) (.string "CoinSampler$Reader" 53))) (by decide +kernel))
      | 1, _, 0, _ => exact Or.inr (hfl (.not (.eq (.string "CoinSampler$Reader" 47) (.string "CoinSampler$Reader" 53))) (by decide +kernel))
      | i + 2, h, _, _ => omega
      | _, _, j + 2, h => omega) hnot
  refine ⟨fun k => if k = 60 then tLEAST else if k = 61 then tGREATEST else if k < 64 then adK (k - 62) else adV (k - 64), fun G hG => ?_⟩
  have g60 : G.2.1 60 = tLEAST := hG 60 (by decide) (by decide)
  have g61 : G.2.1 61 = tGREATEST := hG 61 (by decide) (by decide)
  have g62 : G.2.1 62 = adK 0 := hG 62 (by decide) (by decide)
  have g63 : G.2.1 63 = adK 1 := hG 63 (by decide) (by decide)
  have g64 : G.2.1 64 = adV 0 := hG 64 (by decide) (by decide)
  have g65 : G.2.1 65 = adV 1 := hG 65 (by decide) (by decide)
  refine ⟨?_, ?_, ?_, ?_, ?_, ?_, ?_, ?_, ?_⟩
  · rw [g60]; exact va_Zof (hts _ (tq_5 (i := 141) rfl)) (hts _ (tq_1 (i := 5) rfl)) eLEAST hnot
  · rw [g60]; exact zLEAST
  · rw [g61]; exact va_Zof (hts _ (tq_5 (i := 143) rfl)) (hts _ (tq_1 (i := 5) rfl)) eGREATEST hnot
  · rw [g61]; exact zGREATEST
  · refine hS.cg (fun i hi => ?_) (fun i hi => ?_)
    · match i, hi with
      | 0, _ => exact g62
      | 1, _ => exact g63
      | i + 2, h => omega
    · match i, hi with
      | 0, _ => exact g64
      | 1, _ => exact g65
      | i + 2, h => omega
  · rw [g62]; exact vk_R.of (A := args) (hts _ (tq_5 (i := 25) rfl)) (hSe 0 (by decide))
  · rw [g63]; exact vk_R.of (A := args) (hts _ (tq_5 (i := 46) rfl)) (hSe 1 (by decide))
  · exact va_Zof (hts _ (tq_3 (i := 198) rfl)) (hts _ (tq_1 (i := 20) rfl)) (va_eqt (hfl (.eq (.static "java/lang/String" "COMPACT_STRINGS" "Z") (.int 1)) (by decide +kernel))) hnot
  · exact va_Zqof (hts _ (tq_4 (i := 44) rfl)) (hts _ (tq_1 (i := 17) rfl)) (hfl (.isRef (.static "jdk/internal/util/Preconditions" "SIOOBE_FORMATTER" "Ljava/util/function/BiFunction;")) (by decide +kernel)) hnot
