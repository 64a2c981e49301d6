-- all that stands behind at the start (printed by wip/gen/gen_sx47.py)
theorem va_T0 {ty : FieldType} {t : Nat} {f g : Nat → Value} {A : Nat → Prop} {U : State} {H : Heap} (h : va_T ty t 0 f A U H) : va_T ty t 0 g A U H := by
  obtain ⟨cell, h1, h2, h3, h4, h5, h6, h7⟩ := h
  exact ⟨cell, h1, h2, h3, h4, h5, fun j hj => absurd hj (Nat.not_lt_zero _), h7⟩
theorem va_Tc {ty : FieldType} {t N : Nat} {f g : Nat → Value} {A : Nat → Prop} {U : State} {H : Heap} (h : va_T ty t N f A U H) (e : ∀ j, j < N → g j = f j) : va_T ty t N g A U H := by
  obtain ⟨cell, h1, h2, h3, h4, h5, h6, h7⟩ := h
  exact ⟨cell, h1, h2, h3, h4, h5, fun j hj => by rw [e j hj]; exact h6 j hj, h7⟩
theorem Xat_str {G : Gq} {i : Nat} {A : Nat → Prop} {U : State} {H : Heap} (hk : xk i = kO 18) (hr : xr i 0 = some (i + 1)) (h1 : xi i 1 = 0) (O : va_O "java/lang/String" (xa G i) A U H) (V : va_OF "java/lang/String" "value" "[B" (.ref (xa G (i + 1))) (xa G i) A U H) (C : va_OF "java/lang/String" "coder" "B" (.int 0) (xa G i) A U H) (Hh : va_OF "java/lang/String" "hash" "I" (.int (Int32.ofInt (xi i 2))) (xa G i) A U H) (Hz : va_OF "java/lang/String" "hashIsZero" "Z" (.int (Int32.ofInt (xi i 3))) (xa G i) A U H) : Xat G i A U H := by
  unfold Xat
  rw [hk]
  refine ⟨(RJ0, TJ0, 4), rfl, O, fun j k hk => ?_⟩
  match j, hk with
  | 0, hk =>
    cases hk
    have e : fvq (Xw G i) (xa G i) 0 2 = .ref (xa G (i + 1)) := by
      show va_rf ((xr i ((0 : Nat) : Int)).map (xa G)) = _
      rw [show ((0 : Nat) : Int) = 0 from rfl, hr]
      rfl
    rw [e]; exact V
  | 1, hk =>
    cases hk
    have e : fvq (Xw G i) (xa G i) 1 0 = .int 0 := by
      show Value.int (Int32.ofInt (xi i ((1 : Nat) : Int))) = _
      rw [show ((1 : Nat) : Int) = 1 from rfl, h1]
      rfl
    rw [e]; exact C
  | 2, hk => cases hk; exact Hh
  | 3, hk => cases hk; exact Hz
  | j + 4, hk => simp [fdq] at hk
theorem xk_int {i : Nat} (h2 : 2 ≤ i) (h : i < 258) : xk i = kO 16 := by
  unfold xk
  rw [if_neg (by omega), if_neg (by omega), if_pos h]
theorem xi_int {i : Nat} (h2 : 2 ≤ i) (h : i < 258) : xi i 0 = (i : Int) - 130 := by
  unfold xi
  rw [if_neg (by omega), if_pos h, if_pos rfl]
theorem Xat_int {G : Gq} {i : Nat} {A : Nat → Prop} {U : State} {H : Heap} (h2 : 2 ≤ i) (h : i < 258) (O : va_O "java/lang/Integer" (xa G i) A U H) (V : va_OF "java/lang/Integer" "value" "I" (.int (Int32.ofInt ((i : Int) - 130))) (xa G i) A U H) : Xat G i A U H := by
  unfold Xat
  rw [xk_int h2 h]
  refine ⟨(RJ6, TJ6, 1), rfl, O, fun j k hk => ?_⟩
  match j, hk with
  | 0, hk =>
    cases hk
    have e : fvq (Xw G i) (xa G i) 0 0 = .int (Int32.ofInt ((i : Int) - 130)) := by
      show Value.int (Int32.ofInt (xi i ((0 : Nat) : Int))) = _
      rw [show ((0 : Nat) : Int) = 0 from rfl, xi_int h2 h]
    rw [e]; exact V
  | j + 1, hk => simp [fdq] at hk
set_option maxRecDepth 40000 in
set_option maxHeartbeats 4000000 in
theorem start_X {args : Array Value} {s : State} (hts : ∀ w ∈ lw_tbl, w.before args s = true) (hgv : (Jvm.Cond.and given_1 narrow_1).before args s = true) : ∃ x : Nat → Nat, ∀ G : Gq, (∀ k, 60 ≤ k → G.2.1 k = x k) → EdD G (An s) s s.heap := by
  have hfl := flat_of_before _ hgv
  have hnot : ∀ a : Nat, a < s.heap.size → ¬ An s a := fun a h => Nat.not_le.mpr h
  obtain ⟨x0, hE⟩ := start_E hts hgv
  obtain ⟨tT, eT, zT⟩ := st_tens hgv
  obtain ⟨tO, eO, zO⟩ := st_ones hgv
  obtain ⟨t0, e0, z0⟩ := st_empty (f := fun _ => .null) hgv
  obtain ⟨tc, ad, ec, zc, hc⟩ := st_cache (A := An s) (hfl (.arrayOf tCache (.object "java/lang/Integer")) (by decide +kernel)) (hfl (.eq (.length tCache) (.int 256)) (by decide +kernel)) (hfl (.all tCache cCache) (by decide +kernel)) hnot
  obtain ⟨mi, hmi⟩ := va_Mi.of (hfl (.isRef (.mirror "[Ljava/lang/Object;")) (by decide +kernel))
  obtain ⟨ap, -, -, -, ep, -⟩ := Cond.exactly_spec (args := args) (first := s) (o := none) (s := s) (idx := []) (hfl (.exactly (.static "java/util/HashSet" "PRESENT" "Ljava/lang/Object;") "java/lang/Object") (by decide +kernel))
  obtain ⟨a260, t260, e260, o260, v260, c260, h260, q260, z260⟩ := st_s260 hgv
  obtain ⟨a262, t262, e262, o262, v262, c262, h262, q262, z262⟩ := st_s262 hgv
  obtain ⟨a264, t264, e264, o264, v264, c264, h264, q264, z264⟩ := st_s264 hgv
  obtain ⟨a266, t266, e266, o266, v266, c266, h266, q266, z266⟩ := st_s266 hgv
  obtain ⟨a268, t268, e268, o268, v268, c268, h268, q268, z268⟩ := st_s268 hgv
  obtain ⟨a270, t270, e270, o270, v270, c270, h270, q270, z270⟩ := st_s270 hgv
  obtain ⟨a272, t272, e272, o272, v272, c272, h272, q272, z272⟩ := st_s272 hgv
  obtain ⟨a274, t274, e274, o274, v274, c274, h274, q274, z274⟩ := st_s274 hgv
  obtain ⟨a276, t276, e276, o276, v276, c276, h276, q276, z276⟩ := st_s276 hgv
  obtain ⟨a278, t278, e278, o278, v278, c278, h278, q278, z278⟩ := st_s278 hgv
  obtain ⟨a280, t280, e280, o280, v280, c280, h280, q280, z280⟩ := st_s280 hgv
  obtain ⟨a282, t282, e282, o282, v282, c282, h282, q282, z282⟩ := st_s282 hgv
  obtain ⟨w1, w2, w3, w4⟩ := start_W hts
  refine ⟨fun k => if k < 66 then x0 k else if k = 100 then t0 else if k = 101 then tc else if k < 358 then ad (k - 102) else if k = 358 then tT else if k = 359 then tO else if k = 384 then mi else if k = 385 then ap else if k = 360 then a260 else if k = 361 then t260 else if k = 362 then a262 else if k = 363 then t262 else if k = 364 then a264 else if k = 365 then t264 else if k = 366 then a266 else if k = 367 then t266 else if k = 368 then a268 else if k = 369 then t268 else if k = 370 then a270 else if k = 371 then t270 else if k = 372 then a272 else if k = 373 then t272 else if k = 374 then a274 else if k = 375 then t274 else if k = 376 then a276 else if k = 377 then t276 else if k = 378 then a278 else if k = 379 then t278 else if k = 380 then a280 else if k = 381 then t280 else if k = 382 then a282 else if k = 383 then t282 else 0, fun G hG => ?_⟩
  have g0 : xa G 0 = t0 := hG 100 (by decide)
  have g1 : xa G 1 = tc := hG 101 (by decide)
  have g258 : xa G 258 = tT := hG 358 (by decide)
  have g259 : xa G 259 = tO := hG 359 (by decide)
  have g284 : xa G 284 = mi := hG 384 (by decide)
  have g285 : xa G 285 = ap := hG 385 (by decide)
  have g260 : xa G 260 = a260 := hG 360 (by decide)
  have g262 : xa G 262 = a262 := hG 362 (by decide)
  have g264 : xa G 264 = a264 := hG 364 (by decide)
  have g266 : xa G 266 = a266 := hG 366 (by decide)
  have g268 : xa G 268 = a268 := hG 368 (by decide)
  have g270 : xa G 270 = a270 := hG 370 (by decide)
  have g272 : xa G 272 = a272 := hG 372 (by decide)
  have g274 : xa G 274 = a274 := hG 374 (by decide)
  have g276 : xa G 276 = a276 := hG 376 (by decide)
  have g278 : xa G 278 = a278 := hG 378 (by decide)
  have g280 : xa G 280 = a280 := hG 380 (by decide)
  have g282 : xa G 282 = a282 := hG 382 (by decide)
  have g261 : xa G 261 = t260 := hG 361 (by decide)
  have g263 : xa G 263 = t262 := hG 363 (by decide)
  have g265 : xa G 265 = t264 := hG 365 (by decide)
  have g267 : xa G 267 = t266 := hG 367 (by decide)
  have g269 : xa G 269 = t268 := hG 369 (by decide)
  have g271 : xa G 271 = t270 := hG 371 (by decide)
  have g273 : xa G 273 = t272 := hG 373 (by decide)
  have g275 : xa G 275 = t274 := hG 375 (by decide)
  have g277 : xa G 277 = t276 := hG 377 (by decide)
  have g279 : xa G 279 = t278 := hG 379 (by decide)
  have g281 : xa G 281 = t280 := hG 381 (by decide)
  have g283 : xa G 283 = t282 := hG 383 (by decide)
  have gi : ∀ i, 2 ≤ i → i < 258 → xa G i = ad (i - 2) := fun i h2 h => by
    refine (hG (100 + i) (by omega)).trans ?_
    show (if 100 + i < 66 then x0 (100 + i) else if 100 + i = 100 then t0 else if 100 + i = 101 then tc else if 100 + i < 358 then ad (100 + i - 102) else _) = _
    rw [if_neg (by omega), if_neg (by omega), if_neg (by omega), if_pos (by omega)]
    congr 1
    omega
  refine ⟨⟨hE G (fun k h1 h2 => (hG k h1).trans (if_pos h2)), fun i hi => ?_, fun q hq => ?_, fun q hq => ?_, w1⟩, w2, w3, by rw [g284]; exact hmi, w4⟩
  · have hcs : i = 0 ∨ i = 1 ∨ (2 ≤ i ∧ i < 258) ∨ i = 258 ∨ i = 259 ∨ i = 260 ∨ i = 261 ∨ i = 262 ∨ i = 263 ∨ i = 264 ∨ i = 265 ∨ i = 266 ∨ i = 267 ∨ i = 268 ∨ i = 269 ∨ i = 270 ∨ i = 271 ∨ i = 272 ∨ i = 273 ∨ i = 274 ∨ i = 275 ∨ i = 276 ∨ i = 277 ∨ i = 278 ∨ i = 279 ∨ i = 280 ∨ i = 281 ∨ i = 282 ∨ i = 283 := by
      have hi : i < 284 := hi
      omega
    rcases hcs with rfl | rfl | ⟨h2, h3⟩ | rfl | rfl | rfl | rfl | rfl | rfl | rfl | rfl | rfl | rfl | rfl | rfl | rfl | rfl | rfl | rfl | rfl | rfl | rfl | rfl | rfl | rfl | rfl | rfl | rfl | rfl
    · have z := va_T0 (g := fun j => va_rf ((xr 0 (j : Int)).map (xa G))) z0
      rw [← g0] at z
      exact z
    · have z := va_Tc (g := fun j => va_rf ((xr 1 (j : Int)).map (xa G))) zc (fun j hj => by
        have e : xr 1 (j : Int) = some (2 + j) := by
          show (if 0 ≤ (j : Int) ∧ (j : Int) < 256 then some (2 + (j : Int).toNat) else none) = _
          rw [if_pos (by omega)]
          rfl
        show va_rf ((xr 1 (j : Int)).map (xa G)) = _
        rw [e]
        show Value.ref (xa G (2 + j)) = _
        rw [gi (2 + j) (by omega) (by omega), show 2 + j - 2 = j by omega])
      rw [← g1] at z
      exact z
    · have h := hc (i - 2) (by omega)
      rw [← gi i h2 h3, show ((i - 2 : Nat) : Int) - 128 = (i : Int) - 130 by omega] at h
      exact Xat_int h2 h3 h.1 h.2
    · rw [← g258] at zT; exact zT
    · rw [← g259] at zO; exact zO
    · rw [show (Value.int (-1406804059)) = .int (Int32.ofInt (xi 260 2)) from by rw [show Int32.ofInt (xi 260 2) = (-1406804059) from by decide +kernel]] at h260
      rw [show (Value.int 0) = .int (Int32.ofInt (xi 260 3)) from by rw [show Int32.ofInt (xi 260 3) = 0 from by decide +kernel]] at q260
      rw [← g260] at o260 v260 c260 h260 q260
      rw [← g261] at v260
      exact Xat_str rfl rfl rfl o260 v260 c260 h260 q260
    · rw [← g261] at z260; exact z260
    · rw [show (Value.int 1024) = .int (Int32.ofInt (xi 262 2)) from by rw [show Int32.ofInt (xi 262 2) = 1024 from by decide +kernel]] at h262
      rw [show (Value.int 0) = .int (Int32.ofInt (xi 262 3)) from by rw [show Int32.ofInt (xi 262 3) = 0 from by decide +kernel]] at q262
      rw [← g262] at o262 v262 c262 h262 q262
      rw [← g263] at v262
      exact Xat_str rfl rfl rfl o262 v262 c262 h262 q262
    · rw [← g263] at z262; exact z262
    · rw [show (Value.int 3242771) = .int (Int32.ofInt (xi 264 2)) from by rw [show Int32.ofInt (xi 264 2) = 3242771 from by decide +kernel]] at h264
      rw [show (Value.int 0) = .int (Int32.ofInt (xi 264 3)) from by rw [show Int32.ofInt (xi 264 3) = 0 from by decide +kernel]] at q264
      rw [← g264] at o264 v264 c264 h264 q264
      rw [← g265] at v264
      exact Xat_str rfl rfl rfl o264 v264 c264 h264 q264
    · rw [← g265] at z264; exact z264
    · rw [show (Value.int 32179) = .int (Int32.ofInt (xi 266 2)) from by rw [show Int32.ofInt (xi 266 2) = 32179 from by decide +kernel]] at h266
      rw [show (Value.int 0) = .int (Int32.ofInt (xi 266 3)) from by rw [show Int32.ofInt (xi 266 3) = 0 from by decide +kernel]] at q266
      rw [← g266] at o266 v266 c266 h266 q266
      rw [← g267] at v266
      exact Xat_str rfl rfl rfl o266 v266 c266 h266 q266
    · rw [← g267] at z266; exact z266
    · rw [show (Value.int 32) = .int (Int32.ofInt (xi 268 2)) from by rw [show Int32.ofInt (xi 268 2) = 32 from by decide +kernel]] at h268
      rw [show (Value.int 0) = .int (Int32.ofInt (xi 268 3)) from by rw [show Int32.ofInt (xi 268 3) = 0 from by decide +kernel]] at q268
      rw [← g268] at o268 v268 c268 h268 q268
      rw [← g269] at v268
      exact Xat_str rfl rfl rfl o268 v268 c268 h268 q268
    · rw [← g269] at z268; exact z268
    · rw [show (Value.int 1861) = .int (Int32.ofInt (xi 270 2)) from by rw [show Int32.ofInt (xi 270 2) = 1861 from by decide +kernel]] at h270
      rw [show (Value.int 0) = .int (Int32.ofInt (xi 270 3)) from by rw [show Int32.ofInt (xi 270 3) = 0 from by decide +kernel]] at q270
      rw [← g270] at o270 v270 c270 h270 q270
      rw [← g271] at v270
      exact Xat_str rfl rfl rfl o270 v270 c270 h270 q270
    · rw [← g271] at z270; exact z270
    · rw [show (Value.int 59) = .int (Int32.ofInt (xi 272 2)) from by rw [show Int32.ofInt (xi 272 2) = 59 from by decide +kernel]] at h272
      rw [show (Value.int 0) = .int (Int32.ofInt (xi 272 3)) from by rw [show Int32.ofInt (xi 272 3) = 0 from by decide +kernel]] at q272
      rw [← g272] at o272 v272 c272 h272 q272
      rw [← g273] at v272
      exact Xat_str rfl rfl rfl o272 v272 c272 h272 q272
    · rw [← g273] at z272; exact z272
    · rw [show (Value.int 47) = .int (Int32.ofInt (xi 274 2)) from by rw [show Int32.ofInt (xi 274 2) = 47 from by decide +kernel]] at h274
      rw [show (Value.int 0) = .int (Int32.ofInt (xi 274 3)) from by rw [show Int32.ofInt (xi 274 3) = 0 from by decide +kernel]] at q274
      rw [← g274] at o274 v274 c274 h274 q274
      rw [← g275] at v274
      exact Xat_str rfl rfl rfl o274 v274 c274 h274 q274
    · rw [← g275] at z274; exact z274
    · rw [show (Value.int 33) = .int (Int32.ofInt (xi 276 2)) from by rw [show Int32.ofInt (xi 276 2) = 33 from by decide +kernel]] at h276
      rw [show (Value.int 0) = .int (Int32.ofInt (xi 276 3)) from by rw [show Int32.ofInt (xi 276 3) = 0 from by decide +kernel]] at q276
      rw [← g276] at o276 v276 c276 h276 q276
      rw [← g277] at v276
      exact Xat_str rfl rfl rfl o276 v276 c276 h276 q276
    · rw [← g277] at z276; exact z276
    · rw [show (Value.int 120) = .int (Int32.ofInt (xi 278 2)) from by rw [show Int32.ofInt (xi 278 2) = 120 from by decide +kernel]] at h278
      rw [show (Value.int 0) = .int (Int32.ofInt (xi 278 3)) from by rw [show Int32.ofInt (xi 278 3) = 0 from by decide +kernel]] at q278
      rw [← g278] at o278 v278 c278 h278 q278
      rw [← g279] at v278
      exact Xat_str rfl rfl rfl o278 v278 c278 h278 q278
    · rw [← g279] at z278; exact z278
    · rw [show (Value.int 0) = .int (Int32.ofInt (xi 280 2)) from by rw [show Int32.ofInt (xi 280 2) = 0 from by decide +kernel]] at h280
      rw [show (Value.int 1) = .int (Int32.ofInt (xi 280 3)) from by rw [show Int32.ofInt (xi 280 3) = 1 from by decide +kernel]] at q280
      rw [← g280] at o280 v280 c280 h280 q280
      rw [← g281] at v280
      exact Xat_str rfl rfl rfl o280 v280 c280 h280 q280
    · rw [← g281] at z280; exact z280
    · rw [show (Value.int 1053) = .int (Int32.ofInt (xi 282 2)) from by rw [show Int32.ofInt (xi 282 2) = 1053 from by decide +kernel]] at h282
      rw [show (Value.int 0) = .int (Int32.ofInt (xi 282 3)) from by rw [show Int32.ofInt (xi 282 3) = 0 from by decide +kernel]] at q282
      rw [← g282] at o282 v282 c282 h282 q282
      rw [← g283] at v282
      exact Xat_str rfl rfl rfl o282 v282 c282 h282 q282
    · rw [← g283] at z282; exact z282
  · unfold sxq at hq
    simp only [List.mem_cons, List.mem_nil_iff, or_false] at hq
    rcases hq with rfl | rfl | rfl | rfl | rfl | rfl | rfl
    · show va_Z _ _ _ (.ref (xa G 0)) _ _ _
      rw [g0]
      exact va_Zof (hts _ (tq_2 (i := 138) rfl)) (hts _ (tq_1 (i := 15) rfl)) e0 hnot
    · show va_Z _ _ _ (.ref (xa G 1)) _ _ _
      rw [g1]
      exact va_Zof (hts _ (tq_6 (i := 7) rfl)) (hts _ (tq_1 (i := 31) rfl)) ec hnot
    · exact va_Zof (hts _ (tq_6 (i := 5) rfl)) (hts _ (tq_1 (i := 31) rfl)) (va_eqt (hfl (.eq (.static "java/lang/Integer$IntegerCache" "high" "I") (.int 127)) (by decide +kernel))) hnot
    · show va_Z _ _ _ (.ref (xa G 258)) _ _ _
      rw [g258]
      exact va_Zof (hts _ (tq_4 (i := 116) rfl)) (hts _ (tq_1 (i := 28) rfl)) eT hnot
    · show va_Z _ _ _ (.ref (xa G 259)) _ _ _
      rw [g259]
      exact va_Zof (hts _ (tq_4 (i := 114) rfl)) (hts _ (tq_1 (i := 28) rfl)) eO hnot
    · exact va_Zof (hts _ (tq_3 (i := 198) rfl)) (hts _ (tq_1 (i := 20) rfl)) (va_eqt (hfl (.eq (.static "java/lang/String" "COMPACT_STRINGS" "Z") (.int 1)) (by decide +kernel))) hnot
    · show va_Z _ _ _ (.ref (xa G 285)) _ _ _
      rw [g285]
      exact va_Zof (hts _ (tq_7 (i := 25) rfl)) (hts _ (tq_1 (i := 34) rfl)) ep hnot
  · unfold txq at hq
    simp only [List.mem_cons, List.mem_nil_iff, or_false] at hq
    rcases hq with rfl | rfl | rfl | rfl | rfl | rfl | rfl | rfl | rfl | rfl | rfl | rfl
    · show vk_R _ _ _ (xa G 260) _
      rw [g260]
      exact vk_R.of (A := args) (hts _ (tq_3 (i := 234) rfl)) e260
    · show vk_R _ _ _ (xa G 262) _
      rw [g262]
      exact vk_R.of (A := args) (hts _ (tq_4 (i := 145) rfl)) e262
    · show vk_R _ _ _ (xa G 264) _
      rw [g264]
      exact vk_R.of (A := args) (hts _ (tq_4 (i := 173) rfl)) e264
    · show vk_R _ _ _ (xa G 266) _
      rw [g266]
      exact vk_R.of (A := args) (hts _ (tq_4 (i := 174) rfl)) e266
    · show vk_R _ _ _ (xa G 268) _
      rw [g268]
      exact vk_R.of (A := args) (hts _ (tq_4 (i := 175) rfl)) e268
    · show vk_R _ _ _ (xa G 270) _
      rw [g270]
      exact vk_R.of (A := args) (hts _ (tq_4 (i := 179) rfl)) e270
    · show vk_R _ _ _ (xa G 272) _
      rw [g272]
      exact vk_R.of (A := args) (hts _ (tq_4 (i := 180) rfl)) e272
    · show vk_R _ _ _ (xa G 274) _
      rw [g274]
      exact vk_R.of (A := args) (hts _ (tq_9 (i := 222) rfl)) e274
    · show vk_R _ _ _ (xa G 276) _
      rw [g276]
      exact vk_R.of (A := args) (hts _ (tq_9 (i := 223) rfl)) e276
    · show vk_R _ _ _ (xa G 278) _
      rw [g278]
      exact vk_R.of (A := args) (hts _ (tq_9 (i := 224) rfl)) e278
    · show vk_R _ _ _ (xa G 280) _
      rw [g280]
      exact vk_R.of (A := args) (hts _ (tq_9 (i := 225) rfl)) e280
    · show vk_R _ _ _ (xa G 282) _
      rw [g282]
      exact vk_R.of (A := args) (hts _ (tq_9 (i := 226) rfl)) e282
