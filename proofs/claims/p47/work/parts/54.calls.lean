-- calls over the moving world
theorem AdD.sub {G : Gq} {w : Wd} {A : Nat → Prop} {sz sz0 : Nat} (hD : va_D A (wld2 G w)) (hA : ∀ q, sz0 ≤ q → A q) (h : sz0 ≤ sz) : ∀ q, AdD G w sz q → A q := fun q hq => by
  rcases hq with ⟨k, hk, rfl⟩ | hq | hq
  · exact hD.2 k _ (wld2_lo hk)
  · obtain ⟨i, hi⟩ := wld2_at (G := G) hq
    exact hD.2 _ _ hi
  · exact hA q (Nat.le_trans h hq)
theorem AdD.self {G : Gq} {w : Wd} {A : Nat → Prop} {sz : Nat} (hD : va_D A (wld2 G w)) : va_D (AdD G w sz) (wld2 G w) := ⟨hD.1, fun k q hq => by
  rcases Nat.lt_or_ge k 38 with hk | hk
  · rw [wld2_lo hk] at hq
    cases hq
    exact Or.inl ⟨k, hk, rfl⟩
  · obtain ⟨m, rfl⟩ : ∃ m, k = 38 + m := ⟨k - 38, by omega⟩
    rw [wld2_hi] at hq
    cases hm : (wL w)[m]? with
    | none => rw [hm] at hq; cases hq
    | some b =>
      rw [hm] at hq
      cases hq
      exact Or.inr (Or.inl (List.mem_of_getElem? hm))⟩
theorem CxD.pre {μ : Md} {G : Gq} {A : Nat → Prop} {p : Program} {s : State} {m : MethodId} {args : Array Value} {meth : Method} {c : Code} {vs : List Vq} {w : Wd} {H : Heap} {locs : List Loc} (C : CxD μ G A p s m args meth c) (hP : va_P G.1 vwCl (wld2 G w) H) (hD : va_D A (wld2 G w)) (hS : va_S A s.heap H locs) : ∀ U : State, U.heap = H → s.WarmedH U.vm → PrD G vs w H.size (vs.map (cv G)).toArray U := by
  intro U hU hW
  refine ⟨rfl, by rw [hU], by rw [hU]; exact hP, va_K.moved hW.alike C.2.2.2.2.2.2.2.1, AdD.self hD, ?_⟩
  rw [hU]
  exact EdD.warm hW (EdD.narrow (EdD.kept C.2.2.2.2.2.2.2.2.2.2 hS.2.1) (AdD.sub hD C.2.2.2.2.2.2.2.2.1 hS.1))
section XC
variable {p : Program} {l : Launch} {e : Env} {R : Room} {s : State} {m : MethodId} {args : Array Value} {below : List Frame} {meth : Method} {c : Code} {H : Heap} {locs : List Loc} {cells slots mc ms : Nat} {Z : State → Prop}
variable {pc : Nat} {lsA : Array Slot} {rest st0 : List Value} {a : Array Value} {A : Nat → Prop} {G : Gq} {w : Wd} {Q0 : Option Vq → Wd → Prop}
theorem d_call (hr : va_Run p l e R s m args below meth c H locs cells slots mc ms (F0 m pc lsA st0) rest (QoD G (AdD G w H.size) w Q0 a) (AdD G w H.size)) (hD : va_D A (wld2 G w)) (hS : va_S A s.heap H locs) (hA : ∀ q, s.heap.size ≤ q → A q)
    (kk : ∀ (r : Option Vq) (w' : Wd) (H1 : Heap) (locs1 : List Loc), WFd w' → XOK G w' → okr r → Gw G w w' → Q0 r w' → va_P G.1 vwCl (wld2 G w') H1 → va_D A (wld2 G w') → va_S A s.heap H1 locs1 → W p l e R s m args below meth c H1 locs1 (cells + mc) (slots + ms) Z (F0 m (pc + 3) lsA ((r.map (cv G)).toList ++ rest))) : W p l e R s m args below meth c H locs cells slots Z (F0 m pc lsA st0) := by
  intro T hT X
  obtain ⟨v, st₀, t, T', L, h0, X', hL, e1, e2, ⟨⟨r, w', hv, hσ, hx, ho, hg, hq, hP, hD1⟩, hz, hk⟩, stp⟩ := hr T hT X
  cases hv
  rw [h0] at hz hk
  have sub := AdD.sub hD hA hS.1
  obtain ⟨t2, a1, b1⟩ := kk r w' T'.heap (locs ++ L) hσ hx ho hg hq (by rw [e1]; exact hP) (hD1.weaken (fun k q _ h => sub q.1 h))
    ⟨Nat.le_trans hS.1 (by rw [e1]; exact hz), fun q h1 h2 => by rw [e1, hk q (Nat.lt_of_lt_of_le h1 hS.1) (fun z => h2 (sub q z))]; exact hS.2.1 q h1 h2, fun q hq => by
      rcases List.mem_append.mp hq with h | h
      · exact hS.2.2 q h
      · exact sub _ (hL q h)⟩ T' rfl X'
  exact ⟨t2, stp t2 a1, b1⟩
theorem d_call5 (hr : va_Run5 p l e R s m args below meth c H locs cells slots mc ms (F0 m pc lsA st0) rest (QoD G (AdD G w H.size) w Q0 a) (AdD G w H.size)) (hD : va_D A (wld2 G w)) (hS : va_S A s.heap H locs) (hA : ∀ q, s.heap.size ≤ q → A q)
    (kk : ∀ (r : Option Vq) (w' : Wd) (H1 : Heap) (locs1 : List Loc), WFd w' → XOK G w' → okr r → Gw G w w' → Q0 r w' → va_P G.1 vwCl (wld2 G w') H1 → va_D A (wld2 G w') → va_S A s.heap H1 locs1 → W p l e R s m args below meth c H1 locs1 (cells + mc) (slots + ms) Z (F0 m (pc + 5) lsA ((r.map (cv G)).toList ++ rest))) : W p l e R s m args below meth c H locs cells slots Z (F0 m pc lsA st0) := by
  intro T hT X
  obtain ⟨v, st₀, t, T', L, h0, X', hL, e1, e2, ⟨⟨r, w', hv, hσ, hx, ho, hg, hq, hP, hD1⟩, hz, hk⟩, stp⟩ := hr T hT X
  cases hv
  rw [h0] at hz hk
  have sub := AdD.sub hD hA hS.1
  obtain ⟨t2, a1, b1⟩ := kk r w' T'.heap (locs ++ L) hσ hx ho hg hq (by rw [e1]; exact hP) (hD1.weaken (fun k q _ h => sub q.1 h))
    ⟨Nat.le_trans hS.1 (by rw [e1]; exact hz), fun q h1 h2 => by rw [e1, hk q (Nat.lt_of_lt_of_le h1 hS.1) (fun z => h2 (sub q z))]; exact hS.2.1 q h1 h2, fun q hq => by
      rcases List.mem_append.mp hq with h | h
      · exact hS.2.2 q h
      · exact sub _ (hL q h)⟩ T' rfl X'
  exact ⟨t2, stp t2 a1, b1⟩
/-- a call of the class under test: what isn't its own stays -/
theorem q_call2 {Qs : Option Vq → St → Prop} (hr : va_Run p l e R s m args below meth c H locs cells slots 0 0 (F0 m pc lsA st0) rest (Qoq G Qs H.size a) (Adq G H.size)) (hS : va_S A s.heap H locs) (hA : ∀ k, k < 38 → A (G.2.1 k)) (hN : ∀ q, s.heap.size ≤ q → A q)
    (kk : ∀ (r : Option Vq) (σ' : St) (H1 : Heap) (locs1 : List Loc), WF σ' → okr r → Qs r σ' → va_P G.1 vwCl (wld G σ') H1 → (∀ q : Nat, q < H.size → ¬ Adq G H.size q → H1[q]? = H[q]?) → va_S A s.heap H1 locs1 → W p l e R s m args below meth c H1 locs1 cells slots Z (F0 m (pc + 3) lsA ((r.map (cv G)).toList ++ rest))) : W p l e R s m args below meth c H locs cells slots Z (F0 m pc lsA st0) := by
  intro T hT X
  obtain ⟨v, st₀, t, T', L, h0, X', hL, e1, e2, ⟨⟨r, σ', hv, hσ, ho, hq, hP⟩, hz, hk⟩, stp⟩ := hr T hT X
  cases hv
  rw [h0] at hz hk
  have sub : ∀ q, Adq G H.size q → A q := fun q h => by
    rcases h with ⟨k, hk, rfl⟩ | h
    · exact hA k hk
    · exact hN q (Nat.le_trans hS.1 h)
  obtain ⟨t2, a1, b1⟩ := kk r σ' T'.heap (locs ++ L) hσ ho hq (by rw [e1]; exact hP) (fun q h1 h2 => by rw [e1]; exact hk q h1 h2)
    ⟨Nat.le_trans hS.1 (by rw [e1]; exact hz), fun q h1 h2 => by rw [e1, hk q (Nat.lt_of_lt_of_le h1 hS.1) (fun z => h2 (sub q z))]; exact hS.2.1 q h1 h2, fun q hq => by
      rcases List.mem_append.mp hq with h | h
      · exact hS.2.2 q h
      · exact sub _ (hL q h)⟩ T' rfl X'
  exact ⟨t2, stp t2 a1, b1⟩
end XC
theorem d_goods {μ ν : Md} {args : Array Value} {s : State} (hν : MdOK ν) (hts : ∀ w ∈ UW, w.before args s = true) : (∀ w ∈ wsq ν, ∀ (a' : Array Value) (U : State), s.WarmedH U.vm → w.before a' U = true) := by
  have hg : ∀ w ∈ wsq ν, w ∈ UW ∧ ((w.onTables && w.keeps) = true ∨ ∃ ty, w = .arrayClass ty) := fun w hw => by
    rcases List.mem_cons.mp hw with e | hw
    · subst e; exact ⟨hν.1, uw_good _ hν.1⟩
    · exact ⟨hw, uw_good _ hw⟩
  exact pay_in hts hg
theorem d_callB {R : Room} {s : State} {args : Array Value} {own : String} {index n mc ms : Nat} {ν : Md} (hν : MdOK ν) (hts : ∀ w ∈ UW, w.before args s = true) (hf : fr ν + 1 ≤ R.frames) (hlo : 8 + (mL ν + 11) + lo ν ≤ R.locals) (hn : (parseMethodDescriptor (mn ν).desc).map (fun d => d.parameters.length) = some n) (hl : Cond.methodLink own index (mn ν) ∈ UW) : CallB R s args own index (mn ν) (cd ν) (mL ν) (rt ν) (wsq ν) (rmD ν mc ms) mc ms n := by
  refine ⟨rfl, rfl, hf, hlo, d_goods (μ := ν) hν hts, List.mem_cons_self, hts _ hν.1, hts _ hν.2.1, hν.2.2.1, fun sig h => ?_, hts _ hl⟩
  rw [h] at hn
  exact (Option.some.inj hn).symm
section XD
variable {G : Gq} {μ : Md} {pc : Nat} {ls : List (Nat × Vq)} {st : List Vq} {w : Wd} {rc rs : Nat} {Q : Option Vq → Wd → Prop}
/-- a method of a cell of its own class -/
theorem x_callV {ν : Md} {a ci idx n mc1 ms1 : Nat} {q : vw_C} (vs : List Vq) {stk : List Vq} (hν : MdOK ν) (hv : MdV ν) (hI : Is G w a (kO ci)) (hc : vwCl[ci]? = some q) (hq : q.1 = (mn ν).cls) (hw : Cond.methodLink (mn μ).cls idx (mn ν) ∈ UW) (hn : (parseMethodDescriptor (mn ν).desc).map (fun d => d.parameters.length) = some n) (hvn : vs.length = n)
    (hR : fr ν + 1 ≤ fr μ ∧ 8 + (mL ν + 11) + lo ν ≤ lo μ) (hsum : (st.map ct).sum ≤ 8) (hstk : stk = vs.reverse ++ vA a :: st) (hd : decode (cd μ) pc = .ok (.invokevirtual idx, 3)) (hm1 : mc1 ≤ rc) (hm2 : ms1 ≤ rs)
    (kk : DC G ν (vA a :: vs) w mc1 ms1 (fun r w' => WD G μ (pc + 3) ls (r.toList ++ st) w' (rc - mc1) (rs - ms1) Q)) : WD G μ pc ls stk w rc rs Q := by
  subst hstk
  intro hσ hx hl hs w0 hg A mc ms p l e s m args below meth c C H locs lsA cs ss hcb hzb hP hD hS hL
  obtain ⟨Q0, hk0, hM⟩ := kk
  have hs1 : oks vs := fun v hv => (hs.app).1 v (List.mem_reverse.mpr hv)
  have hs2 : oks st := (hs.app).2.tl
  have hM := hM hσ hx (oks_cons (v := vA a) okA hs1) l H.size
  have hts := C.2.2.2.2.2.2.1
  refine d_call (Q0 := Q0) (a := ((vA a :: vs).map (cv G)).toArray) (rest := st.map (cv G)) (va_runV (As := vs.map (cv G)) (C := (mn ν).cls) (b := a) (n := n) ⟨C.1, C.2.1, C.2.2.1, C.2.2.2.2.2.1, hts⟩ hM ⟨d_callB hν hts hR.1 hR.2 hn hw, hts _ hv.1, hts _ hv.2⟩
    ⟨PrD_blind, ?_, C.pre hP hD hS⟩ rfl (by rw [List.length_map]; exact hvn) hL.1 (by rw [List.map_append, List.map_reverse]; rfl) (lv_room (by rw [q_cats hs2]; exact hsum)) hd ⟨by show cs + mc1 ≤ mc; omega, by show ss + ms1 ≤ ms; omega⟩) hD hS C.2.2.2.2.2.2.2.2.1 (fun r w' H1 locs1 hσ' hx' hr hg' hq0 hP1 hD1 hS1 => ?_)
  · have := recq_of hI hx hc hP C.2.2.2.2.2.2.2.1 C.2.2.2.2.2.2.2.2.2.2 hS
    rw [hq] at this
    exact this
  · rw [q_rest]; exact hk0 r w' hσ' hx' hr hg' hq0 hσ' hx' hl (oks_rest hr hs2) w0 (hg.tr hg') A mc ms p l e s m args below meth c C H1 locs1 lsA (cs + mc1) (ss + ms1) (by omega) (by omega) hP1 hD1 hS1 hL
theorem x_callS {ν : Md} {idx n mc1 ms1 : Nat} (vs : List Vq) {stk : List Vq} (hν : MdOK ν) (hv : Cond.static (mn ν) ∈ UW) (hw : Cond.methodLink (mn μ).cls idx (mn ν) ∈ UW) (hn : (parseMethodDescriptor (mn ν).desc).map (fun d => d.parameters.length) = some n) (hvn : vs.length = n)
    (hR : fr ν + 1 ≤ fr μ ∧ 8 + (mL ν + 11) + lo ν ≤ lo μ) (hsum : (st.map ct).sum ≤ 8) (hstk : stk = vs.reverse ++ st) (hd : decode (cd μ) pc = .ok (.invokestatic idx, 3)) (hm1 : mc1 ≤ rc) (hm2 : ms1 ≤ rs)
    (kk : DC G ν vs w mc1 ms1 (fun r w' => WD G μ (pc + 3) ls (r.toList ++ st) w' (rc - mc1) (rs - ms1) Q)) : WD G μ pc ls stk w rc rs Q := by
  subst hstk
  intro hσ hx hl hs w0 hg A mc ms p l e s m args below meth c C H locs lsA cs ss hcb hzb hP hD hS hL
  obtain ⟨Q0, hk0, hM⟩ := kk
  have hs1 : oks vs := fun v hv => (hs.app).1 v (List.mem_reverse.mpr hv)
  have hs2 : oks st := (hs.app).2
  have hM := hM hσ hx hs1 l H.size
  have hts := C.2.2.2.2.2.2.1
  refine d_call (Q0 := Q0) (a := (vs.map (cv G)).toArray) (rest := st.map (cv G)) (va_runS (As := vs.map (cv G)) (n := n) ⟨C.1, C.2.1, C.2.2.1, C.2.2.2.2.2.1, hts⟩ hM ⟨d_callB hν hts hR.1 hR.2 hn hw, hts _ hv⟩
    ⟨PrD_blind, C.pre hP hD hS⟩ rfl (by rw [List.length_map]; exact hvn) hL.1 (by rw [List.map_append, List.map_reverse]) (lv_room (by rw [q_cats hs2]; exact hsum)) hd ⟨by show cs + mc1 ≤ mc; omega, by show ss + ms1 ≤ ms; omega⟩) hD hS C.2.2.2.2.2.2.2.2.1 (fun r w' H1 locs1 hσ' hx' hr hg' hq0 hP1 hD1 hS1 => ?_)
  rw [q_rest]; exact hk0 r w' hσ' hx' hr hg' hq0 hσ' hx' hl (oks_rest hr hs2) w0 (hg.tr hg') A mc ms p l e s m args below meth c C H1 locs1 lsA (cs + mc1) (ss + ms1) (by omega) (by omega) hP1 hD1 hS1 hL
/-- a method that is inherited, or stands for another's -/
theorem x_callU {ν : Md} {a ci idx n mc1 ms1 : Nat} {q : vw_C} (x : MethodName) (owner : String) (vs : List Vq) {stk : List Vq} (hν : MdOK ν) (hi : Cond.instanceMethod (mn ν) ∈ UW) (hI : Is G w a (kO ci)) (hc : vwCl[ci]? = some q) (hsel : ∀ (args : Array Value) (s : State), (∀ w ∈ UW, w.before args s = true) → (∀ w ∈ nwq, va_Nw w s) → (Cond.selects q.1 x (mn ν)).before args s = true) (hsm : Cond.sameMethod x.cls owner x.name x.desc ∈ UW) (hdc : (Cond.declares ⟨owner, x.name, x.desc⟩ ∈ nwq) ∨ (mn ν = ⟨owner, x.name, x.desc⟩) ∨ ∃ (b0 : ByteArray) (m0 : Nat) (r0 : Option FieldType), Cond.instanceMethod ⟨owner, x.name, x.desc⟩ ∈ UW ∧ Cond.code ⟨owner, x.name, x.desc⟩ b0 m0 r0 ∈ UW) (hmh : owner ≠ "java/lang/invoke/MethodHandle" ∧ owner ≠ "java/lang/invoke/VarHandle") (hw : Cond.methodLink (mn μ).cls idx x ∈ UW) (hn : (parseMethodDescriptor x.desc).map (fun d => d.parameters.length) = some n) (hvn : vs.length = n)
    (hR : fr ν + 1 ≤ fr μ ∧ 8 + (mL ν + 11) + lo ν ≤ lo μ) (hsum : (st.map ct).sum ≤ 8) (hstk : stk = vs.reverse ++ vA a :: st) (hd : decode (cd μ) pc = .ok (.invokevirtual idx, 3)) (hm1 : mc1 ≤ rc) (hm2 : ms1 ≤ rs)
    (kk : DC G ν (vA a :: vs) w mc1 ms1 (fun r w' => WD G μ (pc + 3) ls (r.toList ++ st) w' (rc - mc1) (rs - ms1) Q)) : WD G μ pc ls stk w rc rs Q := by
  subst hstk
  intro hσ hx hl hs w0 hg A mc ms p l e s m args below meth c C H locs lsA cs ss hcb hzb hP hD hS hL
  obtain ⟨Q0, hk0, hM⟩ := kk
  have hs1 : oks vs := fun v hv => (hs.app).1 v (List.mem_reverse.mpr hv)
  have hs2 : oks st := (hs.app).2.tl
  have hM := hM hσ hx (oks_cons (v := vA a) okA hs1) l H.size
  have hts := C.2.2.2.2.2.2.1
  have hED := C.2.2.2.2.2.2.2.2.2.2
  have hdecl : va_Decl s ⟨owner, x.name, x.desc⟩ := by
    rcases hdc with h | h | ⟨b0, m0, r0, h1, h2⟩
    · exact va_Decl.abs (hED.1.2.2.2.2 _ h)
    · rw [← h]; exact va_Decl.of (hts _ hi) (hts _ hν.1)
    · exact va_Decl.of (hts _ h1) (hts _ h2)
  have cw : va_CU (rmD μ mc ms) s args (mn μ).cls q.1 owner idx x (mn ν) (cd ν) (mL ν) (rt ν) (wsq ν) (rmD ν mc1 ms1) mc1 ms1 n := by
    refine ⟨⟨rfl, rfl, hR.1, hR.2, d_goods (μ := ν) hν hts, List.mem_cons_self⟩, hts _ hν.1, hts _ hν.2.1, hmh, fun sig h => ?_, hts _ hw, hts _ hsm, hdecl, hsel args s hts hED.1.2.2.2.2, hts _ hi⟩
    rw [h] at hn
    exact (Option.some.inj hn).symm
  refine d_call (Q0 := Q0) (a := ((vA a :: vs).map (cv G)).toArray) (rest := st.map (cv G)) (va_runU (As := vs.map (cv G)) (C := q.1) (b := a) (n := n) ⟨C.1, C.2.1, C.2.2.1, C.2.2.2.2.2.1, hts⟩ hM cw
    ⟨PrD_blind, recq_of hI hx hc hP C.2.2.2.2.2.2.2.1 hED hS, C.pre hP hD hS⟩ rfl (by rw [List.length_map]; exact hvn) hL.1 (by rw [List.map_append, List.map_reverse]; rfl) (lv_room (by rw [q_cats hs2]; exact hsum)) hd ⟨by show cs + mc1 ≤ mc; omega, by show ss + ms1 ≤ ms; omega⟩) hD hS C.2.2.2.2.2.2.2.2.1 (fun r w' H1 locs1 hσ' hx' hr hg' hq0 hP1 hD1 hS1 => ?_)
  rw [q_rest]; exact hk0 r w' hσ' hx' hr hg' hq0 hσ' hx' hl (oks_rest hr hs2) w0 (hg.tr hg') A mc ms p l e s m args below meth c C H1 locs1 lsA (cs + mc1) (ss + ms1) (by omega) (by omega) hP1 hD1 hS1 hL
/-- an interface's method -/
theorem x_callF {ν : Md} {a ci idx n cnt mc1 ms1 : Nat} {q : vw_C} (x : MethodName) (vs : List Vq) {stk : List Vq} (hν : MdOK ν) (hi : Cond.instanceMethod (mn ν) ∈ UW) (hI : Is G w a (kO ci)) (hc : vwCl[ci]? = some q) (hsel : Cond.selects q.1 x (mn ν) ∈ UW) (hfw : (q.1, x, mn ν) ∈ fwq) (hw : Cond.methodLink (mn μ).cls idx x ∈ UW) (hn : (parseMethodDescriptor x.desc).map (fun d => d.parameters.length) = some n) (hvn : vs.length = n)
    (hR : fr ν + 1 ≤ fr μ ∧ 8 + (mL ν + 11) + lo ν ≤ lo μ) (hsum : (st.map ct).sum ≤ 8) (hstk : stk = vs.reverse ++ vA a :: st) (hd : decode (cd μ) pc = .ok (.invokeinterface idx cnt, 5)) (hm1 : mc1 ≤ rc) (hm2 : ms1 ≤ rs)
    (kk : DC G ν (vA a :: vs) w mc1 ms1 (fun r w' => WD G μ (pc + 5) ls (r.toList ++ st) w' (rc - mc1) (rs - ms1) Q)) : WD G μ pc ls stk w rc rs Q := by
  subst hstk
  intro hσ hx hl hs w0 hg A mc ms p l e s m args below meth c C H locs lsA cs ss hcb hzb hP hD hS hL
  obtain ⟨Q0, hk0, hM⟩ := kk
  have hs1 : oks vs := fun v hv => (hs.app).1 v (List.mem_reverse.mpr hv)
  have hs2 : oks st := (hs.app).2.tl
  have hM := hM hσ hx (oks_cons (v := vA a) okA hs1) l H.size
  have hts := C.2.2.2.2.2.2.1
  have hED := C.2.2.2.2.2.2.2.2.2.2
  have hK := C.2.2.2.2.2.2.2.1
  obtain ⟨f1, f2, f3, f4, f5⟩ := hED.2.1 _ hfw
  have cw : va_CI (rmD μ mc ms) s args (mn μ).cls q.1 idx x (mn ν) (cd ν) (mL ν) (rt ν) (wsq ν) (rmD ν mc1 ms1) mc1 ms1 n := by
    refine ⟨⟨rfl, rfl, hR.1, hR.2, d_goods (μ := ν) hν hts, List.mem_cons_self⟩, hts _ hw, va_any rfl f1, va_any rfl f2, hts _ hsel, hts _ hi, va_any rfl f3, va_any rfl f4, va_any rfl f5, hts _ hν.2.1, hts _ hν.1, fwq_mh _ hfw, fun sig h => ?_⟩
    rw [h] at hn
    exact (Option.some.inj hn).symm
  obtain ⟨kn1, kn2, kn3⟩ := hK.1 ci q hc
  refine d_call5 (Q0 := Q0) (a := ((vA a :: vs).map (cv G)).toArray) (rest := st.map (cv G)) (va_runF (cC := G.1.1 ci) (As := vs.map (cv G)) (C := q.1) (b := a) (n := n) ⟨kn2, kn3⟩ ⟨C.1, C.2.1, C.2.2.1, C.2.2.2.2.2.1, hts⟩ hM cw
    ⟨PrD_blind, recq_of hI hx hc hP hK hED hS, C.pre hP hD hS⟩ rfl (by rw [List.length_map]; exact hvn) hL.1 (by rw [List.map_append, List.map_reverse]; rfl) (lv_room (by rw [q_cats hs2]; exact hsum)) hd ⟨by show cs + mc1 ≤ mc; omega, by show ss + ms1 ≤ ms; omega⟩) hD hS C.2.2.2.2.2.2.2.2.1 (fun r w' H1 locs1 hσ' hx' hr hg' hq0 hP1 hD1 hS1 => ?_)
  rw [q_rest]; exact hk0 r w' hσ' hx' hr hg' hq0 hσ' hx' hl (oks_rest hr hs2) w0 (hg.tr hg') A mc ms p l e s m args below meth c C H1 locs1 lsA (cs + mc1) (ss + ms1) (by omega) (by omega) hP1 hD1 hS1 hL
/-- a superclass's method, called by name -/
theorem x_callSU {ν : Md} {a ci idx n mc1 ms1 : Nat} {q : vw_C} (vs : List Vq) {stk : List Vq} (hν : MdOK ν) (hi : Cond.instanceMethod (mn ν) ∈ UW) (hI : Is G w a (kO ci)) (hc : vwCl[ci]? = some q) (hsup : Cond.superclass (mn μ).cls (mn ν).cls ∈ UW) (hsm : Cond.sameMethod (mn ν).cls (mn ν).cls (mn ν).name (mn ν).desc ∈ UW) (hnm : (mn ν).name ≠ "<init>") (hw : Cond.methodLink (mn μ).cls idx (mn ν) ∈ UW) (hn : (parseMethodDescriptor (mn ν).desc).map (fun d => d.parameters.length) = some n) (hvn : vs.length = n)
    (hR : fr ν + 1 ≤ fr μ ∧ 8 + (mL ν + 11) + lo ν ≤ lo μ) (hsum : (st.map ct).sum ≤ 8) (hstk : stk = vs.reverse ++ vA a :: st) (hd : decode (cd μ) pc = .ok (.invokespecial idx, 3)) (hm1 : mc1 ≤ rc) (hm2 : ms1 ≤ rs)
    (kk : DC G ν (vA a :: vs) w mc1 ms1 (fun r w' => WD G μ (pc + 3) ls (r.toList ++ st) w' (rc - mc1) (rs - ms1) Q)) : WD G μ pc ls stk w rc rs Q := by
  subst hstk
  intro hσ hx hl hs w0 hg A mc ms p l e s m args below meth c C H locs lsA cs ss hcb hzb hP hD hS hL
  obtain ⟨Q0, hk0, hM⟩ := kk
  have hs1 : oks vs := fun v hv => (hs.app).1 v (List.mem_reverse.mpr hv)
  have hs2 : oks st := (hs.app).2.tl
  have hM := hM hσ hx (oks_cons (v := vA a) okA hs1) l H.size
  have hts := C.2.2.2.2.2.2.1
  have hED := C.2.2.2.2.2.2.2.2.2.2
  have hK := C.2.2.2.2.2.2.2.1
  have cw : va_CS (rmD μ mc ms) s args (mn μ).cls idx (mn ν) (cd ν) (mL ν) (rt ν) (wsq ν) (rmD ν mc1 ms1) mc1 ms1 n := by
    refine ⟨⟨rfl, rfl, hR.1, hR.2, d_goods (μ := ν) hν hts, List.mem_cons_self⟩, hts _ hw, hts _ hsm, hts _ hsup, hts _ hi, hts _ hν.2.1, hts _ hν.1, hnm, fun sig h => ?_⟩
    rw [h] at hn
    exact (Option.some.inj hn).symm
  obtain ⟨kn1, kn2, kn3⟩ := hK.1 ci q hc
  refine d_call (Q0 := Q0) (a := ((vA a :: vs).map (cv G)).toArray) (rest := st.map (cv G)) (va_runSU (cC := G.1.1 ci) (As := vs.map (cv G)) (C := q.1) (b := a) (n := n) ⟨kn2, kn3⟩ ⟨C.1, C.2.1, C.2.2.1, C.2.2.2.2.2.1, hts⟩ hM cw
    ⟨PrD_blind, recq_of hI hx hc hP hK hED hS, C.pre hP hD hS⟩ rfl (by rw [List.length_map]; exact hvn) hL.1 (by rw [List.map_append, List.map_reverse]; rfl) (lv_room (by rw [q_cats hs2]; exact hsum)) hd ⟨by show cs + mc1 ≤ mc; omega, by show ss + ms1 ≤ ms; omega⟩) hD hS C.2.2.2.2.2.2.2.2.1 (fun r w' H1 locs1 hσ' hx' hr hg' hq0 hP1 hD1 hS1 => ?_)
  rw [q_rest]; exact hk0 r w' hσ' hx' hr hg' hq0 hσ' hx' hl (oks_rest hr hs2) w0 (hg.tr hg') A mc ms p l e s m args below meth c C H1 locs1 lsA (cs + mc1) (ss + ms1) (by omega) (by omega) hP1 hD1 hS1 hL
/-- a constructor -/
theorem x_callI {ν : Md} {a idx n mc1 ms1 : Nat} (vs : List Vq) {stk : List Vq} (hν : MdOK ν) (hi : Cond.instanceMethod (mn ν) ∈ UW) (hnm : (mn ν).name = "<init>") (hrt : rt ν = none) (hw : Cond.methodLink (mn μ).cls idx (mn ν) ∈ UW) (hn : (parseMethodDescriptor (mn ν).desc).map (fun d => d.parameters.length) = some n) (hvn : vs.length = n)
    (hR : fr ν + 1 ≤ fr μ ∧ 8 + (mL ν + 11) + lo ν ≤ lo μ) (hsum : (st.map ct).sum ≤ 8) (hstk : stk = vs.reverse ++ vA a :: st) (hd : decode (cd μ) pc = .ok (.invokespecial idx, 3)) (hm1 : mc1 ≤ rc) (hm2 : ms1 ≤ rs)
    (kk : DC G ν (vA a :: vs) w mc1 ms1 (fun r w' => WD G μ (pc + 3) ls (r.toList ++ st) w' (rc - mc1) (rs - ms1) Q)) : WD G μ pc ls stk w rc rs Q := by
  subst hstk
  intro hσ hx hl hs w0 hg A mc ms p l e s m args below meth c C H locs lsA cs ss hcb hzb hP hD hS hL
  obtain ⟨Q0, hk0, hM⟩ := kk
  have hs1 : oks vs := fun v hv => (hs.app).1 v (List.mem_reverse.mpr hv)
  have hs2 : oks st := (hs.app).2.tl
  have hM := hM hσ hx (oks_cons (v := vA a) okA hs1) l H.size
  have hts := C.2.2.2.2.2.2.1
  have hB := d_callB (R := rmD μ mc ms) (mc := mc1) (ms := ms1) hν hts hR.1 hR.2 hn hw
  rw [hrt] at hB
  refine d_call (Q0 := Q0) (a := ((vA a :: vs).map (cv G)).toArray) (rest := st.map (cv G)) (va_runI (As := vs.map (cv G)) (b := a) (n := n) ⟨C.1, C.2.1, C.2.2.1, C.2.2.2.2.2.1, hts⟩ hM ⟨hB, hnm, hts _ hi⟩
    ⟨PrD_blind, C.pre hP hD hS⟩ rfl (by rw [List.length_map]; exact hvn) hL.1 (by rw [List.map_append, List.map_reverse]; rfl) (lv_room (by rw [q_cats hs2]; exact hsum)) hd ⟨by show cs + mc1 ≤ mc; omega, by show ss + ms1 ≤ ms; omega⟩) hD hS C.2.2.2.2.2.2.2.2.1 (fun r w' H1 locs1 hσ' hx' hr hg' hq0 hP1 hD1 hS1 => ?_)
  rw [q_rest]; exact hk0 r w' hσ' hx' hr hg' hq0 hσ' hx' hl (oks_rest hr hs2) w0 (hg.tr hg') A mc ms p l e s m args below meth c C H1 locs1 lsA (cs + mc1) (ss + ms1) (by omega) (by omega) hP1 hD1 hS1 hL
/-- a nest mate's constructor -/
theorem x_callIN {ν : Md} {a idx n mc1 ms1 : Nat} (host : String) (vs : List Vq) {stk : List Vq} (hν : MdOK ν) (hi : Cond.instanceMethod (mn ν) ∈ UW) (hnm : (mn ν).name = "<init>") (hrt : rt ν = none) (hw : Cond.methodLinkNest (mn μ).cls idx (mn ν) host ∈ nwq) (hn : (parseMethodDescriptor (mn ν).desc).map (fun d => d.parameters.length) = some n) (hvn : vs.length = n)
    (hR : fr ν + 1 ≤ fr μ ∧ 8 + (mL ν + 11) + lo ν ≤ lo μ) (hsum : (st.map ct).sum ≤ 8) (hstk : stk = vs.reverse ++ vA a :: st) (hd : decode (cd μ) pc = .ok (.invokespecial idx, 3)) (hm1 : mc1 ≤ rc) (hm2 : ms1 ≤ rs)
    (kk : DC G ν (vA a :: vs) w mc1 ms1 (fun r w' => WD G μ (pc + 3) ls (r.toList ++ st) w' (rc - mc1) (rs - ms1) Q)) : WD G μ pc ls stk w rc rs Q := by
  subst hstk
  intro hσ hx hl hs w0 hg A mc ms p l e s m args below meth c C H locs lsA cs ss hcb hzb hP hD hS hL
  obtain ⟨Q0, hk0, hM⟩ := kk
  have hs1 : oks vs := fun v hv => (hs.app).1 v (List.mem_reverse.mpr hv)
  have hs2 : oks st := (hs.app).2.tl
  have hM := hM hσ hx (oks_cons (v := vA a) okA hs1) l H.size
  have hts := C.2.2.2.2.2.2.1
  have hED := C.2.2.2.2.2.2.2.2.2.2
  have hB : va_CN (rmD μ mc ms) s args (mn μ).cls idx (mn ν) host (cd ν) (mL ν) (rt ν) (wsq ν) (rmD ν mc1 ms1) mc1 ms1 n := by
    refine ⟨⟨rfl, rfl, hR.1, hR.2, d_goods (μ := ν) hν hts, List.mem_cons_self⟩, hts _ hν.1, hts _ hν.2.1, hν.2.2.1, fun sig h => ?_, va_Nw.use rfl (hED.1.2.2.2.2 _ hw)⟩
    rw [h] at hn
    exact (Option.some.inj hn).symm
  rw [hrt] at hB
  refine d_call (Q0 := Q0) (a := ((vA a :: vs).map (cv G)).toArray) (rest := st.map (cv G)) (va_runIN (As := vs.map (cv G)) (b := a) (n := n) ⟨C.1, C.2.1, C.2.2.1, C.2.2.2.2.2.1, hts⟩ hM ⟨hB, hnm, hts _ hi⟩
    ⟨PrD_blind, C.pre hP hD hS⟩ rfl (by rw [List.length_map]; exact hvn) hL.1 (by rw [List.map_append, List.map_reverse]; rfl) (lv_room (by rw [q_cats hs2]; exact hsum)) hd ⟨by show cs + mc1 ≤ mc; omega, by show ss + ms1 ≤ ms; omega⟩) hD hS C.2.2.2.2.2.2.2.2.1 (fun r w' H1 locs1 hσ' hx' hr hg' hq0 hP1 hD1 hS1 => ?_)
  rw [q_rest]; exact hk0 r w' hσ' hx' hr hg' hq0 hσ' hx' hl (oks_rest hr hs2) w0 (hg.tr hg') A mc ms p l e s m args below meth c C H1 locs1 lsA (cs + mc1) (ss + ms1) (by omega) (by omega) hP1 hD1 hS1 hL
/-- Object's own constructor -/
theorem x_obj {i a : Nat} (hd : decode (cd μ) pc = .ok (.invokespecial i, 3)) (h1 : Cond.methodLink (mn μ).cls i Lib.objectInit ∈ UW) (h2 : Cond.instanceMethod Lib.objectInit ∈ UW) (h3 : Cond.code Lib.objectInit ⟨#[0xb1]⟩ 1 none ∈ UW) (hR : 1 ≤ fr μ ∧ (st.map ct).sum + 12 ≤ lo μ) (kk : WD G μ (pc + 3) ls st w rc rs Q) : WD G μ pc ls (vA a :: st) w rc rs Q := by
  intro hσ hx hl hs w0 hg A mc ms p l e s m args below meth c C H locs lsA cs ss hcb hzb hP hD hS hL
  have hts := C.2.2.2.2.2.2.1
  refine W.objInit C.1 C.2.1 C.2.2.2.2.2.1 (hts _ h1) (hts _ h2) (hts _ h3) rfl (by rw [C.2.2.1]; exact hL.1) rfl hd hR.1 ?_ ?_
  · show 2 * 0 + _ + 12 ≤ lo μ
    rw [q_cats hs.tl]
    have := hR.2
    omega
  · exact W.eq (g2 := F0 m (pc + 3) lsA (st.map (cv G))) rfl (kk hσ hx hl hs.tl w0 hg A mc ms p l e s m args below meth c C H locs lsA cs ss hcb hzb hP hD hS hL)
/-- a method of the class under test -/
theorem x_callC {ν : Md} {k ci idx n : Nat} {fs : List (Option Nat)} {q : vw_C} (vs : List Vq) {stk : List Vq} (hν : MdOK ν) (hv : MdV ν) (hk : k < 38) (ht : tab k = .inr (ci, fs)) (hc : vwCl[ci]? = some q) (hq : q.1 = (mn ν).cls) (hw : Cond.methodLink (mn μ).cls idx (mn ν) ∈ UW) (hn : (parseMethodDescriptor (mn ν).desc).map (fun d => d.parameters.length) = some n) (hvn : vs.length = n)
    (hR : fr ν + 1 ≤ fr μ ∧ 8 + (mL ν + 11) + lo ν ≤ lo μ) (hsum : (st.map ct).sum ≤ 8) (hstk : stk = vs.reverse ++ vR k :: st) (hd : decode (cd μ) pc = .ok (.invokevirtual idx, 3))
    (kk : Con ν (vR k :: vs) (wS w) (fun r σ' => WD G μ (pc + 3) ls (r.toList ++ st) (uS w σ') rc rs Q)) : WD G μ pc ls stk w rc rs Q := by
  subst hstk
  intro hσ hx hl hs w0 hg A mc ms p l e s m args below meth c C H locs lsA cs ss hcb hzb hP hD hS hL
  obtain ⟨Q0, hk0, hM⟩ := kk
  have hs1 : oks vs := fun v hv => (hs.app).1 v (List.mem_reverse.mpr hv)
  have hs2 : oks st := (hs.app).2.tl
  have hM := hM hσ.1 (oks_cons (v := vR k) trivial hs1) G l H.size
  have hts := C.2.2.2.2.2.2.1
  have hED := C.2.2.2.2.2.2.2.2.2.2
  have hPl : va_P G.1 vwCl (wld G (wS w)) H := fun i q hq => by
    obtain ⟨hi, rfl⟩ := wld_of hq
    exact hP i _ (wld2_lo hi)
  have hadq : ∀ q, Adq G H.size q → A q := fun q hq => by
    rcases hq with ⟨i, hi, rfl⟩ | hq
    · exact hD.2 i _ (wld2_lo hi)
    · exact C.2.2.2.2.2.2.2.2.1 q (Nat.le_trans hS.1 hq)
  have hpre : ∀ U : State, U.heap = H → s.WarmedH U.vm → Prq G (vR k :: vs) (wS w) H.size ((vR k :: vs).map (cv G)).toArray U := by
    intro U hU hW
    refine ⟨rfl, by rw [hU], by rw [hU]; exact hPl, va_K.sub (va_K.moved hW.alike C.2.2.2.2.2.2.2.1) [0, 1, 2, 3] rfl, fun i j hi hj e => hD.1 i j _ _ (wld2_lo hi) (wld2_lo hj) e, fun i hi => (hP i _ (wld2_lo hi)).lt, ?_⟩
    rw [hU]
    exact Extq.warm hW (Extq.narrow (Extq.kept hED.1.1 hS.2.1) hadq)
  refine q_call2 (Qs := Q0) (A := A) (a := ((vR k :: vs).map (cv G)).toArray) (rest := st.map (cv G)) (va_runV (As := vs.map (cv G)) (C := (mn ν).cls) (b := G.2.1 k) (n := n) ⟨C.1, C.2.1, C.2.2.1, C.2.2.2.2.2.1, hts⟩ hM ⟨q_callB hν hts hR.1 hR.2 hn hw, hts _ hv.1, hts _ hv.2⟩
    ⟨Prq_blind, ?_, hpre⟩ rfl (by rw [List.length_map]; exact hvn) hL.1 (by rw [List.map_append, List.map_reverse]; rfl) (lv_room (by rw [q_cats hs2]; exact hsum)) hd ⟨by show cs + 0 ≤ mc; omega, by show ss + 0 ≤ ms; omega⟩) hS (fun i hi => hD.2 i _ (wld2_lo hi)) C.2.2.2.2.2.2.2.2.1 (fun r σ' H1 locs1 hσ' hr hq0 hP1 hk1 hS1 => ?_)
  · have := va_recv C.2.2.2.2.2.2.2.1 hPl hc (wld_obj hk ht)
    rw [hq] at this
    exact this
  · have hsize : H.size ≤ H1.size := by
      rcases Nat.lt_or_ge H1.size H.size with h | h
      · exfalso
        have hb : H.size - 1 < H.size := by omega
        by_cases hA1 : Adq G H.size (H.size - 1)
        · rcases hA1 with ⟨i, hi, e⟩ | h2
          · have := (hP1 i _ (wld_at hi)).lt
            dsimp only at this
            omega
          · omega
        · have := hk1 _ hb hA1
          rw [Array.getElem?_eq_none (by omega), Array.getElem?_eq_getElem hb] at this
          cases this
      · exact h
    have hP2 : va_P G.1 vwCl (wld2 G (uS w σ')) H1 := fun i q hq => by
      rcases Nat.lt_or_ge i 38 with hi | hi
      · rw [wld2_lo hi] at hq
        cases hq
        exact hP1 i _ (wld_at hi)
      · obtain ⟨m0, rfl⟩ : ∃ m, i = 38 + m := ⟨i - 38, by omega⟩
        rw [wld2_hi] at hq
        cases hm : (wL w)[m0]? with
        | none => rw [show wL (uS w σ') = wL w from rfl, hm] at hq; cases hq
        | some b =>
          rw [show wL (uS w σ') = wL w from rfl, hm] at hq
          cases hq
          have hb : (wld2 G w)[38 + m0]? = some (b, dent G w b) := by rw [wld2_hi, hm]; rfl
          have hlt := (hP _ _ hb).lt
          refine (hP _ _ hb).kept (hk1 b hlt (fun h => ?_))
          rcases h with ⟨j, hj, e⟩ | h
          · have := hD.1 _ _ _ _ hb (wld2_lo hj) e
            omega
          · exact absurd hlt (by omega)
    have hD2 : va_D A (wld2 G (uS w σ')) := by
      have key : ∀ (i : Nat) (q : Nat × va_E), (wld2 G (uS w σ'))[i]? = some q → ∃ e : va_E, (wld2 G w)[i]? = some (q.1, e) := fun i q hq => by
        rcases Nat.lt_or_ge i 38 with hi | hi
        · rw [wld2_lo hi] at hq
          cases hq
          exact ⟨_, wld2_lo hi⟩
        · obtain ⟨m0, rfl⟩ : ∃ m, i = 38 + m := ⟨i - 38, by omega⟩
          rw [wld2_hi, show wL (uS w σ') = wL w from rfl] at hq
          cases hm : (wL w)[m0]? with
          | none => rw [hm] at hq; cases hq
          | some b =>
            rw [hm] at hq
            cases hq
            exact ⟨_, by rw [wld2_hi, hm]; rfl⟩
      refine ⟨fun i j x y hi hj e => ?_, fun i q hq => ?_⟩
      · obtain ⟨e1, h1⟩ := key i x hi
        obtain ⟨e2, h2⟩ := key j y hj
        exact hD.1 i j _ _ h1 h2 e
      · obtain ⟨e1, h1⟩ := key i q hq
        exact hD.2 i (q.1, e1) h1
    rw [q_rest]
    exact hk0 r σ' hσ' hr hq0 ⟨hσ', hσ.2⟩ (fun i hi => hx i hi) hl (oks_rest hr hs2) w0 (hg.tr ⟨fun _ h => ⟨h, rfl⟩, fun _ _ => ⟨rfl, fun _ => rfl, fun _ => rfl⟩⟩) A mc ms p l e s m args below meth c C H1 locs1 lsA cs ss hcb hzb hP2 hD2 hS1 hL
/-- what a call's answer is, in the words of its kind -/
theorem DI.k {ν : Md} {vs : List Vq} {mc1 ms1 pc' rc' rs' : Nat} {K : Int → Wd → Prop} (h : DI G ν vs w mc1 ms1 K) (k : ∀ v w', Gw G w w' → K v w' → WD G μ pc' ls (vI v :: st) w' rc' rs' Q) : DC G ν vs w mc1 ms1 (fun r w' => WD G μ pc' ls (r.toList ++ st) w' rc' rs' Q) := DC.mono h (fun r w' _ _ _ hg hr => by obtain ⟨v, rfl, hv⟩ := hr; exact k v w' hg hv)
theorem DD.k {ν : Md} {vs : List Vq} {mc1 ms1 pc' rc' rs' : Nat} {K : UInt64 → Wd → Prop} (h : DD G ν vs w mc1 ms1 K) (k : ∀ v w', Gw G w w' → K v w' → WD G μ pc' ls (vD v :: st) w' rc' rs' Q) : DC G ν vs w mc1 ms1 (fun r w' => WD G μ pc' ls (r.toList ++ st) w' rc' rs' Q) := DC.mono h (fun r w' _ _ _ hg hr => by obtain ⟨v, rfl, hv⟩ := hr; exact k v w' hg hv)
theorem DP.k {ν : Md} {vs : List Vq} {mc1 ms1 pc' rc' rs' : Nat} {K : Option Nat → Wd → Prop} (h : DP G ν vs w mc1 ms1 K) (k : ∀ v w', Gw G w w' → K v w' → WD G μ pc' ls (vP v :: st) w' rc' rs' Q) : DC G ν vs w mc1 ms1 (fun r w' => WD G μ pc' ls (r.toList ++ st) w' rc' rs' Q) := DC.mono h (fun r w' _ _ _ hg hr => by obtain ⟨v, rfl, hv⟩ := hr; exact k v w' hg hv)
theorem DV.k {ν : Md} {vs : List Vq} {mc1 ms1 pc' rc' rs' : Nat} {K : Wd → Prop} (h : DV G ν vs w mc1 ms1 K) (k : ∀ w', Gw G w w' → K w' → WD G μ pc' ls st w' rc' rs' Q) : DC G ν vs w mc1 ms1 (fun r w' => WD G μ pc' ls (r.toList ++ st) w' rc' rs' Q) := DC.mono h (fun r w' _ _ _ hg hr => by obtain ⟨rfl, hv⟩ := hr; exact k w' hg hv)
theorem CI.kd {ν : Md} {vs : List Vq} {pc' rc' rs' : Nat} {K : Int → St → Prop} (h : CI ν vs (wS w) K) (k : ∀ v σ', K v σ' → WD G μ pc' ls (vI v :: st) (uS w σ') rc' rs' Q) : Con ν vs (wS w) (fun r σ' => WD G μ pc' ls (r.toList ++ st) (uS w σ') rc' rs' Q) := Con.mono h (fun r σ' _ _ hr => by obtain ⟨v, rfl, hv⟩ := hr; exact k v σ' hv)
end XD
