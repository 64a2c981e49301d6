-- the constructors: where a new object stands, what is made behind it
abbrev nlq : List (String × Nat × MethodName × String) := [("CoinSampler", 11, mn M_Ta_init, "CoinSampler"), ("CoinSampler", 18, mn M_Le_init, "CoinSampler"), ("CoinSampler$Reader", 11, mn M_Le_init, "CoinSampler"), ("CoinSampler", 34, mn M_Te_init, "CoinSampler"), ("CoinSampler", 62, mn M_Fa_init, "CoinSampler"), ("CoinSampler", 87, mn M_Li_init, "CoinSampler")]
/-- the links between nest mates -/
def NL (U : State) : Prop := ∀ q ∈ nlq, va_Nw (.methodLinkNest q.1 q.2.1 q.2.2.1 q.2.2.2) U
theorem NL.warm {s U : State} (h : NL s) (hW : s.WarmedH U.vm) : NL U := fun q hq => va_Nw.warmM hW (h q hq)
theorem NL.same {s U : State} (h : NL s) (e : s.vm = U.vm) : NL U := fun q hq => va_Nw.same rfl e (h q hq)
def CxK (μ : Md) (G : Gq) (sz : Nat) (p : Program) (s : State) (m : MethodId) (args : Array Value) (meth : Method) (c : Code) : Prop :=
  p.tables.exec = Jvm.exec ∧ c.code = cd μ ∧ c.maxLocals = mL μ ∧ meth.sig.returnType = rt μ ∧ meth.locks = false ∧ s.vm.findClass (mn μ).cls = some m.cls ∧ meth.name = (mn μ).name ∧ (∀ w ∈ UW, w.before args s = true) ∧ va_K G.1 vwCl (tyq G) s ∧ s.heap.size = sz ∧ NL s
/-- room: frames, cells, slots, locals -/
abbrev Rmk : Type := Nat × Nat × Nat × Nat
def rmk (R : Rmk) : Room := { frames := R.1, cells := R.2.1, slots := R.2.2.1, locals := R.2.2.2 }
/-- what a constructor leaves: its object and what it made, at addresses that f names -/
def KQ (G : Gq) (w0 : va_W) (w1 : (Nat → Nat) → va_W) (sz : Nat) : Array Value → State → Outcome → State → Prop := va_Qv (fun _ : Nat → Nat => True) (fun f t => va_P G.1 vwCl (w1 f) t.heap ∧ va_D (va_A w0 sz) (w1 f)) (va_A w0 sz)
def WK (μ : Md) (G : Gq) (R : Rmk) (w0 : va_W) (sz : Nat) (Qc : Array Value → State → Outcome → State → Prop) (pc : Nat) (ls : List (Nat × Value)) (st : List Value) (ws : va_W) (cs sl : Nat) : Prop :=
  ∀ (p : Program) (l : Launch) (e : Env) (s : State) (m : MethodId) (args : Array Value) (below : List Frame) (meth : Method) (c : Code), CxK μ G sz p s m args meth c →
  ∀ (H : Heap) (locs : List Loc) (lsA : Array Slot), va_P G.1 vwCl ws H → va_D (va_A w0 sz) ws → va_S (va_A w0 sz) s.heap H locs → lv_has lsA (mL μ) ls →
    W p l e (rmk R) s m args below meth c H locs cs sl (MQ below Qc args s R.2.1 R.2.2.1 (va_A w0 sz)) (F0 m pc lsA st)
/-- a constructor's contract -/
def KC (μ : Md) (G : Gq) (R : Rmk) (av : List Value) (w0 : va_W) (w1 : (Nat → Nat) → va_W) (sz : Nat) : Prop := ∀ l : Launch, Met l (mn μ) (wsq μ) (rmk R) (va_Pc av (fun U => U.heap.size = sz ∧ va_P G.1 vwCl w0 U.heap ∧ va_K G.1 vwCl (tyq G) U ∧ va_D (fun _ => True) w0 ∧ NL U)) (KQ G w0 w1 sz) R.2.1 R.2.2.1 (va_A w0 sz)
theorem KC.of {μ : Md} {G : Gq} {R : Rmk} {av : List Value} {w0 : va_W} {w1 : (Nat → Nat) → va_W} {sz : Nat} {ls : List (Nat × Value)} (hok : MdOK μ) (hls : lv_args 0 av = ls) (hn : (lg_sl av).length ≤ mL μ) (h : WK μ G R w0 sz (KQ G w0 w1 sz) 0 ls [] w0 0 0) : KC μ G R av w0 w1 sz := by
  subst hls
  intro l
  refine q_ofW (cc := cd μ) (maxL := mL μ) (ret := rt μ) hok.2.2.2 rfl ?_
  intro p e s m args below meth c s₁ B hml hv
  obtain ⟨rfl, hsz, hP, hK, hD, hN⟩ := hv
  have hts := atoms_spec (ws := wsq μ) B.pre
  have hl := lv_entry av (n := mL μ) hn
  rw [lg_entry_eq]
  exact h p l e s m _ below meth c ⟨B.exec, B.bytes, hml, B.returns, B.notSynchronized, findClass_of_methodNamed B.named, (name_of_methodNamed B.named B.method).1, fun w hw => hts w (List.mem_cons_of_mem _ hw), hK, hsz, hN⟩ s.heap [] _ hP hD.self va_S.rf hl
theorem va_D.apq {A B : Nat → Prop} {wr w1 : va_W} (h1 : va_D A wr) (h2 : va_D B w1) (hn : ∀ (k : Nat) (q : Nat × va_E), wr[k]? = some q → ¬ B q.1) (hB : ∀ q, B q → A q) : va_D A (wr ++ w1) := by
  have spl : ∀ (k : Nat) (q : Nat × va_E), (wr ++ w1)[k]? = some q → (k < wr.length ∧ wr[k]? = some q) ∨ (wr.length ≤ k ∧ w1[k - wr.length]? = some q) := fun k q hk => by
    rcases Nat.lt_or_ge k wr.length with h | h
    · exact Or.inl ⟨h, by rwa [List.getElem?_append_left h] at hk⟩
    · exact Or.inr ⟨h, by rwa [List.getElem?_append_right h] at hk⟩
  refine ⟨fun i j x y hi hj exy => ?_, fun k q hk => ?_⟩
  · rcases spl i x hi with ⟨a, a1⟩ | ⟨a, a1⟩ <;> rcases spl j y hj with ⟨b, b1⟩ | ⟨b, b1⟩
    · exact h1.1 i j x y a1 b1 exy
    · exact absurd (exy ▸ h2.2 _ y b1) (hn i x a1)
    · exact absurd (exy ▸ h2.2 _ x a1) (hn j y b1)
    · have := h2.1 _ _ x y a1 b1 exy
      omega
  · rcases spl k q hk with ⟨a, a1⟩ | ⟨a, a1⟩
    · exact h1.2 k q a1
    · exact hB _ (h2.2 _ q a1)
theorem hA_sz {w0 : va_W} {sz : Nat} {s : State} (h : s.heap.size = sz) : ∀ q : Nat, s.heap.size ≤ q → va_A w0 sz q := fun q hq => Or.inr (by rw [← h]; exact hq)
section KR
variable {μ : Md} {G : Gq} {R : Rmk} {w0 : va_W} {sz : Nat} {Qc : Array Value → State → Outcome → State → Prop} {pc : Nat} {ls : List (Nat × Value)} {st : List Value} {ws : va_W} {cs sl : Nat}
theorem k_aloadn {i : Fin 4} {a : Nat} (j : Nat) (hd : decode (cd μ) pc = .ok (.aload_n i, 1)) (hm : ls[j]? = some ((i : Nat), .ref a)) (kk : WK μ G R w0 sz Qc (pc + 1) ls (.ref a :: st) ws cs sl) : WK μ G R w0 sz Qc pc ls st ws cs sl := by
  intro p l e s m args below meth c C H locs lsA hP hD hS hl
  exact lv_aload_n C.1 C.2.1 hd rfl (lv_at hl j hm) (kk p l e s m args below meth c C H locs lsA hP hD hS hl)
theorem k_aload {i : Nat} {a : Nat} (j : Nat) (hd : decode (cd μ) pc = .ok (.aload i, 2)) (hm : ls[j]? = some (i, .ref a)) (kk : WK μ G R w0 sz Qc (pc + 2) ls (.ref a :: st) ws cs sl) : WK μ G R w0 sz Qc pc ls st ws cs sl := by
  intro p l e s m args below meth c C H locs lsA hP hD hS hl
  exact lv_aload C.1 C.2.1 hd (lv_at hl j hm) (kk p l e s m args below meth c C H locs lsA hP hD hS hl)
theorem k_dup {v : Value} (hd : decode (cd μ) pc = .ok (.dup, 1)) (hv : v.category = 1) (kk : WK μ G R w0 sz Qc (pc + 1) ls (v :: v :: st) ws cs sl) : WK μ G R w0 sz Qc pc ls (v :: st) ws cs sl := by
  intro p l e s m args below meth c C H locs lsA hP hD hS hl
  exact lv_dup C.1 C.2.1 hd hv (kk p l e s m args below meth c C H locs lsA hP hD hS hl)
theorem k_iconst {i : Int} {v : Int32} (hd : decode (cd μ) pc = .ok (.iconst i, 1)) (hv : Int32.ofInt i = v) (kk : WK μ G R w0 sz Qc (pc + 1) ls (.int v :: st) ws cs sl) : WK μ G R w0 sz Qc pc ls st ws cs sl := by
  intro p l e s m args below meth c C H locs lsA hP hD hS hl
  exact lv_iconst C.1 C.2.1 hd hv (kk p l e s m args below meth c C H locs lsA hP hD hS hl)
theorem k_bipush {i : Int} {v : Int32} (hd : decode (cd μ) pc = .ok (.bipush i, 2)) (hv : (Int8.ofInt i).toInt32 = v) (kk : WK μ G R w0 sz Qc (pc + 2) ls (.int v :: st) ws cs sl) : WK μ G R w0 sz Qc pc ls st ws cs sl := by
  intro p l e s m args below meth c C H locs lsA hP hD hS hl
  exact lv_bipush C.1 C.2.1 hd hv (kk p l e s m args below meth c C H locs lsA hP hD hS hl)
theorem k_sipush {i : Int} {v : Int32} (hd : decode (cd μ) pc = .ok (.sipush i, 3)) (hv : (Int16.ofInt i).toInt32 = v) (kk : WK μ G R w0 sz Qc (pc + 3) ls (.int v :: st) ws cs sl) : WK μ G R w0 sz Qc pc ls st ws cs sl := by
  intro p l e s m args below meth c C H locs lsA hP hD hS hl
  exact lv_sipush C.1 C.2.1 hd hv (kk p l e s m args below meth c C H locs lsA hP hD hS hl)
theorem k_ldc {i : Nat} {v : Int32} (hd : decode (cd μ) pc = .ok (.ldc i, 2)) (hw : Cond.constant (mn μ).cls i v ∈ UW) (kk : WK μ G R w0 sz Qc (pc + 2) ls (.int v :: st) ws cs sl) : WK μ G R w0 sz Qc pc ls st ws cs sl := by
  intro p l e s m args below meth c C H locs lsA hP hD hS hl
  exact lv_ldc C.1 C.2.1 C.2.2.2.2.2.1 (C.2.2.2.2.2.2.2.1 _ hw) hd (kk p l e s m args below meth c C H locs lsA hP hD hS hl)
/-- Object's own constructor -/
theorem k_obj {i a : Nat} (hd : decode (cd μ) pc = .ok (.invokespecial i, 3)) (h1 : Cond.methodLink (mn μ).cls i Lib.objectInit ∈ UW) (h2 : Cond.instanceMethod Lib.objectInit ∈ UW) (h3 : Cond.code Lib.objectInit ⟨#[0xb1]⟩ 1 none ∈ UW) (hR : 1 ≤ R.1 ∧ (st.map fun v => v.category).sum + 12 ≤ R.2.2.2) (kk : WK μ G R w0 sz Qc (pc + 3) ls st ws cs sl) : WK μ G R w0 sz Qc pc ls (.ref a :: st) ws cs sl := by
  intro p l e s m args below meth c C H locs lsA hP hD hS hl
  have hts := C.2.2.2.2.2.2.2.1
  refine W.objInit C.1 C.2.1 C.2.2.2.2.2.1 (hts _ h1) (hts _ h2) (hts _ h3) rfl (by rw [C.2.2.1]; exact hl.1) rfl hd hR.1 ?_ ?_
  · show 2 * 0 + _ + 12 ≤ R.2.2.2
    have := hR.2
    omega
  · exact W.eq (g2 := F0 m (pc + 3) lsA st) rfl (kk p l e s m args below meth c C H locs lsA hP hD hS hl)
/-- a new array -/
theorem k_newa {atype : ArrayType} {ty : FieldType} {cA : ClassId} {N : Nat} {v : Int32} (t0 : Nat) (hd : decode (cd μ) pc = .ok (.newarray atype, 2)) (hty : newarray.typeOf atype = ty) (harr : Cond.arrayClass ty ∈ UW) (ht : (tyq G)[t0]? = some (cA, ty)) (hra : ∀ (U : State) (cB : ClassId), va_RA U cB ty = (U.vm.findClass ("[" ++ ty.toString) = some cB)) (ha : ∀ cA : ClassId, vp_cell cA (N, .inl (fun _ => 0)) = arrV cA N (fun _ => defaultValue ty)) (hv : ¬ v < 0) (hN : v.toNatClampNeg = N) (hby : N * componentBytes ty ≤ 536870912) (hc : cs + 1 ≤ R.2.1) (hs : sl + N ≤ R.2.2.1)
    (kk : ∀ q : Nat, WK μ G R w0 sz Qc (pc + 2) ls (.ref q :: st) (ws ++ [(q, .inl (cA, N, .inl (fun _ => 0)))]) (cs + 1) (sl + N)) : WK μ G R w0 sz Qc pc ls (.int v :: st) ws cs sl := by
  intro p l e s m args below meth c C H locs lsA hP hD hS hl
  have hts := C.2.2.2.2.2.2.2.1
  have hK := C.2.2.2.2.2.2.2.2.1
  have hsz := C.2.2.2.2.2.2.2.2.2.1
  refine va_newa C.1 C.2.1 (by rw [hty]; exact hts _ harr) hty hK hP hD hS (hA_sz hsz) (a0 := (N, .inl (fun _ => 0))) ha hv hN hby hc hs hd (fun q cB H1 hK1 hP1 hD1 hS1 => ?_)
  have hcc : cA = cB := by
    have h1 := (hK.2 t0 _ ht).2
    have h2 := (hK1.2 (tyq G).length (cB, ty) (by simp)).2
    rw [hra] at h1 h2
    exact Option.some.inj (h1.symm.trans h2)
  subst hcc
  exact kk q p l e s m args below meth c C H1 locs lsA hP1 hD1 hS1 hl
/-- a new object -/
theorem k_new {idx ci N : Nat} {Cn : String} {T : u_T} {ty : Nat → FieldType} {fs : List Value} (hd : decode (cd μ) pc = .ok (.new idx, 3)) (hcl : ClOK ci Cn T N) (hty : ∀ k, k < N → parseFieldDescriptor (T k).2.2.1 = some (ty k)) (h1 : Cond.classLink (mn μ).cls idx Cn ∈ UW) (h2 : Cond.instantiable Cn N ∈ UW) (h3 : Cond.initialized Cn ∈ UW) (hfs : ∀ j, j < N → defaultValue (ty j) = vp_V fs j) (hc : cs + 1 ≤ R.2.1) (hs : sl + N ≤ R.2.2.1)
    (kk : ∀ q : Nat, WK μ G R w0 sz Qc (pc + 3) ls (.ref q :: st) (ws ++ [(q, .inr (ci, fs))]) (cs + 1) (sl + N)) : WK μ G R w0 sz Qc pc ls st ws cs sl := by
  intro p l e s m args below meth c C H locs lsA hP hD hS hl
  have hts := C.2.2.2.2.2.2.2.1
  have hK := C.2.2.2.2.2.2.2.2.1
  have hsz := C.2.2.2.2.2.2.2.2.2.1
  exact va_new C.1 C.2.1 hts hcl.2 ty hty C.2.2.2.2.2.1 (hts _ h1) (hts _ h2) (hts _ h3) hK hP hD hS (hA_sz hsz) hcl.1 hfs hc hs hd (fun q H1 hP1 hD1 hS1 => kk q p l e s m args below meth c C H1 locs lsA hP1 hD1 hS1 hl)
theorem k_iast {ws' : va_W} {a : Nat} {cA : ClassId} {N : Nat} {f : Nat → Int32} {i x : Int32} (q0 : Nat) (hd : decode (cd μ) pc = .ok (.iastore, 1)) (ha : ws[q0]? = some (a, .inl (cA, N, .inl f))) (ht : (tyq G)[0]? = some (cA, .int)) (hi : vp_in i N) (hws : ws.set q0 (a, .inl (cA, N, .inl (upd f i.toNatClampNeg x))) = ws') (kk : WK μ G R w0 sz Qc (pc + 1) ls st ws' cs sl) : WK μ G R w0 sz Qc pc ls (.int x :: .int i :: .ref a :: st) ws cs sl := by
  subst hws
  intro p l e s m args below meth c C H locs lsA hP hD hS hl
  exact va_iast C.1 C.2.1 C.2.2.2.2.2.2.2.2.1 hP hD hS q0 0 ha ht hi hd (fun H1 locs1 hP1 hD1 hS1 => kk p l e s m args below meth c C H1 locs1 lsA hP1 hD1 hS1 hl)
theorem k_get {a ci N idx : Nat} {Cn : String} {T : u_T} {fs : List Value} {v : Value} (q0 k : Nat) (hd : decode (cd μ) pc = .ok (.getfield idx, 3)) (ha : ws[q0]? = some (a, .inr (ci, fs))) (hcl : ClOK ci Cn T N) (hk : k < N) (hw : Cond.fieldLink (mn μ).cls idx (T k).1 (T k).2.1 (T k).2.2.1 ∈ UW) (hv : fs[k]? = some v) (kk : WK μ G R w0 sz Qc (pc + 3) ls (v :: st) ws cs sl) : WK μ G R w0 sz Qc pc ls (.ref a :: st) ws cs sl := by
  intro p l e s m args below meth c C H locs lsA hP hD hS hl
  exact va_get (D := G.1) (ci := ci) (C := Cn) (T := T) (N := N) (ref := (T k).1) C.1 C.2.1 C.2.2.2.2.2.2.2.1 hcl.2 C.2.2.2.2.2.1 C.2.2.2.2.2.2.2.2.1 hP q0 ha hcl.1 k hk (C.2.2.2.2.2.2.2.1 _ hw) (fun x h => h) hv hd (kk p l e s m args below meth c C H locs lsA hP hD hS hl)
theorem k_put {ws' : va_W} {a ci N idx : Nat} {Cn : String} {T : u_T} {fs : List Value} {v : Value} {ty : FieldType} {ty0 : Nat → FieldType} (q0 k : Nat) (hd : decode (cd μ) pc = .ok (.putfield idx, 3)) (ha : ws[q0]? = some (a, .inr (ci, fs))) (hcl : ClOK ci Cn T N) (hk : k < N) (hw : Cond.fieldLink (mn μ).cls idx (T k).1 (T k).2.1 (T k).2.2.1 ∈ UW) (hty : ∀ k, k < N → parseFieldDescriptor (T k).2.2.1 = some (ty0 k)) (hnm : ∀ a, a < N → ∀ b, b < N → a ≠ b → (T a).2.1 ≠ (T b).2.1) (hfin : (T k).2.2.2 = false) (h1 : parseFieldDescriptor (T k).2.2.1 = some ty) (h2 : narrow ty v = v) (h3 : fits ty v = true) (h4 : k < fs.length) (hws : ws.set q0 (a, .inr (ci, fs.set k v)) = ws')
    (kk : WK μ G R w0 sz Qc (pc + 3) ls st ws' cs sl) : WK μ G R w0 sz Qc pc ls (v :: .ref a :: st) ws cs sl := by
  subst hws
  intro p l e s m args below meth c C H locs lsA hP hD hS hl
  exact va_put (D := G.1) (ci := ci) (C := Cn) (T := T) (N := N) (ref := (T k).1) C.1 C.2.1 C.2.2.2.2.2.2.2.1 hcl.2 ty0 hty hnm C.2.2.2.2.2.1 C.2.2.2.2.2.2.2.2.1 hP hD hS q0 ha hcl.1 k hk (C.2.2.2.2.2.2.2.1 _ hw) (fun x h => h) hfin h1 h2 h3 h4 hd (fun H1 locs1 hP1 hD1 hS1 => kk p l e s m args below meth c C H1 locs1 lsA hP1 hD1 hS1 hl)
theorem k_putF {ws' : va_W} {a ci N idx : Nat} {Cn : String} {T : u_T} {fs : List Value} {v : Value} {ty : FieldType} {ty0 : Nat → FieldType} (q0 k : Nat) (hd : decode (cd μ) pc = .ok (.putfield idx, 3)) (ha : ws[q0]? = some (a, .inr (ci, fs))) (hcl : ClOK ci Cn T N) (hk : k < N) (hw : Cond.fieldLink (mn μ).cls idx (T k).1 (T k).2.1 (T k).2.2.1 ∈ UW) (hty : ∀ k, k < N → parseFieldDescriptor (T k).2.2.1 = some (ty0 k)) (hnm : ∀ a, a < N → ∀ b, b < N → a ≠ b → (T a).2.1 ≠ (T b).2.1) (hfin : (T k).2.2.2 = true) (hin : (mn μ).name = "<init>") (hown : (T k).1 = (mn μ).cls) (h1 : parseFieldDescriptor (T k).2.2.1 = some ty) (h2 : narrow ty v = v) (h3 : fits ty v = true) (h4 : k < fs.length) (hws : ws.set q0 (a, .inr (ci, fs.set k v)) = ws')
    (kk : WK μ G R w0 sz Qc (pc + 3) ls st ws' cs sl) : WK μ G R w0 sz Qc pc ls (v :: .ref a :: st) ws cs sl := by
  subst hws
  intro p l e s m args below meth c C H locs lsA hP hD hS hl
  exact va_putF (D := G.1) (ci := ci) (C := Cn) (T := T) (N := N) (ref := (T k).1) C.1 C.2.1 C.2.2.2.2.2.2.2.1 hcl.2 ty0 hty hnm C.2.2.2.2.2.1 C.2.2.2.2.2.2.2.2.1 hP hD hS q0 ha hcl.1 k hk (C.2.2.2.2.2.2.2.1 _ hw) (fun x h => h) hfin (by rw [C.2.2.2.2.2.2.1]; exact hin) hown h1 h2 h3 h4 hd (fun H1 locs1 hP1 hD1 hS1 => kk p l e s m args below meth c C H1 locs1 lsA hP1 hD1 hS1 hl)
/-- its end -/
theorem k_ret {w1 : (Nat → Nat) → va_W} (f : Nat → Nat) (hd : decode (cd μ) pc = .ok (.return_, 1)) (hr : rt μ = none) (hw : ws = w1 f) (hc : cs = R.2.1) (hs : sl = R.2.2.1) : WK μ G R w0 sz (KQ G w0 w1 sz) pc ls [] ws cs sl := by
  subst hc hs hw
  intro p l e s m args below meth c C H locs lsA hP hD hS hl
  exact W.vret C.1 C.2.1 (by rw [C.2.2.2.1, hr]) (fun t ht hW => ⟨⟨f, rfl, trivial, by rw [ht]; exact hP, hD⟩, hS.F ht⟩) hS.2.2 hd C.2.2.2.2.1
/-- another constructor's call: its object is the last cell -/
theorem k_callq {ν : Md} {Rν : Rmk} {As : List Value} {a : Nat} {e0 : va_E} {w1 : (Nat → Nat) → va_W} {wr : va_W} {idx nA : Nat} (hM : ∀ z, KC ν G Rν (.ref a :: As) [(a, e0)] w1 z) (hc : cs + Rν.2.1 ≤ R.2.1) (hs : sl + Rν.2.2.1 ≤ R.2.2.1)
    (hrun : ∀ (p : Program) (l : Launch) (e : Env) (s : State) (m : MethodId) (args : Array Value) (below : List Frame) (meth : Method) (c : Code), CxK μ G sz p s m args meth c → ∀ (H : Heap) (locs : List Loc) (lsA : Array Slot), lsA.size = mL μ → PreS s H (va_Pc (.ref a :: As) (fun U => U.heap.size = H.size ∧ va_P G.1 vwCl [(a, e0)] U.heap ∧ va_K G.1 vwCl (tyq G) U ∧ va_D (fun _ => True) [(a, e0)] ∧ NL U)) (.ref a :: As) →
      va_Run p l e (rmk R) s m args below meth c H locs cs sl Rν.2.1 Rν.2.2.1 (F0 m pc lsA (As.reverse ++ .ref a :: st)) st (KQ G [(a, e0)] w1 H.size (Value.ref a :: As).toArray) (va_A [(a, e0)] H.size))
    (kk : ∀ f : Nat → Nat, WK μ G R w0 sz Qc (pc + 3) ls st (wr ++ w1 f) (cs + Rν.2.1) (sl + Rν.2.2.1)) : WK μ G R w0 sz Qc pc ls (As.reverse ++ .ref a :: st) (wr ++ [(a, e0)]) cs sl := by
  intro p l e s m args below meth c C H locs lsA hP hD hS hl
  have hsz := C.2.2.2.2.2.2.2.2.2.1
  have hK := C.2.2.2.2.2.2.2.2.1
  have ha : (wr ++ [(a, e0)])[wr.length]? = some (a, e0) := by simp
  have hPa : va_P G.1 vwCl [(a, e0)] H := fun k q hq => by
    have hz : k < 1 := (List.getElem?_eq_some_iff.mp hq).1
    rw [show k = 0 by omega] at hq
    cases hq
    exact hP _ _ ha
  have hDa : va_D (fun _ => True) [(a, e0)] := ⟨fun i j x y hi hj _ => by
    have h1 : i < 1 := (List.getElem?_eq_some_iff.mp hi).1
    have h2 : j < 1 := (List.getElem?_eq_some_iff.mp hj).1
    omega, fun _ _ _ => trivial⟩
  have inr : ∀ (k : Nat) (q : Nat × va_E), wr[k]? = some q → (wr ++ [(a, e0)])[k]? = some q := fun k q hq => by
    have := (List.getElem?_eq_some_iff.mp hq).1
    rw [List.getElem?_append_left this]
    exact hq
  have hF : ∀ q, va_A [(a, e0)] H.size q → va_A w0 sz q := fun q h => by
    rcases h with ⟨k, e1, hk⟩ | h
    · have hz : k < 1 := (List.getElem?_eq_some_iff.mp hk).1
      rw [show k = 0 by omega] at hk
      cases hk
      exact hD.2 _ _ ha
    · exact hA_sz hsz q (Nat.le_trans hS.1 h)
  have out : ∀ (k : Nat) (q : Nat × va_E), wr[k]? = some q → ¬ va_A [(a, e0)] H.size q.1 := fun k q hq h => by
    have hk1 := (List.getElem?_eq_some_iff.mp hq).1
    have hlt := (hP k q (inr k q hq)).lt
    rcases h with ⟨j, e1, hj⟩ | h
    · have hz : j < 1 := (List.getElem?_eq_some_iff.mp hj).1
      rw [show j = 0 by omega] at hj
      have hj2 : (a, e0) = (q.1, e1) := by simpa using hj
      have h3 : a = q.1 := congrArg Prod.fst hj2
      have := hD.1 k wr.length q (a, e0) (inr k q hq) ha h3.symm
      omega
    · omega
  refine va_callv (hrun p l e s m args below meth c C H locs lsA hl.1 ⟨fun a U g mk q => ?_, fun U hU hW => ⟨rfl, by rw [hU], by rw [hU]; exact hPa, va_K.moved hW.alike hK, hDa, C.2.2.2.2.2.2.2.2.2.2.warm hW⟩⟩) hS (fun q _ h => hF q h) hF (fun f t H1 locs1 ht hvm hw hB hz1 hk1 hS1 => ?_)
  · obtain ⟨q0, q1, qP, qK, qD, qN⟩ := q
    exact ⟨q0, q1, qP, va_K.moved (u := U) (U := U.calling g mk a) (Vm.Alike.refl U.vm) qK, qD, qN.same rfl⟩
  · obtain ⟨hP1, hD1⟩ := hB
    rw [ht] at hP1
    refine kk f p l e s m args below meth c C H1 locs1 lsA (va_P.app (fun k q hq => ?_) hP1) (va_D.apq ⟨fun i j x y hi hj => hD.1 i j x y (inr i x hi) (inr j y hj), fun k q hq => hD.2 k q (inr k q hq)⟩ hD1 out hF) hS1 hl
    exact (hP k q (inr k q hq)).kept (hk1 _ ((hP k q (inr k q hq)).lt) (out k q hq))
end KR
