-- the judgement over the moving world
theorem Extq.nar {G : Gq} {A B : Nat → Prop} {U : State} {H : Heap} (h : Extq G A U H) (hAB : ∀ q, B q → A q) : Extq G B U H := h.narrow hAB
theorem sxv_ok {G : Gq} : True := trivial
def fwq : List (String × MethodName × MethodName) := [("java/util/ArrayList$Itr", ⟨"java/util/Iterator", "hasNext", "()Z"⟩, ⟨"java/util/ArrayList$Itr", "hasNext", "()Z"⟩), ("java/util/ArrayList$Itr", ⟨"java/util/Iterator", "next", "()Ljava/lang/Object;"⟩, ⟨"java/util/ArrayList$Itr", "next", "()Ljava/lang/Object;"⟩), ("java/util/LinkedHashMap$LinkedKeyIterator", ⟨"java/util/Iterator", "hasNext", "()Z"⟩, ⟨"java/util/LinkedHashMap$LinkedHashIterator", "hasNext", "()Z"⟩), ("java/util/LinkedHashMap$LinkedKeyIterator", ⟨"java/util/Iterator", "next", "()Ljava/lang/Object;"⟩, ⟨"java/util/LinkedHashMap$LinkedKeyIterator", "next", "()Ljava/lang/Object;"⟩), ("java/util/LinkedHashMap$LinkedKeySet", ⟨"java/util/Set", "iterator", "()Ljava/util/Iterator;"⟩, ⟨"java/util/LinkedHashMap$LinkedKeySet", "iterator", "()Ljava/util/Iterator;"⟩)]
def aoq : List String := ["java/lang/Object", "java/util/HashMap$Node"]
def aoA (U : State) : Prop := (Cond.arrayOver (.array .int)).before #[] U = true
theorem aoA_moved {u U : State} (hvm : u.vm.Alike U.vm) (h : aoA u) : aoA U := by
  unfold aoA at h ⊢
  rw [← h]
  simp only [Cond.before, Cond.holds, Cond.value, hvm.findClass]
  congr 1
  congr 1
  funext comp
  have hi : (U.vm.classes.findIdx? fun (x : Class) => match x.kind with | .array component _ => component == comp | _ => false) = u.vm.classes.findIdx? fun (x : Class) => match x.kind with | .array component _ => component == comp | _ => false := by
    refine (va_idx_bare U.vm comp).symm.trans (Eq.trans ?_ (va_idx_bare u.vm comp))
    first | rw [hvm.bare_eq] | rw [← hvm.bare_eq]
  refine (congrArg (fun o : Option Nat => Option.bind o (fun c => (U.vm.classes[c]?).map fun (k : Class) => match k.kind with | .array _ ty => decide (ty = FieldType.array .int) && decide (u.vm.findClass ("[" ++ (FieldType.array .int).toString) = some c) | _ => false)) hi).trans ?_
  congr 1
  funext c
  exact hvm.class_map _ (fun k r _ _ => rfl) c
/-- what stays of tables and of what stands behind -/
def EdD (G : Gq) (A : Nat → Prop) (U : State) (H : Heap) : Prop := ExD G A U H ∧ (∀ q ∈ fwq, va_Fw q.1 q.2.1 q.2.2 U) ∧ ((∀ q ∈ aoq, va_AO q U) ∧ va_Mi "[Ljava/lang/Object;" (xa G 284) U ∧ aoA U)
theorem fwq_mh : ∀ q ∈ fwq, q.2.1.cls ≠ "java/lang/invoke/MethodHandle" ∧ q.2.1.cls ≠ "java/lang/invoke/VarHandle" := by decide +kernel
/-- the kinds of words that stay through warming -/
def nwk : Cond → Bool
  | .castable _ _ => true
  | .declares _ => true
  | .methodLinkNest _ _ _ _ => true
  | .fieldLinkNest _ _ _ _ _ _ => true
  | .privateMethod _ => true
  | _ => false
theorem nwq_k : nwq.all nwk = true := by decide +kernel
theorem nw_priv {y : MethodName} {s U : State} (hW : s.WarmedH U.vm) (h : va_Nw (.privateMethod y) s) : va_Nw (.privateMethod y) U := va_tabs rfl (rfl : (s.setVm U.vm).vm = U.vm) (by rw [Cond.privateMethod_setVm hW.alike]; exact h)
theorem nw_warm {w : Cond} (hw : nwk w = true) {s U : State} (hW : s.WarmedH U.vm) (h : va_Nw w s) : va_Nw w U := by
  cases w <;> first | exact va_Nw.warmC hW h | exact va_Nw.warmD hW h | exact va_Nw.warmM hW h | exact va_Nw.warmF hW h | exact nw_priv hW h | exact absurd hw Bool.false_ne_true
theorem nw_tab {w : Cond} (hw : nwk w = true) : w.onTables = true := by
  cases w <;> first | rfl | exact absurd hw Bool.false_ne_true
theorem EdD.kept {G : Gq} {A : Nat → Prop} {U : State} {H H1 : Heap} (h : EdD G A U H) (hq : ∀ a : Nat, a < H.size → ¬ A a → H1[a]? = H[a]?) : EdD G A U H1 := by
  obtain ⟨⟨a1, a2, a3, a4, a5⟩, a6, a7⟩ := h
  exact ⟨⟨a1.kept hq, fun i hi => (a2 i hi).kept hq, fun q h => (a3 q h).kept hq, a4, a5⟩, a6, a7⟩
theorem EdD.narrow {G : Gq} {A B : Nat → Prop} {U : State} {H : Heap} (h : EdD G A U H) (hAB : ∀ q, B q → A q) : EdD G B U H := by
  obtain ⟨⟨a1, a2, a3, a4, a5⟩, a6, a7⟩ := h
  exact ⟨⟨a1.narrow hAB, fun i hi => (a2 i hi).narrow hAB, fun q h => (a3 q h).narrow hAB, a4, a5⟩, a6, a7⟩
theorem EdD.warm {G : Gq} {A : Nat → Prop} {s U : State} {H : Heap} (hW : s.WarmedH U.vm) (h : EdD G A s H) : EdD G A U H := by
  obtain ⟨⟨a1, a2, a3, a4, a5⟩, a6, a7⟩ := h
  have hv := hW.alike
  exact ⟨⟨a1.warm hW, fun i hi => (a2 i hi).moved hv, fun q h => (a3 q h).moved hv, fun q h => (a4 q h).warm hW, fun q h => nw_warm (List.all_eq_true.mp nwq_k q h) hW (a5 q h)⟩, fun q h => va_Fw.moved (fwq_mh q h) hv (a6 q h), fun q h => (a7.1 q h).moved hv, a7.2.1.moved hv, aoA_moved hv a7.2.2⟩
theorem EdD.same {G : Gq} {A : Nat → Prop} {s U : State} {H : Heap} (hv : U.vm = s.vm) (h : EdD G A s H) : EdD G A U H := by
  obtain ⟨⟨a1, a2, a3, a4, a5⟩, a6, a7⟩ := h
  have ha : s.vm.Alike U.vm := by rw [hv]; exact Vm.Alike.refl _
  exact ⟨⟨a1.same hv, fun i hi => (a2 i hi).moved ha, fun q h => (a3 q h).moved ha, fun q h => (a4 q h).same hv, fun q h => (a5 q h).same (nw_tab (List.all_eq_true.mp nwq_k q h)) hv.symm⟩, fun q h => va_Fw.moved (fwq_mh q h) ha (a6 q h), fun q h => (a7.1 q h).moved ha, a7.2.1.moved ha, aoA_moved ha a7.2.2⟩
def rmD (μ : Md) (mc ms : Nat) : Room := { frames := fr μ, cells := mc, slots := ms, locals := lo μ }
def AdD (G : Gq) (w : Wd) (sz : Nat) : Nat → Prop := fun q => (∃ k, k < 38 ∧ q = G.2.1 k) ∨ q ∈ wL w ∨ sz ≤ q
def PrD (G : Gq) (vs : List Vq) (w : Wd) (sz : Nat) : Array Value → State → Prop := va_Pc (vs.map (cv G)) (fun U => U.heap.size = sz ∧ va_P G.1 vwCl (wld2 G w) U.heap ∧ va_K G.1 vwCl (tyD G) U ∧ va_D (AdD G w sz) (wld2 G w) ∧ EdD G (AdD G w sz) U U.heap)
def QoD (G : Gq) (A : Nat → Prop) (w0 : Wd) (Q : Option Vq → Wd → Prop) : Array Value → State → Outcome → State → Prop := fun _ st oc t => (∃ (r : Option Vq) (w' : Wd), oc = .returned (r.map (cv G)) ∧ WFd w' ∧ XOK G w' ∧ okr r ∧ Gw G w0 w' ∧ Q r w' ∧ va_P G.1 vwCl (wld2 G w') t.heap ∧ va_D A (wld2 G w')) ∧ va_F A st t
def CxD (μ : Md) (G : Gq) (A : Nat → Prop) (p : Program) (s : State) (m : MethodId) (args : Array Value) (meth : Method) (c : Code) : Prop :=
  p.tables.exec = Jvm.exec ∧ c.code = cd μ ∧ c.maxLocals = mL μ ∧ meth.sig.returnType = rt μ ∧ meth.locks = false ∧ s.vm.findClass (mn μ).cls = some m.cls ∧ (∀ w ∈ UW, w.before args s = true) ∧ va_K G.1 vwCl (tyD G) s ∧ (∀ q, s.heap.size ≤ q → A q) ∧ meth.name = (mn μ).name ∧ EdD G A s s.heap
/-- from this place of the method on: it returns, Q holds of its answer and the world; at most rc cells of rs slots more are made -/
def WD (G : Gq) (μ : Md) (pc : Nat) (ls : List (Nat × Vq)) (st : List Vq) (w : Wd) (rc rs : Nat) (Q : Option Vq → Wd → Prop) : Prop :=
  WFd w → XOK G w → okl ls → oks st → ∀ (w0 : Wd), Gw G w0 w → ∀ (A : Nat → Prop) (mc ms : Nat) (p : Program) (l : Launch) (e : Env) (s : State) (m : MethodId) (args : Array Value) (below : List Frame) (meth : Method) (c : Code), CxD μ G A p s m args meth c →
  ∀ (H : Heap) (locs : List Loc) (lsA : Array Slot) (cs ss : Nat), cs + rc ≤ mc → ss + rs ≤ ms → va_P G.1 vwCl (wld2 G w) H → va_D A (wld2 G w) → va_S A s.heap H locs → lv_has lsA (mL μ) (asq G ls) →
    W p l e (rmD μ mc ms) s m args below meth c H locs cs ss (MQ below (QoD G A w0 Q) args s mc ms A) (F0 m pc lsA (st.map (cv G)))
/-- a call: it returns, and K holds of its answer and the world; it makes at most mc cells of ms slots -/
def DC (G : Gq) (μ : Md) (vs : List Vq) (w : Wd) (mc ms : Nat) (K : Option Vq → Wd → Prop) : Prop :=
  ∃ Q0 : Option Vq → Wd → Prop, (∀ r w', WFd w' → XOK G w' → okr r → Gw G w w' → Q0 r w' → K r w') ∧ (WFd w → XOK G w → oks vs → ∀ (l : Launch) (sz : Nat), Met l (mn μ) (wsq μ) (rmD μ mc ms) (PrD G vs w sz) (QoD G (AdD G w sz) w Q0) mc ms (AdD G w sz))
theorem DC.mono {G : Gq} {μ : Md} {vs : List Vq} {w : Wd} {mc ms : Nat} {K K' : Option Vq → Wd → Prop} (h : DC G μ vs w mc ms K) (hk : ∀ r w', WFd w' → XOK G w' → okr r → Gw G w w' → K r w' → K' r w') : DC G μ vs w mc ms K' := by
  obtain ⟨Q0, h1, h2⟩ := h
  exact ⟨Q0, fun r w' a b c d e => hk r w' a b c d (h1 r w' a b c d e), h2⟩
def yI (K : Int → Wd → Prop) : Option Vq → Wd → Prop := fun r w' => ∃ v, r = some (vI v) ∧ K v w'
def yD (K : UInt64 → Wd → Prop) : Option Vq → Wd → Prop := fun r w' => ∃ v, r = some (vD v) ∧ K v w'
def yP (K : Option Nat → Wd → Prop) : Option Vq → Wd → Prop := fun r w' => ∃ v, r = some (vP v) ∧ K v w'
def yV (K : Wd → Prop) : Option Vq → Wd → Prop := fun r w' => r = none ∧ K w'
abbrev DI (G : Gq) (μ : Md) (vs : List Vq) (w : Wd) (mc ms : Nat) (K : Int → Wd → Prop) : Prop := DC G μ vs w mc ms (yI K)
abbrev DD (G : Gq) (μ : Md) (vs : List Vq) (w : Wd) (mc ms : Nat) (K : UInt64 → Wd → Prop) : Prop := DC G μ vs w mc ms (yD K)
abbrev DP (G : Gq) (μ : Md) (vs : List Vq) (w : Wd) (mc ms : Nat) (K : Option Nat → Wd → Prop) : Prop := DC G μ vs w mc ms (yP K)
abbrev DV (G : Gq) (μ : Md) (vs : List Vq) (w : Wd) (mc ms : Nat) (K : Wd → Prop) : Prop := DC G μ vs w mc ms (yV K)
theorem PrD_blind {G : Gq} {vs : List Vq} {w : Wd} {sz : Nat} : FrameBlind (PrD G vs w sz) := by
  intro a U g mk h
  obtain ⟨h0, h1, h2, h3, h4, h5⟩ := h
  exact ⟨h0, h1, h2, va_K.moved (u := U) (U := U.calling g mk a) (Vm.Alike.refl U.vm) h3, h4, EdD.same (s := U) rfl h5⟩
/-- a method's contract out of the walk of its body -/
theorem DC.of {G : Gq} {μ : Md} {vs : List Vq} {w : Wd} {mc ms : Nat} {Q : Option Vq → Wd → Prop} {ls : List (Nat × Vq)} (hok : MdOK μ) (hls : inq 0 vs = ls) (hn : (vs.map ct).sum ≤ mL μ) (h : WD G μ 0 ls [] w mc ms Q) : DC G μ vs w mc ms Q := by
  subst hls
  refine ⟨Q, fun r w' _ _ _ _ hq => hq, fun hσ hx hvs l sz => ?_⟩
  refine q_ofW (cc := cd μ) (maxL := mL μ) (ret := rt μ) hok.2.2.2 rfl ?_
  intro p e s m args below meth c s₁ B hml hv
  obtain ⟨rfl, hsz, hP, hK, hD, hE⟩ := hv
  subst hsz
  have hts := atoms_spec (ws := wsq μ) B.pre
  have hl := lv_entry (vs.map (cv G)) (n := mL μ) (by rw [lg_sl_len vs hvs]; exact hn)
  rw [asq_inq vs 0 hvs] at hl
  rw [lg_entry_eq]
  exact h hσ hx (okl_inq vs 0 hvs) oks_nil w Gw.rf (AdD G w s.heap.size) mc ms p l e s m _ below meth c ⟨B.exec, B.bytes, hml, B.returns, B.notSynchronized, findClass_of_methodNamed B.named, fun w hw => hts w (List.mem_cons_of_mem _ hw), hK, fun q h => Or.inr (Or.inr h), (name_of_methodNamed B.named B.method).1, hE⟩ s.heap [] _ 0 0 (by omega) (by omega) hP hD va_S.rf hl
theorem WD.wf {G : Gq} {μ : Md} {pc : Nat} {ls : List (Nat × Vq)} {st : List Vq} {w : Wd} {rc rs : Nat} {Q : Option Vq → Wd → Prop} (h : WFd w → XOK G w → okl ls → WD G μ pc ls st w rc rs Q) : WD G μ pc ls st w rc rs Q := fun a b c => h a b c a b c
/-- fewer cells and slots needed than there are -/
theorem WD.less {G : Gq} {μ : Md} {pc : Nat} {ls : List (Nat × Vq)} {st : List Vq} {w : Wd} {rc rs rc' rs' : Nat} {Q : Option Vq → Wd → Prop} (h : WD G μ pc ls st w rc' rs' Q) (h1 : rc' ≤ rc) (h2 : rs' ≤ rs) : WD G μ pc ls st w rc rs Q := fun a b c d w0 g A mc ms p l e s m args below meth cc C H locs lsA cs ss x y => h a b c d w0 g A mc ms p l e s m args below meth cc C H locs lsA cs ss (by omega) (by omega)
