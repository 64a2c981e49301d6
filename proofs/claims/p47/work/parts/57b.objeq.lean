-- Object.equals, walked in its caller's walk: no word speaks of Object's initialisation
abbrev OEn : MethodName := ⟨"java/lang/Object", "equals", "(Ljava/lang/Object;)Z"⟩
theorem oe_0 : decode object_method_4_code 0 = .ok (.aload_n 0, 1) := by decide +kernel
theorem oe_1 : decode object_method_4_code 1 = .ok (.aload_n 1, 1) := by decide +kernel
theorem oe_2 : decode object_method_4_code 2 = .ok (.if_acmp .ne 7, 3) := by decide +kernel
theorem oe_5 : decode object_method_4_code 5 = .ok (.iconst 1, 1) := by decide +kernel
theorem oe_6 : decode object_method_4_code 6 = .ok (.goto 4, 3) := by decide +kernel
theorem oe_9 : decode object_method_4_code 9 = .ok (.iconst 0, 1) := by decide +kernel
theorem oe_10 : decode object_method_4_code 10 = .ok (.ireturn, 1) := by decide +kernel
theorem oe_steps {tb : Tables} [Ours tb] {e : Env} {below : List Frame} {s target : State} {g : JFrame} {c : Code} (h : At s g.method c below) (hexec : tb.exec = Jvm.exec) {m : MethodId} {meth : Method} {code : Code} {a : Addr} {v : Value} (hv : v.isRef = true) {ig : Instr} {len : Nat} (acts : List Action)
    (hm : s.vm.method? m = some meth) (hc : meth.code = some code) (hbytes : code.code = object_method_4_code) (hml : code.maxLocals = 2) (hret : meth.sig.returnType = some .boolean) (hl : meth.locks = false) (hp : s.plainMethod m)
    (hroom : e.platform.stackFull (((s.setTop g).threads[(s.setTop g).cur]?).getD { frames := [] }) (s.setTop g).frames code.maxLocals = false) (hdg : decode c.code g.pc = .ok (ig, len))
    (hrest : Steps tb e below (s.setTop { g with pc := g.pc + len, stack := .int (if Value.ref a = v then 1 else 0) :: g.stack }) target) :
    Steps tb e below (doInvoke e (s.setTop g) acts m #[.ref a, v]).1 target := by
  rw [doInvoke_enter h.top acts hm hc hl hroom]
  have hf := frames_entered (g := g) h.top (.java (entryFrame m #[.ref a, v] code.maxLocals))
  have A := At.enter (g := g) h #[.ref a, v] hm hc hp
  have he : entryFrame m #[.ref a, v] code.maxLocals = { method := m, pc := 0, locals := #[.val (.ref a), .val v], stack := [], locked := none } := by
    rw [hml]
    cases v <;> first | rfl | (simp [Value.isRef] at hv)
  rw [he] at A hf ⊢
  have hcg : ((s.setTop g).pushFrame (.java { method := m, pc := 0, locals := #[.val (.ref a), .val v], stack := [], locked := none })).code? g.method = some c := by
    have := h.code
    rw [State.code?_eq] at this ⊢
    simpa [State.pushFrame, State.setFrames] using this
  have hmu : ((s.setTop g).pushFrame (.java { method := m, pc := 0, locals := #[.val (.ref a), .val v], stack := [], locked := none })).vm.method? m = some meth := by simpa [State.pushFrame, State.setFrames] using hm
  have fin : ∀ (r : Int32), r = (if Value.ref a = v then 1 else 0) → narrow .boolean (.int r) = .int r → Steps tb e below (((s.setTop g).pushFrame (.java { method := m, pc := 0, locals := #[.val (.ref a), .val v], stack := [], locked := none })).setTop { method := m, pc := 10, locals := #[.val (.ref a), .val v], stack := [.int r], locked := none }) target := by
    intro r hr hn
    subst hr
    jvm_step A [hexec, hbytes, oe_10, hmu, hret, hn]
    intro acts'
    rw [doReturn_leave (g := g) (meth := meth) (cg := c) (ig := ig) (len := len) acts' hf (by simpa [State.pushFrame, State.setFrames] using hm) hl rfl rfl hcg hdg, setFrames_entered h.top, State.setTop_setTop]
    exact hrest
  jvm_step A [hexec, hbytes, oe_0, Value.isRef]
  jvm_step A [hexec, hbytes, oe_1, hv]
  by_cases hav : Value.ref a = v
  · subst hav
    jvm_step A [hexec, hbytes, oe_2, if_acmp.holds, Value.asRef?]
    trace_state
    jvm_step A [hexec, hbytes, oe_5]
    jvm_step A [hexec, hbytes, oe_6]
    exact fin 1 (by rw [if_pos rfl]) (by decide +kernel)
  · cases v <;> first | (simp [Value.isRef] at hv; done) | skip
    all_goals
      have hz : ∀ b : Addr, Value.ref b = Value.ref a → False ∨ b = a := fun b h => Or.inr (by cases h; rfl)
    · jvm_step A [hexec, hbytes, oe_2, if_acmp.holds, Value.asRef?]
      jvm_step A [hexec, hbytes, oe_9]
      exact fin 0 (by rw [if_neg hav]) (by decide +kernel)
    · next b =>
      have hab : ¬ a = b := fun h => hav (by rw [h])
      jvm_step A [hexec, hbytes, oe_2, if_acmp.holds, Value.asRef?, hab]
      jvm_step A [hexec, hbytes, oe_9]
      exact fin 0 (by rw [if_neg hav]) (by decide +kernel)
theorem oe_call {p : Program} {l : Launch} {e : Env} {R : Room} {s : State} {m : MethodId} {args : Array Value} {below : List Frame} {meth : Method} {c : Code} {T : State} {locs : List Loc} {cells slots : Nat} (X : Stand p l e R s m args below meth c T locs cells slots) (hexec : p.tables.exec = Jvm.exec) {own C : String} {index : Nat}
    (hown : s.vm.findClass own = some m.cls) (hlink : (Cond.methodLink own index OEn).before args s = true) (hsame : (Cond.sameMethod OEn.cls "java/lang/Object" OEn.name OEn.desc).before args s = true)
    (hsel : (Cond.selects C OEn OEn).before args s = true) (hinst : (Cond.instanceMethod OEn).before args s = true) (hcode : (Cond.code OEn object_method_4_code 2 (some .boolean)).before args s = true)
    {b : Addr} {cellB : Cell} (hcell : T.heap[b]? = some cellB) (hobj : cellB.vm.isStatics = false) (hcls : s.vm.findClass C = some cellB.cls)
    {g : JFrame} (hg : g.method = m) (hsize : g.locals.size = c.maxLocals) {v : Value} {rest : List Value} (hv : v.isRef = true) (hstack : g.stack = v :: .ref b :: rest) (hframes : 1 ≤ R.frames) (hlocals : 2 * g.monitorRoom + (rest.map fun v => v.category).sum + (2 + 11) ≤ R.locals) (hdg : decode c.code g.pc = .ok (.invokevirtual index, 3)) :
    ∃ vm₁ : Vm, s.WarmedH vm₁ ∧ Stand p l e R s m args below meth c (T.setVm vm₁) locs cells slots ∧ ∀ target, Steps p.tables e below ((T.setVm vm₁).setTop { g with pc := g.pc + 3, stack := .int (if Value.ref b = v then 1 else 0) :: rest }) target → Steps p.tables e below (T.setTop g) target := by
  obtain ⟨r0, r, hn, hrm, hstR, hsigR⟩ := va_Decl.of hinst hcode
  obtain ⟨cn, ck, r1, hcn, hck, hni, hf, hn1⟩ := Cond.sameMethod_found hsame
  cases hn.symm.trans hn1
  obtain ⟨mk, methM, hnamed, hmethM, -, habM⟩ := Cond.instanceMethod_spec hinst
  obtain ⟨c2, r2, m2, q1, q2, q3, q4, kP, hkP, hkPi⟩ := Cond.selects_spec hsel
  cases hcls.symm.trans q1
  cases hf.symm.trans q2
  cases hnamed.symm.trans q3
  obtain ⟨methV, cV, hmV, hcV, hbV, hlV, hretV, hlkV, -, hsig⟩ := Cond.code_spec hnamed hcode
  cases hmethM.symm.trans hmV
  have hselP : selectMethod e.platform s.vm cellB.cls r0 = .method mk := by rw [Launch.admits_selectMethod X.admits]; exact q4
  have hlen : [v].length = r.sig.parameters.length := by
    have h : parseMethodDescriptor "(Ljava/lang/Object;)Z" = some { parameters := [.object "java/lang/Object"], returnType := some .boolean } := by decide +kernel
    have h' : parseMethodDescriptor "(Ljava/lang/Object;)Z" = some r.sig := hsigR
    rw [h] at h'
    rw [← Option.some.inj h']
    rfl
  obtain ⟨vm₁, X₁, hstep₁⟩ := X.invokevirtualUp hexec hown hlink hsame (by decide) hn hrm hstR (a := b) (cell := cellB) hcell
    (fun z h => by rw [h] at hobj; cases hobj) hselP hmethM habM hkP hkPi (g := g) hg (argsL := [v]) (rest := rest) hlen hstack hdg
  refine ⟨vm₁, X₁.warmed, X₁, fun target h => hstep₁ _ fun acts => ?_⟩
  subst hg
  have hnm := X₁.named hnamed
  exact oe_steps (g := { g with stack := rest }) X₁.here hexec hv acts (by rw [X₁.warmed.alike.method?]; exact hmV) hcV hbV hlV hretV hlkV (State.plainMethod.of_named (x := OEn) (by decide +kernel) hnm (by rw [X₁.warmed.alike.method?]; exact hmV)) (X₁.notFull (g := { g with stack := rest }) hsize hframes (by rw [hlV]; exact hlocals)) hdg h
section XE
variable {G : Gq} {μ : Md} {pc : Nat} {ls : List (Nat × Vq)} {st : List Vq} {w : Wd} {rc rs : Nat} {Q : Option Vq → Wd → Prop}
theorem x_objEq {a ci idx : Nat} {q : vw_C} (r : Option Nat) (hI : Is G w a (kO ci)) (hq : vwCl[ci]? = some q) (hw : Cond.methodLink (mn μ).cls idx OEn ∈ UW) (hsame : Cond.sameMethod OEn.cls "java/lang/Object" OEn.name OEn.desc ∈ UW) (hsel : Cond.selects q.1 OEn OEn ∈ UW) (hin : Cond.instanceMethod OEn ∈ UW) (hcode : Cond.code OEn object_method_4_code 2 (some .boolean) ∈ UW) (hR : 1 ≤ fr μ ∧ (st.map ct).sum + 13 ≤ lo μ) (hd : decode (cd μ) pc = .ok (.invokevirtual idx, 3)) (kk : WD G μ (pc + 3) ls (vI (if some a = r then 1 else 0) :: st) w rc rs Q) : WD G μ pc ls (vP r :: vA a :: st) w rc rs Q := by
  intro hσ hx hl hs w0 hg A mc ms p l e s m args below meth c C H locs lsA cs ss hcb hzb hP hD hS hL
  have hts := C.2.2.2.2.2.2.1
  have go := kk hσ hx hl (oks_cons (v := vI (if some a = r then 1 else 0)) (by show inR _; split <;> decide) hs.tl.tl) w0 hg A mc ms p l e s m args below meth c C H locs lsA cs ss hcb hzb hP hD hS hL
  intro T hT X
  obtain ⟨cell, g1, g2, g3⟩ := recq_of hI hx hq hP C.2.2.2.2.2.2.2.1 C.2.2.2.2.2.2.2.2.2.2 hS
  obtain ⟨vm₁, hW, X₁, hst⟩ := oe_call X C.1 C.2.2.2.2.2.1 (hts _ hw) (hts _ hsame) (hts _ hsel) (hts _ hin) (hts _ hcode) (b := a) (by rw [hT]; exact g1) g2 g3 (g := F0 m pc lsA ((vP r :: vA a :: st).map (cv G))) rfl (by rw [C.2.2.1]; exact hL.1) (v := va_rf r) (rest := st.map (cv G)) (by cases r <;> rfl) rfl hR.1 (by rw [q_cats hs.tl.tl]; show 2 * 0 + _ + _ ≤ lo μ; have := hR.2; omega) (by rw [C.2.1]; exact hd)
  obtain ⟨t, a1, b1⟩ := go (T.setVm vm₁) hT X₁
  refine ⟨t, hst t ?_, b1⟩
  have e1 : (if Value.ref a = va_rf r then (1 : Int32) else 0) = Int32.ofInt (if some a = r then 1 else 0) := by
    cases r with
    | none => rfl
    | some b =>
      by_cases h : a = b
      · subst h; rw [if_pos (show Value.ref a = va_rf (some a) from rfl), if_pos rfl]; rfl
      · rw [if_neg (fun e => h (by cases e; rfl)), if_neg (fun e => h (Option.some.inj e))]; rfl
  rw [e1]
  exact a1
end XE
