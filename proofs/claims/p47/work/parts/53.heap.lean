-- fields and arrays of the moving world
theorem rd_at {G : Gq} {w : Wd} {a : Nat} {H : Heap} (hP : va_P G.1 vwCl (wld2 G w) H) (hm : a ∈ wL w) : va_P G.1 vwCl [(a, dent G w a)] H := by
  obtain ⟨k, hk⟩ := wld2_at (G := G) hm
  intro i q hq
  have hz : i < 1 := (List.getElem?_eq_some_iff.mp hq).1
  rw [show i = 0 by omega] at hq
  cases hq
  exact hP _ _ hk
theorem Ow.A {G : Gq} {w : Wd} {A : Nat → Prop} {a : Nat} {k : Kd} (h : Ow w a k) (hD : va_D A (wld2 G w)) : A a := by
  obtain ⟨i, hi⟩ := wld2_at (G := G) h.1
  exact hD.2 _ _ hi
theorem EdD.xa {G : Gq} {A : Nat → Prop} {U : State} {H : Heap} (h : EdD G A U H) {i : Nat} (hi : i < xN) : ¬ A (xa G i) := (h.1.2.1 i hi).nA.2
/-- what stands behind isn't written -/
theorem Gw.wr {G : Gq} {w w' : Wd} {A : Nat → Prop} {U : State} {H : Heap} {a : Nat} (hE : EdD G A U H) (hA : A a) (hL : wL w' = wL w) (hK : wK w' = wK w) (hI : ∀ b, b ≠ a → ∀ j, wI w' b j = wI w b j) (hR : ∀ b, b ≠ a → ∀ j, wR w' b j = wR w b j) : Gw G w w' :=
  ⟨fun b hb => ⟨by rw [hL]; exact hb, by rw [hK]⟩, fun i hi => by
    have hne : xa G i ≠ a := fun e => hE.xa hi (by rw [e]; exact hA)
    exact ⟨by rw [hK], fun j => hI _ hne j, fun j => hR _ hne j⟩⟩
theorem XOK.wr {G : Gq} {w w' : Wd} {A : Nat → Prop} {U : State} {H : Heap} {a : Nat} (h : XOK G w) (hE : EdD G A U H) (hA : A a) (hK : wK w' = wK w) (hI : ∀ b, b ≠ a → ∀ j, wI w' b j = wI w b j) (hR : ∀ b, b ≠ a → ∀ j, wR w' b j = wR w b j) (hJ : ∀ b, b ≠ a → ∀ j, wJ w' b j = wJ w b j) : XOK G w' := fun i hi => by
  have hne : xa G i ≠ a := fun e => hE.xa hi (by rw [e]; exact hA)
  obtain ⟨h1, h2, h3, h4⟩ := h i hi
  exact ⟨by rw [hK]; exact h1, fun j => (hI _ hne j).trans (h2 j), fun j => (hR _ hne j).trans (h3 j), fun j => (hJ _ hne j).trans (h4 j)⟩
theorem va_S.w2 {A : Nat → Prop} {s : State} {H : Heap} {locs : List Loc} (h : va_S A s.heap H locs) {G : Gq} {i : Nat} (hX : Xat G i A s s.heap) : Xat G i A s H := hX.kept h.2.1
theorem recq_of {G : Gq} {w : Wd} {a ci : Nat} {q : vw_C} {A : Nat → Prop} {s : State} {H : Heap} {locs : List Loc} (hI : Is G w a (kO ci)) (hx : XOK G w) (hq : vwCl[ci]? = some q) (hP : va_P G.1 vwCl (wld2 G w) H) (hK : va_K G.1 vwCl (tyD G) s) (hE : EdD G A s s.heap) (hS : va_S A s.heap H locs) : ∃ cell : Cell, H[a]? = some cell ∧ cell.vm.isStatics = false ∧ s.vm.findClass q.1 = some cell.cls := by
  rcases hI.1 with hm | ⟨i, hi, rfl⟩
  · exact va_recv (q0 := 0) (fs := dfl w a (fdq ci)) hK (rd_at hP hm) hq (by rw [dent_kO hI.2]; rfl)
  · have h := hS.w2 (hE.1.2.1 i hi)
    have hk := (hx i hi).1
    rw [hI.2] at hk
    unfold Xat at h
    rw [← hk] at h
    obtain ⟨q2, h1, ⟨cell, h2, h3, h4, -⟩, -⟩ := h
    rw [hq] at h1
    cases h1
    exact ⟨cell, h2, h3, h4⟩
section XH
variable {G : Gq} {μ : Md} {pc : Nat} {ls : List (Nat × Vq)} {st : List Vq} {w : Wd} {rc rs : Nat} {Q : Option Vq → Wd → Prop}
/-- references in locals and on the stack -/
theorem x_aload_nP {j : Fin 4} (r : Option Nat) (hd : decode (cd μ) pc = .ok (.aload_n j, 1)) (hq : lq (j : Nat) ls = some (vP r)) (k : WD G μ (pc + 1) ls (vP r :: st) w rc rs Q) : WD G μ pc ls st w rc rs Q := by
  intro hσ hx hl hs w0 hg A mc ms p l e s m args below meth c C H locs lsA cs ss hc hz hP hD hS hL
  cases r with
  | none => exact lv_aload_nN C.1 C.2.1 hd rfl (asq_at hL (lq_mem hq)) (k hσ hx hl (oks_cons (hl _ (lq_mem hq)) hs) w0 hg A mc ms p l e s m args below meth c C H locs lsA cs ss hc hz hP hD hS hL)
  | some a => exact lv_aload_n C.1 C.2.1 hd rfl (asq_at hL (lq_mem hq)) (k hσ hx hl (oks_cons (hl _ (lq_mem hq)) hs) w0 hg A mc ms p l e s m args below meth c C H locs lsA cs ss hc hz hP hD hS hL)
theorem x_aloadP {j : Nat} (r : Option Nat) (hd : decode (cd μ) pc = .ok (.aload j, 2)) (hq : lq (j : Nat) ls = some (vP r)) (k : WD G μ (pc + 2) ls (vP r :: st) w rc rs Q) : WD G μ pc ls st w rc rs Q := by
  intro hσ hx hl hs w0 hg A mc ms p l e s m args below meth c C H locs lsA cs ss hc hz hP hD hS hL
  cases r with
  | none => exact lv_aloadN C.1 C.2.1 hd (asq_at hL (lq_mem hq)) (k hσ hx hl (oks_cons (hl _ (lq_mem hq)) hs) w0 hg A mc ms p l e s m args below meth c C H locs lsA cs ss hc hz hP hD hS hL)
  | some a => exact lv_aload C.1 C.2.1 hd (asq_at hL (lq_mem hq)) (k hσ hx hl (oks_cons (hl _ (lq_mem hq)) hs) w0 hg A mc ms p l e s m args below meth c C H locs lsA cs ss hc hz hP hD hS hL)
theorem x_astore_nP {k0 : Fin 4} {j : Nat} (r : Option Nat) {ls' : List (Nat × Vq)} (hd : decode (cd μ) pc = .ok (.astore_n k0, 1)) (hi : (k0 : Nat) = j) (hn : j < mL μ) (he : stl j (vP r) ls = ls') (k : WD G μ (pc + 1) ls' st w rc rs Q) : WD G μ pc ls (vP r :: st) w rc rs Q := by
  intro hσ hx hl hs w0 hg A mc ms p l e s m args below meth c C H locs lsA cs ss hc hz hP hD hS hL
  subst he
  cases r with
  | none => exact lv_astore_nN C.1 C.2.1 hd hi hL hn (asq_stl (i := j) (v := vP none) hl) (fun lsA' hL' => k hσ hx (okl_stl (v := vP none) hl okP) hs.tl w0 hg A mc ms p l e s m args below meth c C H locs lsA' cs ss hc hz hP hD hS hL')
  | some a => exact lv_astore_n C.1 C.2.1 hd hi hL hn (asq_stl (i := j) (v := vP (some a)) hl) (fun lsA' hL' => k hσ hx (okl_stl (v := vP (some a)) hl okP) hs.tl w0 hg A mc ms p l e s m args below meth c C H locs lsA' cs ss hc hz hP hD hS hL')
theorem x_astoreP {j : Nat} (r : Option Nat) {ls' : List (Nat × Vq)} (hd : decode (cd μ) pc = .ok (.astore j, 2)) (hn : j < mL μ) (he : stl j (vP r) ls = ls') (k : WD G μ (pc + 2) ls' st w rc rs Q) : WD G μ pc ls (vP r :: st) w rc rs Q := by
  intro hσ hx hl hs w0 hg A mc ms p l e s m args below meth c C H locs lsA cs ss hc hz hP hD hS hL
  subst he
  cases r with
  | none => exact lv_astoreN C.1 C.2.1 hd hL hn (asq_stl (i := j) (v := vP none) hl) (fun lsA' hL' => k hσ hx (okl_stl (v := vP none) hl okP) hs.tl w0 hg A mc ms p l e s m args below meth c C H locs lsA' cs ss hc hz hP hD hS hL')
  | some a => exact lv_astore C.1 C.2.1 hd hL hn (asq_stl (i := j) (v := vP (some a)) hl) (fun lsA' hL' => k hσ hx (okl_stl (v := vP (some a)) hl okP) hs.tl w0 hg A mc ms p l e s m args below meth c C H locs lsA' cs ss hc hz hP hD hS hL')
theorem x_null (hd : decode (cd μ) pc = .ok (.aconst_null, 1)) (k : WD G μ (pc + 1) ls (vP none :: st) w rc rs Q) : WD G μ pc ls st w rc rs Q := by
  intro hσ hx hl hs w0 hg A mc ms p l e s m args below meth c C H locs lsA cs ss hc hz hP hD hS hL
  exact lv_null C.1 C.2.1 hd (k hσ hx hl (oks_cons (v := vP none) okP hs) w0 hg A mc ms p l e s m args below meth c C H locs lsA cs ss hc hz hP hD hS hL)
theorem x_dup_x1 {u v : Vq} (hd : decode (cd μ) pc = .ok (.dup_x1, 1)) (hu : ct u = 1) (hv : ct v = 1) (k : WD G μ (pc + 1) ls (u :: v :: u :: st) w rc rs Q) : WD G μ pc ls (u :: v :: st) w rc rs Q := by
  intro hσ hx hl hs w0 hg A mc ms p l e s m args below meth c C H locs lsA cs ss hc hz hP hD hS hL
  exact lv_dup_x1 C.1 C.2.1 hd (by rw [cv_ct G hs.hd]; exact hu) (by rw [cv_ct G hs.tl.hd]; exact hv) (k hσ hx hl (oks_cons hs.hd (oks_cons hs.tl.hd (oks_cons hs.hd hs.tl.tl))) w0 hg A mc ms p l e s m args below meth c C H locs lsA cs ss hc hz hP hD hS hL)
theorem x_ifnull {r : Option Nat} {off : Int} (tgt : Nat) (hd : decode (cd μ) pc = .ok (.ifnull off, 3)) (ht : (pc : Int) + off = (tgt : Int)) (k : (r = none → WD G μ tgt ls st w rc rs Q) ∧ (∀ a, r = some a → WD G μ (pc + 3) ls st w rc rs Q)) : WD G μ pc ls (vP r :: st) w rc rs Q := by
  intro hσ hx hl hs w0 hg A mc ms p l e s m args below meth c C H locs lsA cs ss hc hz hP hD hS hL
  cases r with
  | none => exact lv_ifnullN C.1 C.2.1 hd ht (k.1 rfl hσ hx hl hs.tl w0 hg A mc ms p l e s m args below meth c C H locs lsA cs ss hc hz hP hD hS hL)
  | some a => exact lv_ifnull C.1 C.2.1 hd (k.2 a rfl hσ hx hl hs.tl w0 hg A mc ms p l e s m args below meth c C H locs lsA cs ss hc hz hP hD hS hL)
theorem x_ifnonnull {r : Option Nat} {off : Int} (tgt : Nat) (hd : decode (cd μ) pc = .ok (.ifnonnull off, 3)) (ht : (pc : Int) + off = (tgt : Int)) (k : (r = none → WD G μ (pc + 3) ls st w rc rs Q) ∧ (∀ a, r = some a → WD G μ tgt ls st w rc rs Q)) : WD G μ pc ls (vP r :: st) w rc rs Q := by
  intro hσ hx hl hs w0 hg A mc ms p l e s m args below meth c C H locs lsA cs ss hc hz hP hD hS hL
  cases r with
  | none => exact lv_ifnonnullN C.1 C.2.1 hd (k.1 rfl hσ hx hl hs.tl w0 hg A mc ms p l e s m args below meth c C H locs lsA cs ss hc hz hP hD hS hL)
  | some a => exact lv_ifnonnull C.1 C.2.1 hd ht (k.2 a rfl hσ hx hl hs.tl w0 hg A mc ms p l e s m args below meth c C H locs lsA cs ss hc hz hP hD hS hL)
theorem x_acmp_eq (rx ry : Option Nat) {off : Int} (tgt : Nat) (hd : decode (cd μ) pc = .ok (.if_acmp .eq off, 3)) (ht : (pc : Int) + off = (tgt : Int)) (k : (rx = ry → WD G μ tgt ls st w rc rs Q) ∧ (¬ rx = ry → WD G μ (pc + 3) ls st w rc rs Q)) : WD G μ pc ls (vP ry :: vP rx :: st) w rc rs Q := by
  intro hσ hx hl hs w0 hg A mc ms p l e s m args below meth c C H locs lsA cs ss hc hz hP hD hS hL
  exact lv_acmp_eq C.1 C.2.1 hd ht (fun h => k.1 h hσ hx hl hs.tl.tl w0 hg A mc ms p l e s m args below meth c C H locs lsA cs ss hc hz hP hD hS hL) (fun h => k.2 h hσ hx hl hs.tl.tl w0 hg A mc ms p l e s m args below meth c C H locs lsA cs ss hc hz hP hD hS hL)
theorem x_acmp_ne (rx ry : Option Nat) {off : Int} (tgt : Nat) (hd : decode (cd μ) pc = .ok (.if_acmp .ne off, 3)) (ht : (pc : Int) + off = (tgt : Int)) (k : (¬ rx = ry → WD G μ tgt ls st w rc rs Q) ∧ (rx = ry → WD G μ (pc + 3) ls st w rc rs Q)) : WD G μ pc ls (vP ry :: vP rx :: st) w rc rs Q := by
  intro hσ hx hl hs w0 hg A mc ms p l e s m args below meth c C H locs lsA cs ss hc hz hP hD hS hL
  exact lv_acmp_ne C.1 C.2.1 hd ht (fun h => k.1 h hσ hx hl hs.tl.tl w0 hg A mc ms p l e s m args below meth c C H locs lsA cs ss hc hz hP hD hS hL) (fun h => k.2 h hσ hx hl hs.tl.tl w0 hg A mc ms p l e s m args below meth c C H locs lsA cs ss hc hz hP hD hS hL)
def Sam (ref : String) (T : u_T) (j : Nat) : Prop := ref = (T j).1 ∨ Cond.sameField ref (T j).1 (T j).2.1 (T j).2.2.1 ∈ UW
theorem Sam.use {ref : String} {T : u_T} {j : Nat} (h : Sam ref T j) {args : Array Value} {s : State} (hts : ∀ w ∈ UW, w.before args s = true) : ∀ x, s.fieldFound? (T j).1 (T j).2.1 (T j).2.2.1 = some x → s.fieldFound? ref (T j).2.1 (T j).2.2.1 = some x := by
  intro x hx
  rcases h with h | h
  · rw [h]; exact hx
  · exact u_same (hts _ h) x hx
theorem x_getf {a ci j idx N : Nat} {Cn ref : String} {T : u_T} {k : Nat} {v : Vq} (hI : Is G w a (kO ci)) (hC : ClOK ci Cn T N) (hN : j < N) (hw : Cond.fieldLink (mn μ).cls idx ref (T j).2.1 (T j).2.2.1 ∈ UW) (hsm : Sam ref T j) (hk : (fdq ci)[j]? = some k) (hd : decode (cd μ) pc = .ok (.getfield idx, 3)) (hv : cv G v = fvq w a j k) (hok : WFd w → okv v) (kk : WD G μ (pc + 3) ls (v :: st) w rc rs Q) : WD G μ pc ls (vA a :: st) w rc rs Q := by
  intro hσ hx hl hs w0 hg A mc ms p l e s m args below meth c C H locs lsA cs ss hc hz hP hD hS hL
  have hts := C.2.2.2.2.2.2.1
  have go := kk hσ hx hl (oks_cons (hok hσ) hs.tl) w0 hg A mc ms p l e s m args below meth c C H locs lsA cs ss hc hz hP hD hS hL
  rw [List.map_cons, hv] at go
  rcases hI.1 with hm | ⟨i, hi, rfl⟩
  · have hE := rd_at hP hm
    exact va_get (D := G.1) (ci := ci) (C := Cn) (T := T) (N := N) (ref := ref) (fs := dfl w a (fdq ci)) C.1 C.2.1 hts hC.2 C.2.2.2.2.2.1 C.2.2.2.2.2.2.2.1 hE 0 (by rw [dent_kO hI.2]; rfl) hC.1 j hN (hts _ hw) (hsm.use hts) (dfl_at hk) hd go
  · have h := C.2.2.2.2.2.2.2.2.2.2.1.2.1 i hi
    have hkd := (hx i hi).1
    rw [hI.2] at hkd
    unfold Xat at h
    rw [← hkd] at h
    obtain ⟨q2, h1, h2, h3⟩ := h
    rw [hC.1] at h1
    cases h1
    rw [hx.fv hi] at go
    exact vk_getf C.1 C.2.1 (h3 j k hk) hS C.2.2.2.2.2.1 (hts _ hw) (hsm.use hts) hd go
theorem x_getI {a ci j idx N : Nat} {Cn ref : String} {T : u_T} (jj : Int) (hI : Is G w a (kO ci)) (hC : ClOK ci Cn T N) (hN : j < N) (hw : Cond.fieldLink (mn μ).cls idx ref (T j).2.1 (T j).2.2.1 ∈ UW) (hsm : Sam ref T j) (hk : (fdq ci)[j]? = some 0) (hjj : jj = (j : Int)) (hd : decode (cd μ) pc = .ok (.getfield idx, 3)) {y : Int} (hy : wI w a jj = y) (kk : WD G μ (pc + 3) ls (vI y :: st) w rc rs Q) : WD G μ pc ls (vA a :: st) w rc rs Q := by
  subst hjj hy
  exact x_getf (v := vI (wI w a j)) hI hC hN hw hsm hk hd rfl (fun h => (h.2 a j).1) kk
theorem x_getJ {a ci j idx N : Nat} {Cn ref : String} {T : u_T} (jj : Int) (hI : Is G w a (kO ci)) (hC : ClOK ci Cn T N) (hN : j < N) (hw : Cond.fieldLink (mn μ).cls idx ref (T j).2.1 (T j).2.2.1 ∈ UW) (hsm : Sam ref T j) (hk : (fdq ci)[j]? = some 1) (hjj : jj = (j : Int)) (hd : decode (cd μ) pc = .ok (.getfield idx, 3)) {y : Int} (hy : wJ w a jj = y) (kk : WD G μ (pc + 3) ls (vL y :: st) w rc rs Q) : WD G μ pc ls (vA a :: st) w rc rs Q := by
  subst hjj hy
  exact x_getf (v := vL (wJ w a j)) hI hC hN hw hsm hk hd rfl (fun h => (h.2 a j).2) kk
theorem x_getP {a ci j idx N : Nat} {Cn ref : String} {T : u_T} (jj : Int) (hI : Is G w a (kO ci)) (hC : ClOK ci Cn T N) (hN : j < N) (hw : Cond.fieldLink (mn μ).cls idx ref (T j).2.1 (T j).2.2.1 ∈ UW) (hsm : Sam ref T j) (hk : (fdq ci)[j]? = some 2) (hjj : jj = (j : Int)) (hd : decode (cd μ) pc = .ok (.getfield idx, 3)) {y : Option Nat} (hy : wR w a jj = y) (kk : WD G μ (pc + 3) ls (vP y :: st) w rc rs Q) : WD G μ pc ls (vA a :: st) w rc rs Q := by
  subst hjj hy
  exact x_getf (v := vP (wR w a j)) hI hC hN hw hsm hk hd rfl (fun _ => okP) kk
theorem x_getF {a ci j idx N : Nat} {Cn ref : String} {T : u_T} {u : UInt32} (hI : Is G w a (kO ci)) (hC : ClOK ci Cn T N) (hN : j < N) (hw : Cond.fieldLink (mn μ).cls idx ref (T j).2.1 (T j).2.2.1 ∈ UW) (hsm : Sam ref T j) (hk : (fdq ci)[j]? = some 3) (hd : decode (cd μ) pc = .ok (.getfield idx, 3)) (hy : UInt32.ofNat (wJ w a j).toNat = u) (kk : WD G μ (pc + 3) ls (vO (.float u) :: st) w rc rs Q) : WD G μ pc ls (vA a :: st) w rc rs Q := by
  subst hy
  exact x_getf (v := vO (.float (UInt32.ofNat (wJ w a j).toNat))) hI hC hN hw hsm hk hd rfl (fun _ => rfl) kk
theorem x_putf {a ci j idx N : Nat} {Cn ref : String} {T : u_T} {ty0 : Nat → FieldType} {ty : FieldType} {v : Vq} {w' : Wd} (hO : Ow w a (kO ci)) (hC : ClOK ci Cn T N) (hN : j < N) (hw : Cond.fieldLink (mn μ).cls idx ref (T j).2.1 (T j).2.2.1 ∈ UW) (hsm : Sam ref T j) (hfin : (T j).2.2.2 = false ∨ ((T j).2.2.2 = true ∧ (mn μ).name = "<init>" ∧ (T j).1 = (mn μ).cls)) (hty : ∀ k, k < N → parseFieldDescriptor (T k).2.2.1 = some (ty0 k)) (hi : ty0 j = ty) (hnm : ∀ a, a < N → ∀ b, b < N → a ≠ b → (T a).2.1 ≠ (T b).2.1) (hd : decode (cd μ) pc = .ok (.putfield idx, 3)) (hn : narrow ty (cv G v) = cv G v) (hf : fits ty (cv G v) = true) (he : (dfl w a (fdq ci)).set j (cv G v) = dfl w' a (fdq ci)) (hjl : j < (fdq ci).length) (hS' : wS w' = wS w) (hL' : wL w' = wL w) (hK' : wK w' = wK w) (hI' : ∀ b, b ≠ a → ∀ i, wI w' b i = wI w b i) (hR' : ∀ b, b ≠ a → ∀ i, wR w' b i = wR w b i) (hJ' : ∀ b, b ≠ a → ∀ i, wJ w' b i = wJ w b i) (hW' : WFd w → okv v → WFd w') (kk : WD G μ (pc + 3) ls st w' rc rs Q) : WD G μ pc ls (v :: vA a :: st) w rc rs Q := by
  intro hσ hx hl hs w0 hg A mc ms p l e s m args below meth c C H locs lsA cs ss hc hz hP hD hS hL
  have hts := C.2.2.2.2.2.2.1
  obtain ⟨k0, hk0⟩ := wld2_at (G := G) hO.1
  have hk1 := hk0
  rw [dent_kO hO.2] at hk1
  have hAa : A a := hO.A hD
  have hED := C.2.2.2.2.2.2.2.2.2.2
  have hset : (wld2 G w).set (38 + k0) (a, .inr (ci, (dfl w a (fdq ci)).set j (cv G v))) = wld2 G w' := wld2_set hD hk0 (by rw [dent_kO (w := w') (by rw [hK']; exact hO.2), he]) hS' hL' (fun b hb => dent_same (by rw [hK']) (hI' b hb) (hR' b hb) (hJ' b hb))
  have go : ∀ (H1 : Heap) (locs1 : List Loc), va_P G.1 vwCl ((wld2 G w).set (38 + k0) (a, .inr (ci, (dfl w a (fdq ci)).set j (cv G v)))) H1 → va_D A ((wld2 G w).set (38 + k0) (a, .inr (ci, (dfl w a (fdq ci)).set j (cv G v)))) → va_S A s.heap H1 locs1 → W p l e (rmD μ mc ms) s m args below meth c H1 locs1 cs ss (MQ below (QoD G A w0 Q) args s mc ms A) (F0 m (pc + 3) lsA (st.map (cv G))) := by
    intro H1 locs1 hP1 hD1 hS1
    rw [hset] at hP1 hD1
    exact kk (hW' hσ hs.hd) (hx.wr hED hAa hK' hI' hR' hJ') hl hs.tl.tl w0 (hg.tr (Gw.wr hED hAa hL' hK' hI' hR')) A mc ms p l e s m args below meth c C H1 locs1 lsA cs ss hc hz hP1 hD1 hS1 hL
  have hl2 : j < (dfl w a (fdq ci)).length := by rw [dfl_len]; exact hjl
  rcases hfin with hfin | ⟨hf1, hf2, hf3⟩
  · exact va_put (D := G.1) (ci := ci) (C := Cn) (T := T) (N := N) (ref := ref) (ty := ty) (v := cv G v) C.1 C.2.1 hts hC.2 ty0 hty hnm C.2.2.2.2.2.1 C.2.2.2.2.2.2.2.1 hP hD hS (38 + k0) hk1 hC.1 j hN (hts _ hw) (hsm.use hts) hfin (by rw [hty j hN, hi]) hn hf hl2 hd go
  · exact va_putF (D := G.1) (ci := ci) (C := Cn) (T := T) (N := N) (ref := ref) (ty := ty) (v := cv G v) C.1 C.2.1 hts hC.2 ty0 hty hnm C.2.2.2.2.2.1 C.2.2.2.2.2.2.2.1 hP hD hS (38 + k0) hk1 hC.1 j hN (hts _ hw) (hsm.use hts) hf1 (by rw [C.2.2.2.2.2.2.2.2.2.1, hf2]) hf3 (by rw [hty j hN, hi]) hn hf hl2 hd go
theorem x_putI {a ci j idx N : Nat} {Cn ref : String} {T : u_T} {ty0 : Nat → FieldType} {ty : FieldType} {x : Int} (jj : Int) (hO : Ow w a (kO ci)) (hC : ClOK ci Cn T N) (hN : j < N) (hw : Cond.fieldLink (mn μ).cls idx ref (T j).2.1 (T j).2.2.1 ∈ UW) (hsm : Sam ref T j) (hfin : (T j).2.2.2 = false ∨ ((T j).2.2.2 = true ∧ (mn μ).name = "<init>" ∧ (T j).1 = (mn μ).cls)) (hty : ∀ k, k < N → parseFieldDescriptor (T k).2.2.1 = some (ty0 k)) (hi : ty0 j = ty) (hnm : ∀ a, a < N → ∀ b, b < N → a ≠ b → (T a).2.1 ≠ (T b).2.1) (hd : decode (cd μ) pc = .ok (.putfield idx, 3)) (hk : (fdq ci)[j]? = some 0) (hjj : jj = (j : Int)) (hn : inR x → narrow ty (.int (Int32.ofInt x)) = .int (Int32.ofInt x)) (hf : fits ty (.int (Int32.ofInt x)) = true) (kk : WD G μ (pc + 3) ls st (uI w a jj x) rc rs Q) : WD G μ pc ls (vI x :: vA a :: st) w rc rs Q := by
  subst hjj
  intro hσ hx hl hs
  have hxr : inR x := hs.hd
  exact x_putf (v := vI x) (w' := uI w a j x) hO hC hN hw hsm hfin hty hi hnm hd (hn hxr) hf (dfl_set hk (fun i hij k => by unfold fvq; rw [wI_uI_j (by omega), wR_uI, wJ_uI]) (by show _ = fvq (uI w a j x) a j 0; unfold fvq; rw [if_pos rfl, wI_uI_s]; rfl)) (List.getElem?_eq_some_iff.mp hk).1 rfl rfl rfl (fun b hb i => wI_uI_a hb) (fun _ _ _ => rfl) (fun _ _ _ => rfl) (fun h _ => ⟨h.1, fun b i => ⟨by
    show inR (ups (wI w) a j x b i)
    unfold ups
    split
    · exact hxr
    · exact (h.2 b i).1, (h.2 b i).2⟩⟩) kk hσ hx hl hs
theorem x_putJ {a ci j idx N : Nat} {Cn ref : String} {T : u_T} {ty0 : Nat → FieldType} {ty : FieldType} {x : Int} (jj : Int) (hO : Ow w a (kO ci)) (hC : ClOK ci Cn T N) (hN : j < N) (hw : Cond.fieldLink (mn μ).cls idx ref (T j).2.1 (T j).2.2.1 ∈ UW) (hsm : Sam ref T j) (hfin : (T j).2.2.2 = false ∨ ((T j).2.2.2 = true ∧ (mn μ).name = "<init>" ∧ (T j).1 = (mn μ).cls)) (hty : ∀ k, k < N → parseFieldDescriptor (T k).2.2.1 = some (ty0 k)) (hi : ty0 j = ty) (hnm : ∀ a, a < N → ∀ b, b < N → a ≠ b → (T a).2.1 ≠ (T b).2.1) (hd : decode (cd μ) pc = .ok (.putfield idx, 3)) (hk : (fdq ci)[j]? = some 1) (hjj : jj = (j : Int)) (hty2 : ty = .long) (kk : WD G μ (pc + 3) ls st (uJ w a jj x) rc rs Q) : WD G μ pc ls (vL x :: vA a :: st) w rc rs Q := by
  subst hjj hty2
  intro hσ hx hl hs
  have hxr : inL x := hs.hd
  exact x_putf (v := vL x) (w' := uJ w a j x) hO hC hN hw hsm hfin hty hi hnm hd rfl rfl (dfl_set hk (fun i hij k => by unfold fvq; rw [wJ_uJ_j (by omega), wR_uJ, wI_uJ]) (by show _ = fvq (uJ w a j x) a j 1; unfold fvq; rw [if_neg (by decide), if_pos rfl, wJ_uJ_s]; rfl)) (List.getElem?_eq_some_iff.mp hk).1 rfl rfl rfl (fun _ _ _ => rfl) (fun _ _ _ => rfl) (fun b hb i => wJ_uJ_a hb) (fun h _ => ⟨h.1, fun b i => ⟨(h.2 b i).1, by
    show inL (ups (wJ w) a j x b i)
    unfold ups
    split
    · exact hxr
    · exact (h.2 b i).2⟩⟩) kk hσ hx hl hs
theorem x_putP {a ci j idx N : Nat} {Cn ref : String} {T : u_T} {ty0 : Nat → FieldType} {ty : FieldType} (r : Option Nat) (jj : Int) (hO : Ow w a (kO ci)) (hC : ClOK ci Cn T N) (hN : j < N) (hw : Cond.fieldLink (mn μ).cls idx ref (T j).2.1 (T j).2.2.1 ∈ UW) (hsm : Sam ref T j) (hfin : (T j).2.2.2 = false ∨ ((T j).2.2.2 = true ∧ (mn μ).name = "<init>" ∧ (T j).1 = (mn μ).cls)) (hty : ∀ k, k < N → parseFieldDescriptor (T k).2.2.1 = some (ty0 k)) (hi : ty0 j = ty) (hnm : ∀ a, a < N → ∀ b, b < N → a ≠ b → (T a).2.1 ≠ (T b).2.1) (hd : decode (cd μ) pc = .ok (.putfield idx, 3)) (hk : (fdq ci)[j]? = some 2) (hjj : jj = (j : Int)) (hn : narrow ty (va_rf r) = va_rf r) (hf : fits ty (va_rf r) = true) (kk : WD G μ (pc + 3) ls st (uR w a jj r) rc rs Q) : WD G μ pc ls (vP r :: vA a :: st) w rc rs Q := by
  subst hjj
  exact x_putf (v := vP r) (w' := uR w a j r) hO hC hN hw hsm hfin hty hi hnm hd hn hf (dfl_set hk (fun i hij k => by unfold fvq; rw [wR_uR_j (by omega), wI_uR, wJ_uR]) (by show _ = fvq (uR w a j r) a j 2; unfold fvq; rw [if_neg (by decide), if_neg (by decide), if_pos rfl, wR_uR_s]; rfl)) (List.getElem?_eq_some_iff.mp hk).1 rfl rfl rfl (fun _ _ _ => rfl) (fun b hb i => wR_uR_a hb) (fun _ _ _ => rfl) (fun h _ => ⟨h.1, fun b i => h.2 b i⟩) kk
theorem x_putF {a ci j idx N : Nat} {Cn ref : String} {T : u_T} {ty0 : Nat → FieldType} {ty : FieldType} {u : UInt32} (x : Int) (jj : Int) (hO : Ow w a (kO ci)) (hC : ClOK ci Cn T N) (hN : j < N) (hw : Cond.fieldLink (mn μ).cls idx ref (T j).2.1 (T j).2.2.1 ∈ UW) (hsm : Sam ref T j) (hfin : (T j).2.2.2 = false ∨ ((T j).2.2.2 = true ∧ (mn μ).name = "<init>" ∧ (T j).1 = (mn μ).cls)) (hty : ∀ k, k < N → parseFieldDescriptor (T k).2.2.1 = some (ty0 k)) (hi : ty0 j = ty) (hnm : ∀ a, a < N → ∀ b, b < N → a ≠ b → (T a).2.1 ≠ (T b).2.1) (hd : decode (cd μ) pc = .ok (.putfield idx, 3)) (hk : (fdq ci)[j]? = some 3) (hjj : jj = (j : Int)) (hty2 : ty = .float) (hu : UInt32.ofNat x.toNat = u) (hxr : inL x) (kk : WD G μ (pc + 3) ls st (uJ w a jj x) rc rs Q) : WD G μ pc ls (vO (.float u) :: vA a :: st) w rc rs Q := by
  subst hjj hty2 hu
  exact x_putf (v := vO (.float (UInt32.ofNat x.toNat))) (w' := uJ w a j x) hO hC hN hw hsm hfin hty hi hnm hd rfl rfl (dfl_set hk (fun i hij k => by unfold fvq; rw [wJ_uJ_j (by omega), wR_uJ, wI_uJ]) (by show _ = fvq (uJ w a j x) a j 3; unfold fvq; rw [if_neg (by decide), if_neg (by decide), if_neg (by decide), wJ_uJ_s]; rfl)) (List.getElem?_eq_some_iff.mp hk).1 rfl rfl rfl (fun _ _ _ => rfl) (fun _ _ _ => rfl) (fun b hb i => wJ_uJ_a hb) (fun h _ => ⟨h.1, fun b i => ⟨(h.2 b i).1, by
    show inL (ups (wJ w) a j x b i)
    unfold ups
    split
    · exact hxr
    · exact (h.2 b i).2⟩⟩) kk
end XH
theorem xk_A0 : ∀ i, i < xN → (match xk i with | .inl (t, _) => t = 1 | _ => True) := by
  have h : ∀ i, i < xN → (match xk i with | .inl (t, _) => decide (t = 1) | _ => true) = true := by decide +kernel
  intro i hi
  have := h i hi
  revert this
  cases xk i with
  | inl a => exact fun h => of_decide_eq_true h
  | inr a => exact fun _ => trivial
theorem xk_A : ∀ i, i < xN → ∀ t n, xk i = kA t n → t = 1 := fun i hi t n h => by
  have := xk_A0 i hi
  rw [h] at this
  exact this
/-- what a new cell of a class holds -/
def dvK (k : Nat) : Value := if k = 0 then .int 0 else if k = 1 then .long 0 else if k = 2 then .null else .float 0
def dfq (ks : List Nat) : List Value := (List.range ks.length).map (fun i => dvK (ks.getD i 0))
theorem dfl_nw {w : Wd} {q : Nat} {k : Kd} {ks : List Nat} : dfl (uN w q k) q ks = dfq ks := by
  unfold dfl dfq
  apply List.map_congr_left
  intro i _
  unfold fvq dvK
  rw [wI_uN_s, wJ_uN_s, wR_uN_s]
  rfl
theorem uN_wf {w : Wd} {q : Nat} {k : Kd} (h : WFd w) : WFd (uN w q k) := ⟨h.1, fun a j => ⟨by
    show inR (if a = q then 0 else wI w a j)
    split
    · decide
    · exact (h.2 a j).1, by
    show inL (if a = q then 0 else wJ w a j)
    split
    · decide
    · exact (h.2 a j).2⟩⟩
theorem uN_x {G : Gq} {w : Wd} {q : Nat} {k : Kd} (h : XOK G w) (hq : Fr G w q) : XOK G (uN w q k) := fun i hi => by
  have hne : xa G i ≠ q := fun e => hq.2 i hi e.symm
  obtain ⟨h1, h2, h3, h4⟩ := h i hi
  exact ⟨(wK_uN hne).trans h1, fun j => (wI_uN hne).trans (h2 j), fun j => (wR_uN hne).trans (h3 j), fun j => (wJ_uN hne).trans (h4 j)⟩
theorem uN_g {G : Gq} {w : Wd} {q : Nat} {k : Kd} (hq : Fr G w q) : Gw G w (uN w q k) := ⟨fun a ha => ⟨by rw [wL_uN]; exact List.mem_append_left _ ha, wK_uN (fun e => hq.1 (e ▸ ha))⟩, fun i hi => by
  have hne : xa G i ≠ q := fun e => hq.2 i hi e.symm
  exact ⟨wK_uN hne, fun j => wI_uN hne, fun j => wR_uN hne⟩⟩
theorem fr_of {G : Gq} {w : Wd} {A : Nat → Prop} {U : State} {H : Heap} {q : Nat} {e : va_E} (hE : EdD G A U H) (hD : va_D A (wld2 G w ++ [(q, e)])) : Fr G w q := by
  have hl : (wld2 G w ++ [(q, e)])[(wld2 G w).length]? = some (q, e) := by simp
  refine ⟨fun hm => ?_, fun i hi e2 => hE.xa hi (by rw [← e2]; exact hD.2 _ _ hl)⟩
  obtain ⟨k, hk⟩ := wld2_at (G := G) hm
  have hlt := (List.getElem?_eq_some_iff.mp hk).1
  have := hD.1 (38 + k) (wld2 G w).length (q, dent G w q) (q, e) (by rw [List.getElem?_append_left hlt]; exact hk) hl rfl
  omega
section XN
variable {G : Gq} {μ : Md} {pc : Nat} {ls : List (Nat × Vq)} {st : List Vq} {w : Wd} {rc rs : Nat} {Q : Option Vq → Wd → Prop}
theorem x_new {idx ci N : Nat} {Cn : String} {T : u_T} {ty : Nat → FieldType} (hd : decode (cd μ) pc = .ok (.new idx, 3)) (hC : ClOK ci Cn T N) (hty : ∀ k, k < N → parseFieldDescriptor (T k).2.2.1 = some (ty k)) (h1 : Cond.classLink (mn μ).cls idx Cn ∈ UW) (h2 : Cond.instantiable Cn N ∈ UW) (h3 : Cond.initialized Cn ∈ UW) (hfs : ∀ j, j < N → defaultValue (ty j) = vp_V (dfq (fdq ci)) j) (hc1 : 1 ≤ rc) (hs1 : N ≤ rs)
    (kk : ∀ q : Nat, Fr G w q → WD G μ (pc + 3) ls (vA q :: st) (uN w q (kO ci)) (rc - 1) (rs - N) Q) : WD G μ pc ls st w rc rs Q := by
  intro hσ hx hl hs w0 hg A mc ms p l e s m args below meth c C H locs lsA cs ss hc hz hP hD hS hL
  have hts := C.2.2.2.2.2.2.1
  refine va_new C.1 C.2.1 hts hC.2 ty hty C.2.2.2.2.2.1 (hts _ h1) (hts _ h2) (hts _ h3) C.2.2.2.2.2.2.2.1 hP hD hS C.2.2.2.2.2.2.2.2.1 hC.1 hfs (by show cs + 1 ≤ mc; omega) (by show ss + N ≤ ms; omega) hd (fun q H1 hP1 hD1 hS1 => ?_)
  have hq := fr_of C.2.2.2.2.2.2.2.2.2.2 hD1
  have ew : wld2 G w ++ [(q, .inr (ci, dfq (fdq ci)))] = wld2 G (uN w q (kO ci)) := wld2_uN hq.1 (by rw [dent_kO wK_uN_s, dfl_nw])
  rw [ew] at hP1 hD1
  exact kk q hq (uN_wf hσ) (uN_x hx hq) hl (oks_cons (v := vA q) okA hs) w0 (hg.tr (uN_g hq)) A mc ms p l e s m args below meth c C H1 locs lsA (cs + 1) (ss + N) (by omega) (by omega) hP1 hD1 hS1 hL
theorem x_newa {atype : ArrayType} {ty : FieldType} {t : Nat} {x : Int} (n : Nat) (hxn : x = (n : Int)) (hd : decode (cd μ) pc = .ok (.newarray atype, 2)) (hty : newarray.typeOf atype = ty) (harr : Cond.arrayClass ty ∈ UW) (ht : ∀ G : Gq, (tyD G)[t]? = some (G.2.2 t, ty)) (hra : ∀ (U : State) (cB : ClassId), va_RA U cB ty = (U.vm.findClass ("[" ++ ty.toString) = some cB)) (hzz : ∀ cA : ClassId, vp_cell cA (n, .inl (fun _ => 0)) = arrV cA n (fun _ => defaultValue ty)) (hby : n ≤ 100000) (hcb : componentBytes ty ≤ 8) (hc1 : 1 ≤ rc) (hs1 : n ≤ rs)
    (kk : ∀ q : Nat, Fr G w q → WD G μ (pc + 2) ls (vA q :: st) (uN w q (kA t n)) (rc - 1) (rs - n) Q) : WD G μ pc ls (vI x :: st) w rc rs Q := by
  intro hσ hx hl hs w0 hg A mc ms p l e s m args below meth c C H locs lsA cs ss hc hz hP hD hS hL
  have hts := C.2.2.2.2.2.2.1
  have hK := C.2.2.2.2.2.2.2.1
  have hxr : inR x := hs.hd
  have hn0 : ¬ Int32.ofInt x < 0 := by
    rw [show (0 : Int32) = Int32.ofInt 0 from rfl, qi_lt hxr (by decide)]; omega
  have hnn : (Int32.ofInt x).toNatClampNeg = n := by rw [qi_clamp hxr, hxn]; rfl
  refine va_newa C.1 C.2.1 (by rw [hty]; exact hts _ harr) hty hK hP hD hS C.2.2.2.2.2.2.2.2.1 (a0 := (n, .inl (fun _ => 0))) hzz hn0 hnn (Nat.le_trans (Nat.mul_le_mul hby hcb) (Nat.le_of_ble_eq_true rfl)) (by show cs + 1 ≤ mc; omega) (by show ss + n ≤ ms; omega) hd (fun q cB H1 hK1 hP1 hD1 hS1 => ?_)
  have hcc : G.2.2 t = cB := by
    have h1 := (hK.2 t _ (ht G)).2
    have h2 := (hK1.2 (tyD G).length (cB, ty) (by simp)).2
    rw [hra] at h1 h2
    exact Option.some.inj (h1.symm.trans h2)
  subst hcc
  have hq := fr_of C.2.2.2.2.2.2.2.2.2.2 hD1
  have ew : wld2 G w ++ [(q, .inl (G.2.2 t, n, .inl (fun _ => 0)))] = wld2 G (uN w q (kA t n)) := wld2_uN hq.1 (by
    rw [dent_kA wK_uN_s]
    congr 4
    funext j
    rw [wI_uN_s]; rfl)
  rw [ew] at hP1 hD1
  exact kk q hq (uN_wf hσ) (uN_x hx hq) hl (oks_cons (v := vA q) okA hs.tl) w0 (hg.tr (uN_g hq)) A mc ms p l e s m args below meth c C H1 locs lsA (cs + 1) (ss + n) (by omega) (by omega) hP1 hD1 hS1 hL
theorem x_newq {idx t : Nat} {E : String} {x : Int} (n : Nat) (hxn : x = (n : Int)) (hd : decode (cd μ) pc = .ok (.anewarray idx, 3)) (h1 : Cond.classLink (mn μ).cls idx E ∈ UW) (hao : E ∈ aoq) (ht : ∀ G : Gq, (tyD G)[t]? = some (G.2.2 t, .object E)) (hby : n ≤ 100000) (hc1 : 1 ≤ rc) (hs1 : n ≤ rs)
    (kk : ∀ q : Nat, Fr G w q → WD G μ (pc + 3) ls (vA q :: st) (uN w q (kR t n)) (rc - 1) (rs - n) Q) : WD G μ pc ls (vI x :: st) w rc rs Q := by
  intro hσ hx hl hs w0 hg A mc ms p l e s m args below meth c C H locs lsA cs ss hc hz hP hD hS hL
  have hts := C.2.2.2.2.2.2.1
  have hK := C.2.2.2.2.2.2.2.1
  have hxr : inR x := hs.hd
  have hn0 : ¬ Int32.ofInt x < 0 := by
    rw [show (0 : Int32) = Int32.ofInt 0 from rfl, qi_lt hxr (by decide)]; omega
  have hnn : (Int32.ofInt x).toNatClampNeg = n := by rw [qi_clamp hxr, hxn]; rfl
  refine va_newq C.1 C.2.1 C.2.2.2.2.2.1 (hts _ h1) (C.2.2.2.2.2.2.2.2.2.2.2.2.1 E hao) hK hP hD hS C.2.2.2.2.2.2.2.2.1 hn0 hnn (by omega) (by show cs + 1 ≤ mc; omega) (by show ss + n ≤ ms; omega) hd (fun q cB H1 hK1 hP1 hD1 hS1 => ?_)
  have hcc : G.2.2 t = cB := by
    obtain ⟨k1, c1, a1, a2, a3, a4⟩ := (hK.2 t _ (ht G)).2
    obtain ⟨k2, c2, b1, b2, b3, b4⟩ := (hK1.2 (tyD G).length (cB, .object E) (by simp)).2
    exact Option.some.inj (a4.symm.trans b4)
  subst hcc
  have hq := fr_of C.2.2.2.2.2.2.2.2.2.2 hD1
  have ew : wld2 G w ++ [(q, .inl (G.2.2 t, n, .inr (.inr (.inr (.inr (fun _ => none))))))] = wld2 G (uN w q (kR t n)) := wld2_uN hq.1 (by
    rw [dent_kR wK_uN_s]
    congr 7
    funext j
    rw [wR_uN_s])
  rw [ew] at hP1 hD1
  exact kk q hq (uN_wf hσ) (uN_x hx hq) hl (oks_cons (v := vA q) okA hs.tl) w0 (hg.tr (uN_g hq)) A mc ms p l e s m args below meth c C H1 locs lsA (cs + 1) (ss + n) (by omega) (by omega) hP1 hD1 hS1 hL
theorem x_alenA {a t n : Nat} {ty : FieldType} (hI : Is G w a (kA t n)) (ht : ∀ G : Gq, (tyD G)[t]? = some (G.2.2 t, ty)) (ho : inR (n : Int)) (hd : decode (cd μ) pc = .ok (.arraylength, 1)) (kk : WD G μ (pc + 1) ls (vI (n : Int) :: st) w rc rs Q) : WD G μ pc ls (vA a :: st) w rc rs Q := by
  intro hσ hx hl hs w0 hg A mc ms p l e s m args below meth c C H locs lsA cs ss hc hz hP hD hS hL
  have go := kk hσ hx hl (oks_cons (v := vI (n : Int)) ho hs.tl) w0 hg A mc ms p l e s m args below meth c C H locs lsA cs ss hc hz hP hD hS hL
  rcases hI.1 with hm | ⟨i, hi, rfl⟩
  · exact va_alen (D := G.1) (cl := vwCl) (tys := tyD G) C.1 C.2.1 C.2.2.2.2.2.2.2.1 (rd_at hP hm) 0 t (by rw [dent_kA hI.2]; rfl) (ht G) (v := Int32.ofInt (n : Int)) (by rw [Int32.ofInt_eq_ofNat]) hd go
  · have h := C.2.2.2.2.2.2.2.2.2.2.1.2.1 i hi
    have hkd := (hx i hi).1
    rw [hI.2] at hkd
    unfold Xat at h
    rw [← hkd] at h
    exact va_tlen C.1 C.2.1 h hS (v := Int32.ofInt (n : Int)) (by rw [Int32.ofInt_eq_ofNat]) hd go
theorem x_alenR {a t n : Nat} {ty : FieldType} (hI : Is G w a (kR t n)) (ht : t = 7 ∨ ∀ G : Gq, (tyD G)[t]? = some (G.2.2 t, ty)) (hn7 : t = 7 → a ∉ wL w) (ho : inR (n : Int)) (hd : decode (cd μ) pc = .ok (.arraylength, 1)) (kk : WD G μ (pc + 1) ls (vI (n : Int) :: st) w rc rs Q) : WD G μ pc ls (vA a :: st) w rc rs Q := by
  intro hσ hx hl hs w0 hg A mc ms p l e s m args below meth c C H locs lsA cs ss hc hz hP hD hS hL
  have go := kk hσ hx hl (oks_cons (v := vI (n : Int)) ho hs.tl) w0 hg A mc ms p l e s m args below meth c C H locs lsA cs ss hc hz hP hD hS hL
  rcases hI.1 with hm | ⟨i, hi, rfl⟩
  · rcases ht with h7 | ht
    · exact absurd hm (hn7 h7)
    · exact va_alen (D := G.1) (cl := vwCl) (tys := tyD G) C.1 C.2.1 C.2.2.2.2.2.2.2.1 (rd_at hP hm) 0 t (by rw [dent_kR hI.2]; rfl) (ht G) (v := Int32.ofInt (n : Int)) (by rw [Int32.ofInt_eq_ofNat]) hd go
  · have h := C.2.2.2.2.2.2.2.2.2.2.1.2.1 i hi
    have hkd := (hx i hi).1
    rw [hI.2] at hkd
    unfold Xat at h
    rw [← hkd] at h
    exact va_tlen C.1 C.2.1 h hS (v := Int32.ofInt (n : Int)) (by rw [Int32.ofInt_eq_ofNat]) hd go
theorem x_iald {a n : Nat} {i : Int} (hI : Is G w a (kA 0 n)) (hd : decode (cd μ) pc = .ok (.iaload, 1)) (h0 : 0 ≤ i) (h1 : i < (n : Int)) {y : Int} (hy : wI w a i = y) (kk : WD G μ (pc + 1) ls (vI y :: st) w rc rs Q) : WD G μ pc ls (vI i :: vA a :: st) w rc rs Q := by
  intro hσ hx hl hs w0 hg A mc ms p l e s m args below meth c C H locs lsA cs ss hc hz hP hD hS hL
  subst hy
  have hi0 : inR i := hs.hd
  have go := kk hσ hx hl (oks_cons (v := vI (wI w a i)) (hσ.2 a i).1 hs.tl.tl) w0 hg A mc ms p l e s m args below meth c C H locs lsA cs ss hc hz hP hD hS hL
  rcases hI.1 with hm | ⟨q, hq, rfl⟩
  · refine va_iald (D := G.1) (cl := vwCl) (tys := tyD G) C.1 C.2.1 C.2.2.2.2.2.2.2.1 (rd_at hP hm) 0 0 (by rw [dent_kA hI.2]; rfl) rfl (qi_in h0 h1 hi0) hd ?_
    rw [qi_clamp hi0, Int.toNat_of_nonneg h0]
    exact go
  · have h := C.2.2.2.2.2.2.2.2.2.2.1.2.1 q hq
    have hkd := (hx q hq).1
    rw [hI.2] at hkd
    unfold Xat at h
    rw [← hkd] at h
    exact absurd (xk_A q hq 0 n hkd.symm) (by decide)
theorem x_bald {a n : Nat} {i : Int} (hI : Is G w a (kA 1 n)) (hd : decode (cd μ) pc = .ok (.baload, 1)) (h0 : 0 ≤ i) (h1 : i < (n : Int)) {y : Int} (hy : wI w a i = y) (kk : WD G μ (pc + 1) ls (vI y :: st) w rc rs Q) : WD G μ pc ls (vI i :: vA a :: st) w rc rs Q := by
  intro hσ hx hl hs w0 hg A mc ms p l e s m args below meth c C H locs lsA cs ss hc hz hP hD hS hL
  subst hy
  have hi0 : inR i := hs.hd
  have go := kk hσ hx hl (oks_cons (v := vI (wI w a i)) (hσ.2 a i).1 hs.tl.tl) w0 hg A mc ms p l e s m args below meth c C H locs lsA cs ss hc hz hP hD hS hL
  rcases hI.1 with hm | ⟨q, hq, rfl⟩
  · refine va_bald (D := G.1) (cl := vwCl) (tys := tyD G) C.1 C.2.1 C.2.2.2.2.2.2.2.1 (rd_at hP hm) 0 1 (by rw [dent_kA hI.2]; rfl) rfl (qi_in h0 h1 hi0) hd ?_
    rw [qi_clamp hi0, Int.toNat_of_nonneg h0]
    exact go
  · have h := C.2.2.2.2.2.2.2.2.2.2.1.2.1 q hq
    have hkd := (hx q hq).1
    rw [hI.2] at hkd
    unfold Xat at h
    rw [← hkd] at h
    exact va_tb C.1 C.2.1 h hS (qi_in h0 h1 hi0) (v := .int (Int32.ofInt (wI w (xa G q) i))) (by show Value.int (Int32.ofInt (xi q ((Int32.ofInt i).toNatClampNeg : Int))) = _; rw [qi_clamp hi0, Int.toNat_of_nonneg h0, (hx q hq).2.1]) hd go
theorem x_zald {a n : Nat} {i : Int} (hI : Is G w a (kA 2 n)) (hd : decode (cd μ) pc = .ok (.baload, 1)) (h0 : 0 ≤ i) (h1 : i < (n : Int)) {y : Int} (hy : wI w a i = y) (kk : WD G μ (pc + 1) ls (vI y :: st) w rc rs Q) : WD G μ pc ls (vI i :: vA a :: st) w rc rs Q := by
  intro hσ hx hl hs w0 hg A mc ms p l e s m args below meth c C H locs lsA cs ss hc hz hP hD hS hL
  subst hy
  have hi0 : inR i := hs.hd
  have go := kk hσ hx hl (oks_cons (v := vI (wI w a i)) (hσ.2 a i).1 hs.tl.tl) w0 hg A mc ms p l e s m args below meth c C H locs lsA cs ss hc hz hP hD hS hL
  rcases hI.1 with hm | ⟨q, hq, rfl⟩
  · refine va_zald (D := G.1) (cl := vwCl) (tys := tyD G) C.1 C.2.1 C.2.2.2.2.2.2.2.1 (rd_at hP hm) 0 2 (by rw [dent_kA hI.2]; rfl) rfl (qi_in h0 h1 hi0) hd ?_
    rw [qi_clamp hi0, Int.toNat_of_nonneg h0]
    exact go
  · have h := C.2.2.2.2.2.2.2.2.2.2.1.2.1 q hq
    have hkd := (hx q hq).1
    rw [hI.2] at hkd
    unfold Xat at h
    rw [← hkd] at h
    exact absurd (xk_A q hq 2 n hkd.symm) (by decide)
theorem x_cald {a n : Nat} {i : Int} (hI : Is G w a (kA 3 n)) (hd : decode (cd μ) pc = .ok (.caload, 1)) (h0 : 0 ≤ i) (h1 : i < (n : Int)) {y : Int} (hy : wI w a i = y) (kk : WD G μ (pc + 1) ls (vI y :: st) w rc rs Q) : WD G μ pc ls (vI i :: vA a :: st) w rc rs Q := by
  intro hσ hx hl hs w0 hg A mc ms p l e s m args below meth c C H locs lsA cs ss hc hz hP hD hS hL
  subst hy
  have hi0 : inR i := hs.hd
  have go := kk hσ hx hl (oks_cons (v := vI (wI w a i)) (hσ.2 a i).1 hs.tl.tl) w0 hg A mc ms p l e s m args below meth c C H locs lsA cs ss hc hz hP hD hS hL
  rcases hI.1 with hm | ⟨q, hq, rfl⟩
  · refine va_cald (D := G.1) (cl := vwCl) (tys := tyD G) C.1 C.2.1 C.2.2.2.2.2.2.2.1 (rd_at hP hm) 0 3 (by rw [dent_kA hI.2]; rfl) rfl (qi_in h0 h1 hi0) hd ?_
    rw [qi_clamp hi0, Int.toNat_of_nonneg h0]
    exact go
  · have h := C.2.2.2.2.2.2.2.2.2.2.1.2.1 q hq
    have hkd := (hx q hq).1
    rw [hI.2] at hkd
    unfold Xat at h
    rw [← hkd] at h
    exact absurd (xk_A q hq 3 n hkd.symm) (by decide)
theorem q_setA {w : Wd} {a t n : Nat} {i x : Int} (hk : wK w a = kA t n) (h0 : 0 ≤ i) : (.inl (G.2.2 t, n, .inl (upd (fun j => Int32.ofInt (wI w a (j : Int))) i.toNat (Int32.ofInt x))) : va_E) = dent G (uI w a i x) a := by
  rw [dent_kA (w := uI w a i x) hk]
  congr 3
  congr 1
  funext j
  unfold upd
  by_cases h : j = i.toNat
  · have h2 : (j : Int) = i := by omega
    rw [if_pos h, h2, wI_uI_s]
  · have h2 : ¬ (j : Int) = i := by omega
    rw [if_neg h, wI_uI_j h2]
theorem q_setR {w : Wd} {a t n : Nat} {i : Int} {r : Option Nat} (hk : wK w a = kR t n) (h0 : 0 ≤ i) : (.inl (G.2.2 t, n, .inr (.inr (.inr (.inr (va_up (fun j => wR w a (j : Int)) i.toNat r))))) : va_E) = dent G (uR w a i r) a := by
  rw [dent_kR (w := uR w a i r) hk]
  congr 6
  congr 1
  funext j
  unfold va_up
  by_cases h : j = i.toNat
  · have h2 : (j : Int) = i := by omega
    rw [if_pos h, h2, wR_uR_s]
  · have h2 : ¬ (j : Int) = i := by omega
    rw [if_neg h, wR_uR_j h2]
theorem uI_wf {w : Wd} {a : Nat} {j x : Int} (h : WFd w) (hx : inR x) : WFd (uI w a j x) := ⟨h.1, fun b i => ⟨by
    show inR (ups (wI w) a j x b i)
    unfold ups
    split
    · exact hx
    · exact (h.2 b i).1, (h.2 b i).2⟩⟩
theorem x_iast {a n : Nat} {i x : Int} (hO : Ow w a (kA 0 n)) (hd : decode (cd μ) pc = .ok (.iastore, 1)) (h0 : 0 ≤ i) (h1 : i < (n : Int))  (kk : WD G μ (pc + 1) ls st (uI w a i x) rc rs Q) : WD G μ pc ls (vI x :: vI i :: vA a :: st) w rc rs Q := by
  intro hσ hx hl hs w0 hg A mc ms p l e s m args below meth c C H locs lsA cs ss hc hz hP hD hS hL
  have hi0 : inR i := hs.tl.hd
  have hxr : inR x := hs.hd
  obtain ⟨k0, hk0⟩ := wld2_at (G := G) hO.1
  have hk1 := hk0
  rw [dent_kA hO.2] at hk1
  have hAa : A a := hO.A hD
  have hED := C.2.2.2.2.2.2.2.2.2.2
  refine va_iast (D := G.1) (cl := vwCl) (tys := tyD G) C.1 C.2.1 C.2.2.2.2.2.2.2.1 hP hD hS (38 + k0) 0 hk1 rfl (qi_in h0 h1 hi0) hd (fun H1 locs1 hP1 hD1 hS1 => ?_)
  rw [qi_clamp hi0, wld2_set hD hk0 (q_setA hO.2 h0) rfl rfl (fun b hb => dent_same (w := w) (w' := uI w a i x) rfl (fun _ => wI_uI_a hb) (fun _ => rfl) (fun _ => rfl))] at hP1 hD1
  exact kk (uI_wf hσ hxr) (hx.wr hED hAa rfl (fun b hb _ => wI_uI_a hb) (fun _ _ _ => rfl) (fun _ _ _ => rfl)) hl hs.tl.tl.tl w0 (hg.tr (Gw.wr hED hAa rfl rfl (fun b hb _ => wI_uI_a hb) (fun _ _ _ => rfl))) A mc ms p l e s m args below meth c C H1 locs1 lsA cs ss hc hz hP1 hD1 hS1 hL
theorem x_bast {a n : Nat} {i x : Int} (hO : Ow w a (kA 1 n)) (hd : decode (cd μ) pc = .ok (.bastore, 1)) (h0 : 0 ≤ i) (h1 : i < (n : Int)) (hx0 : -128 ≤ x) (hx1 : x ≤ 127) (kk : WD G μ (pc + 1) ls st (uI w a i x) rc rs Q) : WD G μ pc ls (vI x :: vI i :: vA a :: st) w rc rs Q := by
  intro hσ hx hl hs w0 hg A mc ms p l e s m args below meth c C H locs lsA cs ss hc hz hP hD hS hL
  have hi0 : inR i := hs.tl.hd
  have hxr : inR x := hs.hd
  obtain ⟨k0, hk0⟩ := wld2_at (G := G) hO.1
  have hk1 := hk0
  rw [dent_kA hO.2] at hk1
  have hAa : A a := hO.A hD
  have hED := C.2.2.2.2.2.2.2.2.2.2
  refine va_bast (D := G.1) (cl := vwCl) (tys := tyD G) C.1 C.2.1 C.2.2.2.2.2.2.2.1 hP hD hS (38 + k0) 1 hk1 rfl (qi_in h0 h1 hi0) hd (fun H1 locs1 hP1 hD1 hS1 => ?_)
  rw [qi_clamp hi0, q_narB hx0 hx1, wld2_set hD hk0 (q_setA hO.2 h0) rfl rfl (fun b hb => dent_same (w := w) (w' := uI w a i x) rfl (fun _ => wI_uI_a hb) (fun _ => rfl) (fun _ => rfl))] at hP1 hD1
  exact kk (uI_wf hσ hxr) (hx.wr hED hAa rfl (fun b hb _ => wI_uI_a hb) (fun _ _ _ => rfl) (fun _ _ _ => rfl)) hl hs.tl.tl.tl w0 (hg.tr (Gw.wr hED hAa rfl rfl (fun b hb _ => wI_uI_a hb) (fun _ _ _ => rfl))) A mc ms p l e s m args below meth c C H1 locs1 lsA cs ss hc hz hP1 hD1 hS1 hL
theorem x_zast {a n : Nat} {i x : Int} (hO : Ow w a (kA 2 n)) (hd : decode (cd μ) pc = .ok (.bastore, 1)) (h0 : 0 ≤ i) (h1 : i < (n : Int)) (hx0 : x = 0 ∨ x = 1) (kk : WD G μ (pc + 1) ls st (uI w a i x) rc rs Q) : WD G μ pc ls (vI x :: vI i :: vA a :: st) w rc rs Q := by
  intro hσ hx hl hs w0 hg A mc ms p l e s m args below meth c C H locs lsA cs ss hc hz hP hD hS hL
  have hi0 : inR i := hs.tl.hd
  have hxr : inR x := hs.hd
  obtain ⟨k0, hk0⟩ := wld2_at (G := G) hO.1
  have hk1 := hk0
  rw [dent_kA hO.2] at hk1
  have hAa : A a := hO.A hD
  have hED := C.2.2.2.2.2.2.2.2.2.2
  refine va_zast (D := G.1) (cl := vwCl) (tys := tyD G) C.1 C.2.1 C.2.2.2.2.2.2.2.1 hP hD hS (38 + k0) 2 hk1 rfl (qi_in h0 h1 hi0) hd (fun H1 locs1 hP1 hD1 hS1 => ?_)
  rw [qi_clamp hi0, q_narZ hx0, wld2_set hD hk0 (q_setA hO.2 h0) rfl rfl (fun b hb => dent_same (w := w) (w' := uI w a i x) rfl (fun _ => wI_uI_a hb) (fun _ => rfl) (fun _ => rfl))] at hP1 hD1
  exact kk (uI_wf hσ hxr) (hx.wr hED hAa rfl (fun b hb _ => wI_uI_a hb) (fun _ _ _ => rfl) (fun _ _ _ => rfl)) hl hs.tl.tl.tl w0 (hg.tr (Gw.wr hED hAa rfl rfl (fun b hb _ => wI_uI_a hb) (fun _ _ _ => rfl))) A mc ms p l e s m args below meth c C H1 locs1 lsA cs ss hc hz hP1 hD1 hS1 hL
theorem x_aald {a t n : Nat} {E : String} {i : Int} (hI : Is G w a (kR t n)) (ht : ∀ G : Gq, (tyD G)[t]? = some (G.2.2 t, .object E)) (hd : decode (cd μ) pc = .ok (.aaload, 1)) (h0 : 0 ≤ i) (h1 : i < (n : Int)) {y : Option Nat} (hy : wR w a i = y) (kk : WD G μ (pc + 1) ls (vP y :: st) w rc rs Q) : WD G μ pc ls (vI i :: vA a :: st) w rc rs Q := by
  intro hσ hx hl hs w0 hg A mc ms p l e s m args below meth c C H locs lsA cs ss hc hz hP hD hS hL
  subst hy
  have hi0 : inR i := hs.hd
  have go := kk hσ hx hl (oks_cons (v := vP (wR w a i)) okP hs.tl.tl) w0 hg A mc ms p l e s m args below meth c C H locs lsA cs ss hc hz hP hD hS hL
  rcases hI.1 with hm | ⟨q, hq, rfl⟩
  · refine va_aldq (D := G.1) (cl := vwCl) (tys := tyD G) C.1 C.2.1 C.2.2.2.2.2.2.2.1 (rd_at hP hm) 0 t (by rw [dent_kR hI.2]; rfl) (ht G) (qi_in h0 h1 hi0) hd ?_
    rw [qi_clamp hi0, Int.toNat_of_nonneg h0]
    exact go
  · have h := C.2.2.2.2.2.2.2.2.2.2.1.2.1 q hq
    have hkd := (hx q hq).1
    rw [hI.2] at hkd
    unfold Xat at h
    rw [← hkd] at h
    exact vb_tq C.1 C.2.1 h hS (qi_in h0 h1 hi0) (v := va_rf (wR w (xa G q) i)) (by show va_rf ((xr q ((Int32.ofInt i).toNatClampNeg : Int)).map (xa G)) = _; rw [qi_clamp hi0, Int.toNat_of_nonneg h0, (hx q hq).2.2.1]) hd go
theorem x_aaldX {q n : Nat} {t : Nat} {i : Int} (hq : q < xN) (hk : xk q = kR t n) (hd : decode (cd μ) pc = .ok (.aaload, 1)) (h0 : 0 ≤ i) (h1 : i < (n : Int)) {y : Option Nat} (hy : (xr q i).map (xa G) = y) (kk : WD G μ (pc + 1) ls (vP y :: st) w rc rs Q) : WD G μ pc ls (vI i :: vA (xa G q) :: st) w rc rs Q := by
  intro hσ hx hl hs w0 hg A mc ms p l e s m args below meth c C H locs lsA cs ss hc hz hP hD hS hL
  subst hy
  have hi0 : inR i := hs.hd
  have go := kk hσ hx hl (oks_cons (v := vP ((xr q i).map (xa G))) okP hs.tl.tl) w0 hg A mc ms p l e s m args below meth c C H locs lsA cs ss hc hz hP hD hS hL
  have h := C.2.2.2.2.2.2.2.2.2.2.1.2.1 q hq
  unfold Xat at h
  rw [hk] at h
  exact vb_tq C.1 C.2.1 h hS (qi_in h0 h1 hi0) (v := va_rf ((xr q i).map (xa G))) (by show va_rf ((xr q ((Int32.ofInt i).toNatClampNeg : Int)).map (xa G)) = _; rw [qi_clamp hi0, Int.toNat_of_nonneg h0]) hd go
/-- a cell of a class that may stand where another is asked -/
def Els (G : Gq) (w : Wd) (y : Nat) (E : String) : Prop := ∃ (ci : Nat) (q : vw_C), Is G w y (kO ci) ∧ vwCl[ci]? = some q ∧ Cond.castable q.1 E ∈ nwq
theorem Els.any {A : Nat → Prop} {s : State} {H : Heap} {locs : List Loc} {y : Nat} {E : String} (h : Els G w y E) (hx : XOK G w) (hP : va_P G.1 vwCl (wld2 G w) H) (hK : va_K G.1 vwCl (tyD G) s) (hE : EdD G A s s.heap) (hS : va_S A s.heap H locs) : va_Any E s H y := by
  obtain ⟨ci, q, h1, h2, h3⟩ := h
  obtain ⟨cell, g1, g2, g3⟩ := recq_of h1 hx h2 hP hK hE hS
  obtain ⟨kC, hkC, -⟩ := Vm.findClass_spec g3
  exact ⟨cell, g1, g2, ⟨kC, hkC⟩, fun comp hc => vb_asgC (hE.1.2.2.2.2 _ h3) comp _ hc g3⟩
theorem x_aast {a t n v : Nat} {E : String} {i : Int} (hO : Ow w a (kR t n)) (ht : ∀ G : Gq, (tyD G)[t]? = some (G.2.2 t, .object E)) (hv : Els G w v E) (hd : decode (cd μ) pc = .ok (.aastore, 1)) (h0 : 0 ≤ i) (h1 : i < (n : Int)) (kk : WD G μ (pc + 1) ls st (uR w a i (some v)) rc rs Q) : WD G μ pc ls (vA v :: vI i :: vA a :: st) w rc rs Q := by
  intro hσ hx hl hs w0 hg A mc ms p l e s m args below meth c C H locs lsA cs ss hc hz hP hD hS hL
  have hi0 : inR i := hs.tl.hd
  obtain ⟨k0, hk0⟩ := wld2_at (G := G) hO.1
  have hk1 := hk0
  rw [dent_kR hO.2] at hk1
  have hAa : A a := hO.A hD
  have hED := C.2.2.2.2.2.2.2.2.2.2
  refine va_astqM (D := G.1) (cl := vwCl) (tys := tyD G) C.1 C.2.1 C.2.2.2.2.2.2.2.1 hP hD hS (38 + k0) t hk1 (ht G) (hv.any hx hP C.2.2.2.2.2.2.2.1 hED hS) (qi_in h0 h1 hi0) hd (fun H1 locs1 hP1 hD1 hS1 => ?_)
  rw [qi_clamp hi0, wld2_set hD hk0 (q_setR hO.2 h0) rfl rfl (fun b hb => dent_same (w := w) (w' := uR w a i (some v)) rfl (fun _ => rfl) (fun _ => wR_uR_a hb) (fun _ => rfl))] at hP1 hD1
  exact kk ⟨hσ.1, fun b j => hσ.2 b j⟩ (hx.wr hED hAa rfl (fun _ _ _ => rfl) (fun b hb _ => wR_uR_a hb) (fun _ _ _ => rfl)) hl hs.tl.tl.tl w0 (hg.tr (Gw.wr hED hAa rfl rfl (fun _ _ _ => rfl) (fun b hb _ => wR_uR_a hb))) A mc ms p l e s m args below meth c C H1 locs1 lsA cs ss hc hz hP1 hD1 hS1 hL
theorem x_aastN {a t n : Nat} {E : String} {i : Int} (hO : Ow w a (kR t n)) (ht : ∀ G : Gq, (tyD G)[t]? = some (G.2.2 t, .object E)) (hd : decode (cd μ) pc = .ok (.aastore, 1)) (h0 : 0 ≤ i) (h1 : i < (n : Int)) (kk : WD G μ (pc + 1) ls st (uR w a i none) rc rs Q) : WD G μ pc ls (vP none :: vI i :: vA a :: st) w rc rs Q := by
  intro hσ hx hl hs w0 hg A mc ms p l e s m args below meth c C H locs lsA cs ss hc hz hP hD hS hL
  have hi0 : inR i := hs.tl.hd
  obtain ⟨k0, hk0⟩ := wld2_at (G := G) hO.1
  have hk1 := hk0
  rw [dent_kR hO.2] at hk1
  have hAa : A a := hO.A hD
  have hED := C.2.2.2.2.2.2.2.2.2.2
  refine va_astqN (D := G.1) (cl := vwCl) (tys := tyD G) C.1 C.2.1 C.2.2.2.2.2.2.2.1 hP hD hS (38 + k0) t hk1 (ht G) (qi_in h0 h1 hi0) hd (fun H1 locs1 hP1 hD1 hS1 => ?_)
  rw [qi_clamp hi0, wld2_set hD hk0 (q_setR hO.2 h0) rfl rfl (fun b hb => dent_same (w := w) (w' := uR w a i none) rfl (fun _ => rfl) (fun _ => wR_uR_a hb) (fun _ => rfl))] at hP1 hD1
  exact kk ⟨hσ.1, fun b j => hσ.2 b j⟩ (hx.wr hED hAa rfl (fun _ _ _ => rfl) (fun b hb _ => wR_uR_a hb) (fun _ _ _ => rfl)) hl hs.tl.tl.tl w0 (hg.tr (Gw.wr hED hAa rfl rfl (fun _ _ _ => rfl) (fun b hb _ => wR_uR_a hb))) A mc ms p l e s m args below meth c C H1 locs1 lsA cs ss hc hz hP1 hD1 hS1 hL
-- statics, texts
theorem x_gets {idx i : Nat} {Cn n d : String} (hz0 : (Cn, n, d, (.inl i : Nat ⊕ Int)) ∈ sxq) (hw : Cond.fieldLink (mn μ).cls idx Cn n d ∈ UW) (hd : decode (cd μ) pc = .ok (.getstatic idx, 3)) (kk : WD G μ (pc + 3) ls (vA (xa G i) :: st) w rc rs Q) : WD G μ pc ls st w rc rs Q := by
  intro hσ hx hl hs w0 hg A mc ms p l e s m args below meth c C H locs lsA cs ss hc hz hP hD hS hL
  exact va_gets C.1 C.2.1 (C.2.2.2.2.2.2.2.2.2.2.1.2.2.1 _ hz0) hS C.2.2.2.2.2.1 (C.2.2.2.2.2.2.1 _ hw) (fun x h => h) hd (kk hσ hx hl (oks_cons (v := vA (xa G i)) okA hs) w0 hg A mc ms p l e s m args below meth c C H locs lsA cs ss hc hz hP hD hS hL)
theorem x_getsI {idx : Nat} {Cn n d : String} (x : Int) (hz0 : (Cn, n, d, (.inr x : Nat ⊕ Int)) ∈ sxq) (hxr : inR x) (hw : Cond.fieldLink (mn μ).cls idx Cn n d ∈ UW) (hd : decode (cd μ) pc = .ok (.getstatic idx, 3)) (kk : WD G μ (pc + 3) ls (vI x :: st) w rc rs Q) : WD G μ pc ls st w rc rs Q := by
  intro hσ hx hl hs w0 hg A mc ms p l e s m args below meth c C H locs lsA cs ss hc hz hP hD hS hL
  exact va_gets C.1 C.2.1 (C.2.2.2.2.2.2.2.2.2.2.1.2.2.1 _ hz0) hS C.2.2.2.2.2.1 (C.2.2.2.2.2.2.1 _ hw) (fun x h => h) hd (kk hσ hx hl (oks_cons (v := vI x) hxr hs) w0 hg A mc ms p l e s m args below meth c C H locs lsA cs ss hc hz hP hD hS hL)
theorem x_ldcS {i q : Nat} {tx : String} (hd : decode (cd μ) pc = .ok (.ldc i, 2)) (hz0 : ((mn μ).cls, i, tx, q) ∈ txq) (k : WD G μ (pc + 2) ls (vA (xa G q) :: st) w rc rs Q) : WD G μ pc ls st w rc rs Q := by
  intro hσ hx hl hs w0 hg A mc ms p l e s m args below meth c C H locs lsA cs ss hc hz hP hD hS hL
  exact va_ldcS C.1 C.2.1 C.2.2.2.2.2.1 (C.2.2.2.2.2.2.2.2.2.2.1.2.2.2.1 _ hz0) hd (k hσ hx hl (oks_cons (v := vA (xa G q)) okA hs) w0 hg A mc ms p l e s m args below meth c C H locs lsA cs ss hc hz hP hD hS hL)
theorem x_ldcwS {i q : Nat} {tx : String} (hd : decode (cd μ) pc = .ok (.ldc_w i, 3)) (hz0 : ((mn μ).cls, i, tx, q) ∈ txq) (k : WD G μ (pc + 3) ls (vA (xa G q) :: st) w rc rs Q) : WD G μ pc ls st w rc rs Q := by
  intro hσ hx hl hs w0 hg A mc ms p l e s m args below meth c C H locs lsA cs ss hc hz hP hD hS hL
  have hZ := C.2.2.2.2.2.2.2.2.2.2.1.2.2.2.1 _ hz0
  intro T hT X
  obtain ⟨t2, a1, b1⟩ := (k hσ hx hl (oks_cons (v := vA (xa G q)) okA hs) w0 hg A mc ms p l e s m args below meth c C H locs lsA cs ss hc hz hP hD hS hL) T hT X
  exact ⟨t2, X.ldcStringW C.1 C.2.2.2.2.2.1 (text := tx) (a := xa G q) hZ.1 hZ.2 (g := F0 m pc lsA (st.map (cv G))) rfl (by rw [C.2.1]; exact hd) t2 a1, b1⟩
/-- a cast to the cell's own class, or to one that it may stand for -/
theorem x_cast {a ci idx : Nat} {nm : String} {q : vw_C} (hI : Is G w a (kO ci)) (hq : vwCl[ci]? = some q) (hc0 : q.1 = nm ∨ Cond.castable q.1 nm ∈ nwq) (hw : Cond.classLink (mn μ).cls idx nm ∈ UW) (hd : decode (cd μ) pc = .ok (.checkcast idx, 3)) (kk : WD G μ (pc + 3) ls (vA a :: st) w rc rs Q) : WD G μ pc ls (vA a :: st) w rc rs Q := by
  intro hσ hx hl hs w0 hg A mc ms p l e s m args below meth c C H locs lsA cs ss hc hz hP hD hS hL
  have go := kk hσ hx hl hs w0 hg A mc ms p l e s m args below meth c C H locs lsA cs ss hc hz hP hD hS hL
  have hr := recq_of hI hx hq hP C.2.2.2.2.2.2.2.1 C.2.2.2.2.2.2.2.2.2.2 hS
  rcases hc0 with rfl | hcc
  · exact va_castE C.1 C.2.1 C.2.2.2.2.2.1 (C.2.2.2.2.2.2.1 _ hw) hr hd go
  · exact va_castY C.1 C.2.1 C.2.2.2.2.2.1 (C.2.2.2.2.2.2.1 _ hw) (C.2.2.2.2.2.2.2.2.2.2.1.2.2.2.2 _ hcc) hr hd go
theorem x_inst {a ci idx : Nat} {nm : String} {q : vw_C} (hI : Is G w a (kO ci)) (hq : vwCl[ci]? = some q) (hc0 : q.1 = nm ∨ Cond.castable q.1 nm ∈ nwq) (hw : Cond.classLink (mn μ).cls idx nm ∈ UW) (hd : decode (cd μ) pc = .ok (.instanceof idx, 3)) (kk : WD G μ (pc + 3) ls (vI 1 :: st) w rc rs Q) : WD G μ pc ls (vA a :: st) w rc rs Q := by
  intro hσ hx hl hs w0 hg A mc ms p l e s m args below meth c C H locs lsA cs ss hc hz hP hD hS hL
  have go := kk hσ hx hl (oks_cons (v := vI 1) (by show inR 1; decide) hs.tl) w0 hg A mc ms p l e s m args below meth c C H locs lsA cs ss hc hz hP hD hS hL
  have hr := recq_of hI hx hq hP C.2.2.2.2.2.2.2.1 C.2.2.2.2.2.2.2.2.2.2 hS
  rcases hc0 with rfl | hcc
  · exact va_instE C.1 C.2.1 C.2.2.2.2.2.1 (C.2.2.2.2.2.2.1 _ hw) hr hd go
  · exact va_instY C.1 C.2.1 C.2.2.2.2.2.1 (C.2.2.2.2.2.2.1 _ hw) (C.2.2.2.2.2.2.2.2.2.2.1.2.2.2.2 _ hcc) hr hd go
-- answers
theorem x_ireturn {v : Int} {K : Int → Wd → Prop} (hr : rt μ = some .int) (hd : decode (cd μ) pc = .ok (.ireturn, 1)) (kk : K v w) : WD G μ pc ls [vI v] w rc rs (yI K) := by
  intro hσ hx hl hs w0 hg A mc ms p l e s m args below meth c C H locs lsA cs ss hc hz hP hD hS hL
  exact W.widen (by omega) (by omega) (W.iret (v := Int32.ofInt v) C.1 C.2.1 (by rw [C.2.2.2.1, hr]) (fun t ht hW => ⟨⟨some (vI v), w, rfl, hσ, hx, hs.hd, hg, ⟨v, rfl, kk⟩, by rw [ht]; exact hP, hD⟩, hS.F ht⟩) hS.2.2 hd C.2.2.2.2.1)
theorem x_zreturn {v : Int} {K : Int → Wd → Prop} (hr : rt μ = some .boolean) (hd : decode (cd μ) pc = .ok (.ireturn, 1)) (hv : v = 0 ∨ v = 1) (kk : K v w) : WD G μ pc ls [vI v] w rc rs (yI K) := by
  intro hσ hx hl hs w0 hg A mc ms p l e s m args below meth c C H locs lsA cs ss hc hz hP hD hS hL
  exact W.widen (by omega) (by omega) (W.zret (v := Int32.ofInt v) C.1 C.2.1 (by rw [C.2.2.2.1, hr]) (by rcases hv with h | h <;> subst h <;> decide +kernel) (fun t ht hW => ⟨⟨some (vI v), w, rfl, hσ, hx, hs.hd, hg, ⟨v, rfl, kk⟩, by rw [ht]; exact hP, hD⟩, hS.F ht⟩) hS.2.2 hd C.2.2.2.2.1)
theorem x_creturn {v : Int} {K : Int → Wd → Prop} (hr : rt μ = some .char) (hd : decode (cd μ) pc = .ok (.ireturn, 1)) (h0 : 0 ≤ v) (h1 : v < 65536) (kk : K v w) : WD G μ pc ls [vI v] w rc rs (yI K) := by
  intro hσ hx hl hs w0 hg A mc ms p l e s m args below meth c C H locs lsA cs ss hc hz hP hD hS hL
  have h := (pk_charN (q := v.toNat) (by omega)).1
  rw [show nI v.toNat = Int32.ofInt v by show Int32.ofNat v.toNat = _; rw [← Int32.ofInt_eq_ofNat, Int.toNat_of_nonneg h0]] at h
  exact W.widen (by omega) (by omega) (W.zret (v := Int32.ofInt v) C.1 C.2.1 (by rw [C.2.2.2.1, hr]) h (fun t ht hW => ⟨⟨some (vI v), w, rfl, hσ, hx, hs.hd, hg, ⟨v, rfl, kk⟩, by rw [ht]; exact hP, hD⟩, hS.F ht⟩) hS.2.2 hd C.2.2.2.2.1)
theorem x_breturn {v : Int} {K : Int → Wd → Prop} (hr : rt μ = some .byte) (hd : decode (cd μ) pc = .ok (.ireturn, 1)) (h0 : -128 ≤ v) (h1 : v ≤ 127) (kk : K v w) : WD G μ pc ls [vI v] w rc rs (yI K) := by
  intro hσ hx hl hs w0 hg A mc ms p l e s m args below meth c C H locs lsA cs ss hc hz hP hD hS hL
  have h : narrow .byte (.int (Int32.ofInt v)) = .int (Int32.ofInt v) := by
    show Value.int (Int32.ofInt v).toInt8.toInt32 = _
    rw [q_i2b]
    congr 2
    omega
  exact W.widen (by omega) (by omega) (W.zret (v := Int32.ofInt v) C.1 C.2.1 (by rw [C.2.2.2.1, hr]) h (fun t ht hW => ⟨⟨some (vI v), w, rfl, hσ, hx, hs.hd, hg, ⟨v, rfl, kk⟩, by rw [ht]; exact hP, hD⟩, hS.F ht⟩) hS.2.2 hd C.2.2.2.2.1)
theorem x_return {K : Wd → Prop} (hr : rt μ = none) (hd : decode (cd μ) pc = .ok (.return_, 1)) (kk : K w) : WD G μ pc ls [] w rc rs (yV K) := by
  intro hσ hx hl hs w0 hg A mc ms p l e s m args below meth c C H locs lsA cs ss hc hz hP hD hS hL
  exact W.widen (by omega) (by omega) (W.vret C.1 C.2.1 (by rw [C.2.2.2.1, hr]) (fun t ht hW => ⟨⟨none, w, rfl, hσ, hx, trivial, hg, ⟨rfl, kk⟩, by rw [ht]; exact hP, hD⟩, hS.F ht⟩) hS.2.2 hd C.2.2.2.2.1)
theorem x_areturn (r : Option Nat) {K : Option Nat → Wd → Prop} {ty : FieldType} (hr : rt μ = some ty) (hty : (∃ n, ty = .object n) ∨ ∃ t, ty = .array t) (hd : decode (cd μ) pc = .ok (.areturn, 1)) (kk : K r w) : WD G μ pc ls [vP r] w rc rs (yP K) := by
  intro hσ hx hl hs w0 hg A mc ms p l e s m args below meth c C H locs lsA cs ss hc hz hP hD hS hL
  exact W.widen (by omega) (by omega) (W.aret (v := va_rf r) C.1 C.2.1 (by rw [C.2.2.2.1, hr]) hty (by cases r with
    | none => exact Or.inl rfl
    | some a => exact Or.inr ⟨a, rfl⟩) (fun t ht hW => ⟨⟨some (vP r), w, rfl, hσ, hx, hs.hd, hg, ⟨r, rfl, kk⟩, by rw [ht]; exact hP, hD⟩, hS.F ht⟩) hS.2.2 hd C.2.2.2.2.1)
end XN
