-- fields and arrays of the moving world
theorem rd_at {G : Gq} {w : Wd} {a : Nat} {H : Heap} (hP : va_P G.1 vwCl (wld2 G w) H) (hm : a ∈ wL w) : va_P G.1 vwCl [(a, dent G w a)] H := by
  obtain ⟨k, hk⟩ := wld2_at (G := G) hm
  intro i q hq
  have hz : i < 1 := (List.getElem?_eq_some_iff.mp hq).1
  rw [show i = 0 by omega] at hq
  cases hq
  exact hP _ _ hk
theorem Ow.A {G : Gq} {w : Wd} {A : Nat → Prop} {a : Nat} {k : Kd} (h : Ow w a k) (hD : va_D A (wld2 G w)) : A a := by
  obtain ⟨i, hi⟩ := wld2_at (G := G) h.1
  exact hD.2 _ _ hi
theorem EdD.xa {G : Gq} {A : Nat → Prop} {U : State} {H : Heap} (h : EdD G A U H) {i : Nat} (hi : i < xN) : ¬ A (xa G i) := (h.1.2.1 i hi).nA.2
/-- what stands behind isn't written -/
theorem Gw.wr {G : Gq} {w w' : Wd} {A : Nat → Prop} {U : State} {H : Heap} {a : Nat} (hE : EdD G A U H) (hA : A a) (hL : wL w' = wL w) (hK : wK w' = wK w) (hI : ∀ b, b ≠ a → ∀ j, wI w' b j = wI w b j) (hR : ∀ b, b ≠ a → ∀ j, wR w' b j = wR w b j) : Gw G w w' :=
  ⟨fun b hb => ⟨by rw [hL]; exact hb, by rw [hK]⟩, fun i hi => by
    have hne : xa G i ≠ a := fun e => hE.xa hi (by rw [e]; exact hA)
    exact ⟨by rw [hK], fun j => hI _ hne j, fun j => hR _ hne j⟩⟩
theorem XOK.wr {G : Gq} {w w' : Wd} {A : Nat → Prop} {U : State} {H : Heap} {a : Nat} (h : XOK G w) (hE : EdD G A U H) (hA : A a) (hK : wK w' = wK w) (hI : ∀ b, b ≠ a → ∀ j, wI w' b j = wI w b j) (hR : ∀ b, b ≠ a → ∀ j, wR w' b j = wR w b j) (hJ : ∀ b, b ≠ a → ∀ j, wJ w' b j = wJ w b j) : XOK G w' := fun i hi => by
  have hne : xa G i ≠ a := fun e => hE.xa hi (by rw [e]; exact hA)
  obtain ⟨h1, h2, h3, h4⟩ := h i hi
  exact ⟨by rw [hK]; exact h1, fun j => (hI _ hne j).trans (h2 j), fun j => (hR _ hne j).trans (h3 j), fun j => (hJ _ hne j).trans (h4 j)⟩
theorem va_S.w2 {A : Nat → Prop} {s : State} {H : Heap} {locs : List Loc} (h : va_S A s.heap H locs) {G : Gq} {i : Nat} (hX : Xat G i A s s.heap) : Xat G i A s H := hX.kept h.2.1
theorem recv_of {G : Gq} {w : Wd} {a ci : Nat} {q : vw_C} {A : Nat → Prop} {s : State} {H : Heap} {locs : List Loc} (hI : Is G w a (kO ci)) (hx : XOK G w) (hq : vwCl[ci]? = some q) (hP : va_P G.1 vwCl (wld2 G w) H) (hK : va_K G.1 vwCl (tyD G) s) (hE : EdD G A s s.heap) (hS : va_S A s.heap H locs) : ∃ cell : Cell, H[a]? = some cell ∧ cell.vm.isStatics = false ∧ s.vm.findClass q.1 = some cell.cls := by
  rcases hI.1 with hm | ⟨i, hi, rfl⟩
  · exact va_recv (q0 := 0) (fs := dfl w a (fdq ci)) hK (rd_at hP hm) hq (by rw [dent_kO hI.2]; rfl)
  · have h := hS.w2 (hE.1.2.1 i hi)
    have hk := (hx i hi).1
    rw [hI.2] at hk
    unfold Xat at h
    rw [← hk] at h
    obtain ⟨q2, h1, ⟨cell, h2, h3, h4, -⟩, -⟩ := h
    rw [hq] at h1
    cases h1
    exact ⟨cell, h2, h3, h4⟩
section XH
variable {G : Gq} {μ : Md} {pc : Nat} {ls : List (Nat × Vq)} {st : List Vq} {w : Wd} {rc rs : Nat} {Q : Option Vq → Wd → Prop}
/-- references in locals and on the stack -/
theorem x_aload_nP {j : Fin 4} (r : Option Nat) (hd : decode (cd μ) pc = .ok (.aload_n j, 1)) (hq : lq (j : Nat) ls = some (vP r)) (k : WD G μ (pc + 1) ls (vP r :: st) w rc rs Q) : WD G μ pc ls st w rc rs Q := by
  intro hσ hx hl hs w0 hg A mc ms p l e s m args below meth c C H locs lsA cs ss hc hz hP hD hS hL
  cases r with
  | none => exact lv_aload_nN C.1 C.2.1 hd rfl (asq_at hL (lq_mem hq)) (k hσ hx hl (oks_cons (hl _ (lq_mem hq)) hs) w0 hg A mc ms p l e s m args below meth c C H locs lsA cs ss hc hz hP hD hS hL)
  | some a => exact lv_aload_n C.1 C.2.1 hd rfl (asq_at hL (lq_mem hq)) (k hσ hx hl (oks_cons (hl _ (lq_mem hq)) hs) w0 hg A mc ms p l e s m args below meth c C H locs lsA cs ss hc hz hP hD hS hL)
theorem x_aloadP {j : Nat} (r : Option Nat) (hd : decode (cd μ) pc = .ok (.aload j, 2)) (hq : lq (j : Nat) ls = some (vP r)) (k : WD G μ (pc + 2) ls (vP r :: st) w rc rs Q) : WD G μ pc ls st w rc rs Q := by
  intro hσ hx hl hs w0 hg A mc ms p l e s m args below meth c C H locs lsA cs ss hc hz hP hD hS hL
  cases r with
  | none => exact lv_aloadN C.1 C.2.1 hd (asq_at hL (lq_mem hq)) (k hσ hx hl (oks_cons (hl _ (lq_mem hq)) hs) w0 hg A mc ms p l e s m args below meth c C H locs lsA cs ss hc hz hP hD hS hL)
  | some a => exact lv_aload C.1 C.2.1 hd (asq_at hL (lq_mem hq)) (k hσ hx hl (oks_cons (hl _ (lq_mem hq)) hs) w0 hg A mc ms p l e s m args below meth c C H locs lsA cs ss hc hz hP hD hS hL)
theorem x_astore_nP {k0 : Fin 4} {j : Nat} (r : Option Nat) {ls' : List (Nat × Vq)} (hd : decode (cd μ) pc = .ok (.astore_n k0, 1)) (hi : (k0 : Nat) = j) (hn : j < mL μ) (he : stl j (vP r) ls = ls') (k : WD G μ (pc + 1) ls' st w rc rs Q) : WD G μ pc ls (vP r :: st) w rc rs Q := by
  intro hσ hx hl hs w0 hg A mc ms p l e s m args below meth c C H locs lsA cs ss hc hz hP hD hS hL
  subst he
  cases r with
  | none => exact lv_astore_nN C.1 C.2.1 hd hi hL hn (asq_stl (i := j) (v := vP none) hl) (fun lsA' hL' => k hσ hx (okl_stl (v := vP none) hl okP) hs.tl w0 hg A mc ms p l e s m args below meth c C H locs lsA' cs ss hc hz hP hD hS hL')
  | some a => exact lv_astore_n C.1 C.2.1 hd hi hL hn (asq_stl (i := j) (v := vP (some a)) hl) (fun lsA' hL' => k hσ hx (okl_stl (v := vP (some a)) hl okP) hs.tl w0 hg A mc ms p l e s m args below meth c C H locs lsA' cs ss hc hz hP hD hS hL')
theorem x_astoreP {j : Nat} (r : Option Nat) {ls' : List (Nat × Vq)} (hd : decode (cd μ) pc = .ok (.astore j, 2)) (hn : j < mL μ) (he : stl j (vP r) ls = ls') (k : WD G μ (pc + 2) ls' st w rc rs Q) : WD G μ pc ls (vP r :: st) w rc rs Q := by
  intro hσ hx hl hs w0 hg A mc ms p l e s m args below meth c C H locs lsA cs ss hc hz hP hD hS hL
  subst he
  cases r with
  | none => exact lv_astoreN C.1 C.2.1 hd hL hn (asq_stl (i := j) (v := vP none) hl) (fun lsA' hL' => k hσ hx (okl_stl (v := vP none) hl okP) hs.tl w0 hg A mc ms p l e s m args below meth c C H locs lsA' cs ss hc hz hP hD hS hL')
  | some a => exact lv_astore C.1 C.2.1 hd hL hn (asq_stl (i := j) (v := vP (some a)) hl) (fun lsA' hL' => k hσ hx (okl_stl (v := vP (some a)) hl okP) hs.tl w0 hg A mc ms p l e s m args below meth c C H locs lsA' cs ss hc hz hP hD hS hL')
theorem x_null (hd : decode (cd μ) pc = .ok (.aconst_null, 1)) (k : WD G μ (pc + 1) ls (vP none :: st) w rc rs Q) : WD G μ pc ls st w rc rs Q := by
  intro hσ hx hl hs w0 hg A mc ms p l e s m args below meth c C H locs lsA cs ss hc hz hP hD hS hL
  exact lv_null C.1 C.2.1 hd (k hσ hx hl (oks_cons (v := vP none) okP hs) w0 hg A mc ms p l e s m args below meth c C H locs lsA cs ss hc hz hP hD hS hL)
theorem x_dup_x1 {u v : Vq} (hd : decode (cd μ) pc = .ok (.dup_x1, 1)) (hu : ct u = 1) (hv : ct v = 1) (k : WD G μ (pc + 1) ls (u :: v :: u :: st) w rc rs Q) : WD G μ pc ls (u :: v :: st) w rc rs Q := by
  intro hσ hx hl hs w0 hg A mc ms p l e s m args below meth c C H locs lsA cs ss hc hz hP hD hS hL
  exact lv_dup_x1 C.1 C.2.1 hd (by rw [cv_ct G hs.hd]; exact hu) (by rw [cv_ct G hs.tl.hd]; exact hv) (k hσ hx hl (oks_cons hs.hd (oks_cons hs.tl.hd (oks_cons hs.hd hs.tl.tl))) w0 hg A mc ms p l e s m args below meth c C H locs lsA cs ss hc hz hP hD hS hL)
theorem x_ifnull {r : Option Nat} {off : Int} (tgt : Nat) (hd : decode (cd μ) pc = .ok (.ifnull off, 3)) (ht : (pc : Int) + off = (tgt : Int)) (k : (r = none → WD G μ tgt ls st w rc rs Q) ∧ (∀ a, r = some a → WD G μ (pc + 3) ls st w rc rs Q)) : WD G μ pc ls (vP r :: st) w rc rs Q := by
  intro hσ hx hl hs w0 hg A mc ms p l e s m args below meth c C H locs lsA cs ss hc hz hP hD hS hL
  cases r with
  | none => exact lv_ifnullN C.1 C.2.1 hd ht (k.1 rfl hσ hx hl hs.tl w0 hg A mc ms p l e s m args below meth c C H locs lsA cs ss hc hz hP hD hS hL)
  | some a => exact lv_ifnull C.1 C.2.1 hd (k.2 a rfl hσ hx hl hs.tl w0 hg A mc ms p l e s m args below meth c C H locs lsA cs ss hc hz hP hD hS hL)
theorem x_ifnonnull {r : Option Nat} {off : Int} (tgt : Nat) (hd : decode (cd μ) pc = .ok (.ifnonnull off, 3)) (ht : (pc : Int) + off = (tgt : Int)) (k : (r = none → WD G μ (pc + 3) ls st w rc rs Q) ∧ (∀ a, r = some a → WD G μ tgt ls st w rc rs Q)) : WD G μ pc ls (vP r :: st) w rc rs Q := by
  intro hσ hx hl hs w0 hg A mc ms p l e s m args below meth c C H locs lsA cs ss hc hz hP hD hS hL
  cases r with
  | none => exact lv_ifnonnullN C.1 C.2.1 hd (k.1 rfl hσ hx hl hs.tl w0 hg A mc ms p l e s m args below meth c C H locs lsA cs ss hc hz hP hD hS hL)
  | some a => exact lv_ifnonnull C.1 C.2.1 hd ht (k.2 a rfl hσ hx hl hs.tl w0 hg A mc ms p l e s m args below meth c C H locs lsA cs ss hc hz hP hD hS hL)
theorem x_acmp_eq (rx ry : Option Nat) {off : Int} (tgt : Nat) (hd : decode (cd μ) pc = .ok (.if_acmp .eq off, 3)) (ht : (pc : Int) + off = (tgt : Int)) (k : (rx = ry → WD G μ tgt ls st w rc rs Q) ∧ (¬ rx = ry → WD G μ (pc + 3) ls st w rc rs Q)) : WD G μ pc ls (vP ry :: vP rx :: st) w rc rs Q := by
  intro hσ hx hl hs w0 hg A mc ms p l e s m args below meth c C H locs lsA cs ss hc hz hP hD hS hL
  exact lv_acmp_eq C.1 C.2.1 hd ht (fun h => k.1 h hσ hx hl hs.tl.tl w0 hg A mc ms p l e s m args below meth c C H locs lsA cs ss hc hz hP hD hS hL) (fun h => k.2 h hσ hx hl hs.tl.tl w0 hg A mc ms p l e s m args below meth c C H locs lsA cs ss hc hz hP hD hS hL)
theorem x_acmp_ne (rx ry : Option Nat) {off : Int} (tgt : Nat) (hd : decode (cd μ) pc = .ok (.if_acmp .ne off, 3)) (ht : (pc : Int) + off = (tgt : Int)) (k : (¬ rx = ry → WD G μ tgt ls st w rc rs Q) ∧ (rx = ry → WD G μ (pc + 3) ls st w rc rs Q)) : WD G μ pc ls (vP ry :: vP rx :: st) w rc rs Q := by
  intro hσ hx hl hs w0 hg A mc ms p l e s m args below meth c C H locs lsA cs ss hc hz hP hD hS hL
  exact lv_acmp_ne C.1 C.2.1 hd ht (fun h => k.1 h hσ hx hl hs.tl.tl w0 hg A mc ms p l e s m args below meth c C H locs lsA cs ss hc hz hP hD hS hL) (fun h => k.2 h hσ hx hl hs.tl.tl w0 hg A mc ms p l e s m args below meth c C H locs lsA cs ss hc hz hP hD hS hL)
def Sam (ref : String) (T : u_T) (j : Nat) : Prop := ref = (T j).1 ∨ Cond.sameField ref (T j).1 (T j).2.1 (T j).2.2.1 ∈ UW
theorem Sam.use {ref : String} {T : u_T} {j : Nat} (h : Sam ref T j) {args : Array Value} {s : State} (hts : ∀ w ∈ UW, w.before args s = true) : ∀ x, s.fieldFound? (T j).1 (T j).2.1 (T j).2.2.1 = some x → s.fieldFound? ref (T j).2.1 (T j).2.2.1 = some x := by
  intro x hx
  rcases h with h | h
  · rw [h]; exact hx
  · exact u_same (hts _ h) x hx
theorem x_getf {a ci j idx N : Nat} {Cn ref : String} {T : u_T} {k : Nat} {v : Vq} (hI : Is G w a (kO ci)) (hC : ClOK ci Cn T N) (hN : j < N) (hw : Cond.fieldLink (mn μ).cls idx ref (T j).2.1 (T j).2.2.1 ∈ UW) (hsm : Sam ref T j) (hk : (fdq ci)[j]? = some k) (hd : decode (cd μ) pc = .ok (.getfield idx, 3)) (hv : cv G v = fvq w a j k) (hok : WFd w → okv v) (kk : WD G μ (pc + 3) ls (v :: st) w rc rs Q) : WD G μ pc ls (vA a :: st) w rc rs Q := by
  intro hσ hx hl hs w0 hg A mc ms p l e s m args below meth c C H locs lsA cs ss hc hz hP hD hS hL
  have hts := C.2.2.2.2.2.2.1
  have go := kk hσ hx hl (oks_cons (hok hσ) hs.tl) w0 hg A mc ms p l e s m args below meth c C H locs lsA cs ss hc hz hP hD hS hL
  rw [List.map_cons, hv] at go
  rcases hI.1 with hm | ⟨i, hi, rfl⟩
  · have hE := rd_at hP hm
    exact va_get (D := G.1) (ci := ci) (C := Cn) (T := T) (N := N) (ref := ref) (fs := dfl w a (fdq ci)) C.1 C.2.1 hts hC.2 C.2.2.2.2.2.1 C.2.2.2.2.2.2.2.1 hE 0 (by rw [dent_kO hI.2]; rfl) hC.1 j hN (hts _ hw) (hsm.use hts) (dfl_at hk) hd go
  · have h := C.2.2.2.2.2.2.2.2.2.2.1.2.1 i hi
    have hkd := (hx i hi).1
    rw [hI.2] at hkd
    unfold Xat at h
    rw [← hkd] at h
    obtain ⟨q2, h1, h2, h3⟩ := h
    rw [hC.1] at h1
    cases h1
    rw [hx.fv hi] at go
    exact vk_getf C.1 C.2.1 (h3 j k hk) hS C.2.2.2.2.2.1 (hts _ hw) (hsm.use hts) hd go
theorem x_getI {a ci j idx N : Nat} {Cn ref : String} {T : u_T} (jj : Int) (hI : Is G w a (kO ci)) (hC : ClOK ci Cn T N) (hN : j < N) (hw : Cond.fieldLink (mn μ).cls idx ref (T j).2.1 (T j).2.2.1 ∈ UW) (hsm : Sam ref T j) (hk : (fdq ci)[j]? = some 0) (hjj : jj = (j : Int)) (hd : decode (cd μ) pc = .ok (.getfield idx, 3)) {y : Int} (hy : wI w a jj = y) (kk : WD G μ (pc + 3) ls (vI y :: st) w rc rs Q) : WD G μ pc ls (vA a :: st) w rc rs Q := by
  subst hjj hy
  exact x_getf (v := vI (wI w a j)) hI hC hN hw hsm hk hd rfl (fun h => (h.2 a j).1) kk
theorem x_getJ {a ci j idx N : Nat} {Cn ref : String} {T : u_T} (jj : Int) (hI : Is G w a (kO ci)) (hC : ClOK ci Cn T N) (hN : j < N) (hw : Cond.fieldLink (mn μ).cls idx ref (T j).2.1 (T j).2.2.1 ∈ UW) (hsm : Sam ref T j) (hk : (fdq ci)[j]? = some 1) (hjj : jj = (j : Int)) (hd : decode (cd μ) pc = .ok (.getfield idx, 3)) {y : Int} (hy : wJ w a jj = y) (kk : WD G μ (pc + 3) ls (vL y :: st) w rc rs Q) : WD G μ pc ls (vA a :: st) w rc rs Q := by
  subst hjj hy
  exact x_getf (v := vL (wJ w a j)) hI hC hN hw hsm hk hd rfl (fun h => (h.2 a j).2) kk
theorem x_getP {a ci j idx N : Nat} {Cn ref : String} {T : u_T} (jj : Int) (hI : Is G w a (kO ci)) (hC : ClOK ci Cn T N) (hN : j < N) (hw : Cond.fieldLink (mn μ).cls idx ref (T j).2.1 (T j).2.2.1 ∈ UW) (hsm : Sam ref T j) (hk : (fdq ci)[j]? = some 2) (hjj : jj = (j : Int)) (hd : decode (cd μ) pc = .ok (.getfield idx, 3)) {y : Option Nat} (hy : wR w a jj = y) (kk : WD G μ (pc + 3) ls (vP y :: st) w rc rs Q) : WD G μ pc ls (vA a :: st) w rc rs Q := by
  subst hjj hy
  exact x_getf (v := vP (wR w a j)) hI hC hN hw hsm hk hd rfl (fun _ => okP) kk
theorem x_getF {a ci j idx N : Nat} {Cn ref : String} {T : u_T} {u : UInt32} (hI : Is G w a (kO ci)) (hC : ClOK ci Cn T N) (hN : j < N) (hw : Cond.fieldLink (mn μ).cls idx ref (T j).2.1 (T j).2.2.1 ∈ UW) (hsm : Sam ref T j) (hk : (fdq ci)[j]? = some 3) (hd : decode (cd μ) pc = .ok (.getfield idx, 3)) (hy : UInt32.ofNat (wJ w a j).toNat = u) (kk : WD G μ (pc + 3) ls (vO (.float u) :: st) w rc rs Q) : WD G μ pc ls (vA a :: st) w rc rs Q := by
  subst hy
  exact x_getf (v := vO (.float (UInt32.ofNat (wJ w a j).toNat))) hI hC hN hw hsm hk hd rfl (fun _ => rfl) kk
theorem x_putf {a ci j idx N : Nat} {Cn ref : String} {T : u_T} {ty0 : Nat → FieldType} {ty : FieldType} {v : Vq} {w' : Wd} (hO : Ow w a (kO ci)) (hC : ClOK ci Cn T N) (hN : j < N) (hw : Cond.fieldLink (mn μ).cls idx ref (T j).2.1 (T j).2.2.1 ∈ UW) (hsm : Sam ref T j) (hfin : (T j).2.2.2 = false ∨ ((T j).2.2.2 = true ∧ (mn μ).name = "<init>" ∧ (T j).1 = (mn μ).cls)) (hty : ∀ k, k < N → parseFieldDescriptor (T k).2.2.1 = some (ty0 k)) (hi : ty0 j = ty) (hnm : ∀ a, a < N → ∀ b, b < N → a ≠ b → (T a).2.1 ≠ (T b).2.1) (hd : decode (cd μ) pc = .ok (.putfield idx, 3)) (hn : narrow ty (cv G v) = cv G v) (hf : fits ty (cv G v) = true) (he : (dfl w a (fdq ci)).set j (cv G v) = dfl w' a (fdq ci)) (hjl : j < (fdq ci).length) (hS' : wS w' = wS w) (hL' : wL w' = wL w) (hK' : wK w' = wK w) (hI' : ∀ b, b ≠ a → ∀ i, wI w' b i = wI w b i) (hR' : ∀ b, b ≠ a → ∀ i, wR w' b i = wR w b i) (hJ' : ∀ b, b ≠ a → ∀ i, wJ w' b i = wJ w b i) (hW' : WFd w → okv v → WFd w') (kk : WD G μ (pc + 3) ls st w' rc rs Q) : WD G μ pc ls (v :: vA a :: st) w rc rs Q := by
  intro hσ hx hl hs w0 hg A mc ms p l e s m args below meth c C H locs lsA cs ss hc hz hP hD hS hL
  have hts := C.2.2.2.2.2.2.1
  obtain ⟨k0, hk0⟩ := wld2_at (G := G) hO.1
  have hk1 := hk0
  rw [dent_kO hO.2] at hk1
  have hAa : A a := hO.A hD
  have hED := C.2.2.2.2.2.2.2.2.2.2
  have hset : (wld2 G w).set (38 + k0) (a, .inr (ci, (dfl w a (fdq ci)).set j (cv G v))) = wld2 G w' := wld2_set hD hk0 (by rw [dent_kO (w := w') (by rw [hK']; exact hO.2), he]) hS' hL' (fun b hb => dent_same (by rw [hK']) (hI' b hb) (hR' b hb) (hJ' b hb))
  have go : ∀ (H1 : Heap) (locs1 : List Loc), va_P G.1 vwCl ((wld2 G w).set (38 + k0) (a, .inr (ci, (dfl w a (fdq ci)).set j (cv G v)))) H1 → va_D A ((wld2 G w).set (38 + k0) (a, .inr (ci, (dfl w a (fdq ci)).set j (cv G v)))) → va_S A s.heap H1 locs1 → W p l e (rmD μ mc ms) s m args below meth c H1 locs1 cs ss (MQ below (QoD G A w0 Q) args s mc ms A) (F0 m (pc + 3) lsA (st.map (cv G))) := by
    intro H1 locs1 hP1 hD1 hS1
    rw [hset] at hP1 hD1
    exact kk (hW' hσ hs.hd) (hx.wr hED hAa hK' hI' hR' hJ') hl hs.tl.tl w0 (hg.tr (Gw.wr hED hAa hL' hK' hI' hR')) A mc ms p l e s m args below meth c C H1 locs1 lsA cs ss hc hz hP1 hD1 hS1 hL
  have hl2 : j < (dfl w a (fdq ci)).length := by rw [dfl_len]; exact hjl
  rcases hfin with hfin | ⟨hf1, hf2, hf3⟩
  · exact va_put (D := G.1) (ci := ci) (C := Cn) (T := T) (N := N) (ref := ref) (ty := ty) (v := cv G v) C.1 C.2.1 hts hC.2 ty0 hty hnm C.2.2.2.2.2.1 C.2.2.2.2.2.2.2.1 hP hD hS (38 + k0) hk1 hC.1 j hN (hts _ hw) (hsm.use hts) hfin (by rw [hty j hN, hi]) hn hf hl2 hd go
  · exact va_putF (D := G.1) (ci := ci) (C := Cn) (T := T) (N := N) (ref := ref) (ty := ty) (v := cv G v) C.1 C.2.1 hts hC.2 ty0 hty hnm C.2.2.2.2.2.1 C.2.2.2.2.2.2.2.1 hP hD hS (38 + k0) hk1 hC.1 j hN (hts _ hw) (hsm.use hts) hf1 (by rw [C.2.2.2.2.2.2.2.2.2.1, hf2]) hf3 (by rw [hty j hN, hi]) hn hf hl2 hd go
theorem x_putI {a ci j idx N : Nat} {Cn ref : String} {T : u_T} {ty0 : Nat → FieldType} {ty : FieldType} {x : Int} (jj : Int) (hO : Ow w a (kO ci)) (hC : ClOK ci Cn T N) (hN : j < N) (hw : Cond.fieldLink (mn μ).cls idx ref (T j).2.1 (T j).2.2.1 ∈ UW) (hsm : Sam ref T j) (hfin : (T j).2.2.2 = false ∨ ((T j).2.2.2 = true ∧ (mn μ).name = "<init>" ∧ (T j).1 = (mn μ).cls)) (hty : ∀ k, k < N → parseFieldDescriptor (T k).2.2.1 = some (ty0 k)) (hi : ty0 j = ty) (hnm : ∀ a, a < N → ∀ b, b < N → a ≠ b → (T a).2.1 ≠ (T b).2.1) (hd : decode (cd μ) pc = .ok (.putfield idx, 3)) (hk : (fdq ci)[j]? = some 0) (hjj : jj = (j : Int)) (hn : inR x → narrow ty (.int (Int32.ofInt x)) = .int (Int32.ofInt x)) (hf : fits ty (.int (Int32.ofInt x)) = true) (kk : WD G μ (pc + 3) ls st (uI w a jj x) rc rs Q) : WD G μ pc ls (vI x :: vA a :: st) w rc rs Q := by
  subst hjj
  intro hσ hx hl hs
  have hxr : inR x := hs.hd
  exact x_putf (v := vI x) (w' := uI w a j x) hO hC hN hw hsm hfin hty hi hnm hd (hn hxr) hf (dfl_set hk (fun i hij k => by unfold fvq; rw [wI_uI_j (by omega), wR_uI, wJ_uI]) (by show _ = fvq (uI w a j x) a j 0; unfold fvq; rw [if_pos rfl, wI_uI_s]; rfl)) (List.getElem?_eq_some_iff.mp hk).1 rfl rfl rfl (fun b hb i => wI_uI_a hb) (fun _ _ _ => rfl) (fun _ _ _ => rfl) (fun h _ => ⟨h.1, fun b i => ⟨by
    show inR (ups (wI w) a j x b i)
    unfold ups
    split
    · exact hxr
    · exact (h.2 b i).1, (h.2 b i).2⟩⟩) kk hσ hx hl hs
theorem x_putJ {a ci j idx N : Nat} {Cn ref : String} {T : u_T} {ty0 : Nat → FieldType} {ty : FieldType} {x : Int} (jj : Int) (hO : Ow w a (kO ci)) (hC : ClOK ci Cn T N) (hN : j < N) (hw : Cond.fieldLink (mn μ).cls idx ref (T j).2.1 (T j).2.2.1 ∈ UW) (hsm : Sam ref T j) (hfin : (T j).2.2.2 = false ∨ ((T j).2.2.2 = true ∧ (mn μ).name = "<init>" ∧ (T j).1 = (mn μ).cls)) (hty : ∀ k, k < N → parseFieldDescriptor (T k).2.2.1 = some (ty0 k)) (hi : ty0 j = ty) (hnm : ∀ a, a < N → ∀ b, b < N → a ≠ b → (T a).2.1 ≠ (T b).2.1) (hd : decode (cd μ) pc = .ok (.putfield idx, 3)) (hk : (fdq ci)[j]? = some 1) (hjj : jj = (j : Int)) (hty2 : ty = .long) (kk : WD G μ (pc + 3) ls st (uJ w a jj x) rc rs Q) : WD G μ pc ls (vL x :: vA a :: st) w rc rs Q := by
  subst hjj hty2
  intro hσ hx hl hs
  have hxr : inL x := hs.hd
  exact x_putf (v := vL x) (w' := uJ w a j x) hO hC hN hw hsm hfin hty hi hnm hd rfl rfl (dfl_set hk (fun i hij k => by unfold fvq; rw [wJ_uJ_j (by omega), wR_uJ, wI_uJ]) (by show _ = fvq (uJ w a j x) a j 1; unfold fvq; rw [if_neg (by decide), if_pos rfl, wJ_uJ_s]; rfl)) (List.getElem?_eq_some_iff.mp hk).1 rfl rfl rfl (fun _ _ _ => rfl) (fun _ _ _ => rfl) (fun b hb i => wJ_uJ_a hb) (fun h _ => ⟨h.1, fun b i => ⟨(h.2 b i).1, by
    show inL (ups (wJ w) a j x b i)
    unfold ups
    split
    · exact hxr
    · exact (h.2 b i).2⟩⟩) kk hσ hx hl hs
theorem x_putP {a ci j idx N : Nat} {Cn ref : String} {T : u_T} {ty0 : Nat → FieldType} {ty : FieldType} (r : Option Nat) (jj : Int) (hO : Ow w a (kO ci)) (hC : ClOK ci Cn T N) (hN : j < N) (hw : Cond.fieldLink (mn μ).cls idx ref (T j).2.1 (T j).2.2.1 ∈ UW) (hsm : Sam ref T j) (hfin : (T j).2.2.2 = false ∨ ((T j).2.2.2 = true ∧ (mn μ).name = "<init>" ∧ (T j).1 = (mn μ).cls)) (hty : ∀ k, k < N → parseFieldDescriptor (T k).2.2.1 = some (ty0 k)) (hi : ty0 j = ty) (hnm : ∀ a, a < N → ∀ b, b < N → a ≠ b → (T a).2.1 ≠ (T b).2.1) (hd : decode (cd μ) pc = .ok (.putfield idx, 3)) (hk : (fdq ci)[j]? = some 2) (hjj : jj = (j : Int)) (hn : narrow ty (va_rf r) = va_rf r) (hf : fits ty (va_rf r) = true) (kk : WD G μ (pc + 3) ls st (uR w a jj r) rc rs Q) : WD G μ pc ls (vP r :: vA a :: st) w rc rs Q := by
  subst hjj
  exact x_putf (v := vP r) (w' := uR w a j r) hO hC hN hw hsm hfin hty hi hnm hd hn hf (dfl_set hk (fun i hij k => by unfold fvq; rw [wR_uR_j (by omega), wI_uR, wJ_uR]) (by show _ = fvq (uR w a j r) a j 2; unfold fvq; rw [if_neg (by decide), if_neg (by decide), if_pos rfl, wR_uR_s]; rfl)) (List.getElem?_eq_some_iff.mp hk).1 rfl rfl rfl (fun _ _ _ => rfl) (fun b hb i => wR_uR_a hb) (fun _ _ _ => rfl) (fun h _ => ⟨h.1, fun b i => h.2 b i⟩) kk
theorem x_putF {a ci j idx N : Nat} {Cn ref : String} {T : u_T} {ty0 : Nat → FieldType} {ty : FieldType} {u : UInt32} (x : Int) (jj : Int) (hO : Ow w a (kO ci)) (hC : ClOK ci Cn T N) (hN : j < N) (hw : Cond.fieldLink (mn μ).cls idx ref (T j).2.1 (T j).2.2.1 ∈ UW) (hsm : Sam ref T j) (hfin : (T j).2.2.2 = false ∨ ((T j).2.2.2 = true ∧ (mn μ).name = "<init>" ∧ (T j).1 = (mn μ).cls)) (hty : ∀ k, k < N → parseFieldDescriptor (T k).2.2.1 = some (ty0 k)) (hi : ty0 j = ty) (hnm : ∀ a, a < N → ∀ b, b < N → a ≠ b → (T a).2.1 ≠ (T b).2.1) (hd : decode (cd μ) pc = .ok (.putfield idx, 3)) (hk : (fdq ci)[j]? = some 3) (hjj : jj = (j : Int)) (hty2 : ty = .float) (hu : UInt32.ofNat x.toNat = u) (hxr : inL x) (kk : WD G μ (pc + 3) ls st (uJ w a jj x) rc rs Q) : WD G μ pc ls (vO (.float u) :: vA a :: st) w rc rs Q := by
  subst hjj hty2 hu
  exact x_putf (v := vO (.float (UInt32.ofNat x.toNat))) (w' := uJ w a j x) hO hC hN hw hsm hfin hty hi hnm hd rfl rfl (dfl_set hk (fun i hij k => by unfold fvq; rw [wJ_uJ_j (by omega), wR_uJ, wI_uJ]) (by show _ = fvq (uJ w a j x) a j 3; unfold fvq; rw [if_neg (by decide), if_neg (by decide), if_neg (by decide), wJ_uJ_s]; rfl)) (List.getElem?_eq_some_iff.mp hk).1 rfl rfl rfl (fun _ _ _ => rfl) (fun _ _ _ => rfl) (fun b hb i => wJ_uJ_a hb) (fun h _ => ⟨h.1, fun b i => ⟨(h.2 b i).1, by
    show inL (ups (wJ w) a j x b i)
    unfold ups
    split
    · exact hxr
    · exact (h.2 b i).2⟩⟩) kk
end XH
