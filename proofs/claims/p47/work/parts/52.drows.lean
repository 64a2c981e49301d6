-- one row an instruction, over the moving world (part 05 turned by wip/gen/drows.py)
section XW
variable {G : Gq} {μ : Md} {pc : Nat} {ls : List (Nat × Vq)} {st : List Vq} {w : Wd} {rc rs : Nat} {Q : Option Vq → Wd → Prop}
theorem x_iconst {n : Int} (hd : decode (cd μ) pc = .ok (.iconst n, 1)) (hn : inR n) (k : WD G μ (pc + 1) ls (vI n :: st) w rc rs Q) : WD G μ pc ls (st) w rc rs Q := by
  intro hσ hx hl hs w0 hg A mc ms p l e s m args below meth c C H locs lsA cs ss hc hz hP hD hS hL
  exact lv_iconst C.1 C.2.1 hd rfl (k hσ hx hl (oks_cons (v := vI n) hn hs) w0 hg A mc ms p l e s m args below meth c C H locs lsA cs ss hc hz hP hD hS hL)
theorem x_bipush {n : Int} (hd : decode (cd μ) pc = .ok (.bipush n, 2)) (hv : (Int8.ofInt n).toInt32 = Int32.ofInt n) (hn : inR n) (k : WD G μ (pc + 2) ls (vI n :: st) w rc rs Q) : WD G μ pc ls (st) w rc rs Q := by
  intro hσ hx hl hs w0 hg A mc ms p l e s m args below meth c C H locs lsA cs ss hc hz hP hD hS hL
  exact lv_bipush C.1 C.2.1 hd hv (k hσ hx hl (oks_cons (v := vI n) hn hs) w0 hg A mc ms p l e s m args below meth c C H locs lsA cs ss hc hz hP hD hS hL)
theorem x_sipush {n : Int} (hd : decode (cd μ) pc = .ok (.sipush n, 3)) (hv : (Int16.ofInt n).toInt32 = Int32.ofInt n) (hn : inR n) (k : WD G μ (pc + 3) ls (vI n :: st) w rc rs Q) : WD G μ pc ls (st) w rc rs Q := by
  intro hσ hx hl hs w0 hg A mc ms p l e s m args below meth c C H locs lsA cs ss hc hz hP hD hS hL
  exact lv_sipush C.1 C.2.1 hd hv (k hσ hx hl (oks_cons (v := vI n) hn hs) w0 hg A mc ms p l e s m args below meth c C H locs lsA cs ss hc hz hP hD hS hL)
theorem x_ldc {i : Nat} {v : Int32} (n : Int) (hd : decode (cd μ) pc = .ok (.ldc i, 2)) (hw : Cond.constant (mn μ).cls i v ∈ UW) (hv : v = Int32.ofInt n) (hn : inR n) (k : WD G μ (pc + 2) ls (vI n :: st) w rc rs Q) : WD G μ pc ls (st) w rc rs Q := by
  intro hσ hx hl hs w0 hg A mc ms p l e s m args below meth c C H locs lsA cs ss hc hz hP hD hS hL
  subst hv
  exact lv_ldc C.1 C.2.1 C.2.2.2.2.2.1 (C.2.2.2.2.2.2.1 _ hw) hd (k hσ hx hl (oks_cons (v := vI n) hn hs) w0 hg A mc ms p l e s m args below meth c C H locs lsA cs ss hc hz hP hD hS hL)
theorem x_ldcw {i : Nat} {v : Int32} (n : Int) (hd : decode (cd μ) pc = .ok (.ldc_w i, 3)) (hw : Cond.constant (mn μ).cls i v ∈ UW) (hv : v = Int32.ofInt n) (hn : inR n) (k : WD G μ (pc + 3) ls (vI n :: st) w rc rs Q) : WD G μ pc ls (st) w rc rs Q := by
  intro hσ hx hl hs w0 hg A mc ms p l e s m args below meth c C H locs lsA cs ss hc hz hP hD hS hL
  subst hv
  exact lv_ldcw C.1 C.2.1 C.2.2.2.2.2.1 (C.2.2.2.2.2.2.1 _ hw) hd (k hσ hx hl (oks_cons (v := vI n) hn hs) w0 hg A mc ms p l e s m args below meth c C H locs lsA cs ss hc hz hP hD hS hL)
theorem x_ldc2 {i : Nat} {v : Int64} (n : Int) (hd : decode (cd μ) pc = .ok (.ldc2_w i, 3)) (hw : Cond.constantLong (mn μ).cls i v ∈ UW) (hv : v = Int64.ofInt n) (hn : inL n) (k : WD G μ (pc + 3) ls (vL n :: st) w rc rs Q) : WD G μ pc ls (st) w rc rs Q := by
  intro hσ hx hl hs w0 hg A mc ms p l e s m args below meth c C H locs lsA cs ss hc hz hP hD hS hL
  subst hv
  exact lv_ldc2 C.1 C.2.1 C.2.2.2.2.2.1 (C.2.2.2.2.2.2.1 _ hw) hd (k hσ hx hl (oks_cons (v := vL n) hn hs) w0 hg A mc ms p l e s m args below meth c C H locs lsA cs ss hc hz hP hD hS hL)
theorem x_ldc2d {i : Nat} {v : UInt64} (hd : decode (cd μ) pc = .ok (.ldc2_w i, 3)) (hw : Cond.constantDouble (mn μ).cls i v ∈ UW) (k : WD G μ (pc + 3) ls (vD v :: st) w rc rs Q) : WD G μ pc ls (st) w rc rs Q := by
  intro hσ hx hl hs w0 hg A mc ms p l e s m args below meth c C H locs lsA cs ss hc hz hP hD hS hL
  exact lv_ldc2d C.1 C.2.1 C.2.2.2.2.2.1 (C.2.2.2.2.2.2.1 _ hw) hd (k hσ hx hl (oks_cons (v := vD v) trivial hs) w0 hg A mc ms p l e s m args below meth c C H locs lsA cs ss hc hz hP hD hS hL)
theorem x_lconst {j : Fin 2} (n : Int) (hd : decode (cd μ) pc = .ok (.lconst j, 1)) (hv : Int64.ofNat (j : Nat) = Int64.ofInt n) (hn : inL n) (k : WD G μ (pc + 1) ls (vL n :: st) w rc rs Q) : WD G μ pc ls (st) w rc rs Q := by
  intro hσ hx hl hs w0 hg A mc ms p l e s m args below meth c C H locs lsA cs ss hc hz hP hD hS hL
  exact lv_lconst C.1 C.2.1 hd hv (k hσ hx hl (oks_cons (v := vL n) hn hs) w0 hg A mc ms p l e s m args below meth c C H locs lsA cs ss hc hz hP hD hS hL)
theorem x_dconst0 (hd : decode (cd μ) pc = .ok (.dconst 0, 1)) (k : WD G μ (pc + 1) ls (vD FP.dconst0 :: st) w rc rs Q) : WD G μ pc ls (st) w rc rs Q := by
  intro hσ hx hl hs w0 hg A mc ms p l e s m args below meth c C H locs lsA cs ss hc hz hP hD hS hL
  exact lv_dconst0 C.1 C.2.1 hd (k hσ hx hl (oks_cons (v := vD _) trivial hs) w0 hg A mc ms p l e s m args below meth c C H locs lsA cs ss hc hz hP hD hS hL)
theorem x_dconst1 (hd : decode (cd μ) pc = .ok (.dconst 1, 1)) (k : WD G μ (pc + 1) ls (vD FP.dconst1 :: st) w rc rs Q) : WD G μ pc ls (st) w rc rs Q := by
  intro hσ hx hl hs w0 hg A mc ms p l e s m args below meth c C H locs lsA cs ss hc hz hP hD hS hL
  exact lv_dconst1 C.1 C.2.1 hd (k hσ hx hl (oks_cons (v := vD _) trivial hs) w0 hg A mc ms p l e s m args below meth c C H locs lsA cs ss hc hz hP hD hS hL)
theorem x_iload_n {j : Fin 4} {x : Int} (hd : decode (cd μ) pc = .ok (.iload_n j, 1)) (hq : lq (j : Nat) ls = some (vI x)) (k : WD G μ (pc + 1) ls (vI x :: st) w rc rs Q) : WD G μ pc ls (st) w rc rs Q := by
  intro hσ hx hl hs w0 hg A mc ms p l e s m args below meth c C H locs lsA cs ss hc hz hP hD hS hL
  exact lv_iload_n C.1 C.2.1 hd rfl (asq_at hL (lq_mem hq)) (k hσ hx hl (oks_cons (hl _ (lq_mem hq)) hs) w0 hg A mc ms p l e s m args below meth c C H locs lsA cs ss hc hz hP hD hS hL)
theorem x_iload {j : Nat} {x : Int} (hd : decode (cd μ) pc = .ok (.iload j, 2)) (hq : lq j ls = some (vI x)) (k : WD G μ (pc + 2) ls (vI x :: st) w rc rs Q) : WD G μ pc ls (st) w rc rs Q := by
  intro hσ hx hl hs w0 hg A mc ms p l e s m args below meth c C H locs lsA cs ss hc hz hP hD hS hL
  exact lv_iload C.1 C.2.1 hd (asq_at hL (lq_mem hq)) (k hσ hx hl (oks_cons (hl _ (lq_mem hq)) hs) w0 hg A mc ms p l e s m args below meth c C H locs lsA cs ss hc hz hP hD hS hL)
theorem x_lload_n {j : Fin 4} {x : Int} (hd : decode (cd μ) pc = .ok (.lload_n j, 1)) (hq : lq (j : Nat) ls = some (vL x)) (k : WD G μ (pc + 1) ls (vL x :: st) w rc rs Q) : WD G μ pc ls (st) w rc rs Q := by
  intro hσ hx hl hs w0 hg A mc ms p l e s m args below meth c C H locs lsA cs ss hc hz hP hD hS hL
  exact lv_lload_n C.1 C.2.1 hd rfl (asq_at hL (lq_mem hq)) (k hσ hx hl (oks_cons (hl _ (lq_mem hq)) hs) w0 hg A mc ms p l e s m args below meth c C H locs lsA cs ss hc hz hP hD hS hL)
theorem x_lload {j : Nat} {x : Int} (hd : decode (cd μ) pc = .ok (.lload j, 2)) (hq : lq j ls = some (vL x)) (k : WD G μ (pc + 2) ls (vL x :: st) w rc rs Q) : WD G μ pc ls (st) w rc rs Q := by
  intro hσ hx hl hs w0 hg A mc ms p l e s m args below meth c C H locs lsA cs ss hc hz hP hD hS hL
  exact lv_lload C.1 C.2.1 hd (asq_at hL (lq_mem hq)) (k hσ hx hl (oks_cons (hl _ (lq_mem hq)) hs) w0 hg A mc ms p l e s m args below meth c C H locs lsA cs ss hc hz hP hD hS hL)
theorem x_dload_n {j : Fin 4} {x : UInt64} (hd : decode (cd μ) pc = .ok (.dload_n j, 1)) (hq : lq (j : Nat) ls = some (vD x)) (k : WD G μ (pc + 1) ls (vD x :: st) w rc rs Q) : WD G μ pc ls (st) w rc rs Q := by
  intro hσ hx hl hs w0 hg A mc ms p l e s m args below meth c C H locs lsA cs ss hc hz hP hD hS hL
  exact lv_dload_n C.1 C.2.1 hd rfl (asq_at hL (lq_mem hq)) (k hσ hx hl (oks_cons (hl _ (lq_mem hq)) hs) w0 hg A mc ms p l e s m args below meth c C H locs lsA cs ss hc hz hP hD hS hL)
theorem x_dload {j : Nat} {x : UInt64} (hd : decode (cd μ) pc = .ok (.dload j, 2)) (hq : lq j ls = some (vD x)) (k : WD G μ (pc + 2) ls (vD x :: st) w rc rs Q) : WD G μ pc ls (st) w rc rs Q := by
  intro hσ hx hl hs w0 hg A mc ms p l e s m args below meth c C H locs lsA cs ss hc hz hP hD hS hL
  exact lv_dload C.1 C.2.1 hd (asq_at hL (lq_mem hq)) (k hσ hx hl (oks_cons (hl _ (lq_mem hq)) hs) w0 hg A mc ms p l e s m args below meth c C H locs lsA cs ss hc hz hP hD hS hL)
theorem x_aload_n {j : Fin 4} {x : Nat} (hd : decode (cd μ) pc = .ok (.aload_n j, 1)) (hq : lq (j : Nat) ls = some (vR x)) (k : WD G μ (pc + 1) ls (vR x :: st) w rc rs Q) : WD G μ pc ls (st) w rc rs Q := by
  intro hσ hx hl hs w0 hg A mc ms p l e s m args below meth c C H locs lsA cs ss hc hz hP hD hS hL
  exact lv_aload_n C.1 C.2.1 hd rfl (asq_at hL (lq_mem hq)) (k hσ hx hl (oks_cons (hl _ (lq_mem hq)) hs) w0 hg A mc ms p l e s m args below meth c C H locs lsA cs ss hc hz hP hD hS hL)
theorem x_aload {j : Nat} {x : Nat} (hd : decode (cd μ) pc = .ok (.aload j, 2)) (hq : lq j ls = some (vR x)) (k : WD G μ (pc + 2) ls (vR x :: st) w rc rs Q) : WD G μ pc ls (st) w rc rs Q := by
  intro hσ hx hl hs w0 hg A mc ms p l e s m args below meth c C H locs lsA cs ss hc hz hP hD hS hL
  exact lv_aload C.1 C.2.1 hd (asq_at hL (lq_mem hq)) (k hσ hx hl (oks_cons (hl _ (lq_mem hq)) hs) w0 hg A mc ms p l e s m args below meth c C H locs lsA cs ss hc hz hP hD hS hL)
theorem x_istore_n {j' : Fin 4} {j : Nat} {x : Int} {ls' : List (Nat × Vq)} (hd : decode (cd μ) pc = .ok (.istore_n j', 1)) (hi : (j' : Nat) = j) (hn : j < mL μ) (he : stl j (vI x) ls = ls') (k : WD G μ (pc + 1) ls' (st) w rc rs Q) : WD G μ pc ls (vI x :: st) w rc rs Q := by
  intro hσ hx hl hs w0 hg A mc ms p l e s m args below meth c C H locs lsA cs ss hc hz hP hD hS hL
  subst he
  exact lv_istore_n C.1 C.2.1 hd hi hL hn (asq_stl (i := j) (v := vI x) hl) (fun lsA' hL' => k hσ hx (okl_stl hl hs.hd) hs.tl w0 hg A mc ms p l e s m args below meth c C H locs lsA' cs ss hc hz hP hD hS hL')
theorem x_istore {j : Nat} {x : Int} {ls' : List (Nat × Vq)} (hd : decode (cd μ) pc = .ok (.istore j, 2))  (hn : j < mL μ) (he : stl j (vI x) ls = ls') (k : WD G μ (pc + 2) ls' (st) w rc rs Q) : WD G μ pc ls (vI x :: st) w rc rs Q := by
  intro hσ hx hl hs w0 hg A mc ms p l e s m args below meth c C H locs lsA cs ss hc hz hP hD hS hL
  subst he
  exact lv_istore C.1 C.2.1 hd hL hn (asq_stl (i := j) (v := vI x) hl) (fun lsA' hL' => k hσ hx (okl_stl hl hs.hd) hs.tl w0 hg A mc ms p l e s m args below meth c C H locs lsA' cs ss hc hz hP hD hS hL')
theorem x_lstore_n {j' : Fin 4} {j : Nat} {x : Int} {ls' : List (Nat × Vq)} (hd : decode (cd μ) pc = .ok (.lstore_n j', 1)) (hi : (j' : Nat) = j) (hn : j + 1 < mL μ) (he : stw j (vL x) ls = ls') (k : WD G μ (pc + 1) ls' (st) w rc rs Q) : WD G μ pc ls (vL x :: st) w rc rs Q := by
  intro hσ hx hl hs w0 hg A mc ms p l e s m args below meth c C H locs lsA cs ss hc hz hP hD hS hL
  subst he
  exact lv_lstore_n C.1 C.2.1 hd hi hL hn (asq_stw (i := j) (v := vL x) hl) (fun lsA' hL' => k hσ hx (okl_stw hl hs.hd) hs.tl w0 hg A mc ms p l e s m args below meth c C H locs lsA' cs ss hc hz hP hD hS hL')
theorem x_lstore {j : Nat} {x : Int} {ls' : List (Nat × Vq)} (hd : decode (cd μ) pc = .ok (.lstore j, 2))  (hn : j + 1 < mL μ) (he : stw j (vL x) ls = ls') (k : WD G μ (pc + 2) ls' (st) w rc rs Q) : WD G μ pc ls (vL x :: st) w rc rs Q := by
  intro hσ hx hl hs w0 hg A mc ms p l e s m args below meth c C H locs lsA cs ss hc hz hP hD hS hL
  subst he
  exact lv_lstore C.1 C.2.1 hd hL hn (asq_stw (i := j) (v := vL x) hl) (fun lsA' hL' => k hσ hx (okl_stw hl hs.hd) hs.tl w0 hg A mc ms p l e s m args below meth c C H locs lsA' cs ss hc hz hP hD hS hL')
theorem x_dstore_n {j' : Fin 4} {j : Nat} {x : UInt64} {ls' : List (Nat × Vq)} (hd : decode (cd μ) pc = .ok (.dstore_n j', 1)) (hi : (j' : Nat) = j) (hn : j + 1 < mL μ) (he : stw j (vD x) ls = ls') (k : WD G μ (pc + 1) ls' (st) w rc rs Q) : WD G μ pc ls (vD x :: st) w rc rs Q := by
  intro hσ hx hl hs w0 hg A mc ms p l e s m args below meth c C H locs lsA cs ss hc hz hP hD hS hL
  subst he
  exact lv_dstore_n C.1 C.2.1 hd hi hL hn (asq_stw (i := j) (v := vD x) hl) (fun lsA' hL' => k hσ hx (okl_stw hl hs.hd) hs.tl w0 hg A mc ms p l e s m args below meth c C H locs lsA' cs ss hc hz hP hD hS hL')
theorem x_dstore {j : Nat} {x : UInt64} {ls' : List (Nat × Vq)} (hd : decode (cd μ) pc = .ok (.dstore j, 2))  (hn : j + 1 < mL μ) (he : stw j (vD x) ls = ls') (k : WD G μ (pc + 2) ls' (st) w rc rs Q) : WD G μ pc ls (vD x :: st) w rc rs Q := by
  intro hσ hx hl hs w0 hg A mc ms p l e s m args below meth c C H locs lsA cs ss hc hz hP hD hS hL
  subst he
  exact lv_dstore C.1 C.2.1 hd hL hn (asq_stw (i := j) (v := vD x) hl) (fun lsA' hL' => k hσ hx (okl_stw hl hs.hd) hs.tl w0 hg A mc ms p l e s m args below meth c C H locs lsA' cs ss hc hz hP hD hS hL')
theorem x_astore_n {j' : Fin 4} {j : Nat} {x : Nat} {ls' : List (Nat × Vq)} (hd : decode (cd μ) pc = .ok (.astore_n j', 1)) (hi : (j' : Nat) = j) (hn : j < mL μ) (he : stl j (vR x) ls = ls') (k : WD G μ (pc + 1) ls' (st) w rc rs Q) : WD G μ pc ls (vR x :: st) w rc rs Q := by
  intro hσ hx hl hs w0 hg A mc ms p l e s m args below meth c C H locs lsA cs ss hc hz hP hD hS hL
  subst he
  exact lv_astore_n C.1 C.2.1 hd hi hL hn (asq_stl (i := j) (v := vR x) hl) (fun lsA' hL' => k hσ hx (okl_stl hl hs.hd) hs.tl w0 hg A mc ms p l e s m args below meth c C H locs lsA' cs ss hc hz hP hD hS hL')
theorem x_astore {j : Nat} {x : Nat} {ls' : List (Nat × Vq)} (hd : decode (cd μ) pc = .ok (.astore j, 2))  (hn : j < mL μ) (he : stl j (vR x) ls = ls') (k : WD G μ (pc + 2) ls' (st) w rc rs Q) : WD G μ pc ls (vR x :: st) w rc rs Q := by
  intro hσ hx hl hs w0 hg A mc ms p l e s m args below meth c C H locs lsA cs ss hc hz hP hD hS hL
  subst he
  exact lv_astore C.1 C.2.1 hd hL hn (asq_stl (i := j) (v := vR x) hl) (fun lsA' hL' => k hσ hx (okl_stl hl hs.hd) hs.tl w0 hg A mc ms p l e s m args below meth c C H locs lsA' cs ss hc hz hP hD hS hL')
theorem x_iinc {j : Nat} {n x : Int} {ls' : List (Nat × Vq)} (hd : decode (cd μ) pc = .ok (.iinc j n, 3)) (hq : lq j ls = some (vI x)) (ho : inR (x + n)) (hn : j < mL μ) (he : stl j (vI (x + n)) ls = ls') (k : WD G μ (pc + 3) ls' (st) w rc rs Q) : WD G μ pc ls (st) w rc rs Q := by
  intro hσ hx hl hs w0 hg A mc ms p l e s m args below meth c C H locs lsA cs ss hc hz hP hD hS hL
  subst he
  obtain ⟨i, hi⟩ := List.getElem?_of_mem (List.mem_map.mpr ⟨(j, vI x), lq_mem hq, rfl⟩ : (j, cv G (vI x)) ∈ asq G ls)
  exact lv_iinc C.1 C.2.1 hd hL hi (qi_add x n) hn (asq_stl (v := vI (x + n)) hl) (fun lsA' hL' => k hσ hx (okl_stl (v := vI (x + n)) hl ho) hs w0 hg A mc ms p l e s m args below meth c C H locs lsA' cs ss hc hz hP hD hS hL')
theorem x_iadd {a b : Int} (hd : decode (cd μ) pc = .ok (.iadd, 1)) (ho : inR (a + b)) (k : WD G μ (pc + 1) ls (vI (a + b) :: st) w rc rs Q) : WD G μ pc ls (vI b :: vI a :: st) w rc rs Q := by
  intro hσ hx hl hs w0 hg A mc ms p l e s m args below meth c C H locs lsA cs ss hc hz hP hD hS hL
  refine lv_iadd C.1 C.2.1 hd ?_
  rw [qi_add]
  exact (k hσ hx hl (oks_cons (v := vI (a + b)) ho hs.tl.tl) w0 hg A mc ms p l e s m args below meth c C H locs lsA cs ss hc hz hP hD hS hL)
theorem x_isub {a b : Int} (hd : decode (cd μ) pc = .ok (.isub, 1)) (ho : inR (a - b)) (k : WD G μ (pc + 1) ls (vI (a - b) :: st) w rc rs Q) : WD G μ pc ls (vI b :: vI a :: st) w rc rs Q := by
  intro hσ hx hl hs w0 hg A mc ms p l e s m args below meth c C H locs lsA cs ss hc hz hP hD hS hL
  refine lv_isub C.1 C.2.1 hd ?_
  rw [qi_sub]
  exact (k hσ hx hl (oks_cons (v := vI (a - b)) ho hs.tl.tl) w0 hg A mc ms p l e s m args below meth c C H locs lsA cs ss hc hz hP hD hS hL)
theorem x_imul {a b : Int} (hd : decode (cd μ) pc = .ok (.imul, 1)) (ho : inR (a * b)) (k : WD G μ (pc + 1) ls (vI (a * b) :: st) w rc rs Q) : WD G μ pc ls (vI b :: vI a :: st) w rc rs Q := by
  intro hσ hx hl hs w0 hg A mc ms p l e s m args below meth c C H locs lsA cs ss hc hz hP hD hS hL
  refine lv_imul C.1 C.2.1 hd ?_
  rw [qi_mul]
  exact (k hσ hx hl (oks_cons (v := vI (a * b)) ho hs.tl.tl) w0 hg A mc ms p l e s m args below meth c C H locs lsA cs ss hc hz hP hD hS hL)
theorem x_ladd {a b : Int} (hd : decode (cd μ) pc = .ok (.ladd, 1)) (ho : inL (a + b)) (k : WD G μ (pc + 1) ls (vL (a + b) :: st) w rc rs Q) : WD G μ pc ls (vL b :: vL a :: st) w rc rs Q := by
  intro hσ hx hl hs w0 hg A mc ms p l e s m args below meth c C H locs lsA cs ss hc hz hP hD hS hL
  refine lv_ladd C.1 C.2.1 hd ?_
  rw [ql_add]
  exact (k hσ hx hl (oks_cons (v := vL (a + b)) ho hs.tl.tl) w0 hg A mc ms p l e s m args below meth c C H locs lsA cs ss hc hz hP hD hS hL)
theorem x_lmul {a b : Int} (hd : decode (cd μ) pc = .ok (.lmul, 1)) (ho : inL (a * b)) (k : WD G μ (pc + 1) ls (vL (a * b) :: st) w rc rs Q) : WD G μ pc ls (vL b :: vL a :: st) w rc rs Q := by
  intro hσ hx hl hs w0 hg A mc ms p l e s m args below meth c C H locs lsA cs ss hc hz hP hD hS hL
  refine lv_lmul C.1 C.2.1 hd ?_
  rw [ql_mul]
  exact (k hσ hx hl (oks_cons (v := vL (a * b)) ho hs.tl.tl) w0 hg A mc ms p l e s m args below meth c C H locs lsA cs ss hc hz hP hD hS hL)
theorem x_ineg {a : Int} (hd : decode (cd μ) pc = .ok (.ineg, 1)) (ho : inR (-a)) (k : WD G μ (pc + 1) ls (vI (-a) :: st) w rc rs Q) : WD G μ pc ls (vI a :: st) w rc rs Q := by
  intro hσ hx hl hs w0 hg A mc ms p l e s m args below meth c C H locs lsA cs ss hc hz hP hD hS hL
  refine lv_ineg C.1 C.2.1 hd ?_
  rw [qi_neg]
  exact (k hσ hx hl (oks_cons (v := vI (-a)) ho hs.tl) w0 hg A mc ms p l e s m args below meth c C H locs lsA cs ss hc hz hP hD hS hL)
theorem x_idiv {a b : Int} (hd : decode (cd μ) pc = .ok (.idiv, 1)) (hb : b ≠ 0) (ho : inR (a.tdiv b)) (k : WD G μ (pc + 1) ls (vI (a.tdiv b) :: st) w rc rs Q) : WD G μ pc ls (vI b :: vI a :: st) w rc rs Q := by
  intro hσ hx hl hs w0 hg A mc ms p l e s m args below meth c C H locs lsA cs ss hc hz hP hD hS hL
  refine lv_idiv C.1 C.2.1 hd (fun h => hb ((qi_eq (b := 0) (show inR b from hs.hd) (by omega)).mp h)) ?_
  rw [qi_div (show inR a from hs.tl.hd) (show inR b from hs.hd)]
  exact (k hσ hx hl (oks_cons (v := vI (a.tdiv b)) ho hs.tl.tl) w0 hg A mc ms p l e s m args below meth c C H locs lsA cs ss hc hz hP hD hS hL)
theorem x_irem {a b : Int} (hd : decode (cd μ) pc = .ok (.irem, 1)) (hb : b ≠ 0) (ho : inR (a.tmod b)) (k : WD G μ (pc + 1) ls (vI (a.tmod b) :: st) w rc rs Q) : WD G μ pc ls (vI b :: vI a :: st) w rc rs Q := by
  intro hσ hx hl hs w0 hg A mc ms p l e s m args below meth c C H locs lsA cs ss hc hz hP hD hS hL
  refine lv_irem C.1 C.2.1 hd (fun h => hb ((qi_eq (b := 0) (show inR b from hs.hd) (by omega)).mp h)) ?_
  rw [qi_rem (show inR a from hs.tl.hd) (show inR b from hs.hd)]
  exact (k hσ hx hl (oks_cons (v := vI (a.tmod b)) ho hs.tl.tl) w0 hg A mc ms p l e s m args below meth c C H locs lsA cs ss hc hz hP hD hS hL)
theorem x_idivn {a b : Int} (hd : decode (cd μ) pc = .ok (.idiv, 1)) (ha : 0 ≤ a) (hb0 : 0 < b) (k : WD G μ (pc + 1) ls (vI (a / b) :: st) w rc rs Q) : WD G μ pc ls (vI b :: vI a :: st) w rc rs Q := by
  intro hσ hx hl hs w0 hg A mc ms p l e s m args below meth c C H locs lsA cs ss hc hz hP hD hS hL
  have h1 := q_div_le ha hb0
  have h2 : inR a := hs.tl.hd
  exact x_idiv hd (by omega) (by rw [q_div_nn ha hb0]; omega) (by rw [q_div_nn ha hb0]; exact k) hσ hx hl hs w0 hg A mc ms p l e s m args below meth c C H locs lsA cs ss hc hz hP hD hS hL
theorem x_iremn {a b : Int} (hd : decode (cd μ) pc = .ok (.irem, 1)) (ha : 0 ≤ a) (hb0 : 0 < b) (k : WD G μ (pc + 1) ls (vI (a % b) :: st) w rc rs Q) : WD G μ pc ls (vI b :: vI a :: st) w rc rs Q := by
  intro hσ hx hl hs w0 hg A mc ms p l e s m args below meth c C H locs lsA cs ss hc hz hP hD hS hL
  have h1 := q_mod_le ha hb0
  have h2 : inR a := hs.tl.hd
  exact x_irem hd (by omega) (by rw [q_mod_nn ha hb0]; omega) (by rw [q_mod_nn ha hb0]; exact k) hσ hx hl hs w0 hg A mc ms p l e s m args below meth c C H locs lsA cs ss hc hz hP hD hS hL
theorem x_ldiv {a b : Int} (hd : decode (cd μ) pc = .ok (.ldiv, 1)) (hb : b ≠ 0) (ho : inL (a.tdiv b)) (k : WD G μ (pc + 1) ls (vL (a.tdiv b) :: st) w rc rs Q) : WD G μ pc ls (vL b :: vL a :: st) w rc rs Q := by
  intro hσ hx hl hs w0 hg A mc ms p l e s m args below meth c C H locs lsA cs ss hc hz hP hD hS hL
  refine lv_ldiv C.1 C.2.1 hd (fun h => hb ((ql_eq (b := 0) (show inL b from hs.hd) (by omega)).mp h)) ?_
  rw [ql_div (show inL a from hs.tl.hd) (show inL b from hs.hd)]
  exact (k hσ hx hl (oks_cons (v := vL (a.tdiv b)) ho hs.tl.tl) w0 hg A mc ms p l e s m args below meth c C H locs lsA cs ss hc hz hP hD hS hL)
theorem x_lrem {a b : Int} (hd : decode (cd μ) pc = .ok (.lrem, 1)) (hb : b ≠ 0) (ho : inL (a.tmod b)) (k : WD G μ (pc + 1) ls (vL (a.tmod b) :: st) w rc rs Q) : WD G μ pc ls (vL b :: vL a :: st) w rc rs Q := by
  intro hσ hx hl hs w0 hg A mc ms p l e s m args below meth c C H locs lsA cs ss hc hz hP hD hS hL
  refine lv_lrem C.1 C.2.1 hd (fun h => hb ((ql_eq (b := 0) (show inL b from hs.hd) (by omega)).mp h)) ?_
  rw [ql_rem (show inL a from hs.tl.hd) (show inL b from hs.hd)]
  exact (k hσ hx hl (oks_cons (v := vL (a.tmod b)) ho hs.tl.tl) w0 hg A mc ms p l e s m args below meth c C H locs lsA cs ss hc hz hP hD hS hL)
theorem x_ldivn {a b : Int} (hd : decode (cd μ) pc = .ok (.ldiv, 1)) (ha : 0 ≤ a) (hb0 : 0 < b) (k : WD G μ (pc + 1) ls (vL (a / b) :: st) w rc rs Q) : WD G μ pc ls (vL b :: vL a :: st) w rc rs Q := by
  intro hσ hx hl hs w0 hg A mc ms p l e s m args below meth c C H locs lsA cs ss hc hz hP hD hS hL
  have h1 := q_div_le ha hb0
  have h2 : inL a := hs.tl.hd
  exact x_ldiv hd (by omega) (by rw [q_div_nn ha hb0]; omega) (by rw [q_div_nn ha hb0]; exact k) hσ hx hl hs w0 hg A mc ms p l e s m args below meth c C H locs lsA cs ss hc hz hP hD hS hL
theorem x_lremn {a b : Int} (hd : decode (cd μ) pc = .ok (.lrem, 1)) (ha : 0 ≤ a) (hb0 : 0 < b) (k : WD G μ (pc + 1) ls (vL (a % b) :: st) w rc rs Q) : WD G μ pc ls (vL b :: vL a :: st) w rc rs Q := by
  intro hσ hx hl hs w0 hg A mc ms p l e s m args below meth c C H locs lsA cs ss hc hz hP hD hS hL
  have h1 := q_mod_le ha hb0
  have h2 : inL a := hs.tl.hd
  exact x_lrem hd (by omega) (by rw [q_mod_nn ha hb0]; omega) (by rw [q_mod_nn ha hb0]; exact k) hσ hx hl hs w0 hg A mc ms p l e s m args below meth c C H locs lsA cs ss hc hz hP hD hS hL
theorem x_i2l {a : Int} (hd : decode (cd μ) pc = .ok (.i2l, 1)) (k : WD G μ (pc + 1) ls (vL a :: st) w rc rs Q) : WD G μ pc ls (vI a :: st) w rc rs Q := by
  intro hσ hx hl hs w0 hg A mc ms p l e s m args below meth c C H locs lsA cs ss hc hz hP hD hS hL
  have ha : inR a := hs.hd
  exact lv_i2l C.1 C.2.1 hd (qi_i2l ha) (k hσ hx hl (oks_cons (v := vL a) (show inL a by omega) hs.tl) w0 hg A mc ms p l e s m args below meth c C H locs lsA cs ss hc hz hP hD hS hL)
theorem x_l2i {a : Int} (hd : decode (cd μ) pc = .ok (.l2i, 1)) (ho : inR a) (k : WD G μ (pc + 1) ls (vI a :: st) w rc rs Q) : WD G μ pc ls (vL a :: st) w rc rs Q := by
  intro hσ hx hl hs w0 hg A mc ms p l e s m args below meth c C H locs lsA cs ss hc hz hP hD hS hL
  exact lv_l2i C.1 C.2.1 hd (ql_l2i a) (k hσ hx hl (oks_cons (v := vI a) ho hs.tl) w0 hg A mc ms p l e s m args below meth c C H locs lsA cs ss hc hz hP hD hS hL)
theorem x_i2d {a : Int} (hd : decode (cd μ) pc = .ok (.i2d, 1)) (k : WD G μ (pc + 1) ls (vD (FP.i2d (Int32.ofInt a)) :: st) w rc rs Q) : WD G μ pc ls (vI a :: st) w rc rs Q := by
  intro hσ hx hl hs w0 hg A mc ms p l e s m args below meth c C H locs lsA cs ss hc hz hP hD hS hL
  exact lv_i2d C.1 C.2.1 hd (k hσ hx hl (oks_cons (v := vD _) trivial hs.tl) w0 hg A mc ms p l e s m args below meth c C H locs lsA cs ss hc hz hP hD hS hL)
theorem x_dadd {a b : UInt64} (hd : decode (cd μ) pc = .ok (.dadd, 1)) (ho : vf_n64 (FP.dadd a b)) (k : WD G μ (pc + 1) ls (vD (FP.dadd a b) :: st) w rc rs Q) : WD G μ pc ls (vD b :: vD a :: st) w rc rs Q := by
  intro hσ hx hl hs w0 hg A mc ms p l e s m args below meth c C H locs lsA cs ss hc hz hP hD hS hL
  exact lv_dadd C.1 C.2.1 hd ho (k hσ hx hl (oks_cons (v := vD _) trivial hs.tl.tl) w0 hg A mc ms p l e s m args below meth c C H locs lsA cs ss hc hz hP hD hS hL)
theorem x_dsub {a b : UInt64} (hd : decode (cd μ) pc = .ok (.dsub, 1)) (ho : vf_n64 (FP.dsub a b)) (k : WD G μ (pc + 1) ls (vD (FP.dsub a b) :: st) w rc rs Q) : WD G μ pc ls (vD b :: vD a :: st) w rc rs Q := by
  intro hσ hx hl hs w0 hg A mc ms p l e s m args below meth c C H locs lsA cs ss hc hz hP hD hS hL
  exact lv_dsub C.1 C.2.1 hd ho (k hσ hx hl (oks_cons (v := vD _) trivial hs.tl.tl) w0 hg A mc ms p l e s m args below meth c C H locs lsA cs ss hc hz hP hD hS hL)
theorem x_dmul {a b : UInt64} (hd : decode (cd μ) pc = .ok (.dmul, 1)) (ho : vf_n64 (FP.dmul a b)) (k : WD G μ (pc + 1) ls (vD (FP.dmul a b) :: st) w rc rs Q) : WD G μ pc ls (vD b :: vD a :: st) w rc rs Q := by
  intro hσ hx hl hs w0 hg A mc ms p l e s m args below meth c C H locs lsA cs ss hc hz hP hD hS hL
  exact lv_dmul C.1 C.2.1 hd ho (k hσ hx hl (oks_cons (v := vD _) trivial hs.tl.tl) w0 hg A mc ms p l e s m args below meth c C H locs lsA cs ss hc hz hP hD hS hL)
theorem x_ddiv {a b : UInt64} (hd : decode (cd μ) pc = .ok (.ddiv, 1)) (ho : vf_n64 (FP.ddiv a b)) (k : WD G μ (pc + 1) ls (vD (FP.ddiv a b) :: st) w rc rs Q) : WD G μ pc ls (vD b :: vD a :: st) w rc rs Q := by
  intro hσ hx hl hs w0 hg A mc ms p l e s m args below meth c C H locs lsA cs ss hc hz hP hD hS hL
  exact lv_ddiv C.1 C.2.1 hd ho (k hσ hx hl (oks_cons (v := vD _) trivial hs.tl.tl) w0 hg A mc ms p l e s m args below meth c C H locs lsA cs ss hc hz hP hD hS hL)
theorem x_dcmp {a b : UInt64} {op : CmpOp} (hd : decode (cd μ) pc = .ok (.dcmp op, 1)) (k : WD G μ (pc + 1) ls (vI (dcq op a b) :: st) w rc rs Q) : WD G μ pc ls (vD b :: vD a :: st) w rc rs Q := by
  intro hσ hx hl hs w0 hg A mc ms p l e s m args below meth c C H locs lsA cs ss hc hz hP hD hS hL
  refine lv_dcmp C.1 C.2.1 hd ?_
  rw [show Op.cmpValue (FP.dcmp a b) op = Int32.ofInt (dcq op a b) from (Int32.ofInt_toInt _).symm]
  exact (k hσ hx hl (oks_cons (v := vI _) (dcq_in op a b) hs.tl.tl) w0 hg A mc ms p l e s m args below meth c C H locs lsA cs ss hc hz hP hD hS hL)
theorem x_lcmp {a b : Int} (hd : decode (cd μ) pc = .ok (.lcmp, 1)) (k : WD G μ (pc + 1) ls (vI (lcq a b) :: st) w rc rs Q) : WD G μ pc ls (vL b :: vL a :: st) w rc rs Q := by
  intro hσ hx hl hs w0 hg A mc ms p l e s m args below meth c C H locs lsA cs ss hc hz hP hD hS hL
  refine W.lcmp C.1 C.2.1 hd ?_
  have ha : inL a := hs.tl.hd
  have hb : inL b := hs.hd
  rw [show lg_cmp (Int64.ofInt a) (Int64.ofInt b) = Int32.ofInt (lcq a b) by
    unfold lg_cmp lcq
    simp only [gt_iff_lt, ql_lt hb ha, ql_eq ha hb]
    split
    · rfl
    · split <;> rfl]
  exact (k hσ hx hl (oks_cons (v := vI _) (lcq_in a b) hs.tl.tl) w0 hg A mc ms p l e s m args below meth c C H locs lsA cs ss hc hz hP hD hS hL)
theorem x_iand255 {a : Int} (hd : decode (cd μ) pc = .ok (.iand, 1)) (k : WD G μ (pc + 1) ls (vI (a % 256) :: st) w rc rs Q) : WD G μ pc ls (vI 255 :: vI a :: st) w rc rs Q := by
  intro hσ hx hl hs w0 hg A mc ms p l e s m args below meth c C H locs lsA cs ss hc hz hP hD hS hL
  refine lv_iand C.1 C.2.1 hd ?_
  rw [q_and255 (show inR a from hs.tl.hd)]
  exact (k hσ hx hl (oks_cons (v := vI (a % 256)) (show inR (a % 256) by omega) hs.tl.tl) w0 hg A mc ms p l e s m args below meth c C H locs lsA cs ss hc hz hP hD hS hL)
theorem x_ishr {a b : Int} (hd : decode (cd μ) pc = .ok (.ishr, 1)) (h0 : 0 ≤ b) (h1 : b < 32) (ho : inR (a / 2 ^ b.toNat)) (k : WD G μ (pc + 1) ls (vI (a / 2 ^ b.toNat) :: st) w rc rs Q) : WD G μ pc ls (vI b :: vI a :: st) w rc rs Q := by
  intro hσ hx hl hs w0 hg A mc ms p l e s m args below meth c C H locs lsA cs ss hc hz hP hD hS hL
  refine lv_ishr C.1 C.2.1 hd ?_
  rw [q_shr (show inR a from hs.tl.hd) h0 h1]
  exact (k hσ hx hl (oks_cons (v := vI _) ho hs.tl.tl) w0 hg A mc ms p l e s m args below meth c C H locs lsA cs ss hc hz hP hD hS hL)
theorem x_i2b {a : Int} (hd : decode (cd μ) pc = .ok (.i2b, 1)) (k : WD G μ (pc + 1) ls (vI ((a + 128) % 256 - 128) :: st) w rc rs Q) : WD G μ pc ls (vI a :: st) w rc rs Q := by
  intro hσ hx hl hs w0 hg A mc ms p l e s m args below meth c C H locs lsA cs ss hc hz hP hD hS hL
  exact lv_i2b C.1 C.2.1 hd q_i2b (k hσ hx hl (oks_cons (v := vI ((a + 128) % 256 - 128)) (show inR _ by omega) hs.tl) w0 hg A mc ms p l e s m args below meth c C H locs lsA cs ss hc hz hP hD hS hL)
theorem x_i2c {a : Int} (hd : decode (cd μ) pc = .ok (.i2c, 1)) (k : WD G μ (pc + 1) ls (vI (a % 65536) :: st) w rc rs Q) : WD G μ pc ls (vI a :: st) w rc rs Q := by
  intro hσ hx hl hs w0 hg A mc ms p l e s m args below meth c C H locs lsA cs ss hc hz hP hD hS hL
  exact lv_i2c C.1 C.2.1 hd (q_i2c (show inR a from hs.hd)) (k hσ hx hl (oks_cons (v := vI (a % 65536)) (show inR _ by omega) hs.tl) w0 hg A mc ms p l e s m args below meth c C H locs lsA cs ss hc hz hP hD hS hL)
theorem x_dup {v : Vq} (hd : decode (cd μ) pc = .ok (.dup, 1)) (hv : ct v = 1) (k : WD G μ (pc + 1) ls (v :: v :: st) w rc rs Q) : WD G μ pc ls (v :: st) w rc rs Q := by
  intro hσ hx hl hs w0 hg A mc ms p l e s m args below meth c C H locs lsA cs ss hc hz hP hD hS hL
  exact lv_dup C.1 C.2.1 hd (by rw [cv_ct G hs.hd, hv]) (k hσ hx hl (oks_cons hs.hd hs) w0 hg A mc ms p l e s m args below meth c C H locs lsA cs ss hc hz hP hD hS hL)
theorem x_dup2 {v u0 : Vq} (hd : decode (cd μ) pc = .ok (.dup2, 1)) (hv : ct v = 1) (hw : ct u0 = 1) (k : WD G μ (pc + 1) ls (v :: u0 :: v :: u0 :: st) w rc rs Q) : WD G μ pc ls (v :: u0 :: st) w rc rs Q := by
  intro hσ hx hl hs w0 hg A mc ms p l e s m args below meth c C H locs lsA cs ss hc hz hP hD hS hL
  exact lv_dup2_11 C.1 C.2.1 hd (by rw [cv_ct G hs.hd, hv]) (by rw [cv_ct G hs.tl.hd, hw]) (k hσ hx hl (oks_cons hs.hd (oks_cons hs.tl.hd hs)) w0 hg A mc ms p l e s m args below meth c C H locs lsA cs ss hc hz hP hD hS hL)
theorem x_pop {v : Vq} (hd : decode (cd μ) pc = .ok (.pop, 1)) (hv : ct v = 1) (k : WD G μ (pc + 1) ls (st) w rc rs Q) : WD G μ pc ls (v :: st) w rc rs Q := by
  intro hσ hx hl hs w0 hg A mc ms p l e s m args below meth c C H locs lsA cs ss hc hz hP hD hS hL
  exact lv_pop C.1 C.2.1 hd (by rw [cv_ct G hs.hd, hv]) (k hσ hx hl hs.tl w0 hg A mc ms p l e s m args below meth c C H locs lsA cs ss hc hz hP hD hS hL)
theorem x_goto {off : Int} (tgt : Nat) (hd : decode (cd μ) pc = .ok (.goto off, 3)) (ht : (pc : Int) + off = (tgt : Int)) (k : WD G μ tgt ls st w rc rs Q) : WD G μ pc ls (st) w rc rs Q := by
  intro hσ hx hl hs w0 hg A mc ms p l e s m args below meth c C H locs lsA cs ss hc hz hP hD hS hL
  exact lv_goto C.1 C.2.1 hd ht (k hσ hx hl hs w0 hg A mc ms p l e s m args below meth c C H locs lsA cs ss hc hz hP hD hS hL)
theorem x_icmp_eq {a b : Int} {off : Int} (tgt : Nat) (hd : decode (cd μ) pc = .ok (.if_icmp .eq off, 3)) (ht : (pc : Int) + off = (tgt : Int)) (k : (a = b → WD G μ tgt ls st w rc rs Q) ∧ (¬ a = b → WD G μ (pc + 3) ls st w rc rs Q)) : WD G μ pc ls (vI b :: vI a :: st) w rc rs Q := by
  intro hσ hx hl hs w0 hg A mc ms p l e s m args below meth c C H locs lsA cs ss hc hz hP hD hS hL
  have ha : inR a := hs.tl.hd
  have hb : inR b := hs.hd
  exact lv_icmp_eq C.1 C.2.1 hd ht (fun h => k.1 ((qi_eq ha hb).mp h) hσ hx hl hs.tl.tl w0 hg A mc ms p l e s m args below meth c C H locs lsA cs ss hc hz hP hD hS hL) (fun h => k.2 (fun z => h ((qi_eq ha hb).mpr z)) hσ hx hl hs.tl.tl w0 hg A mc ms p l e s m args below meth c C H locs lsA cs ss hc hz hP hD hS hL)
theorem x_if_eq {a : Int} {off : Int} (tgt : Nat) (hd : decode (cd μ) pc = .ok (.ifCond .eq off, 3)) (ht : (pc : Int) + off = (tgt : Int)) (k : (a = 0 → WD G μ tgt ls st w rc rs Q) ∧ (¬ a = 0 → WD G μ (pc + 3) ls st w rc rs Q)) : WD G μ pc ls (vI a :: st) w rc rs Q := by
  intro hσ hx hl hs w0 hg A mc ms p l e s m args below meth c C H locs lsA cs ss hc hz hP hD hS hL
  have ha : inR a := hs.hd
  have hb : inR (0 : Int) := by omega
  exact lv_if_eq C.1 C.2.1 hd ht (fun h => k.1 ((qi_eq ha hb).mp h) hσ hx hl hs.tl w0 hg A mc ms p l e s m args below meth c C H locs lsA cs ss hc hz hP hD hS hL) (fun h => k.2 (fun z => h ((qi_eq ha hb).mpr z)) hσ hx hl hs.tl w0 hg A mc ms p l e s m args below meth c C H locs lsA cs ss hc hz hP hD hS hL)
theorem x_icmp_ne {a b : Int} {off : Int} (tgt : Nat) (hd : decode (cd μ) pc = .ok (.if_icmp .ne off, 3)) (ht : (pc : Int) + off = (tgt : Int)) (k : (¬ a = b → WD G μ tgt ls st w rc rs Q) ∧ (a = b → WD G μ (pc + 3) ls st w rc rs Q)) : WD G μ pc ls (vI b :: vI a :: st) w rc rs Q := by
  intro hσ hx hl hs w0 hg A mc ms p l e s m args below meth c C H locs lsA cs ss hc hz hP hD hS hL
  have ha : inR a := hs.tl.hd
  have hb : inR b := hs.hd
  exact lv_icmp_ne C.1 C.2.1 hd ht (fun h => k.1 ((not_congr (qi_eq ha hb)).mp h) hσ hx hl hs.tl.tl w0 hg A mc ms p l e s m args below meth c C H locs lsA cs ss hc hz hP hD hS hL) (fun h => k.2 ((qi_eq ha hb).mp h) hσ hx hl hs.tl.tl w0 hg A mc ms p l e s m args below meth c C H locs lsA cs ss hc hz hP hD hS hL)
theorem x_if_ne {a : Int} {off : Int} (tgt : Nat) (hd : decode (cd μ) pc = .ok (.ifCond .ne off, 3)) (ht : (pc : Int) + off = (tgt : Int)) (k : (¬ a = 0 → WD G μ tgt ls st w rc rs Q) ∧ (a = 0 → WD G μ (pc + 3) ls st w rc rs Q)) : WD G μ pc ls (vI a :: st) w rc rs Q := by
  intro hσ hx hl hs w0 hg A mc ms p l e s m args below meth c C H locs lsA cs ss hc hz hP hD hS hL
  have ha : inR a := hs.hd
  have hb : inR (0 : Int) := by omega
  exact lv_if_ne C.1 C.2.1 hd ht (fun h => k.1 ((not_congr (qi_eq ha hb)).mp h) hσ hx hl hs.tl w0 hg A mc ms p l e s m args below meth c C H locs lsA cs ss hc hz hP hD hS hL) (fun h => k.2 ((qi_eq ha hb).mp h) hσ hx hl hs.tl w0 hg A mc ms p l e s m args below meth c C H locs lsA cs ss hc hz hP hD hS hL)
theorem x_icmp_lt {a b : Int} {off : Int} (tgt : Nat) (hd : decode (cd μ) pc = .ok (.if_icmp .lt off, 3)) (ht : (pc : Int) + off = (tgt : Int)) (k : (a < b → WD G μ tgt ls st w rc rs Q) ∧ (¬ a < b → WD G μ (pc + 3) ls st w rc rs Q)) : WD G μ pc ls (vI b :: vI a :: st) w rc rs Q := by
  intro hσ hx hl hs w0 hg A mc ms p l e s m args below meth c C H locs lsA cs ss hc hz hP hD hS hL
  have ha : inR a := hs.tl.hd
  have hb : inR b := hs.hd
  exact lv_icmp_lt C.1 C.2.1 hd ht (fun h => k.1 ((qi_lt ha hb).mp h) hσ hx hl hs.tl.tl w0 hg A mc ms p l e s m args below meth c C H locs lsA cs ss hc hz hP hD hS hL) (fun h => k.2 (fun z => h ((qi_lt ha hb).mpr z)) hσ hx hl hs.tl.tl w0 hg A mc ms p l e s m args below meth c C H locs lsA cs ss hc hz hP hD hS hL)
theorem x_if_lt {a : Int} {off : Int} (tgt : Nat) (hd : decode (cd μ) pc = .ok (.ifCond .lt off, 3)) (ht : (pc : Int) + off = (tgt : Int)) (k : (a < 0 → WD G μ tgt ls st w rc rs Q) ∧ (¬ a < 0 → WD G μ (pc + 3) ls st w rc rs Q)) : WD G μ pc ls (vI a :: st) w rc rs Q := by
  intro hσ hx hl hs w0 hg A mc ms p l e s m args below meth c C H locs lsA cs ss hc hz hP hD hS hL
  have ha : inR a := hs.hd
  have hb : inR (0 : Int) := by omega
  exact lv_if_lt C.1 C.2.1 hd ht (fun h => k.1 ((qi_lt ha hb).mp h) hσ hx hl hs.tl w0 hg A mc ms p l e s m args below meth c C H locs lsA cs ss hc hz hP hD hS hL) (fun h => k.2 (fun z => h ((qi_lt ha hb).mpr z)) hσ hx hl hs.tl w0 hg A mc ms p l e s m args below meth c C H locs lsA cs ss hc hz hP hD hS hL)
theorem x_icmp_ge {a b : Int} {off : Int} (tgt : Nat) (hd : decode (cd μ) pc = .ok (.if_icmp .ge off, 3)) (ht : (pc : Int) + off = (tgt : Int)) (k : (b ≤ a → WD G μ tgt ls st w rc rs Q) ∧ (¬ b ≤ a → WD G μ (pc + 3) ls st w rc rs Q)) : WD G μ pc ls (vI b :: vI a :: st) w rc rs Q := by
  intro hσ hx hl hs w0 hg A mc ms p l e s m args below meth c C H locs lsA cs ss hc hz hP hD hS hL
  have ha : inR a := hs.tl.hd
  have hb : inR b := hs.hd
  exact lv_icmp_ge C.1 C.2.1 hd ht (fun h => k.1 ((qi_le hb ha).mp h) hσ hx hl hs.tl.tl w0 hg A mc ms p l e s m args below meth c C H locs lsA cs ss hc hz hP hD hS hL) (fun h => k.2 (fun z => h ((qi_le hb ha).mpr z)) hσ hx hl hs.tl.tl w0 hg A mc ms p l e s m args below meth c C H locs lsA cs ss hc hz hP hD hS hL)
theorem x_if_ge {a : Int} {off : Int} (tgt : Nat) (hd : decode (cd μ) pc = .ok (.ifCond .ge off, 3)) (ht : (pc : Int) + off = (tgt : Int)) (k : (0 ≤ a → WD G μ tgt ls st w rc rs Q) ∧ (¬ 0 ≤ a → WD G μ (pc + 3) ls st w rc rs Q)) : WD G μ pc ls (vI a :: st) w rc rs Q := by
  intro hσ hx hl hs w0 hg A mc ms p l e s m args below meth c C H locs lsA cs ss hc hz hP hD hS hL
  have ha : inR a := hs.hd
  have hb : inR (0 : Int) := by omega
  exact lv_if_ge C.1 C.2.1 hd ht (fun h => k.1 ((qi_le hb ha).mp h) hσ hx hl hs.tl w0 hg A mc ms p l e s m args below meth c C H locs lsA cs ss hc hz hP hD hS hL) (fun h => k.2 (fun z => h ((qi_le hb ha).mpr z)) hσ hx hl hs.tl w0 hg A mc ms p l e s m args below meth c C H locs lsA cs ss hc hz hP hD hS hL)
theorem x_icmp_gt {a b : Int} {off : Int} (tgt : Nat) (hd : decode (cd μ) pc = .ok (.if_icmp .gt off, 3)) (ht : (pc : Int) + off = (tgt : Int)) (k : (b < a → WD G μ tgt ls st w rc rs Q) ∧ (¬ b < a → WD G μ (pc + 3) ls st w rc rs Q)) : WD G μ pc ls (vI b :: vI a :: st) w rc rs Q := by
  intro hσ hx hl hs w0 hg A mc ms p l e s m args below meth c C H locs lsA cs ss hc hz hP hD hS hL
  have ha : inR a := hs.tl.hd
  have hb : inR b := hs.hd
  exact lv_icmp_gt C.1 C.2.1 hd ht (fun h => k.1 ((qi_lt hb ha).mp h) hσ hx hl hs.tl.tl w0 hg A mc ms p l e s m args below meth c C H locs lsA cs ss hc hz hP hD hS hL) (fun h => k.2 (fun z => h ((qi_lt hb ha).mpr z)) hσ hx hl hs.tl.tl w0 hg A mc ms p l e s m args below meth c C H locs lsA cs ss hc hz hP hD hS hL)
theorem x_if_gt {a : Int} {off : Int} (tgt : Nat) (hd : decode (cd μ) pc = .ok (.ifCond .gt off, 3)) (ht : (pc : Int) + off = (tgt : Int)) (k : (0 < a → WD G μ tgt ls st w rc rs Q) ∧ (¬ 0 < a → WD G μ (pc + 3) ls st w rc rs Q)) : WD G μ pc ls (vI a :: st) w rc rs Q := by
  intro hσ hx hl hs w0 hg A mc ms p l e s m args below meth c C H locs lsA cs ss hc hz hP hD hS hL
  have ha : inR a := hs.hd
  have hb : inR (0 : Int) := by omega
  exact lv_if_gt C.1 C.2.1 hd ht (fun h => k.1 ((qi_lt hb ha).mp h) hσ hx hl hs.tl w0 hg A mc ms p l e s m args below meth c C H locs lsA cs ss hc hz hP hD hS hL) (fun h => k.2 (fun z => h ((qi_lt hb ha).mpr z)) hσ hx hl hs.tl w0 hg A mc ms p l e s m args below meth c C H locs lsA cs ss hc hz hP hD hS hL)
theorem x_icmp_le {a b : Int} {off : Int} (tgt : Nat) (hd : decode (cd μ) pc = .ok (.if_icmp .le off, 3)) (ht : (pc : Int) + off = (tgt : Int)) (k : (a ≤ b → WD G μ tgt ls st w rc rs Q) ∧ (¬ a ≤ b → WD G μ (pc + 3) ls st w rc rs Q)) : WD G μ pc ls (vI b :: vI a :: st) w rc rs Q := by
  intro hσ hx hl hs w0 hg A mc ms p l e s m args below meth c C H locs lsA cs ss hc hz hP hD hS hL
  have ha : inR a := hs.tl.hd
  have hb : inR b := hs.hd
  exact lv_icmp_le C.1 C.2.1 hd ht (fun h => k.1 ((qi_le ha hb).mp h) hσ hx hl hs.tl.tl w0 hg A mc ms p l e s m args below meth c C H locs lsA cs ss hc hz hP hD hS hL) (fun h => k.2 (fun z => h ((qi_le ha hb).mpr z)) hσ hx hl hs.tl.tl w0 hg A mc ms p l e s m args below meth c C H locs lsA cs ss hc hz hP hD hS hL)
theorem x_if_le {a : Int} {off : Int} (tgt : Nat) (hd : decode (cd μ) pc = .ok (.ifCond .le off, 3)) (ht : (pc : Int) + off = (tgt : Int)) (k : (a ≤ 0 → WD G μ tgt ls st w rc rs Q) ∧ (¬ a ≤ 0 → WD G μ (pc + 3) ls st w rc rs Q)) : WD G μ pc ls (vI a :: st) w rc rs Q := by
  intro hσ hx hl hs w0 hg A mc ms p l e s m args below meth c C H locs lsA cs ss hc hz hP hD hS hL
  have ha : inR a := hs.hd
  have hb : inR (0 : Int) := by omega
  exact lv_if_le C.1 C.2.1 hd ht (fun h => k.1 ((qi_le ha hb).mp h) hσ hx hl hs.tl w0 hg A mc ms p l e s m args below meth c C H locs lsA cs ss hc hz hP hD hS hL) (fun h => k.2 (fun z => h ((qi_le ha hb).mpr z)) hσ hx hl hs.tl w0 hg A mc ms p l e s m args below meth c C H locs lsA cs ss hc hz hP hD hS hL)
theorem x_tswIn {a dflt lo hi : Int} {offs : Array Int} {len : Nat} {off : Int} (tgt : Nat) (hd : decode (cd μ) pc = .ok (.tableswitch dflt lo hi offs, len)) (h1 : lo ≤ a) (h2 : a ≤ hi) (ho : offs[(a - lo).toNat]? = some off) (ht : (pc : Int) + off = (tgt : Int)) (k : WD G μ tgt ls st w rc rs Q) : WD G μ pc ls (vI a :: st) w rc rs Q := by
  intro hσ hx hl hs w0 hg A mc ms p l e s m args below meth c C H locs lsA cs ss hc hz hP hD hS hL
  have ha : inR a := hs.hd
  exact lv_tableIn C.1 C.2.1 hd (by rw [toI ha]; omega) (by rw [toI ha]; omega) (by rw [toI ha]; exact ho) ht (k hσ hx hl hs.tl w0 hg A mc ms p l e s m args below meth c C H locs lsA cs ss hc hz hP hD hS hL)
theorem x_tswOut {a dflt lo hi : Int} {offs : Array Int} {len : Nat} (tgt : Nat) (hd : decode (cd μ) pc = .ok (.tableswitch dflt lo hi offs, len)) (h : a < lo ∨ hi < a) (ht : (pc : Int) + dflt = (tgt : Int)) (k : WD G μ tgt ls st w rc rs Q) : WD G μ pc ls (vI a :: st) w rc rs Q := by
  intro hσ hx hl hs w0 hg A mc ms p l e s m args below meth c C H locs lsA cs ss hc hz hP hD hS hL
  have ha : inR a := hs.hd
  exact lv_tableOut C.1 C.2.1 hd (by rw [toI ha]; exact h) ht (k hσ hx hl hs.tl w0 hg A mc ms p l e s m args below meth c C H locs lsA cs ss hc hz hP hD hS hL)
theorem x_lsw {a dflt : Int} {ps : Array (Int × Int)} {len : Nat} {off : Int} (tgt : Nat) (hd : decode (cd μ) pc = .ok (.lookupswitch dflt ps, len)) (hp : (ps.toList.zip (ps.toList.drop 1)).all (fun (a, next) => a.1 < next.1) = true) (ho : Op.lookupswitch.offset ps.toList dflt a = off) (ht : (pc : Int) + off = (tgt : Int)) (k : WD G μ tgt ls st w rc rs Q) : WD G μ pc ls (vI a :: st) w rc rs Q := by
  intro hσ hx hl hs w0 hg A mc ms p l e s m args below meth c C H locs lsA cs ss hc hz hP hD hS hL
  have ha : inR a := hs.hd
  exact lv_lookup C.1 C.2.1 hd hp (by rw [toI ha]; exact ho) ht (k hσ hx hl hs.tl w0 hg A mc ms p l e s m args below meth c C H locs lsA cs ss hc hz hP hD hS hL)
theorem WD.forget {ls' : List (Nat × Vq)} (h : ∀ q ∈ ls', q ∈ ls) (k : WD G μ pc ls' st w rc rs Q) : WD G μ pc ls st w rc rs Q := by
  intro hσ hx hl hs w0 hg A mc ms p l e s m args below meth c C H locs lsA cs ss hc hz hP hD hS hL
  refine k hσ hx (fun q hq => hl q (h q hq)) hs w0 hg A mc ms p l e s m args below meth c C H locs lsA cs ss hc hz hP hD hS ⟨hL.1, hL.2.1, fun q hq => ?_⟩
  obtain ⟨q0, h0, rfl⟩ := List.mem_map.mp hq
  exact hL.2.2 _ (List.mem_map.mpr ⟨q0, h q0 h0, rfl⟩)
theorem x_pick {ls' : List (Nat × Vq)} (is : List Nat) (he : lpk ls is = ls') (k : WD G μ pc ls' st w rc rs Q) : WD G μ pc ls st w rc rs Q := by
  refine WD.forget (fun q hq => ?_) k
  rw [← he] at hq
  obtain ⟨i, -, hi⟩ := List.mem_filterMap.mp hq
  exact List.mem_of_getElem? hi
end XW
