-- one row an instruction, over whole numbers
section RW
variable {μ : Md} {pc : Nat} {ls : List (Nat × Vq)} {st : List Vq} {σ : St} {Q : Option Vq → St → Prop}
theorem r_iconst {n : Int} (hd : decode (cd μ) pc = .ok (.iconst n, 1)) (hn : inR n) (k : WM μ (pc + 1) ls (vI n :: st) σ Q) : WM μ pc ls (st) σ Q := by
  intro hσ hl hs G p l e s m args below meth c C H locs lsA hP hS hL
  exact lv_iconst C.1 C.2.1 hd rfl (k hσ hl (oks_cons (v := vI n) hn hs) G p l e s m args below meth c C H locs lsA hP hS hL)
theorem r_bipush {n : Int} (hd : decode (cd μ) pc = .ok (.bipush n, 2)) (hv : (Int8.ofInt n).toInt32 = Int32.ofInt n) (hn : inR n) (k : WM μ (pc + 2) ls (vI n :: st) σ Q) : WM μ pc ls (st) σ Q := by
  intro hσ hl hs G p l e s m args below meth c C H locs lsA hP hS hL
  exact lv_bipush C.1 C.2.1 hd hv (k hσ hl (oks_cons (v := vI n) hn hs) G p l e s m args below meth c C H locs lsA hP hS hL)
theorem r_sipush {n : Int} (hd : decode (cd μ) pc = .ok (.sipush n, 3)) (hv : (Int16.ofInt n).toInt32 = Int32.ofInt n) (hn : inR n) (k : WM μ (pc + 3) ls (vI n :: st) σ Q) : WM μ pc ls (st) σ Q := by
  intro hσ hl hs G p l e s m args below meth c C H locs lsA hP hS hL
  exact lv_sipush C.1 C.2.1 hd hv (k hσ hl (oks_cons (v := vI n) hn hs) G p l e s m args below meth c C H locs lsA hP hS hL)
theorem r_ldc {i : Nat} {v : Int32} (n : Int) (hd : decode (cd μ) pc = .ok (.ldc i, 2)) (hw : Cond.constant (mn μ).cls i v ∈ UW) (hv : v = Int32.ofInt n) (hn : inR n) (k : WM μ (pc + 2) ls (vI n :: st) σ Q) : WM μ pc ls (st) σ Q := by
  intro hσ hl hs G p l e s m args below meth c C H locs lsA hP hS hL
  subst hv
  exact lv_ldc C.1 C.2.1 C.2.2.2.2.2.1 (C.2.2.2.2.2.2.1 _ hw) hd (k hσ hl (oks_cons (v := vI n) hn hs) G p l e s m args below meth c C H locs lsA hP hS hL)
theorem r_ldcw {i : Nat} {v : Int32} (n : Int) (hd : decode (cd μ) pc = .ok (.ldc_w i, 3)) (hw : Cond.constant (mn μ).cls i v ∈ UW) (hv : v = Int32.ofInt n) (hn : inR n) (k : WM μ (pc + 3) ls (vI n :: st) σ Q) : WM μ pc ls (st) σ Q := by
  intro hσ hl hs G p l e s m args below meth c C H locs lsA hP hS hL
  subst hv
  exact lv_ldcw C.1 C.2.1 C.2.2.2.2.2.1 (C.2.2.2.2.2.2.1 _ hw) hd (k hσ hl (oks_cons (v := vI n) hn hs) G p l e s m args below meth c C H locs lsA hP hS hL)
theorem r_ldc2 {i : Nat} {v : Int64} (n : Int) (hd : decode (cd μ) pc = .ok (.ldc2_w i, 3)) (hw : Cond.constantLong (mn μ).cls i v ∈ UW) (hv : v = Int64.ofInt n) (hn : inL n) (k : WM μ (pc + 3) ls (vL n :: st) σ Q) : WM μ pc ls (st) σ Q := by
  intro hσ hl hs G p l e s m args below meth c C H locs lsA hP hS hL
  subst hv
  exact lv_ldc2 C.1 C.2.1 C.2.2.2.2.2.1 (C.2.2.2.2.2.2.1 _ hw) hd (k hσ hl (oks_cons (v := vL n) hn hs) G p l e s m args below meth c C H locs lsA hP hS hL)
theorem r_ldc2d {i : Nat} {v : UInt64} (hd : decode (cd μ) pc = .ok (.ldc2_w i, 3)) (hw : Cond.constantDouble (mn μ).cls i v ∈ UW) (k : WM μ (pc + 3) ls (vD v :: st) σ Q) : WM μ pc ls (st) σ Q := by
  intro hσ hl hs G p l e s m args below meth c C H locs lsA hP hS hL
  exact lv_ldc2d C.1 C.2.1 C.2.2.2.2.2.1 (C.2.2.2.2.2.2.1 _ hw) hd (k hσ hl (oks_cons (v := vD v) trivial hs) G p l e s m args below meth c C H locs lsA hP hS hL)
theorem r_lconst {j : Fin 2} (n : Int) (hd : decode (cd μ) pc = .ok (.lconst j, 1)) (hv : Int64.ofNat (j : Nat) = Int64.ofInt n) (hn : inL n) (k : WM μ (pc + 1) ls (vL n :: st) σ Q) : WM μ pc ls (st) σ Q := by
  intro hσ hl hs G p l e s m args below meth c C H locs lsA hP hS hL
  exact lv_lconst C.1 C.2.1 hd hv (k hσ hl (oks_cons (v := vL n) hn hs) G p l e s m args below meth c C H locs lsA hP hS hL)
theorem r_dconst0 (hd : decode (cd μ) pc = .ok (.dconst 0, 1)) (k : WM μ (pc + 1) ls (vD FP.dconst0 :: st) σ Q) : WM μ pc ls (st) σ Q := by
  intro hσ hl hs G p l e s m args below meth c C H locs lsA hP hS hL
  exact lv_dconst0 C.1 C.2.1 hd (k hσ hl (oks_cons (v := vD _) trivial hs) G p l e s m args below meth c C H locs lsA hP hS hL)
theorem r_dconst1 (hd : decode (cd μ) pc = .ok (.dconst 1, 1)) (k : WM μ (pc + 1) ls (vD FP.dconst1 :: st) σ Q) : WM μ pc ls (st) σ Q := by
  intro hσ hl hs G p l e s m args below meth c C H locs lsA hP hS hL
  exact lv_dconst1 C.1 C.2.1 hd (k hσ hl (oks_cons (v := vD _) trivial hs) G p l e s m args below meth c C H locs lsA hP hS hL)
theorem r_ldcS {i q : Nat} {tx : String} (hd : decode (cd μ) pc = .ok (.ldc i, 2)) (hz : ∀ (G : Gq) (A : Nat → Prop) (U : State) (H : Heap), Extq G A U H → vk_R (mn μ).cls i tx (G.2.1 q) U) (k : WM μ (pc + 2) ls (vR q :: st) σ Q) : WM μ pc ls (st) σ Q := by
  intro hσ hl hs G p l e s m args below meth c C H locs lsA hP hS hL
  exact va_ldcS C.1 C.2.1 C.2.2.2.2.2.1 (hz G _ s _ C.2.2.2.2.2.2.2.2.2.2) hd (k hσ hl (oks_cons (v := vR q) trivial hs) G p l e s m args below meth c C H locs lsA hP hS hL)
theorem r_iload_n {j : Fin 4} {x : Int} (hd : decode (cd μ) pc = .ok (.iload_n j, 1)) (hq : lq (j : Nat) ls = some (vI x)) (k : WM μ (pc + 1) ls (vI x :: st) σ Q) : WM μ pc ls (st) σ Q := by
  intro hσ hl hs G p l e s m args below meth c C H locs lsA hP hS hL
  exact lv_iload_n C.1 C.2.1 hd rfl (asq_at hL (lq_mem hq)) (k hσ hl (oks_cons (hl _ (lq_mem hq)) hs) G p l e s m args below meth c C H locs lsA hP hS hL)
theorem r_iload {j : Nat} {x : Int} (hd : decode (cd μ) pc = .ok (.iload j, 2)) (hq : lq j ls = some (vI x)) (k : WM μ (pc + 2) ls (vI x :: st) σ Q) : WM μ pc ls (st) σ Q := by
  intro hσ hl hs G p l e s m args below meth c C H locs lsA hP hS hL
  exact lv_iload C.1 C.2.1 hd (asq_at hL (lq_mem hq)) (k hσ hl (oks_cons (hl _ (lq_mem hq)) hs) G p l e s m args below meth c C H locs lsA hP hS hL)
theorem r_lload_n {j : Fin 4} {x : Int} (hd : decode (cd μ) pc = .ok (.lload_n j, 1)) (hq : lq (j : Nat) ls = some (vL x)) (k : WM μ (pc + 1) ls (vL x :: st) σ Q) : WM μ pc ls (st) σ Q := by
  intro hσ hl hs G p l e s m args below meth c C H locs lsA hP hS hL
  exact lv_lload_n C.1 C.2.1 hd rfl (asq_at hL (lq_mem hq)) (k hσ hl (oks_cons (hl _ (lq_mem hq)) hs) G p l e s m args below meth c C H locs lsA hP hS hL)
theorem r_lload {j : Nat} {x : Int} (hd : decode (cd μ) pc = .ok (.lload j, 2)) (hq : lq j ls = some (vL x)) (k : WM μ (pc + 2) ls (vL x :: st) σ Q) : WM μ pc ls (st) σ Q := by
  intro hσ hl hs G p l e s m args below meth c C H locs lsA hP hS hL
  exact lv_lload C.1 C.2.1 hd (asq_at hL (lq_mem hq)) (k hσ hl (oks_cons (hl _ (lq_mem hq)) hs) G p l e s m args below meth c C H locs lsA hP hS hL)
theorem r_dload_n {j : Fin 4} {x : UInt64} (hd : decode (cd μ) pc = .ok (.dload_n j, 1)) (hq : lq (j : Nat) ls = some (vD x)) (k : WM μ (pc + 1) ls (vD x :: st) σ Q) : WM μ pc ls (st) σ Q := by
  intro hσ hl hs G p l e s m args below meth c C H locs lsA hP hS hL
  exact lv_dload_n C.1 C.2.1 hd rfl (asq_at hL (lq_mem hq)) (k hσ hl (oks_cons (hl _ (lq_mem hq)) hs) G p l e s m args below meth c C H locs lsA hP hS hL)
theorem r_dload {j : Nat} {x : UInt64} (hd : decode (cd μ) pc = .ok (.dload j, 2)) (hq : lq j ls = some (vD x)) (k : WM μ (pc + 2) ls (vD x :: st) σ Q) : WM μ pc ls (st) σ Q := by
  intro hσ hl hs G p l e s m args below meth c C H locs lsA hP hS hL
  exact lv_dload C.1 C.2.1 hd (asq_at hL (lq_mem hq)) (k hσ hl (oks_cons (hl _ (lq_mem hq)) hs) G p l e s m args below meth c C H locs lsA hP hS hL)
theorem r_aload_n {j : Fin 4} {x : Nat} (hd : decode (cd μ) pc = .ok (.aload_n j, 1)) (hq : lq (j : Nat) ls = some (vR x)) (k : WM μ (pc + 1) ls (vR x :: st) σ Q) : WM μ pc ls (st) σ Q := by
  intro hσ hl hs G p l e s m args below meth c C H locs lsA hP hS hL
  exact lv_aload_n C.1 C.2.1 hd rfl (asq_at hL (lq_mem hq)) (k hσ hl (oks_cons (hl _ (lq_mem hq)) hs) G p l e s m args below meth c C H locs lsA hP hS hL)
theorem r_aload {j : Nat} {x : Nat} (hd : decode (cd μ) pc = .ok (.aload j, 2)) (hq : lq j ls = some (vR x)) (k : WM μ (pc + 2) ls (vR x :: st) σ Q) : WM μ pc ls (st) σ Q := by
  intro hσ hl hs G p l e s m args below meth c C H locs lsA hP hS hL
  exact lv_aload C.1 C.2.1 hd (asq_at hL (lq_mem hq)) (k hσ hl (oks_cons (hl _ (lq_mem hq)) hs) G p l e s m args below meth c C H locs lsA hP hS hL)
theorem r_istore_n {j' : Fin 4} {j : Nat} {x : Int} {ls' : List (Nat × Vq)} (hd : decode (cd μ) pc = .ok (.istore_n j', 1)) (hi : (j' : Nat) = j) (hn : j < mL μ) (he : stl j (vI x) ls = ls') (k : WM μ (pc + 1) ls' (st) σ Q) : WM μ pc ls (vI x :: st) σ Q := by
  intro hσ hl hs G p l e s m args below meth c C H locs lsA hP hS hL
  subst he
  exact lv_istore_n C.1 C.2.1 hd hi hL hn (asq_stl (i := j) (v := vI x) hl) (fun lsA' hL' => k hσ (okl_stl hl hs.hd) hs.tl G p l e s m args below meth c C H locs lsA' hP hS hL')
theorem r_istore {j : Nat} {x : Int} {ls' : List (Nat × Vq)} (hd : decode (cd μ) pc = .ok (.istore j, 2))  (hn : j < mL μ) (he : stl j (vI x) ls = ls') (k : WM μ (pc + 2) ls' (st) σ Q) : WM μ pc ls (vI x :: st) σ Q := by
  intro hσ hl hs G p l e s m args below meth c C H locs lsA hP hS hL
  subst he
  exact lv_istore C.1 C.2.1 hd hL hn (asq_stl (i := j) (v := vI x) hl) (fun lsA' hL' => k hσ (okl_stl hl hs.hd) hs.tl G p l e s m args below meth c C H locs lsA' hP hS hL')
theorem r_lstore_n {j' : Fin 4} {j : Nat} {x : Int} {ls' : List (Nat × Vq)} (hd : decode (cd μ) pc = .ok (.lstore_n j', 1)) (hi : (j' : Nat) = j) (hn : j + 1 < mL μ) (he : stw j (vL x) ls = ls') (k : WM μ (pc + 1) ls' (st) σ Q) : WM μ pc ls (vL x :: st) σ Q := by
  intro hσ hl hs G p l e s m args below meth c C H locs lsA hP hS hL
  subst he
  exact lv_lstore_n C.1 C.2.1 hd hi hL hn (asq_stw (i := j) (v := vL x) hl) (fun lsA' hL' => k hσ (okl_stw hl hs.hd) hs.tl G p l e s m args below meth c C H locs lsA' hP hS hL')
theorem r_lstore {j : Nat} {x : Int} {ls' : List (Nat × Vq)} (hd : decode (cd μ) pc = .ok (.lstore j, 2))  (hn : j + 1 < mL μ) (he : stw j (vL x) ls = ls') (k : WM μ (pc + 2) ls' (st) σ Q) : WM μ pc ls (vL x :: st) σ Q := by
  intro hσ hl hs G p l e s m args below meth c C H locs lsA hP hS hL
  subst he
  exact lv_lstore C.1 C.2.1 hd hL hn (asq_stw (i := j) (v := vL x) hl) (fun lsA' hL' => k hσ (okl_stw hl hs.hd) hs.tl G p l e s m args below meth c C H locs lsA' hP hS hL')
theorem r_dstore_n {j' : Fin 4} {j : Nat} {x : UInt64} {ls' : List (Nat × Vq)} (hd : decode (cd μ) pc = .ok (.dstore_n j', 1)) (hi : (j' : Nat) = j) (hn : j + 1 < mL μ) (he : stw j (vD x) ls = ls') (k : WM μ (pc + 1) ls' (st) σ Q) : WM μ pc ls (vD x :: st) σ Q := by
  intro hσ hl hs G p l e s m args below meth c C H locs lsA hP hS hL
  subst he
  exact lv_dstore_n C.1 C.2.1 hd hi hL hn (asq_stw (i := j) (v := vD x) hl) (fun lsA' hL' => k hσ (okl_stw hl hs.hd) hs.tl G p l e s m args below meth c C H locs lsA' hP hS hL')
theorem r_dstore {j : Nat} {x : UInt64} {ls' : List (Nat × Vq)} (hd : decode (cd μ) pc = .ok (.dstore j, 2))  (hn : j + 1 < mL μ) (he : stw j (vD x) ls = ls') (k : WM μ (pc + 2) ls' (st) σ Q) : WM μ pc ls (vD x :: st) σ Q := by
  intro hσ hl hs G p l e s m args below meth c C H locs lsA hP hS hL
  subst he
  exact lv_dstore C.1 C.2.1 hd hL hn (asq_stw (i := j) (v := vD x) hl) (fun lsA' hL' => k hσ (okl_stw hl hs.hd) hs.tl G p l e s m args below meth c C H locs lsA' hP hS hL')
theorem r_astore_n {j' : Fin 4} {j : Nat} {x : Nat} {ls' : List (Nat × Vq)} (hd : decode (cd μ) pc = .ok (.astore_n j', 1)) (hi : (j' : Nat) = j) (hn : j < mL μ) (he : stl j (vR x) ls = ls') (k : WM μ (pc + 1) ls' (st) σ Q) : WM μ pc ls (vR x :: st) σ Q := by
  intro hσ hl hs G p l e s m args below meth c C H locs lsA hP hS hL
  subst he
  exact lv_astore_n C.1 C.2.1 hd hi hL hn (asq_stl (i := j) (v := vR x) hl) (fun lsA' hL' => k hσ (okl_stl hl hs.hd) hs.tl G p l e s m args below meth c C H locs lsA' hP hS hL')
theorem r_astore {j : Nat} {x : Nat} {ls' : List (Nat × Vq)} (hd : decode (cd μ) pc = .ok (.astore j, 2))  (hn : j < mL μ) (he : stl j (vR x) ls = ls') (k : WM μ (pc + 2) ls' (st) σ Q) : WM μ pc ls (vR x :: st) σ Q := by
  intro hσ hl hs G p l e s m args below meth c C H locs lsA hP hS hL
  subst he
  exact lv_astore C.1 C.2.1 hd hL hn (asq_stl (i := j) (v := vR x) hl) (fun lsA' hL' => k hσ (okl_stl hl hs.hd) hs.tl G p l e s m args below meth c C H locs lsA' hP hS hL')
theorem r_iinc {j : Nat} {n x : Int} {ls' : List (Nat × Vq)} (hd : decode (cd μ) pc = .ok (.iinc j n, 3)) (hq : lq j ls = some (vI x)) (ho : inR (x + n)) (hn : j < mL μ) (he : stl j (vI (x + n)) ls = ls') (k : WM μ (pc + 3) ls' (st) σ Q) : WM μ pc ls (st) σ Q := by
  intro hσ hl hs G p l e s m args below meth c C H locs lsA hP hS hL
  subst he
  obtain ⟨i, hi⟩ := List.getElem?_of_mem (List.mem_map.mpr ⟨(j, vI x), lq_mem hq, rfl⟩ : (j, cv G (vI x)) ∈ asq G ls)
  exact lv_iinc C.1 C.2.1 hd hL hi (qi_add x n) hn (asq_stl (v := vI (x + n)) hl) (fun lsA' hL' => k hσ (okl_stl (v := vI (x + n)) hl ho) hs G p l e s m args below meth c C H locs lsA' hP hS hL')
theorem r_iadd {a b : Int} (hd : decode (cd μ) pc = .ok (.iadd, 1)) (ho : inR (a + b)) (k : WM μ (pc + 1) ls (vI (a + b) :: st) σ Q) : WM μ pc ls (vI b :: vI a :: st) σ Q := by
  intro hσ hl hs G p l e s m args below meth c C H locs lsA hP hS hL
  refine lv_iadd C.1 C.2.1 hd ?_
  rw [qi_add]
  exact (k hσ hl (oks_cons (v := vI (a + b)) ho hs.tl.tl) G p l e s m args below meth c C H locs lsA hP hS hL)
theorem r_isub {a b : Int} (hd : decode (cd μ) pc = .ok (.isub, 1)) (ho : inR (a - b)) (k : WM μ (pc + 1) ls (vI (a - b) :: st) σ Q) : WM μ pc ls (vI b :: vI a :: st) σ Q := by
  intro hσ hl hs G p l e s m args below meth c C H locs lsA hP hS hL
  refine lv_isub C.1 C.2.1 hd ?_
  rw [qi_sub]
  exact (k hσ hl (oks_cons (v := vI (a - b)) ho hs.tl.tl) G p l e s m args below meth c C H locs lsA hP hS hL)
theorem r_imul {a b : Int} (hd : decode (cd μ) pc = .ok (.imul, 1)) (ho : inR (a * b)) (k : WM μ (pc + 1) ls (vI (a * b) :: st) σ Q) : WM μ pc ls (vI b :: vI a :: st) σ Q := by
  intro hσ hl hs G p l e s m args below meth c C H locs lsA hP hS hL
  refine lv_imul C.1 C.2.1 hd ?_
  rw [qi_mul]
  exact (k hσ hl (oks_cons (v := vI (a * b)) ho hs.tl.tl) G p l e s m args below meth c C H locs lsA hP hS hL)
theorem r_ladd {a b : Int} (hd : decode (cd μ) pc = .ok (.ladd, 1)) (ho : inL (a + b)) (k : WM μ (pc + 1) ls (vL (a + b) :: st) σ Q) : WM μ pc ls (vL b :: vL a :: st) σ Q := by
  intro hσ hl hs G p l e s m args below meth c C H locs lsA hP hS hL
  refine lv_ladd C.1 C.2.1 hd ?_
  rw [ql_add]
  exact (k hσ hl (oks_cons (v := vL (a + b)) ho hs.tl.tl) G p l e s m args below meth c C H locs lsA hP hS hL)
theorem r_lmul {a b : Int} (hd : decode (cd μ) pc = .ok (.lmul, 1)) (ho : inL (a * b)) (k : WM μ (pc + 1) ls (vL (a * b) :: st) σ Q) : WM μ pc ls (vL b :: vL a :: st) σ Q := by
  intro hσ hl hs G p l e s m args below meth c C H locs lsA hP hS hL
  refine lv_lmul C.1 C.2.1 hd ?_
  rw [ql_mul]
  exact (k hσ hl (oks_cons (v := vL (a * b)) ho hs.tl.tl) G p l e s m args below meth c C H locs lsA hP hS hL)
theorem r_ineg {a : Int} (hd : decode (cd μ) pc = .ok (.ineg, 1)) (ho : inR (-a)) (k : WM μ (pc + 1) ls (vI (-a) :: st) σ Q) : WM μ pc ls (vI a :: st) σ Q := by
  intro hσ hl hs G p l e s m args below meth c C H locs lsA hP hS hL
  refine lv_ineg C.1 C.2.1 hd ?_
  rw [qi_neg]
  exact (k hσ hl (oks_cons (v := vI (-a)) ho hs.tl) G p l e s m args below meth c C H locs lsA hP hS hL)
theorem r_idiv {a b : Int} (hd : decode (cd μ) pc = .ok (.idiv, 1)) (hb : b ≠ 0) (ho : inR (a.tdiv b)) (k : WM μ (pc + 1) ls (vI (a.tdiv b) :: st) σ Q) : WM μ pc ls (vI b :: vI a :: st) σ Q := by
  intro hσ hl hs G p l e s m args below meth c C H locs lsA hP hS hL
  refine lv_idiv C.1 C.2.1 hd (fun h => hb ((qi_eq (b := 0) (show inR b from hs.hd) (by omega)).mp h)) ?_
  rw [qi_div (show inR a from hs.tl.hd) (show inR b from hs.hd)]
  exact (k hσ hl (oks_cons (v := vI (a.tdiv b)) ho hs.tl.tl) G p l e s m args below meth c C H locs lsA hP hS hL)
theorem r_irem {a b : Int} (hd : decode (cd μ) pc = .ok (.irem, 1)) (hb : b ≠ 0) (ho : inR (a.tmod b)) (k : WM μ (pc + 1) ls (vI (a.tmod b) :: st) σ Q) : WM μ pc ls (vI b :: vI a :: st) σ Q := by
  intro hσ hl hs G p l e s m args below meth c C H locs lsA hP hS hL
  refine lv_irem C.1 C.2.1 hd (fun h => hb ((qi_eq (b := 0) (show inR b from hs.hd) (by omega)).mp h)) ?_
  rw [qi_rem (show inR a from hs.tl.hd) (show inR b from hs.hd)]
  exact (k hσ hl (oks_cons (v := vI (a.tmod b)) ho hs.tl.tl) G p l e s m args below meth c C H locs lsA hP hS hL)
theorem q_div_nn {a b : Int} (ha : 0 ≤ a) (hb : 0 < b) : a.tdiv b = a / b := Int.tdiv_eq_ediv_of_nonneg ha
theorem q_mod_nn {a b : Int} (ha : 0 ≤ a) (hb : 0 < b) : a.tmod b = a % b := Int.tmod_eq_emod_of_nonneg ha
theorem q_div_le {a b : Int} (ha : 0 ≤ a) (hb : 0 < b) : 0 ≤ a / b ∧ a / b ≤ a := ⟨Int.ediv_nonneg ha (by omega), Int.ediv_le_self b ha⟩
theorem q_mod_le {a b : Int} (ha : 0 ≤ a) (hb : 0 < b) : 0 ≤ a % b ∧ a % b ≤ a := by
  refine ⟨Int.emod_nonneg a (by omega), ?_⟩
  have h1 := Int.mul_ediv_add_emod a b
  have h2 := Int.mul_nonneg (show (0 : Int) ≤ b by omega) (q_div_le ha hb).1
  omega
theorem r_idivn {a b : Int} (hd : decode (cd μ) pc = .ok (.idiv, 1)) (ha : 0 ≤ a) (hb0 : 0 < b) (k : WM μ (pc + 1) ls (vI (a / b) :: st) σ Q) : WM μ pc ls (vI b :: vI a :: st) σ Q := by
  intro hσ hl hs G p l e s m args below meth c C H locs lsA hP hS hL
  have h1 := q_div_le ha hb0
  have h2 : inR a := hs.tl.hd
  exact r_idiv hd (by omega) (by rw [q_div_nn ha hb0]; omega) (by rw [q_div_nn ha hb0]; exact k) hσ hl hs G p l e s m args below meth c C H locs lsA hP hS hL
theorem r_iremn {a b : Int} (hd : decode (cd μ) pc = .ok (.irem, 1)) (ha : 0 ≤ a) (hb0 : 0 < b) (k : WM μ (pc + 1) ls (vI (a % b) :: st) σ Q) : WM μ pc ls (vI b :: vI a :: st) σ Q := by
  intro hσ hl hs G p l e s m args below meth c C H locs lsA hP hS hL
  have h1 := q_mod_le ha hb0
  have h2 : inR a := hs.tl.hd
  exact r_irem hd (by omega) (by rw [q_mod_nn ha hb0]; omega) (by rw [q_mod_nn ha hb0]; exact k) hσ hl hs G p l e s m args below meth c C H locs lsA hP hS hL
theorem r_ldiv {a b : Int} (hd : decode (cd μ) pc = .ok (.ldiv, 1)) (hb : b ≠ 0) (ho : inL (a.tdiv b)) (k : WM μ (pc + 1) ls (vL (a.tdiv b) :: st) σ Q) : WM μ pc ls (vL b :: vL a :: st) σ Q := by
  intro hσ hl hs G p l e s m args below meth c C H locs lsA hP hS hL
  refine lv_ldiv C.1 C.2.1 hd (fun h => hb ((ql_eq (b := 0) (show inL b from hs.hd) (by omega)).mp h)) ?_
  rw [ql_div (show inL a from hs.tl.hd) (show inL b from hs.hd)]
  exact (k hσ hl (oks_cons (v := vL (a.tdiv b)) ho hs.tl.tl) G p l e s m args below meth c C H locs lsA hP hS hL)
theorem r_lrem {a b : Int} (hd : decode (cd μ) pc = .ok (.lrem, 1)) (hb : b ≠ 0) (ho : inL (a.tmod b)) (k : WM μ (pc + 1) ls (vL (a.tmod b) :: st) σ Q) : WM μ pc ls (vL b :: vL a :: st) σ Q := by
  intro hσ hl hs G p l e s m args below meth c C H locs lsA hP hS hL
  refine lv_lrem C.1 C.2.1 hd (fun h => hb ((ql_eq (b := 0) (show inL b from hs.hd) (by omega)).mp h)) ?_
  rw [ql_rem (show inL a from hs.tl.hd) (show inL b from hs.hd)]
  exact (k hσ hl (oks_cons (v := vL (a.tmod b)) ho hs.tl.tl) G p l e s m args below meth c C H locs lsA hP hS hL)
theorem r_ldivn {a b : Int} (hd : decode (cd μ) pc = .ok (.ldiv, 1)) (ha : 0 ≤ a) (hb0 : 0 < b) (k : WM μ (pc + 1) ls (vL (a / b) :: st) σ Q) : WM μ pc ls (vL b :: vL a :: st) σ Q := by
  intro hσ hl hs G p l e s m args below meth c C H locs lsA hP hS hL
  have h1 := q_div_le ha hb0
  have h2 : inL a := hs.tl.hd
  exact r_ldiv hd (by omega) (by rw [q_div_nn ha hb0]; omega) (by rw [q_div_nn ha hb0]; exact k) hσ hl hs G p l e s m args below meth c C H locs lsA hP hS hL
theorem r_lremn {a b : Int} (hd : decode (cd μ) pc = .ok (.lrem, 1)) (ha : 0 ≤ a) (hb0 : 0 < b) (k : WM μ (pc + 1) ls (vL (a % b) :: st) σ Q) : WM μ pc ls (vL b :: vL a :: st) σ Q := by
  intro hσ hl hs G p l e s m args below meth c C H locs lsA hP hS hL
  have h1 := q_mod_le ha hb0
  have h2 : inL a := hs.tl.hd
  exact r_lrem hd (by omega) (by rw [q_mod_nn ha hb0]; omega) (by rw [q_mod_nn ha hb0]; exact k) hσ hl hs G p l e s m args below meth c C H locs lsA hP hS hL
theorem r_i2l {a : Int} (hd : decode (cd μ) pc = .ok (.i2l, 1)) (k : WM μ (pc + 1) ls (vL a :: st) σ Q) : WM μ pc ls (vI a :: st) σ Q := by
  intro hσ hl hs G p l e s m args below meth c C H locs lsA hP hS hL
  have ha : inR a := hs.hd
  exact lv_i2l C.1 C.2.1 hd (qi_i2l ha) (k hσ hl (oks_cons (v := vL a) (show inL a by omega) hs.tl) G p l e s m args below meth c C H locs lsA hP hS hL)
theorem r_l2i {a : Int} (hd : decode (cd μ) pc = .ok (.l2i, 1)) (ho : inR a) (k : WM μ (pc + 1) ls (vI a :: st) σ Q) : WM μ pc ls (vL a :: st) σ Q := by
  intro hσ hl hs G p l e s m args below meth c C H locs lsA hP hS hL
  exact lv_l2i C.1 C.2.1 hd (ql_l2i a) (k hσ hl (oks_cons (v := vI a) ho hs.tl) G p l e s m args below meth c C H locs lsA hP hS hL)
theorem r_i2d {a : Int} (hd : decode (cd μ) pc = .ok (.i2d, 1)) (k : WM μ (pc + 1) ls (vD (FP.i2d (Int32.ofInt a)) :: st) σ Q) : WM μ pc ls (vI a :: st) σ Q := by
  intro hσ hl hs G p l e s m args below meth c C H locs lsA hP hS hL
  exact lv_i2d C.1 C.2.1 hd (k hσ hl (oks_cons (v := vD _) trivial hs.tl) G p l e s m args below meth c C H locs lsA hP hS hL)
theorem r_dadd {a b : UInt64} (hd : decode (cd μ) pc = .ok (.dadd, 1)) (ho : vf_n64 (FP.dadd a b)) (k : WM μ (pc + 1) ls (vD (FP.dadd a b) :: st) σ Q) : WM μ pc ls (vD b :: vD a :: st) σ Q := by
  intro hσ hl hs G p l e s m args below meth c C H locs lsA hP hS hL
  exact lv_dadd C.1 C.2.1 hd ho (k hσ hl (oks_cons (v := vD _) trivial hs.tl.tl) G p l e s m args below meth c C H locs lsA hP hS hL)
theorem r_dsub {a b : UInt64} (hd : decode (cd μ) pc = .ok (.dsub, 1)) (ho : vf_n64 (FP.dsub a b)) (k : WM μ (pc + 1) ls (vD (FP.dsub a b) :: st) σ Q) : WM μ pc ls (vD b :: vD a :: st) σ Q := by
  intro hσ hl hs G p l e s m args below meth c C H locs lsA hP hS hL
  exact lv_dsub C.1 C.2.1 hd ho (k hσ hl (oks_cons (v := vD _) trivial hs.tl.tl) G p l e s m args below meth c C H locs lsA hP hS hL)
theorem r_dmul {a b : UInt64} (hd : decode (cd μ) pc = .ok (.dmul, 1)) (ho : vf_n64 (FP.dmul a b)) (k : WM μ (pc + 1) ls (vD (FP.dmul a b) :: st) σ Q) : WM μ pc ls (vD b :: vD a :: st) σ Q := by
  intro hσ hl hs G p l e s m args below meth c C H locs lsA hP hS hL
  exact lv_dmul C.1 C.2.1 hd ho (k hσ hl (oks_cons (v := vD _) trivial hs.tl.tl) G p l e s m args below meth c C H locs lsA hP hS hL)
theorem r_ddiv {a b : UInt64} (hd : decode (cd μ) pc = .ok (.ddiv, 1)) (ho : vf_n64 (FP.ddiv a b)) (k : WM μ (pc + 1) ls (vD (FP.ddiv a b) :: st) σ Q) : WM μ pc ls (vD b :: vD a :: st) σ Q := by
  intro hσ hl hs G p l e s m args below meth c C H locs lsA hP hS hL
  exact lv_ddiv C.1 C.2.1 hd ho (k hσ hl (oks_cons (v := vD _) trivial hs.tl.tl) G p l e s m args below meth c C H locs lsA hP hS hL)
def dcq (op : CmpOp) (a b : UInt64) : Int := (Op.cmpValue (FP.dcmp a b) op).toInt
theorem dcq_in (op : CmpOp) (a b : UInt64) : inR (dcq op a b) := by
  have h1 := Int32.le_toInt (Op.cmpValue (FP.dcmp a b) op)
  have h2 := Int32.toInt_lt (Op.cmpValue (FP.dcmp a b) op)
  unfold dcq
  omega
theorem r_dcmp {a b : UInt64} {op : CmpOp} (hd : decode (cd μ) pc = .ok (.dcmp op, 1)) (k : WM μ (pc + 1) ls (vI (dcq op a b) :: st) σ Q) : WM μ pc ls (vD b :: vD a :: st) σ Q := by
  intro hσ hl hs G p l e s m args below meth c C H locs lsA hP hS hL
  refine lv_dcmp C.1 C.2.1 hd ?_
  rw [show Op.cmpValue (FP.dcmp a b) op = Int32.ofInt (dcq op a b) from (Int32.ofInt_toInt _).symm]
  exact (k hσ hl (oks_cons (v := vI _) (dcq_in op a b) hs.tl.tl) G p l e s m args below meth c C H locs lsA hP hS hL)
def lcq (a b : Int) : Int := if b < a then 1 else if a = b then 0 else -1
theorem lcq_in (a b : Int) : inR (lcq a b) := by unfold lcq; split <;> (try split) <;> omega
theorem r_lcmp {a b : Int} (hd : decode (cd μ) pc = .ok (.lcmp, 1)) (k : WM μ (pc + 1) ls (vI (lcq a b) :: st) σ Q) : WM μ pc ls (vL b :: vL a :: st) σ Q := by
  intro hσ hl hs G p l e s m args below meth c C H locs lsA hP hS hL
  refine W.lcmp C.1 C.2.1 hd ?_
  have ha : inL a := hs.tl.hd
  have hb : inL b := hs.hd
  rw [show lg_cmp (Int64.ofInt a) (Int64.ofInt b) = Int32.ofInt (lcq a b) by
    unfold lg_cmp lcq
    simp only [gt_iff_lt, ql_lt hb ha, ql_eq ha hb]
    split
    · rfl
    · split <;> rfl]
  exact (k hσ hl (oks_cons (v := vI _) (lcq_in a b) hs.tl.tl) G p l e s m args below meth c C H locs lsA hP hS hL)
theorem q_and255 {a : Int} (ha : inR a) : Int32.ofInt a &&& Int32.ofInt 255 = Int32.ofInt (a % 256) := by
  apply Int32.toBitVec.inj
  rw [Int32.toBitVec_and, Int32.toBitVec_ofInt, Int32.toBitVec_ofInt, Int32.toBitVec_ofInt]
  apply BitVec.eq_of_toNat_eq
  rw [BitVec.toNat_and, BitVec.toNat_ofInt, BitVec.toNat_ofInt, BitVec.toNat_ofInt]
  rw [show ((255 : Int) % ((2 ^ 32 : Nat) : Int)).toNat = 2 ^ 8 - 1 by decide, Nat.and_two_pow_sub_one_eq_mod]
  omega
theorem q_shr {a b : Int} (ha : inR a) (h0 : 0 ≤ b) (h1 : b < 32) : Int32.ofInt a >>> (Int32.ofInt b &&& 31) = Int32.ofInt (a / 2 ^ b.toNat) := by
  apply Int32.toInt_inj.mp
  have e : ((Int32.ofInt b &&& 31).toBitVec.smod 32).toNat = b.toNat := by
    have : ∀ j : Nat, j < 32 → ((Int32.ofInt (j : Int) &&& 31).toBitVec.smod 32).toNat = j := by decide
    have h2 := this b.toNat (by omega)
    rwa [Int.toNat_of_nonneg h0] at h2
  rw [pk_shr _ _ _ e, toI ha, Int.shiftRight_eq_div_pow]
  have hp : (1 : Int) ≤ 2 ^ b.toNat := by
    have := Nat.one_le_two_pow (n := b.toNat)
    exact_mod_cast this
  rw [show (((2 ^ b.toNat : Nat) : Int)) = 2 ^ b.toNat by push_cast; rfl]
  generalize (2 : Int) ^ b.toNat = P at hp ⊢
  rw [toI]
  constructor
  · have := Int.ediv_le_ediv (a := -2147483648) (b := a) (c := P) (by omega) ha.1
    have h3 : -2147483648 ≤ (-2147483648 : Int) / P := by
      rw [Int.le_ediv_iff_mul_le (by omega)]
      omega
    omega
  · have h3 : a / P < 2147483648 := by
      rw [Int.ediv_lt_iff_lt_mul (by omega)]
      omega
    omega
theorem q_i2b {a : Int} : (Int32.ofInt a).toInt8.toInt32 = Int32.ofInt ((a + 128) % 256 - 128) := by
  apply Int32.toInt_inj.mp
  rw [Int8.toInt_toInt32, Int32.toInt_toInt8, Int32.toInt_ofInt, toI (by omega), Int.bmod_bmod_of_dvd (by decide), Int.bmod_def]
  simp only [Nat.reducePow]
  split <;> omega
theorem q_i2c {a : Int} (ha : inR a) : ((Int32.ofInt a).toUInt32 % 65536).toInt32 = Int32.ofInt (a % 65536) := by
  rw [pk_char, Int32.toBitVec_ofInt, BitVec.toNat_ofInt]
  apply Int32.toInt_inj.mp
  rw [nI_toInt (by omega), toI (by omega)]
  omega
theorem r_iand255 {a : Int} (hd : decode (cd μ) pc = .ok (.iand, 1)) (k : WM μ (pc + 1) ls (vI (a % 256) :: st) σ Q) : WM μ pc ls (vI 255 :: vI a :: st) σ Q := by
  intro hσ hl hs G p l e s m args below meth c C H locs lsA hP hS hL
  refine lv_iand C.1 C.2.1 hd ?_
  rw [q_and255 (show inR a from hs.tl.hd)]
  exact (k hσ hl (oks_cons (v := vI (a % 256)) (show inR (a % 256) by omega) hs.tl.tl) G p l e s m args below meth c C H locs lsA hP hS hL)
theorem r_ishr {a b : Int} (hd : decode (cd μ) pc = .ok (.ishr, 1)) (h0 : 0 ≤ b) (h1 : b < 32) (ho : inR (a / 2 ^ b.toNat)) (k : WM μ (pc + 1) ls (vI (a / 2 ^ b.toNat) :: st) σ Q) : WM μ pc ls (vI b :: vI a :: st) σ Q := by
  intro hσ hl hs G p l e s m args below meth c C H locs lsA hP hS hL
  refine lv_ishr C.1 C.2.1 hd ?_
  rw [q_shr (show inR a from hs.tl.hd) h0 h1]
  exact (k hσ hl (oks_cons (v := vI _) ho hs.tl.tl) G p l e s m args below meth c C H locs lsA hP hS hL)
theorem r_i2b {a : Int} (hd : decode (cd μ) pc = .ok (.i2b, 1)) (k : WM μ (pc + 1) ls (vI ((a + 128) % 256 - 128) :: st) σ Q) : WM μ pc ls (vI a :: st) σ Q := by
  intro hσ hl hs G p l e s m args below meth c C H locs lsA hP hS hL
  exact lv_i2b C.1 C.2.1 hd q_i2b (k hσ hl (oks_cons (v := vI ((a + 128) % 256 - 128)) (show inR _ by omega) hs.tl) G p l e s m args below meth c C H locs lsA hP hS hL)
theorem r_i2c {a : Int} (hd : decode (cd μ) pc = .ok (.i2c, 1)) (k : WM μ (pc + 1) ls (vI (a % 65536) :: st) σ Q) : WM μ pc ls (vI a :: st) σ Q := by
  intro hσ hl hs G p l e s m args below meth c C H locs lsA hP hS hL
  exact lv_i2c C.1 C.2.1 hd (q_i2c (show inR a from hs.hd)) (k hσ hl (oks_cons (v := vI (a % 65536)) (show inR _ by omega) hs.tl) G p l e s m args below meth c C H locs lsA hP hS hL)
theorem r_dup {v : Vq} (hd : decode (cd μ) pc = .ok (.dup, 1)) (hv : ct v = 1) (k : WM μ (pc + 1) ls (v :: v :: st) σ Q) : WM μ pc ls (v :: st) σ Q := by
  intro hσ hl hs G p l e s m args below meth c C H locs lsA hP hS hL
  exact lv_dup C.1 C.2.1 hd (by rw [cv_ct G hs.hd, hv]) (k hσ hl (oks_cons hs.hd hs) G p l e s m args below meth c C H locs lsA hP hS hL)
theorem r_dup2 {v w : Vq} (hd : decode (cd μ) pc = .ok (.dup2, 1)) (hv : ct v = 1) (hw : ct w = 1) (k : WM μ (pc + 1) ls (v :: w :: v :: w :: st) σ Q) : WM μ pc ls (v :: w :: st) σ Q := by
  intro hσ hl hs G p l e s m args below meth c C H locs lsA hP hS hL
  exact lv_dup2_11 C.1 C.2.1 hd (by rw [cv_ct G hs.hd, hv]) (by rw [cv_ct G hs.tl.hd, hw]) (k hσ hl (oks_cons hs.hd (oks_cons hs.tl.hd hs)) G p l e s m args below meth c C H locs lsA hP hS hL)
theorem r_pop {v : Vq} (hd : decode (cd μ) pc = .ok (.pop, 1)) (hv : ct v = 1) (k : WM μ (pc + 1) ls (st) σ Q) : WM μ pc ls (v :: st) σ Q := by
  intro hσ hl hs G p l e s m args below meth c C H locs lsA hP hS hL
  exact lv_pop C.1 C.2.1 hd (by rw [cv_ct G hs.hd, hv]) (k hσ hl hs.tl G p l e s m args below meth c C H locs lsA hP hS hL)
theorem r_goto {off : Int} (tgt : Nat) (hd : decode (cd μ) pc = .ok (.goto off, 3)) (ht : (pc : Int) + off = (tgt : Int)) (k : WM μ tgt ls st σ Q) : WM μ pc ls (st) σ Q := by
  intro hσ hl hs G p l e s m args below meth c C H locs lsA hP hS hL
  exact lv_goto C.1 C.2.1 hd ht (k hσ hl hs G p l e s m args below meth c C H locs lsA hP hS hL)
theorem r_icmp_eq {a b : Int} {off : Int} (tgt : Nat) (hd : decode (cd μ) pc = .ok (.if_icmp .eq off, 3)) (ht : (pc : Int) + off = (tgt : Int)) (k : (a = b → WM μ tgt ls st σ Q) ∧ (¬ a = b → WM μ (pc + 3) ls st σ Q)) : WM μ pc ls (vI b :: vI a :: st) σ Q := by
  intro hσ hl hs G p l e s m args below meth c C H locs lsA hP hS hL
  have ha : inR a := hs.tl.hd
  have hb : inR b := hs.hd
  exact lv_icmp_eq C.1 C.2.1 hd ht (fun h => k.1 ((qi_eq ha hb).mp h) hσ hl hs.tl.tl G p l e s m args below meth c C H locs lsA hP hS hL) (fun h => k.2 (fun z => h ((qi_eq ha hb).mpr z)) hσ hl hs.tl.tl G p l e s m args below meth c C H locs lsA hP hS hL)
theorem r_if_eq {a : Int} {off : Int} (tgt : Nat) (hd : decode (cd μ) pc = .ok (.ifCond .eq off, 3)) (ht : (pc : Int) + off = (tgt : Int)) (k : (a = 0 → WM μ tgt ls st σ Q) ∧ (¬ a = 0 → WM μ (pc + 3) ls st σ Q)) : WM μ pc ls (vI a :: st) σ Q := by
  intro hσ hl hs G p l e s m args below meth c C H locs lsA hP hS hL
  have ha : inR a := hs.hd
  have hb : inR (0 : Int) := by omega
  exact lv_if_eq C.1 C.2.1 hd ht (fun h => k.1 ((qi_eq ha hb).mp h) hσ hl hs.tl G p l e s m args below meth c C H locs lsA hP hS hL) (fun h => k.2 (fun z => h ((qi_eq ha hb).mpr z)) hσ hl hs.tl G p l e s m args below meth c C H locs lsA hP hS hL)
theorem r_icmp_ne {a b : Int} {off : Int} (tgt : Nat) (hd : decode (cd μ) pc = .ok (.if_icmp .ne off, 3)) (ht : (pc : Int) + off = (tgt : Int)) (k : (¬ a = b → WM μ tgt ls st σ Q) ∧ (a = b → WM μ (pc + 3) ls st σ Q)) : WM μ pc ls (vI b :: vI a :: st) σ Q := by
  intro hσ hl hs G p l e s m args below meth c C H locs lsA hP hS hL
  have ha : inR a := hs.tl.hd
  have hb : inR b := hs.hd
  exact lv_icmp_ne C.1 C.2.1 hd ht (fun h => k.1 ((not_congr (qi_eq ha hb)).mp h) hσ hl hs.tl.tl G p l e s m args below meth c C H locs lsA hP hS hL) (fun h => k.2 ((qi_eq ha hb).mp h) hσ hl hs.tl.tl G p l e s m args below meth c C H locs lsA hP hS hL)
theorem r_if_ne {a : Int} {off : Int} (tgt : Nat) (hd : decode (cd μ) pc = .ok (.ifCond .ne off, 3)) (ht : (pc : Int) + off = (tgt : Int)) (k : (¬ a = 0 → WM μ tgt ls st σ Q) ∧ (a = 0 → WM μ (pc + 3) ls st σ Q)) : WM μ pc ls (vI a :: st) σ Q := by
  intro hσ hl hs G p l e s m args below meth c C H locs lsA hP hS hL
  have ha : inR a := hs.hd
  have hb : inR (0 : Int) := by omega
  exact lv_if_ne C.1 C.2.1 hd ht (fun h => k.1 ((not_congr (qi_eq ha hb)).mp h) hσ hl hs.tl G p l e s m args below meth c C H locs lsA hP hS hL) (fun h => k.2 ((qi_eq ha hb).mp h) hσ hl hs.tl G p l e s m args below meth c C H locs lsA hP hS hL)
theorem r_icmp_lt {a b : Int} {off : Int} (tgt : Nat) (hd : decode (cd μ) pc = .ok (.if_icmp .lt off, 3)) (ht : (pc : Int) + off = (tgt : Int)) (k : (a < b → WM μ tgt ls st σ Q) ∧ (¬ a < b → WM μ (pc + 3) ls st σ Q)) : WM μ pc ls (vI b :: vI a :: st) σ Q := by
  intro hσ hl hs G p l e s m args below meth c C H locs lsA hP hS hL
  have ha : inR a := hs.tl.hd
  have hb : inR b := hs.hd
  exact lv_icmp_lt C.1 C.2.1 hd ht (fun h => k.1 ((qi_lt ha hb).mp h) hσ hl hs.tl.tl G p l e s m args below meth c C H locs lsA hP hS hL) (fun h => k.2 (fun z => h ((qi_lt ha hb).mpr z)) hσ hl hs.tl.tl G p l e s m args below meth c C H locs lsA hP hS hL)
theorem r_if_lt {a : Int} {off : Int} (tgt : Nat) (hd : decode (cd μ) pc = .ok (.ifCond .lt off, 3)) (ht : (pc : Int) + off = (tgt : Int)) (k : (a < 0 → WM μ tgt ls st σ Q) ∧ (¬ a < 0 → WM μ (pc + 3) ls st σ Q)) : WM μ pc ls (vI a :: st) σ Q := by
  intro hσ hl hs G p l e s m args below meth c C H locs lsA hP hS hL
  have ha : inR a := hs.hd
  have hb : inR (0 : Int) := by omega
  exact lv_if_lt C.1 C.2.1 hd ht (fun h => k.1 ((qi_lt ha hb).mp h) hσ hl hs.tl G p l e s m args below meth c C H locs lsA hP hS hL) (fun h => k.2 (fun z => h ((qi_lt ha hb).mpr z)) hσ hl hs.tl G p l e s m args below meth c C H locs lsA hP hS hL)
theorem r_icmp_ge {a b : Int} {off : Int} (tgt : Nat) (hd : decode (cd μ) pc = .ok (.if_icmp .ge off, 3)) (ht : (pc : Int) + off = (tgt : Int)) (k : (b ≤ a → WM μ tgt ls st σ Q) ∧ (¬ b ≤ a → WM μ (pc + 3) ls st σ Q)) : WM μ pc ls (vI b :: vI a :: st) σ Q := by
  intro hσ hl hs G p l e s m args below meth c C H locs lsA hP hS hL
  have ha : inR a := hs.tl.hd
  have hb : inR b := hs.hd
  exact lv_icmp_ge C.1 C.2.1 hd ht (fun h => k.1 ((qi_le hb ha).mp h) hσ hl hs.tl.tl G p l e s m args below meth c C H locs lsA hP hS hL) (fun h => k.2 (fun z => h ((qi_le hb ha).mpr z)) hσ hl hs.tl.tl G p l e s m args below meth c C H locs lsA hP hS hL)
theorem r_if_ge {a : Int} {off : Int} (tgt : Nat) (hd : decode (cd μ) pc = .ok (.ifCond .ge off, 3)) (ht : (pc : Int) + off = (tgt : Int)) (k : (0 ≤ a → WM μ tgt ls st σ Q) ∧ (¬ 0 ≤ a → WM μ (pc + 3) ls st σ Q)) : WM μ pc ls (vI a :: st) σ Q := by
  intro hσ hl hs G p l e s m args below meth c C H locs lsA hP hS hL
  have ha : inR a := hs.hd
  have hb : inR (0 : Int) := by omega
  exact lv_if_ge C.1 C.2.1 hd ht (fun h => k.1 ((qi_le hb ha).mp h) hσ hl hs.tl G p l e s m args below meth c C H locs lsA hP hS hL) (fun h => k.2 (fun z => h ((qi_le hb ha).mpr z)) hσ hl hs.tl G p l e s m args below meth c C H locs lsA hP hS hL)
theorem r_icmp_gt {a b : Int} {off : Int} (tgt : Nat) (hd : decode (cd μ) pc = .ok (.if_icmp .gt off, 3)) (ht : (pc : Int) + off = (tgt : Int)) (k : (b < a → WM μ tgt ls st σ Q) ∧ (¬ b < a → WM μ (pc + 3) ls st σ Q)) : WM μ pc ls (vI b :: vI a :: st) σ Q := by
  intro hσ hl hs G p l e s m args below meth c C H locs lsA hP hS hL
  have ha : inR a := hs.tl.hd
  have hb : inR b := hs.hd
  exact lv_icmp_gt C.1 C.2.1 hd ht (fun h => k.1 ((qi_lt hb ha).mp h) hσ hl hs.tl.tl G p l e s m args below meth c C H locs lsA hP hS hL) (fun h => k.2 (fun z => h ((qi_lt hb ha).mpr z)) hσ hl hs.tl.tl G p l e s m args below meth c C H locs lsA hP hS hL)
theorem r_if_gt {a : Int} {off : Int} (tgt : Nat) (hd : decode (cd μ) pc = .ok (.ifCond .gt off, 3)) (ht : (pc : Int) + off = (tgt : Int)) (k : (0 < a → WM μ tgt ls st σ Q) ∧ (¬ 0 < a → WM μ (pc + 3) ls st σ Q)) : WM μ pc ls (vI a :: st) σ Q := by
  intro hσ hl hs G p l e s m args below meth c C H locs lsA hP hS hL
  have ha : inR a := hs.hd
  have hb : inR (0 : Int) := by omega
  exact lv_if_gt C.1 C.2.1 hd ht (fun h => k.1 ((qi_lt hb ha).mp h) hσ hl hs.tl G p l e s m args below meth c C H locs lsA hP hS hL) (fun h => k.2 (fun z => h ((qi_lt hb ha).mpr z)) hσ hl hs.tl G p l e s m args below meth c C H locs lsA hP hS hL)
theorem r_icmp_le {a b : Int} {off : Int} (tgt : Nat) (hd : decode (cd μ) pc = .ok (.if_icmp .le off, 3)) (ht : (pc : Int) + off = (tgt : Int)) (k : (a ≤ b → WM μ tgt ls st σ Q) ∧ (¬ a ≤ b → WM μ (pc + 3) ls st σ Q)) : WM μ pc ls (vI b :: vI a :: st) σ Q := by
  intro hσ hl hs G p l e s m args below meth c C H locs lsA hP hS hL
  have ha : inR a := hs.tl.hd
  have hb : inR b := hs.hd
  exact lv_icmp_le C.1 C.2.1 hd ht (fun h => k.1 ((qi_le ha hb).mp h) hσ hl hs.tl.tl G p l e s m args below meth c C H locs lsA hP hS hL) (fun h => k.2 (fun z => h ((qi_le ha hb).mpr z)) hσ hl hs.tl.tl G p l e s m args below meth c C H locs lsA hP hS hL)
theorem r_if_le {a : Int} {off : Int} (tgt : Nat) (hd : decode (cd μ) pc = .ok (.ifCond .le off, 3)) (ht : (pc : Int) + off = (tgt : Int)) (k : (a ≤ 0 → WM μ tgt ls st σ Q) ∧ (¬ a ≤ 0 → WM μ (pc + 3) ls st σ Q)) : WM μ pc ls (vI a :: st) σ Q := by
  intro hσ hl hs G p l e s m args below meth c C H locs lsA hP hS hL
  have ha : inR a := hs.hd
  have hb : inR (0 : Int) := by omega
  exact lv_if_le C.1 C.2.1 hd ht (fun h => k.1 ((qi_le ha hb).mp h) hσ hl hs.tl G p l e s m args below meth c C H locs lsA hP hS hL) (fun h => k.2 (fun z => h ((qi_le ha hb).mpr z)) hσ hl hs.tl G p l e s m args below meth c C H locs lsA hP hS hL)
theorem r_tswIn {a dflt lo hi : Int} {offs : Array Int} {len : Nat} {off : Int} (tgt : Nat) (hd : decode (cd μ) pc = .ok (.tableswitch dflt lo hi offs, len)) (h1 : lo ≤ a) (h2 : a ≤ hi) (ho : offs[(a - lo).toNat]? = some off) (ht : (pc : Int) + off = (tgt : Int)) (k : WM μ tgt ls st σ Q) : WM μ pc ls (vI a :: st) σ Q := by
  intro hσ hl hs G p l e s m args below meth c C H locs lsA hP hS hL
  have ha : inR a := hs.hd
  exact lv_tableIn C.1 C.2.1 hd (by rw [toI ha]; omega) (by rw [toI ha]; omega) (by rw [toI ha]; exact ho) ht (k hσ hl hs.tl G p l e s m args below meth c C H locs lsA hP hS hL)
theorem r_tswOut {a dflt lo hi : Int} {offs : Array Int} {len : Nat} (tgt : Nat) (hd : decode (cd μ) pc = .ok (.tableswitch dflt lo hi offs, len)) (h : a < lo ∨ hi < a) (ht : (pc : Int) + dflt = (tgt : Int)) (k : WM μ tgt ls st σ Q) : WM μ pc ls (vI a :: st) σ Q := by
  intro hσ hl hs G p l e s m args below meth c C H locs lsA hP hS hL
  have ha : inR a := hs.hd
  exact lv_tableOut C.1 C.2.1 hd (by rw [toI ha]; exact h) ht (k hσ hl hs.tl G p l e s m args below meth c C H locs lsA hP hS hL)
theorem r_lsw {a dflt : Int} {ps : Array (Int × Int)} {len : Nat} {off : Int} (tgt : Nat) (hd : decode (cd μ) pc = .ok (.lookupswitch dflt ps, len)) (hp : (ps.toList.zip (ps.toList.drop 1)).all (fun (a, next) => a.1 < next.1) = true) (ho : Op.lookupswitch.offset ps.toList dflt a = off) (ht : (pc : Int) + off = (tgt : Int)) (k : WM μ tgt ls st σ Q) : WM μ pc ls (vI a :: st) σ Q := by
  intro hσ hl hs G p l e s m args below meth c C H locs lsA hP hS hL
  have ha : inR a := hs.hd
  exact lv_lookup C.1 C.2.1 hd hp (by rw [toI ha]; exact ho) ht (k hσ hl hs.tl G p l e s m args below meth c C H locs lsA hP hS hL)
/-- a place of several ways: said once -/
theorem WM.forget {ls' : List (Nat × Vq)} (h : ∀ q ∈ ls', q ∈ ls) (k : WM μ pc ls' st σ Q) : WM μ pc ls st σ Q := by
  intro hσ hl hs G p l e s m args below meth c C H locs lsA hP hS hL
  refine k hσ (fun q hq => hl q (h q hq)) hs G p l e s m args below meth c C H locs lsA hP hS ⟨hL.1, hL.2.1, fun q hq => ?_⟩
  obtain ⟨q0, h0, rfl⟩ := List.mem_map.mp hq
  exact hL.2.2 _ (List.mem_map.mpr ⟨q0, h q0 h0, rfl⟩)
def lpk (ls : List (Nat × Vq)) (is : List Nat) : List (Nat × Vq) := is.filterMap (fun i => ls[i]?)
theorem r_pick {ls' : List (Nat × Vq)} (is : List Nat) (he : lpk ls is = ls') (k : WM μ pc ls' st σ Q) : WM μ pc ls st σ Q := by
  refine WM.forget (fun q hq => ?_) k
  rw [← he] at hq
  obtain ⟨i, -, hi⟩ := List.mem_filterMap.mp hq
  exact List.mem_of_getElem? hi
end RW
