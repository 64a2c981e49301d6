-- rows for the place where the script is read (printed by wip/gen/gen_wz.py)
/-- the script: an array of numbers that stands behind -/
def ZX (z L : Nat) (xs : Nat → Int32) (A : Nat → Prop) (s : State) : Prop := va_X z L xs s s.heap ∧ z < s.heap.size ∧ ¬ A z
def WZ (z L : Nat) (xs : Nat → Int32) (G : Gq) (μ : Md) (pc : Nat) (ls : List (Nat × Vq)) (st : List Vq) (w : Wd) (rc rs : Nat) (Q : Option Vq → Wd → Prop) : Prop :=
  WFd w → XOK G w → okl ls → oks st → ∀ (w0 : Wd), Gw G w0 w → ∀ (A : Nat → Prop) (mc ms : Nat) (p : Program) (l : Launch) (e : Env) (s : State) (m : MethodId) (args : Array Value) (below : List Frame) (meth : Method) (c : Code), CxD μ G A p s m args meth c → ZX z L xs A s →
  ∀ (H : Heap) (locs : List Loc) (lsA : Array Slot) (cs ss : Nat), cs + rc ≤ mc → ss + rs ≤ ms → va_P G.1 vwCl (wld2 G w) H → va_D A (wld2 G w) → va_S A s.heap H locs → lv_has lsA (mL μ) (asq G ls) →
    W p l e (rmD μ mc ms) s m args below meth c H locs cs ss (MQ below (QoD G A w0 Q) args s mc ms A) (F0 m pc lsA (st.map (cv G)))
theorem WZ.wf {z L : Nat} {xs : Nat → Int32} {G : Gq} {μ : Md} {pc : Nat} {ls : List (Nat × Vq)} {st : List Vq} {w : Wd} {rc rs : Nat} {Q : Option Vq → Wd → Prop} (h : WFd w → XOK G w → okl ls → WZ z L xs G μ pc ls st w rc rs Q) : WZ z L xs G μ pc ls st w rc rs Q := fun a b c => h a b c a b c
theorem xs_in (xs : Nat → Int32) (j : Nat) : inR (xs j).toInt := by
  have h1 := Int32.le_toInt (xs j)
  have h2 := Int32.toInt_lt (xs j)
  omega
section ZR
variable {z L : Nat} {xs : Nat → Int32} {G : Gq} {μ : Md} {pc : Nat} {ls : List (Nat × Vq)} {st : List Vq} {w : Wd} {rc rs : Nat} {Q : Option Vq → Wd → Prop}
theorem WZ.forget {ls' : List (Nat × Vq)} (h : ∀ q ∈ ls', q ∈ ls) (k : WZ z L xs G μ pc ls' st w rc rs Q) : WZ z L xs G μ pc ls st w rc rs Q := by
  intro hσ hx hl hs w0 hg A mc ms p l e s m args below meth c C zX H locs lsA cs ss hc hz hP hD hS hL
  refine k hσ hx (fun q hq => hl q (h q hq)) hs w0 hg A mc ms p l e s m args below meth c C zX H locs lsA cs ss hc hz hP hD hS ⟨hL.1, hL.2.1, fun q hq => ?_⟩
  obtain ⟨q0, h0, rfl⟩ := List.mem_map.mp hq
  exact hL.2.2 _ (List.mem_map.mpr ⟨q0, h q0 h0, rfl⟩)
theorem z_pick {ls' : List (Nat × Vq)} (is : List Nat) (he : lpk ls is = ls') (k : WZ z L xs G μ pc ls' st w rc rs Q) : WZ z L xs G μ pc ls st w rc rs Q := by
  refine WZ.forget (fun q hq => ?_) k
  rw [← he] at hq
  obtain ⟨i, -, hi⟩ := List.mem_filterMap.mp hq
  exact List.mem_of_getElem? hi
theorem z_dup2 {v u0 : Vq} (hd : decode (cd μ) pc = .ok (.dup2, 1)) (hv : ct v = 1) (hw : ct u0 = 1) (k : WZ z L xs G μ (pc + 1) ls (v :: u0 :: v :: u0 :: st) w rc rs Q) : WZ z L xs G μ pc ls (v :: u0 :: st) w rc rs Q := by
  intro hσ hx hl hs w0 hg A mc ms p l e s m args below meth c C zX H locs lsA cs ss hc hz hP hD hS hL
  exact lv_dup2_11 C.1 C.2.1 hd (by rw [cv_ct G hs.hd, hv]) (by rw [cv_ct G hs.tl.hd, hw]) (k hσ hx hl (oks_cons hs.hd (oks_cons hs.tl.hd hs)) w0 hg A mc ms p l e s m args below meth c C zX H locs lsA cs ss hc hz hP hD hS hL)
theorem z_aload_nP {j : Fin 4} (r : Option Nat) (hd : decode (cd μ) pc = .ok (.aload_n j, 1)) (hq : lq (j : Nat) ls = some (vP r)) (k : WZ z L xs G μ (pc + 1) ls (vP r :: st) w rc rs Q) : WZ z L xs G μ pc ls st w rc rs Q := by
  intro hσ hx hl hs w0 hg A mc ms p l e s m args below meth c C zX H locs lsA cs ss hc hz hP hD hS hL
  cases r with
  | none => exact lv_aload_nN C.1 C.2.1 hd rfl (asq_at hL (lq_mem hq)) (k hσ hx hl (oks_cons (hl _ (lq_mem hq)) hs) w0 hg A mc ms p l e s m args below meth c C zX H locs lsA cs ss hc hz hP hD hS hL)
  | some a => exact lv_aload_n C.1 C.2.1 hd rfl (asq_at hL (lq_mem hq)) (k hσ hx hl (oks_cons (hl _ (lq_mem hq)) hs) w0 hg A mc ms p l e s m args below meth c C zX H locs lsA cs ss hc hz hP hD hS hL)
theorem z_aloadP {j : Nat} (r : Option Nat) (hd : decode (cd μ) pc = .ok (.aload j, 2)) (hq : lq (j : Nat) ls = some (vP r)) (k : WZ z L xs G μ (pc + 2) ls (vP r :: st) w rc rs Q) : WZ z L xs G μ pc ls st w rc rs Q := by
  intro hσ hx hl hs w0 hg A mc ms p l e s m args below meth c C zX H locs lsA cs ss hc hz hP hD hS hL
  cases r with
  | none => exact lv_aloadN C.1 C.2.1 hd (asq_at hL (lq_mem hq)) (k hσ hx hl (oks_cons (hl _ (lq_mem hq)) hs) w0 hg A mc ms p l e s m args below meth c C zX H locs lsA cs ss hc hz hP hD hS hL)
  | some a => exact lv_aload C.1 C.2.1 hd (asq_at hL (lq_mem hq)) (k hσ hx hl (oks_cons (hl _ (lq_mem hq)) hs) w0 hg A mc ms p l e s m args below meth c C zX H locs lsA cs ss hc hz hP hD hS hL)
theorem z_aload_n {j : Fin 4} {x : Nat} (hd : decode (cd μ) pc = .ok (.aload_n j, 1)) (hq : lq (j : Nat) ls = some (vR x)) (k : WZ z L xs G μ (pc + 1) ls (vR x :: st) w rc rs Q) : WZ z L xs G μ pc ls (st) w rc rs Q := by
  intro hσ hx hl hs w0 hg A mc ms p l e s m args below meth c C zX H locs lsA cs ss hc hz hP hD hS hL
  exact lv_aload_n C.1 C.2.1 hd rfl (asq_at hL (lq_mem hq)) (k hσ hx hl (oks_cons (hl _ (lq_mem hq)) hs) w0 hg A mc ms p l e s m args below meth c C zX H locs lsA cs ss hc hz hP hD hS hL)
theorem z_astoreP {j : Nat} (r : Option Nat) {ls' : List (Nat × Vq)} (hd : decode (cd μ) pc = .ok (.astore j, 2)) (hn : j < mL μ) (he : stl j (vP r) ls = ls') (k : WZ z L xs G μ (pc + 2) ls' st w rc rs Q) : WZ z L xs G μ pc ls (vP r :: st) w rc rs Q := by
  intro hσ hx hl hs w0 hg A mc ms p l e s m args below meth c C zX H locs lsA cs ss hc hz hP hD hS hL
  subst he
  cases r with
  | none => exact lv_astoreN C.1 C.2.1 hd hL hn (asq_stl (i := j) (v := vP none) hl) (fun lsA' hL' => k hσ hx (okl_stl (v := vP none) hl okP) hs.tl w0 hg A mc ms p l e s m args below meth c C zX H locs lsA' cs ss hc hz hP hD hS hL')
  | some a => exact lv_astore C.1 C.2.1 hd hL hn (asq_stl (i := j) (v := vP (some a)) hl) (fun lsA' hL' => k hσ hx (okl_stl (v := vP (some a)) hl okP) hs.tl w0 hg A mc ms p l e s m args below meth c C zX H locs lsA' cs ss hc hz hP hD hS hL')
theorem z_astore_nP {k0 : Fin 4} {j : Nat} (r : Option Nat) {ls' : List (Nat × Vq)} (hd : decode (cd μ) pc = .ok (.astore_n k0, 1)) (hi : (k0 : Nat) = j) (hn : j < mL μ) (he : stl j (vP r) ls = ls') (k : WZ z L xs G μ (pc + 1) ls' st w rc rs Q) : WZ z L xs G μ pc ls (vP r :: st) w rc rs Q := by
  intro hσ hx hl hs w0 hg A mc ms p l e s m args below meth c C zX H locs lsA cs ss hc hz hP hD hS hL
  subst he
  cases r with
  | none => exact lv_astore_nN C.1 C.2.1 hd hi hL hn (asq_stl (i := j) (v := vP none) hl) (fun lsA' hL' => k hσ hx (okl_stl (v := vP none) hl okP) hs.tl w0 hg A mc ms p l e s m args below meth c C zX H locs lsA' cs ss hc hz hP hD hS hL')
  | some a => exact lv_astore_n C.1 C.2.1 hd hi hL hn (asq_stl (i := j) (v := vP (some a)) hl) (fun lsA' hL' => k hσ hx (okl_stl (v := vP (some a)) hl okP) hs.tl w0 hg A mc ms p l e s m args below meth c C zX H locs lsA' cs ss hc hz hP hD hS hL')
theorem z_bipush {n : Int} (hd : decode (cd μ) pc = .ok (.bipush n, 2)) (hv : (Int8.ofInt n).toInt32 = Int32.ofInt n) (hn : inR n) (k : WZ z L xs G μ (pc + 2) ls (vI n :: st) w rc rs Q) : WZ z L xs G μ pc ls (st) w rc rs Q := by
  intro hσ hx hl hs w0 hg A mc ms p l e s m args below meth c C zX H locs lsA cs ss hc hz hP hD hS hL
  exact lv_bipush C.1 C.2.1 hd hv (k hσ hx hl (oks_cons (v := vI n) hn hs) w0 hg A mc ms p l e s m args below meth c C zX H locs lsA cs ss hc hz hP hD hS hL)
theorem z_callIN {ν : Md} {a idx n mc1 ms1 : Nat} (host : String) (vs : List Vq) {stk : List Vq} (hν : MdOK ν) (hi : Cond.instanceMethod (mn ν) ∈ UW) (hnm : (mn ν).name = "<init>") (hrt : rt ν = none) (hw : Cond.methodLinkNest (mn μ).cls idx (mn ν) host ∈ nwq) (hn : (parseMethodDescriptor (mn ν).desc).map (fun d => d.parameters.length) = some n) (hvn : vs.length = n)
    (hR : fr ν + 1 ≤ fr μ ∧ 8 + (mL ν + 11) + lo ν ≤ lo μ) (hsum : (st.map ct).sum ≤ 8) (hstk : stk = vs.reverse ++ vA a :: st) (hd : decode (cd μ) pc = .ok (.invokespecial idx, 3)) (hm1 : mc1 ≤ rc) (hm2 : ms1 ≤ rs)
    (kk : DC G ν (vA a :: vs) w mc1 ms1 (fun r w' => WZ z L xs G μ (pc + 3) ls (r.toList ++ st) w' (rc - mc1) (rs - ms1) Q)) : WZ z L xs G μ pc ls stk w rc rs Q := by
  subst hstk
  intro hσ hx hl hs w0 hg A mc ms p l e s m args below meth c C zX H locs lsA cs ss hcb hzb hP hD hS hL
  obtain ⟨Q0, hk0, hM⟩ := kk
  have hs1 : oks vs := fun v hv => (hs.app).1 v (List.mem_reverse.mpr hv)
  have hs2 : oks st := (hs.app).2.tl
  have hM := hM hσ hx (oks_cons (v := vA a) okA hs1) l H.size
  have hts := C.2.2.2.2.2.2.1
  have hED := C.2.2.2.2.2.2.2.2.2.2
  have hB : va_CN (rmD μ mc ms) s args (mn μ).cls idx (mn ν) host (cd ν) (mL ν) (rt ν) (wsq ν) (rmD ν mc1 ms1) mc1 ms1 n := by
    refine ⟨⟨rfl, rfl, hR.1, hR.2, d_goods (μ := ν) hν hts, List.mem_cons_self⟩, hts _ hν.1, hts _ hν.2.1, hν.2.2.1, fun sig h => ?_, va_Nw.use rfl (hED.1.2.2.2.2 _ hw)⟩
    rw [h] at hn
    exact (Option.some.inj hn).symm
  rw [hrt] at hB
  refine d_call (Q0 := Q0) (a := ((vA a :: vs).map (cv G)).toArray) (rest := st.map (cv G)) (va_runIN (As := vs.map (cv G)) (b := a) (n := n) ⟨C.1, C.2.1, C.2.2.1, C.2.2.2.2.2.1, hts⟩ hM ⟨hB, hnm, hts _ hi⟩
    ⟨PrD_blind, C.pre hP hD hS⟩ rfl (by rw [List.length_map]; exact hvn) hL.1 (by rw [List.map_append, List.map_reverse]; rfl) (lv_room (by rw [q_cats hs2]; exact hsum)) hd ⟨by show cs + mc1 ≤ mc; omega, by show ss + ms1 ≤ ms; omega⟩) hD hS C.2.2.2.2.2.2.2.2.1 (fun r w' H1 locs1 hσ' hx' hr hg' hq0 hP1 hD1 hS1 => ?_)
  rw [q_rest]; exact hk0 r w' hσ' hx' hr hg' hq0 hσ' hx' hl (oks_rest hr hs2) w0 (hg.tr hg') A mc ms p l e s m args below meth c C zX H1 locs1 lsA (cs + mc1) (ss + ms1) (by omega) (by omega) hP1 hD1 hS1 hL
theorem z_callS {ν : Md} {idx n mc1 ms1 : Nat} (vs : List Vq) {stk : List Vq} (hν : MdOK ν) (hv : Cond.static (mn ν) ∈ UW) (hw : Cond.methodLink (mn μ).cls idx (mn ν) ∈ UW) (hn : (parseMethodDescriptor (mn ν).desc).map (fun d => d.parameters.length) = some n) (hvn : vs.length = n)
    (hR : fr ν + 1 ≤ fr μ ∧ 8 + (mL ν + 11) + lo ν ≤ lo μ) (hsum : (st.map ct).sum ≤ 8) (hstk : stk = vs.reverse ++ st) (hd : decode (cd μ) pc = .ok (.invokestatic idx, 3)) (hm1 : mc1 ≤ rc) (hm2 : ms1 ≤ rs)
    (kk : DC G ν vs w mc1 ms1 (fun r w' => WZ z L xs G μ (pc + 3) ls (r.toList ++ st) w' (rc - mc1) (rs - ms1) Q)) : WZ z L xs G μ pc ls stk w rc rs Q := by
  subst hstk
  intro hσ hx hl hs w0 hg A mc ms p l e s m args below meth c C zX H locs lsA cs ss hcb hzb hP hD hS hL
  obtain ⟨Q0, hk0, hM⟩ := kk
  have hs1 : oks vs := fun v hv => (hs.app).1 v (List.mem_reverse.mpr hv)
  have hs2 : oks st := (hs.app).2
  have hM := hM hσ hx hs1 l H.size
  have hts := C.2.2.2.2.2.2.1
  refine d_call (Q0 := Q0) (a := (vs.map (cv G)).toArray) (rest := st.map (cv G)) (va_runS (As := vs.map (cv G)) (n := n) ⟨C.1, C.2.1, C.2.2.1, C.2.2.2.2.2.1, hts⟩ hM ⟨d_callB hν hts hR.1 hR.2 hn hw, hts _ hv⟩
    ⟨PrD_blind, C.pre hP hD hS⟩ rfl (by rw [List.length_map]; exact hvn) hL.1 (by rw [List.map_append, List.map_reverse]) (lv_room (by rw [q_cats hs2]; exact hsum)) hd ⟨by show cs + mc1 ≤ mc; omega, by show ss + ms1 ≤ ms; omega⟩) hD hS C.2.2.2.2.2.2.2.2.1 (fun r w' H1 locs1 hσ' hx' hr hg' hq0 hP1 hD1 hS1 => ?_)
  rw [q_rest]; exact hk0 r w' hσ' hx' hr hg' hq0 hσ' hx' hl (oks_rest hr hs2) w0 (hg.tr hg') A mc ms p l e s m args below meth c C zX H1 locs1 lsA (cs + mc1) (ss + ms1) (by omega) (by omega) hP1 hD1 hS1 hL
theorem z_callV {ν : Md} {a ci idx n mc1 ms1 : Nat} {q : vw_C} (vs : List Vq) {stk : List Vq} (hν : MdOK ν) (hv : MdV ν) (hI : Is G w a (kO ci)) (hc : vwCl[ci]? = some q) (hq : q.1 = (mn ν).cls) (hw : Cond.methodLink (mn μ).cls idx (mn ν) ∈ UW) (hn : (parseMethodDescriptor (mn ν).desc).map (fun d => d.parameters.length) = some n) (hvn : vs.length = n)
    (hR : fr ν + 1 ≤ fr μ ∧ 8 + (mL ν + 11) + lo ν ≤ lo μ) (hsum : (st.map ct).sum ≤ 8) (hstk : stk = vs.reverse ++ vA a :: st) (hd : decode (cd μ) pc = .ok (.invokevirtual idx, 3)) (hm1 : mc1 ≤ rc) (hm2 : ms1 ≤ rs)
    (kk : DC G ν (vA a :: vs) w mc1 ms1 (fun r w' => WZ z L xs G μ (pc + 3) ls (r.toList ++ st) w' (rc - mc1) (rs - ms1) Q)) : WZ z L xs G μ pc ls stk w rc rs Q := by
  subst hstk
  intro hσ hx hl hs w0 hg A mc ms p l e s m args below meth c C zX H locs lsA cs ss hcb hzb hP hD hS hL
  obtain ⟨Q0, hk0, hM⟩ := kk
  have hs1 : oks vs := fun v hv => (hs.app).1 v (List.mem_reverse.mpr hv)
  have hs2 : oks st := (hs.app).2.tl
  have hM := hM hσ hx (oks_cons (v := vA a) okA hs1) l H.size
  have hts := C.2.2.2.2.2.2.1
  refine d_call (Q0 := Q0) (a := ((vA a :: vs).map (cv G)).toArray) (rest := st.map (cv G)) (va_runV (As := vs.map (cv G)) (C := (mn ν).cls) (b := a) (n := n) ⟨C.1, C.2.1, C.2.2.1, C.2.2.2.2.2.1, hts⟩ hM ⟨d_callB hν hts hR.1 hR.2 hn hw, hts _ hv.1, hts _ hv.2⟩
    ⟨PrD_blind, ?_, C.pre hP hD hS⟩ rfl (by rw [List.length_map]; exact hvn) hL.1 (by rw [List.map_append, List.map_reverse]; rfl) (lv_room (by rw [q_cats hs2]; exact hsum)) hd ⟨by show cs + mc1 ≤ mc; omega, by show ss + ms1 ≤ ms; omega⟩) hD hS C.2.2.2.2.2.2.2.2.1 (fun r w' H1 locs1 hσ' hx' hr hg' hq0 hP1 hD1 hS1 => ?_)
  · have := recq_of hI hx hc hP C.2.2.2.2.2.2.2.1 C.2.2.2.2.2.2.2.2.2.2 hS
    rw [hq] at this
    exact this
  · rw [q_rest]; exact hk0 r w' hσ' hx' hr hg' hq0 hσ' hx' hl (oks_rest hr hs2) w0 (hg.tr hg') A mc ms p l e s m args below meth c C zX H1 locs1 lsA (cs + mc1) (ss + ms1) (by omega) (by omega) hP1 hD1 hS1 hL
theorem z_dup {v : Vq} (hd : decode (cd μ) pc = .ok (.dup, 1)) (hv : ct v = 1) (k : WZ z L xs G μ (pc + 1) ls (v :: v :: st) w rc rs Q) : WZ z L xs G μ pc ls (v :: st) w rc rs Q := by
  intro hσ hx hl hs w0 hg A mc ms p l e s m args below meth c C zX H locs lsA cs ss hc hz hP hD hS hL
  exact lv_dup C.1 C.2.1 hd (by rw [cv_ct G hs.hd, hv]) (k hσ hx hl (oks_cons hs.hd hs) w0 hg A mc ms p l e s m args below meth c C zX H locs lsA cs ss hc hz hP hD hS hL)
theorem z_goto {off : Int} (tgt : Nat) (hd : decode (cd μ) pc = .ok (.goto off, 3)) (ht : (pc : Int) + off = (tgt : Int)) (k : WZ z L xs G μ tgt ls st w rc rs Q) : WZ z L xs G μ pc ls (st) w rc rs Q := by
  intro hσ hx hl hs w0 hg A mc ms p l e s m args below meth c C zX H locs lsA cs ss hc hz hP hD hS hL
  exact lv_goto C.1 C.2.1 hd ht (k hσ hx hl hs w0 hg A mc ms p l e s m args below meth c C zX H locs lsA cs ss hc hz hP hD hS hL)
theorem z_iald {a n : Nat} {i : Int} (hI : Is G w a (kA 0 n)) (hd : decode (cd μ) pc = .ok (.iaload, 1)) (h0 : 0 ≤ i) (h1 : i < (n : Int)) {y : Int} (hy : wI w a i = y) (kk : WZ z L xs G μ (pc + 1) ls (vI y :: st) w rc rs Q) : WZ z L xs G μ pc ls (vI i :: vA a :: st) w rc rs Q := by
  intro hσ hx hl hs w0 hg A mc ms p l e s m args below meth c C zX H locs lsA cs ss hc hz hP hD hS hL
  subst hy
  have hi0 : inR i := hs.hd
  have go := kk hσ hx hl (oks_cons (v := vI (wI w a i)) (hσ.2 a i).1 hs.tl.tl) w0 hg A mc ms p l e s m args below meth c C zX H locs lsA cs ss hc hz hP hD hS hL
  rcases hI.1 with hm | ⟨q, hq, rfl⟩
  · refine va_iald (D := G.1) (cl := vwCl) (tys := tyD G) C.1 C.2.1 C.2.2.2.2.2.2.2.1 (rd_at hP hm) 0 0 (by rw [dent_kA hI.2]; rfl) rfl (qi_in h0 h1 hi0) hd ?_
    rw [qi_clamp hi0, Int.toNat_of_nonneg h0]
    exact go
  · have h := C.2.2.2.2.2.2.2.2.2.2.1.2.1 q hq
    have hkd := (hx q hq).1
    rw [hI.2] at hkd
    unfold Xat at h
    rw [← hkd] at h
    exact absurd (xk_A q hq 0 n hkd.symm) (by decide)
theorem z_iandq {a b : Int} (hd : decode (cd μ) pc = .ok (.iand, 1)) (k : WZ z L xs G μ (pc + 1) ls (vI (iandq a b) :: st) w rc rs Q) : WZ z L xs G μ pc ls (vI b :: vI a :: st) w rc rs Q := by
  intro hσ hx hl hs w0 hg A mc ms p l e s m args below meth c C zX H locs lsA cs ss hcb hzb hP hD hS hL
  refine lv_iand C.1 C.2.1 hd  ?_
  have go := k hσ hx hl (oks_cons (v := vI (iandq a b)) (toI_in _) hs.tl.tl) w0 hg A mc ms p l e s m args below meth c C zX H locs lsA cs ss hcb hzb hP hD hS hL
  rw [List.map_cons, show cv G (vI (iandq a b)) = Value.int (Int32.ofInt (iandq a b)) from rfl] at go
  unfold iandq at go
  rw [Int32.ofInt_toInt] at go
  exact go
theorem z_iast {a n : Nat} {i x : Int} (hO : Ow w a (kA 0 n)) (hd : decode (cd μ) pc = .ok (.iastore, 1)) (h0 : 0 ≤ i) (h1 : i < (n : Int))  (kk : WZ z L xs G μ (pc + 1) ls st (uI w a i x) rc rs Q) : WZ z L xs G μ pc ls (vI x :: vI i :: vA a :: st) w rc rs Q := by
  intro hσ hx hl hs w0 hg A mc ms p l e s m args below meth c C zX H locs lsA cs ss hc hz hP hD hS hL
  have hi0 : inR i := hs.tl.hd
  have hxr : inR x := hs.hd
  obtain ⟨k0, hk0⟩ := wld2_at (G := G) hO.1
  have hk1 := hk0
  rw [dent_kA hO.2] at hk1
  have hAa : A a := hO.A hD
  have hED := C.2.2.2.2.2.2.2.2.2.2
  refine va_iast (D := G.1) (cl := vwCl) (tys := tyD G) C.1 C.2.1 C.2.2.2.2.2.2.2.1 hP hD hS (38 + k0) 0 hk1 rfl (qi_in h0 h1 hi0) hd (fun H1 locs1 hP1 hD1 hS1 => ?_)
  rw [qi_clamp hi0, wld2_set hD hk0 (q_setA hO.2 h0) rfl rfl (fun b hb => dent_same (w := w) (w' := uI w a i x) rfl (fun _ => wI_uI_a hb) (fun _ => rfl) (fun _ => rfl))] at hP1 hD1
  exact kk (uI_wf hσ hxr) (hx.wr hED hAa rfl (fun b hb _ => wI_uI_a hb) (fun _ _ _ => rfl) (fun _ _ _ => rfl)) hl hs.tl.tl.tl w0 (hg.tr (Gw.wr hED hAa rfl rfl (fun b hb _ => wI_uI_a hb) (fun _ _ _ => rfl))) A mc ms p l e s m args below meth c C zX H1 locs1 lsA cs ss hc hz hP1 hD1 hS1 hL
theorem z_icmp_ge {a b : Int} {off : Int} (tgt : Nat) (hd : decode (cd μ) pc = .ok (.if_icmp .ge off, 3)) (ht : (pc : Int) + off = (tgt : Int)) (k : (b ≤ a → WZ z L xs G μ tgt ls st w rc rs Q) ∧ (¬ b ≤ a → WZ z L xs G μ (pc + 3) ls st w rc rs Q)) : WZ z L xs G μ pc ls (vI b :: vI a :: st) w rc rs Q := by
  intro hσ hx hl hs w0 hg A mc ms p l e s m args below meth c C zX H locs lsA cs ss hc hz hP hD hS hL
  have ha : inR a := hs.tl.hd
  have hb : inR b := hs.hd
  exact lv_icmp_ge C.1 C.2.1 hd ht (fun h => k.1 ((qi_le hb ha).mp h) hσ hx hl hs.tl.tl w0 hg A mc ms p l e s m args below meth c C zX H locs lsA cs ss hc hz hP hD hS hL) (fun h => k.2 (fun z => h ((qi_le hb ha).mpr z)) hσ hx hl hs.tl.tl w0 hg A mc ms p l e s m args below meth c C zX H locs lsA cs ss hc hz hP hD hS hL)
theorem z_icmp_ne {a b : Int} {off : Int} (tgt : Nat) (hd : decode (cd μ) pc = .ok (.if_icmp .ne off, 3)) (ht : (pc : Int) + off = (tgt : Int)) (k : (¬ a = b → WZ z L xs G μ tgt ls st w rc rs Q) ∧ (a = b → WZ z L xs G μ (pc + 3) ls st w rc rs Q)) : WZ z L xs G μ pc ls (vI b :: vI a :: st) w rc rs Q := by
  intro hσ hx hl hs w0 hg A mc ms p l e s m args below meth c C zX H locs lsA cs ss hc hz hP hD hS hL
  have ha : inR a := hs.tl.hd
  have hb : inR b := hs.hd
  exact lv_icmp_ne C.1 C.2.1 hd ht (fun h => k.1 ((not_congr (qi_eq ha hb)).mp h) hσ hx hl hs.tl.tl w0 hg A mc ms p l e s m args below meth c C zX H locs lsA cs ss hc hz hP hD hS hL) (fun h => k.2 ((qi_eq ha hb).mp h) hσ hx hl hs.tl.tl w0 hg A mc ms p l e s m args below meth c C zX H locs lsA cs ss hc hz hP hD hS hL)
theorem z_iconst {n : Int} (hd : decode (cd μ) pc = .ok (.iconst n, 1)) (hn : inR n) (k : WZ z L xs G μ (pc + 1) ls (vI n :: st) w rc rs Q) : WZ z L xs G μ pc ls (st) w rc rs Q := by
  intro hσ hx hl hs w0 hg A mc ms p l e s m args below meth c C zX H locs lsA cs ss hc hz hP hD hS hL
  exact lv_iconst C.1 C.2.1 hd rfl (k hσ hx hl (oks_cons (v := vI n) hn hs) w0 hg A mc ms p l e s m args below meth c C zX H locs lsA cs ss hc hz hP hD hS hL)
theorem z_if_eq {a : Int} {off : Int} (tgt : Nat) (hd : decode (cd μ) pc = .ok (.ifCond .eq off, 3)) (ht : (pc : Int) + off = (tgt : Int)) (k : (a = 0 → WZ z L xs G μ tgt ls st w rc rs Q) ∧ (¬ a = 0 → WZ z L xs G μ (pc + 3) ls st w rc rs Q)) : WZ z L xs G μ pc ls (vI a :: st) w rc rs Q := by
  intro hσ hx hl hs w0 hg A mc ms p l e s m args below meth c C zX H locs lsA cs ss hc hz hP hD hS hL
  have ha : inR a := hs.hd
  have hb : inR (0 : Int) := by omega
  exact lv_if_eq C.1 C.2.1 hd ht (fun h => k.1 ((qi_eq ha hb).mp h) hσ hx hl hs.tl w0 hg A mc ms p l e s m args below meth c C zX H locs lsA cs ss hc hz hP hD hS hL) (fun h => k.2 (fun z => h ((qi_eq ha hb).mpr z)) hσ hx hl hs.tl w0 hg A mc ms p l e s m args below meth c C zX H locs lsA cs ss hc hz hP hD hS hL)
theorem z_if_ne {a : Int} {off : Int} (tgt : Nat) (hd : decode (cd μ) pc = .ok (.ifCond .ne off, 3)) (ht : (pc : Int) + off = (tgt : Int)) (k : (¬ a = 0 → WZ z L xs G μ tgt ls st w rc rs Q) ∧ (a = 0 → WZ z L xs G μ (pc + 3) ls st w rc rs Q)) : WZ z L xs G μ pc ls (vI a :: st) w rc rs Q := by
  intro hσ hx hl hs w0 hg A mc ms p l e s m args below meth c C zX H locs lsA cs ss hc hz hP hD hS hL
  have ha : inR a := hs.hd
  have hb : inR (0 : Int) := by omega
  exact lv_if_ne C.1 C.2.1 hd ht (fun h => k.1 ((not_congr (qi_eq ha hb)).mp h) hσ hx hl hs.tl w0 hg A mc ms p l e s m args below meth c C zX H locs lsA cs ss hc hz hP hD hS hL) (fun h => k.2 ((qi_eq ha hb).mp h) hσ hx hl hs.tl w0 hg A mc ms p l e s m args below meth c C zX H locs lsA cs ss hc hz hP hD hS hL)
theorem z_iinc {j : Nat} {n x : Int} {ls' : List (Nat × Vq)} (hd : decode (cd μ) pc = .ok (.iinc j n, 3)) (hq : lq j ls = some (vI x)) (ho : inR (x + n)) (hn : j < mL μ) (he : stl j (vI (x + n)) ls = ls') (k : WZ z L xs G μ (pc + 3) ls' (st) w rc rs Q) : WZ z L xs G μ pc ls (st) w rc rs Q := by
  intro hσ hx hl hs w0 hg A mc ms p l e s m args below meth c C zX H locs lsA cs ss hc hz hP hD hS hL
  subst he
  obtain ⟨i, hi⟩ := List.getElem?_of_mem (List.mem_map.mpr ⟨(j, vI x), lq_mem hq, rfl⟩ : (j, cv G (vI x)) ∈ asq G ls)
  exact lv_iinc C.1 C.2.1 hd hL hi (qi_add x n) hn (asq_stl (v := vI (x + n)) hl) (fun lsA' hL' => k hσ hx (okl_stl (v := vI (x + n)) hl ho) hs w0 hg A mc ms p l e s m args below meth c C zX H locs lsA' cs ss hc hz hP hD hS hL')
theorem z_iload {j : Nat} {x : Int} (hd : decode (cd μ) pc = .ok (.iload j, 2)) (hq : lq j ls = some (vI x)) (k : WZ z L xs G μ (pc + 2) ls (vI x :: st) w rc rs Q) : WZ z L xs G μ pc ls (st) w rc rs Q := by
  intro hσ hx hl hs w0 hg A mc ms p l e s m args below meth c C zX H locs lsA cs ss hc hz hP hD hS hL
  exact lv_iload C.1 C.2.1 hd (asq_at hL (lq_mem hq)) (k hσ hx hl (oks_cons (hl _ (lq_mem hq)) hs) w0 hg A mc ms p l e s m args below meth c C zX H locs lsA cs ss hc hz hP hD hS hL)
theorem z_iload_n {j : Fin 4} {x : Int} (hd : decode (cd μ) pc = .ok (.iload_n j, 1)) (hq : lq (j : Nat) ls = some (vI x)) (k : WZ z L xs G μ (pc + 1) ls (vI x :: st) w rc rs Q) : WZ z L xs G μ pc ls (st) w rc rs Q := by
  intro hσ hx hl hs w0 hg A mc ms p l e s m args below meth c C zX H locs lsA cs ss hc hz hP hD hS hL
  exact lv_iload_n C.1 C.2.1 hd rfl (asq_at hL (lq_mem hq)) (k hσ hx hl (oks_cons (hl _ (lq_mem hq)) hs) w0 hg A mc ms p l e s m args below meth c C zX H locs lsA cs ss hc hz hP hD hS hL)
theorem z_irem {a b : Int} (hd : decode (cd μ) pc = .ok (.irem, 1)) (hb : b ≠ 0) (ho : inR (a.tmod b)) (k : WZ z L xs G μ (pc + 1) ls (vI (a.tmod b) :: st) w rc rs Q) : WZ z L xs G μ pc ls (vI b :: vI a :: st) w rc rs Q := by
  intro hσ hx hl hs w0 hg A mc ms p l e s m args below meth c C zX H locs lsA cs ss hc hz hP hD hS hL
  refine lv_irem C.1 C.2.1 hd (fun h => hb ((qi_eq (b := 0) (show inR b from hs.hd) (by omega)).mp h)) ?_
  rw [qi_rem (show inR a from hs.tl.hd) (show inR b from hs.hd)]
  exact (k hσ hx hl (oks_cons (v := vI (a.tmod b)) ho hs.tl.tl) w0 hg A mc ms p l e s m args below meth c C zX H locs lsA cs ss hc hz hP hD hS hL)
theorem z_iremn {a b : Int} (hd : decode (cd μ) pc = .ok (.irem, 1)) (ha : 0 ≤ a) (hb0 : 0 < b) (k : WZ z L xs G μ (pc + 1) ls (vI (a % b) :: st) w rc rs Q) : WZ z L xs G μ pc ls (vI b :: vI a :: st) w rc rs Q := by
  intro hσ hx hl hs w0 hg A mc ms p l e s m args below meth c C zX H locs lsA cs ss hc hz hP hD hS hL
  have h1 := q_mod_le ha hb0
  have h2 : inR a := hs.tl.hd
  exact z_irem hd (by omega) (by rw [q_mod_nn ha hb0]; omega) (by rw [q_mod_nn ha hb0]; exact k) hσ hx hl hs w0 hg A mc ms p l e s m args below meth c C zX H locs lsA cs ss hc hz hP hD hS hL
theorem z_istore {j : Nat} {x : Int} {ls' : List (Nat × Vq)} (hd : decode (cd μ) pc = .ok (.istore j, 2))  (hn : j < mL μ) (he : stl j (vI x) ls = ls') (k : WZ z L xs G μ (pc + 2) ls' (st) w rc rs Q) : WZ z L xs G μ pc ls (vI x :: st) w rc rs Q := by
  intro hσ hx hl hs w0 hg A mc ms p l e s m args below meth c C zX H locs lsA cs ss hc hz hP hD hS hL
  subst he
  exact lv_istore C.1 C.2.1 hd hL hn (asq_stl (i := j) (v := vI x) hl) (fun lsA' hL' => k hσ hx (okl_stl hl hs.hd) hs.tl w0 hg A mc ms p l e s m args below meth c C zX H locs lsA' cs ss hc hz hP hD hS hL')
theorem z_ixorq {a b : Int} (hd : decode (cd μ) pc = .ok (.ixor, 1)) (k : WZ z L xs G μ (pc + 1) ls (vI (ixorq a b) :: st) w rc rs Q) : WZ z L xs G μ pc ls (vI b :: vI a :: st) w rc rs Q := by
  intro hσ hx hl hs w0 hg A mc ms p l e s m args below meth c C zX H locs lsA cs ss hcb hzb hP hD hS hL
  refine lv_ixor C.1 C.2.1 hd  ?_
  have go := k hσ hx hl (oks_cons (v := vI (ixorq a b)) (toI_in _) hs.tl.tl) w0 hg A mc ms p l e s m args below meth c C zX H locs lsA cs ss hcb hzb hP hD hS hL
  rw [List.map_cons, show cv G (vI (ixorq a b)) = Value.int (Int32.ofInt (ixorq a b)) from rfl] at go
  unfold ixorq at go
  rw [Int32.ofInt_toInt] at go
  exact go
theorem z_ldc {i : Nat} {v : Int32} (n : Int) (hd : decode (cd μ) pc = .ok (.ldc i, 2)) (hw : Cond.constant (mn μ).cls i v ∈ UW) (hv : v = Int32.ofInt n) (hn : inR n) (k : WZ z L xs G μ (pc + 2) ls (vI n :: st) w rc rs Q) : WZ z L xs G μ pc ls (st) w rc rs Q := by
  intro hσ hx hl hs w0 hg A mc ms p l e s m args below meth c C zX H locs lsA cs ss hc hz hP hD hS hL
  subst hv
  exact lv_ldc C.1 C.2.1 C.2.2.2.2.2.1 (C.2.2.2.2.2.2.1 _ hw) hd (k hσ hx hl (oks_cons (v := vI n) hn hs) w0 hg A mc ms p l e s m args below meth c C zX H locs lsA cs ss hc hz hP hD hS hL)
theorem z_new {idx ci N : Nat} {Cn : String} {T : u_T} {ty : Nat → FieldType} (hd : decode (cd μ) pc = .ok (.new idx, 3)) (hC : ClOK ci Cn T N) (hty : ∀ k, k < N → parseFieldDescriptor (T k).2.2.1 = some (ty k)) (h1 : Cond.classLink (mn μ).cls idx Cn ∈ UW) (h2 : Cond.instantiable Cn N ∈ UW) (h3 : Cond.initialized Cn ∈ UW) (hfs : ∀ j, j < N → defaultValue (ty j) = vp_V (dfq (fdq ci)) j) (hc1 : 1 ≤ rc) (hs1 : N ≤ rs)
    (kk : ∀ q : Nat, Fr G w q → WZ z L xs G μ (pc + 3) ls (vA q :: st) (uN w q (kO ci)) (rc - 1) (rs - N) Q) : WZ z L xs G μ pc ls st w rc rs Q := by
  intro hσ hx hl hs w0 hg A mc ms p l e s m args below meth c C zX H locs lsA cs ss hc hz hP hD hS hL
  have hts := C.2.2.2.2.2.2.1
  refine va_new C.1 C.2.1 hts hC.2 ty hty C.2.2.2.2.2.1 (hts _ h1) (hts _ h2) (hts _ h3) C.2.2.2.2.2.2.2.1 hP hD hS C.2.2.2.2.2.2.2.2.1 hC.1 hfs (by show cs + 1 ≤ mc; omega) (by show ss + N ≤ ms; omega) hd (fun q H1 hP1 hD1 hS1 => ?_)
  have hq := fr_of C.2.2.2.2.2.2.2.2.2.2 hD1
  have ew : wld2 G w ++ [(q, .inr (ci, dfq (fdq ci)))] = wld2 G (uN w q (kO ci)) := wld2_uN hq.1 (by rw [dent_kO wK_uN_s, dfl_nw])
  rw [ew] at hP1 hD1
  exact kk q hq (uN_wf hσ) (uN_x hx hq) hl (oks_cons (v := vA q) okA hs) w0 (hg.tr (uN_g hq)) A mc ms p l e s m args below meth c C zX H1 locs lsA (cs + 1) (ss + N) (by omega) (by omega) hP1 hD1 hS1 hL
theorem z_newa {atype : ArrayType} {ty : FieldType} {t : Nat} {x : Int} (n : Nat) (hxn : x = (n : Int)) (hd : decode (cd μ) pc = .ok (.newarray atype, 2)) (hty : newarray.typeOf atype = ty) (harr : Cond.arrayClass ty ∈ UW) (ht : ∀ G : Gq, (tyD G)[t]? = some (G.2.2 t, ty)) (hra : ∀ (U : State) (cB : ClassId), va_RA U cB ty = (U.vm.findClass ("[" ++ ty.toString) = some cB)) (hzz : ∀ cA : ClassId, vp_cell cA (n, .inl (fun _ => 0)) = arrV cA n (fun _ => defaultValue ty)) (hby : n ≤ 100000) (hcb : componentBytes ty ≤ 8) (hc1 : 1 ≤ rc) (hs1 : n ≤ rs)
    (kk : ∀ q : Nat, Fr G w q → WZ z L xs G μ (pc + 2) ls (vA q :: st) (uN w q (kA t n)) (rc - 1) (rs - n) Q) : WZ z L xs G μ pc ls (vI x :: st) w rc rs Q := by
  intro hσ hx hl hs w0 hg A mc ms p l e s m args below meth c C zX H locs lsA cs ss hc hz hP hD hS hL
  have hts := C.2.2.2.2.2.2.1
  have hK := C.2.2.2.2.2.2.2.1
  have hxr : inR x := hs.hd
  have hn0 : ¬ Int32.ofInt x < 0 := by
    rw [show (0 : Int32) = Int32.ofInt 0 from rfl, qi_lt hxr (by decide)]; omega
  have hnn : (Int32.ofInt x).toNatClampNeg = n := by rw [qi_clamp hxr, hxn]; rfl
  refine va_newa C.1 C.2.1 (by rw [hty]; exact hts _ harr) hty hK hP hD hS C.2.2.2.2.2.2.2.2.1 (a0 := (n, .inl (fun _ => 0))) hzz hn0 hnn (Nat.le_trans (Nat.mul_le_mul hby hcb) (Nat.le_of_ble_eq_true rfl)) (by show cs + 1 ≤ mc; omega) (by show ss + n ≤ ms; omega) hd (fun q cB H1 hK1 hP1 hD1 hS1 => ?_)
  have hcc : G.2.2 t = cB := by
    have h1 := (hK.2 t _ (ht G)).2
    have h2 := (hK1.2 (tyD G).length (cB, ty) (by simp)).2
    rw [hra] at h1 h2
    exact Option.some.inj (h1.symm.trans h2)
  subst hcc
  have hq := fr_of C.2.2.2.2.2.2.2.2.2.2 hD1
  have ew : wld2 G w ++ [(q, .inl (G.2.2 t, n, .inl (fun _ => 0)))] = wld2 G (uN w q (kA t n)) := wld2_uN hq.1 (by
    rw [dent_kA wK_uN_s]
    congr 4
    funext j
    rw [wI_uN_s]; rfl)
  rw [ew] at hP1 hD1
  exact kk q hq (uN_wf hσ) (uN_x hx hq) hl (oks_cons (v := vA q) okA hs.tl) w0 (hg.tr (uN_g hq)) A mc ms p l e s m args below meth c C zX H1 locs lsA (cs + 1) (ss + n) (by omega) (by omega) hP1 hD1 hS1 hL
theorem z_zreturn {v : Int} {K : Int → Wd → Prop} (hr : rt μ = some .boolean) (hd : decode (cd μ) pc = .ok (.ireturn, 1)) (hv : v = 0 ∨ v = 1) (kk : K v w) : WZ z L xs G μ pc ls [vI v] w rc rs (yI K) := by
  intro hσ hx hl hs w0 hg A mc ms p l e s m args below meth c C zX H locs lsA cs ss hc hz hP hD hS hL
  exact W.widen (by omega) (by omega) (W.zret (v := Int32.ofInt v) C.1 C.2.1 (by rw [C.2.2.2.1, hr]) (by rcases hv with h | h <;> subst h <;> decide +kernel) (fun t ht hW => ⟨⟨some (vI v), w, rfl, hσ, hx, hs.hd, hg, ⟨v, rfl, kk⟩, by rw [ht]; exact hP, hD⟩, hS.F ht⟩) hS.2.2 hd C.2.2.2.2.1)
theorem z_ireturn {v : Int} {K : Int → Wd → Prop} (hr : rt μ = some .int) (hd : decode (cd μ) pc = .ok (.ireturn, 1)) (kk : K v w) : WZ z L xs G μ pc ls [vI v] w rc rs (yI K) := by
  intro hσ hx hl hs w0 hg A mc ms p l e s m args below meth c C zX H locs lsA cs ss hc hz hP hD hS hL
  exact W.widen (by omega) (by omega) (W.iret (v := Int32.ofInt v) C.1 C.2.1 (by rw [C.2.2.2.1, hr]) (fun t ht hW => ⟨⟨some (vI v), w, rfl, hσ, hx, hs.hd, hg, ⟨v, rfl, kk⟩, by rw [ht]; exact hP, hD⟩, hS.F ht⟩) hS.2.2 hd C.2.2.2.2.1)
theorem z_slen (hL : (L : Int) ≤ 260 := by assumption) (hd : decode (cd μ) pc = .ok (.arraylength, 1)) (kk : WZ z L xs G μ (pc + 1) ls (vI (L : Int) :: st) w rc rs Q) : WZ z L xs G μ pc ls (vA z :: st) w rc rs Q := by
  intro hσ hx hl hs w0 hg A mc ms p l e s m args below meth c C zX H locs lsA cs ss hc hz hP hD hS hL'
  exact va_slen C.1 C.2.1 zX.1 zX.2.1 zX.2.2 hS hd (kk hσ hx hl (oks_cons (v := vI (L : Int)) (show inR (L : Int) by omega) hs.tl) w0 hg A mc ms p l e s m args below meth c C zX H locs lsA cs ss hc hz hP hD hS hL')
theorem z_sld {i : Int} (hd : decode (cd μ) pc = .ok (.iaload, 1)) (h0 : 0 ≤ i) (h1 : i < (L : Int)) (kk : WZ z L xs G μ (pc + 1) ls (vI (xs i.toNat).toInt :: st) w rc rs Q) : WZ z L xs G μ pc ls (vI i :: vA z :: st) w rc rs Q := by
  intro hσ hx hl hs w0 hg A mc ms p l e s m args below meth c C zX H locs lsA cs ss hc hz hP hD hS hL
  have hi0 : inR i := hs.hd
  have go := kk hσ hx hl (oks_cons (v := vI (xs i.toNat).toInt) (xs_in xs _) hs.tl.tl) w0 hg A mc ms p l e s m args below meth c C zX H locs lsA cs ss hc hz hP hD hS hL
  refine va_sld C.1 C.2.1 zX.1 zX.2.1 zX.2.2 hS (qi_in h0 h1 hi0) hd ?_
  rw [qi_clamp hi0]
  rw [List.map_cons, show cv G (vI (xs i.toNat).toInt) = Value.int (Int32.ofInt (xs i.toNat).toInt) from rfl, Int32.ofInt_toInt] at go
  exact go
end ZR
/-- a call that is handed the script -/
def PrZ (z L : Nat) (xs : Nat → Int32) (G : Gq) (vs : List Vq) (w : Wd) (sz : Nat) : Array Value → State → Prop := fun a U => PrD G vs w sz a U ∧ ZX z L xs (AdD G w sz) U
def ZC (z L : Nat) (xs : Nat → Int32) (G : Gq) (μ : Md) (vs : List Vq) (w : Wd) (mc ms : Nat) (K : Option Vq → Wd → Prop) : Prop :=
  ∃ Q0 : Option Vq → Wd → Prop, (∀ r w', WFd w' → XOK G w' → okr r → Gw G w w' → Q0 r w' → K r w') ∧ (WFd w → XOK G w → oks vs → ∀ (l : Launch) (sz : Nat), Met l (mn μ) (wsq μ) (rmD μ mc ms) (PrZ z L xs G vs w sz) (QoD G (AdD G w sz) w Q0) mc ms (AdD G w sz))
abbrev ZI (z L : Nat) (xs : Nat → Int32) (G : Gq) (μ : Md) (vs : List Vq) (w : Wd) (mc ms : Nat) (K : Int → Wd → Prop) : Prop := ZC z L xs G μ vs w mc ms (yI K)
theorem PrZ_blind {z L : Nat} {xs : Nat → Int32} {G : Gq} {vs : List Vq} {w : Wd} {sz : Nat} : FrameBlind (PrZ z L xs G vs w sz) := by
  intro a U g mk h
  exact ⟨PrD_blind a U g mk h.1, va_X.moved (u := U) (U := U.calling g mk a) (Vm.Alike.refl U.vm) h.2.1, h.2.2⟩
theorem ZI.k {z L : Nat} {xs : Nat → Int32} {G : Gq} {μ ν : Md} {vs : List Vq} {w : Wd} {mc ms pc rc rs : Nat} {ls : List (Nat × Vq)} {st : List Vq} {K : Int → Wd → Prop} {Q : Option Vq → Wd → Prop} (h : ZI z L xs G ν vs w mc ms K) (k : ∀ v w', Gw G w w' → K v w' → WZ z L xs G μ pc ls (vI v :: st) w' rc rs Q) : ZC z L xs G ν vs w mc ms (fun r w' => WZ z L xs G μ pc ls (r.toList ++ st) w' rc rs Q) := by
  obtain ⟨Q0, h1, h2⟩ := h
  exact ⟨Q0, fun r w' a b c d e => by obtain ⟨v, rfl, hv⟩ := h1 r w' a b c d e; exact k v w' d hv, h2⟩
theorem PrZ.pre {z L : Nat} {xs : Nat → Int32} {μ : Md} {G : Gq} {A : Nat → Prop} {p : Program} {s : State} {m : MethodId} {args : Array Value} {meth : Method} {c : Code} {vs : List Vq} {w : Wd} {H : Heap} {locs : List Loc} (C : CxD μ G A p s m args meth c) (zX : ZX z L xs A s) (hP : va_P G.1 vwCl (wld2 G w) H) (hD : va_D A (wld2 G w)) (hS : va_S A s.heap H locs) : ∀ U : State, U.heap = H → s.WarmedH U.vm → PrZ z L xs G vs w H.size (vs.map (cv G)).toArray U := by
  intro U hU hW
  refine ⟨C.pre hP hD hS U hU hW, ?_, ?_, fun h => zX.2.2 (AdD.sub hD C.2.2.2.2.2.2.2.2.1 hS.1 z h)⟩
  · rw [hU]
    exact (zX.1.kept (hS.2.1 z zX.2.1 zX.2.2)).moved hW.alike
  · rw [hU]
    exact Nat.lt_of_lt_of_le zX.2.1 hS.1

theorem ZC.of {z L : Nat} {xs : Nat → Int32} {G : Gq} {μ : Md} {vs : List Vq} {w : Wd} {mc ms : Nat} {Q : Option Vq → Wd → Prop} {ls : List (Nat × Vq)} (hok : MdOK μ) (hls : inq 0 vs = ls) (hn : (vs.map ct).sum ≤ mL μ) (h : WZ z L xs G μ 0 ls [] w mc ms Q) : ZC z L xs G μ vs w mc ms Q := by
  subst hls
  refine ⟨Q, fun r w' _ _ _ _ hq => hq, fun hσ hx hvs l sz => ?_⟩
  refine q_ofW (cc := cd μ) (maxL := mL μ) (ret := rt μ) hok.2.2.2 rfl ?_
  intro p e s m args below meth c s₁ B hml hv
  obtain ⟨⟨rfl, hsz, hP, hK, hD, hE⟩, zX⟩ := hv
  subst hsz
  have hts := atoms_spec (ws := wsq μ) B.pre
  have hl := lv_entry (vs.map (cv G)) (n := mL μ) (by rw [lg_sl_len vs hvs]; exact hn)
  rw [asq_inq vs 0 hvs] at hl
  rw [lg_entry_eq]
  exact h hσ hx (okl_inq vs 0 hvs) oks_nil w Gw.rf (AdD G w s.heap.size) mc ms p l e s m _ below meth c ⟨B.exec, B.bytes, hml, B.returns, B.notSynchronized, findClass_of_methodNamed B.named, fun w hw => hts w (List.mem_cons_of_mem _ hw), hK, fun q h => Or.inr (Or.inr h), (name_of_methodNamed B.named B.method).1, hE⟩ zX s.heap [] _ 0 0 (by omega) (by omega) hP hD va_S.rf hl
theorem z_callSZ {z L : Nat} {xs : Nat → Int32} {G : Gq} {μ : Md} {pc : Nat} {ls : List (Nat × Vq)} {st : List Vq} {w : Wd} {rc rs : Nat} {Q : Option Vq → Wd → Prop} {ν : Md} {idx n mc1 ms1 : Nat} (vs : List Vq) {stk : List Vq} (hν : MdOK ν) (hv : Cond.static (mn ν) ∈ UW) (hw : Cond.methodLink (mn μ).cls idx (mn ν) ∈ UW) (hn : (parseMethodDescriptor (mn ν).desc).map (fun d => d.parameters.length) = some n) (hvn : vs.length = n)
    (hR : fr ν + 1 ≤ fr μ ∧ 8 + (mL ν + 11) + lo ν ≤ lo μ) (hsum : (st.map ct).sum ≤ 8) (hstk : stk = vs.reverse ++ st) (hd : decode (cd μ) pc = .ok (.invokestatic idx, 3)) (hm1 : mc1 ≤ rc) (hm2 : ms1 ≤ rs)
    (kk : ZC z L xs G ν vs w mc1 ms1 (fun r w' => WZ z L xs G μ (pc + 3) ls (r.toList ++ st) w' (rc - mc1) (rs - ms1) Q)) : WZ z L xs G μ pc ls stk w rc rs Q := by
  subst hstk
  intro hσ hx hl hs w0 hg A mc ms p l e s m args below meth c C zX H locs lsA cs ss hcb hzb hP hD hS hL
  obtain ⟨Q0, hk0, hM⟩ := kk
  have hs1 : oks vs := fun v hv => (hs.app).1 v (List.mem_reverse.mpr hv)
  have hs2 : oks st := (hs.app).2
  have hM := hM hσ hx hs1 l H.size
  have hts := C.2.2.2.2.2.2.1
  refine d_call (Q0 := Q0) (a := (vs.map (cv G)).toArray) (rest := st.map (cv G)) (va_runS (As := vs.map (cv G)) (n := n) ⟨C.1, C.2.1, C.2.2.1, C.2.2.2.2.2.1, hts⟩ hM ⟨d_callB hν hts hR.1 hR.2 hn hw, hts _ hv⟩
    ⟨PrZ_blind, PrZ.pre C zX hP hD hS⟩ rfl (by rw [List.length_map]; exact hvn) hL.1 (by rw [List.map_append, List.map_reverse]) (lv_room (by rw [q_cats hs2]; exact hsum)) hd ⟨by show cs + mc1 ≤ mc; omega, by show ss + ms1 ≤ ms; omega⟩) hD hS C.2.2.2.2.2.2.2.2.1 (fun r w' H1 locs1 hσ' hx' hr hg' hq0 hP1 hD1 hS1 => ?_)
  rw [q_rest]; exact hk0 r w' hσ' hx' hr hg' hq0 hσ' hx' hl (oks_rest hr hs2) w0 (hg.tr hg') A mc ms p l e s m args below meth c C zX H1 locs1 lsA (cs + mc1) (ss + ms1) (by omega) (by omega) hP1 hD1 hS1 hL
