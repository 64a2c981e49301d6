-- more rows: functions of tables, arrays of Object, arrays of arrays, single precision
abbrev vF (x : UInt32) : Vq := vO (.float x)
def fcq (op : CmpOp) (a b : UInt32) : Int := (Op.cmpValue (FP.fcmp a b) op).toInt
def f2q (a : UInt32) : Int := (FP.f2i a).toInt
theorem nar_P {ty : FieldType} (h : (∃ C, ty = .object C) ∨ ∃ t, ty = .array t) (r : Option Nat) : narrow ty (va_rf r) = va_rf r := by
  rcases h with ⟨C, rfl⟩ | ⟨t, rfl⟩ <;> cases r <;> rfl
theorem fit_P {ty : FieldType} (h : (∃ C, ty = .object C) ∨ ∃ t, ty = .array t) (r : Option Nat) : fits ty (va_rf r) = true := by
  rcases h with ⟨C, rfl⟩ | ⟨t, rfl⟩ <;> cases r <;> rfl
theorem nar_B {x : Int} (h0 : -128 ≤ x) (h1 : x ≤ 127) : narrow .byte (.int (Int32.ofInt x)) = .int (Int32.ofInt x) := by
  have e : Int32.ofInt x = (Int32.ofInt x).toInt8.toInt32 := by
    rw [q_i2b]
    congr 1
    omega
  show Value.int ((Int32.ofInt x).toInt8.toInt32) = _
  rw [← e]
theorem f32_rt (x : UInt32) : UInt32.ofNat (((x.toNat : Nat) : Int)).toNat = x := by
  rw [Int.toNat_natCast]; exact UInt32.ofNat_toNat
theorem f32_in (x : UInt32) : inL ((x.toNat : Nat) : Int) := by
  have := x.toNat_lt
  unfold inL
  omega
section XQ
variable {G : Gq} {μ : Md} {pc : Nat} {ls : List (Nat × Vq)} {st : List Vq} {w : Wd} {rc rs : Nat} {Q : Option Vq → Wd → Prop}
theorem x_getsO {idx : Nat} (hw : Cond.fieldLink (mn μ).cls idx "jdk/internal/util/Preconditions" "SIOOBE_FORMATTER" "Ljava/util/function/BiFunction;" ∈ UW) (hd : decode (cd μ) pc = .ok (.getstatic idx, 3)) (kk : ∀ v : Value, v.category = 1 → WD G μ (pc + 3) ls (vO v :: st) w rc rs Q) : WD G μ pc ls st w rc rs Q := by
  intro hσ hx hl hs w0 hg A mc ms p l e s m args below meth c C H locs lsA cs ss hcb hzb hP hD hS hL
  rcases C.2.2.2.2.2.2.2.2.2.2.1.1.2.2.2.2.2.2.2.2 with hz | ⟨t, hz⟩
  · exact va_gets C.1 C.2.1 hz hS C.2.2.2.2.2.1 (C.2.2.2.2.2.2.1 _ hw) (fun x h => h) hd (kk .null rfl hσ hx hl (oks_cons (v := vO .null) rfl hs) w0 hg A mc ms p l e s m args below meth c C H locs lsA cs ss hcb hzb hP hD hS hL)
  · exact va_gets C.1 C.2.1 hz hS C.2.2.2.2.2.1 (C.2.2.2.2.2.2.1 _ hw) (fun x h => h) hd (kk (.ref t) rfl hσ hx hl (oks_cons (v := vO (.ref t)) rfl hs) w0 hg A mc ms p l e s m args below meth c C H locs lsA cs ss hcb hzb hP hD hS hL)
theorem x_getIN {a ci j idx N : Nat} {Cn ref : String} {T : u_T} (host : String) (jj : Int) (hO : Ow w a (kO ci)) (hC : ClOK ci Cn T N) (hN : j < N) (hw : Cond.fieldLinkNest (mn μ).cls idx ref (T j).2.1 (T j).2.2.1 host ∈ nwq) (hsm : Sam ref T j) (hk : (fdq ci)[j]? = some 0) (hjj : jj = (j : Int)) (hd : decode (cd μ) pc = .ok (.getfield idx, 3)) {y : Int} (hy : wI w a jj = y) (kk : WD G μ (pc + 3) ls (vI y :: st) w rc rs Q) : WD G μ pc ls (vA a :: st) w rc rs Q := by
  subst hjj hy
  intro hσ hx hl hs w0 hg A mc ms p l e s m args below meth c C H locs lsA cs ss hcb hzb hP hD hS hL
  have hts := C.2.2.2.2.2.2.1
  have go := kk hσ hx hl (oks_cons (v := vI (wI w a j)) ((hσ.2 a j).1) hs.tl) w0 hg A mc ms p l e s m args below meth c C H locs lsA cs ss hcb hzb hP hD hS hL
  exact va_getN (D := G.1) (ci := ci) (C := Cn) (T := T) (N := N) (ref := ref) (host := host) (fs := dfl w a (fdq ci)) C.1 C.2.1 hts hC.2 C.2.2.2.2.2.1 C.2.2.2.2.2.2.2.1 (rd_at hP hO.1) 0 (by rw [dent_kO hO.2]; rfl) hC.1 j hN (va_Nw.use rfl (C.2.2.2.2.2.2.2.2.2.2.1.2.2.2.2 _ hw)) (hsm.use hts) (dfl_at hk) hd go
/-- Object[]: its class -/
theorem obA {w : Wd} {a n : Nat} {H : Heap} {s : State} (hO : Ow w a (kR 4 n)) (hP : va_P G.1 vwCl (wld2 G w) H) (hK : va_K G.1 vwCl (tyD G) s) : ∃ cell : Cell, H[a]? = some cell ∧ cell.vm.isStatics = false ∧ s.vm.findClass "[Ljava/lang/Object;" = some cell.cls := by
  have h := rd_at hP hO.1 0 _ rfl
  rw [dent_kR hO.2] at h
  exact ⟨_, h, rfl, va_nmO (hK.2 4 _ rfl).2 (by decide +kernel)⟩
theorem x_getC {a n idx : Nat} (hO : Ow w a (kR 4 n)) (hw : Cond.methodLink (mn μ).cls idx ⟨"java/lang/Object", "getClass", "()Ljava/lang/Class;"⟩ ∈ UW) (hdc : Cond.declares ⟨"java/lang/Object", "getClass", "()Ljava/lang/Class;"⟩ ∈ nwq) (hsel : Cond.selects "[Ljava/lang/Object;" ⟨"java/lang/Object", "getClass", "()Ljava/lang/Class;"⟩ ⟨"java/lang/Object", "getClass", "()Ljava/lang/Class;"⟩ ∈ UW) (hin : Cond.instanceMethod ⟨"java/lang/Object", "getClass", "()Ljava/lang/Class;"⟩ ∈ UW) (hna : Cond.native ⟨"java/lang/Object", "getClass", "()Ljava/lang/Class;"⟩ ∈ UW) (hR : 1 ≤ fr μ ∧ (st.map ct).sum + 14 ≤ lo μ) (hd : decode (cd μ) pc = .ok (.invokevirtual idx, 3)) (kk : WD G μ (pc + 3) ls (vA (xa G 284) :: st) w rc rs Q) : WD G μ pc ls (vA a :: st) w rc rs Q := by
  intro hσ hx hl hs w0 hg A mc ms p l e s m args below meth c C H locs lsA cs ss hcb hzb hP hD hS hL
  have hts := C.2.2.2.2.2.2.1
  have hED := C.2.2.2.2.2.2.2.2.2.2
  refine va_getC (C := "[Ljava/lang/Object;") C.1 C.2.1 (by rw [C.2.2.1]; exact hL.1.symm) C.2.2.2.2.2.1 (hts _ hw) (va_Nw.use rfl (hED.1.2.2.2.2 _ hdc)) (hts _ hsel) (hts _ hin) (hts _ hna) hED.2.2.2.1 (obA hO hP C.2.2.2.2.2.2.2.1) hR.1 ?_ hd (kk hσ hx hl (oks_cons (v := vA (xa G 284)) okA hs.tl) w0 hg A mc ms p l e s m args below meth c C H locs lsA cs ss hcb hzb hP hD hS hL)
  rw [q_cats hs.tl]
  exact hR.2
theorem x_ldcM {idx : Nat} (hw : Cond.classLink (mn μ).cls idx "[Ljava/lang/Object;" ∈ UW) (hd : decode (cd μ) pc = .ok (.ldc idx, 2)) (kk : WD G μ (pc + 2) ls (vA (xa G 284) :: st) w rc rs Q) : WD G μ pc ls st w rc rs Q := by
  intro hσ hx hl hs w0 hg A mc ms p l e s m args below meth c C H locs lsA cs ss hcb hzb hP hD hS hL
  exact va_ldcM (C := "[Ljava/lang/Object;") C.1 C.2.1 C.2.2.2.2.2.1 (C.2.2.2.2.2.2.1 _ hw) C.2.2.2.2.2.2.2.2.2.2.2.2.2.1 hd (kk hσ hx hl (oks_cons (v := vA (xa G 284)) okA hs) w0 hg A mc ms p l e s m args below meth c C H locs lsA cs ss hcb hzb hP hD hS hL)
theorem x_castA {a n idx : Nat} (hO : Ow w a (kR 4 n)) (hw : Cond.classLink (mn μ).cls idx "[Ljava/lang/Object;" ∈ UW) (hd : decode (cd μ) pc = .ok (.checkcast idx, 3)) (kk : WD G μ (pc + 3) ls (vA a :: st) w rc rs Q) : WD G μ pc ls (vA a :: st) w rc rs Q := by
  intro hσ hx hl hs w0 hg A mc ms p l e s m args below meth c C H locs lsA cs ss hcb hzb hP hD hS hL
  exact va_castA (D := G.1) (cl := vwCl) (ws := [(a, dent G w a)]) (nm := "[Ljava/lang/Object;") C.1 C.2.1 C.2.2.2.2.2.1 (C.2.2.2.2.2.2.1 _ hw) (rd_at hP hO.1) 0 (by rw [dent_kR hO.2]; rfl) (va_nmO (C.2.2.2.2.2.2.2.1.2 4 _ rfl).2 (by decide +kernel)) hd (kk hσ hx hl hs w0 hg A mc ms p l e s m args below meth c C H locs lsA cs ss hcb hzb hP hD hS hL)
theorem x_castB {a n idx : Nat} (hO : Ow w a (kA 1 n)) (hw : Cond.classLink (mn μ).cls idx "[B" ∈ UW) (hd : decode (cd μ) pc = .ok (.checkcast idx, 3)) (kk : WD G μ (pc + 3) ls (vA a :: st) w rc rs Q) : WD G μ pc ls (vA a :: st) w rc rs Q := by
  intro hσ hx hl hs w0 hg A mc ms p l e s m args below meth c C H locs lsA cs ss hcb hzb hP hD hS hL
  exact va_castA (D := G.1) (cl := vwCl) (ws := [(a, dent G w a)]) (nm := "[B") C.1 C.2.1 C.2.2.2.2.2.1 (C.2.2.2.2.2.2.1 _ hw) (rd_at hP hO.1) 0 (by rw [dent_kA hO.2]; rfl) (C.2.2.2.2.2.2.2.1.2 1 (G.2.2 1, .byte) rfl).2 hd (kk hσ hx hl hs w0 hg A mc ms p l e s m args below meth c C H locs lsA cs ss hcb hzb hP hD hS hL)
theorem x_aaldA {a n : Nat} {i : Int} (hO : Ow w a (kR 6 n)) (hd : decode (cd μ) pc = .ok (.aaload, 1)) (h0 : 0 ≤ i) (h1 : i < (n : Int)) {y : Option Nat} (hy : wR w a i = y) (kk : WD G μ (pc + 1) ls (vP y :: st) w rc rs Q) : WD G μ pc ls (vI i :: vA a :: st) w rc rs Q := by
  intro hσ hx hl hs w0 hg A mc ms p l e s m args below meth c C H locs lsA cs ss hcb hzb hP hD hS hL
  subst hy
  have hi0 : inR i := hs.hd
  have go := kk hσ hx hl (oks_cons (v := vP (wR w a i)) okP hs.tl.tl) w0 hg A mc ms p l e s m args below meth c C H locs lsA cs ss hcb hzb hP hD hS hL
  have hin := qi_in h0 h1 hi0
  have hlt : (Int32.ofInt i).toNatClampNeg < n := Nat.not_le.mp fun q => hin (Or.inr q)
  have hc := rd_at hP hO.1 0 _ rfl
  rw [dent_kR hO.2] at hc
  refine W.aald (v := va_rf (wR w a (((Int32.ofInt i).toNatClampNeg : Nat) : Int))) (ty := .array .int) C.1 C.2.1 hc ((C.2.2.2.2.2.2.2.1.2 6 (G.2.2 6, .array .int) rfl).1 n (fun j => va_rf (wR w a (j : Int)))) rfl (fun q => by cases q) (by show ¬ (Int32.ofInt i < 0 ∨ (arrV _ _ _).slots.size ≤ _); rw [arrV_size]; exact hin) (by show (arrV _ _ _).slots[_]? = _; rw [arrV_read _ _ hlt]) rfl rfl hd ?_
  rw [qi_clamp hi0, Int.toNat_of_nonneg h0]
  exact go
theorem x_cloneB {a n idx : Nat} (hO : Ow w a (kA 1 n)) (hw : Cond.methodLink (mn μ).cls idx ⟨"[B", "clone", "()Ljava/lang/Object;"⟩ ∈ UW) (hsm : Cond.sameMethod "[B" "java/lang/Object" "clone" "()Ljava/lang/Object;" ∈ UW) (hna : Cond.native ⟨"java/lang/Object", "clone", "()Ljava/lang/Object;"⟩ ∈ UW) (hin : Cond.instanceMethod ⟨"java/lang/Object", "clone", "()Ljava/lang/Object;"⟩ ∈ UW) (hsel : Cond.selects "[B" ⟨"[B", "clone", "()Ljava/lang/Object;"⟩ ⟨"java/lang/Object", "clone", "()Ljava/lang/Object;"⟩ ∈ UW) (hcl : Cond.castable "[B" "java/lang/Cloneable" ∈ nwq) (hd : decode (cd μ) pc = .ok (.invokevirtual idx, 3)) (hc1 : 1 ≤ rc) (hs1 : n ≤ rs) (hel : ∀ j : Int, 0 ≤ j → j < (n : Int) → -128 ≤ wI w a j ∧ wI w a j ≤ 127) (hR : 1 ≤ fr μ ∧ (st.map ct).sum + 14 ≤ lo μ)
    (kk : ∀ q : Nat, Fr G w q → WD G μ (pc + 3) ls (vA q :: st) (uF (uN w q (kA 1 n)) q (fun j => wI w a j)) (rc - 1) (rs - n) Q) : WD G μ pc ls (vA a :: st) w rc rs Q := by
  intro hσ hx hl hs w0 hg A mc ms p l e s m args below meth c C H locs lsA cs ss hcb hzb hP hD hS hL
  have hts := C.2.2.2.2.2.2.1
  have hED := C.2.2.2.2.2.2.2.2.2.2
  have hK := C.2.2.2.2.2.2.2.1
  obtain ⟨k0, hk0⟩ := wld2_at (G := G) hO.1
  have hk1 := hk0
  rw [dent_kA hO.2] at hk1
  refine va_clone (D := G.1) (cl := vwCl) (tys := tyD G) (ad := "[B") C.1 C.2.1 (by rw [C.2.2.1]; exact hL.1.symm) C.2.2.2.2.2.1 (hts _ hw) (hts _ hsm) (hts _ hna) (hts _ hin) (hts _ hsel) (hED.1.2.2.2.2 _ hcl) hK hP hD hS C.2.2.2.2.2.2.2.2.1 (38 + k0) 1 hk1 rfl (hK.2 1 (G.2.2 1, .byte) rfl).2 ?_ hR.1 (by rw [q_cats hs.tl]; exact hR.2) (by show cs + 1 ≤ mc; omega) (by show ss + n ≤ ms; omega) hd (fun q H1 hK1 hP1 hD1 hS1 => ?_)
  · intro i v hv
    have hv : (arrV (G.2.2 1) n (fun j => Value.int (Int32.ofInt (wI w a (j : Int))))).slots[i]? = some v := hv
    have hi : i < n := by
      have := (Array.getElem?_eq_some_iff.mp hv).1
      rwa [arrV_size] at this
    rw [arrV_read _ _ hi] at hv
    cases hv
    have := hel i (by omega) (by omega)
    exact fit_B this.1 this.2
  · have hq := fr_of hED hD1
    have ew : wld2 G w ++ [(q, .inl (G.2.2 1, n, .inl (fun j => Int32.ofInt (wI w a (j : Int)))))] = wld2 G (uF (uN w q (kA 1 n)) q (fun j => wI w a j)) := by
      have e1 : wld2 G w ++ [(q, dent G (uF (uN w q (kA 1 n)) q (fun j => wI w a j)) q)] = wld2 G (uF (uN w q (kA 1 n)) q (fun j => wI w a j)) := by
        unfold wld2 dwd
        rw [show wL (uF (uN w q (kA 1 n)) q (fun j => wI w a j)) = wL w ++ [q] from rfl, List.map_append, List.append_assoc]
        congr 1
        congr 1
        · apply List.map_congr_left
          intro b hb
          have hne : b ≠ q := fun e => hq.1 (e ▸ hb)
          exact congrArg (Prod.mk b) (dent_same (w := w) (w' := uF (uN w q (kA 1 n)) q (fun j => wI w a j)) (wK_uN hne) (fun _ => (wI_uF hne).trans (wI_uN hne)) (fun _ => wR_uN (k := kA 1 n) hne) (fun _ => wJ_uN (k := kA 1 n) hne)).symm
      rw [← e1, dent_kA (w := uF (uN w q (kA 1 n)) q (fun j => wI w a j)) (t := 1) (n := n) wK_uN_s]
      rw [show (fun j : Nat => Int32.ofInt (wI w a (j : Int))) = fun j : Nat => Int32.ofInt (wI (uF (uN w q (kA 1 n)) q (fun j => wI w a j)) q (j : Int)) from funext fun j => by rw [wI_uF_s]]
    rw [ew] at hP1 hD1
    have g1 := uN_g (G := G) (k := kA 1 n) hq
    exact kk q hq ⟨hσ.1, fun b j => ⟨by
      show inR (if b = q then wI w a j else wI (uN w q (kA 1 n)) b j)
      split
      · exact (hσ.2 _ _).1
      · exact ((uN_wf (q := q) (k := kA 1 n) hσ).2 b j).1, ((uN_wf (q := q) (k := kA 1 n) hσ).2 b j).2⟩⟩ (fun i hi => by
        have hne : xa G i ≠ q := fun e => hq.2 i hi e.symm
        obtain ⟨h1, h2, h3, h4⟩ := uN_x (k := kA 1 n) hx hq i hi
        exact ⟨h1, fun j => (wI_uF hne).trans (h2 j), h3, h4⟩) hl (oks_cons (v := vA q) okA hs.tl) w0 (hg.tr ⟨g1.1, fun i hi => by
        have hne : xa G i ≠ q := fun e => hq.2 i hi e.symm
        exact ⟨(g1.2 i hi).1, fun j => (wI_uF hne).trans ((g1.2 i hi).2.1 j), (g1.2 i hi).2.2⟩⟩) A mc ms p l e s m args below meth c C H1 locs lsA (cs + 1) (ss + n) (by omega) (by omega) hP1 hD1 hS1 hL
-- single precision
theorem x_fload_n {j : Fin 4} {x : UInt32} (hd : decode (cd μ) pc = .ok (.fload_n j, 1)) (hq : lq (j : Nat) ls = some (vF x)) (k : WD G μ (pc + 1) ls (vF x :: st) w rc rs Q) : WD G μ pc ls (st) w rc rs Q := by
  intro hσ hx hl hs w0 hg A mc ms p l e s m args below meth c C H locs lsA cs ss hcb hzb hP hD hS hL
  exact lv_fload_n C.1 C.2.1 hd rfl (asq_at hL (lq_mem hq)) (k hσ hx hl (oks_cons (hl _ (lq_mem hq)) hs) w0 hg A mc ms p l e s m args below meth c C H locs lsA cs ss hcb hzb hP hD hS hL)
theorem x_fload {j : Nat} {x : UInt32} (hd : decode (cd μ) pc = .ok (.fload j, 2)) (hq : lq (j : Nat) ls = some (vF x)) (k : WD G μ (pc + 2) ls (vF x :: st) w rc rs Q) : WD G μ pc ls (st) w rc rs Q := by
  intro hσ hx hl hs w0 hg A mc ms p l e s m args below meth c C H locs lsA cs ss hcb hzb hP hD hS hL
  exact lv_fload C.1 C.2.1 hd (asq_at hL (lq_mem hq)) (k hσ hx hl (oks_cons (hl _ (lq_mem hq)) hs) w0 hg A mc ms p l e s m args below meth c C H locs lsA cs ss hcb hzb hP hD hS hL)
theorem x_fstore {j : Nat} {x : UInt32} {ls' : List (Nat × Vq)} (hd : decode (cd μ) pc = .ok (.fstore j, 2))  (hn : j < mL μ) (he : stl j (vF x) ls = ls') (k : WD G μ (pc + 2) ls' (st) w rc rs Q) : WD G μ pc ls (vF x :: st) w rc rs Q := by
  intro hσ hx hl hs w0 hg A mc ms p l e s m args below meth c C H locs lsA cs ss hcb hzb hP hD hS hL
  subst he
  exact lv_fstore C.1 C.2.1 hd hL hn (asq_stl (i := j) (v := vF x) hl) (fun lsA' hL' => k hσ hx (okl_stl hl hs.hd) hs.tl w0 hg A mc ms p l e s m args below meth c C H locs lsA' cs ss hcb hzb hP hD hS hL')
theorem x_fmul {a b : UInt32} (hd : decode (cd μ) pc = .ok (.fmul, 1)) (ho : vf_n32 (FP.fmul a b)) (k : WD G μ (pc + 1) ls (vF (FP.fmul a b) :: st) w rc rs Q) : WD G μ pc ls (vF b :: vF a :: st) w rc rs Q := by
  intro hσ hx hl hs w0 hg A mc ms p l e s m args below meth c C H locs lsA cs ss hcb hzb hP hD hS hL
  exact lv_fmul C.1 C.2.1 hd ho (k hσ hx hl (oks_cons (v := vF _) rfl hs.tl.tl) w0 hg A mc ms p l e s m args below meth c C H locs lsA cs ss hcb hzb hP hD hS hL)
theorem x_i2f {a : Int} (hd : decode (cd μ) pc = .ok (.i2f, 1)) (k : WD G μ (pc + 1) ls (vF (FP.i2f (Int32.ofInt a)) :: st) w rc rs Q) : WD G μ pc ls (vI a :: st) w rc rs Q := by
  intro hσ hx hl hs w0 hg A mc ms p l e s m args below meth c C H locs lsA cs ss hcb hzb hP hD hS hL
  exact lv_i2f C.1 C.2.1 hd (k hσ hx hl (oks_cons (v := vF _) rfl hs.tl) w0 hg A mc ms p l e s m args below meth c C H locs lsA cs ss hcb hzb hP hD hS hL)
theorem x_f2i {a : UInt32} (hd : decode (cd μ) pc = .ok (.f2i, 1)) (k : WD G μ (pc + 1) ls (vI (f2q a) :: st) w rc rs Q) : WD G μ pc ls (vF a :: st) w rc rs Q := by
  intro hσ hx hl hs w0 hg A mc ms p l e s m args below meth c C H locs lsA cs ss hcb hzb hP hD hS hL
  refine lv_f2i C.1 C.2.1 hd ?_
  rw [show FP.f2i a = Int32.ofInt (f2q a) from (Int32.ofInt_toInt _).symm]
  exact k hσ hx hl (oks_cons (v := vI _) (toI_in _) hs.tl) w0 hg A mc ms p l e s m args below meth c C H locs lsA cs ss hcb hzb hP hD hS hL
theorem x_fcmp {a b : UInt32} {op : CmpOp} (hd : decode (cd μ) pc = .ok (.fcmp op, 1)) (k : WD G μ (pc + 1) ls (vI (fcq op a b) :: st) w rc rs Q) : WD G μ pc ls (vF b :: vF a :: st) w rc rs Q := by
  intro hσ hx hl hs w0 hg A mc ms p l e s m args below meth c C H locs lsA cs ss hcb hzb hP hD hS hL
  refine lv_fcmp C.1 C.2.1 hd ?_
  rw [show Op.cmpValue (FP.fcmp a b) op = Int32.ofInt (fcq op a b) from (Int32.ofInt_toInt _).symm]
  exact (k hσ hx hl (oks_cons (v := vI _) (toI_in _) hs.tl.tl) w0 hg A mc ms p l e s m args below meth c C H locs lsA cs ss hcb hzb hP hD hS hL)
theorem x_ldcf {i : Nat} {v : UInt32} (hd : decode (cd μ) pc = .ok (.ldc i, 2)) (hw : Cond.constantFloat (mn μ).cls i v ∈ UW) (k : WD G μ (pc + 2) ls (vF v :: st) w rc rs Q) : WD G μ pc ls st w rc rs Q := by
  intro hσ hx hl hs w0 hg A mc ms p l e s m args below meth c C H locs lsA cs ss hcb hzb hP hD hS hL
  exact lv_ldcf C.1 C.2.1 C.2.2.2.2.2.1 (C.2.2.2.2.2.2.1 _ hw) hd (k hσ hx hl (oks_cons (v := vF v) rfl hs) w0 hg A mc ms p l e s m args below meth c C H locs lsA cs ss hcb hzb hP hD hS hL)
theorem x_fconst0 (hd : decode (cd μ) pc = .ok (.fconst 0, 1)) (k : WD G μ (pc + 1) ls (vF FP.fconst0 :: st) w rc rs Q) : WD G μ pc ls st w rc rs Q := by
  intro hσ hx hl hs w0 hg A mc ms p l e s m args below meth c C H locs lsA cs ss hcb hzb hP hD hS hL
  exact lv_fconst0 C.1 C.2.1 hd (k hσ hx hl (oks_cons (v := vF _) rfl hs) w0 hg A mc ms p l e s m args below meth c C H locs lsA cs ss hcb hzb hP hD hS hL)
end XQ
