-- further rows of the moving world
theorem sel_in {C : String} {x y : MethodName} (h : Cond.selects C x y ∈ UW) : ∀ (args : Array Value) (s : State), (∀ w ∈ UW, w.before args s = true) → (∀ w ∈ nwq, va_Nw w s) → (Cond.selects C x y).before args s = true := fun _ _ hts _ => hts _ h
/-- a private method of a superclass is what it is, whatever the cell's class -/
theorem sel_pv {C C2 : String} {y x2 y2 : MethodName} {n : Nat} (hy : y.cls ≠ "java/lang/invoke/MethodHandle" ∧ y.cls ≠ "java/lang/invoke/VarHandle") (h1 : Cond.instantiable C n ∈ UW) (h2 : Cond.privateMethod y ∈ nwq) (h3 : Cond.instanceMethod y ∈ UW) (h4 : Cond.selects C2 x2 y2 ∈ UW) (hc2 : y2.cls = y.cls) : ∀ (args : Array Value) (s : State), (∀ w ∈ UW, w.before args s = true) → (∀ w ∈ nwq, va_Nw w s) → (Cond.selects C y y).before args s = true := fun args s hts hnw => by
  obtain ⟨c, k, hc, hk, -, -, -, -⟩ := Cond.instantiable_spec (hts _ h1)
  obtain ⟨mk, methM, hnamed, hmethM, -, -⟩ := Cond.instanceMethod_spec (hts _ h3)
  have hfound : s.methodFound? y.cls y.name y.desc = some mk := State.methodFound?_of_named hnamed hy
  have hsel : selectMethod {} s.vm c mk = .method mk := selectMethod_private hmethM (Cond.privateMethod_at (args := args) (va_Nw.use rfl (hnw _ h2)) mk methM hnamed hmethM)
  obtain ⟨c3, r3, m3, -, -, g3, -, k3, hk3, hni⟩ := Cond.selects_spec (hts _ h4)
  have e : m3.cls = mk.cls := Option.some.inj ((findClass_of_methodNamed g3).symm.trans (by rw [hc2]; exact findClass_of_methodNamed hnamed))
  rw [e] at hk3
  simp only [Cond.before, Cond.holds, Cond.value, hc, hfound, hnamed, hsel, hk3]
  simp; exact hni
theorem hfd_11 : ∀ j, j < 7 → defaultValue (tyX11 j) = vp_V (dfq (fdq 11)) j := by decide +kernel
theorem hfd_12 : ∀ j, j < 3 → defaultValue (tyX12 j) = vp_V (dfq (fdq 12)) j := by decide +kernel
theorem hfd_13 : ∀ j, j < 4 → defaultValue (tyX13 j) = vp_V (dfq (fdq 13)) j := by decide +kernel
theorem hfd_14 : ∀ j, j < 3 → defaultValue (tyJx4a65c j) = vp_V (dfq (fdq 14)) j := by decide +kernel
theorem hfd_15 : ∀ j, j < 4 → defaultValue (tyJx35411 j) = vp_V (dfq (fdq 15)) j := by decide +kernel
theorem hfd_16 : ∀ j, j < 1 → defaultValue (tyJ6 j) = vp_V (dfq (fdq 16)) j := by decide +kernel
theorem hfd_17 : ∀ j, j < 4 → defaultValue (tyJ4 j) = vp_V (dfq (fdq 17)) j := by decide +kernel
theorem hfd_18 : ∀ j, j < 4 → defaultValue (tyJ0 j) = vp_V (dfq (fdq 18)) j := by decide +kernel
theorem hfd_19 : ∀ j, j < 1 → defaultValue (tyX29 j) = vp_V (dfq (fdq 19)) j := by decide +kernel
theorem hfd_20 : ∀ j, j < 12 → defaultValue (tyX28 j) = vp_V (dfq (fdq 20)) j := by decide +kernel
theorem hfd_21 : ∀ j, j < 6 → defaultValue (tyX24 j) = vp_V (dfq (fdq 21)) j := by decide +kernel
theorem hfd_22 : ∀ j, j < 2 → defaultValue (tyX27 j) = vp_V (dfq (fdq 22)) j := by decide +kernel
theorem hfd_23 : ∀ j, j < 5 → defaultValue (tyX26 j) = vp_V (dfq (fdq 23)) j := by decide +kernel
theorem nar_Z {x : Int} (h : x = 0 ∨ x = 1) : narrow .boolean (.int (Int32.ofInt x)) = .int (Int32.ofInt x) := by rcases h with h | h <;> subst h <;> decide +kernel
theorem fit_Z {x : Int} (h : x = 0 ∨ x = 1) : fits .boolean (.int (Int32.ofInt x)) = true := by rcases h with h | h <;> subst h <;> decide +kernel
def iandq (a b : Int) : Int := (Int32.ofInt a &&& Int32.ofInt b).toInt
def iorq (a b : Int) : Int := (Int32.ofInt a ||| Int32.ofInt b).toInt
def ixorq (a b : Int) : Int := (Int32.ofInt a ^^^ Int32.ofInt b).toInt
def ishlq (a b : Int) : Int := (Int32.ofInt a <<< (Int32.ofInt b &&& 31)).toInt
def ishrq (a b : Int) : Int := (Int32.ofInt a >>> (Int32.ofInt b &&& 31)).toInt
def iushrq (a b : Int) : Int := ((Int32.ofInt a).toUInt32 >>> ((Int32.ofInt b).toUInt32 &&& Int32.toUInt32 31)).toInt32.toInt
def wrl (x : Int) : Int := (Int64.ofInt x).toInt
theorem toI_in (x : Int32) : inR x.toInt := ⟨Int32.le_toInt _, Int32.toInt_le _⟩
theorem wrl_in (x : Int) : inL (wrl x) := ⟨Int64.le_toInt _, Int64.toInt_le _⟩
/-- the rest of a row of references, or of numbers, behind a copy -/
def cpyR (w : Wd) (src dst : Nat) (sp dp n : Int) : Int → Option Nat := fun j => if dp ≤ j ∧ j < dp + n then wR w src (sp + (j - dp)) else wR w dst j
def cpyI (w : Wd) (src dst : Nat) (sp dp n : Int) : Int → Int := fun j => if dp ≤ j ∧ j < dp + n then wI w src (sp + (j - dp)) else wI w dst j
section XM
variable {G : Gq} {μ : Md} {pc : Nat} {ls : List (Nat × Vq)} {st : List Vq} {w : Wd} {rc rs : Nat} {Q : Option Vq → Wd → Prop}
theorem x_iandq {a b : Int} (hd : decode (cd μ) pc = .ok (.iand, 1)) (k : WD G μ (pc + 1) ls (vI (iandq a b) :: st) w rc rs Q) : WD G μ pc ls (vI b :: vI a :: st) w rc rs Q := by
  intro hσ hx hl hs w0 hg A mc ms p l e s m args below meth c C H locs lsA cs ss hcb hzb hP hD hS hL
  refine lv_iand C.1 C.2.1 hd  ?_
  have go := k hσ hx hl (oks_cons (v := vI (iandq a b)) (toI_in _) hs.tl.tl) w0 hg A mc ms p l e s m args below meth c C H locs lsA cs ss hcb hzb hP hD hS hL
  rw [List.map_cons, show cv G (vI (iandq a b)) = Value.int (Int32.ofInt (iandq a b)) from rfl] at go
  unfold iandq at go
  rw [Int32.ofInt_toInt] at go
  exact go
theorem x_iorq {a b : Int} (hd : decode (cd μ) pc = .ok (.ior, 1)) (k : WD G μ (pc + 1) ls (vI (iorq a b) :: st) w rc rs Q) : WD G μ pc ls (vI b :: vI a :: st) w rc rs Q := by
  intro hσ hx hl hs w0 hg A mc ms p l e s m args below meth c C H locs lsA cs ss hcb hzb hP hD hS hL
  refine lv_ior C.1 C.2.1 hd  ?_
  have go := k hσ hx hl (oks_cons (v := vI (iorq a b)) (toI_in _) hs.tl.tl) w0 hg A mc ms p l e s m args below meth c C H locs lsA cs ss hcb hzb hP hD hS hL
  rw [List.map_cons, show cv G (vI (iorq a b)) = Value.int (Int32.ofInt (iorq a b)) from rfl] at go
  unfold iorq at go
  rw [Int32.ofInt_toInt] at go
  exact go
theorem x_ixorq {a b : Int} (hd : decode (cd μ) pc = .ok (.ixor, 1)) (k : WD G μ (pc + 1) ls (vI (ixorq a b) :: st) w rc rs Q) : WD G μ pc ls (vI b :: vI a :: st) w rc rs Q := by
  intro hσ hx hl hs w0 hg A mc ms p l e s m args below meth c C H locs lsA cs ss hcb hzb hP hD hS hL
  refine lv_ixor C.1 C.2.1 hd  ?_
  have go := k hσ hx hl (oks_cons (v := vI (ixorq a b)) (toI_in _) hs.tl.tl) w0 hg A mc ms p l e s m args below meth c C H locs lsA cs ss hcb hzb hP hD hS hL
  rw [List.map_cons, show cv G (vI (ixorq a b)) = Value.int (Int32.ofInt (ixorq a b)) from rfl] at go
  unfold ixorq at go
  rw [Int32.ofInt_toInt] at go
  exact go
theorem x_ishlq {a b : Int} (hd : decode (cd μ) pc = .ok (.ishl, 1)) (k : WD G μ (pc + 1) ls (vI (ishlq a b) :: st) w rc rs Q) : WD G μ pc ls (vI b :: vI a :: st) w rc rs Q := by
  intro hσ hx hl hs w0 hg A mc ms p l e s m args below meth c C H locs lsA cs ss hcb hzb hP hD hS hL
  refine lv_ishl C.1 C.2.1 hd  ?_
  have go := k hσ hx hl (oks_cons (v := vI (ishlq a b)) (toI_in _) hs.tl.tl) w0 hg A mc ms p l e s m args below meth c C H locs lsA cs ss hcb hzb hP hD hS hL
  rw [List.map_cons, show cv G (vI (ishlq a b)) = Value.int (Int32.ofInt (ishlq a b)) from rfl] at go
  unfold ishlq at go
  rw [Int32.ofInt_toInt] at go
  exact go
theorem x_ishrq {a b : Int} (hd : decode (cd μ) pc = .ok (.ishr, 1)) (k : WD G μ (pc + 1) ls (vI (ishrq a b) :: st) w rc rs Q) : WD G μ pc ls (vI b :: vI a :: st) w rc rs Q := by
  intro hσ hx hl hs w0 hg A mc ms p l e s m args below meth c C H locs lsA cs ss hcb hzb hP hD hS hL
  refine lv_ishr C.1 C.2.1 hd  ?_
  have go := k hσ hx hl (oks_cons (v := vI (ishrq a b)) (toI_in _) hs.tl.tl) w0 hg A mc ms p l e s m args below meth c C H locs lsA cs ss hcb hzb hP hD hS hL
  rw [List.map_cons, show cv G (vI (ishrq a b)) = Value.int (Int32.ofInt (ishrq a b)) from rfl] at go
  unfold ishrq at go
  rw [Int32.ofInt_toInt] at go
  exact go
theorem x_iushrq {a b : Int} (hd : decode (cd μ) pc = .ok (.iushr, 1)) (k : WD G μ (pc + 1) ls (vI (iushrq a b) :: st) w rc rs Q) : WD G μ pc ls (vI b :: vI a :: st) w rc rs Q := by
  intro hσ hx hl hs w0 hg A mc ms p l e s m args below meth c C H locs lsA cs ss hcb hzb hP hD hS hL
  refine lv_iushr C.1 C.2.1 hd rfl ?_
  have go := k hσ hx hl (oks_cons (v := vI (iushrq a b)) (toI_in _) hs.tl.tl) w0 hg A mc ms p l e s m args below meth c C H locs lsA cs ss hcb hzb hP hD hS hL
  rw [List.map_cons, show cv G (vI (iushrq a b)) = Value.int (Int32.ofInt (iushrq a b)) from rfl] at go
  unfold iushrq at go
  rw [Int32.ofInt_toInt] at go
  exact go
theorem x_iaddw {a b : Int} (hd : decode (cd μ) pc = .ok (.iadd, 1)) (k : WD G μ (pc + 1) ls (vI (wr (a + b)) :: st) w rc rs Q) : WD G μ pc ls (vI b :: vI a :: st) w rc rs Q := by
  intro hσ hx hl hs w0 hg A mc ms p l e s m args below meth c C H locs lsA cs ss hcb hzb hP hD hS hL
  refine lv_iadd C.1 C.2.1 hd ?_
  have go := k hσ hx hl (oks_cons (v := vI (wr (a + b))) (wr_in _) hs.tl.tl) w0 hg A mc ms p l e s m args below meth c C H locs lsA cs ss hcb hzb hP hD hS hL
  rw [List.map_cons, show cv G (vI (wr (a + b))) = Value.int (Int32.ofInt (wr (a + b))) from rfl, show Int32.ofInt (wr (a + b)) = Int32.ofInt a + Int32.ofInt b by rw [qi_add]; exact Int32.ofInt_toInt _] at go
  exact go
theorem x_isubw {a b : Int} (hd : decode (cd μ) pc = .ok (.isub, 1)) (k : WD G μ (pc + 1) ls (vI (wr (a - b)) :: st) w rc rs Q) : WD G μ pc ls (vI b :: vI a :: st) w rc rs Q := by
  intro hσ hx hl hs w0 hg A mc ms p l e s m args below meth c C H locs lsA cs ss hcb hzb hP hD hS hL
  refine lv_isub C.1 C.2.1 hd ?_
  have go := k hσ hx hl (oks_cons (v := vI (wr (a - b))) (wr_in _) hs.tl.tl) w0 hg A mc ms p l e s m args below meth c C H locs lsA cs ss hcb hzb hP hD hS hL
  rw [List.map_cons, show cv G (vI (wr (a - b))) = Value.int (Int32.ofInt (wr (a - b))) from rfl, show Int32.ofInt (wr (a - b)) = Int32.ofInt a - Int32.ofInt b by rw [qi_sub]; exact Int32.ofInt_toInt _] at go
  exact go
theorem x_imulw {a b : Int} (hd : decode (cd μ) pc = .ok (.imul, 1)) (k : WD G μ (pc + 1) ls (vI (wr (a * b)) :: st) w rc rs Q) : WD G μ pc ls (vI b :: vI a :: st) w rc rs Q := by
  intro hσ hx hl hs w0 hg A mc ms p l e s m args below meth c C H locs lsA cs ss hcb hzb hP hD hS hL
  refine lv_imul C.1 C.2.1 hd ?_
  have go := k hσ hx hl (oks_cons (v := vI (wr (a * b))) (wr_in _) hs.tl.tl) w0 hg A mc ms p l e s m args below meth c C H locs lsA cs ss hcb hzb hP hD hS hL
  rw [List.map_cons, show cv G (vI (wr (a * b))) = Value.int (Int32.ofInt (wr (a * b))) from rfl, show Int32.ofInt (wr (a * b)) = Int32.ofInt a * Int32.ofInt b by rw [qi_mul]; exact Int32.ofInt_toInt _] at go
  exact go
theorem x_laddw {a b : Int} (hd : decode (cd μ) pc = .ok (.ladd, 1)) (k : WD G μ (pc + 1) ls (vL (wrl (a + b)) :: st) w rc rs Q) : WD G μ pc ls (vL b :: vL a :: st) w rc rs Q := by
  intro hσ hx hl hs w0 hg A mc ms p l e s m args below meth c C H locs lsA cs ss hcb hzb hP hD hS hL
  refine lv_ladd C.1 C.2.1 hd ?_
  have go := k hσ hx hl (oks_cons (v := vL (wrl (a + b))) (wrl_in _) hs.tl.tl) w0 hg A mc ms p l e s m args below meth c C H locs lsA cs ss hcb hzb hP hD hS hL
  rw [List.map_cons, show cv G (vL (wrl (a + b))) = Value.long (Int64.ofInt (wrl (a + b))) from rfl, show Int64.ofInt (wrl (a + b)) = Int64.ofInt a + Int64.ofInt b by rw [ql_add]; exact Int64.ofInt_toInt _] at go
  exact go
theorem x_lmulw {a b : Int} (hd : decode (cd μ) pc = .ok (.lmul, 1)) (k : WD G μ (pc + 1) ls (vL (wrl (a * b)) :: st) w rc rs Q) : WD G μ pc ls (vL b :: vL a :: st) w rc rs Q := by
  intro hσ hx hl hs w0 hg A mc ms p l e s m args below meth c C H locs lsA cs ss hcb hzb hP hD hS hL
  refine lv_lmul C.1 C.2.1 hd ?_
  have go := k hσ hx hl (oks_cons (v := vL (wrl (a * b))) (wrl_in _) hs.tl.tl) w0 hg A mc ms p l e s m args below meth c C H locs lsA cs ss hcb hzb hP hD hS hL
  rw [List.map_cons, show cv G (vL (wrl (a * b))) = Value.long (Int64.ofInt (wrl (a * b))) from rfl, show Int64.ofInt (wrl (a * b)) = Int64.ofInt a * Int64.ofInt b by rw [ql_mul]; exact Int64.ofInt_toInt _] at go
  exact go
theorem x_lsub {a b : Int} (hd : decode (cd μ) pc = .ok (.lsub, 1)) (ho : inL (a - b)) (k : WD G μ (pc + 1) ls (vL (a - b) :: st) w rc rs Q) : WD G μ pc ls (vL b :: vL a :: st) w rc rs Q := by
  intro hσ hx hl hs w0 hg A mc ms p l e s m args below meth c C H locs lsA cs ss hcb hzb hP hD hS hL
  refine lv_lsub C.1 C.2.1 hd ?_
  have go := k hσ hx hl (oks_cons (v := vL (a - b)) ho hs.tl.tl) w0 hg A mc ms p l e s m args below meth c C H locs lsA cs ss hcb hzb hP hD hS hL
  rw [List.map_cons, show cv G (vL (a - b)) = Value.long (Int64.ofInt (a - b)) from rfl, show Int64.ofInt (a - b) = Int64.ofInt a - Int64.ofInt b by apply Int64.toInt_inj.mp; simp] at go
  exact go
theorem fit_B {x : Int} (h0 : -128 ≤ x) (h1 : x ≤ 127) : fits .byte (.int (Int32.ofInt x)) = true := by
  have e : Int32.ofInt x = (Int32.ofInt x).toInt8.toInt32 := by
    rw [q_i2b]
    congr 1
    omega
  rw [e]
  exact pk_fb _
theorem x_copyR {a a0 n0 n1 idx : Nat} {sp dp n : Int} (hI : Is G w a0 (kR 4 n0)) (hO : Ow w a (kR 4 n1)) (hI2 : a0 ∈ wL w) (hw : Cond.methodLink (mn μ).cls idx arraycopyName ∈ UW) (hnat : Cond.native arraycopyName ∈ UW) (hsta : Cond.static arraycopyName ∈ UW) (hini : Cond.initialized "java/lang/System" ∈ UW) (h1 : 0 ≤ sp) (h2 : 0 ≤ dp) (h3 : 0 ≤ n) (h4 : sp + n ≤ (n0 : Int)) (h5 : dp + n ≤ (n1 : Int)) (hel : ∀ i : Int, 0 ≤ i → i < n → ∀ y : Nat, wR w a0 (sp + i) = some y → Els G w y "java/lang/Object") (hR : 1 ≤ fr μ ∧ (st.map ct).sum + (nativeFrameWords "java/lang/System" "arraycopy" 5 + 11) ≤ lo μ) (hd : decode (cd μ) pc = .ok (.invokestatic idx, 3)) (kk : WD G μ (pc + 3) ls st (uG w a (cpyR w a0 a sp dp n)) rc rs Q) : WD G μ pc ls (vI n :: vI dp :: vA a :: vI sp :: vA a0 :: st) w rc rs Q := by
  intro hσ hx hl hs w0 hg A mc ms p l e s m args below meth c C H locs lsA cs ss hcb hzb hP hD hS hL
  have hts := C.2.2.2.2.2.2.1
  have hK := C.2.2.2.2.2.2.2.1
  have hED := C.2.2.2.2.2.2.2.2.2.2
  have rn : inR n := hs.hd
  have rd : inR dp := hs.tl.hd
  have rsp : inR sp := hs.tl.tl.tl.hd
  have hss : oks st := hs.tl.tl.tl.tl.tl
  obtain ⟨k0, hk0⟩ := wld2_at (G := G) hI2
  obtain ⟨k1, hk1⟩ := wld2_at (G := G) hO.1
  have hk0' := hk0
  have hk1' := hk1
  rw [dent_kR hI.2] at hk0'
  rw [dent_kR hO.2] at hk1'
  have hAa : A a := hO.A hD
  have neg : ∀ x : Int, inR x → 0 ≤ x → ¬ Int32.ofInt x < 0 := fun x hx h => by rw [show (0 : Int32) = Int32.ofInt 0 from rfl, qi_lt hx (by decide)]; omega
  refine va_copyM (D := G.1) (cl := vwCl) (tys := tyD G) C.1 C.2.1 (by rw [C.2.2.1]; exact hL.1.symm) C.2.2.2.2.2.1 (hts _ hw) (hts _ hnat) (hts _ hsta) (hts _ hini) hK hP hD hS (38 + k0) (38 + k1) 4 4 (E0 := "java/lang/Object") (E1 := "java/lang/Object") hk0' hk1' rfl rfl (neg _ rsp h1) (neg _ rd h2) (neg _ rn h3) (by rw [qi_clamp rsp, qi_clamp rn]; omega) (by rw [qi_clamp rd, qi_clamp rn]; omega) (fun i hi y hy => ?_) hR.1 (by rw [q_cats hss]; exact hR.2) hd (fun H1 locs1 hP1 hD1 hS1 => ?_)
  · rw [qi_clamp rn] at hi
    rw [qi_clamp rsp] at hy
    exact (hel i (by omega) (by omega) y (by rw [← hy]; congr 1; omega)).any hx hP hK hED hS
  · have hset : (wld2 G w).set (38 + k1) (a, .inl (G.2.2 4, n1, .inr (.inr (.inr (.inr (va_cpy (fun j => wR w a0 (j : Int)) (fun j => wR w a (j : Int)) (Int32.ofInt sp).toNatClampNeg (Int32.ofInt dp).toNatClampNeg (Int32.ofInt n).toNatClampNeg)))))) = wld2 G (uG w a (cpyR w a0 a sp dp n)) := by
      refine wld2_set hD hk1 ?_ rfl rfl (fun b hb => dent_same (w := w) (w' := uG w a (cpyR w a0 a sp dp n)) rfl (fun _ => rfl) (fun _ => wR_uG hb) (fun _ => rfl))
      rw [dent_kR (w := uG w a (cpyR w a0 a sp dp n)) hO.2, qi_clamp rsp, qi_clamp rd, qi_clamp rn]
      congr 6
      congr 1
      funext j
      rw [wR_uG_s]
      unfold va_cpy cpyR
      by_cases hj : dp.toNat ≤ j ∧ j < dp.toNat + n.toNat
      · rw [if_pos hj, if_pos (by omega)]
        exact congrArg (wR w a0) (by omega)
      · rw [if_neg hj, if_neg (by omega)]
    rw [hset] at hP1 hD1
    exact kk ⟨hσ.1, fun b j => hσ.2 b j⟩ (hx.wr hED hAa rfl (fun _ _ _ => rfl) (fun b hb _ => wR_uG hb) (fun _ _ _ => rfl)) hl hss w0 (hg.tr (Gw.wr hED hAa rfl rfl (fun _ _ _ => rfl) (fun b hb _ => wR_uG hb))) A mc ms p l e s m args below meth c C H1 locs1 lsA cs ss hcb hzb hP1 hD1 hS1 hL
theorem x_copyB {a a0 n0 n1 idx : Nat} {sp dp n : Int} (hI : Is G w a0 (kA 1 n0)) (hO : Ow w a (kA 1 n1)) (hw : Cond.methodLink (mn μ).cls idx arraycopyName ∈ UW) (hnat : Cond.native arraycopyName ∈ UW) (hsta : Cond.static arraycopyName ∈ UW) (hini : Cond.initialized "java/lang/System" ∈ UW) (h1 : 0 ≤ sp) (h2 : 0 ≤ dp) (h3 : 0 ≤ n) (h4 : sp + n ≤ (n0 : Int)) (h5 : dp + n ≤ (n1 : Int)) (hel : ∀ i : Int, 0 ≤ i → i < n → -128 ≤ wI w a0 (sp + i) ∧ wI w a0 (sp + i) ≤ 127) (hR : 1 ≤ fr μ ∧ (st.map ct).sum + (nativeFrameWords "java/lang/System" "arraycopy" 5 + 11) ≤ lo μ) (hd : decode (cd μ) pc = .ok (.invokestatic idx, 3)) (kk : WD G μ (pc + 3) ls st (uF w a (cpyI w a0 a sp dp n)) rc rs Q) : WD G μ pc ls (vI n :: vI dp :: vA a :: vI sp :: vA a0 :: st) w rc rs Q := by
  intro hσ hx hl hs w0 hg A mc ms p l e s m args below meth c C H locs lsA cs ss hcb hzb hP hD hS hL
  have hts := C.2.2.2.2.2.2.1
  have hK := C.2.2.2.2.2.2.2.1
  have hED := C.2.2.2.2.2.2.2.2.2.2
  have rn : inR n := hs.hd
  have rd : inR dp := hs.tl.hd
  have rsp : inR sp := hs.tl.tl.tl.hd
  have hss : oks st := hs.tl.tl.tl.tl.tl
  obtain ⟨k1, hk1⟩ := wld2_at (G := G) hO.1
  have hk1' := hk1
  rw [dent_kA hO.2] at hk1'
  have hAa : A a := hO.A hD
  have neg : ∀ x : Int, inR x → 0 ≤ x → ¬ Int32.ofInt x < 0 := fun x hx h => by rw [show (0 : Int32) = Int32.ofInt 0 from rfl, qi_lt hx (by decide)]; omega
  have hset : ∀ f : Nat → Int32, (∀ j : Nat, sp.toNat ≤ j → j < sp.toNat + n.toNat → f j = Int32.ofInt (wI w a0 (j : Int))) → (wld2 G w).set (38 + k1) (a, .inl (G.2.2 1, n1, .inl (va_cpy f (fun j => Int32.ofInt (wI w a (j : Int))) (Int32.ofInt sp).toNatClampNeg (Int32.ofInt dp).toNatClampNeg (Int32.ofInt n).toNatClampNeg))) = wld2 G (uF w a (cpyI w a0 a sp dp n)) := fun f hf => by
    refine wld2_set hD hk1 ?_ rfl rfl (fun b hb => dent_same (w := w) (w' := uF w a (cpyI w a0 a sp dp n)) rfl (fun _ => wI_uF hb) (fun _ => rfl) (fun _ => rfl))
    rw [dent_kA (w := uF w a (cpyI w a0 a sp dp n)) hO.2, qi_clamp rsp, qi_clamp rd, qi_clamp rn]
    congr 3
    congr 1
    funext j
    rw [wI_uF_s]
    unfold va_cpy cpyI
    by_cases hj : dp.toNat ≤ j ∧ j < dp.toNat + n.toNat
    · rw [if_pos hj, if_pos (by omega), hf _ (by omega) (by omega)]
      congr 2
      omega
    · rw [if_neg hj, if_neg (by omega)]
  have hfit : ∀ (i : Nat), i < (Int32.ofInt n).toNatClampNeg → fits .byte (.int (Int32.ofInt (wI w a0 (((Int32.ofInt sp).toNatClampNeg + i : Nat) : Int)))) = true := fun i hi => by
    rw [qi_clamp rn] at hi
    rw [qi_clamp rsp]
    have := hel i (by omega) (by omega)
    rw [show ((sp.toNat + i : Nat) : Int) = sp + (i : Int) by omega]
    exact fit_B this.1 this.2
  have hwf : WFd (uF w a (cpyI w a0 a sp dp n)) := ⟨hσ.1, fun b j => ⟨by
    show inR (if b = a then cpyI w a0 a sp dp n j else wI w b j)
    split
    · unfold cpyI
      split
      · exact (hσ.2 _ _).1
      · exact (hσ.2 _ _).1
    · exact (hσ.2 _ _).1, (hσ.2 b j).2⟩⟩
  have go : ∀ (H1 : Heap) (locs1 : List Loc), va_P G.1 vwCl (wld2 G (uF w a (cpyI w a0 a sp dp n))) H1 → va_D A (wld2 G (uF w a (cpyI w a0 a sp dp n))) → va_S A s.heap H1 locs1 → W p l e (rmD μ mc ms) s m args below meth c H1 locs1 cs ss (MQ below (QoD G A w0 Q) args s mc ms A) (F0 m (pc + 3) lsA (st.map (cv G))) := fun H1 locs1 hP1 hD1 hS1 => kk hwf (hx.wr hED hAa rfl (fun b hb _ => wI_uF hb) (fun _ _ _ => rfl) (fun _ _ _ => rfl)) hl hss w0 (hg.tr (Gw.wr hED hAa rfl rfl (fun b hb _ => wI_uF hb) (fun _ _ _ => rfl))) A mc ms p l e s m args below meth c C H1 locs1 lsA cs ss hcb hzb hP1 hD1 hS1 hL
  rcases hI.1 with hm | ⟨i, hi, rfl⟩
  · obtain ⟨k0, hk0⟩ := wld2_at (G := G) hm
    rw [dent_kA hI.2] at hk0
    refine va_copyi (D := G.1) (cl := vwCl) (tys := tyD G) C.1 C.2.1 (by rw [C.2.2.1]; exact hL.1.symm) C.2.2.2.2.2.1 (hts _ hw) (hts _ hnat) (hts _ hsta) (hts _ hini) hK hP hD hS (38 + k0) (38 + k1) 1 1 (ty := .byte) hk0 hk1' rfl rfl rfl (neg _ rsp h1) (neg _ rd h2) (neg _ rn h3) (by rw [qi_clamp rsp, qi_clamp rn]; omega) (by rw [qi_clamp rd, qi_clamp rn]; omega) hfit hR.1 (by rw [q_cats hss]; exact hR.2) hd (fun H1 locs1 hP1 hD1 hS1 => ?_)
    rw [hset _ (fun j _ _ => rfl)] at hP1 hD1
    exact go H1 locs1 hP1 hD1 hS1
  · have hX := hED.1.2.1 i hi
    have hkd := (hx i hi).1
    rw [hI.2] at hkd
    unfold Xat at hX
    rw [← hkd] at hX
    refine vk_copyt (D := G.1) (cl := vwCl) (tys := tyD G) (f := fun j => Int32.ofInt (xi i (j : Int))) C.1 C.2.1 (by rw [C.2.2.1]; exact hL.1.symm) C.2.2.2.2.2.1 (hts _ hw) (hts _ hnat) (hts _ hsta) (hts _ hini) hK hP hD hS hX (38 + k1) 1 hk1' rfl (neg _ rsp h1) (neg _ rd h2) (neg _ rn h3) (by rw [qi_clamp rsp, qi_clamp rn]; omega) (by rw [qi_clamp rd, qi_clamp rn]; omega) (fun j hj => by rw [← (hx i hi).2.1]; exact hfit j hj) hR.1 (by rw [q_cats hss]; exact hR.2) hd (fun H1 locs1 hP1 hD1 hS1 => ?_)
    rw [hset _ (fun j _ _ => by rw [(hx i hi).2.1])] at hP1 hD1
    exact go H1 locs1 hP1 hD1 hS1
end XM
