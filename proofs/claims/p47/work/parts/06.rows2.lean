-- fields, arrays, answers, calls
def ClOK (ci : Nat) (C : String) (T : u_T) (N : Nat) : Prop := vwCl[ci]? = some (C, T, N) ∧ (∀ w ∈ u_ws C T N, w ∈ UW)
theorem wld_arr {G : Gq} {σ : St} {k t n : Nat} (hk : k < 38) (ht : tab k = .inl (t, n)) : (wld G σ)[k]? = some (G.2.1 k, .inl (G.2.2 t, n, .inl (fun j => Int32.ofInt (σ k (j : Int))))) := by
  rw [wld_at hk]
  unfold ent
  rw [ht]
theorem wld_obj {G : Gq} {σ : St} {k ci : Nat} {fs : List (Option Nat)} (hk : k < 38) (ht : tab k = .inr (ci, fs)) : (wld G σ)[k]? = some (G.2.1 k, .inr (ci, flq G (fun j => σ k (j : Int)) 0 fs)) := by
  rw [wld_at hk]
  unfold ent
  rw [ht]
theorem Adq_of {G : Gq} {sz : Nat} : ∀ k, k < 38 → Adq G sz (G.2.1 k) := fun k hk => Or.inl ⟨k, hk, rfl⟩
section RF
variable {μ : Md} {pc : Nat} {ls : List (Nat × Vq)} {st : List Vq} {σ : St} {Q : Option Vq → St → Prop}
theorem r_getI {k ci j idx : Nat} {fs : List (Option Nat)} {Cn : String} {T : u_T} {N : Nat} (jj : Int) (hk : k < 38) (ht : tab k = .inr (ci, fs)) (hC : ClOK ci Cn T N) (hN : j < N) (hw : Cond.fieldLink (mn μ).cls idx (T j).1 (T j).2.1 (T j).2.2.1 ∈ UW) (hj : fs[j]? = some none) (hjj : jj = (j : Int)) (hd : decode (cd μ) pc = .ok (.getfield idx, 3)) {y : Int} (hy : σ k jj = y) (kk : WM μ (pc + 3) ls (vI y :: st) σ Q) : WM μ pc ls (vR k :: st) σ Q := by
  intro hσ hl hs G p l e s m args below meth c C H locs lsA hP hS hL
  subst hjj
  subst hy
  refine va_get (D := G.1) (ci := ci) (C := Cn) (T := T) (N := N) (ref := (T j).1) C.1 C.2.1 C.2.2.2.2.2.2.1 hC.2 C.2.2.2.2.2.1 C.2.2.2.2.2.2.2.1 hP k (wld_obj hk ht) hC.1 j hN (C.2.2.2.2.2.2.1 _ hw) (fun x h => h) (flq_int fs 0 j hj) hd ?_
  rw [Nat.zero_add]
  exact kk hσ hl (oks_cons (v := vI (σ k j)) (hσ k j) hs.tl) G p l e s m args below meth c C H locs lsA hP hS hL
theorem r_getR {k ci j idx : Nat} {fs : List (Option Nat)} {Cn : String} {T : u_T} {N : Nat} {q : Nat} (hk : k < 38) (ht : tab k = .inr (ci, fs)) (hC : ClOK ci Cn T N) (hN : j < N) (hw : Cond.fieldLink (mn μ).cls idx (T j).1 (T j).2.1 (T j).2.2.1 ∈ UW) (hj : fs[j]? = some (some q)) (hd : decode (cd μ) pc = .ok (.getfield idx, 3)) (kk : WM μ (pc + 3) ls (vR q :: st) σ Q) : WM μ pc ls (vR k :: st) σ Q := by
  intro hσ hl hs G p l e s m args below meth c C H locs lsA hP hS hL
  refine va_get (D := G.1) (ci := ci) (C := Cn) (T := T) (N := N) (ref := (T j).1) C.1 C.2.1 C.2.2.2.2.2.2.1 hC.2 C.2.2.2.2.2.1 C.2.2.2.2.2.2.2.1 hP k (wld_obj hk ht) hC.1 j hN (C.2.2.2.2.2.2.1 _ hw) (fun x h => h) (flq_ref fs 0 j hj) hd ?_
  exact kk hσ hl (oks_cons (v := vR q) trivial hs.tl) G p l e s m args below meth c C H locs lsA hP hS hL
theorem r_put {k ci j idx : Nat} {fs : List (Option Nat)} {Cn : String} {T : u_T} {N : Nat} {x : Int} (jj : Int) (hk : k < 38) (ht : tab k = .inr (ci, fs)) (hC : ClOK ci Cn T N) (hN : j < N) (hw : Cond.fieldLink (mn μ).cls idx (T j).1 (T j).2.1 (T j).2.2.1 ∈ UW) (hj : fs[j]? = some none) (hjj : jj = (j : Int)) (hfin : (T j).2.2.2 = false) {ty0 : Nat → FieldType} (hty : ∀ k, k < N → parseFieldDescriptor (T k).2.2.1 = some (ty0 k)) (hi : ty0 j = .int) (hnm : ∀ a, a < N → ∀ b, b < N → a ≠ b → (T a).2.1 ≠ (T b).2.1) (hd : decode (cd μ) pc = .ok (.putfield idx, 3)) (kk : WM μ (pc + 3) ls st (ups σ k jj x) Q) : WM μ pc ls (vI x :: vR k :: st) σ Q := by
  intro hσ hl hs G p l e s m args below meth c C H locs lsA hP hS hL
  subst hjj
  have hx : inR x := hs.hd
  refine va_put (D := G.1) (ci := ci) (C := Cn) (T := T) (N := N) (ref := (T j).1) (ty := .int) (v := .int (Int32.ofInt x)) C.1 C.2.1 C.2.2.2.2.2.2.1 hC.2 ty0 hty hnm C.2.2.2.2.2.1 C.2.2.2.2.2.2.2.1 hP (wld_D C.2.2.2.2.2.2.2.2.1 Adq_of) hS k (wld_obj hk ht) hC.1 j hN (C.2.2.2.2.2.2.1 _ hw) (fun x h => h) hfin (by rw [hty j hN, hi]) rfl rfl (by rw [flq_len]; exact (List.getElem?_eq_some_iff.mp hj).1) hd (fun H1 locs1 hP1 _ hS1 => ?_)
  rw [ups_fld ht hj, wld_set hk rfl ups_other] at hP1
  exact kk (hσ.ups hx) hl hs.tl.tl G p l e s m args below meth c C H1 locs1 lsA hP1 hS1 hL
theorem r_iald {k n : Nat} {i : Int} (hk : k < 38) (ht : tab k = .inl (0, n)) (hd : decode (cd μ) pc = .ok (.iaload, 1)) (h0 : 0 ≤ i) (h1 : i < (n : Int)) {y : Int} (hy : σ k i = y) (kk : WM μ (pc + 1) ls (vI y :: st) σ Q) : WM μ pc ls (vI i :: vR k :: st) σ Q := by
  intro hσ hl hs G p l e s m args below meth c C H locs lsA hP hS hL
  subst hy
  have hi : inR i := hs.hd
  refine va_iald (D := G.1) (cl := vwCl) (tys := tyq G) C.1 C.2.1 C.2.2.2.2.2.2.2.1 hP k 0 (wld_arr hk ht) rfl (qi_in h0 h1 hi) hd ?_
  rw [qi_clamp hi, Int.toNat_of_nonneg h0]
  exact kk hσ hl (oks_cons (v := vI (σ k i)) (hσ k i) hs.tl.tl) G p l e s m args below meth c C H locs lsA hP hS hL
theorem r_bald {k n : Nat} {i : Int} (hk : k < 38) (ht : tab k = .inl (1, n)) (hd : decode (cd μ) pc = .ok (.baload, 1)) (h0 : 0 ≤ i) (h1 : i < (n : Int)) {y : Int} (hy : σ k i = y) (kk : WM μ (pc + 1) ls (vI y :: st) σ Q) : WM μ pc ls (vI i :: vR k :: st) σ Q := by
  intro hσ hl hs G p l e s m args below meth c C H locs lsA hP hS hL
  subst hy
  have hi : inR i := hs.hd
  refine va_bald (D := G.1) (cl := vwCl) (tys := tyq G) C.1 C.2.1 C.2.2.2.2.2.2.2.1 hP k 1 (wld_arr hk ht) rfl (qi_in h0 h1 hi) hd ?_
  rw [qi_clamp hi, Int.toNat_of_nonneg h0]
  exact kk hσ hl (oks_cons (v := vI (σ k i)) (hσ k i) hs.tl.tl) G p l e s m args below meth c C H locs lsA hP hS hL
theorem r_zald {k n : Nat} {i : Int} (hk : k < 38) (ht : tab k = .inl (2, n)) (hd : decode (cd μ) pc = .ok (.baload, 1)) (h0 : 0 ≤ i) (h1 : i < (n : Int)) {y : Int} (hy : σ k i = y) (kk : WM μ (pc + 1) ls (vI y :: st) σ Q) : WM μ pc ls (vI i :: vR k :: st) σ Q := by
  intro hσ hl hs G p l e s m args below meth c C H locs lsA hP hS hL
  subst hy
  have hi : inR i := hs.hd
  refine va_zald (D := G.1) (cl := vwCl) (tys := tyq G) C.1 C.2.1 C.2.2.2.2.2.2.2.1 hP k 2 (wld_arr hk ht) rfl (qi_in h0 h1 hi) hd ?_
  rw [qi_clamp hi, Int.toNat_of_nonneg h0]
  exact kk hσ hl (oks_cons (v := vI (σ k i)) (hσ k i) hs.tl.tl) G p l e s m args below meth c C H locs lsA hP hS hL
theorem r_cald {k n : Nat} {i : Int} (hk : k < 38) (ht : tab k = .inl (3, n)) (hd : decode (cd μ) pc = .ok (.caload, 1)) (h0 : 0 ≤ i) (h1 : i < (n : Int)) {y : Int} (hy : σ k i = y) (kk : WM μ (pc + 1) ls (vI y :: st) σ Q) : WM μ pc ls (vI i :: vR k :: st) σ Q := by
  intro hσ hl hs G p l e s m args below meth c C H locs lsA hP hS hL
  subst hy
  have hi : inR i := hs.hd
  refine va_cald (D := G.1) (cl := vwCl) (tys := tyq G) C.1 C.2.1 C.2.2.2.2.2.2.2.1 hP k 3 (wld_arr hk ht) rfl (qi_in h0 h1 hi) hd ?_
  rw [qi_clamp hi, Int.toNat_of_nonneg h0]
  exact kk hσ hl (oks_cons (v := vI (σ k i)) (hσ k i) hs.tl.tl) G p l e s m args below meth c C H locs lsA hP hS hL
theorem q_narB {x : Int} (h0 : -128 ≤ x) (h1 : x ≤ 127) : vp_nar .byte (Int32.ofInt x) = Int32.ofInt x := by
  rw [vp_nar_byte, q_i2b]
  congr 1
  omega
theorem q_narZ {x : Int} (h : x = 0 ∨ x = 1) : vp_nar .boolean (Int32.ofInt x) = Int32.ofInt x := by
  rcases h with h | h <;> subst h <;> decide +kernel
theorem q_narC {x : Int} (h0 : 0 ≤ x) (h1 : x < 65536) : vp_nar .char (Int32.ofInt x) = Int32.ofInt x := by
  have h := (pk_charN (q := x.toNat) (by omega)).1
  have e : nI x.toNat = Int32.ofInt x := by
    show Int32.ofNat x.toNat = _
    rw [← Int32.ofInt_eq_ofNat, Int.toNat_of_nonneg h0]
  unfold vp_nar
  rw [e] at h
  rw [h]
theorem r_iast {k n : Nat} {i x : Int} (hk : k < 38) (ht : tab k = .inl (0, n)) (hd : decode (cd μ) pc = .ok (.iastore, 1)) (h0 : 0 ≤ i) (h1 : i < (n : Int))  (kk : WM μ (pc + 1) ls st (ups σ k i x) Q) : WM μ pc ls (vI x :: vI i :: vR k :: st) σ Q := by
  intro hσ hl hs G p l e s m args below meth c C H locs lsA hP hS hL
  have hi : inR i := hs.tl.hd
  have hx : inR x := hs.hd
  refine va_iast (D := G.1) (cl := vwCl) (tys := tyq G) C.1 C.2.1 C.2.2.2.2.2.2.2.1 hP (wld_D C.2.2.2.2.2.2.2.2.1 Adq_of) hS k 0 (wld_arr hk ht) rfl (qi_in h0 h1 hi) hd (fun H1 locs1 hP1 _ hS1 => ?_)
  rw [qi_clamp hi, ups_arr ht h0, wld_set hk rfl ups_other] at hP1
  exact kk (hσ.ups hx) hl hs.tl.tl.tl G p l e s m args below meth c C H1 locs1 lsA hP1 hS1 hL
theorem r_bast {k n : Nat} {i x : Int} (hk : k < 38) (ht : tab k = .inl (1, n)) (hd : decode (cd μ) pc = .ok (.bastore, 1)) (h0 : 0 ≤ i) (h1 : i < (n : Int)) (hx0 : -128 ≤ x) (hx1 : x ≤ 127) (kk : WM μ (pc + 1) ls st (ups σ k i x) Q) : WM μ pc ls (vI x :: vI i :: vR k :: st) σ Q := by
  intro hσ hl hs G p l e s m args below meth c C H locs lsA hP hS hL
  have hi : inR i := hs.tl.hd
  have hx : inR x := hs.hd
  refine va_bast (D := G.1) (cl := vwCl) (tys := tyq G) C.1 C.2.1 C.2.2.2.2.2.2.2.1 hP (wld_D C.2.2.2.2.2.2.2.2.1 Adq_of) hS k 1 (wld_arr hk ht) rfl (qi_in h0 h1 hi) hd (fun H1 locs1 hP1 _ hS1 => ?_)
  rw [qi_clamp hi, q_narB hx0 hx1, ups_arr ht h0, wld_set hk rfl ups_other] at hP1
  exact kk (hσ.ups hx) hl hs.tl.tl.tl G p l e s m args below meth c C H1 locs1 lsA hP1 hS1 hL
theorem r_zast {k n : Nat} {i x : Int} (hk : k < 38) (ht : tab k = .inl (2, n)) (hd : decode (cd μ) pc = .ok (.bastore, 1)) (h0 : 0 ≤ i) (h1 : i < (n : Int)) (hx0 : x = 0 ∨ x = 1) (kk : WM μ (pc + 1) ls st (ups σ k i x) Q) : WM μ pc ls (vI x :: vI i :: vR k :: st) σ Q := by
  intro hσ hl hs G p l e s m args below meth c C H locs lsA hP hS hL
  have hi : inR i := hs.tl.hd
  have hx : inR x := hs.hd
  refine va_zast (D := G.1) (cl := vwCl) (tys := tyq G) C.1 C.2.1 C.2.2.2.2.2.2.2.1 hP (wld_D C.2.2.2.2.2.2.2.2.1 Adq_of) hS k 2 (wld_arr hk ht) rfl (qi_in h0 h1 hi) hd (fun H1 locs1 hP1 _ hS1 => ?_)
  rw [qi_clamp hi, q_narZ hx0, ups_arr ht h0, wld_set hk rfl ups_other] at hP1
  exact kk (hσ.ups hx) hl hs.tl.tl.tl G p l e s m args below meth c C H1 locs1 lsA hP1 hS1 hL
theorem r_cast {k n : Nat} {i x : Int} (hk : k < 38) (ht : tab k = .inl (3, n)) (hd : decode (cd μ) pc = .ok (.castore, 1)) (h0 : 0 ≤ i) (h1 : i < (n : Int)) (hx0 : 0 ≤ x) (hx1 : x < 65536) (kk : WM μ (pc + 1) ls st (ups σ k i x) Q) : WM μ pc ls (vI x :: vI i :: vR k :: st) σ Q := by
  intro hσ hl hs G p l e s m args below meth c C H locs lsA hP hS hL
  have hi : inR i := hs.tl.hd
  have hx : inR x := hs.hd
  refine va_cast (D := G.1) (cl := vwCl) (tys := tyq G) C.1 C.2.1 C.2.2.2.2.2.2.2.1 hP (wld_D C.2.2.2.2.2.2.2.2.1 Adq_of) hS k 3 (wld_arr hk ht) rfl (qi_in h0 h1 hi) hd (fun H1 locs1 hP1 _ hS1 => ?_)
  rw [qi_clamp hi, q_narC hx0 hx1, ups_arr ht h0, wld_set hk rfl ups_other] at hP1
  exact kk (hσ.ups hx) hl hs.tl.tl.tl G p l e s m args below meth c C H1 locs1 lsA hP1 hS1 hL
theorem r_alen {k t n : Nat} {ty : FieldType} (nn : Int) (hk : k < 38) (ht : tab k = .inl (t, n)) (hty : ∀ G : Gq, (tyq G)[t]? = some (G.2.2 t, ty)) (hn : nn = (n : Int)) (ho : inR nn) (hd : decode (cd μ) pc = .ok (.arraylength, 1)) (kk : WM μ (pc + 1) ls (vI nn :: st) σ Q) : WM μ pc ls (vR k :: st) σ Q := by
  intro hσ hl hs G p l e s m args below meth c C H locs lsA hP hS hL
  subst hn
  refine va_alen (D := G.1) (cl := vwCl) (tys := tyq G) C.1 C.2.1 C.2.2.2.2.2.2.2.1 hP k t (wld_arr hk ht) (hty G) (v := Int32.ofInt (n : Int)) (by rw [Int32.ofInt_eq_ofNat]) hd ?_
  exact kk hσ hl (oks_cons (v := vI (n : Int)) ho hs.tl) G p l e s m args below meth c C H locs lsA hP hS hL
-- the static arrays, the texts
theorem r_gets {idx q : Nat} {Cn n d : String} (hz : ∀ (G : Gq) (A : Nat → Prop) (U : State) (H : Heap), Extq G A U H → va_Z Cn n d (.ref (G.2.1 q)) A U H) (hw : Cond.fieldLink (mn μ).cls idx Cn n d ∈ UW) (hd : decode (cd μ) pc = .ok (.getstatic idx, 3)) (kk : WM μ (pc + 3) ls (vR q :: st) σ Q) : WM μ pc ls st σ Q := by
  intro hσ hl hs G p l e s m args below meth c C H locs lsA hP hS hL
  exact va_gets C.1 C.2.1 (hz G _ s _ C.2.2.2.2.2.2.2.2.2.2) hS C.2.2.2.2.2.1 (C.2.2.2.2.2.2.1 _ hw) (fun x h => h) hd (kk hσ hl (oks_cons (v := vR q) trivial hs) G p l e s m args below meth c C H locs lsA hP hS hL)
theorem r_getsI {idx : Nat} {Cn n d : String} {v : Int32} (x : Int) (hz : ∀ (G : Gq) (A : Nat → Prop) (U : State) (H : Heap), Extq G A U H → va_Z Cn n d (.int v) A U H) (hv : v = Int32.ofInt x) (hx : inR x) (hw : Cond.fieldLink (mn μ).cls idx Cn n d ∈ UW) (hd : decode (cd μ) pc = .ok (.getstatic idx, 3)) (kk : WM μ (pc + 3) ls (vI x :: st) σ Q) : WM μ pc ls st σ Q := by
  intro hσ hl hs G p l e s m args below meth c C H locs lsA hP hS hL
  subst hv
  exact va_gets C.1 C.2.1 (hz G _ s _ C.2.2.2.2.2.2.2.2.2.2) hS C.2.2.2.2.2.1 (C.2.2.2.2.2.2.1 _ hw) (fun x h => h) hd (kk hσ hl (oks_cons (v := vI x) hx hs) G p l e s m args below meth c C H locs lsA hP hS hL)
theorem r_getsO {idx : Nat} {Cn n d : String} (hz : ∀ (G : Gq) (A : Nat → Prop) (U : State) (H : Heap), Extq G A U H → va_Zq Cn n d A U H) (hw : Cond.fieldLink (mn μ).cls idx Cn n d ∈ UW) (hd : decode (cd μ) pc = .ok (.getstatic idx, 3)) (kk : ∀ v : Value, v.category = 1 → WM μ (pc + 3) ls (vO v :: st) σ Q) : WM μ pc ls st σ Q := by
  intro hσ hl hs G p l e s m args below meth c C H locs lsA hP hS hL
  rcases hz G _ s _ C.2.2.2.2.2.2.2.2.2.2 with hz | ⟨t, hz⟩
  · exact va_gets C.1 C.2.1 hz hS C.2.2.2.2.2.1 (C.2.2.2.2.2.2.1 _ hw) (fun x h => h) hd (kk .null rfl hσ hl (oks_cons (v := vO .null) rfl hs) G p l e s m args below meth c C H locs lsA hP hS hL)
  · exact va_gets C.1 C.2.1 hz hS C.2.2.2.2.2.1 (C.2.2.2.2.2.2.1 _ hw) (fun x h => h) hd (kk (.ref t) rfl hσ hl (oks_cons (v := vO (.ref t)) rfl hs) G p l e s m args below meth c C H locs lsA hP hS hL)
theorem r_tiald {q n : Nat} {i : Int} {f : Int → Int} (hz : ∀ (G : Gq) (A : Nat → Prop) (U : State) (H : Heap), Extq G A U H → va_T .int (G.2.1 q) n (fun j => .int (Int32.ofInt (f (j : Int)))) A U H) (hf : ∀ j, inR (f j)) (hd : decode (cd μ) pc = .ok (.iaload, 1)) (h0 : 0 ≤ i) (h1 : i < (n : Int)) (kk : WM μ (pc + 1) ls (vI (f i) :: st) σ Q) : WM μ pc ls (vI i :: vR q :: st) σ Q := by
  intro hσ hl hs G p l e s m args below meth c C H locs lsA hP hS hL
  have hi : inR i := hs.hd
  exact va_ti C.1 C.2.1 (hz G _ s _ C.2.2.2.2.2.2.2.2.2.2) hS (qi_in h0 h1 hi) (v := .int (Int32.ofInt (f i))) (by show Value.int (Int32.ofInt (f ((Int32.ofInt i).toNatClampNeg : Int))) = _; rw [qi_clamp hi, Int.toNat_of_nonneg h0]) hd (kk hσ hl (oks_cons (v := vI (f i)) (hf i) hs.tl.tl) G p l e s m args below meth c C H locs lsA hP hS hL)
theorem r_tbald {q n : Nat} {i : Int} {f : Int → Int} (hz : ∀ (G : Gq) (A : Nat → Prop) (U : State) (H : Heap), Extq G A U H → va_T .byte (G.2.1 q) n (fun j => .int (Int32.ofInt (f (j : Int)))) A U H) (hf : ∀ j, inR (f j)) (hd : decode (cd μ) pc = .ok (.baload, 1)) (h0 : 0 ≤ i) (h1 : i < (n : Int)) (kk : WM μ (pc + 1) ls (vI (f i) :: st) σ Q) : WM μ pc ls (vI i :: vR q :: st) σ Q := by
  intro hσ hl hs G p l e s m args below meth c C H locs lsA hP hS hL
  have hi : inR i := hs.hd
  exact va_tb C.1 C.2.1 (hz G _ s _ C.2.2.2.2.2.2.2.2.2.2) hS (qi_in h0 h1 hi) (v := .int (Int32.ofInt (f i))) (by show Value.int (Int32.ofInt (f ((Int32.ofInt i).toNatClampNeg : Int))) = _; rw [qi_clamp hi, Int.toNat_of_nonneg h0]) hd (kk hσ hl (oks_cons (v := vI (f i)) (hf i) hs.tl.tl) G p l e s m args below meth c C H locs lsA hP hS hL)
theorem r_talen {q n : Nat} {ty : FieldType} {f : Nat → Value} (nn : Int) (hz : ∀ (G : Gq) (A : Nat → Prop) (U : State) (H : Heap), Extq G A U H → va_T ty (G.2.1 q) n f A U H) (hn : nn = (n : Int)) (ho : inR nn) (hd : decode (cd μ) pc = .ok (.arraylength, 1)) (kk : WM μ (pc + 1) ls (vI nn :: st) σ Q) : WM μ pc ls (vR q :: st) σ Q := by
  intro hσ hl hs G p l e s m args below meth c C H locs lsA hP hS hL
  subst hn
  exact va_tlen C.1 C.2.1 (hz G _ s _ C.2.2.2.2.2.2.2.2.2.2) hS (v := Int32.ofInt (n : Int)) (by rw [Int32.ofInt_eq_ofNat]) hd (kk hσ hl (oks_cons (v := vI (n : Int)) ho hs.tl) G p l e s m args below meth c C H locs lsA hP hS hL)
theorem r_getE {idx q : Nat} {Cn n d : String} {v : Vq} (hz : ∀ (G : Gq) (A : Nat → Prop) (U : State) (H : Heap), Extq G A U H → va_OF Cn n d (cv G v) (G.2.1 q) A U H) (hv : okv v) (hw : Cond.fieldLink (mn μ).cls idx Cn n d ∈ UW) (hd : decode (cd μ) pc = .ok (.getfield idx, 3)) (kk : WM μ (pc + 3) ls (v :: st) σ Q) : WM μ pc ls (vR q :: st) σ Q := by
  intro hσ hl hs G p l e s m args below meth c C H locs lsA hP hS hL
  exact vk_getf C.1 C.2.1 (hz G _ s _ C.2.2.2.2.2.2.2.2.2.2) hS C.2.2.2.2.2.1 (C.2.2.2.2.2.2.1 _ hw) (fun x h => h) hd (kk hσ hl (oks_cons hv hs.tl) G p l e s m args below meth c C H locs lsA hP hS hL)
-- answers
theorem r_ireturn {v : Int} {K : Int → St → Prop} (hr : rt μ = some .int) (hd : decode (cd μ) pc = .ok (.ireturn, 1)) (kk : K v σ) : WM μ pc ls [vI v] σ (QI K) := by
  intro hσ hl hs G p l e s m args below meth c C H locs lsA hP hS hL
  exact W.iret (v := Int32.ofInt v) C.1 C.2.1 (by rw [C.2.2.2.1, hr]) (fun t ht hW => ⟨⟨some (vI v), σ, rfl, hσ, hs.hd, ⟨v, rfl, kk⟩, by rw [ht]; exact hP⟩, hS.F ht⟩) hS.2.2 hd C.2.2.2.2.1
theorem r_zreturn {v : Int} {K : Int → St → Prop} (hr : rt μ = some .boolean) (hd : decode (cd μ) pc = .ok (.ireturn, 1)) (hv : v = 0 ∨ v = 1) (kk : K v σ) : WM μ pc ls [vI v] σ (QI K) := by
  intro hσ hl hs G p l e s m args below meth c C H locs lsA hP hS hL
  exact W.zret (v := Int32.ofInt v) C.1 C.2.1 (by rw [C.2.2.2.1, hr]) (by rcases hv with h | h <;> subst h <;> decide +kernel) (fun t ht hW => ⟨⟨some (vI v), σ, rfl, hσ, hs.hd, ⟨v, rfl, kk⟩, by rw [ht]; exact hP⟩, hS.F ht⟩) hS.2.2 hd C.2.2.2.2.1
theorem r_creturn {v : Int} {K : Int → St → Prop} (hr : rt μ = some .char) (hd : decode (cd μ) pc = .ok (.ireturn, 1)) (h0 : 0 ≤ v) (h1 : v < 65536) (kk : K v σ) : WM μ pc ls [vI v] σ (QI K) := by
  intro hσ hl hs G p l e s m args below meth c C H locs lsA hP hS hL
  have h := (pk_charN (q := v.toNat) (by omega)).1
  rw [show nI v.toNat = Int32.ofInt v by show Int32.ofNat v.toNat = _; rw [← Int32.ofInt_eq_ofNat, Int.toNat_of_nonneg h0]] at h
  exact W.zret (v := Int32.ofInt v) C.1 C.2.1 (by rw [C.2.2.2.1, hr]) h (fun t ht hW => ⟨⟨some (vI v), σ, rfl, hσ, hs.hd, ⟨v, rfl, kk⟩, by rw [ht]; exact hP⟩, hS.F ht⟩) hS.2.2 hd C.2.2.2.2.1
theorem r_breturn {v : Int} {K : Int → St → Prop} (hr : rt μ = some .byte) (hd : decode (cd μ) pc = .ok (.ireturn, 1)) (h0 : -128 ≤ v) (h1 : v ≤ 127) (kk : K v σ) : WM μ pc ls [vI v] σ (QI K) := by
  intro hσ hl hs G p l e s m args below meth c C H locs lsA hP hS hL
  have h : narrow .byte (.int (Int32.ofInt v)) = .int (Int32.ofInt v) := by
    show Value.int (Int32.ofInt v).toInt8.toInt32 = _
    rw [q_i2b]
    congr 2
    omega
  exact W.zret (v := Int32.ofInt v) C.1 C.2.1 (by rw [C.2.2.2.1, hr]) h (fun t ht hW => ⟨⟨some (vI v), σ, rfl, hσ, hs.hd, ⟨v, rfl, kk⟩, by rw [ht]; exact hP⟩, hS.F ht⟩) hS.2.2 hd C.2.2.2.2.1
theorem r_dreturn {v : UInt64} {K : UInt64 → St → Prop} (hr : rt μ = some .double) (hd : decode (cd μ) pc = .ok (.dreturn, 1)) (kk : K v σ) : WM μ pc ls [vD v] σ (QD K) := by
  intro hσ hl hs G p l e s m args below meth c C H locs lsA hP hS hL
  exact W.dret (v := v) C.1 C.2.1 (by rw [C.2.2.2.1, hr]) (fun t ht hW => ⟨⟨some (vD v), σ, rfl, hσ, trivial, ⟨v, rfl, kk⟩, by rw [ht]; exact hP⟩, hS.F ht⟩) hS.2.2 hd C.2.2.2.2.1
theorem r_return {K : St → Prop} (hr : rt μ = none) (hd : decode (cd μ) pc = .ok (.return_, 1)) (kk : K σ) : WM μ pc ls [] σ (QV K) := by
  intro hσ hl hs G p l e s m args below meth c C H locs lsA hP hS hL
  exact W.vret C.1 C.2.1 (by rw [C.2.2.2.1, hr]) (fun t ht hW => ⟨⟨none, σ, rfl, hσ, trivial, ⟨rfl, kk⟩, by rw [ht]; exact hP⟩, hS.F ht⟩) hS.2.2 hd C.2.2.2.2.1
end RF
section RC
variable {p : Program} {l : Launch} {e : Env} {R : Room} {s : State} {m : MethodId} {args : Array Value} {below : List Frame} {meth : Method} {c : Code} {H : Heap} {locs : List Loc} {cells slots : Nat} {Z : State → Prop}
variable {pc : Nat} {lsA : Array Slot} {rest st0 : List Value} {a : Array Value} {A0 : Nat → Prop} {G : Gq} {Q0 : Option Vq → St → Prop}
theorem q_call (hr : va_Run p l e R s m args below meth c H locs cells slots 0 0 (F0 m pc lsA st0) rest (Qoq G Q0 H.size a) (Adq G H.size)) (hS : va_S A0 s.heap H locs) (hA : ∀ k, k < 38 → A0 (G.2.1 k)) (hN : ∀ q, s.heap.size ≤ q → A0 q)
    (kk : ∀ (r : Option Vq) (σ' : St) (H1 : Heap) (locs1 : List Loc), WF σ' → okr r → Q0 r σ' → va_P G.1 vwCl (wld G σ') H1 → va_S A0 s.heap H1 locs1 → W p l e R s m args below meth c H1 locs1 cells slots Z (F0 m (pc + 3) lsA ((r.map (cv G)).toList ++ rest))) : W p l e R s m args below meth c H locs cells slots Z (F0 m pc lsA st0) := by
  intro T hT X
  obtain ⟨v, st₀, t, T', L, h0, X', hL, e1, e2, ⟨⟨r, σ', hv, hσ, ho, hq, hP⟩, hz, hk⟩, stp⟩ := hr T hT X
  cases hv
  rw [h0] at hz hk
  have sub : ∀ q, Adq G H.size q → A0 q := fun q h => by
    rcases h with ⟨k, hk, rfl⟩ | h
    · exact hA k hk
    · exact hN q (Nat.le_trans hS.1 h)
  obtain ⟨t2, a1, b1⟩ := kk r σ' T'.heap (locs ++ L) hσ ho hq (by rw [e1]; exact hP)
    ⟨Nat.le_trans hS.1 (by rw [e1]; exact hz), fun q h1 h2 => by rw [e1, hk q (Nat.lt_of_lt_of_le h1 hS.1) (fun z => h2 (sub q z))]; exact hS.2.1 q h1 h2, fun q hq => by
      rcases List.mem_append.mp hq with h | h
      · exact hS.2.2 q h
      · exact sub _ (hL q h)⟩ T' rfl X'
  exact ⟨t2, stp t2 a1, b1⟩
end RC
theorem q_callB {R : Room} {s : State} {args : Array Value} {own : String} {index n : Nat} {ν : Md} (hν : MdOK ν) (hts : ∀ w ∈ UW, w.before args s = true) (hf : fr ν + 1 ≤ R.frames) (hlo : 8 + (mL ν + 11) + lo ν ≤ R.locals) (hn : (parseMethodDescriptor (mn ν).desc).map (fun d => d.parameters.length) = some n) (hl : Cond.methodLink own index (mn ν) ∈ UW) : CallB R s args own index (mn ν) (cd ν) (mL ν) (rt ν) (wsq ν) (rmq ν) 0 0 n := by
  have hg : ∀ w ∈ wsq ν, w ∈ UW ∧ ((w.onTables && w.keeps) = true ∨ ∃ ty, w = .arrayClass ty) := fun w hw => by
    rcases List.mem_cons.mp hw with e | hw
    · subst e; exact ⟨hν.1, uw_good _ hν.1⟩
    · exact ⟨hw, uw_good _ hw⟩
  refine ⟨rfl, rfl, hf, hlo, pay_in hts hg, List.mem_cons_self, hts _ hν.1, hts _ hν.2.1, hν.2.2.1, fun sig h => ?_, hts _ hl⟩
  rw [h] at hn
  exact (Option.some.inj hn).symm
theorem Cxq.pre {μ : Md} {G : Gq} {p : Program} {s : State} {m : MethodId} {args : Array Value} {meth : Method} {c : Code} {vs : List Vq} {σ : St} {H : Heap} {locs : List Loc} (C : Cxq μ G p s m args meth c) (hP : va_P G.1 vwCl (wld G σ) H) (hS : va_S (Adq G s.heap.size) s.heap H locs) : ∀ U : State, U.heap = H → s.WarmedH U.vm → Prq G vs σ H.size (vs.map (cv G)).toArray U := by
  intro U hU hW
  have hE := C.2.2.2.2.2.2.2.2.2.2
  refine ⟨rfl, by rw [hU], by rw [hU]; exact hP, va_K.moved hW.alike C.2.2.2.2.2.2.2.1, C.2.2.2.2.2.2.2.2.1, fun k hk => Nat.lt_of_lt_of_le (C.2.2.2.2.2.2.2.2.2.1 k hk) hS.1, ?_⟩
  rw [hU]
  refine Extq.warm hW (Extq.narrow (Extq.kept hE hS.2.1) (fun q h => ?_))
  rcases h with h | h
  · exact Or.inl h
  · exact Or.inr (Nat.le_trans hS.1 h)
section RV
variable {μ : Md} {pc : Nat} {ls : List (Nat × Vq)} {st : List Vq} {σ : St} {Q : Option Vq → St → Prop}
theorem q_rest {G : Gq} {st : List Vq} {r : Option Vq} : (r.map (cv G)).toList ++ st.map (cv G) = (r.toList ++ st).map (cv G) := by cases r <;> rfl
theorem oks_rest {st : List Vq} {r : Option Vq} (hr : okr r) (h : oks st) : oks (r.toList ++ st) := by
  cases r with
  | none => exact h
  | some v => exact oks_cons hr h
theorem q_cats {G : Gq} {st : List Vq} (h : oks st) : ((st.map (cv G)).map fun v => v.category).sum = (st.map ct).sum := by
  induction st with
  | nil => rfl
  | cons v st ih =>
    simp only [List.map_cons, List.sum_cons]
    rw [ih h.tl, cv_ct G h.hd]
/-- a method of an object of the world -/
theorem r_callV {ν : Md} {k ci idx n : Nat} {fs : List (Option Nat)} {q : vw_C} (vs : List Vq) {stk : List Vq} (hν : MdOK ν) (hv : MdV ν) (hk : k < 38) (ht : tab k = .inr (ci, fs)) (hc : vwCl[ci]? = some q) (hq : q.1 = (mn ν).cls) (hw : Cond.methodLink (mn μ).cls idx (mn ν) ∈ UW) (hn : (parseMethodDescriptor (mn ν).desc).map (fun d => d.parameters.length) = some n) (hvn : vs.length = n)
    (hR : fr ν + 1 ≤ fr μ ∧ 8 + (mL ν + 11) + lo ν ≤ lo μ) (hsum : (st.map ct).sum ≤ 8) (hstk : stk = vs.reverse ++ vR k :: st) (hd : decode (cd μ) pc = .ok (.invokevirtual idx, 3))
    (kk : Con ν (vR k :: vs) σ (fun r σ' => WM μ (pc + 3) ls (r.toList ++ st) σ' Q)) : WM μ pc ls stk σ Q := by
  subst hstk
  intro hσ hl hs G p l e s m args below meth c C H locs lsA hP hS hL
  obtain ⟨Q0, hk0, hM⟩ := kk
  have hs1 : oks vs := fun v hv => (hs.app).1 v (List.mem_reverse.mpr hv)
  have hs2 : oks st := (hs.app).2.tl
  have hM := hM hσ (oks_cons (v := vR k) trivial hs1) G l H.size
  have hts := C.2.2.2.2.2.2.1
  refine q_call (Q0 := Q0) (a := ((vR k :: vs).map (cv G)).toArray) (rest := st.map (cv G)) (va_runV (As := vs.map (cv G)) (C := (mn ν).cls) (b := G.2.1 k) (n := n) ⟨C.1, C.2.1, C.2.2.1, C.2.2.2.2.2.1, hts⟩ hM ⟨q_callB hν hts hR.1 hR.2 hn hw, hts _ hv.1, hts _ hv.2⟩
    ⟨Prq_blind, ?_, C.pre hP hS⟩ rfl (by rw [List.length_map]; exact hvn) hL.1 (by simp [vR, cv]) (lv_room (by rw [q_cats hs2]; exact hsum)) hd ⟨Nat.le_refl _, Nat.le_refl _⟩) hS Adq_of (fun q h => Or.inr h) (fun r σ' H1 locs1 hσ' hr hq0 hP1 hS1 => ?_)
  · have := va_recv C.2.2.2.2.2.2.2.1 hP hc (wld_obj hk ht)
    rw [hq] at this
    exact this
  · rw [q_rest]
    exact hk0 r σ' hσ' hr hq0 hσ' hl (oks_rest hr hs2) G p l e s m args below meth c C H1 locs1 lsA hP1 hS1 hL
theorem r_callS {ν : Md} {idx n : Nat} (vs : List Vq) {stk : List Vq} (hν : MdOK ν) (hv : Cond.static (mn ν) ∈ UW) (hw : Cond.methodLink (mn μ).cls idx (mn ν) ∈ UW) (hn : (parseMethodDescriptor (mn ν).desc).map (fun d => d.parameters.length) = some n) (hvn : vs.length = n)
    (hR : fr ν + 1 ≤ fr μ ∧ 8 + (mL ν + 11) + lo ν ≤ lo μ) (hsum : (st.map ct).sum ≤ 8) (hstk : stk = vs.reverse ++ st) (hd : decode (cd μ) pc = .ok (.invokestatic idx, 3))
    (kk : Con ν vs σ (fun r σ' => WM μ (pc + 3) ls (r.toList ++ st) σ' Q)) : WM μ pc ls stk σ Q := by
  subst hstk
  intro hσ hl hs G p l e s m args below meth c C H locs lsA hP hS hL
  obtain ⟨Q0, hk0, hM⟩ := kk
  have hs1 : oks vs := fun v hv => (hs.app).1 v (List.mem_reverse.mpr hv)
  have hs2 : oks st := (hs.app).2
  have hM := hM hσ hs1 G l H.size
  have hts := C.2.2.2.2.2.2.1
  refine q_call (Q0 := Q0) (a := (vs.map (cv G)).toArray) (rest := st.map (cv G)) (va_runS (As := vs.map (cv G)) (n := n) ⟨C.1, C.2.1, C.2.2.1, C.2.2.2.2.2.1, hts⟩ hM ⟨q_callB hν hts hR.1 hR.2 hn hw, hts _ hv⟩
    ⟨Prq_blind, C.pre hP hS⟩ rfl (by rw [List.length_map]; exact hvn) hL.1 (by simp) (lv_room (by rw [q_cats hs2]; exact hsum)) hd ⟨Nat.le_refl _, Nat.le_refl _⟩) hS Adq_of (fun q h => Or.inr h) (fun r σ' H1 locs1 hσ' hr hq0 hP1 hS1 => ?_)
  rw [q_rest]
  exact hk0 r σ' hσ' hr hq0 hσ' hl (oks_rest hr hs2) G p l e s m args below meth c C H1 locs1 lsA hP1 hS1 hL
/-- a method of a text -/
theorem r_callT {ν : Md} {j idx n : Nat} (vs : List Vq) {stk : List Vq} (hν : MdOK ν) (hv : MdV ν) (hj : j < 2) (hq : (mn ν).cls = "java/lang/String") (hw : Cond.methodLink (mn μ).cls idx (mn ν) ∈ UW) (hn : (parseMethodDescriptor (mn ν).desc).map (fun d => d.parameters.length) = some n) (hvn : vs.length = n)
    (hR : fr ν + 1 ≤ fr μ ∧ 8 + (mL ν + 11) + lo ν ≤ lo μ) (hsum : (st.map ct).sum ≤ 8) (hstk : stk = vs.reverse ++ vR (62 + j) :: st) (hd : decode (cd μ) pc = .ok (.invokevirtual idx, 3))
    (kk : Con ν (vR (62 + j) :: vs) σ (fun r σ' => WM μ (pc + 3) ls (r.toList ++ st) σ' Q)) : WM μ pc ls stk σ Q := by
  subst hstk
  intro hσ hl hs G p l e s m args below meth c C H locs lsA hP hS hL
  obtain ⟨Q0, hk0, hM⟩ := kk
  have hs1 : oks vs := fun v hv => (hs.app).1 v (List.mem_reverse.mpr hv)
  have hs2 : oks st := (hs.app).2.tl
  have hM := hM hσ (oks_cons (v := vR (62 + j)) trivial hs1) G l H.size
  have hts := C.2.2.2.2.2.2.1
  refine q_call (Q0 := Q0) (a := ((vR (62 + j) :: vs).map (cv G)).toArray) (rest := st.map (cv G)) (va_runV (As := vs.map (cv G)) (C := (mn ν).cls) (b := G.2.1 (62 + j)) (n := n) ⟨C.1, C.2.1, C.2.2.1, C.2.2.2.2.2.1, hts⟩ hM ⟨q_callB hν hts hR.1 hR.2 hn hw, hts _ hv.1, hts _ hv.2⟩
    ⟨Prq_blind, ?_, C.pre hP hS⟩ rfl (by rw [List.length_map]; exact hvn) hL.1 (by simp [vR, cv]) (lv_room (by rw [q_cats hs2]; exact hsum)) hd ⟨Nat.le_refl _, Nat.le_refl _⟩) hS Adq_of (fun q h => Or.inr h) (fun r σ' H1 locs1 hσ' hr hq0 hP1 hS1 => ?_)
  · have := vk_recv (i := j) C.2.2.2.2.2.2.2.2.2.2.2.2.2.2.1 hj hS
    rw [hq]
    exact this
  · rw [q_rest]
    exact hk0 r σ' hσ' hr hq0 hσ' hl (oks_rest hr hs2) G p l e s m args below meth c C H1 locs1 lsA hP1 hS1 hL
/-- what a call's answer is, in the words of its kind -/
theorem CI.k {ν : Md} {vs : List Vq} {μ : Md} {pc : Nat} {ls : List (Nat × Vq)} {st : List Vq} {K : Int → St → Prop} (h : CI ν vs σ K) (k : ∀ v σ', K v σ' → WM μ pc ls (vI v :: st) σ' Q) : Con ν vs σ (fun r σ' => WM μ pc ls (r.toList ++ st) σ' Q) := Con.mono h (fun r σ' _ _ hr => by obtain ⟨v, rfl, hv⟩ := hr; exact k v σ' hv)
theorem CD.k {ν : Md} {vs : List Vq} {μ : Md} {pc : Nat} {ls : List (Nat × Vq)} {st : List Vq} {K : UInt64 → St → Prop} (h : CD ν vs σ K) (k : ∀ v σ', K v σ' → WM μ pc ls (vD v :: st) σ' Q) : Con ν vs σ (fun r σ' => WM μ pc ls (r.toList ++ st) σ' Q) := Con.mono h (fun r σ' _ _ hr => by obtain ⟨v, rfl, hv⟩ := hr; exact k v σ' hv)
theorem CV.k {ν : Md} {vs : List Vq} {μ : Md} {pc : Nat} {ls : List (Nat × Vq)} {st : List Vq} {K : St → Prop} (h : CV ν vs σ K) (k : ∀ σ', K σ' → WM μ pc ls st σ' Q) : Con ν vs σ (fun r σ' => WM μ pc ls (r.toList ++ st) σ' Q) := Con.mono h (fun r σ' _ _ hr => by obtain ⟨rfl, hv⟩ := hr; exact k σ' hv)
end RV
