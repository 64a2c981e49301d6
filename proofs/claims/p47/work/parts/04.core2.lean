-- the world of 38 cells over a store of numbers; what lies behind it (static arrays, two texts)
/-- the cells: an array (kind, length), or an object (class, its fields: a number, or the cell that it refers to) -/
def tab : Nat → (Nat × Nat) ⊕ (Nat × List (Option Nat)) := fun k => match k with
  | 0 => .inr (10, [some 1, some 3, some 8, some 14, some 16, some 18, some 20, some 26, some 28, some 30, some 33])
  | 1 => .inr (7, [some 2, none])
  | 2 => .inl (1, 900)
  | 3 => .inr (3, [some 4, some 5, some 6, some 7, none])
  | 4 => .inl (0, 48)
  | 5 => .inl (0, 48)
  | 6 => .inl (0, 48)
  | 7 => .inl (0, 48)
  | 8 => .inr (5, [some 9, none, none, some 1, none, none])
  | 9 => .inr (3, [some 10, some 11, some 12, some 13, none])
  | 10 => .inl (0, 48)
  | 11 => .inl (0, 48)
  | 12 => .inl (0, 48)
  | 13 => .inl (0, 48)
  | 14 => .inr (8, [some 15])
  | 15 => .inl (0, 5)
  | 16 => .inr (2, [none, none, none, some 3, some 17, some 35])
  | 17 => .inl (0, 48)
  | 18 => .inr (2, [none, none, none, some 3, some 19, some 36])
  | 19 => .inl (0, 48)
  | 20 => .inr (9, [none, none, some 21, some 22, some 23, some 24, some 25, some 16])
  | 21 => .inl (0, 5)
  | 22 => .inl (0, 240)
  | 23 => .inl (0, 240)
  | 24 => .inl (0, 240)
  | 25 => .inl (0, 5)
  | 26 => .inr (1, [some 27, none, none])
  | 27 => .inl (0, 401)
  | 28 => .inr (0, [some 29, some 37, none, none, none, none, none, some 3, some 16, some 20, some 14, some 26])
  | 29 => .inl (0, 240)
  | 30 => .inr (6, [some 3, some 16, some 31, some 32, none])
  | 31 => .inl (2, 48)
  | 32 => .inl (0, 49)
  | 33 => .inr (4, [some 34, none])
  | 34 => .inl (3, 32)
  | 35 => .inl (0, 48)
  | 36 => .inl (0, 48)
  | _ => .inl (0, 240)
def flq (G : Gq) (f : Nat → Int) : Nat → List (Option Nat) → List Value
  | _, [] => []
  | i, none :: r => .int (Int32.ofInt (f i)) :: flq G f (i + 1) r
  | i, some c :: r => .ref (G.2.1 c) :: flq G f (i + 1) r
theorem flq_len {G : Gq} {f : Nat → Int} : ∀ (fs : List (Option Nat)) (i : Nat), (flq G f i fs).length = fs.length
  | [], _ => rfl
  | none :: r, i => by show (flq G f (i + 1) r).length + 1 = _; rw [flq_len r]; rfl
  | some _ :: r, i => by show (flq G f (i + 1) r).length + 1 = _; rw [flq_len r]; rfl
theorem flq_int {G : Gq} {f : Nat → Int} : ∀ (fs : List (Option Nat)) (i j : Nat), fs[j]? = some none → (flq G f i fs)[j]? = some (.int (Int32.ofInt (f (i + j))))
  | [], _, _, h => by simp at h
  | none :: r, i, 0, _ => rfl
  | some _ :: r, i, 0, h => by simp at h
  | none :: r, i, j + 1, h => by
    have := flq_int (G := G) (f := f) r (i + 1) j (by simpa using h)
    show (flq G f (i + 1) r)[j]? = _
    rw [this, show i + 1 + j = i + (j + 1) by omega]
  | some _ :: r, i, j + 1, h => by
    have := flq_int (G := G) (f := f) r (i + 1) j (by simpa using h)
    show (flq G f (i + 1) r)[j]? = _
    rw [this, show i + 1 + j = i + (j + 1) by omega]
theorem flq_ref {G : Gq} {f : Nat → Int} {c : Nat} : ∀ (fs : List (Option Nat)) (i j : Nat), fs[j]? = some (some c) → (flq G f i fs)[j]? = some (.ref (G.2.1 c))
  | [], _, _, h => by simp at h
  | none :: r, i, 0, h => by simp at h
  | some _ :: r, i, 0, h => by simp at h; cases h; rfl
  | none :: r, i, j + 1, h => flq_ref r (i + 1) j (by simpa using h)
  | some _ :: r, i, j + 1, h => flq_ref r (i + 1) j (by simpa using h)
theorem flq_set {G : Gq} {f : Nat → Int} {x : Int} : ∀ (fs : List (Option Nat)) (i j : Nat), fs[j]? = some none → (flq G f i fs).set j (.int (Int32.ofInt x)) = flq G (fun k => if k = i + j then x else f k) i fs := by
  intro fs
  induction fs with
  | nil => intro i j h; simp at h
  | cons a r ih =>
    intro i j h
    have tail : ∀ k : Nat, k ≤ i → flq G f (i + 1) r = flq G (fun q => if q = k then x else f q) (i + 1) r := by
      intro k hk
      have : ∀ (r : List (Option Nat)) (i : Nat), k < i → flq G f i r = flq G (fun q => if q = k then x else f q) i r := by
        intro r
        induction r with
        | nil => intro i _; rfl
        | cons b r ih2 =>
          intro i hi
          cases b with
          | none => show _ :: _ = Value.int (Int32.ofInt (if i = k then x else f i)) :: _; rw [ih2 (i + 1) (by omega), if_neg (by omega)]
          | some c => show _ :: _ = _ :: _; rw [ih2 (i + 1) (by omega)]
      exact this r (i + 1) (by omega)
    cases j with
    | zero =>
      have e : a = none := by simpa using h
      subst e
      show _ :: flq G f (i + 1) r = Value.int (Int32.ofInt (if i = i + 0 then x else f i)) :: _
      rw [tail (i + 0) (by omega), if_pos (by omega)]
    | succ j =>
      have h2 : r[j]? = some none := by simpa using h
      have := ih (i + 1) j h2
      rw [show i + 1 + j = i + (j + 1) by omega] at this
      cases a with
      | none =>
        show _ :: (flq G f (i + 1) r).set j _ = Value.int (Int32.ofInt (if i = i + (j + 1) then x else f i)) :: _
        rw [this, if_neg (by omega)]
      | some c =>
        show _ :: (flq G f (i + 1) r).set j _ = _ :: _
        rw [this]
def ent (G : Gq) (σ : St) (k : Nat) : va_E := match tab k with
  | .inl (t, n) => .inl (G.2.2 t, n, .inl (fun j => Int32.ofInt (σ k (j : Int))))
  | .inr (ci, fs) => .inr (ci, flq G (fun j => σ k (j : Int)) 0 fs)
def wld (G : Gq) (σ : St) : va_W := (List.range 38).map fun k => (G.2.1 k, ent G σ k)
theorem wld_at {G : Gq} {σ : St} {k : Nat} (hk : k < 38) : (wld G σ)[k]? = some (G.2.1 k, ent G σ k) := by
  unfold wld
  rw [List.getElem?_map, List.getElem?_range hk]
  rfl
theorem wld_of {G : Gq} {σ : St} {k : Nat} {q : Nat × va_E} (h : (wld G σ)[k]? = some q) : k < 38 ∧ q = (G.2.1 k, ent G σ k) := by
  have hk : k < 38 := by
    have := (List.getElem?_eq_some_iff.mp h).1
    simpa [wld] using this
  rw [wld_at hk] at h
  exact ⟨hk, (Option.some.inj h).symm⟩
theorem ent_same {G : Gq} {σ σ' : St} {k : Nat} (h : ∀ j, σ' k j = σ k j) : ent G σ' k = ent G σ k := by
  have : σ' k = σ k := funext h
  unfold ent
  rw [this]
theorem wld_set {G : Gq} {σ σ' : St} {k : Nat} {e : va_E} (hk : k < 38) (he : e = ent G σ' k) (ho : ∀ c, c ≠ k → ∀ j, σ' c j = σ c j) : (wld G σ).set k (G.2.1 k, e) = wld G σ' := by
  apply List.ext_getElem?
  intro i
  by_cases hi : i = k
  · subst hi
    rw [List.getElem?_set_self (by simp [wld]; exact hk), wld_at hk, he]
  · rw [List.getElem?_set_ne (Ne.symm hi)]
    by_cases h54 : i < 38
    · rw [wld_at h54, wld_at h54, ent_same (ho i hi)]
    · rw [List.getElem?_eq_none (by simp [wld]; omega), List.getElem?_eq_none (by simp [wld]; omega)]
theorem ups_arr {G : Gq} {σ : St} {k t n : Nat} {i : Int} {x : Int} (ht : tab k = .inl (t, n)) (hi : 0 ≤ i) : (.inl (G.2.2 t, n, .inl (upd (fun j => Int32.ofInt (σ k (j : Int))) i.toNat (Int32.ofInt x))) : va_E) = ent G (ups σ k i x) k := by
  unfold ent
  rw [ht]
  congr 3
  congr 1
  funext j
  unfold upd ups
  by_cases h : j = i.toNat
  · have h2 : (j : Int) = i := by omega
    rw [if_pos h, if_pos ⟨rfl, h2⟩]
  · have h2 : ¬ (j : Int) = i := by omega
    rw [if_neg h, if_neg (fun q => h2 q.2)]
theorem ups_fld {G : Gq} {σ : St} {k ci j : Nat} {fs : List (Option Nat)} {x : Int} (ht : tab k = .inr (ci, fs)) (hj : fs[j]? = some none) : (.inr (ci, (flq G (fun j => σ k (j : Int)) 0 fs).set j (.int (Int32.ofInt x))) : va_E) = ent G (ups σ k j x) k := by
  unfold ent
  rw [ht]
  dsimp only
  rw [flq_set fs 0 j hj]
  congr 3
  funext q
  unfold ups
  by_cases h : q = 0 + j
  · have h2 : (q : Int) = (j : Int) := by omega
    rw [if_pos h, if_pos ⟨rfl, h2⟩]
  · have h2 : ¬ (q : Int) = (j : Int) := by omega
    rw [if_neg h, if_neg (fun z => h2 z.2)]
theorem ups_other {σ : St} {k : Nat} {j x : Int} : ∀ c, c ≠ k → ∀ i, ups σ k j x c i = σ c i := fun c hc i => by unfold ups; rw [if_neg (fun h => hc h.1)]
theorem WF.ups {σ : St} {k : Nat} {j x : Int} (h : WF σ) (hx : inR x) : WF (ups σ k j x) := fun c i => by
  show inR (if c = k ∧ i = j then x else σ c i)
  by_cases hc : c = k ∧ i = j
  · rw [if_pos hc]; exact hx
  · rw [if_neg hc]; exact h c i
def tyq (G : Gq) : List (ClassId × FieldType) := [(G.2.2 0, .int), (G.2.2 1, .byte), (G.2.2 2, .boolean), (G.2.2 3, .char)]
def njq (G : Gq) : Prop := ∀ i j, i < 38 → j < 38 → G.2.1 i = G.2.1 j → i = j
def Adq (G : Gq) (sz : Nat) : Nat → Prop := fun q => (∃ k, k < 38 ∧ q = G.2.1 k) ∨ sz ≤ q
theorem wld_D {G : Gq} {σ : St} {A : Nat → Prop} (h : njq G) (hA : ∀ k, k < 38 → A (G.2.1 k)) : va_D A (wld G σ) := by
  refine ⟨fun i j p q hi hj e => ?_, fun k q hq => ?_⟩
  · obtain ⟨h1, rfl⟩ := wld_of hi
    obtain ⟨h2, rfl⟩ := wld_of hj
    exact h i j h1 h2 e
  · obtain ⟨h1, rfl⟩ := wld_of hq
    exact hA k h1
def leastq (j : Int) : Int := if j = 0 then 1 else if j = 1 then 1 else 0
def greatq (j : Int) : Int := if j = 0 then 9999999 else if j = 1 then 500 else if j = 2 then 9 else if j = 3 then 1 else 1000003
def lenq : List Nat := [4, 5]
def bytq : List (List Int32) := [[105, 116, 101, 109], [97, 117, 100, 105, 116]]
/-- what lies behind the world and stays: two static arrays, two texts, two statics of the JDK -/
def Extq (G : Gq) (A : Nat → Prop) (U : State) (H : Heap) : Prop :=
  va_Z "CoinSampler$Terms" "LEAST" "[I" (.ref (G.2.1 60)) A U H ∧ va_T .int (G.2.1 60) 5 (fun j => .int (Int32.ofInt (leastq (j : Int)))) A U H ∧
  va_Z "CoinSampler$Terms" "GREATEST" "[I" (.ref (G.2.1 61)) A U H ∧ va_T .int (G.2.1 61) 5 (fun j => .int (Int32.ofInt (greatq (j : Int)))) A U H ∧
  vk_S 2 lenq bytq (fun i => G.2.1 (62 + i)) (fun i => G.2.1 (64 + i)) A U H ∧ vk_R "CoinSampler$Reader" 47 "item" (G.2.1 62) U ∧ vk_R "CoinSampler$Reader" 53 "audit" (G.2.1 63) U ∧
  va_Z "java/lang/String" "COMPACT_STRINGS" "Z" (.int 1) A U H ∧ va_Zq "jdk/internal/util/Preconditions" "SIOOBE_FORMATTER" "Ljava/util/function/BiFunction;" A U H
theorem Extq.kept {G : Gq} {A : Nat → Prop} {U : State} {H H1 : Heap} (h : Extq G A U H) (hq : ∀ a : Nat, a < H.size → ¬ A a → H1[a]? = H[a]?) : Extq G A U H1 := by
  obtain ⟨a1, a2, a3, a4, a5, a6, a7, a8, a9⟩ := h
  exact ⟨a1.kept hq, a2.kept hq, a3.kept hq, a4.kept hq, a5.kept hq, a6, a7, a8.kept hq, a9.kept hq⟩
theorem Extq.narrow {G : Gq} {A B : Nat → Prop} {U : State} {H : Heap} (h : Extq G A U H) (hAB : ∀ q, B q → A q) : Extq G B U H := by
  obtain ⟨a1, a2, a3, a4, a5, a6, a7, a8, a9⟩ := h
  exact ⟨a1.narrow hAB, a2.narrow hAB, a3.narrow hAB, a4.narrow hAB, a5.narrow hAB, a6, a7, a8.narrow hAB, a9.narrow hAB⟩
theorem Extq.warm {G : Gq} {A : Nat → Prop} {s U : State} {H : Heap} (hW : s.WarmedH U.vm) (h : Extq G A s H) : Extq G A U H := by
  obtain ⟨a1, a2, a3, a4, a5, a6, a7, a8, a9⟩ := h
  have hv := hW.alike
  exact ⟨a1.moved hv, a2.moved hv, a3.moved hv, a4.moved hv, a5.moved hv, a6.warm hW, a7.warm hW, a8.moved hv, a9.moved hv⟩
theorem Extq.same {G : Gq} {A : Nat → Prop} {s U : State} {H : Heap} (hv : U.vm = s.vm) (h : Extq G A s H) : Extq G A U H := by
  obtain ⟨a1, a2, a3, a4, a5, a6, a7, a8, a9⟩ := h
  have ha : s.vm.Alike U.vm := by rw [hv]; exact Vm.Alike.refl _
  exact ⟨a1.moved ha, a2.moved ha, a3.moved ha, a4.moved ha, a5.moved ha, a6.same hv, a7.same hv, a8.moved ha, a9.moved ha⟩
def okr : Option Vq → Prop
  | none => True
  | some v => okv v
def rmq (μ : Md) : Room := { frames := fr μ, cells := 0, slots := 0, locals := lo μ }
def wsq (μ : Md) : List Cond := Cond.code (mn μ) (cd μ) (mL μ) (rt μ) :: UW
def Prq (G : Gq) (vs : List Vq) (σ : St) (sz : Nat) : Array Value → State → Prop := va_Pc (vs.map (cv G)) (fun U => U.heap.size = sz ∧ va_P G.1 vwCl (wld G σ) U.heap ∧ va_K G.1 vwCl (tyq G) U ∧ njq G ∧ (∀ k, k < 38 → G.2.1 k < sz) ∧ Extq G (Adq G sz) U U.heap)
def Qoq (G : Gq) (Q : Option Vq → St → Prop) (sz : Nat) : Array Value → State → Outcome → State → Prop := fun _ st oc t => (∃ (r : Option Vq) (σ' : St), oc = .returned (r.map (cv G)) ∧ WF σ' ∧ okr r ∧ Q r σ' ∧ va_P G.1 vwCl (wld G σ') t.heap) ∧ va_F (Adq G sz) st t
def Cxq (μ : Md) (G : Gq) (p : Program) (s : State) (m : MethodId) (args : Array Value) (meth : Method) (c : Code) : Prop :=
  p.tables.exec = Jvm.exec ∧ c.code = cd μ ∧ c.maxLocals = mL μ ∧ meth.sig.returnType = rt μ ∧ meth.locks = false ∧ s.vm.findClass (mn μ).cls = some m.cls ∧ (∀ w ∈ UW, w.before args s = true) ∧ va_K G.1 vwCl (tyq G) s ∧ njq G ∧ (∀ k, k < 38 → G.2.1 k < s.heap.size) ∧ Extq G (Adq G s.heap.size) s s.heap
/-- from this place of the method on, whatever called it: it returns, and Q holds of its answer and the store -/
def WM (μ : Md) (pc : Nat) (ls : List (Nat × Vq)) (st : List Vq) (σ : St) (Q : Option Vq → St → Prop) : Prop :=
  WF σ → okl ls → oks st → ∀ (G : Gq) (p : Program) (l : Launch) (e : Env) (s : State) (m : MethodId) (args : Array Value) (below : List Frame) (meth : Method) (c : Code), Cxq μ G p s m args meth c →
  ∀ (H : Heap) (locs : List Loc) (lsA : Array Slot), va_P G.1 vwCl (wld G σ) H → va_S (Adq G s.heap.size) s.heap H locs → lv_has lsA (mL μ) (asq G ls) →
    W p l e (rmq μ) s m args below meth c H locs 0 0 (MQ below (Qoq G Q s.heap.size) args s 0 0 (Adq G s.heap.size)) (F0 m pc lsA (st.map (cv G)))
/-- a call: it returns, and K holds of its answer and the store -/
def Con (μ : Md) (vs : List Vq) (σ : St) (K : Option Vq → St → Prop) : Prop :=
  ∃ Q0 : Option Vq → St → Prop, (∀ r σ', WF σ' → okr r → Q0 r σ' → K r σ') ∧ (WF σ → oks vs → ∀ (G : Gq) (l : Launch) (sz : Nat), Met l (mn μ) (wsq μ) (rmq μ) (Prq G vs σ sz) (Qoq G Q0 sz) 0 0 (Adq G sz))
theorem Con.mono {μ : Md} {vs : List Vq} {σ : St} {K K' : Option Vq → St → Prop} (h : Con μ vs σ K) (hk : ∀ r σ', WF σ' → okr r → K r σ' → K' r σ') : Con μ vs σ K' := by
  obtain ⟨Q0, h1, h2⟩ := h
  exact ⟨Q0, fun r σ' a b c => hk r σ' a b (h1 r σ' a b c), h2⟩
def QI (K : Int → St → Prop) : Option Vq → St → Prop := fun r σ' => ∃ v, r = some (vI v) ∧ K v σ'
def QD (K : UInt64 → St → Prop) : Option Vq → St → Prop := fun r σ' => ∃ v, r = some (vD v) ∧ K v σ'
def QV (K : St → Prop) : Option Vq → St → Prop := fun r σ' => r = none ∧ K σ'
abbrev CI (μ : Md) (vs : List Vq) (σ : St) (K : Int → St → Prop) : Prop := Con μ vs σ (QI K)
abbrev CD (μ : Md) (vs : List Vq) (σ : St) (K : UInt64 → St → Prop) : Prop := Con μ vs σ (QD K)
abbrev CV (μ : Md) (vs : List Vq) (σ : St) (K : St → Prop) : Prop := Con μ vs σ (QV K)
theorem Prq_blind {G : Gq} {vs : List Vq} {σ : St} {sz : Nat} : FrameBlind (Prq G vs σ sz) := by
  intro a U g mk h
  obtain ⟨h0, h1, h2, h3, h4, h5, h6⟩ := h
  exact ⟨h0, h1, h2, va_K.moved (u := U) (U := U.calling g mk a) (Vm.Alike.refl U.vm) h3, h4, h5, Extq.same (s := U) rfl h6⟩
theorem wsq_good {μ ν : Md} (h : MdOK ν) : GoodIn (wsq μ) (wsq ν) := fun w hw => by
  rcases List.mem_cons.mp hw with e | hw
  · subst e; exact ⟨List.mem_cons_of_mem _ h.1, uw_good _ h.1⟩
  · exact ⟨List.mem_cons_of_mem _ hw, uw_good _ hw⟩
theorem q_ofW {y : MethodName} {ws ws' : List Cond} {rm : Room} {Pc : Array Value → State → Prop} {Qc : Array Value → State → Outcome → State → Prop} {mc ms : Nat} {free : Addr → Prop} {cc : ByteArray} {maxL : Nat} {ret : Option FieldType} {l : Launch}
    (hy : plainFor y = true) (hw : ws = Cond.code y cc maxL ret :: ws')
    (body : ∀ p e s m args below meth c s₁, BodyLoose p l y (headSpec ws rm) cc maxL ret e s m args below meth c s₁ → c.maxLocals = maxL → Pc args s →
      W p l e (headSpec ws rm).room s m args below meth c s.heap [] 0 0 (MQ below Qc args s mc ms free) (entryFrame m args maxL)) : Met l y ws rm Pc Qc mc ms free := by
  refine MetFree.of_bodySF (code := cc) (maxLocals := maxL) (ret := ret) hy ?_ ?_
  · intro args s m h hn
    obtain ⟨meth, c, h1, h2, h3, h4, h5, h6, -, -⟩ := Cond.code_spec hn (atoms_spec (ws := ws) h _ (by rw [hw]; exact List.mem_cons_self))
    exact ⟨meth, c, h1, h2, h3, h4, h5, h6⟩
  · intro p e s m args below meth c s₁ B hml hP _
    have hh0 : s₁.heap = s.heap := by rw [B.state]; rfl
    obtain ⟨t, a1, o, b1, b2, b3⟩ := body p e s m args below meth c s₁ B hml hP s₁ hh0 (Stand.of_body B)
    exact ⟨t, o, a1, b1, b2, ⟨b3.1, b3.2⟩⟩
/-- a method's contract out of the walk of its body -/
theorem Con.of {μ : Md} {vs : List Vq} {σ : St} {Q : Option Vq → St → Prop} {ls : List (Nat × Vq)} (hok : MdOK μ) (hls : inq 0 vs = ls) (hn : (vs.map ct).sum ≤ mL μ) (h : WM μ 0 ls [] σ Q) : Con μ vs σ Q := by
  subst hls
  refine ⟨Q, fun r σ' _ _ hq => hq, fun hσ hvs G l sz => ?_⟩
  refine q_ofW (cc := cd μ) (maxL := mL μ) (ret := rt μ) hok.2.2.2 rfl ?_
  intro p e s m args below meth c s₁ B hml hv
  obtain ⟨rfl, hsz, hP, hK, hnj, hlt, hE⟩ := hv
  subst hsz
  have hts := atoms_spec (ws := wsq μ) B.pre
  have hl := lv_entry (vs.map (cv G)) (n := mL μ) (by rw [lg_sl_len vs hvs]; exact hn)
  rw [asq_inq vs 0 hvs] at hl
  rw [lg_entry_eq]
  exact h hσ (okl_inq vs 0 hvs) oks_nil G p l e s m _ below meth c ⟨B.exec, B.bytes, hml, B.returns, B.notSynchronized, findClass_of_methodNamed B.named, fun w hw => hts w (List.mem_cons_of_mem _ hw), hK, hnj, hlt, hE⟩ s.heap [] _ hP va_S.rf hl
theorem WM.wf {μ : Md} {pc : Nat} {ls : List (Nat × Vq)} {st : List Vq} {σ : St} {Q : Option Vq → St → Prop} (h : WF σ → okl ls → WM μ pc ls st σ Q) : WM μ pc ls st σ Q := fun a b c => h a b a b c
