-- the law's own method: what holds all along, and its rows
def R_lawq : String := "CoinSamplerLaw"
def LX (p : Program) (s : State) (m : MethodId) (args : Array Value) (meth : Method) (c : Code) (G : Gq) (b L : Nat) (xs : Nat → Int32) : Prop :=
  p.tables.exec = Jvm.exec ∧ c.code = code ∧ c.maxLocals = 4 ∧ s.vm.findClass R_lawq = some m.cls ∧ (∀ w ∈ UW, w.before args s = true) ∧ va_K G.1 vwCl (tyq G) s ∧ njq G ∧ (∀ k, k < 57 → s.heap.size ≤ G.2.1 k) ∧ Extq G (fun q : Nat => s.heap.size ≤ q) s s.heap ∧ va_X b L xs s s.heap ∧ b < s.heap.size ∧ L ≤ 3072
def lsq (G : Gq) (b : Nat) (i : Nat) : List (Nat × Value) := [(0, .ref b), (1, .ref (G.2.1 0)), (2, .ref (G.2.1 35)), (3, .int (Int32.ofInt (i : Int)))]
theorem wld_lt {G : Gq} {σ : St} {H : Heap} (hP : va_P G.1 vwCl (wld G σ) H) {k : Nat} (hk : k < 57) : G.2.1 k < H.size := (hP k _ (wld_at hk)).lt
/-- from this place of the law's method on -/
def LW (p : Program) (l : Launch) (e : Env) (s : State) (m : MethodId) (args : Array Value) (below : List Frame) (meth : Method) (c : Code) (G : Gq) (b : Nat) (Z : State → Prop) (i pc : Nat) (st : List Value) (σ : St) : Prop :=
  ∀ (H : Heap) (locs : List Loc) (lsA : Array Slot), va_P G.1 vwCl (wld G σ) H → va_S (fun q : Nat => s.heap.size ≤ q) s.heap H locs → lv_has lsA 4 (lsq G b i) → W p l e room_1 s m args below meth c H locs 57 6305 Z (F0 m pc lsA st)
abbrev isArg (pc k : Nat) : Prop := decode code pc = .ok (.aload_n 0, 1) ∧ decode code (pc + 1) = .ok (.iload_n 3, 1) ∧ decode code (pc + 1 + 1) = .ok (.iconst (k : Int), 1) ∧ decode code (pc + 1 + 1 + 1) = .ok (.iadd, 1) ∧ decode code (pc + 1 + 1 + 1 + 1) = .ok (.iaload, 1)
def sv (xs : Nat → Int32) (i n : Nat) : List Vq := (List.range n).map fun j => vI (xs (i + (j + 1))).toInt
theorem sv_s (xs : Nat → Int32) (i n : Nat) : sv xs i (n + 1) = sv xs i n ++ [vI (xs (i + (n + 1))).toInt] := by
  unfold sv
  rw [List.range_succ, List.map_append]
  rfl
theorem sv_len (xs : Nat → Int32) (i n : Nat) : (sv xs i n).length = n := by simp [sv]
theorem sv_ok (xs : Nat → Int32) (i n : Nat) : oks (sv xs i n) := fun v hv => by
  obtain ⟨j, -, rfl⟩ := List.mem_map.mp hv
  have h1 := Int32.le_toInt (xs (i + (j + 1)))
  have h2 := Int32.toInt_lt (xs (i + (j + 1)))
  show inR _
  omega
section LA
variable {p : Program} {l : Launch} {e : Env} {s : State} {m : MethodId} {args : Array Value} {below : List Frame} {meth : Method} {c : Code} {G : Gq} {b L : Nat} {xs : Nat → Int32} {Z : State → Prop} {i pc : Nat} {st : List Value} {σ : St}
theorem la_arg {k : Nat} (X : LX p s m args meth c G b L xs) (hi : i + k < L) (hd : isArg pc k) (kk : LW p l e s m args below meth c G b Z i (pc + 5) (.int (xs (i + k)) :: st) σ) : LW p l e s m args below meth c G b Z i pc st σ := by
  obtain ⟨hx, hb, hml, hown, hts, hK, hnj, hlt, hE, hX, hbl, hL⟩ := X
  obtain ⟨d0, d1, d2, d3, d4⟩ := hd
  intro H locs lsA hP hS hl
  have hbA : ¬ (fun q : Nat => s.heap.size ≤ q) b := Nat.not_le.mpr hbl
  refine lv_aload_n hx hb d0 rfl (lv_at hl 0 rfl) ?_
  refine lv_iload_n hx hb d1 rfl (lv_at hl 3 rfl) ?_
  refine lv_iconst (v := Int32.ofInt (k : Int)) hx hb d2 rfl ?_
  refine lv_iadd hx hb d3 ?_
  rw [qi_add]
  have hin : vp_in (Int32.ofInt ((i : Int) + (k : Int))) L := qi_in (by omega) (by omega) (by omega)
  refine va_sld hx hb hX hbl hbA hS hin d4 ?_
  rw [qi_clamp (by omega)]
  have e : ((i : Int) + (k : Int)).toNat = i + k := by omega
  rw [e]
  exact kk H locs lsA hP hS hl
theorem la_args (X : LX p s m args meth c G b L xs) : ∀ (n : Nat), i + n < L → (∀ j, j < n → isArg (pc + 5 * j) (j + 1)) → LW p l e s m args below meth c G b Z i (pc + 5 * n) (((sv xs i n).map (cv G)).reverse ++ st) σ → LW p l e s m args below meth c G b Z i pc st σ := by
  intro n
  induction n with
  | zero => intro _ _ h; exact h
  | succ n ih =>
    intro hn hd kk
    refine ih (by omega) (fun j hj => hd j (by omega)) ?_
    refine la_arg X (k := n + 1) (by omega) (hd n (by omega)) ?_
    have e : ((sv xs i (n + 1)).map (cv G)).reverse ++ st = .int (xs (i + (n + 1))) :: (((sv xs i n).map (cv G)).reverse ++ st) := by
      rw [sv_s, List.map_append, List.reverse_append]
      show Value.int (Int32.ofInt _) :: _ = _
      rw [Int32.ofInt_toInt]
      rfl
    rw [e] at kk
    exact kk
/-- a call of one side -/
theorem la_call {ν : Md} {k ci idx n : Nat} {fs : List (Option Nat)} {q : vw_C} {vs : List Vq} {rest : List Value} (X : LX p s m args meth c G b L xs) (hν : MdOK ν) (hv : MdV ν) (hk : k < 57) (ht : tab k = .inr (ci, fs)) (hc : vwCl[ci]? = some q) (hq : q.1 = (mn ν).cls) (hw : Cond.methodLink R_lawq idx (mn ν) ∈ UW) (hn : (parseMethodDescriptor (mn ν).desc).map (fun d => d.parameters.length) = some n) (hvn : vs.length = n)
    (hR : fr ν + 1 ≤ room_1.frames ∧ 8 + (mL ν + 11) + lo ν ≤ room_1.locals) (hsum : (rest.map fun v => v.category).sum ≤ 8) (hvs : oks vs) (hσ : WF σ) (hd : decode code pc = .ok (.invokevirtual idx, 3))
    (kk : Con ν (vR k :: vs) σ (fun r σ' => WF σ' → LW p l e s m args below meth c G b Z i (pc + 3) ((r.map (cv G)).toList ++ rest) σ')) : LW p l e s m args below meth c G b Z i pc ((vs.map (cv G)).reverse ++ .ref (G.2.1 k) :: rest) σ := by
  obtain ⟨hx, hb, hml, hown, hts, hK, hnj, hlt, hE, hX, hbl, hL⟩ := X
  intro H locs lsA hP hS hl
  obtain ⟨Q0, hk0, hM⟩ := kk
  have hM := hM hσ (oks_cons (v := vR k) trivial hvs) G l H.size
  refine q_call (Q0 := Q0) (a := ((vR k :: vs).map (cv G)).toArray) (rest := rest) (A0 := fun q : Nat => s.heap.size ≤ q) (va_runV (As := vs.map (cv G)) (C := (mn ν).cls) (b := G.2.1 k) (n := n) ⟨hx, hb, hml, hown, hts⟩ hM ⟨q_callB hν hts hR.1 hR.2 hn hw, hts _ hv.1, hts _ hv.2⟩
    ⟨Prq_blind, ?_, ?_⟩ rfl (by rw [List.length_map]; exact hvn) hl.1 (by simp [vR, cv]) (lv_room hsum) hd ⟨Nat.le_refl _, Nat.le_refl _⟩) hS (fun k hk => hlt k hk) (fun q h => h) (fun r σ' H1 locs1 hσ' hr hq0 hP1 hS1 => ?_)
  · have := va_recv hK hP hc (wld_obj hk ht)
    rw [hq] at this
    exact this
  · intro U hU hW
    refine ⟨rfl, by rw [hU], by rw [hU]; exact hP, va_K.moved hW.alike hK, hnj, fun k hk => wld_lt hP hk, ?_⟩
    rw [hU]
    refine Extq.warm hW (Extq.narrow (Extq.kept hE hS.2.1) (fun q h => ?_))
    rcases h with ⟨k, hk, rfl⟩ | h
    · exact hlt k hk
    · exact Nat.le_trans hS.1 h
  · exact hk0 r σ' hσ' hr hq0 hσ' H1 locs1 lsA hP1 hS1 hl
/-- the code of a case: a call of the class, the same call of the model, the two answers compared -/
abbrev CaseOK (n pc ix iy : Nat) (off : Int) : Prop := decode code pc = .ok (.aload_n 1, 1) ∧ (∀ j, j < n → isArg (pc + 1 + 5 * j) (j + 1)) ∧ decode code (pc + 1 + 5 * n) = .ok (.invokevirtual ix, 3) ∧ decode code (pc + 1 + 5 * n + 3) = .ok (.aload_n 2, 1) ∧ (∀ j, j < n → isArg (pc + 1 + 5 * n + 3 + 1 + 5 * j) (j + 1)) ∧ decode code (pc + 1 + 5 * n + 3 + 1 + 5 * n) = .ok (.invokevirtual iy, 3) ∧ decode code (pc + 1 + 5 * n + 3 + 1 + 5 * n + 3) = .ok (.if_icmp .eq off, 3) ∧ ((pc + 1 + 5 * n + 3 + 1 + 5 * n + 3 : Nat) : Int) + off = ((1386 : Nat) : Int)
abbrev MdW (ν : Md) (idx n : Nat) : Prop := MdOK ν ∧ MdV ν ∧ Cond.methodLink R_lawq idx (mn ν) ∈ UW ∧ (parseMethodDescriptor (mn ν).desc).map (fun d => d.parameters.length) = some n ∧ (fr ν + 1 ≤ room_1.frames ∧ 8 + (mL ν + 11) + lo ν ≤ room_1.locals)
theorem la_case {μ ν : Md} {n ix iy : Nat} {off : Int} (X : LX p s m args meth c G b L xs) (hC : CaseOK n pc ix iy off) (m1 : MdW μ ix n) (m2 : MdW ν iy n) (n1 : (mn μ).cls = "CoinSampler") (n2 : (mn ν).cls = "CoinSamplerModel") (hi : i + n < L) (hσ : WF σ)
    (hcc : CI μ (vR 0 :: sv xs i n) σ (fun x σ1 => CI ν (vR 35 :: sv xs i n) σ1 (fun y σ2 => x = y ∧ RL σ2)))
    (kk : ∀ σ2, WF σ2 → RL σ2 → LW p l e s m args below meth c G b Z i 1386 [] σ2) : LW p l e s m args below meth c G b Z i pc [] σ := by
  obtain ⟨c1, c2, c3, c4, c5, c6, c7, c8⟩ := hC
  intro H locs lsA hP hS hl
  refine lv_aload_n X.1 X.2.1 c1 rfl (lv_at hl 1 rfl) ?_
  refine la_args (pc := pc + 1) X n hi c2 (st := [.ref (G.2.1 0)]) ?_ H locs lsA hP hS hl
  refine la_call (k := 0) (rest := []) X m1.1 m1.2.1 (by decide) rfl rfl n1.symm m1.2.2.1 m1.2.2.2.1 (sv_len xs i n) m1.2.2.2.2 (by decide) (sv_ok xs i n) hσ c3 (Con.mono hcc (fun r σ1 h1 h2 h3 hw1 => ?_))
  obtain ⟨x, rfl, h3⟩ := h3
  intro H locs lsA hP hS hl
  refine lv_aload_n X.1 X.2.1 c4 rfl (lv_at hl 2 rfl) ?_
  refine la_args (pc := pc + 1 + 5 * n + 3 + 1) X n hi c5 (st := [.ref (G.2.1 35), .int (Int32.ofInt x)]) ?_ H locs lsA hP hS hl
  refine la_call (k := 35) (rest := [.int (Int32.ofInt x)]) X m2.1 m2.2.1 (by decide) rfl rfl n2.symm m2.2.2.1 m2.2.2.2.1 (sv_len xs i n) m2.2.2.2.2 (show 1 ≤ 8 by decide) (sv_ok xs i n) hw1 c6 (Con.mono h3 (fun r σ2 g1 g2 g3 hw2 => ?_))
  obtain ⟨y, rfl, rfl, h5⟩ := g3
  intro H locs lsA hP hS hl
  exact lv_icmp_eq (tgt := 1386) X.1 X.2.1 c7 c8 (fun _ => kk σ2 hw2 h5 H locs lsA hP hS hl) (fun g => absurd rfl g)
theorem xs_in (j : Nat) : inR (xs j).toInt := by
  have h1 := Int32.le_toInt (xs j)
  have h2 := Int32.toInt_lt (xs j)
  omega
end LA
