-- the moving world: what the law and the JDK make, at its addresses, beside the class's own cells
/-- a cell's kind: an array of numbers (its type, its length), an array of references, an object (its class) -/
abbrev Kd : Type := (Nat × Nat) ⊕ ((Nat × Nat) ⊕ Nat)
abbrev kA (t n : Nat) : Kd := .inl (t, n)
abbrev kR (t n : Nat) : Kd := .inr (.inl (t, n))
abbrev kO (c : Nat) : Kd := .inr (.inr c)
/-- the class's store; addresses made; kinds; whole numbers; references; long numbers -/
abbrev Wd : Type := St × List Nat × (Nat → Kd) × (Nat → Int → Int) × (Nat → Int → Option Nat) × (Nat → Int → Int)
def wS (w : Wd) : St := w.1
def wL (w : Wd) : List Nat := w.2.1
def wK (w : Wd) : Nat → Kd := w.2.2.1
def wI (w : Wd) : Nat → Int → Int := w.2.2.2.1
def wR (w : Wd) : Nat → Int → Option Nat := w.2.2.2.2.1
def wJ (w : Wd) : Nat → Int → Int := w.2.2.2.2.2
def uS (w : Wd) (σ : St) : Wd := (σ, wL w, wK w, wI w, wR w, wJ w)
def uI (w : Wd) (a : Nat) (j x : Int) : Wd := (wS w, wL w, wK w, ups (wI w) a j x, wR w, wJ w)
def upr (f : Nat → Int → Option Nat) (a : Nat) (j : Int) (r : Option Nat) : Nat → Int → Option Nat := fun a' j' => if a' = a ∧ j' = j then r else f a' j'
def uR (w : Wd) (a : Nat) (j : Int) (r : Option Nat) : Wd := (wS w, wL w, wK w, wI w, upr (wR w) a j r, wJ w)
def uJ (w : Wd) (a : Nat) (j x : Int) : Wd := (wS w, wL w, wK w, wI w, wR w, ups (wJ w) a j x)
def uN (w : Wd) (q : Nat) (k : Kd) : Wd := (wS w, wL w ++ [q], va_up (wK w) q k, fun a j => if a = q then 0 else wI w a j, fun a j => if a = q then none else wR w a j, fun a j => if a = q then 0 else wJ w a j)
/-- whole rows of numbers or of references, laid over a cell -/
def uF (w : Wd) (a : Nat) (f : Int → Int) : Wd := (wS w, wL w, wK w, fun a' j => if a' = a then f j else wI w a' j, wR w, wJ w)
def uG (w : Wd) (a : Nat) (f : Int → Option Nat) : Wd := (wS w, wL w, wK w, wI w, fun a' j => if a' = a then f j else wR w a' j, wJ w)
section RD
variable {w : Wd} {a b q : Nat} {i j x : Int} {r : Option Nat} {k : Kd} {σ : St} {f : Int → Int} {g : Int → Option Nat}
theorem wI_uI_s : wI (uI w a j x) a j = x := ups_s
theorem wI_uI_a (h : b ≠ a) : wI (uI w a j x) b i = wI w b i := ups_c h
theorem wI_uI_j (h : i ≠ j) : wI (uI w a j x) a i = wI w a i := ups_f h
theorem wJ_uJ_s : wJ (uJ w a j x) a j = x := ups_s
theorem wJ_uJ_a (h : b ≠ a) : wJ (uJ w a j x) b i = wJ w b i := ups_c h
theorem wJ_uJ_j (h : i ≠ j) : wJ (uJ w a j x) a i = wJ w a i := ups_f h
theorem wR_uR_s : wR (uR w a j r) a j = r := by show upr _ _ _ _ _ _ = _; unfold upr; rw [if_pos ⟨rfl, rfl⟩]
theorem wR_uR_a (h : b ≠ a) : wR (uR w a j r) b i = wR w b i := by show upr _ _ _ _ _ _ = _; unfold upr; rw [if_neg (fun e => h e.1)]
theorem wR_uR_j (h : i ≠ j) : wR (uR w a j r) a i = wR w a i := by show upr _ _ _ _ _ _ = _; unfold upr; rw [if_neg (fun e => h e.2)]
theorem wI_uN (h : b ≠ q) : wI (uN w q k) b i = wI w b i := if_neg h
theorem wI_uN_s : wI (uN w q k) q i = 0 := if_pos rfl
theorem wR_uN (h : b ≠ q) : wR (uN w q k) b i = wR w b i := if_neg h
theorem wR_uN_s : wR (uN w q k) q i = none := if_pos rfl
theorem wJ_uN (h : b ≠ q) : wJ (uN w q k) b i = wJ w b i := if_neg h
theorem wJ_uN_s : wJ (uN w q k) q i = 0 := if_pos rfl
theorem wK_uN (h : b ≠ q) : wK (uN w q k) b = wK w b := if_neg h
theorem wK_uN_s : wK (uN w q k) q = k := if_pos rfl
theorem wL_uN : wL (uN w q k) = wL w ++ [q] := rfl
theorem wI_uF (h : b ≠ a) : wI (uF w a f) b i = wI w b i := if_neg h
theorem wI_uF_s : wI (uF w a f) a i = f i := if_pos rfl
theorem wR_uG (h : b ≠ a) : wR (uG w a g) b i = wR w b i := if_neg h
theorem wR_uG_s : wR (uG w a g) a i = g i := if_pos rfl
theorem wI_uR : wI (uR w a j r) b i = wI w b i := rfl
theorem wI_uJ : wI (uJ w a j x) b i = wI w b i := rfl
theorem wI_uG : wI (uG w a g) b i = wI w b i := rfl
theorem wR_uI : wR (uI w a j x) b i = wR w b i := rfl
theorem wR_uJ : wR (uJ w a j x) b i = wR w b i := rfl
theorem wR_uF : wR (uF w a f) b i = wR w b i := rfl
theorem wJ_uI : wJ (uI w a j x) b i = wJ w b i := rfl
theorem wJ_uR : wJ (uR w a j r) b i = wJ w b i := rfl
theorem wJ_uF : wJ (uF w a f) b i = wJ w b i := rfl
theorem wJ_uG : wJ (uG w a g) b i = wJ w b i := rfl
end RD
/-- kinds of a class's fields: 0 whole number, 1 long, 2 reference, 3 float -/
def fdq (c : Nat) : List Nat := match c with | 11 => [2, 2, 2, 0, 0, 2, 1] | 12 => [0, 0, 0] | 13 => [0, 0, 0, 0] | 14 => [0, 2, 0] | 15 => [0, 0, 0, 2] | 16 => [0] | 17 => [2, 0, 0, 0] | 18 => [2, 0, 0, 0] | 19 => [2] | 20 => [2, 2, 0, 0, 0, 3, 2, 2, 2, 2, 0, 0] | 21 => [0, 2, 2, 2, 2, 2] | 22 => [0, 2] | 23 => [2, 2, 0, 0, 2] | _ => []
def fvq (w : Wd) (a i k : Nat) : Value := if k = 0 then .int (Int32.ofInt (wI w a i)) else if k = 1 then .long (Int64.ofInt (wJ w a i)) else if k = 2 then va_rf (wR w a i) else .float (UInt32.ofNat (wJ w a i).toNat)
def dfl (w : Wd) (a : Nat) (ks : List Nat) : List Value := (List.range ks.length).map (fun i => fvq w a i (ks.getD i 0))
theorem dfl_at {w : Wd} {a j k : Nat} {ks : List Nat} (h : ks[j]? = some k) : (dfl w a ks)[j]? = some (fvq w a j k) := by
  have hj : j < ks.length := (List.getElem?_eq_some_iff.mp h).1
  unfold dfl
  rw [List.getElem?_map, List.getElem?_range hj]
  simp [List.getD, h]
theorem dfl_len {w : Wd} {a : Nat} {ks : List Nat} : (dfl w a ks).length = ks.length := by simp [dfl]
theorem dfl_set {w w' : Wd} {a j k : Nat} {ks : List Nat} (h : ks[j]? = some k) (hs : ∀ i, i ≠ j → ∀ k, fvq w' a i k = fvq w a i k) {v : Value} (hv : v = fvq w' a j k) : (dfl w a ks).set j v = dfl w' a ks := by
  have hj : j < ks.length := (List.getElem?_eq_some_iff.mp h).1
  apply List.ext_getElem?
  intro i
  by_cases hi : i = j
  · subst hi
    rw [List.getElem?_set_self (by rw [dfl_len]; exact hj), dfl_at h, hv]
  · rw [List.getElem?_set_ne (Ne.symm hi)]
    by_cases hl : i < ks.length
    · have hk : ks[i]? = some ks[i] := List.getElem?_eq_getElem hl
      rw [dfl_at hk, dfl_at hk, hs i hi]
    · rw [List.getElem?_eq_none (by rw [dfl_len]; omega), List.getElem?_eq_none (by rw [dfl_len]; omega)]
def dent (G : Gq) (w : Wd) (a : Nat) : va_E := match wK w a with
  | .inl (t, n) => .inl (G.2.2 t, n, .inl (fun j => Int32.ofInt (wI w a (j : Int))))
  | .inr (.inl (t, n)) => .inl (G.2.2 t, n, .inr (.inr (.inr (.inr (fun j => wR w a (j : Int))))))
  | .inr (.inr c) => .inr (c, dfl w a (fdq c))
theorem dent_kA {G : Gq} {w : Wd} {a t n : Nat} (h : wK w a = kA t n) : dent G w a = .inl (G.2.2 t, n, .inl (fun j => Int32.ofInt (wI w a (j : Int)))) := by unfold dent; rw [h]
theorem dent_kR {G : Gq} {w : Wd} {a t n : Nat} (h : wK w a = kR t n) : dent G w a = .inl (G.2.2 t, n, .inr (.inr (.inr (.inr (fun j => wR w a (j : Int)))))) := by unfold dent; rw [h]
theorem dent_kO {G : Gq} {w : Wd} {a c : Nat} (h : wK w a = kO c) : dent G w a = .inr (c, dfl w a (fdq c)) := by unfold dent; rw [h]
theorem dent_same {G : Gq} {w w' : Wd} {a : Nat} (hk : wK w' a = wK w a) (hi : ∀ j, wI w' a j = wI w a j) (hr : ∀ j, wR w' a j = wR w a j) (hj : ∀ j, wJ w' a j = wJ w a j) : dent G w' a = dent G w a := by
  have e1 : wI w' a = wI w a := funext hi
  have e2 : wR w' a = wR w a := funext hr
  have e3 : ∀ i k, fvq w' a i k = fvq w a i k := fun i k => by unfold fvq; rw [hi, hr, hj]
  unfold dent
  rw [hk, e1, e2]
  have e4 : ∀ ks, dfl w' a ks = dfl w a ks := fun ks => by unfold dfl; simp only [e3]
  simp only [e4]
def dwd (G : Gq) (w : Wd) : va_W := (wL w).map fun a => (a, dent G w a)
def wld2 (G : Gq) (w : Wd) : va_W := wld G (wS w) ++ dwd G w
theorem wld_len {G : Gq} {σ : St} : (wld G σ).length = 38 := by simp [wld]
theorem wld2_lo {G : Gq} {w : Wd} {k : Nat} (hk : k < 38) : (wld2 G w)[k]? = some (G.2.1 k, ent G (wS w) k) := by
  unfold wld2
  rw [List.getElem?_append_left (by rw [wld_len]; exact hk)]
  exact wld_at hk
theorem wld2_hi {G : Gq} {w : Wd} {k : Nat} : (wld2 G w)[38 + k]? = ((wL w)[k]?).map (fun a => (a, dent G w a)) := by
  unfold wld2 dwd
  rw [List.getElem?_append_right (by rw [wld_len]; omega), wld_len, Nat.add_sub_cancel_left, List.getElem?_map]
theorem wld2_at {G : Gq} {w : Wd} {a : Nat} (h : a ∈ wL w) : ∃ k, (wld2 G w)[38 + k]? = some (a, dent G w a) := by
  obtain ⟨k, hk⟩ := List.mem_iff_getElem?.mp h
  exact ⟨k, by rw [wld2_hi, hk]; rfl⟩
theorem wld2_set {G : Gq} {w w' : Wd} {A : Nat → Prop} {k a : Nat} {e : va_E} (hD : va_D A (wld2 G w)) (hk : (wld2 G w)[38 + k]? = some (a, dent G w a)) (he : e = dent G w' a) (hS : wS w' = wS w) (hL : wL w' = wL w) (ho : ∀ b, b ≠ a → dent G w' b = dent G w b) : (wld2 G w).set (38 + k) (a, e) = wld2 G w' := by
  have hlt := (List.getElem?_eq_some_iff.mp hk).1
  apply List.ext_getElem?
  intro i
  by_cases hi : i = 38 + k
  · subst hi
    rw [List.getElem?_set_self hlt]
    rw [wld2_hi] at hk ⊢
    rw [hL]
    cases hq : (wL w)[k]? with
    | none => rw [hq] at hk; cases hk
    | some b =>
      rw [hq] at hk
      have : b = a := congrArg Prod.fst (Option.some.inj hk)
      subst this
      rw [he]; rfl
  · rw [List.getElem?_set_ne (Ne.symm hi)]
    by_cases hl : i < 38
    · rw [wld2_lo hl, wld2_lo hl, hS]
    · obtain ⟨m, rfl⟩ : ∃ m, i = 38 + m := ⟨i - 38, by omega⟩
      cases hq : (wL w)[m]? with
      | none => rw [wld2_hi, wld2_hi, hL, hq]; rfl
      | some b =>
        have hb : (wld2 G w)[38 + m]? = some (b, dent G w b) := by rw [wld2_hi, hq]; rfl
        have hne : b ≠ a := fun e => hi (by
          have := hD.1 (38 + m) (38 + k) _ _ hb hk e
          exact this)
        rw [hb, wld2_hi, hL, hq]
        show _ = some (b, dent G w' b)
        rw [ho b hne]
theorem wld2_uN {G : Gq} {w : Wd} {q : Nat} {k : Kd} {e : va_E} (hq : q ∉ wL w) (he : e = dent G (uN w q k) q) : wld2 G w ++ [(q, e)] = wld2 G (uN w q k) := by
  unfold wld2 dwd
  rw [wL_uN, List.map_append, List.append_assoc]
  congr 1
  congr 1
  · apply List.map_congr_left
    intro a ha
    have hne : a ≠ q := fun e => hq (e ▸ ha)
    rw [dent_same (w' := uN w q k) (w := w) (wK_uN hne) (fun _ => wI_uN hne) (fun _ => wR_uN hne) (fun _ => wJ_uN hne)]
  · rw [he]; rfl
/-- what stands behind both worlds and never changes: empty rows, the small Integers, digits, texts; by their numbers -/
def xN : Nat := 284
def xk (i : Nat) : Kd := if i = 0 then kR 4 0 else if i = 1 then kR 7 256 else if i < 258 then kO 16 else if i < 260 then kA 1 100 else match i with | 260 => kO 18 | 261 => kA 1 6 | 262 => kO 18 | 263 => kA 1 2 | 264 => kO 18 | 265 => kA 1 4 | 266 => kO 18 | 267 => kA 1 3 | 268 => kO 18 | 269 => kA 1 1 | 270 => kO 18 | 271 => kA 1 2 | 272 => kO 18 | 273 => kA 1 1 | 274 => kO 18 | 275 => kA 1 1 | 276 => kO 18 | 277 => kA 1 1 | 278 => kO 18 | 279 => kA 1 1 | 280 => kO 18 | 281 => kA 1 0 | 282 => kO 18 | 283 => kA 1 2 | _ => kO 18
def xi (i : Nat) (j : Int) : Int := if i < 2 then 0 else if i < 258 then (if j = 0 then (i : Int) - 130 else 0) else if i = 258 then (if 0 ≤ j ∧ j < 100 then 48 + j / 10 else 0) else if i = 259 then (if 0 ≤ j ∧ j < 100 then 48 + j % 10 else 0) else match i with | 260 => (if j = 2 then (-1406804059) else if j = 3 then 0 else 0) | 261 => (if j = 0 then 97 else if j = 1 then 117 else if j = 2 then 100 else if j = 3 then 105 else if j = 4 then 116 else if j = 5 then 32 else 0) | 262 => (if j = 2 then 1024 else if j = 3 then 0 else 0) | 263 => (if j = 0 then 32 else if j = 1 then 32 else 0) | 264 => (if j = 2 then 3242771 else if j = 3 then 0 else 0) | 265 => (if j = 0 then 105 else if j = 1 then 116 else if j = 2 then 101 else if j = 3 then 109 else 0) | 266 => (if j = 2 then 32179 else if j = 3 then 0 else 0) | 267 => (if j = 0 then 32 else if j = 1 then 45 else if j = 2 then 32 else 0) | 268 => (if j = 2 then 32 else if j = 3 then 0 else 0) | 269 => (if j = 0 then 32 else 0) | 270 => (if j = 2 then 1861 else if j = 3 then 0 else 0) | 271 => (if j = 0 then 59 else if j = 1 then 32 else 0) | 272 => (if j = 2 then 59 else if j = 3 then 0 else 0) | 273 => (if j = 0 then 59 else 0) | 274 => (if j = 2 then 47 else if j = 3 then 0 else 0) | 275 => (if j = 0 then 47 else 0) | 276 => (if j = 2 then 33 else if j = 3 then 0 else 0) | 277 => (if j = 0 then 33 else 0) | 278 => (if j = 2 then 120 else if j = 3 then 0 else 0) | 279 => (if j = 0 then 120 else 0) | 280 => (if j = 2 then 0 else if j = 3 then 1 else 0) | 281 => (0) | 282 => (if j = 2 then 1053 else if j = 3 then 0 else 0) | 283 => (if j = 0 then 32 else if j = 1 then 61 else 0) | _ => 0
def xr (i : Nat) (j : Int) : Option Nat := if i = 1 then (if 0 ≤ j ∧ j < 256 then some (2 + j.toNat) else none) else if 260 ≤ i ∧ i % 2 = 0 ∧ i < 284 ∧ j = 0 then some (i + 1) else none
abbrev xa (G : Gq) (i : Nat) : Nat := G.2.1 (100 + i)
def XOK (G : Gq) (w : Wd) : Prop := ∀ i, i < xN → wK w (xa G i) = xk i ∧ (∀ j, wI w (xa G i) j = xi i j) ∧ (∀ j, wR w (xa G i) j = (xr i j).map (xa G)) ∧ ∀ j, wJ w (xa G i) j = 0
def Is (G : Gq) (w : Wd) (a : Nat) (k : Kd) : Prop := (a ∈ wL w ∨ ∃ i, i < xN ∧ a = xa G i) ∧ wK w a = k
def Ow (w : Wd) (a : Nat) (k : Kd) : Prop := a ∈ wL w ∧ wK w a = k
def Fr (G : Gq) (w : Wd) (q : Nat) : Prop := q ∉ wL w ∧ ∀ i, i < xN → q ≠ xa G i
theorem Ow.is {G : Gq} {w : Wd} {a : Nat} {k : Kd} (h : Ow w a k) : Is G w a k := ⟨Or.inl h.1, h.2⟩
/-- cells stay what they are, more may come; what stands behind stays -/
def Gw (G : Gq) (w w' : Wd) : Prop := (∀ a, a ∈ wL w → a ∈ wL w' ∧ wK w' a = wK w a) ∧ ∀ i, i < xN → wK w' (xa G i) = wK w (xa G i) ∧ (∀ j, wI w' (xa G i) j = wI w (xa G i) j) ∧ ∀ j, wR w' (xa G i) j = wR w (xa G i) j
/-- of this, what speaks of addresses and kinds alone -/
def KG (G : Gq) (w w' : Wd) : Prop := (∀ a, a ∈ wL w → a ∈ wL w' ∧ wK w' a = wK w a) ∧ ∀ i, i < xN → wK w' (xa G i) = wK w (xa G i)
theorem Gw.k {G : Gq} {w w' : Wd} (h : Gw G w w') : KG G w w' := ⟨h.1, fun i hi => (h.2 i hi).1⟩
theorem Gw.rf {G : Gq} {w : Wd} : Gw G w w := ⟨fun _ h => ⟨h, rfl⟩, fun _ _ => ⟨rfl, fun _ => rfl, fun _ => rfl⟩⟩
theorem Gw.tr {G : Gq} {u v w : Wd} (h1 : Gw G u v) (h2 : Gw G v w) : Gw G u w := ⟨fun a h => ⟨(h2.1 a (h1.1 a h).1).1, (h2.1 a (h1.1 a h).1).2.trans (h1.1 a h).2⟩, fun i hi => ⟨(h2.2 i hi).1.trans (h1.2 i hi).1, fun j => ((h2.2 i hi).2.1 j).trans ((h1.2 i hi).2.1 j), fun j => ((h2.2 i hi).2.2 j).trans ((h1.2 i hi).2.2 j)⟩⟩
theorem Is.g {G : Gq} {w w' : Wd} {a : Nat} {k : Kd} (h : Is G w a k) (hg : Gw G w w') : Is G w' a k := by
  obtain ⟨h | ⟨i, hi, rfl⟩, hk⟩ := h
  · exact ⟨Or.inl (hg.1 a h).1, (hg.1 a h).2.trans hk⟩
  · exact ⟨Or.inr ⟨i, hi, rfl⟩, (hg.2 i hi).1.trans hk⟩
theorem Ow.g {G : Gq} {w w' : Wd} {a : Nat} {k : Kd} (h : Ow w a k) (hg : Gw G w w') : Ow w' a k := ⟨(hg.1 a h.1).1, (hg.1 a h.1).2.trans h.2⟩
theorem Is.q {G : Gq} {w w' : Wd} {a : Nat} {k : Kd} (h : Is G w a k) (hg : KG G w w') : Is G w' a k := by
  obtain ⟨h | ⟨i, hi, rfl⟩, hk⟩ := h
  · exact ⟨Or.inl (hg.1 a h).1, (hg.1 a h).2.trans hk⟩
  · exact ⟨Or.inr ⟨i, hi, rfl⟩, (hg.2 i hi).trans hk⟩
theorem Ow.q {G : Gq} {w w' : Wd} {a : Nat} {k : Kd} (h : Ow w a k) (hg : KG G w w') : Ow w' a k := ⟨(hg.1 a h.1).1, (hg.1 a h.1).2.trans h.2⟩
theorem XOK.is {G : Gq} {w : Wd} (h : XOK G w) {i : Nat} (hi : i < xN) {k : Kd} (hk : xk i = k) : Is G w (xa G i) k := ⟨Or.inr ⟨i, hi, rfl⟩, (h i hi).1.trans hk⟩
theorem Fr.ne {G : Gq} {w : Wd} {q a : Nat} {k : Kd} (hq : Fr G w q) (h : Is G w a k) : a ≠ q := by
  rintro rfl
  rcases h.1 with h | ⟨i, hi, e⟩
  · exact hq.1 h
  · exact hq.2 i hi e
theorem Is.nu {G : Gq} {w : Wd} {q a : Nat} {k k2 : Kd} (h : Is G w a k) (hq : Fr G w q) : Is G (uN w q k2) a k := by
  have hne := hq.ne h
  refine ⟨?_, (wK_uN hne).trans h.2⟩
  rcases h.1 with h | h
  · exact Or.inl (by rw [wL_uN]; exact List.mem_append_left _ h)
  · exact Or.inr h
theorem Ow.nu {G : Gq} {w : Wd} {q a : Nat} {k k2 : Kd} (h : Ow w a k) (hq : Fr G w q) : Ow (uN w q k2) a k := ⟨by rw [wL_uN]; exact List.mem_append_left _ h.1, (wK_uN (hq.ne (G := G) (k := k) h.is)).trans h.2⟩
theorem Ow.nw {w : Wd} {q : Nat} {k : Kd} : Ow (uN w q k) q k := ⟨by rw [wL_uN]; exact List.mem_append_right _ (List.mem_singleton.mpr rfl), wK_uN_s⟩
def WFd (w : Wd) : Prop := WF (wS w) ∧ ∀ a j, inR (wI w a j) ∧ inL (wJ w a j)
abbrev vA (a : Nat) : Vq := vO (.ref a)
abbrev vP (r : Option Nat) : Vq := vO (va_rf r)
theorem okP {r : Option Nat} : okv (vP r) := by cases r <;> rfl
theorem okA {a : Nat} : okv (vA a) := rfl
def Xw (G : Gq) (i : Nat) : Wd := (fun _ _ => 0, [], fun _ => xk i, fun _ j => xi i j, fun _ j => (xr i j).map (xa G), fun _ _ => 0)
theorem XOK.fv {G : Gq} {w : Wd} (h : XOK G w) {i : Nat} (hi : i < xN) (j k : Nat) : fvq w (xa G i) j k = fvq (Xw G i) (xa G i) j k := by
  obtain ⟨h1, h2, h3, h4⟩ := h i hi
  unfold fvq
  rw [h2, h3, h4]
  rfl
/-- a cell that stands behind: what is known of it -/
def Xat (G : Gq) (i : Nat) (A : Nat → Prop) (U : State) (H : Heap) : Prop := match xk i with
  | .inl (_, n) => va_T .byte (xa G i) n (fun j => .int (Int32.ofInt (xi i (j : Int)))) A U H
  | .inr (.inl (t, n)) => va_T (.object (if t = 7 then "java/lang/Integer" else "java/lang/Object")) (xa G i) n (fun j => va_rf ((xr i (j : Int)).map (xa G))) A U H
  | .inr (.inr c) => ∃ q : vw_C, vwCl[c]? = some q ∧ va_O q.1 (xa G i) A U H ∧ ∀ j k, (fdq c)[j]? = some k → va_OF (q.2.1 j).1 (q.2.1 j).2.1 (q.2.1 j).2.2.1 (fvq (Xw G i) (xa G i) j k) (xa G i) A U H
theorem Xat.moved {G : Gq} {i : Nat} {A : Nat → Prop} {u U : State} {H : Heap} (hv : u.vm.Alike U.vm) (h : Xat G i A u H) : Xat G i A U H := by
  unfold Xat at h ⊢
  split at h
  · exact h.moved hv
  · exact h.moved hv
  · obtain ⟨q, h1, h2, h3⟩ := h
    exact ⟨q, h1, h2.moved hv, fun j k hk => (h3 j k hk).moved hv⟩
theorem Xat.kept {G : Gq} {i : Nat} {A : Nat → Prop} {U : State} {H H1 : Heap} (h : Xat G i A U H) (hq : ∀ a : Nat, a < H.size → ¬ A a → H1[a]? = H[a]?) : Xat G i A U H1 := by
  unfold Xat at h ⊢
  split at h
  · exact h.kept hq
  · exact h.kept hq
  · obtain ⟨q, h1, h2, h3⟩ := h
    exact ⟨q, h1, h2.kept hq, fun j k hk => (h3 j k hk).kept hq⟩
theorem Xat.narrow {G : Gq} {i : Nat} {A B : Nat → Prop} {U : State} {H : Heap} (h : Xat G i A U H) (hAB : ∀ q, B q → A q) : Xat G i B U H := by
  unfold Xat at h ⊢
  split at h
  · exact h.narrow hAB
  · exact h.narrow hAB
  · obtain ⟨q, h1, h2, h3⟩ := h
    exact ⟨q, h1, h2.narrow hAB, fun j k hk => (h3 j k hk).narrow hAB⟩
theorem va_T.nA {ty : FieldType} {t N : Nat} {f : Nat → Value} {A : Nat → Prop} {U : State} {H : Heap} (h : va_T ty t N f A U H) : t < H.size ∧ ¬ A t := by
  obtain ⟨c, h1, -, -, -, -, -, h7⟩ := h
  exact ⟨(Array.getElem?_eq_some_iff.mp h1).1, h7⟩
theorem va_O.nA {E : String} {t : Nat} {A : Nat → Prop} {U : State} {H : Heap} (h : va_O E t A U H) : t < H.size ∧ ¬ A t := by
  obtain ⟨c, h1, -, -, h7⟩ := h
  exact ⟨(Array.getElem?_eq_some_iff.mp h1).1, h7⟩
theorem Xat.nA {G : Gq} {i : Nat} {A : Nat → Prop} {U : State} {H : Heap} (h : Xat G i A U H) : xa G i < H.size ∧ ¬ A (xa G i) := by
  unfold Xat at h
  split at h
  · exact h.nA
  · exact h.nA
  · obtain ⟨q, h1, h2, h3⟩ := h
    exact h2.nA
/-- statics that are read, with what they hold: a cell behind, or a number -/
abbrev SX : Type := String × String × String × (Nat ⊕ Int)
def sxv (G : Gq) (v : Nat ⊕ Int) : Value := match v with | .inl i => .ref (xa G i) | .inr x => .int (Int32.ofInt x)
def sxq : List SX := [("java/util/ArrayList", "DEFAULTCAPACITY_EMPTY_ELEMENTDATA", "[Ljava/lang/Object;", .inl 0), ("java/lang/Integer$IntegerCache", "cache", "[Ljava/lang/Integer;", .inl 1), ("java/lang/Integer$IntegerCache", "high", "I", .inr 127), ("java/lang/Integer", "DigitTens", "[B", .inl 258), ("java/lang/Integer", "DigitOnes", "[B", .inl 259), ("java/lang/String", "COMPACT_STRINGS", "Z", .inr 1), ("java/util/HashSet", "PRESENT", "Ljava/lang/Object;", .inl 285)]
/-- texts: class, place, text, cell behind -/
def txq : List (String × Nat × String × Nat) := [("CoinSamplerLaw", 78, "audit ", 260), ("CoinSamplerLaw", 96, "  ", 262), ("CoinSamplerLaw", 103, "item", 264), ("CoinSamplerLaw", 105, " - ", 266), ("CoinSamplerLaw", 107, " ", 268), ("CoinSamplerLaw", 115, "; ", 270), ("CoinSamplerLaw", 117, ";", 272), ("CoinSamplerLaw", 299, "/", 274), ("CoinSamplerLaw", 301, "!", 276), ("CoinSamplerLaw", 303, "x", 278), ("CoinSamplerLaw", 305, "", 280), ("CoinSamplerLaw", 307, " =", 282)]
def tyD (G : Gq) : List (ClassId × FieldType) := tyq G ++ [(G.2.2 4, .object "java/lang/Object"), (G.2.2 5, .object "java/util/HashMap$Node"), (G.2.2 6, .array .int)]
/-- words that stay though they aren't of the tables' lists: classes castable, arrays over classes, methods of nest mates -/
def nwq : List Cond := [.castable "java/lang/Integer" "java/lang/Object", .castable "CoinSamplerLaw$Item" "java/lang/Object", .castable "CoinSamplerLaw$Hit" "java/lang/Object", .castable "java/util/LinkedHashMap$Entry" "java/util/HashMap$Node", .castable "java/util/LinkedHashMap$LinkedKeySet" "java/util/Set", .castable "java/util/ArrayList$Itr" "java/util/Iterator", .castable "java/util/LinkedHashMap$LinkedKeyIterator" "java/util/Iterator", .castable "[B" "java/lang/Cloneable", .methodLinkNest "CoinSampler" 11 ⟨"CoinSampler$Tape", "<init>", "()V"⟩ "CoinSampler", .methodLinkNest "CoinSampler" 18 ⟨"CoinSampler$Ledger", "<init>", "()V"⟩ "CoinSampler", .methodLinkNest "CoinSampler$Reader" 11 ⟨"CoinSampler$Ledger", "<init>", "()V"⟩ "CoinSampler", .methodLinkNest "CoinSampler" 34 ⟨"CoinSampler$Terms", "<init>", "()V"⟩ "CoinSampler", .methodLinkNest "CoinSampler" 62 ⟨"CoinSampler$Factors", "<init>", "()V"⟩ "CoinSampler", .methodLinkNest "CoinSampler" 87 ⟨"CoinSampler$Line", "<init>", "()V"⟩ "CoinSampler", .methodLinkNest "CoinSamplerLaw" 199 ⟨"CoinSamplerLaw$Books", "<init>", "()V"⟩ "CoinSamplerLaw", .fieldLinkNest "java/util/ArrayList$Itr" 28 "java/util/ArrayList" "size" "I" "java/util/ArrayList", .declares ⟨"java/util/Iterator", "hasNext", "()Z"⟩, .declares ⟨"java/util/Iterator", "next", "()Ljava/lang/Object;"⟩, .declares ⟨"java/util/HashMap$HashIterator", "nextNode", "()Ljava/util/HashMap$Node;"⟩, .declares ⟨"java/util/LinkedHashMap$LinkedHashIterator", "nextNode", "()Ljava/util/LinkedHashMap$Entry;"⟩, .declares ⟨"java/util/HashMap$Node", "getKey", "()Ljava/lang/Object;"⟩, .privateMethod ⟨"java/lang/AbstractStringBuilder", "appendNull", "()Ljava/lang/AbstractStringBuilder;"⟩, .privateMethod ⟨"java/lang/AbstractStringBuilder", "ensureCapacityInternal", "(I)V"⟩, .privateMethod ⟨"java/lang/AbstractStringBuilder", "newCapacity", "(I)I"⟩, .privateMethod ⟨"java/lang/AbstractStringBuilder", "putStringAt", "(ILjava/lang/String;)V"⟩, .privateMethod ⟨"java/lang/AbstractStringBuilder", "inflateIfNeededFor", "(Ljava/lang/String;)V"⟩, .privateMethod ⟨"java/lang/AbstractStringBuilder", "inflate", "()V"⟩, .methodLinkNest "CoinSamplerLaw" 98 ⟨"CoinSamplerLaw$Item", "<init>", "()V"⟩ "CoinSamplerLaw", .declares ⟨"java/lang/Object", "equals", "(Ljava/lang/Object;)Z"⟩, .declares ⟨"java/util/HashSet", "add", "(Ljava/lang/Object;)Z"⟩, .declares ⟨"java/lang/Object", "hashCode", "()I"⟩, .declares ⟨"jdk/internal/access/JavaLangAccess", "getUTF16Char", "([BI)C"⟩, .declares ⟨"java/util/HashMap", "replacementNode", "(Ljava/util/HashMap$Node;Ljava/util/HashMap$Node;)Ljava/util/HashMap$Node;"⟩, .declares ⟨"java/lang/Comparable", "compareTo", "(Ljava/lang/Object;)I"⟩, .declares ⟨"java/util/HashMap", "newNode", "(ILjava/lang/Object;Ljava/lang/Object;Ljava/util/HashMap$Node;)Ljava/util/HashMap$Node;"⟩, .declares ⟨"java/util/HashMap", "newTreeNode", "(ILjava/lang/Object;Ljava/lang/Object;Ljava/util/HashMap$Node;)Ljava/util/HashMap$TreeNode;"⟩, .declares ⟨"java/util/HashMap", "replacementTreeNode", "(Ljava/util/HashMap$Node;Ljava/util/HashMap$Node;)Ljava/util/HashMap$TreeNode;"⟩, .declares ⟨"java/util/HashMap", "afterNodeAccess", "(Ljava/util/HashMap$Node;)V"⟩, .declares ⟨"java/util/HashMap", "afterNodeInsertion", "(Z)V"⟩, .declares ⟨"java/util/HashSet", "iterator", "()Ljava/util/Iterator;"⟩, .declares ⟨"java/util/HashMap", "keySet", "()Ljava/util/Set;"⟩, .declares ⟨"java/util/Set", "iterator", "()Ljava/util/Iterator;"⟩, .declares ⟨"java/lang/Object", "getClass", "()Ljava/lang/Class;"⟩]
def ExD (G : Gq) (A : Nat → Prop) (U : State) (H : Heap) : Prop :=
  Extq G A U H ∧ (∀ i, i < xN → Xat G i A U H) ∧ (∀ q ∈ sxq, va_Z q.1 q.2.1 q.2.2.1 (sxv G q.2.2.2) A U H) ∧ (∀ q ∈ txq, vk_R q.1 q.2.1 q.2.2.1 (xa G q.2.2.2) U) ∧ (∀ q ∈ nwq, va_Nw q U)
