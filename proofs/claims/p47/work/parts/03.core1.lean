-- the layer between the machine and plain numbers: values, a store of whole numbers, a world of 38 cells
abbrev Vq : Type := Int ⊕ (Nat ⊕ (Int ⊕ (UInt64 ⊕ Value)))
def vI (x : Int) : Vq := .inl x
def vR (k : Nat) : Vq := .inr (.inl k)
def vL (x : Int) : Vq := .inr (.inr (.inl x))
def vD (u : UInt64) : Vq := .inr (.inr (.inr (.inl u)))
def vO (v : Value) : Vq := .inr (.inr (.inr (.inr v)))
abbrev St : Type := Nat → Int → Int
def ups (σ : St) (c : Nat) (j : Int) (v : Int) : St := fun c' j' => if c' = c ∧ j' = j then v else σ c' j'
abbrev inR (x : Int) : Prop := -2147483648 ≤ x ∧ x ≤ 2147483647
abbrev inL (x : Int) : Prop := -9223372036854775808 ≤ x ∧ x ≤ 9223372036854775807
def WF (σ : St) : Prop := ∀ c j, inR (σ c j)
def okv : Vq → Prop
  | .inl x => inR x
  | .inr (.inl _) => True
  | .inr (.inr (.inl x)) => inL x
  | .inr (.inr (.inr (.inl _))) => True
  | .inr (.inr (.inr (.inr v))) => v.category = 1
def ct : Vq → Nat
  | .inl _ => 1
  | .inr (.inl _) => 1
  | .inr (.inr (.inl _)) => 2
  | .inr (.inr (.inr (.inl _))) => 2
  | .inr (.inr (.inr (.inr _))) => 1
/-- classes, addresses of the cells, classes of the arrays (0 int, 1 byte, 2 boolean, 3 char) -/
abbrev Gq : Type := va_G × (Nat → Nat) × (Nat → ClassId)
def cv (G : Gq) : Vq → Value
  | .inl x => .int (Int32.ofInt x)
  | .inr (.inl k) => .ref (G.2.1 k)
  | .inr (.inr (.inl x)) => .long (Int64.ofInt x)
  | .inr (.inr (.inr (.inl u))) => .double u
  | .inr (.inr (.inr (.inr v))) => v
theorem cv_ct (G : Gq) {v : Vq} (h : okv v) : (cv G v).category = ct v := by
  rcases v with x | k | x | u | v
  · rfl
  · rfl
  · rfl
  · rfl
  · exact h
def oks (st : List Vq) : Prop := ∀ v ∈ st, okv v
def okl (ls : List (Nat × Vq)) : Prop := ∀ q ∈ ls, okv q.2
theorem oks_nil : oks [] := fun _ h => by cases h
theorem oks_cons {v : Vq} {st : List Vq} (h : okv v) (hs : oks st) : oks (v :: st) := fun w hw => by
  rcases List.mem_cons.mp hw with e | hw
  · rw [e]; exact h
  · exact hs w hw
theorem oks.hd {v : Vq} {st : List Vq} (h : oks (v :: st)) : okv v := h v List.mem_cons_self
theorem oks.tl {v : Vq} {st : List Vq} (h : oks (v :: st)) : oks st := fun w hw => h w (List.mem_cons_of_mem _ hw)
theorem oks.app {a b : List Vq} (h : oks (a ++ b)) : oks a ∧ oks b := ⟨fun v hv => h v (List.mem_append_left _ hv), fun v hv => h v (List.mem_append_right _ hv)⟩
def asq (G : Gq) (ls : List (Nat × Vq)) : List (Nat × Value) := ls.map (fun q => (q.1, cv G q.2))
def stl (i : Nat) (v : Vq) (ls : List (Nat × Vq)) : List (Nat × Vq) := (i, v) :: ls.filter (fun q => !(q.1 == i) && !(q.1 + 1 == i && ct q.2 == 2))
def stw (i : Nat) (v : Vq) (ls : List (Nat × Vq)) : List (Nat × Vq) := (i, v) :: ls.filter (fun q => !(q.1 == i) && (!(q.1 == i + 1) && !(q.1 + 1 == i && ct q.2 == 2)))
theorem okl_stl {i : Nat} {v : Vq} {ls : List (Nat × Vq)} (h : okl ls) (hv : okv v) : okl (stl i v ls) := fun q hq => by
  rcases List.mem_cons.mp hq with e | hq
  · rw [e]; exact hv
  · exact h q (List.mem_filter.mp hq).1
theorem okl_stw {i : Nat} {v : Vq} {ls : List (Nat × Vq)} (h : okl ls) (hv : okv v) : okl (stw i v ls) := fun q hq => by
  rcases List.mem_cons.mp hq with e | hq
  · rw [e]; exact hv
  · exact h q (List.mem_filter.mp hq).1
theorem asq_stl {G : Gq} {i : Nat} {v : Vq} {ls : List (Nat × Vq)} (h : okl ls) : (i, cv G v) :: (asq G ls).filter (fun q => !(q.1 == i) && !(q.1 + 1 == i && q.2.category == 2)) = asq G (stl i v ls) := by
  show _ = (i, cv G v) :: asq G (ls.filter _)
  congr 1
  unfold asq
  rw [List.filter_map]
  congr 1
  apply List.filter_congr
  intro q hq
  simp only [Function.comp, cv_ct G (h q hq)]
theorem asq_stw {G : Gq} {i : Nat} {v : Vq} {ls : List (Nat × Vq)} (h : okl ls) : (i, cv G v) :: (asq G ls).filter (fun q => !(q.1 == i) && (!(q.1 == i + 1) && !(q.1 + 1 == i && q.2.category == 2))) = asq G (stw i v ls) := by
  show _ = (i, cv G v) :: asq G (ls.filter _)
  congr 1
  unfold asq
  rw [List.filter_map]
  congr 1
  apply List.filter_congr
  intro q hq
  simp only [Function.comp, cv_ct G (h q hq)]
theorem asq_at {G : Gq} {ls : List (Nat × Vq)} {lsA : Array Slot} {n i : Nat} {v : Vq} (h : lv_has lsA n (asq G ls)) (hm : (i, v) ∈ ls) : lsA[i]? = some (.val (cv G v)) := h.2.2 (i, cv G v) (List.mem_map.mpr ⟨(i, v), hm, rfl⟩)
def lq (i : Nat) : List (Nat × Vq) → Option Vq
  | [] => none
  | q :: r => if q.1 = i then some q.2 else lq i r
theorem lq_mem {i : Nat} {v : Vq} : ∀ {ls : List (Nat × Vq)}, lq i ls = some v → (i, v) ∈ ls
  | [], h => by simp [lq] at h
  | q :: r, h => by
    unfold lq at h
    split at h
    · next e => obtain ⟨a, b⟩ := q; cases h; cases e; exact List.mem_cons_self
    · exact List.mem_cons_of_mem _ (lq_mem h)
def inq : Nat → List Vq → List (Nat × Vq)
  | _, [] => []
  | i, v :: vs => (i, v) :: inq (if ct v = 2 then i + 2 else i + 1) vs
theorem asq_inq {G : Gq} : ∀ (vs : List Vq) (i : Nat), oks vs → lv_args i (vs.map (cv G)) = asq G (inq i vs)
  | [], _, _ => rfl
  | v :: vs, i, h => by
    show (i, cv G v) :: lv_args (if (cv G v).category = 2 then i + 2 else i + 1) (vs.map (cv G)) = (i, cv G v) :: asq G (inq (if ct v = 2 then i + 2 else i + 1) vs)
    rw [cv_ct G h.hd, asq_inq vs _ h.tl]
theorem okl_inq : ∀ (vs : List Vq) (i : Nat), oks vs → okl (inq i vs)
  | [], _, _ => fun _ h => by cases h
  | v :: vs, i, h => fun q hq => by
    rcases List.mem_cons.mp hq with e | hq
    · rw [e]; exact h.hd
    · exact okl_inq vs _ h.tl q hq
theorem lg_sl_len {G : Gq} : ∀ (vs : List Vq), oks vs → (lg_sl (vs.map (cv G))).length = (vs.map ct).sum
  | [], _ => rfl
  | v :: vs, h => by
    have ih := lg_sl_len (G := G) vs h.tl
    have hc := cv_ct G h.hd
    have hv : ct v = 1 ∨ ct v = 2 := by rcases v with x | k | x | u | v <;> simp [ct]
    simp only [List.map_cons, List.sum_cons]
    rw [show lg_sl (cv G v :: vs.map (cv G)) = (if (cv G v).category = 2 then [Slot.val (cv G v), .second] else [Slot.val (cv G v)]) ++ lg_sl (vs.map (cv G)) from rfl, List.length_append, ih, hc]
    rcases hv with e | e <;> rw [e] <;> simp
-- numbers
theorem toI {a : Int} (h : inR a) : (Int32.ofInt a).toInt = a := Int32.toInt_ofInt_of_le (by omega) (by omega)
theorem toL {a : Int} (h : inL a) : (Int64.ofInt a).toInt = a := Int64.toInt_ofInt_of_le (by omega) (by omega)
theorem qi_lt {a b : Int} (ha : inR a) (hb : inR b) : Int32.ofInt a < Int32.ofInt b ↔ a < b := by rw [Int32.lt_iff_toInt_lt, toI ha, toI hb]
theorem qi_le {a b : Int} (ha : inR a) (hb : inR b) : Int32.ofInt a ≤ Int32.ofInt b ↔ a ≤ b := by rw [Int32.le_iff_toInt_le, toI ha, toI hb]
theorem qi_eq {a b : Int} (ha : inR a) (hb : inR b) : Int32.ofInt a = Int32.ofInt b ↔ a = b := by rw [← Int32.toInt_inj, toI ha, toI hb]
theorem ql_lt {a b : Int} (ha : inL a) (hb : inL b) : Int64.ofInt a < Int64.ofInt b ↔ a < b := by rw [Int64.lt_iff_toInt_lt, toL ha, toL hb]
theorem ql_eq {a b : Int} (ha : inL a) (hb : inL b) : Int64.ofInt a = Int64.ofInt b ↔ a = b := by rw [← Int64.toInt_inj, toL ha, toL hb]
theorem qi_add (a b : Int) : Int32.ofInt a + Int32.ofInt b = Int32.ofInt (a + b) := by apply Int32.toInt_inj.mp; simp [Int.bmod_add_bmod]
theorem qi_sub (a b : Int) : Int32.ofInt a - Int32.ofInt b = Int32.ofInt (a - b) := by apply Int32.toInt_inj.mp; simp [Int.bmod_sub_bmod]
theorem qi_mul (a b : Int) : Int32.ofInt a * Int32.ofInt b = Int32.ofInt (a * b) := by apply Int32.toInt_inj.mp; simp [Int.bmod_mul_bmod]
theorem qi_neg (a : Int) : - Int32.ofInt a = Int32.ofInt (-a) := by apply Int32.toInt_inj.mp; simp
theorem ql_add (a b : Int) : Int64.ofInt a + Int64.ofInt b = Int64.ofInt (a + b) := by apply Int64.toInt_inj.mp; simp
theorem ql_mul (a b : Int) : Int64.ofInt a * Int64.ofInt b = Int64.ofInt (a * b) := by apply Int64.toInt_inj.mp; simp
theorem qi_div {a b : Int} (ha : inR a) (hb : inR b) : Int32.ofInt a / Int32.ofInt b = Int32.ofInt (a.tdiv b) := by
  apply Int32.toInt_inj.mp
  rw [Int32.toInt_div, toI ha, toI hb, Int32.toInt_ofInt]
theorem ql_div {a b : Int} (ha : inL a) (hb : inL b) : Int64.ofInt a / Int64.ofInt b = Int64.ofInt (a.tdiv b) := by
  apply Int64.toInt_inj.mp
  rw [Int64.toInt_div, toL ha, toL hb, Int64.toInt_ofInt]
theorem qi_rem {a b : Int} (ha : inR a) (hb : inR b) : Int32.ofInt a - Int32.ofInt a / Int32.ofInt b * Int32.ofInt b = Int32.ofInt (a.tmod b) := by
  rw [qi_div ha hb, qi_mul, qi_sub]
  congr 1
  have := Int.mul_tdiv_add_tmod a b
  rw [Int.mul_comm] at this
  omega
theorem ql_rem {a b : Int} (ha : inL a) (hb : inL b) : Int64.ofInt a - Int64.ofInt a / Int64.ofInt b * Int64.ofInt b = Int64.ofInt (a.tmod b) := by
  rw [ql_div ha hb, ql_mul]
  apply Int64.toInt_inj.mp
  have := Int.mul_tdiv_add_tmod a b
  rw [Int.mul_comm] at this
  rw [Int64.toInt_sub, Int64.toInt_ofInt, Int64.toInt_ofInt, Int64.toInt_ofInt]
  rw [show (a.tmod b) = a - a.tdiv b * b by omega]
  simp
theorem qi_i2l {a : Int} (ha : inR a) : (Int32.ofInt a).toInt64 = Int64.ofInt a := by
  apply Int64.toInt_inj.mp
  rw [Int32.toInt_toInt64, toI ha, toL (by omega)]
theorem ql_l2i (a : Int) : (Int64.ofInt a).toInt32 = Int32.ofInt a := by
  apply Int32.toInt_inj.mp
  rw [Int64.toInt_toInt32, Int64.toInt_ofInt, Int32.toInt_ofInt]
  exact Int.bmod_bmod_of_dvd (by decide)
theorem qi_clamp {a : Int} (ha : inR a) : (Int32.ofInt a).toNatClampNeg = a.toNat := by
  show (Int32.ofInt a).toInt.toNat = _
  rw [toI ha]
theorem qi_in {a : Int} {n : Nat} (h0 : 0 ≤ a) (h1 : a < n) (ha : inR a) : vp_in (Int32.ofInt a) n := vp_in_iff.mpr (by rw [toI ha]; exact ⟨h0, h1⟩)
theorem qi_zero : (0 : Int32) = Int32.ofInt 0 := rfl
