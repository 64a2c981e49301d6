-- cells that stand behind at the start: texts, small Integers
section SC
variable {args : Array Value} {s : State} {A : Nat → Prop}
/-- a text -/
theorem st_str {tm : Term} {n : Nat} {f : Nat → Int} {h hz : Int32} (hN : n < 2 ^ 31) (hex : (Cond.exactly tm "java/lang/String").before args s = true) (hco : (Cond.eq (.field tm "java/lang/String" "coder" "B") (.int 0)).before args s = true) (hh : (Cond.eq (.field tm "java/lang/String" "hash" "I") (.int h)).before args s = true) (hhz : (Cond.eq (.field tm "java/lang/String" "hashIsZero" "Z") (.int hz)).before args s = true) (har : (Cond.arrayOf (.field tm "java/lang/String" "value" "[B") .byte).before args s = true) (hle : (Cond.eq (.length (.field tm "java/lang/String" "value" "[B")) (.int (Int32.ofNat n))).before args s = true)
    (hel : ∀ j : Nat, j < n → (Cond.eq (.elem (.field tm "java/lang/String" "value" "[B") (.int (Int32.ofNat j))) (.int (Int32.ofInt (f j)))).before args s = true) (hA : ∀ a : Nat, a < s.heap.size → ¬ A a) : ∃ a t : Nat, tm.eval args s none [] s = some (.ref a) ∧ va_O "java/lang/String" a A s s.heap ∧ va_OF "java/lang/String" "value" "[B" (.ref t) a A s s.heap ∧ va_OF "java/lang/String" "coder" "B" (.int 0) a A s s.heap ∧ va_OF "java/lang/String" "hash" "I" (.int h) a A s s.heap ∧ va_OF "java/lang/String" "hashIsZero" "Z" (.int hz) a A s s.heap ∧ va_T .byte t n (fun j => .int (Int32.ofInt (f j))) A s s.heap := by
  obtain ⟨a, c, cA, kA, q1, q2, q3, q4, q5, q6, -⟩ := Cond.exactly_spec (args := args) (first := s) (o := none) (s := s) (idx := []) (t := tm) (cls := "java/lang/String") hex
  obtain ⟨t, ht, hT⟩ := va_Tof (f := fun j => .int (Int32.ofInt (f j))) (A := A) hN har (va_eqt hle) (fun j hj => va_eqt (hel j hj)) hA
  exact ⟨a, t, q1, ⟨cA, q3, q5, by rw [q6]; exact q2, hA a (Array.getElem?_eq_some_iff.mp q3).1⟩, vk_OFof q1 ht hA, vk_OFof q1 (va_eqt hco) hA, vk_OFof q1 (va_eqt hh) hA, vk_OFof q1 (va_eqt hhz) hA, hT⟩
theorem fold_all {f : Nat → Option Bool} {g : Option Bool → Nat → Option Bool} (hg : ∀ i, g (some true) i = f i) (hx : ∀ x i, x ≠ some true → g x i = x) : ∀ n : Nat, (List.range n).foldl g (some true) = some true → ∀ i, i < n → f i = some true := by
  intro n
  induction n with
  | zero => intro _ i hi; exact absurd hi (Nat.not_lt_zero _)
  | succ n ih =>
    intro h i hi
    rw [List.range_succ, List.foldl_append, List.foldl_cons, List.foldl_nil] at h
    by_cases e : (List.range n).foldl g (some true) = some true
    · by_cases hin : i < n
      · exact ih e i hin
      · have : i = n := by omega
        rw [e, hg] at h
        rw [this]; exact h
    · rw [hx _ _ e] at h
      exact absurd h e
/-- what is said of all elements, of one -/
theorem all_at {t : Term} {c : Cond} {a : Nat} {cell : Cell} (h : (Cond.all t c).before args s = true) (ht : t.eval args s none [] s = some (.ref a)) (hc : s.arrayAt? a = some cell) : ∀ i, i < cell.slots.size → c.value args s none s [i] = some true := by
  have h : (Cond.all t c).value args s none s [] = some true := by
    simpa [Cond.before, Cond.holds] using h
  simp only [Cond.value, ht, hc] at h
  exact fold_all (f := fun i => c.value args s none s [i]) (fun i => rfl) (fun x i hx => by
    match x, hx with
    | some true, hx => exact absurd rfl hx
    | some false, _ => rfl
    | none, _ => rfl) _ h
theorem and_v {a b : Cond} {idx : List Nat} (h : (Cond.and a b).value args s none s idx = some true) : a.value args s none s idx = some true ∧ b.value args s none s idx = some true := by
  simp only [Cond.value] at h
  cases ha : a.value args s none s idx with
  | none => rw [ha] at h; cases h
  | some x =>
    rw [ha] at h
    cases x with
    | true => exact ⟨rfl, h⟩
    | false => cases h
theorem eq_v {t u : Term} {idx : List Nat} {z : Int32} (h : (Cond.eq t u).value args s none s idx = some true) (hu : u.eval args s none idx s = some (.int z)) : t.eval args s none idx s = some (.int z) := by
  cases hv : t.eval args s none idx s with
  | none => simp [Cond.value, hv] at h
  | some w =>
    simp only [Cond.value, hv, hu] at h
    cases w <;> simp_all
/-- a field, read at a place within an array -/
theorem of_idx {t : Term} {a : Nat} {o n d : String} {v : Value} {idx : List Nat} (ht : t.eval args s none idx s = some (.ref a)) (hv : (Term.field t o n d).eval args s none idx s = some v) (hA : ∀ a : Nat, a < s.heap.size → ¬ A a) : va_OF o n d v a A s s.heap := by
  cases hfo : s.fieldFound? o n d with
  | none =>
    rw [va_fe ht] at hv
    simp [State.fieldOf?, State.fieldNamed?, hfo] at hv
  | some x =>
    obtain ⟨cf, k, fi, f⟩ := x
    obtain ⟨g1, cell, g2, g3, -, -, g6⟩ := Term.field_spec hfo ht hv
    exact ⟨cf, k, fi, f, cell, hfo, g1, g2, g3, g6, hA _ (Array.getElem?_eq_some_iff.mp g2).1⟩
abbrev tCache : Term := .static "java/lang/Integer$IntegerCache" "cache" "[Ljava/lang/Integer;"
abbrev cCache : Cond := .and (.exactly (.elem tCache (.index 0)) "java/lang/Integer") (.eq (.field (.elem tCache (.index 0)) "java/lang/Integer" "value" "I") (.sub (.index 0) (.int 128)))
/-- the small Integers -/
theorem st_cache (harr : (Cond.arrayOf tCache (.object "java/lang/Integer")).before args s = true) (hle : (Cond.eq (.length tCache) (.int 256)).before args s = true) (hall : (Cond.all tCache cCache).before args s = true) (hA : ∀ a : Nat, a < s.heap.size → ¬ A a) : ∃ (t : Nat) (ad : Nat → Nat), tCache.eval args s none [] s = some (.ref t) ∧ va_T (.object "java/lang/Integer") t 256 (fun j => .ref (ad j)) A s s.heap ∧ ∀ j, j < 256 → va_O "java/lang/Integer" (ad j) A s s.heap ∧ va_OF "java/lang/Integer" "value" "I" (.int (Int32.ofInt ((j : Int) - 128))) (ad j) A s s.heap := by
  obtain ⟨t, cell, ht, hat, hv⟩ := Term.length_spec (va_eqt hle)
  have hsz : cell.slots.size.toInt32 = 256 := (Value.int.inj hv).symm
  obtain ⟨hcell, hkn, -, -⟩ := State.arrayAt?_spec hat
  obtain ⟨hof, -⟩ := Cond.arrayOf_spec harr ht hcell
  have hge : 256 ≤ cell.slots.size := by
    have h1 : (cell.slots.size.toInt32).toInt = 256 := by rw [hsz]; rfl
    have h2 : (cell.slots.size.toInt32).toBitVec.toNat = cell.slots.size % 4294967296 := by
      show (BitVec.ofNat 32 cell.slots.size).toNat = _
      rw [BitVec.toNat_ofNat]
    have h3 : (cell.slots.size.toInt32).toBitVec.toNat = 256 := by rw [hsz]; rfl
    omega
  have key : ∀ j : Nat, ∃ a : Nat, j < 256 → cell.slots[j]? = some (.ref a) ∧ va_O "java/lang/Integer" a A s s.heap ∧ va_OF "java/lang/Integer" "value" "I" (.int (Int32.ofInt ((j : Int) - 128))) a A s s.heap := by
    intro j
    by_cases hj : j < 256
    · obtain ⟨h1, h2⟩ := and_v (all_at hall ht hat j (by omega))
      have h1' : (Cond.exactly (.elem tCache (.index 0)) "java/lang/Integer").holds args s none s [j] = true := by
        unfold Cond.holds
        rw [h1]
        rfl
      obtain ⟨a, c, cA, kA, q1, q2, q3, q4, q5, q6, -⟩ := Cond.exactly_spec h1'
      obtain ⟨t', i, cell2, e1, e2, e3, e4, e5⟩ := Term.elem_spec q1
      have e1 : tCache.eval args s none [] s = some (.ref t') := e1
      cases ht.symm.trans e1
      cases hat.symm.trans e3
      have hi : i = Int32.ofNat j := by
        have e : (Term.index 0).eval args s none [j] s = some (.int (Int32.ofNat j)) := rfl
        cases e2.symm.trans e
        rfl
      have hc : i.toNatClampNeg = j := by rw [hi]; exact Int32.toNatClampNeg_ofNat_of_lt (by omega)
      rw [hc] at e5
      have hu : (Term.sub (.index 0) (.int 128)).eval args s none [j] s = some (.int (Int32.ofNat j - 128)) := rfl
      have hv := eq_v h2 hu
      have es : Int32.ofNat j - 128 = Int32.ofInt ((j : Int) - 128) := qi_sub (j : Int) 128
      rw [es] at hv
      exact ⟨a, fun _ => ⟨e5, ⟨cA, q3, q5, by rw [q6]; exact q2, hA a (Array.getElem?_eq_some_iff.mp q3).1⟩, of_idx q1 hv hA⟩⟩
    · exact ⟨0, fun h => absurd h hj⟩
  obtain ⟨ad, had⟩ := Classical.axiomOfChoice key
  exact ⟨t, ad, ht, ⟨cell, hcell, hof, hkn, hge, hsz, fun j hj => (had j hj).1, hA t (Array.getElem?_eq_some_iff.mp hcell).1⟩, fun j hj => (had j hj).2⟩
end SC
