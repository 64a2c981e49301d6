-- the cells that stand behind are apart: the moving world at the start
def kx (i : Nat) : Nat := if i < 2 then 0 else if i < 258 then 1 else if i < 260 ∨ i % 2 = 1 then 2 else 3
def blen (i : Nat) : Nat := match xk i with | .inl (_, n) => n | _ => 0
def BL : List Nat := [258, 259, 261, 263, 265, 267, 269, 271, 273, 275, 277, 279, 281, 283]
theorem kx_2 : ∀ i, i < 284 → kx i = 2 → xk i = kA 1 (blen i) ∧ i ∈ BL := by decide +kernel
theorem kx_1 : ∀ i, i < 284 → kx i = 1 → xk i = kO 16 := by decide +kernel
theorem kx_3 : ∀ i, i < 284 → kx i = 3 → xk i = kO 18 ∧ xr i 0 = some (i + 1) ∧ kx (i + 1) = 2 ∧ i + 1 < 284 := by decide +kernel
theorem kx_le : ∀ i, i < 284 → kx i ≤ 3 := by decide +kernel
theorem BL_ne : ∀ i ∈ BL, ∀ j ∈ BL, i ≠ j → Int32.ofNat (blen i) ≠ Int32.ofNat (blen j) ∨ ∃ k, k < 100 ∧ k < blen i ∧ k < blen j ∧ Int32.ofInt (xi i (k : Int)) ≠ Int32.ofInt (xi j (k : Int)) := by decide +kernel
def KX (s : State) (k : Nat) (cell : Cell) : Prop := match k with
  | 0 => ∃ C, s.isArrayOf cell (.object C)
  | 1 => s.vm.findClass "java/lang/Integer" = some cell.cls
  | 2 => s.isArrayOf cell .byte
  | _ => s.vm.findClass "java/lang/String" = some cell.cls
theorem KX.z {s : State} {c : Cell} (h : KX s 0 c) : ∃ C, s.isArrayOf c (.object C) := h
theorem KX.o {s : State} {c : Cell} (h : KX s 1 c) : s.vm.findClass "java/lang/Integer" = some c.cls := h
theorem KX.t {s : State} {c : Cell} (h : KX s 2 c) : s.isArrayOf c .byte := h
theorem KX.d {s : State} {c : Cell} (h : KX s 3 c) : s.vm.findClass "java/lang/String" = some c.cls := h
theorem fc_name {vm : Vm} {name : String} {c : ClassId} {k : Class} (h : vm.findClass name = some c) (hk : vm.classes[c]? = some k) : k.name = name := by
  simp only [Vm.findClass, Array.findIdx?_eq_some_iff_getElem] at h
  obtain ⟨hlt, hp, -⟩ := h
  have e : vm.classes[c] = k := by
    rw [Array.getElem?_eq_getElem hlt] at hk
    exact Option.some.inj hk
  rw [e] at hp
  simp only [Bool.and_eq_true, beq_iff_eq] at hp
  exact hp.1.1.1
section WX
variable {G : Gq} {s : State} {i j : Nat} {A : Nat → Prop} {U : State} {H : Heap}
theorem arr_ty {c : Cell} {t u : FieldType} (h : s.isArrayOf c t) (h2 : s.isArrayOf c u) : t = u := by
  obtain ⟨-, k, hk, comp, hkd⟩ := h
  obtain ⟨-, k', hk', comp', hkd'⟩ := h2
  rw [hk] at hk'
  cases hk'
  rw [hkd] at hkd'
  cases hkd'
  rfl
theorem arr_no {args : Array Value} {c : Cell} {t : FieldType} {E : String} {n : Nat} (hi : (Cond.instantiable E n).before args s = true) (h : s.isArrayOf c t) (h2 : s.vm.findClass E = some c.cls) : False := by
  obtain ⟨cC, kC, hfc, hk, hkind, -⟩ := Cond.instantiable_spec hi
  rw [h2] at hfc
  cases hfc
  obtain ⟨-, k', hk', comp', hkd'⟩ := h
  rw [hk] at hk'
  cases hk'
  rw [hkind] at hkd'
  cases hkd'
theorem KX_uniq {args : Array Value} (h1 : (Cond.instantiable "java/lang/Integer" 1).before args s = true) (h2 : (Cond.instantiable "java/lang/String" 4).before args s = true) {k k' : Nat} {cell : Cell} (hk : k ≤ 3) (hk' : k' ≤ 3) (a : KX s k cell) (b : KX s k' cell) : k = k' := by
  have is : s.vm.findClass "java/lang/Integer" = some cell.cls → s.vm.findClass "java/lang/String" = some cell.cls → False := fun e1 e2 => by
    obtain ⟨cC, kC, hfc, hkc, -⟩ := Cond.instantiable_spec h1
    rw [e1] at hfc
    cases hfc
    have n1 := fc_name e1 hkc
    have n2 := fc_name e2 hkc
    rw [n1] at n2
    exact absurd n2 (by simp)
  have c1 : k = 0 ∨ k = 1 ∨ k = 2 ∨ k = 3 := by omega
  have c2 : k' = 0 ∨ k' = 1 ∨ k' = 2 ∨ k' = 3 := by omega
  rcases c1 with e | e | e | e <;> rcases c2 with e' | e' | e' | e' <;> subst e e'
  · rfl
  · obtain ⟨C, a⟩ := KX.z a
    exact (arr_no h1 a (KX.o b)).elim
  · obtain ⟨C, a⟩ := KX.z a
    exact absurd (arr_ty a (KX.t b)) (by simp)
  · obtain ⟨C, a⟩ := KX.z a
    exact (arr_no h2 a (KX.d b)).elim
  · obtain ⟨C, b⟩ := KX.z b
    exact (arr_no h1 b (KX.o a)).elim
  · rfl
  · exact (arr_no h1 (KX.t b) (KX.o a)).elim
  · exact (is (KX.o a) (KX.d b)).elim
  · obtain ⟨C, b⟩ := KX.z b
    exact absurd (arr_ty b (KX.t a)) (by simp)
  · exact (arr_no h1 (KX.t a) (KX.o b)).elim
  · rfl
  · exact (arr_no h2 (KX.t a) (KX.d b)).elim
  · obtain ⟨C, b⟩ := KX.z b
    exact (arr_no h2 b (KX.d a)).elim
  · exact (is (KX.o b) (KX.d a)).elim
  · exact (arr_no h2 (KX.t b) (KX.d a)).elim
  · rfl
theorem Xat_b (hi : i < 284) (hk : kx i = 2) (h : Xat G i A U H) : va_T .byte (xa G i) (blen i) (fun j => .int (Int32.ofInt (xi i (j : Int)))) A U H := by
  unfold Xat at h
  rw [(kx_2 i hi hk).1] at h
  exact h
theorem Xat_i (hi : i < 284) (hk : kx i = 1) (h : Xat G i A U H) : va_O "java/lang/Integer" (xa G i) A U H ∧ va_OF "java/lang/Integer" "value" "I" (.int (Int32.ofInt (xi i 0))) (xa G i) A U H := by
  unfold Xat at h
  rw [kx_1 i hi hk] at h
  obtain ⟨q, h1, h2, h3⟩ := h
  cases h1
  exact ⟨h2, h3 0 0 rfl⟩
theorem Xat_s (hi : i < 284) (hk : kx i = 3) (h : Xat G i A U H) : va_O "java/lang/String" (xa G i) A U H ∧ va_OF "java/lang/String" "value" "[B" (.ref (xa G (i + 1))) (xa G i) A U H := by
  unfold Xat at h
  rw [(kx_3 i hi hk).1] at h
  obtain ⟨q, h1, h2, h3⟩ := h
  cases h1
  have e : fvq (Xw G i) (xa G i) 0 2 = .ref (xa G (i + 1)) := by
    show va_rf ((xr i ((0 : Nat) : Int)).map (xa G)) = _
    rw [show ((0 : Nat) : Int) = 0 from rfl, (kx_3 i hi hk).2.1]
    rfl
  have h4 := h3 0 2 rfl
  rw [e] at h4
  exact ⟨h2, h4⟩
theorem of_same {o n d : String} {v v' : Value} {t : Nat} (h : va_OF o n d v t A U H) (h2 : va_OF o n d v' t A U H) : v = v' := by
  obtain ⟨cf, k, fi, f, cell, a1, a2, a3, a4, a5, -⟩ := h
  obtain ⟨cf', k', fi', f', cell', b1, b2, b3, b4, b5, -⟩ := h2
  rw [a1] at b1
  cases b1
  rw [a3] at b3
  cases b3
  rw [a5] at b5
  exact Option.some.inj b5
theorem Xat_KX (hi : i < 284) (h : Xat G i A U U.heap) : ∃ cell, U.heap[xa G i]? = some cell ∧ KX U (kx i) cell := by
  have hle := kx_le i hi
  have hcs : kx i = 0 ∨ kx i = 1 ∨ kx i = 2 ∨ kx i = 3 := by omega
  rcases hcs with e | e | e | e
  · rw [e]
    have hi2 : i = 0 ∨ i = 1 := by
      unfold kx at e
      by_cases h2 : i < 2
      · omega
      · rw [if_neg h2] at e
        split at e
        · cases e
        · split at e <;> cases e
    rcases hi2 with rfl | rfl
    · obtain ⟨cell, h1, h2, -⟩ := (show va_T (.object "java/lang/Object") (xa G 0) 0 _ A U U.heap from h)
      exact ⟨cell, h1, _, h2⟩
    · obtain ⟨cell, h1, h2, -⟩ := (show va_T (.object "java/lang/Integer") (xa G 1) 256 _ A U U.heap from h)
      exact ⟨cell, h1, _, h2⟩
  · rw [e]
    obtain ⟨cell, h1, -, h3, -⟩ := (Xat_i hi e h).1
    exact ⟨cell, h1, h3⟩
  · rw [e]
    obtain ⟨cell, h1, h2, -⟩ := Xat_b hi e h
    exact ⟨cell, h1, h2⟩
  · rw [e]
    obtain ⟨cell, h1, -, h3, -⟩ := (Xat_s hi e h).1
    exact ⟨cell, h1, h3⟩
theorem Xat_bb (hi : i < 284) (hj : j < 284) (ki : kx i = 2) (kj : kx j = 2) (h : Xat G i A U H) (h2 : Xat G j A U H) (e : xa G i = xa G j) : i = j := by
  obtain ⟨cell, a1, a2, a3, a4, a5, a6, -⟩ := Xat_b hi ki h
  obtain ⟨cell', b1, b2, b3, b4, b5, b6, -⟩ := Xat_b hj kj h2
  rw [e, b1] at a1
  cases a1
  by_cases hne : i = j
  · exact hne
  · exfalso
    rcases BL_ne i (kx_2 i hi ki).2 j (kx_2 j hj kj).2 hne with h3 | ⟨k, _, k1, k2, h3⟩
    · exact h3 (a5.symm.trans b5)
    · have := (a6 k k1).symm.trans (b6 k k2)
      exact h3 (Value.int.inj (Option.some.inj this))
/-- all cells that stand behind are apart -/
theorem Xat_inj {args : Array Value} (h1 : (Cond.instantiable "java/lang/Integer" 1).before args U = true) (h2 : (Cond.instantiable "java/lang/String" 4).before args U = true) (hX : ∀ i, i < xN → Xat G i A U U.heap) (hi : i < xN) (hj : j < xN) (e : xa G i = xa G j) : i = j := by
  have hi' : i < 284 := hi
  have hj' : j < 284 := hj
  obtain ⟨ci, a1, a2⟩ := Xat_KX hi' (hX i hi)
  obtain ⟨cj, b1, b2⟩ := Xat_KX hj' (hX j hj)
  rw [e, b1] at a1
  cases a1
  have hk := KX_uniq h1 h2 (kx_le i hi') (kx_le j hj') a2 b2
  have hle := kx_le i hi'
  have hcs : kx i = 0 ∨ kx i = 1 ∨ kx i = 2 ∨ kx i = 3 := by omega
  rcases hcs with c | c | c | c
  · have z : ∀ i, i < 284 → kx i = 0 → i = 0 ∨ i = 1 := by decide +kernel
    have zi := z i hi' c
    have zj := z j hj' (hk.symm.trans c)
    have no : Xat G 0 A U U.heap → Xat G 1 A U U.heap → xa G 0 = xa G 1 → False := fun h h' e => by
      obtain ⟨cell, a1, a2, a3, a4, a5, -⟩ := (show va_T (.object "java/lang/Object") (xa G 0) 0 _ A U U.heap from h)
      obtain ⟨cell', b1, b2, b3, b4, b5, -⟩ := (show va_T (.object "java/lang/Integer") (xa G 1) 256 _ A U U.heap from h')
      rw [e, b1] at a1
      cases a1
      exact absurd (a5.symm.trans b5) (by decide)
    rcases zi with rfl | rfl <;> rcases zj with rfl | rfl
    · rfl
    · exact (no (hX 0 hi) (hX 1 hj) e).elim
    · exact (no (hX 0 hj) (hX 1 hi) e.symm).elim
    · rfl
  · have vi := (Xat_i hi' c (hX i hi)).2
    have vj := (Xat_i hj' (hk.symm.trans c) (hX j hj)).2
    rw [e] at vi
    have ev := Value.int.inj (of_same vi vj)
    have z : ∀ i, i < 284 → kx i = 1 → 2 ≤ i ∧ i < 258 := by decide +kernel
    have zi := z i hi' c
    have zj := z j hj' (hk.symm.trans c)
    rw [xi_int zi.1 zi.2, xi_int zj.1 zj.2] at ev
    have := (qi_eq (inR_of (by omega) (by omega)) (inR_of (by omega) (by omega))).mp ev
    omega
  · exact Xat_bb hi' hj' c (hk.symm.trans c) (hX i hi) (hX j hj) e
  · have vi := (Xat_s hi' c (hX i hi)).2
    have vj := (Xat_s hj' (hk.symm.trans c) (hX j hj)).2
    rw [e] at vi
    have ev := Value.ref.inj (of_same vi vj)
    obtain ⟨-, -, i2, i3⟩ := kx_3 i hi' c
    obtain ⟨-, -, j2, j3⟩ := kx_3 j hj' (hk.symm.trans c)
    have := Xat_bb i3 j3 i2 j2 (hX (i + 1) i3) (hX (j + 1) j3) ev
    omega
end WX
