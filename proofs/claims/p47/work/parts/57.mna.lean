-- pasted from the claim's printed names: new T[n][m]
abbrev va_AOA (t : FieldType) (U : State) : Prop := (Cond.arrayOver (.array t)).before #[] U = true
theorem va_AOA.use {t : FieldType} {A : Array Value} {U : State} (h : va_AOA t U) : (Cond.arrayOver (.array t)).before A U = true := h
/-! ===== BEGIN new T[n][m]: the outer array a place, the inner ones among the pooled ===== -/
/-- f, but v at every address of l -/
def vr_up {α : Type} (f : Nat → α) (l : List Nat) (v : α) : Nat → α := fun a => if a ∈ l then v else f a
theorem vr_up_in {α : Type} {f : Nat → α} {l : List Nat} {v : α} {a : Nat} (h : a ∈ l) : vr_up f l v a = v := if_pos h
theorem vr_up_ne {α : Type} {f : Nat → α} {l : List Nat} {v : α} {a : Nat} (h : a ∉ l) : vr_up f l v a = f a := if_neg h
theorem vr_rows {L l : List Nat} {f : Nat → va_E} {e : va_E} (h : ∀ a, a ∈ l → a ∉ L) : va_pl L f ++ l.map (fun a => (a, e)) = va_pl (L ++ l) (vr_up f l e) := by
  unfold va_pl
  rw [List.map_append]
  congr 1
  · apply List.map_congr_left
    intro a ha
    rw [vr_up_ne (fun q => h a q ha)]
  · apply List.map_congr_left
    intro a ha
    rw [vr_up_in ha]
theorem vr_lay {X rows : va_W} {x : Nat × va_E} {pl : va_W} {D : va_G} {cl : List vw_C} {H : Heap} (hP : va_P D cl (((X ++ pl) ++ [x]) ++ rows) H) : va_P D cl ((X ++ [x]) ++ (pl ++ rows)) H := by
  rw [List.append_assoc (X ++ pl)] at hP
  have h := va_P.swap hP
  rw [← List.append_assoc X] at h
  have h2 := va_P.swap h
  rw [List.append_assoc (X ++ [x])] at h2
  exact h2
theorem vr_layD {X rows : va_W} {x : Nat × va_E} {pl : va_W} {A : Nat → Prop} (hD : va_D A (((X ++ pl) ++ [x]) ++ rows)) : va_D A ((X ++ [x]) ++ (pl ++ rows)) := by
  rw [List.append_assoc (X ++ pl)] at hD
  have h := va_D.swap hD
  rw [← List.append_assoc X] at h
  have h2 := va_D.swap h
  rw [List.append_assoc (X ++ [x])] at h2
  exact h2
theorem vr_outer (c : ClassId) (N h0 : Nat) : ∀ i : Nat, Jvm.Free.Multi.outerC c N h0 i = arrV c N (fun j => va_rf (if j < i then some (h0 + 1 + j) else none))
  | 0 => by
    show ({ cls := c, slots := Array.replicate N .null, vm := .none } : Cell) = _
    rw [arrV_new]
    refine congrArg (arrV c N) (funext fun j => ?_)
    simp [va_rf]
  | i + 1 => by
    show (Jvm.Free.Multi.outerC c N h0 i).setSlot i (.ref (h0 + 1 + i)) = _
    rw [vr_outer c N h0 i, arrV_store]
    refine congrArg (arrV c N) (funext fun j => ?_)
    by_cases e : j = i
    · subst e
      simp [updV, va_rf]
    · by_cases h : j < i
      · simp [updV, e, h, Nat.lt_succ_of_lt h]
      · simp [updV, e, h, show ¬ j < i + 1 by omega]
section VGM
variable {p : Program} {l : Launch} {e : Env} {R : Room} {s : State} {m : MethodId} {args : Array Value} {below : List Frame} {meth : Method} {c : Code} {H : Heap} {locs : List Loc} {cells slots : Nat} {Q : State → Prop}
variable {cc : ByteArray} {pc : Nat} {ls : Array Slot} {rest : List Value} {D : va_G} {cl : List vw_C} {A : Nat → Prop} {a : Nat} {tys : List (ClassId × FieldType)} {ws : va_W} {H0 : Heap}
theorem va_mna {X : va_W} {L : List Nat} {f : Nat → va_E} {cc : ByteArray} (hexec : p.tables.exec = Jvm.exec) (hb : c.code = cc) {own : String} {index : Nat} {ty : FieldType} {cy : ClassId} (hown : s.vm.findClass own = some m.cls) (hclink : (Cond.classLink own index ("[" ++ (FieldType.array ty).toString)).before args s = true) (hover : va_AOA ty s) (harr : (Cond.arrayClass ty).before args s = true) (hcy : s.vm.findClass (FieldType.array ty).toString = some cy)
    (hK : va_K D cl tys s) (hP : va_P D cl (X ++ va_pl L f) H) (hD : va_D A (X ++ va_pl L f)) (hS : va_S A H0 H locs) (hA : ∀ q, H0.size ≤ q → A q) {n k : Int32} {N' K' : Nat} {z : vp_A} (hn : ¬ n < 0) (hk : ¬ k < 0) (hN : n.toNatClampNeg = N') (hM : k.toNatClampNeg = K')
    (hb1 : N' * 4 ≤ 536870912) (hb2 : K' * componentBytes ty ≤ 536870912) (hb3 : K' ≤ 536870912) (hdf : fits ty (defaultValue ty) = true) (hdd : (defaultValue ty).isDefault = true) (hcells : cells + (1 + N') ≤ R.cells) (hslots : slots + (N' + N' * K') ≤ R.slots) (hz : ∀ c : ClassId, Jvm.Free.Multi.innerC c K' (defaultValue ty) = vp_cell c z) (hdg : decode cc pc = .ok (.multianewarray index 2, 4))
    (kk : ∀ (q : Nat) (r : Nat → Nat) (cA : ClassId) (H1 : Heap), (∀ i j : Nat, i < N' → j < N' → r i = r j → i = j) → (∀ i : Nat, i < N' → r i ∉ L) → va_K D cl (tys ++ [(cA, .array ty)]) s →
      va_P D cl ((X ++ [(q, .inl (cA, N', .inr (.inr (.inr (.inr (fun i => if i < N' then some (r i) else none))))))]) ++ va_pl (L ++ (List.range N').map r) (vr_up f ((List.range N').map r) (.inl (cy, z)))) H1 → va_D A ((X ++ [(q, .inl (cA, N', .inr (.inr (.inr (.inr (fun i => if i < N' then some (r i) else none))))))]) ++ va_pl (L ++ (List.range N').map r) (vr_up f ((List.range N').map r) (.inl (cy, z)))) → va_S A H0 H1 locs →
      W p l e R s m args below meth c H1 locs (cells + 1 + N') (slots + N' + N' * K') Q (F0 m (pc + 4) ls (.ref q :: rest))) : W p l e R s m args below meth c H locs cells slots Q (F0 m pc ls (.int k :: .int n :: rest)) := by
  subst hN
  subst hM
  intro T hT Xs
  obtain ⟨vm₁, cA, comp, -, fA, fC, hO, -, X', step⟩ := Xs.multianewarray2F hexec hown hclink (va_AOA.use hover) harr (g := F0 m pc ls (.int k :: .int n :: rest)) rfl (by rw [hb]; exact hdg) rfl hn hk hb1 hb2 hb3 hdf hdd hcells hslots
  have ec : some cy = some comp := hcy.symm.trans fC
  cases ec
  generalize hF : Jvm.Free.Multi.fill (T.setVm vm₁) cA cy n.toNatClampNeg k.toNatClampNeg (defaultValue ty) n.toNatClampNeg = F at X' step
  have hTh : (T.setVm vm₁).heap = H := hT
  obtain ⟨f1, f2, -, -⟩ := Jvm.Free.Multi.fill_facts (T.setVm vm₁) cA cy n.toNatClampNeg k.toNatClampNeg (defaultValue ty) n.toNatClampNeg
  rw [hF, hTh] at f1 f2
  have hold : ∀ x : Nat, x < H.size → F.heap[x]? = H[x]? := fun x hx => by
    have := Jvm.Free.Multi.fill_old (T.setVm vm₁) cA cy n.toNatClampNeg k.toNatClampNeg (defaultValue ty) (a := x) (by rw [hTh]; exact hx) n.toNatClampNeg
    rw [hF, hTh] at this
    exact this
  have hrow : ∀ j : Nat, j < n.toNatClampNeg → F.heap[H.size + 1 + j]? = some (vp_cell cy z) := fun j hj => by
    have := Jvm.Free.Multi.fill_inner (T.setVm vm₁) cA cy n.toNatClampNeg k.toNatClampNeg (defaultValue ty) n.toNatClampNeg j hj
    rw [hF, hTh, hz] at this
    exact this
  have hout : Jvm.Free.Multi.outerC cA n.toNatClampNeg H.size n.toNatClampNeg = vp_cell cA (n.toNatClampNeg, .inr (.inr (.inr (.inr (fun i => if i < n.toNatClampNeg then some (H.size + 1 + i) else none))))) := by
    rw [vp_cell_q]
    exact vr_outer cA n.toNatClampNeg H.size n.toNatClampNeg
  rw [hout] at f2
  have hlt : ∀ a, a ∈ L → a < H.size := fun a ha => by
    obtain ⟨k9, hk9⟩ := va_pl_get (X := X) (f := f) ha
    exact (hP k9 _ hk9).lt
  have hnl : ∀ i : Nat, i < n.toNatClampNeg → H.size + 1 + i ∉ L := fun i _ h => by
    have := hlt _ h
    omega
  have hnm : ∀ a, a ∈ (List.range n.toNatClampNeg).map (fun i => H.size + 1 + i) → a ∉ L := fun a ha h => by
    obtain ⟨i, -, rfl⟩ := List.mem_map.mp ha
    have := hlt _ h
    omega
  have hP0 : va_P D cl (X ++ va_pl L f) F.heap := hP.kept (fun k9 x hx => hold x.1 ((hP k9 x hx).lt))
  have hP1 : va_P D cl ((X ++ va_pl L f) ++ [(H.size, .inl (cA, n.toNatClampNeg, .inr (.inr (.inr (.inr (fun i => if i < n.toNatClampNeg then some (H.size + 1 + i) else none))))))]) F.heap := hP0.app (fun k9 x hx => by
    have h0 : k9 < 1 := (List.getElem?_eq_some_iff.mp hx).1
    rw [show k9 = 0 by omega] at hx
    cases hx
    exact f2)
  have hP2 : va_P D cl (((X ++ va_pl L f) ++ [(H.size, .inl (cA, n.toNatClampNeg, .inr (.inr (.inr (.inr (fun i => if i < n.toNatClampNeg then some (H.size + 1 + i) else none))))))]) ++ ((List.range n.toNatClampNeg).map (fun i => H.size + 1 + i)).map (fun a => (a, .inl (cy, z)))) F.heap := hP1.app (fun k9 x hx => by
    obtain ⟨a, ha, rfl⟩ := List.mem_map.mp (List.mem_of_getElem? hx)
    obtain ⟨i, hi, rfl⟩ := List.mem_map.mp ha
    exact hrow i (List.mem_range.mp hi))
  have hD2 : va_D A (((X ++ va_pl L f) ++ [(H.size, .inl (cA, n.toNatClampNeg, .inr (.inr (.inr (.inr (fun i => if i < n.toNatClampNeg then some (H.size + 1 + i) else none))))))]) ++ ((List.range n.toNatClampNeg).map (fun i => H.size + 1 + i)).map (fun a => (a, .inl (cy, z)))) := by
    have hD1 := hD.push (e := .inl (cA, n.toNatClampNeg, .inr (.inr (.inr (.inr (fun i => if i < n.toNatClampNeg then some (H.size + 1 + i) else none)))))) hP rfl (hA _ hS.1)
    generalize hW1 : (X ++ va_pl L f) ++ [(H.size, .inl (cA, n.toNatClampNeg, .inr (.inr (.inr (.inr (fun i => if i < n.toNatClampNeg then some (H.size + 1 + i) else none))))))] = W1 at hD1 hP1 ⊢
    have hle : ∀ (k9 : Nat) (x : Nat × va_E), W1[k9]? = some x → x.1 ≤ H.size := fun k9 x hx => by
      rw [← hW1] at hx
      by_cases hl : k9 < (X ++ va_pl L f).length
      · rw [List.getElem?_append_left hl] at hx
        exact Nat.le_of_lt ((hP k9 x hx).lt)
      · rw [List.getElem?_append_right (by omega)] at hx
        have h0 : k9 - (X ++ va_pl L f).length < 1 := (List.getElem?_eq_some_iff.mp hx).1
        rw [show k9 - (X ++ va_pl L f).length = 0 by omega] at hx
        cases hx
        exact Nat.le_refl _
    have hr : ∀ (k9 : Nat) (x : Nat × va_E), (((List.range n.toNatClampNeg).map (fun i => H.size + 1 + i)).map (fun a => ((a, .inl (cy, z)) : Nat × va_E)))[k9]? = some x → x.1 = H.size + 1 + k9 := fun k9 x hx => by
      rw [List.getElem?_map, List.getElem?_map] at hx
      by_cases h9 : k9 < n.toNatClampNeg
      · rw [List.getElem?_range h9] at hx
        cases hx
        rfl
      · have hn0 : (List.range n.toNatClampNeg)[k9]? = none := List.getElem?_eq_none (by rw [List.length_range]; omega)
        rw [hn0] at hx
        cases hx
    refine ⟨fun i j x y hi hj hxy => ?_, fun k9 x hx => ?_⟩
    · by_cases h1 : i < W1.length <;> by_cases h2 : j < W1.length
      · rw [List.getElem?_append_left h1] at hi
        rw [List.getElem?_append_left h2] at hj
        exact hD1.1 i j x y hi hj hxy
      · rw [List.getElem?_append_left h1] at hi
        rw [List.getElem?_append_right (by omega)] at hj
        have := hle _ _ hi
        have := hr _ _ hj
        omega
      · rw [List.getElem?_append_right (by omega)] at hi
        rw [List.getElem?_append_left h2] at hj
        have := hle _ _ hj
        have := hr _ _ hi
        omega
      · rw [List.getElem?_append_right (by omega)] at hi hj
        have := hr _ _ hi
        have := hr _ _ hj
        omega
    · by_cases h1 : k9 < W1.length
      · rw [List.getElem?_append_left h1] at hx
        exact hD1.2 k9 x hx
      · rw [List.getElem?_append_right (by omega)] at hx
        have := hr _ _ hx
        exact hA _ (by have := hS.1; omega)
  have hAr : ArrOfT s cA (.array ty) := fun N9 z9 => by
    obtain ⟨-, k9, hk9, cm9, hkk9⟩ := (hO 0 0 0).1
    exact ⟨(fun q hq => by cases hq), k9, hk9, cm9, hkk9⟩
  have hK2 : va_K D cl (tys ++ [(cA, .array ty)]) s := ⟨hK.1, fun k9 x hx => by
    by_cases hl : k9 < tys.length
    · rw [List.getElem?_append_left hl] at hx
      exact hK.2 k9 x hx
    · rw [List.getElem?_append_right (by omega)] at hx
      have h0 : k9 - tys.length < 1 := (List.getElem?_eq_some_iff.mp hx).1
      rw [show k9 - tys.length = 0 by omega] at hx
      cases hx
      exact ⟨hAr, fA⟩⟩
  obtain ⟨t, a1, b1⟩ := kk H.size (fun i => H.size + 1 + i) cA F.heap (fun i j _ _ h => by have h9 : H.size + 1 + i = H.size + 1 + j := h; omega) hnl hK2 (by rw [← vr_rows hnm]; exact vr_lay hP2) (by rw [← vr_rows hnm]; exact vr_layD hD2) ⟨by rw [f1]; have := hS.1; omega, fun x h1 h2 => (hold x (Nat.lt_of_lt_of_le h1 hS.1)).trans (hS.2.1 x h1 h2), hS.2.2⟩ F rfl X'
  refine ⟨t, step t ?_, b1⟩
  have e : T.heap.size = H.size := by rw [hT]
  rw [e]
  exact a1
end VGM
/-! ===== END ===== -/
-- new int[n][m] in the moving world
def mna (w : Wd) (q N K : Nat) (r : Nat → Nat) : Nat → Wd
  | 0 => uG (uN w q (kR 6 N)) q (fun j => if 0 ≤ j ∧ j < (N : Int) then some (r j.toNat) else none)
  | i + 1 => uN (mna w q N K r i) (r i) (kA 0 K)
def MnF (G : Gq) (w : Wd) (q : Nat) (r : Nat → Nat) (N : Nat) : Prop := Fr G w q ∧ (∀ i, i < N → Fr G w (r i) ∧ r i ≠ q) ∧ ∀ i j, i < N → j < N → r i = r j → i = j
section MN
variable {G : Gq} {w : Wd} {q N K : Nat} {r : Nat → Nat}
theorem mna_L : ∀ i, wL (mna w q N K r i) = wL w ++ q :: (List.range i).map r := by
  intro i
  induction i with
  | zero => rfl
  | succ i ih =>
    show wL (mna w q N K r i) ++ [r i] = _
    rw [ih, List.range_succ, List.map_append, List.append_assoc]
    rfl
theorem mna_fr (h : MnF G w q r N) : ∀ i, i < N → Fr G (mna w q N K r i) (r i) := fun i hi => by
  refine ⟨?_, (h.2.1 i hi).1.2⟩
  rw [mna_L]
  intro hm
  rcases List.mem_append.mp hm with hm | hm
  · exact (h.2.1 i hi).1.1 hm
  · rcases List.mem_cons.mp hm with hm | hm
    · exact (h.2.1 i hi).2 hm
    · obtain ⟨j, hj, e⟩ := List.mem_map.mp hm
      have hj := List.mem_range.mp hj
      have := h.2.2 j i (by omega) hi e
      omega
theorem mna_g (h : MnF G w q r N) : ∀ i, i ≤ N → Gw G w (mna w q N K r i) := by
  intro i
  induction i with
  | zero =>
    intro _
    have g1 := uN_g (G := G) (k := kR 6 N) h.1
    exact ⟨g1.1, fun i hi => ⟨(g1.2 i hi).1, (g1.2 i hi).2.1, fun j => (wR_uG (fun e => h.1.2 i hi e.symm)).trans ((g1.2 i hi).2.2 j)⟩⟩
  | succ i ih => exact fun hi => (ih (by omega)).tr (uN_g (mna_fr h i (by omega)))
theorem mna_x (h : MnF G w q r N) (hx : XOK G w) : ∀ i, i ≤ N → XOK G (mna w q N K r i) := by
  intro i
  induction i with
  | zero =>
    intro _ i hi
    obtain ⟨h1, h2, h3, h4⟩ := uN_x (k := kR 6 N) hx h.1 i hi
    exact ⟨h1, h2, fun j => (wR_uG (fun e => h.1.2 i hi e.symm)).trans (h3 j), h4⟩
  | succ i ih => exact fun hi => uN_x (ih (by omega)) (mna_fr h i (by omega))
theorem mna_wf (hσ : WFd w) : ∀ i, WFd (mna w q N K r i) := by
  intro i
  induction i with
  | zero => exact ⟨hσ.1, fun b j => (uN_wf (q := q) (k := kR 6 N) hσ).2 b j⟩
  | succ i ih => exact uN_wf ih
/-- another cell stays -/
theorem mna_o {b : Nat} (hb : b ≠ q) (hr : ∀ i, i < N → b ≠ r i) : ∀ i, i ≤ N → wK (mna w q N K r i) b = wK w b ∧ (∀ j, wI (mna w q N K r i) b j = wI w b j) ∧ (∀ j, wR (mna w q N K r i) b j = wR w b j) ∧ ∀ j, wJ (mna w q N K r i) b j = wJ w b j := by
  intro i
  induction i with
  | zero => exact fun _ => ⟨wK_uN hb, fun j => wI_uN (k := kR 6 N) hb, fun j => (wR_uG hb).trans (wR_uN (k := kR 6 N) hb), fun j => wJ_uN (k := kR 6 N) hb⟩
  | succ i ih =>
    intro hi
    obtain ⟨h1, h2, h3, h4⟩ := ih (by omega)
    have hne := hr i (by omega)
    exact ⟨(wK_uN hne).trans h1, fun j => (wI_uN (k := kA 0 K) hne).trans (h2 j), fun j => (wR_uN (k := kA 0 K) hne).trans (h3 j), fun j => (wJ_uN (k := kA 0 K) hne).trans (h4 j)⟩
/-- the outer row -/
theorem mna_q (h : MnF G w q r N) : ∀ i, i ≤ N → wK (mna w q N K r i) q = kR 6 N ∧ ∀ j, wR (mna w q N K r i) q j = if 0 ≤ j ∧ j < (N : Int) then some (r j.toNat) else none := by
  intro i
  induction i with
  | zero => exact fun _ => ⟨wK_uN_s, fun j => wR_uG_s⟩
  | succ i ih =>
    intro hi
    obtain ⟨h1, h2⟩ := ih (by omega)
    have hne : q ≠ r i := (h.2.1 i (by omega)).2.symm
    exact ⟨(wK_uN hne).trans h1, fun j => (wR_uN (k := kA 0 K) hne).trans (h2 j)⟩
/-- an inner one -/
theorem mna_r (h : MnF G w q r N) : ∀ i, i ≤ N → ∀ t, t < i → wK (mna w q N K r i) (r t) = kA 0 K ∧ ∀ j, wI (mna w q N K r i) (r t) j = 0 := by
  intro i
  induction i with
  | zero => exact fun _ t ht => by omega
  | succ i ih =>
    intro hi t ht
    by_cases e : t = i
    · subst e
      exact ⟨wK_uN_s, fun j => wI_uN_s⟩
    · obtain ⟨h1, h2⟩ := ih (by omega) t (by omega)
      have hne : r t ≠ r i := fun e2 => e (h.2.2 t i (by omega) (by omega) e2)
      exact ⟨(wK_uN hne).trans h1, fun j => (wI_uN (k := kA 0 K) hne).trans (h2 j)⟩
theorem MnF.ow (h : MnF G w q r N) : Ow (mna w q N K r N) q (kR 6 N) := ⟨by rw [mna_L]; exact List.mem_append_right _ List.mem_cons_self, (mna_q h N (Nat.le_refl _)).1⟩
theorem MnF.or (h : MnF G w q r N) {t : Nat} (ht : t < N) : Ow (mna w q N K r N) (r t) (kA 0 K) := ⟨by rw [mna_L]; exact List.mem_append_right _ (List.mem_cons_of_mem _ (List.mem_map.mpr ⟨t, List.mem_range.mpr ht, rfl⟩)), (mna_r h N (Nat.le_refl _) t ht).1⟩
theorem mna_wld (h : MnF G w q r N) : ∀ i, i ≤ N → wld2 G (mna w q N K r i) = (wld2 G w ++ [(q, .inl (G.2.2 6, N, .inr (.inr (.inr (.inr (fun j => if j < N then some (r j) else none))))))]) ++ (List.range i).map (fun t => (r t, .inl (G.2.2 0, K, .inl (fun _ => 0)))) := by
  intro i
  induction i with
  | zero =>
    intro _
    rw [List.range_zero, List.map_nil, List.append_nil]
    show wld2 G (uG (uN w q (kR 6 N)) q _) = _
    unfold wld2 dwd
    rw [show wL (uG (uN w q (kR 6 N)) q (fun j => if 0 ≤ j ∧ j < (N : Int) then some (r j.toNat) else none)) = wL w ++ [q] from rfl, List.map_append, List.append_assoc]
    congr 1
    congr 1
    · apply List.map_congr_left
      intro b hb
      have hne : b ≠ q := fun e => h.1.1 (e ▸ hb)
      exact congrArg (Prod.mk b) (dent_same (w := w) (w' := uG (uN w q (kR 6 N)) q (fun j => if 0 ≤ j ∧ j < (N : Int) then some (r j.toNat) else none)) (wK_uN hne) (fun _ => wI_uN (k := kR 6 N) hne) (fun _ => (wR_uG hne).trans (wR_uN (k := kR 6 N) hne)) (fun _ => wJ_uN (k := kR 6 N) hne))
    · show [(q, dent G (uG (uN w q (kR 6 N)) q _) q)] = _
      rw [dent_kR (w := uG (uN w q (kR 6 N)) q (fun j => if 0 ≤ j ∧ j < (N : Int) then some (r j.toNat) else none)) (t := 6) (n := N) wK_uN_s]
      rw [show (fun j : Nat => wR (uG (uN w q (kR 6 N)) q (fun j => if 0 ≤ j ∧ j < (N : Int) then some (r j.toNat) else none)) q (j : Int)) = fun j : Nat => if j < N then some (r j) else none from funext fun j => by
        rw [wR_uG_s]
        by_cases hj : j < N
        · rw [if_pos hj, if_pos (by omega), Int.toNat_natCast]
        · rw [if_neg hj, if_neg (by omega)]]
  | succ i ih =>
    intro hi
    rw [List.range_succ, List.map_append, ← List.append_assoc, ← ih (by omega)]
    refine (wld2_uN (mna_fr (K := K) h i (by omega)).1 ?_).symm
    rw [dent_kA wK_uN_s]
    rw [show (fun j : Nat => Int32.ofInt (wI (uN (mna w q N K r i) (r i) (kA 0 K)) (r i) (j : Int))) = fun _ : Nat => (0 : Int32) from funext fun j => by rw [wI_uN_s]; rfl]
end MN
theorem fr_in {G : Gq} {w : Wd} {A : Nat → Prop} {U : State} {H : Heap} {rest : va_W} {i q : Nat} {e : va_E} (hE : EdD G A U H) (hD : va_D A (wld2 G w ++ rest)) (hi : rest[i]? = some (q, e)) : Fr G w q := by
  have hl : (wld2 G w ++ rest)[(wld2 G w).length + i]? = some (q, e) := by rw [List.getElem?_append_right (by omega), Nat.add_sub_cancel_left]; exact hi
  refine ⟨fun hm => ?_, fun i hi e2 => hE.xa hi (by rw [← e2]; exact hD.2 _ _ hl)⟩
  obtain ⟨k, hk⟩ := wld2_at (G := G) hm
  have hlt := (List.getElem?_eq_some_iff.mp hk).1
  have := hD.1 _ ((wld2 G w).length + i) (q, dent G w q) (q, e) (by rw [List.getElem?_append_left hlt]; exact hk) hl rfl
  omega
theorem D_rest {A : Nat → Prop} {X rest : va_W} {i j : Nat} {x y : Nat × va_E} (hD : va_D A (X ++ rest)) (hi : rest[i]? = some x) (hj : rest[j]? = some y) (e : x.1 = y.1) : i = j := by
  have := hD.1 (X.length + i) (X.length + j) x y (by rw [List.getElem?_append_right (by omega), Nat.add_sub_cancel_left]; exact hi) (by rw [List.getElem?_append_right (by omega), Nat.add_sub_cancel_left]; exact hj) e
  omega
section MX
variable {G : Gq} {μ : Md} {pc : Nat} {ls : List (Nat × Vq)} {st : List Vq} {w : Wd} {rc rs : Nat} {Q : Option Vq → Wd → Prop}
theorem x_mna {idx N K : Nat} (hw : Cond.classLink (mn μ).cls idx "[[I" ∈ UW) (harr : Cond.arrayClass .int ∈ UW) (hd : decode (cd μ) pc = .ok (.multianewarray idx 2, 4)) (hN : N ≤ 1000) (hK0 : K ≤ 1000) (hc1 : 1 + N ≤ rc) (hs1 : N + N * K ≤ rs)
    (kk : ∀ (q : Nat) (r : Nat → Nat), MnF G w q r N → WD G μ (pc + 4) ls (vA q :: st) (mna w q N K r N) (rc - (1 + N)) (rs - (N + N * K)) Q) : WD G μ pc ls (vI (K : Int) :: vI (N : Int) :: st) w rc rs Q := by
  intro hσ hx hl hs w0 hg A mc ms p l e s m args below meth c C H locs lsA cs ss hcb hzb hP hD hS hL
  have hts := C.2.2.2.2.2.2.1
  have hKK := C.2.2.2.2.2.2.2.1
  have hED := C.2.2.2.2.2.2.2.2.2.2
  have neg : ∀ x : Nat, x ≤ 1000 → ¬ Int32.ofInt (x : Int) < 0 := fun x hx h => by
    rw [show (0 : Int32) = Int32.ofInt 0 from rfl, qi_lt (by unfold inR; omega) (by decide)] at h; omega
  have clp : ∀ x : Nat, x ≤ 1000 → (Int32.ofInt (x : Int)).toNatClampNeg = x := fun x hx => by rw [qi_clamp (by unfold inR; omega)]; rfl
  have hP0 : va_P G.1 vwCl (wld2 G w ++ va_pl [] (fun _ => .inl (G.2.2 0, K, .inl (fun _ => 0)))) H := by
    rw [show va_pl [] (fun _ => (.inl (G.2.2 0, K, .inl (fun _ => 0)) : va_E)) = [] from rfl, List.append_nil]; exact hP
  have hD0 : va_D A (wld2 G w ++ va_pl [] (fun _ => .inl (G.2.2 0, K, .inl (fun _ => 0)))) := by
    rw [show va_pl [] (fun _ => (.inl (G.2.2 0, K, .inl (fun _ => 0)) : va_E)) = [] from rfl, List.append_nil]; exact hD
  have hNK : N * K ≤ 1000000 := Nat.mul_le_mul hN hK0
  refine va_mna (D := G.1) (cl := vwCl) (tys := tyD G) (ty := .int) (cy := G.2.2 0) (z := (K, .inl (fun _ => 0))) C.1 C.2.1 C.2.2.2.2.2.1 (hts _ hw) hED.2.2.2.2 (hts _ harr) (hKK.2 0 (G.2.2 0, .int) rfl).2 hKK hP0 hD0 hS C.2.2.2.2.2.2.2.2.1 (neg N hN) (neg K hK0) (clp N hN) (clp K hK0) (by omega) (by show K * 4 ≤ _; omega) (by omega) rfl rfl (by show cs + (1 + N) ≤ mc; omega) (by show ss + (N + N * K) ≤ ms; omega) (fun c => (arrV_new _ _ _)) hd (fun q r cA H1 h1 h2 hK1 hP1 hD1 hS1 => ?_)
  have hcc : G.2.2 6 = cA := by
    have g1 := (hKK.2 6 (G.2.2 6, .array .int) rfl).2
    have g2 := (hK1.2 (tyD G).length (cA, .array .int) (by simp)).2
    exact Option.some.inj (Eq.trans (Eq.symm g1) g2)
  subst hcc
  have epl : va_pl ([] ++ (List.range N).map r) (vr_up (fun _ => .inl (G.2.2 0, K, .inl (fun _ => 0))) ((List.range N).map r) (.inl (G.2.2 0, K, .inl (fun _ => 0)))) = (List.range N).map (fun t => (r t, (.inl (G.2.2 0, K, .inl (fun _ => 0)) : va_E))) := by
    unfold va_pl
    rw [List.nil_append, List.map_map]
    apply List.map_congr_left
    intro t ht
    exact congrArg (Prod.mk (r t)) (vr_up_in (List.mem_map.mpr ⟨t, ht, rfl⟩))
  rw [epl] at hP1 hD1
  have hD2 := hD1
  rw [List.append_assoc] at hD2
  have hri : ∀ i, i < N → ([(q, (.inl (G.2.2 6, N, .inr (.inr (.inr (.inr (fun j => if j < N then some (r j) else none))))) : va_E))] ++ (List.range N).map (fun t => (r t, (.inl (G.2.2 0, K, .inl (fun _ => 0)) : va_E))))[i + 1]? = some (r i, .inl (G.2.2 0, K, .inl (fun _ => 0))) := fun i hi => by
    rw [List.getElem?_append_right (by simp), List.getElem?_map]
    rw [show i + 1 - [(q, (.inl (G.2.2 6, N, .inr (.inr (.inr (.inr (fun j => if j < N then some (r j) else none))))) : va_E))].length = i from rfl, List.getElem?_range hi]
    rfl
  have hq : Fr G w q := fr_in (i := 0) hED hD2 rfl
  have hM : MnF G w q r N := ⟨hq, fun i hi => ⟨fr_in (i := i + 1) hED hD2 (hri i hi), fun e => by
    have := D_rest (i := i + 1) (j := 0) hD2 (hri i hi) rfl e
    omega⟩, h1⟩
  rw [← mna_wld (K := K) hM N (Nat.le_refl _)] at hP1 hD1
  exact kk q r hM (mna_wf hσ N) (mna_x hM hx N (Nat.le_refl _)) hl (oks_cons (v := vA q) okA hs.tl.tl) w0 (hg.tr (mna_g hM N (Nat.le_refl _))) A mc ms p l e s m args below meth c C H1 locs lsA _ _ (by omega) (by omega) hP1 hD1 hS1 hL
end MX
