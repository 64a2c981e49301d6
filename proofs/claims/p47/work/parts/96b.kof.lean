theorem k_of (l : Launch) (G : Gq) (a b : Nat) (f : Nat → Int32) (sz : Nat) : Met l (mn M_Te_of) (wsq M_Te_of) (rmk (1, 0, 0, 21)) (Pte G a b f sz) (KIq (f 4) sz) 0 0 (va_A [] sz) := by
  refine q_ofW (cc := cd M_Te_of) (maxL := mL M_Te_of) (ret := rt M_Te_of) ok_M_Te_of.2.2.2 rfl ?_
  intro p e s m args below meth c s₁ B hml hv
  obtain ⟨rfl, rfl, hP, hK⟩ := hv
  have hl := lv_entry [.ref a, .int 4] (n := mL M_Te_of) (Nat.le_of_ble_eq_true rfl)
  rw [lg_entry_eq]
  have hx := B.exec
  have hb := B.bytes
  have hts0 := atoms_spec (ws := wsq M_Te_of) B.pre
  have hts : ∀ w ∈ UW, w.before [.ref a, .int 4].toArray s = true := fun w hw => hts0 w (List.mem_cons_of_mem _ hw)
  have hown : s.vm.findClass (mn M_Te_of).cls = some m.cls := findClass_of_methodNamed B.named
  generalize (lg_sl ([.ref a, .int 4]) ++ List.replicate (mL M_Te_of - (lg_sl ([.ref a, .int 4])).length) Slot.unset).toArray = lsA at hl ⊢
  have hl : lv_has lsA 2 [(0, .ref a), (1, .int 4)] := hl
  refine lv_aload_n hx hb d_Te_of_0 rfl (lv_at hl 0 rfl) ?_
  refine lv_iload_n hx hb d_Te_of_1 rfl (lv_at hl 1 rfl) ?_
  refine va_calli (va_runV (As := [.int 4]) (C := (mn M_Te_has).cls) (b := a) (n := 1) (rest := []) ⟨hx, hb, hml, hown, hts⟩ (k_has l G a b f s.heap.size) ⟨q_callB ok_M_Te_has hts (Nat.le_of_ble_eq_true rfl) (Nat.le_of_ble_eq_true rfl) np_M_Te_has (qm_2 (i := 81) rfl rfl), hts _ okv_M_Te_has.1, hts _ okv_M_Te_has.2⟩ ⟨Pte_blind, va_recv hK hP (ci := 8) (q0 := 0) rfl rfl, fun U hU hW => ⟨rfl, by rw [hU], by rw [hU]; exact hP, va_K.moved hW.alike hK⟩⟩ rfl rfl hl.1 rfl (lv_room (Nat.le_of_ble_eq_true rfl)) d_Te_of_2 ⟨Nat.le_refl _, Nat.le_refl _⟩) (va_S.rf (A := va_A [] s.heap.size)) (fun q _ h => h) (fun q h => h) (fun r u t H1 locs1 ht hvm hw hB hz1 hk1 hS1 => ?_)
  subst hw
  have hP1 := hP.kept (H1 := H1) (fun k q hq => hk1 _ ((hP k q hq).lt) (fun h => by have := va_A0 h; have := (hP k q hq).lt; omega))
  refine lv_if_eq (tgt := 17) hx hb d_Te_of_5 (by decide) (fun h => absurd h (by decide)) (fun _ => ?_)
  refine lv_aload_n hx hb d_Te_of_8 rfl (lv_at hl 0 rfl) ?_
  refine va_get (D := G.1) (ci := 8) (C := RX8) (T := TX8) (N := 1) (ref := (TX8 0).1) hx hb hts clk_8.2 hown hK hP1 0 rfl clk_8.1 0 (by decide) (hts _ (qm_1 (i := 145) rfl rfl)) (fun x h => h) (v := .ref b) rfl d_Te_of_9 ?_
  refine lv_iload_n hx hb d_Te_of_12 rfl (lv_at hl 1 rfl) ?_
  refine va_iald hx hb hK hP1 1 0 rfl rfl (by unfold vp_in; decide) d_Te_of_13 ?_
  refine lv_goto (tgt := 18) hx hb d_Te_of_14 (by decide) ?_
  exact W.iret hx hb B.returns (fun t ht hW => ⟨⟨f 4, (), rfl, rfl, trivial⟩, hS1.F ht⟩) hS1.2.2 d_Te_of_18 B.notSynchronized
section KT
variable {μ : Md} {G : Gq} {R : Rmk} {w0 : va_W} {sz : Nat} {Qc : Array Value → State → Outcome → State → Prop} {pc : Nat} {ls : List (Nat × Value)} {st : List Value} {ws : va_W} {cs sl : Nat}
theorem k_ofcall {a b idx : Nat} {f : Nat → Int32} (i1 i2 : Nat) (hd : decode (cd μ) pc = .ok (.invokevirtual idx, 3)) (hl : Cond.methodLink (mn μ).cls idx (mn M_Te_of) ∈ UW) (h1 : ws[i1]? = some (a, .inr (8, [.ref b]))) (h2 : ws[i2]? = some (b, .inl (G.2.2 0, 5, .inl f))) (hR : 2 ≤ R.1 ∧ 42 ≤ R.2.2.2) (hsum : (st.map fun v => v.category).sum ≤ 8) (hc : cs ≤ R.2.1) (hs : sl ≤ R.2.2.1)
    (kk : WK μ G R w0 sz Qc (pc + 3) ls (.int (f 4) :: st) ws cs sl) : WK μ G R w0 sz Qc pc ls (.int 4 :: .ref a :: st) ws cs sl := by
  intro p l e s m args below meth c C H locs lsA hP hD hS hL
  have hts := C.2.2.2.2.2.2.2.1
  have hK := C.2.2.2.2.2.2.2.2.1
  have hsz := C.2.2.2.2.2.2.2.2.2.1
  have hP2 : va_P G.1 vwCl [(a, .inr (8, [.ref b])), (b, .inl (G.2.2 0, 5, .inl f))] H := fun k q hq => by
    match k, hq with
    | 0, hq => cases hq; exact hP _ _ h1
    | 1, hq => cases hq; exact hP _ _ h2
    | k + 2, hq => simp at hq
  refine va_calli (va_runV (As := [.int 4]) (C := (mn M_Te_of).cls) (b := a) (n := 1) (rest := st) ⟨C.1, C.2.1, C.2.2.1, C.2.2.2.2.2.1, hts⟩ (k_of l G a b f H.size) ⟨q_callB (R := rmk R) ok_M_Te_of hts hR.1 hR.2 np_M_Te_of hl, hts _ okv_M_Te_of.1, hts _ okv_M_Te_of.2⟩ ⟨Pte_blind, va_recv hK hP2 (ci := 8) (q0 := 0) rfl rfl, fun U hU hW => ⟨rfl, by rw [hU], by rw [hU]; exact hP2, va_K.moved hW.alike hK⟩⟩ rfl rfl hL.1 rfl (lv_room hsum) hd ⟨hc, hs⟩) hS (fun q hq h => by have := va_A0 h; omega) (fun q h => hA_sz hsz q (Nat.le_trans hS.1 (va_A0 h))) (fun r u t H1 locs1 ht hvm hw hB hz1 hk1 hS1 => ?_)
  subst hw
  exact kk p l e s m args below meth c C H1 locs1 lsA (hP.kept (fun k q hq => hk1 _ ((hP k q hq).lt) (fun h => by have := va_A0 h; have := (hP k q hq).lt; omega))) hD hS1 hL
end KT
