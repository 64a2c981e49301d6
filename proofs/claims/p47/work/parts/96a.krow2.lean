-- calls of constructors; bytes of an array; a term's value
section KS
variable {μ : Md} {G : Gq} {R : Rmk} {w0 : va_W} {sz : Nat} {Qc : Array Value → State → Outcome → State → Prop} {pc : Nat} {ls : List (Nat × Value)} {st : List Value} {ws : va_W} {cs sl : Nat}
theorem k_callI {ν : Md} {Rν : Rmk} {As stk : List Value} {a : Nat} {e0 : va_E} {w1 : (Nat → Nat) → va_W} {wr : va_W} {idx nA : Nat} (hM : ∀ z, KC ν G Rν (.ref a :: As) [(a, e0)] w1 z) (hd : decode (cd μ) pc = .ok (.invokespecial idx, 3)) (hν : MdOK ν) (hi : Cond.instanceMethod (mn ν) ∈ UW) (hl : Cond.methodLink (mn μ).cls idx (mn ν) ∈ UW) (hnm : (mn ν).name = "<init>") (hrt : rt ν = none) (hn : (parseMethodDescriptor (mn ν).desc).map (fun d => d.parameters.length) = some nA) (hA : As.length = nA)
    (hR : Rν.1 + 1 ≤ R.1 ∧ 8 + (mL ν + 11) + Rν.2.2.2 ≤ R.2.2.2) (hsum : (st.map fun v => v.category).sum ≤ 8) (hstk : stk = As.reverse ++ .ref a :: st) (hws : ws = wr ++ [(a, e0)]) (hc : cs + Rν.2.1 ≤ R.2.1) (hs : sl + Rν.2.2.1 ≤ R.2.2.1)
    (kk : ∀ f : Nat → Nat, WK μ G R w0 sz Qc (pc + 3) ls st (wr ++ w1 f) (cs + Rν.2.1) (sl + Rν.2.2.1)) : WK μ G R w0 sz Qc pc ls stk ws cs sl := by
  subst hstk hws
  refine k_callq (ν := ν) (idx := idx) (nA := nA) hM hc hs (fun p l e s m args below meth c C H locs lsA hz hp => ?_) kk
  have hts := C.2.2.2.2.2.2.2.1
  have hg : ∀ w ∈ wsq ν, w ∈ UW ∧ ((w.onTables && w.keeps) = true ∨ ∃ ty, w = .arrayClass ty) := fun w hw => by
    rcases List.mem_cons.mp hw with e | hw
    · subst e; exact ⟨hν.1, uw_good _ hν.1⟩
    · exact ⟨hw, uw_good _ hw⟩
  have hB : CallB (rmk R) s args (mn μ).cls idx (mn ν) (cd ν) (mL ν) (rt ν) (wsq ν) (rmk Rν) Rν.2.1 Rν.2.2.1 nA := by
    refine ⟨rfl, rfl, hR.1, hR.2, pay_in hts hg, List.mem_cons_self, hts _ hν.1, hts _ hν.2.1, hν.2.2.1, fun sig h => ?_, hts _ hl⟩
    rw [h] at hn
    exact (Option.some.inj hn).symm
  rw [hrt] at hB
  exact va_runI (As := As) (rest := st) ⟨C.1, C.2.1, C.2.2.1, C.2.2.2.2.2.1, hts⟩ (hM H.size l) ⟨hB, hnm, hts _ hi⟩ hp rfl hA hz rfl (lv_room (pc := pc) (ls := lsA) (m := m) hsum) hd ⟨hc, hs⟩
theorem k_callN {ν : Md} {Rν : Rmk} {As stk : List Value} {a : Nat} {e0 : va_E} {w1 : (Nat → Nat) → va_W} {wr : va_W} {idx nA : Nat} {host : String} (hM : ∀ z, KC ν G Rν (.ref a :: As) [(a, e0)] w1 z) (hd : decode (cd μ) pc = .ok (.invokespecial idx, 3)) (hν : MdOK ν) (hi : Cond.instanceMethod (mn ν) ∈ UW) (hl : ((mn μ).cls, idx, mn ν, host) ∈ nlq) (hnm : (mn ν).name = "<init>") (hrt : rt ν = none) (hn : (parseMethodDescriptor (mn ν).desc).map (fun d => d.parameters.length) = some nA) (hA : As.length = nA)
    (hR : Rν.1 + 1 ≤ R.1 ∧ 8 + (mL ν + 11) + Rν.2.2.2 ≤ R.2.2.2) (hsum : (st.map fun v => v.category).sum ≤ 8) (hstk : stk = As.reverse ++ .ref a :: st) (hws : ws = wr ++ [(a, e0)]) (hc : cs + Rν.2.1 ≤ R.2.1) (hs : sl + Rν.2.2.1 ≤ R.2.2.1)
    (kk : ∀ f : Nat → Nat, WK μ G R w0 sz Qc (pc + 3) ls st (wr ++ w1 f) (cs + Rν.2.1) (sl + Rν.2.2.1)) : WK μ G R w0 sz Qc pc ls stk ws cs sl := by
  subst hstk hws
  refine k_callq (ν := ν) (idx := idx) (nA := nA) hM hc hs (fun p l e s m args below meth c C H locs lsA hz hp => ?_) kk
  have hts := C.2.2.2.2.2.2.2.1
  have hg : ∀ w ∈ wsq ν, w ∈ UW ∧ ((w.onTables && w.keeps) = true ∨ ∃ ty, w = .arrayClass ty) := fun w hw => by
    rcases List.mem_cons.mp hw with e | hw
    · subst e; exact ⟨hν.1, uw_good _ hν.1⟩
    · exact ⟨hw, uw_good _ hw⟩
  have hB : va_CN (rmk R) s args (mn μ).cls idx (mn ν) host (cd ν) (mL ν) (rt ν) (wsq ν) (rmk Rν) Rν.2.1 Rν.2.2.1 nA := by
    refine ⟨⟨rfl, rfl, hR.1, hR.2, pay_in hts hg, List.mem_cons_self⟩, hts _ hν.1, hts _ hν.2.1, hν.2.2.1, fun sig h => ?_, va_Nw.use rfl (C.2.2.2.2.2.2.2.2.2.2 _ hl)⟩
    rw [h] at hn
    exact (Option.some.inj hn).symm
  rw [hrt] at hB
  exact va_runIN (As := As) (rest := st) ⟨C.1, C.2.1, C.2.2.1, C.2.2.2.2.2.1, hts⟩ (hM H.size l) ⟨hB, hnm, hts _ hi⟩ hp rfl hA hz rfl (lv_room (pc := pc) (ls := lsA) (m := m) hsum) hd ⟨hc, hs⟩
theorem k_bast {ws' : va_W} {a : Nat} {cA : ClassId} {N : Nat} {f : Nat → Int32} {i x : Int32} (q0 : Nat) (hd : decode (cd μ) pc = .ok (.bastore, 1)) (ha : ws[q0]? = some (a, .inl (cA, N, .inl f))) (ht : (tyq G)[1]? = some (cA, .byte)) (hi : vp_in i N) (hws : ws.set q0 (a, .inl (cA, N, .inl (upd f i.toNatClampNeg (vp_nar .byte x)))) = ws') (kk : WK μ G R w0 sz Qc (pc + 1) ls st ws' cs sl) : WK μ G R w0 sz Qc pc ls (.int x :: .int i :: .ref a :: st) ws cs sl := by
  subst hws
  intro p l e s m args below meth c C H locs lsA hP hD hS hl
  exact va_bast C.1 C.2.1 C.2.2.2.2.2.2.2.2.1 hP hD hS q0 1 ha ht hi hd (fun H1 locs1 hP1 hD1 hS1 => kk p l e s m args below meth c C H1 locs1 lsA hP1 hD1 hS1 hl)
end KS
/-- what a method that only reads leaves -/
def KIq (v : Int32) (sz : Nat) : Array Value → State → Outcome → State → Prop := va_Qi (fun r (_ : Unit) => r = v) (fun _ _ => True) (va_A [] sz)
abbrev Pte (G : Gq) (a b : Nat) (f : Nat → Int32) (sz : Nat) : Array Value → State → Prop := va_Pc [.ref a, .int 4] (fun U => U.heap.size = sz ∧ va_P G.1 vwCl [(a, .inr (8, [.ref b])), (b, .inl (G.2.2 0, 5, .inl f))] U.heap ∧ va_K G.1 vwCl (tyq G) U)
theorem va_A0 {sz q : Nat} (h : va_A [] sz q) : sz ≤ q := by
  rcases h with ⟨k, e, hk⟩ | h
  · simp at hk
  · exact h
theorem Pte_blind {G : Gq} {a b : Nat} {f : Nat → Int32} {sz : Nat} : FrameBlind (Pte G a b f sz) := fun _ U g mk q => ⟨q.1, q.2.1, q.2.2.1, va_K.moved (u := U) (U := U.calling g mk _) (Vm.Alike.refl U.vm) q.2.2.2⟩
theorem k_has (l : Launch) (G : Gq) (a b : Nat) (f : Nat → Int32) (sz : Nat) : Met l (mn M_Te_has) (wsq M_Te_has) (rmk (0, 0, 0, 0)) (Pte G a b f sz) (KIq 1 sz) 0 0 (va_A [] sz) := by
  refine q_ofW (cc := cd M_Te_has) (maxL := mL M_Te_has) (ret := rt M_Te_has) ok_M_Te_has.2.2.2 rfl ?_
  intro p e s m args below meth c s₁ B hml hv
  obtain ⟨rfl, rfl, hP, hK⟩ := hv
  have hl := lv_entry [.ref a, .int 4] (n := mL M_Te_has) (Nat.le_of_ble_eq_true rfl)
  rw [lg_entry_eq]
  have hx := B.exec
  have hb := B.bytes
  generalize (lg_sl ([.ref a, .int 4]) ++ List.replicate (mL M_Te_has - (lg_sl ([.ref a, .int 4])).length) Slot.unset).toArray = lsA at hl ⊢
  have hl : lv_has lsA 2 [(0, .ref a), (1, .int 4)] := hl
  refine lv_iload_n hx hb d_Te_has_0 rfl (lv_at hl 1 rfl) ?_
  refine lv_if_lt (tgt := 13) hx hb d_Te_has_1 (by decide) (fun h => absurd h (by decide)) (fun _ => ?_)
  refine lv_iload_n hx hb d_Te_has_4 rfl (lv_at hl 1 rfl) ?_
  refine lv_iconst (v := 5) hx hb d_Te_has_5 (by decide) ?_
  refine lv_icmp_ge (tgt := 13) hx hb d_Te_has_6 (by decide) (fun h => absurd h (by decide)) (fun _ => ?_)
  refine lv_iconst (v := 1) hx hb d_Te_has_9 (by decide) ?_
  refine lv_goto (tgt := 14) hx hb d_Te_has_10 (by decide) ?_
  exact W.zret hx hb B.returns rfl (fun t ht hW => ⟨⟨1, (), rfl, rfl, trivial⟩, (va_S.rf (A := va_A [] s.heap.size)).F ht⟩) (fun q hq => by cases hq) d_Te_has_14 B.notSynchronized
