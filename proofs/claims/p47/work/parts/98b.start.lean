-- the law, from its entry
theorem w_ctor {p : Program} {l : Launch} {e : Env} {R : Room} {s : State} {m : MethodId} {args : Array Value} {below : List Frame} {meth : Method} {c : Code} {H : Heap} {locs : List Loc} {cs sl pc : Nat} {lsA : Array Slot} {Z : State → Prop} {G : Gq} {Rν : Rmk} {As st : List Value} {a : Nat} {e0 : va_E} {w1 : (Nat → Nat) → va_W} {wr : va_W} {A : Nat → Prop}
    (hP : va_P G.1 vwCl (wr ++ [(a, e0)]) H) (hD : va_D A (wr ++ [(a, e0)])) (hS : va_S A s.heap H locs) (hA : ∀ q : Nat, s.heap.size ≤ q → A q)
    (hrun : va_P G.1 vwCl [(a, e0)] H → va_D (fun _ => True) [(a, e0)] → va_Run p l e R s m args below meth c H locs cs sl Rν.2.1 Rν.2.2.1 (F0 m pc lsA (As.reverse ++ .ref a :: st)) st (KQ G [(a, e0)] w1 H.size (Value.ref a :: As).toArray) (va_A [(a, e0)] H.size))
    (kk : ∀ (f : Nat → Nat) (H1 : Heap) (locs1 : List Loc), va_P G.1 vwCl (wr ++ w1 f) H1 → va_D A (wr ++ w1 f) → va_S A s.heap H1 locs1 → W p l e R s m args below meth c H1 locs1 (cs + Rν.2.1) (sl + Rν.2.2.1) Z (F0 m (pc + 3) lsA st)) : W p l e R s m args below meth c H locs cs sl Z (F0 m pc lsA (As.reverse ++ .ref a :: st)) := by
  have ha : (wr ++ [(a, e0)])[wr.length]? = some (a, e0) := by simp
  have hPa : va_P G.1 vwCl [(a, e0)] H := fun k q hq => by
    have hz : k < 1 := (List.getElem?_eq_some_iff.mp hq).1
    rw [show k = 0 by omega] at hq
    cases hq
    exact hP _ _ ha
  have hDa : va_D (fun _ => True) [(a, e0)] := ⟨fun i j x y hi hj _ => by
    have h1 : i < 1 := (List.getElem?_eq_some_iff.mp hi).1
    have h2 : j < 1 := (List.getElem?_eq_some_iff.mp hj).1
    omega, fun _ _ _ => trivial⟩
  have inr : ∀ (k : Nat) (q : Nat × va_E), wr[k]? = some q → (wr ++ [(a, e0)])[k]? = some q := fun k q hq => by
    have := (List.getElem?_eq_some_iff.mp hq).1
    rw [List.getElem?_append_left this]
    exact hq
  have hF : ∀ q, va_A [(a, e0)] H.size q → A q := fun q h => by
    rcases h with ⟨k, e1, hk⟩ | h
    · have hz : k < 1 := (List.getElem?_eq_some_iff.mp hk).1
      rw [show k = 0 by omega] at hk
      cases hk
      exact hD.2 _ _ ha
    · exact hA q (Nat.le_trans hS.1 h)
  have out : ∀ (k : Nat) (q : Nat × va_E), wr[k]? = some q → ¬ va_A [(a, e0)] H.size q.1 := fun k q hq h => by
    have hk1 := (List.getElem?_eq_some_iff.mp hq).1
    have hlt := (hP k q (inr k q hq)).lt
    rcases h with ⟨j, e1, hj⟩ | h
    · have hz : j < 1 := (List.getElem?_eq_some_iff.mp hj).1
      rw [show j = 0 by omega] at hj
      have hj2 : (a, e0) = (q.1, e1) := by simpa using hj
      have h3 : a = q.1 := congrArg Prod.fst hj2
      have := hD.1 k wr.length q (a, e0) (inr k q hq) ha h3.symm
      omega
    · omega
  refine va_callv (hrun hPa hDa) hS (fun q _ h => hF q h) hF (fun f t H1 locs1 ht hvm hw hB hz1 hk1 hS1 => ?_)
  obtain ⟨hP1, hD1⟩ := hB
  rw [ht] at hP1
  refine kk f H1 locs1 (va_P.app (fun k q hq => ?_) hP1) (va_D.apq ⟨fun i j x y hi hj => hD.1 i j x y (inr i x hi) (inr j y hj), fun k q hq => hD.2 k q (inr k q hq)⟩ hD1 out hF) hS1
  exact (hP k q (inr k q hq)).kept (hk1 _ ((hP k q (inr k q hq)).lt) (out k q hq))
/-- the words of a constructor's call -/
theorem w_cw {R : Room} {s : State} {args : Array Value} {own : String} {idx n : Nat} {ν : Md} {Rν : Rmk} (hts : ∀ w ∈ UW, w.before args s = true) (hν : MdOK ν) (hi : Cond.instanceMethod (mn ν) ∈ UW) (hl : Cond.methodLink own idx (mn ν) ∈ UW) (hnm : (mn ν).name = "<init>") (hrt : rt ν = none) (hn : (parseMethodDescriptor (mn ν).desc).map (fun d => d.parameters.length) = some n) (hR : Rν.1 + 1 ≤ R.frames ∧ 8 + (mL ν + 11) + Rν.2.2.2 ≤ R.locals) : CallB R s args own idx (mn ν) (cd ν) (mL ν) none (wsq ν) (rmk Rν) Rν.2.1 Rν.2.2.1 n ∧ (mn ν).name = "<init>" ∧ (Cond.instanceMethod (mn ν)).before args s = true := by
  have hg : ∀ w ∈ wsq ν, w ∈ UW ∧ ((w.onTables && w.keeps) = true ∨ ∃ ty, w = .arrayClass ty) := fun w hw => by
    rcases List.mem_cons.mp hw with e | hw
    · subst e; exact ⟨hν.1, uw_good _ hν.1⟩
    · exact ⟨hw, uw_good _ hw⟩
  have hB : CallB R s args own idx (mn ν) (cd ν) (mL ν) (rt ν) (wsq ν) (rmk Rν) Rν.2.1 Rν.2.2.1 n := by
    refine ⟨rfl, rfl, hR.1, hR.2, pay_in hts hg, List.mem_cons_self, hts _ hν.1, hts _ hν.2.1, hν.2.2.1, fun sig h => ?_, hts _ hl⟩
    rw [h] at hn
    exact (Option.some.inj hn).symm
  rw [hrt] at hB
  exact ⟨hB, hnm, hts _ hi⟩
theorem w_pre {s : State} {H : Heap} {G : Gq} {av : List Value} {w0 : va_W} (hP : va_P G.1 vwCl w0 H) (hD : va_D (fun _ => True) w0) (hK : va_K G.1 vwCl (tyq G) s) (hN : NL s) : PreS s H (va_Pc av (fun U => U.heap.size = H.size ∧ va_P G.1 vwCl w0 U.heap ∧ va_K G.1 vwCl (tyq G) U ∧ va_D (fun _ => True) w0 ∧ NL U)) av := by
  refine ⟨fun a U g mk q => ?_, fun U hU hW => ⟨rfl, by rw [hU], by rw [hU]; exact hP, va_K.moved hW.alike hK, hD, hN.warm hW⟩⟩
  obtain ⟨q0, q1, qP, qK, qD, qN⟩ := q
  exact ⟨q0, q1, qP, va_K.moved (u := U) (U := U.calling g mk a) (Vm.Alike.refl U.vm) qK, qD, qN.same rfl⟩
set_option maxHeartbeats 4000000 in
set_option maxRecDepth 100000 in
/-- from the entry, for every script of at most 260 ints, the law comes to its end with true -/
theorem whole_start {p : Program} {e : Env} {s : State} {m : MethodId} {below : List Frame} {meth : Method} {c : Code} (l : Launch) (hflags : l.flags = flags0) {b L : Nat} {xs : Nat → Int32} (hL : L ≤ 260) (C0 : lw_At p s m meth c b L xs) : W p l e room_1 s m #[Value.ref b] below meth c s.heap [] 0 0 (lw_Z below #[Value.ref b] s) (entryFrame m ([Value.ref b] : List Value).toArray 6) := by
  obtain ⟨hx, hb, hr, hml, hown, hts, hX, hbl, hlocks, hgv⟩ := C0
  have hA : ∀ q : Nat, s.heap.size ≤ q → (fun q : Nat => s.heap.size ≤ q) q := fun _ h => h
  have hu := uw_tbl hts
  have hN := start_NL hts
  obtain ⟨D, cA, hKx⟩ := start_K hts
  obtain ⟨x, hE⟩ := start_X hts hgv
  have hKd : va_K D vwCl (tyD ((D, x, cA) : Gq)) s := hKx x
  have hK : va_K D vwCl (tyq ((D, x, cA) : Gq)) s := hKd.sub [0, 1, 2, 3] rfl
  have hS : va_S (fun q : Nat => s.heap.size ≤ q) s.heap s.heap [] := va_S.rf
  have hP : va_P D vwCl [] s.heap := fun k q h => by simp at h
  have hD : va_D (fun q : Nat => s.heap.size ≤ q) [] := ⟨fun i j p q h => by simp at h, fun k q h => by simp at h⟩
  have hl := lv_entry ([.ref b]) (n := 6) (Nat.le_of_ble_eq_true rfl)
  rw [lg_entry_eq]
  generalize (lg_sl ([.ref b]) ++ List.replicate (6 - (lg_sl ([.ref b])).length) Slot.unset).toArray = ls at hl ⊢
  have hl : lv_has ls 6 [(0, .ref b)] := hl
  refine va_new (ci := 10) (fs := [.null, .null, .null, .null, .null, .null, .null, .null, .null, .null, .null]) (C := RX10) (T := TX10) (N := 11) hx hb hu cw_10 tyX10 tyX10_ok hown (hu _ (qm_1 (i := 52) rfl rfl)) (hu _ (qm_1 (i := 53) rfl rfl)) (hu _ (qm_1 (i := 1) rfl rfl)) hK hP hD hS hA rfl (fun j hj => hf_X10 j hj) (Nat.le_of_ble_eq_true rfl) (Nat.le_of_ble_eq_true rfl) (show decode code 0 = .ok (.new 19, 3) by decide +kernel) (fun q0 H hP hD hS => ?_)
  refine lv_dup hx hb (show decode code 3 = .ok (.dup, 1) by decide +kernel) rfl ?_
  refine w_ctor (G := (D, x, cA)) (Rν := (3, 37, 3282, 53)) (As := []) (a := q0) (wr := []) (st := [.ref q0]) (w1 := w1_Cs (D, x, cA) q0) hP hD hS hA (fun hPa hDa => va_runI (As := []) (rest := [.ref q0]) (own := R_law) (n := 0) (index := 198) ⟨hx, hb, hml, hown, hu⟩ (kc_Cs (D, x, cA) q0 _ l) (w_cw (ν := M_Cs_init) (Rν := (3, 37, 3282, 53)) hu ok_M_Cs_init okv_M_Cs_init (qm_1 (i := 54) rfl rfl) rfl rfl np_M_Cs_init (by decide)) (w_pre hPa hDa hK hN) rfl rfl hl.1 rfl (lv_room (Nat.le_of_ble_eq_true rfl)) (show decode code 4 = .ok (.invokespecial 198, 3) by decide +kernel) ⟨Nat.le_of_ble_eq_true rfl, Nat.le_of_ble_eq_true rfl⟩) (fun f H locs hP hD hS => ?_)
  refine lv_astore_n (lv' := [(1, .ref q0), (0, .ref b)]) hx hb (show decode code 7 = .ok (.astore_n 1, 1) by decide +kernel) rfl hl (by decide) rfl (fun ls hl => ?_)
  have hP : va_P D vwCl (w1_Cs (Gz D cA q0 f x) q0 f) H := hP
  have hD : va_D (fun q : Nat => s.heap.size ≤ q) (w1_Cs (Gz D cA q0 f x) q0 f) := hD
  have hEG : EdD (Gz D cA q0 f x) (An s) s s.heap := hE _ (fun k hk => by
    show adq q0 f x k = x k
    unfold adq
    rw [if_pos (by omega)])
  have hinj : ∀ i j, i < xN → j < xN → xa (Gz D cA q0 f x) i = xa (Gz D cA q0 f x) j → i = j := fun i j hi hj e => Xat_inj (hu _ (qm_6 (i := 9) rfl rfl)) (hu _ (qm_4 (i := 187) rfl rfl)) hEG.1.2.1 hi hj e
  have hW : va_P (Gz D cA q0 f x).1 vwCl (wld2 (Gz D cA q0 f x) (W0 (Gz D cA q0 f x))) H := by
    rw [W0_P]
    exact fun k q hq => by
      obtain ⟨hk, rfl⟩ := wld_of hq
      exact hP (pmq k) _ (wl_all k hk)
  have hWD : va_D (fun q : Nat => s.heap.size ≤ q) (wld2 (Gz D cA q0 f x) (W0 (Gz D cA q0 f x))) := by
    rw [W0_P]
    exact wld_D (fun i j hi hj e => pmq_inj i hi j hj (hD.1 (pmq i) (pmq j) _ _ (wl_all i hi) (wl_all j hj) e)) (fun k hk => hD.2 (pmq k) _ (wl_all k hk))
  have hCx : CxD (M_Cl_law meth.name) (Gz D cA q0 f x) (fun q : Nat => s.heap.size ≤ q) p s m #[Value.ref b] meth c := ⟨hx, hb, hml, hr, hlocks, hown, hu, hKx _, hA, rfl, hEG⟩
  refine lw_wz (G := Gz D cA q0 f x) (ls := [(0, vA b), (1, vR 0)]) (st := []) (y_l8 (rc := 361000) (rs := 2417000) (by omega) (by rw [W0_S]; exact CR_0) (by rw [W0_S]; exact FC_0) (fun _ => rfl) (Nat.le_refl _) (Nat.le_refl _)) W0_wf (W0_x hinj) ?_ ?_ hCx hX hbl (by decide) (by decide) hW hWD hS (lv_sub hl [1, 0] rfl)
  · intro q hq
    rcases List.mem_cons.mp hq with e | hq
    · subst e; exact okA
    · rw [List.mem_singleton.mp hq]; exact trivial
  · intro v hv
    exact absurd hv List.not_mem_nil
