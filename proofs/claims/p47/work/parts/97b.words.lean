-- the start: the words of the tables, the classes (printed by wip/gen/gen_st47.py)
theorem tq_1 {w : Cond} {i : Nat} (h : tables_1_1[i]? = some w) : w ∈ lw_tbl := List.mem_append_right _ (List.mem_append_left _ (List.mem_of_getElem? h))
theorem tq_2 {w : Cond} {i : Nat} (h : tables_1_2[i]? = some w) : w ∈ lw_tbl := List.mem_append_right _ (List.mem_append_right _ (List.mem_append_left _ (List.mem_of_getElem? h)))
theorem tq_3 {w : Cond} {i : Nat} (h : tables_1_3[i]? = some w) : w ∈ lw_tbl := List.mem_append_right _ (List.mem_append_right _ (List.mem_append_right _ (List.mem_append_left _ (List.mem_of_getElem? h))))
theorem tq_4 {w : Cond} {i : Nat} (h : tables_1_4[i]? = some w) : w ∈ lw_tbl := List.mem_append_right _ (List.mem_append_right _ (List.mem_append_right _ (List.mem_append_right _ (List.mem_append_left _ (List.mem_of_getElem? h)))))
theorem tq_5 {w : Cond} {i : Nat} (h : tables_1_5[i]? = some w) : w ∈ lw_tbl := List.mem_append_right _ (List.mem_append_right _ (List.mem_append_right _ (List.mem_append_right _ (List.mem_append_right _ (List.mem_append_left _ (List.mem_of_getElem? h))))))
theorem tq_6 {w : Cond} {i : Nat} (h : tables_1_6[i]? = some w) : w ∈ lw_tbl := List.mem_append_right _ (List.mem_append_right _ (List.mem_append_right _ (List.mem_append_right _ (List.mem_append_right _ (List.mem_append_right _ (List.mem_append_left _ (List.mem_of_getElem? h)))))))
theorem tq_7 {w : Cond} {i : Nat} (h : tables_1_7[i]? = some w) : w ∈ lw_tbl := List.mem_append_right _ (List.mem_append_right _ (List.mem_append_right _ (List.mem_append_right _ (List.mem_append_right _ (List.mem_append_right _ (List.mem_append_right _ (List.mem_append_left _ (List.mem_of_getElem? h))))))))
theorem tq_8 {w : Cond} {i : Nat} (h : tables_1_8[i]? = some w) : w ∈ lw_tbl := List.mem_append_right _ (List.mem_append_right _ (List.mem_append_right _ (List.mem_append_right _ (List.mem_append_right _ (List.mem_append_right _ (List.mem_append_right _ (List.mem_append_right _ (List.mem_append_left _ (List.mem_of_getElem? h)))))))))
theorem tq_9 {w : Cond} {i : Nat} (h : tables_1_9[i]? = some w) : w ∈ lw_tbl := List.mem_append_right _ (List.mem_append_right _ (List.mem_append_right _ (List.mem_append_right _ (List.mem_append_right _ (List.mem_append_right _ (List.mem_append_right _ (List.mem_append_right _ (List.mem_append_right _ (List.mem_append_left _ (List.mem_of_getElem? h))))))))))
theorem tq_10 {w : Cond} {i : Nat} (h : tables_1_10[i]? = some w) : w ∈ lw_tbl := List.mem_append_right _ (List.mem_append_right _ (List.mem_append_right _ (List.mem_append_right _ (List.mem_append_right _ (List.mem_append_right _ (List.mem_append_right _ (List.mem_append_right _ (List.mem_append_right _ (List.mem_append_right _ (List.mem_of_getElem? h))))))))))
theorem uw_tbl {args : Array Value} {s : State} (hts : ∀ w ∈ lw_tbl, w.before args s = true) : ∀ w ∈ UW, w.before args s = true := fun w hw => hts w (List.mem_filter.mp hw).1
theorem start_NL {args : Array Value} {s : State} (hts : ∀ w ∈ lw_tbl, w.before args s = true) : NL s := fun q hq => by
  have h : ∀ k : Nat, k < 6 → ∀ q, nlq[k]? = some q → va_Nw (.methodLinkNest q.1 q.2.1 q.2.2.1 q.2.2.2) s := fun k hk q hq => by
    match k, hk with
    | 0, _ => cases hq; exact va_Nw.of rfl (hts _ (tq_1 (i := 62) rfl))
    | 1, _ => cases hq; exact va_Nw.of rfl (hts _ (tq_1 (i := 77) rfl))
    | 2, _ => cases hq; exact va_Nw.of rfl (hts _ (tq_1 (i := 115) rfl))
    | 3, _ => cases hq; exact va_Nw.of rfl (hts _ (tq_1 (i := 140) rfl))
    | 4, _ => cases hq; exact va_Nw.of rfl (hts _ (tq_1 (i := 221) rfl))
    | 5, _ => cases hq; exact va_Nw.of rfl (hts _ (tq_2 (i := 64) rfl))
    | k + 6, h => omega
  obtain ⟨k, hk⟩ := List.mem_iff_getElem?.mp hq
  exact h k (List.getElem?_eq_some_iff.mp hk).1 q hk
theorem start_A {args : Array Value} {s : State} {ty : FieldType} (h : (Cond.arrayClass ty).before args s = true) : ∃ cA : ClassId, ArrOfT s cA ty ∧ s.vm.findClass ("[" ++ ty.toString) = some cA := by
  obtain ⟨cA, kA, comp, h1, h2, h3⟩ := Cond.arrayClass_spec h
  exact ⟨cA, fun N z => ⟨(fun k h => by cases h), kA, h2, comp, h3⟩, h1⟩
theorem start_O {args : Array Value} {s : State} {C : String} (h : (Cond.arrayOver (.object C)).before args s = true) : ∃ cA : ClassId, ArrOfT s cA (.object C) ∧ va_RA s cA (.object C) := by
  obtain ⟨comp, cA, kA, h1, h2, h3, h4, h5⟩ := Cond.arrayOver_spec h
  exact ⟨cA, fun N z => ⟨(fun k h => by cases h), kA, h3, comp, h4⟩, kA, comp, h3, h4, h1, h5⟩
theorem start_AA {args : Array Value} {s : State} {t : FieldType} (h : (Cond.arrayOver (.array t)).before args s = true) : ∃ cA : ClassId, ArrOfT s cA (.array t) ∧ va_RA s cA (.array t) := by
  obtain ⟨comp, cA, kA, h1, h3, h4, h5⟩ := Cond.arrayOver_specA h
  exact ⟨cA, fun N z => ⟨(fun k h => by cases h), kA, h3, comp, h4⟩, h5⟩
theorem start_K {args : Array Value} {s : State} (hts : ∀ w ∈ lw_tbl, w.before args s = true) : ∃ (D : va_G) (cA : Nat → ClassId), ∀ x : Nat → Nat, va_K D vwCl (tyD (D, x, cA)) s := by
  have hu := uw_tbl hts
  have hcl : ∀ k : Nat, ∃ x : ClassId × (Nat → Nat), ∀ q, vwCl[k]? = some q → u_Kn s q.1 q.2.1 q.2.2 x.1 x.2 := by
    intro k
    match k with
    | 0 =>
      obtain ⟨c0, i0, h⟩ := u_known (C := RX0) (T := TX0) (N := 12) (n := 12) hu cw_0 (hu _ (qm_1 (i := 236) rfl rfl))
      exact ⟨(c0, i0), fun q hq => by cases hq; exact h⟩
    | 1 =>
      obtain ⟨c0, i0, h⟩ := u_known (C := RX1) (T := TX1) (N := 3) (n := 3) hu cw_1 (hu _ (qm_1 (i := 220) rfl rfl))
      exact ⟨(c0, i0), fun q hq => by cases hq; exact h⟩
    | 2 =>
      obtain ⟨c0, i0, h⟩ := u_known (C := RX2) (T := TX2) (N := 6) (n := 6) hu cw_2 (hu _ (qm_1 (i := 150) rfl rfl))
      exact ⟨(c0, i0), fun q hq => by cases hq; exact h⟩
    | 3 =>
      obtain ⟨c0, i0, h⟩ := u_known (C := RX3) (T := TX3) (N := 5) (n := 5) hu cw_3 (hu _ (qm_1 (i := 76) rfl rfl))
      exact ⟨(c0, i0), fun q hq => by cases hq; exact h⟩
    | 4 =>
      obtain ⟨c0, i0, h⟩ := u_known (C := RX4) (T := TX4) (N := 2) (n := 2) hu cw_4 (hu _ (qm_2 (i := 63) rfl rfl))
      exact ⟨(c0, i0), fun q hq => by cases hq; exact h⟩
    | 5 =>
      obtain ⟨c0, i0, h⟩ := u_known (C := RX5) (T := TX5) (N := 6) (n := 6) hu cw_5 (hu _ (qm_1 (i := 109) rfl rfl))
      exact ⟨(c0, i0), fun q hq => by cases hq; exact h⟩
    | 6 =>
      obtain ⟨c0, i0, h⟩ := u_known (C := RX6) (T := TX6) (N := 5) (n := 5) hu cw_6 (hu _ (qm_2 (i := 41) rfl rfl))
      exact ⟨(c0, i0), fun q hq => by cases hq; exact h⟩
    | 7 =>
      obtain ⟨c0, i0, h⟩ := u_known (C := RX7) (T := TX7) (N := 2) (n := 2) hu cw_7 (hu _ (qm_1 (i := 61) rfl rfl))
      exact ⟨(c0, i0), fun q hq => by cases hq; exact h⟩
    | 8 =>
      obtain ⟨c0, i0, h⟩ := u_known (C := RX8) (T := TX8) (N := 1) (n := 1) hu cw_8 (hu _ (qm_1 (i := 139) rfl rfl))
      exact ⟨(c0, i0), fun q hq => by cases hq; exact h⟩
    | 9 =>
      obtain ⟨c0, i0, h⟩ := u_known (C := RX9) (T := TX9) (N := 8) (n := 8) hu cw_9 (hu _ (qm_1 (i := 181) rfl rfl))
      exact ⟨(c0, i0), fun q hq => by cases hq; exact h⟩
    | 10 =>
      obtain ⟨c0, i0, h⟩ := u_known (C := RX10) (T := TX10) (N := 11) (n := 11) hu cw_10 (hu _ (qm_1 (i := 53) rfl rfl))
      exact ⟨(c0, i0), fun q hq => by cases hq; exact h⟩
    | 11 =>
      obtain ⟨c0, i0, h⟩ := u_known (C := RX11) (T := TX11) (N := 7) (n := 7) hu cw_11 (hu _ (qm_2 (i := 120) rfl rfl))
      exact ⟨(c0, i0), fun q hq => by cases hq; exact h⟩
    | 12 =>
      obtain ⟨c0, i0, h⟩ := u_known (C := RX12) (T := TX12) (N := 3) (n := 3) hu cw_12 (hu _ (qm_3 (i := 78) rfl rfl))
      exact ⟨(c0, i0), fun q hq => by cases hq; exact h⟩
    | 13 =>
      obtain ⟨c0, i0, h⟩ := u_known (C := RX13) (T := TX13) (N := 4) (n := 4) hu cw_13 (hu _ (qm_4 (i := 146) rfl rfl))
      exact ⟨(c0, i0), fun q hq => by cases hq; exact h⟩
    | 14 =>
      obtain ⟨c0, i0, h⟩ := u_known (C := RJx4a65c) (T := TJx4a65c) (N := 3) (n := 3) hu cw_14 (hu _ (qm_2 (i := 126) rfl rfl))
      exact ⟨(c0, i0), fun q hq => by cases hq; exact h⟩
    | 15 =>
      obtain ⟨c0, i0, h⟩ := u_known (C := RJx35411) (T := TJx35411) (N := 4) (n := 4) hu cw_15 (hu _ (qm_2 (i := 203) rfl rfl))
      exact ⟨(c0, i0), fun q hq => by cases hq; exact h⟩
    | 16 =>
      obtain ⟨c0, i0, h⟩ := u_known (C := RJ6) (T := TJ6) (N := 1) (n := 1) hu cw_16 (hu _ (qm_6 (i := 9) rfl rfl))
      exact ⟨(c0, i0), fun q hq => by cases hq; exact h⟩
    | 17 =>
      obtain ⟨c0, i0, h⟩ := u_known (C := RJ4) (T := TJ4) (N := 4) (n := 4) hu cw_17 (hu _ (qm_3 (i := 189) rfl rfl))
      exact ⟨(c0, i0), fun q hq => by cases hq; exact h⟩
    | 18 =>
      obtain ⟨c0, i0, h⟩ := u_known (C := RJ0) (T := TJ0) (N := 4) (n := 4) hu cw_18 (hu _ (qm_4 (i := 187) rfl rfl))
      exact ⟨(c0, i0), fun q hq => by cases hq; exact h⟩
    | 19 =>
      obtain ⟨c0, i0, h⟩ := u_known (C := RX29) (T := TX29) (N := 1) (n := 1) hu cw_19 (hu _ (qm_6 (i := 114) rfl rfl))
      exact ⟨(c0, i0), fun q hq => by cases hq; exact h⟩
    | 20 =>
      obtain ⟨c0, i0, h⟩ := u_known (C := RX28) (T := TX28) (N := 12) (n := 12) hu cw_20 (hu _ (qm_6 (i := 127) rfl rfl))
      exact ⟨(c0, i0), fun q hq => by cases hq; exact h⟩
    | 21 =>
      obtain ⟨c0, i0, h⟩ := u_known (C := RX24) (T := TX24) (N := 6) (n := 6) hu cw_21 (hu _ (qm_7 (i := 141) rfl rfl))
      exact ⟨(c0, i0), fun q hq => by cases hq; exact h⟩
    | 22 =>
      obtain ⟨c0, i0, h⟩ := u_known (C := RX27) (T := TX27) (N := 2) (n := 2) hu cw_22 (hu _ (qm_9 (i := 72) rfl rfl))
      exact ⟨(c0, i0), fun q hq => by cases hq; exact h⟩
    | 23 =>
      obtain ⟨c0, i0, h⟩ := u_known (C := RX26) (T := TX26) (N := 5) (n := 5) hu cw_23 (hu _ (qm_9 (i := 128) rfl rfl))
      exact ⟨(c0, i0), fun q hq => by cases hq; exact h⟩
    | k + 24 => exact ⟨(0, fun _ => 0), fun q hq => by simp [vwCl] at hq⟩
  obtain ⟨dd, hdd⟩ := Classical.axiomOfChoice hcl
  obtain ⟨c0, a0, b0⟩ := start_A (hu _ (qm_1 (i := 107) rfl rfl))
  obtain ⟨c1, a1, b1⟩ := start_A (hu _ (qm_1 (i := 74) rfl rfl))
  obtain ⟨c2, a2, b2⟩ := start_A (hu _ (qm_2 (i := 61) rfl rfl))
  obtain ⟨c3, a3, b3⟩ := start_A (hu _ (qm_2 (i := 76) rfl rfl))
  obtain ⟨c4, a4, b4⟩ := start_O (hts _ (tq_3 (i := 162) rfl))
  obtain ⟨c5, a5, b5⟩ := start_O (hts _ (tq_7 (i := 123) rfl))
  obtain ⟨c6, a6, b6⟩ := start_AA (hts _ (tq_6 (i := 112) rfl))
  refine ⟨(fun k => (dd k).1, fun k => (dd k).2), fun t => if t = 0 then c0 else if t = 1 then c1 else if t = 2 then c2 else if t = 3 then c3 else if t = 4 then c4 else if t = 5 then c5 else c6, fun x => ⟨fun c q hq => hdd c q hq, fun k q hq => ?_⟩⟩
  match k, hq with
  | 0, hq => cases hq; exact ⟨a0, b0⟩
  | 1, hq => cases hq; exact ⟨a1, b1⟩
  | 2, hq => cases hq; exact ⟨a2, b2⟩
  | 3, hq => cases hq; exact ⟨a3, b3⟩
  | 4, hq => cases hq; exact ⟨a4, b4⟩
  | 5, hq => cases hq; exact ⟨a5, b5⟩
  | 6, hq => cases hq; exact ⟨a6, b6⟩
  | k + 7, hq => simp [tyD, tyq] at hq
/-- the words that stay -/
theorem start_W {args : Array Value} {s : State} (hts : ∀ w ∈ lw_tbl, w.before args s = true) : (∀ q ∈ nwq, va_Nw q s) ∧ (∀ q ∈ fwq, va_Fw q.1 q.2.1 q.2.2 s) ∧ (∀ q ∈ aoq, va_AO q s) ∧ aoA s := by
  refine ⟨fun q hq => ?_, fun q hq => ?_, fun q hq => ?_, (hts _ (tq_6 (i := 112) rfl) : (Cond.arrayOver (.array .int)).before args s = true)⟩
  · unfold nwq at hq
    simp only [List.mem_cons, List.mem_nil_iff, or_false] at hq
    rcases hq with rfl | rfl | rfl | rfl | rfl | rfl | rfl | rfl | rfl | rfl | rfl | rfl | rfl | rfl | rfl | rfl | rfl | rfl | rfl | rfl | rfl | rfl | rfl | rfl | rfl | rfl | rfl | rfl | rfl | rfl | rfl | rfl | rfl | rfl | rfl | rfl | rfl | rfl | rfl | rfl | rfl | rfl | rfl
    · exact va_Nw.of rfl (hts _ (tq_10 (i := 188) rfl))
    · exact va_Nw.of rfl (hts _ (tq_10 (i := 203) rfl))
    · exact va_Nw.of rfl (hts _ (tq_10 (i := 206) rfl))
    · exact va_Nw.of rfl (hts _ (tq_10 (i := 217) rfl))
    · exact va_Nw.of rfl (hts _ (tq_9 (i := 121) rfl))
    · exact va_Nw.of rfl (hts _ (tq_2 (i := 225) rfl))
    · exact va_Nw.of rfl (hts _ (tq_2 (i := 237) rfl))
    · exact va_Nw.of rfl (hts _ (tq_4 (i := 24) rfl))
    · exact va_Nw.of rfl (hts _ (tq_1 (i := 62) rfl))
    · exact va_Nw.of rfl (hts _ (tq_1 (i := 77) rfl))
    · exact va_Nw.of rfl (hts _ (tq_1 (i := 115) rfl))
    · exact va_Nw.of rfl (hts _ (tq_1 (i := 140) rfl))
    · exact va_Nw.of rfl (hts _ (tq_1 (i := 221) rfl))
    · exact va_Nw.of rfl (hts _ (tq_2 (i := 64) rfl))
    · exact va_Nw.of rfl (hts _ (tq_2 (i := 121) rfl))
    · exact va_Nw.of rfl (hts _ (tq_2 (i := 141) rfl))
    · exact va_Nw.of rfl (hts _ (tq_2 (i := 224) rfl))
    · exact va_Nw.of rfl (hts _ (tq_3 (i := 6) rfl))
    · exact va_Nw.of rfl (hts _ (tq_3 (i := 23) rfl))
    · exact va_Nw.of rfl (hts _ (tq_3 (i := 34) rfl))
    · exact va_Nw.of rfl (hts _ (tq_3 (i := 40) rfl))
    · exact va_Nw.of rfl (hts _ (tq_4 (i := 3) rfl))
    · exact va_Nw.of rfl (hts _ (tq_4 (i := 7) rfl))
    · exact va_Nw.of rfl (hts _ (tq_4 (i := 11) rfl))
    · exact va_Nw.of rfl (hts _ (tq_4 (i := 67) rfl))
    · exact va_Nw.of rfl (hts _ (tq_4 (i := 71) rfl))
    · exact va_Nw.of rfl (hts _ (tq_4 (i := 76) rfl))
    · exact va_Nw.of rfl (hts _ (tq_4 (i := 147) rfl))
    · exact va_Nw.of rfl (hts _ (tq_6 (i := 33) rfl))
    · exact va_Nw.of rfl (hts _ (tq_7 (i := 20) rfl))
    · exact va_Nw.of rfl (hts _ (tq_7 (i := 34) rfl))
    · exact va_Nw.of rfl (hts _ (tq_7 (i := 79) rfl))
    · exact va_Nw.of rfl (hts _ (tq_7 (i := 194) rfl))
    · exact va_Nw.of rfl (hts _ (tq_7 (i := 211) rfl))
    · exact va_Nw.of rfl (hts _ (tq_8 (i := 184) rfl))
    · exact va_Nw.of rfl (hts _ (tq_8 (i := 234) rfl))
    · exact va_Nw.of rfl (hts _ (tq_9 (i := 6) rfl))
    · exact va_Nw.of rfl (hts _ (tq_9 (i := 14) rfl))
    · exact va_Nw.of rfl (hts _ (tq_9 (i := 25) rfl))
    · exact va_Nw.of rfl (hts _ (tq_9 (i := 57) rfl))
    · exact va_Nw.of rfl (hts _ (tq_9 (i := 85) rfl))
    · exact va_Nw.of rfl (hts _ (tq_9 (i := 89) rfl))
    · exact va_Nw.of rfl (hts _ (tq_10 (i := 221) rfl))
  · unfold fwq at hq
    simp only [List.mem_cons, List.mem_nil_iff, or_false] at hq
    rcases hq with rfl | rfl | rfl | rfl | rfl
    · exact va_Fw.of (hts _ (tq_2 (i := 224) rfl)) (hts _ (tq_2 (i := 223) rfl)) (hts _ (tq_2 (i := 229) rfl)) (hts _ (tq_2 (i := 227) rfl)) (hts _ (tq_2 (i := 225) rfl))
    · exact va_Fw.of (hts _ (tq_3 (i := 6) rfl)) (hts _ (tq_3 (i := 5) rfl)) (hts _ (tq_3 (i := 10) rfl)) (hts _ (tq_3 (i := 8) rfl)) (hts _ (tq_2 (i := 225) rfl))
    · exact va_Fw.of (hts _ (tq_2 (i := 224) rfl)) (hts _ (tq_2 (i := 223) rfl)) (hts _ (tq_3 (i := 1) rfl)) (hts _ (tq_2 (i := 239) rfl)) (hts _ (tq_2 (i := 237) rfl))
    · exact va_Fw.of (hts _ (tq_3 (i := 6) rfl)) (hts _ (tq_3 (i := 5) rfl)) (hts _ (tq_3 (i := 30) rfl)) (hts _ (tq_3 (i := 28) rfl)) (hts _ (tq_2 (i := 237) rfl))
    · exact va_Fw.of (hts _ (tq_9 (i := 89) rfl)) (hts _ (tq_9 (i := 88) rfl)) (hts _ (tq_9 (i := 125) rfl)) (hts _ (tq_9 (i := 123) rfl)) (hts _ (tq_9 (i := 121) rfl))
  · unfold aoq at hq
    simp only [List.mem_cons, List.mem_nil_iff, or_false] at hq
    rcases hq with rfl | rfl
    · exact va_AO.of (hts _ (tq_3 (i := 162) rfl))
    · exact va_AO.of (hts _ (tq_7 (i := 123) rfl))
