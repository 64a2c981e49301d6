-- the law's end, out of what the walk says of it
/-- what is written into new cells alone is not written into any that was there -/
theorem same_forget {s t : State} {L : List Loc} {k n : Nat} (h : s.sameButNew t L k n) (hL : ∀ q ∈ L, s.heap.size ≤ q.base) : s.sameButNew t [] k n := by
  obtain ⟨h1, h2, h3, h4, h5, h6⟩ := h
  refine ⟨h1, h2, h3, h4, h5, fun a c hc => ?_⟩
  obtain ⟨c', g1, g2, g3, g4⟩ := h6 a c hc
  refine ⟨c', g1, g2, g3, fun i _ => g4 i (fun hm => ?_)⟩
  have hlt := (Array.getElem?_eq_some_iff.mp hc).1
  have : s.heap.size ≤ a := hL _ hm
  omega
theorem lw_of {p : Program} {l : Launch} {e : Env} {s : State} {m : MethodId} {b : Nat} {below : List Frame} {meth : Method} {c : Code} {H : Heap} {locs : List Loc} {cs ss : Nat} {g : JFrame} {G : Gq} {w0 : Wd} (h : W p l e room_1 s m #[Value.ref b] below meth c H locs cs ss (MQ below (QoD G (fun q : Nat => s.heap.size ≤ q) w0 (yI (fun v _ => v = 1))) #[Value.ref b] s 601864 7296656 (fun q : Nat => s.heap.size ≤ q)) g) : W p l e room_1 s m #[Value.ref b] below meth c H locs cs ss (lw_Z below #[Value.ref b] s) g := by
  intro T hT X
  obtain ⟨t, st, o, hrun, hend, ⟨⟨r, w', ho, _, _, _, _, ⟨v, hr, hv⟩, _, _⟩, _⟩, L, ⟨hv', hW, hs⟩, hL⟩ := h T hT X
  subst hr hv
  exact ⟨t, st, o, hrun, hend, ho, lw_closed (Drawn.sameBut.refl s.drawn lw_cs) hv' hW (same_forget hs hL)⟩
/-- where the script is read: the law's own place -/
theorem lw_wz {nm : String} {p : Program} {l : Launch} {e : Env} {s : State} {m : MethodId} {b L : Nat} {xs : Nat → Int32} {below : List Frame} {meth : Method} {c : Code} {H : Heap} {locs : List Loc} {cs ss pc rc rs : Nat} {ls : List (Nat × Vq)} {st : List Vq} {lsA : Array Slot} {G : Gq} {w : Wd} (h : WZ b L xs G (M_Cl_law nm) pc ls st w rc rs (yI (fun v _ => v = 1))) (hw : WFd w) (hx : XOK G w) (hls : okl ls) (hst : oks st) (C : CxD (M_Cl_law nm) G (fun q : Nat => s.heap.size ≤ q) p s m #[Value.ref b] meth c) (hX : va_X b L xs s s.heap) (hb : b < s.heap.size) (hc : cs + rc ≤ 601864) (hs : ss + rs ≤ 7296656) (hP : va_P G.1 vwCl (wld2 G w) H) (hD : va_D (fun q : Nat => s.heap.size ≤ q) (wld2 G w)) (hS : va_S (fun q : Nat => s.heap.size ≤ q) s.heap H locs) (hL : lv_has lsA (mL (M_Cl_law nm)) (asq G ls)) : W p l e room_1 s m #[Value.ref b] below meth c H locs cs ss (lw_Z below #[Value.ref b] s) (F0 m pc lsA (st.map (cv G))) :=
  lw_of (h hw hx hls hst w Gw.rf (fun q : Nat => s.heap.size ≤ q) 601864 7296656 p l e s m #[Value.ref b] below meth c C ⟨hX, hb, Nat.not_le.mpr hb⟩ H locs lsA cs ss hc hs hP hD hS hL)
