-- a ledger drawn as a text
def LT (T : St) : Prop := OKL T ∧ AC T ∧ UK T ∧ SB T
/-- the kept row, if there is one -/
def OQ (w : Wd) (o : Option Nat) (N : Nat) : Prop := ∀ r, o = some r → Ow w r (kA 0 N)
theorem OQ.kp {w w' : Wd} {S : List Nat} {o : Option Nat} {N : Nat} (h : OQ w o N) (hk : Kp S w w') : OQ w' o N := fun r e => (h r e).kp hk
def DBk (G : Gq) (w0 W : Wd) (A T : St) (B : Bks) (M : Int) (y z ns : Nat) (fz : Int → Int) (row : Option Nat) (N d : Nat) : Prop :=
  IB G W (txA A T) B M y z ns fz ∧ wS W = wS w0 ∧ (wR W d 5 = row ∧ OQ W row N) ∧ (∀ a, a ∈ wL w0 → a ∈ wL W) ∧ bD B = d ∧ wR w0 d 2 = some (bT B)
def QB (G : Gq) (W : Wd) (b v cap : Nat) (X : Txt) : Prop := SQ W b v cap X ∧ (∀ i, i < xN → v ≠ xa G i) ∧ cap ≤ 1800
/-- an item that isn't in the books yet -/
def NI (W : Wd) (B : Bks) (T : St) (q : Nat) (a vo bo : Int) : Prop := Ow W q (kO 13) ∧ wI W q 0 = a ∧ wI W q 1 = vo ∧ wI W q 2 = bo ∧ wI W q 3 = -1 ∧ ∀ i, 0 ≤ i → i < T 0 0 → bF B i ≠ q
section TXA
variable {A T : St} {j a v b i x : Int}
theorem txA_i {c : Nat} (h : c = 1 ∨ c = 2 ∨ c = 3 ∨ c = 4) : txA A T c j = T c j := by unfold txA; rw [if_pos h]
theorem txA_0 : txA A T 0 0 = T 0 0 := by unfold txA; rw [if_neg (by decide), if_pos rfl, if_pos rfl]
theorem txA_3 : txA A T 0 3 = A 6 4 := by unfold txA; rw [if_neg (by decide), if_pos rfl, if_neg (by decide), if_pos rfl]
theorem txA_6 : txA A T 0 6 = -1 := by unfold txA; rw [if_neg (by decide), if_pos rfl, if_neg (by decide), if_neg (by decide), if_pos rfl]
theorem txA_z (h : j = 1 ∨ j = 2 ∨ j = 4 ∨ j = 5) : txA A T 0 j = 0 := by unfold txA; rw [if_neg (by decide), if_pos rfl, if_neg (by omega), if_neg (by omega), if_neg (by omega), if_pos h]
theorem txA_hi {c : Nat} (h : 5 ≤ c) : txA A T c j = A c j := by unfold txA; rw [if_neg (by omega), if_neg (by omega)]
theorem txA_0j {T' : St} (h : j ≠ 0) : txA A T 0 j = txA A T' 0 j := by
  unfold txA
  have e : ¬ ((0 : Nat) = 1 ∨ (0 : Nat) = 2 ∨ (0 : Nat) = 3 ∨ (0 : Nat) = 4) := by decide
  rw [if_neg e, if_neg e, if_pos rfl, if_pos rfl, if_neg h, if_neg h]
theorem addI_at {c : Nat} (h : c = 1 ∨ c = 2 ∨ c = 3 ∨ c = 4) : addI A a v b c j = if j = A 0 0 then (if c = 1 then a else if c = 2 then v else if c = 3 then b else -1) else A c j := by
  obtain ⟨n1, n2, n3, n4⟩ := addI_nw (A := A) (a := a) (v := v) (b := b)
  by_cases e : j = A 0 0
  · rw [if_pos e, e]
    rcases h with rfl | rfl | rfl | rfl
    · rw [n1]; rfl
    · rw [n2]; rfl
    · rw [n3]; rfl
    · rw [n4]; rfl
  · rw [if_neg e]
    unfold addI
    rw [ups_c (by omega)]
    rcases h with rfl | rfl | rfl | rfl
    · rw [ups_c (by decide), ups_c (by decide), ups_c (by decide), ups_f e]
    · rw [ups_c (by decide), ups_c (by decide), ups_f e, ups_c (by decide)]
    · rw [ups_c (by decide), ups_f e, ups_c (by decide), ups_c (by decide)]
    · rw [ups_f e, ups_c (by decide), ups_c (by decide), ups_c (by decide)]
theorem tx_add : txA A (addI T a v b) = addI (txA A T) a v b := by
  funext c j
  by_cases h : c = 1 ∨ c = 2 ∨ c = 3 ∨ c = 4
  · rw [txA_i h, addI_at h, addI_at h, txA_0, txA_i h]
  by_cases h5 : 5 ≤ c
  · rw [txA_hi h5, addI_hi h5, txA_hi h5]
  have h0 : c = 0 := by omega
  subst h0
  by_cases hj : j = 0
  · subst hj; rw [txA_0, addI_0, addI_0, txA_0]
  · rw [addI_0j hj]; exact txA_0j hj
theorem tx_ups : txA A (ups T 4 i x) = ups (txA A T) 4 i x := by
  funext c j
  by_cases h : c = 4
  · subst h
    rw [txA_i (by decide)]
    by_cases e : j = i
    · subst e; rw [ups_s, ups_s]
    · rw [ups_f e, ups_f e, txA_i (by decide)]
  · rw [ups_c h]
    unfold txA
    by_cases h2 : c = 1 ∨ c = 2 ∨ c = 3 ∨ c = 4
    · rw [if_pos h2, if_pos h2, ups_c h]
    · rw [if_neg h2, if_neg h2, ups_c (by decide)]
theorem plcq_tx : plcq (txA A T) a v = plcq T a v := by
  unfold plcq
  rw [txA_0]
  have e : (fun i => decide (txA A T 1 i = a ∧ txA A T 2 i = v)) = fun i => decide (T 1 i = a ∧ T 2 i = v) := by
    funext i
    rw [txA_i (by decide), txA_i (by decide)]
  rw [e]
theorem plcq_no (hA : 0 ≤ T 0 0) (h : plcq T a v = -1) (i0 : 0 ≤ i) (i1 : i < T 0 0) : ¬ (T 1 i = a ∧ T 2 i = v) := by
  intro hh
  unfold plcq at h
  rcases fI_spec (fun i => decide (T 1 i = a ∧ T 2 i = v)) hA with ⟨_, h2⟩ | ⟨h2, _⟩
  · have := h2 i i0 i1
    simp only [decide_eq_false_iff_not] at this
    exact this hh
  · omega
theorem LT.add (h : LT T) (h48 : T 0 0 < 48) (hp : plcq T a v = -1) (a0 : 0 ≤ a) (a1 : a ≤ 4) (v0 : 0 ≤ v) (v1 : v ≤ 9999) (b0 : -99999 ≤ b) (b1 : b ≤ 900) : LT (addI T a v b) := by
  obtain ⟨h1, h2, h3, h4⟩ := h
  refine ⟨addI_okL h1 h48 a0 (by omega) v0 v1 b0 (by omega), fun i x y => ?_, fun i j i0 i1 j0 j1 e1 e2 => ?_, fun i x y => ?_⟩
  · rw [addI_0] at y
    rw [addI_at (by decide)]
    by_cases e : i = T 0 0
    · rw [if_pos e]; exact a1
    · rw [if_neg e]; exact h2 i x (by omega)
  · rw [addI_0] at i1 j1
    rw [addI_at (by decide), addI_at (by decide)] at e1 e2
    by_cases ei : i = T 0 0 <;> by_cases ej : j = T 0 0
    · omega
    · rw [if_pos ei, if_neg ej] at e1 e2
      exact absurd ⟨e1.symm, e2.symm⟩ (plcq_no h1.1 hp j0 (by omega))
    · rw [if_neg ei, if_pos ej] at e1 e2
      exact absurd ⟨e1, e2⟩ (plcq_no h1.1 hp i0 (by omega))
    · rw [if_neg ei, if_neg ej] at e1 e2
      exact h3 i j i0 (by omega) j0 (by omega) e1 e2
  · rw [addI_0] at y
    rw [addI_at (by decide)]
    by_cases e : i = T 0 0
    · rw [if_pos e]; exact b1
    · rw [if_neg e]; exact h4 i x (by omega)
theorem LT.aud (h : LT T) (x0 : 0 ≤ x) (x1 : x ≤ 2 * T 3 i) (hb : 0 < T 3 i) : LT (ups T 4 i x) := by
  obtain ⟨⟨h1, h1', h1''⟩, h2, h3, h4⟩ := h
  refine ⟨⟨h1, h1', fun j a b => ?_⟩, h2, h3, h4⟩
  have hj := h1'' j a b
  rw [ups_c (by decide), ups_c (by decide), ups_c (by decide)]
  by_cases e : j = i
  · subst e; rw [ups_s]; omega
  · rw [ups_f e]; exact hj
theorem LT0 : LT T0 := ⟨T0_ok, fun i a b => absurd b (by show ¬ i < 0; omega), fun i j a b => absurd b (by show ¬ i < 0; omega), fun i a b => absurd b (by show ¬ i < 0; omega)⟩
end TXA
section DW
variable {G : Gq} {w0 w W W' : Wd} {A T : St} {B : Bks} {S : List Nat} {mc ms q y z ns N d b v cap c0 s0 rc rs x vx n : Nat} {i j M a vo bo k : Int} {σ : St} {fz : Int → Int} {row : Option Nat} {X X' U : Txt} {P : Option Nat → Wd → Nat → Nat → Prop}
theorem DBk.fr (h : DBk G w0 W A T B M y z ns fz row N d) (hk : Kg G S W W') (hS : ∀ b ∈ S, wK W b = kO 17 ∨ (∃ n, wK W b = kA 1 n) ∨ b = y) : DBk G w0 W' A T B M y z ns fz row N d := by
  obtain ⟨h1, h2, ⟨h3, h4⟩, h5, h6⟩ := h
  have hd := h1.1.1.1
  rw [h6.1] at hd
  have hn : d ∉ S := fun hm => by
    rcases hS d hm with e | ⟨n, e⟩ | e
    · rw [hd.2] at e; cases e
    · rw [hd.2] at e; cases e
    · have := h1.2.2.2.2.2.2.2.2.2
      rw [← e, hd.2] at this
      cases this
  exact ⟨h1.fr hk hS, hk.1.1.trans h2, ⟨(hk.1.R hd.1 hn).trans h3, h4.kp hk.1⟩, fun a ha => hk.1.L (h5 a ha), h6⟩
theorem DBk.yy (h : DBk G w0 W A T B M y z ns fz row N d) : Ow W y (kA 0 1) := h.1.2.2.2.2.2.2.2.2
theorem QB.kp (h : QB G W b v cap X) (hk : Kp S W W') (hb : b ∉ S) (hv : v ∉ S) : QB G W' b v cap X := ⟨h.1.kp hk hb hv, h.2⟩
theorem QB.ky (h : QB G W b v cap X) (hk : Kp [y] W W') (hy : wK W y = kA 0 1) : QB G W' b v cap X := h.kp hk (fun hm => by
    have := h.1.1.2
    rw [List.mem_singleton.mp hm, hy] at this
    cases this) (fun hm => by
    have := h.1.2.2.2.2.1.2
    rw [List.mem_singleton.mp hm, hy] at this
    cases this)
theorem NI.kp (h : NI W B T q a vo bo) (hk : Kp S W W') (hq : q ∉ S) : NI W' B T q a vo bo := ⟨h.1.kp hk, (hk.I h.1.1 hq).trans h.2.1, (hk.I h.1.1 hq).trans h.2.2.1, (hk.I h.1.1 hq).trans h.2.2.2.1, (hk.I h.1.1 hq).trans h.2.2.2.2.1, h.2.2.2.2.2⟩
theorem NI.kb (h : NI W B T q a vo bo) (hQ : QB G W b v cap X) (hk : Kp [b, v] W W') : NI W' B T q a vo bo := h.kp hk (fun hm => by
  rcases List.mem_cons.mp hm with e | e
  · have := h.1.2
    rw [e, hQ.1.1.2] at this
    cases this
  · have := h.1.2
    rw [List.mem_singleton.mp e, hQ.1.2.2.2.2.1.2] at this
    cases this)
theorem NI.ky (h : NI W B T q a vo bo) (hk : Kp [y] W W') (hy : wK W y = kA 0 1) : NI W' B T q a vo bo := h.kp hk (fun hm => by
  have := h.1.2
  rw [List.mem_singleton.mp hm, hy] at this
  cases this)
/-- a number drawn -/
theorem dz {K : Int → Wd → Prop} {e : Int} (hD : DBk G w0 W A T B M y z ns fz row N d) (hx : XOK G W) (he : 0 < e) (hK : ∀ v W', 0 ≤ v → v < e → XOK G W' → DBk G w0 W' A T B M y z ns fz row N d → Kp [y] W W' → K v W') : DI G M_Cl_draw [vA y, vI e] W mc ms K := by
  refine DI.gx (y_draw hD.yy he (fun v x v0 v1 _ hx' _ => ?_))
  have hk : Kp [y] W (uI W y 0 x) := Kp.rf.uI (Or.inl (List.mem_singleton.mpr rfl))
  exact hK v _ v0 v1 hx' (hD.fr (Kg.of hk hx hx') (fun b hb => Or.inr (Or.inr (List.mem_singleton.mp hb)))) hk
/-- one more piece of the text -/
theorem dd {ν : Md} {vs : List Vq} {need : Int} (hcon : ∀ mc ms, ((cap : Int) < need → 1 ≤ mc ∧ gcap cap need ≤ ms) → ∀ K : Option Nat → Wd → Prop, (∀ w' v' cap', Kp [b, v] W w' → SQ w' b v' cap' X' → ((v' = v ∧ cap' = cap) ∨ ((cap : Int) < need ∧ cap' = gcap cap need ∧ Fr G W v')) → K (some b) w') → DP G ν vs W mc ms K)
    (hT : X'.1 = need) (hD : DBk G w0 W A T B M y z ns fz row N d) (hQ : QB G W b v cap X) (hx : XOK G W) (h9 : need ≤ 900) (hc : c0 + (1800 - cap) ≤ rc) (hs : s0 + 2 * (1800 - cap) ≤ rs)
    (hK : ∀ W' v' cap' c s, XOK G W' → Kp [b, v] W W' → DBk G w0 W' A T B M y z ns fz row N d → QB G W' b v' cap' X' → c ≤ rc → s ≤ rs → c0 + (1800 - cap') ≤ rc - c → s0 + 2 * (1800 - cap') ≤ rs - s → P (some b) W' c s) :
    ∃ c s : Nat, c ≤ rc ∧ s ≤ rs ∧ DP G ν vs W c s (fun r w' => P r w' c s) := by
  refine g_gen (w0 := Xw G 0) (M := 1800) hcon hT hQ.2.1 (fun h => absurd h List.not_mem_nil) (fun a h => absurd h List.not_mem_nil) (by omega) hQ.2.2 hc hs (fun w' v' cap' c s hk hx' _ hQ' hv' _ _ hc' a1 a2 a3 a4 => hK w' v' cap' c s hx' hk (hD.fr (Kg.of hk hx hx') (fun t ht => ?_)) ⟨hQ', hv', hc'⟩ a1 a2 a3 a4)
  rcases List.mem_cons.mp ht with e | e
  · exact Or.inl (by rw [e]; exact hQ.1.1.2)
  · exact Or.inr (Or.inl ⟨cap, by rw [List.mem_singleton.mp e]; exact hQ.1.2.2.2.2.1.2⟩)
theorem dd_s (hS : TTx G W x vx n U) (hC : CatQ X U X') (ha : asc X') (hD : DBk G w0 W A T B M y z ns fz row N d) (hQ : QB G W b v cap X) (hx : XOK G W) (h9 : X'.1 ≤ 900) (hc : c0 + (1800 - cap) ≤ rc) (hs : s0 + 2 * (1800 - cap) ≤ rs)
    (hK : ∀ W' v' cap' c s, XOK G W' → Kp [b, v] W W' → DBk G w0 W' A T B M y z ns fz row N d → QB G W' b v' cap' X' → c ≤ rc → s ≤ rs → c0 + (1800 - cap') ≤ rc - c → s0 + 2 * (1800 - cap') ≤ rs - s → P (some b) W' c s) :
    ∃ c s : Nat, c ≤ rc ∧ s ≤ rs ∧ DP G M_Sb_append_15ec4 [vA b, vA x] W c s (fun r w' => P r w' c s) := by
  have h9' := h9
  rw [hC.1] at h9'
  have hcap := hQ.2.2
  exact dd (need := X.1 + U.1) (fun mc ms hb K hK => v_apS hQ.1 hS (by omega) (by omega) hb hC.1 hC.2.1 hC.2.2 ha hK) hC.1 hD hQ hx h9' hc hs hK
theorem dd_i {e : Int} (e0 : 0 ≤ e) (e1 : e < 1000000) (hD : DBk G w0 W A T B M y z ns fz row N d) (hQ : QB G W b v cap X) (hx : XOK G W) (h9 : (nmb X e).1 ≤ 900) (hc : c0 + (1800 - cap) ≤ rc) (hs : s0 + 2 * (1800 - cap) ≤ rs)
    (hK : ∀ W' v' cap' c s, XOK G W' → Kp [b, v] W W' → DBk G w0 W' A T B M y z ns fz row N d → QB G W' b v' cap' (nmb X e) → c ≤ rc → s ≤ rs → c0 + (1800 - cap') ≤ rc - c → s0 + 2 * (1800 - cap') ≤ rs - s → P (some b) W' c s) :
    ∃ c s : Nat, c ≤ rc ∧ s ≤ rs ∧ DP G M_Sb_append_bf812 [vA b, vI e] W c s (fun r w' => P r w' c s) := by
  rw [nmb_len2] at h9
  have hcap := hQ.2.2
  exact dd (need := X.1 + dgs e) (fun mc ms hb K hK => v_apI hQ.1 hQ.2.1 e0 e1 (by omega) (by omega) hb hK) (nmb_len2 e X) hD hQ hx h9 hc hs hK
theorem dd_c {e : Int} (e0 : 0 ≤ e) (e1 : e ≤ 127) (hD : DBk G w0 W A T B M y z ns fz row N d) (hQ : QB G W b v cap X) (hx : XOK G W) (h9 : (sgn X e).1 ≤ 900) (hc : c0 + (1800 - cap) ≤ rc) (hs : s0 + 2 * (1800 - cap) ≤ rs)
    (hK : ∀ W' v' cap' c s, XOK G W' → Kp [b, v] W W' → DBk G w0 W' A T B M y z ns fz row N d → QB G W' b v' cap' (sgn X e) → c ≤ rc → s ≤ rs → c0 + (1800 - cap') ≤ rc - c → s0 + 2 * (1800 - cap') ≤ rs - s → P (some b) W' c s) :
    ∃ c s : Nat, c ≤ rc ∧ s ≤ rs ∧ DP G M_Sb_append_cf468 [vA b, vI e] W c s (fun r w' => P r w' c s) := by
  rw [sgn_len] at h9
  have hcap := hQ.2.2
  exact dd (need := X.1 + 1) (fun mc ms hb K hK => v_apC hQ.1 e0 e1 (by omega) (by omega) hb hK) rfl hD hQ hx h9 hc hs hK
/-- a world just written -/
theorem ex_wf {ν : Md} {vs : List Vq} {R : Prop} {D : Nat → Nat → Option Vq → Wd → Prop} (hR : R) (h : XOK G W → ∃ c s : Nat, c ≤ rc ∧ s ≤ rs ∧ (R ∧ DC G ν vs W c s (D c s))) : ∃ c s : Nat, c ≤ rc ∧ s ≤ rs ∧ (R ∧ DC G ν vs W c s (D c s)) := by
  by_cases hx : XOK G W
  · exact h hx
  · exact ⟨0, 0, Nat.zero_le _, Nat.zero_le _, hR, DC.wf (fun _ hx' => absurd hx' hx)⟩
end DW
