-- what stays of a world: all cells but those of a list
theorem DC.wf {G : Gq} {μ : Md} {vs : List Vq} {w : Wd} {mc ms : Nat} {K : Option Vq → Wd → Prop} (h : WFd w → XOK G w → DC G μ vs w mc ms K) : DC G μ vs w mc ms K := by
  by_cases hc : WFd w ∧ XOK G w
  · exact h hc.1 hc.2
  · exact ⟨K, fun _ _ _ _ _ _ q => q, fun h1 h2 => absurd ⟨h1, h2⟩ hc⟩
theorem DC.gx {G : Gq} {μ : Md} {vs : List Vq} {w : Wd} {mc ms : Nat} {K : Option Vq → Wd → Prop} (h : DC G μ vs w mc ms (fun r w' => WFd w' → XOK G w' → Gw G w w' → K r w')) : DC G μ vs w mc ms K := h.mono (fun _ _ a b _ d q => q a b d)
theorem DP.gx {G : Gq} {μ : Md} {vs : List Vq} {w : Wd} {mc ms : Nat} {K : Option Nat → Wd → Prop} (h : DP G μ vs w mc ms (fun r w' => WFd w' → XOK G w' → Gw G w w' → K r w')) : DP G μ vs w mc ms K := h.mono (fun _ _ a b _ d q => by obtain ⟨v, e, q⟩ := q; exact ⟨v, e, q a b d⟩)
theorem DI.gx {G : Gq} {μ : Md} {vs : List Vq} {w : Wd} {mc ms : Nat} {K : Int → Wd → Prop} (h : DI G μ vs w mc ms (fun r w' => WFd w' → XOK G w' → Gw G w w' → K r w')) : DI G μ vs w mc ms K := h.mono (fun _ _ a b _ d q => by obtain ⟨v, e, q⟩ := q; exact ⟨v, e, q a b d⟩)
theorem DV.gx {G : Gq} {μ : Md} {vs : List Vq} {w : Wd} {mc ms : Nat} {K : Wd → Prop} (h : DV G μ vs w mc ms (fun w' => WFd w' → XOK G w' → Gw G w w' → K w')) : DV G μ vs w mc ms K := h.mono (fun _ _ a b _ d q => ⟨q.1, q.2 a b d⟩)
def Kp (S : List Nat) (w w' : Wd) : Prop := wS w' = wS w ∧ ∀ a, a ∈ wL w → a ∈ wL w' ∧ wK w' a = wK w a ∧ (a ∉ S → (∀ j, wI w' a j = wI w a j) ∧ (∀ j, wR w' a j = wR w a j) ∧ ∀ j, wJ w' a j = wJ w a j)
section KP
variable {S T : List Nat} {u w v : Wd} {a q : Nat} {j x : Int} {r : Option Nat} {k : Kd} {G : Gq} {f : Int → Int} {g : Int → Option Nat}
theorem Kp.rf : Kp S w w := ⟨rfl, fun _ h => ⟨h, rfl, fun _ => ⟨fun _ => rfl, fun _ => rfl, fun _ => rfl⟩⟩⟩
theorem Kp.tr (h1 : Kp S u w) (h2 : Kp S w v) : Kp S u v := ⟨h2.1.trans h1.1, fun a h => by
  obtain ⟨a1, a2, a3⟩ := h1.2 a h
  obtain ⟨b1, b2, b3⟩ := h2.2 a a1
  refine ⟨b1, b2.trans a2, fun hs => ?_⟩
  obtain ⟨c1, c2, c3⟩ := a3 hs
  obtain ⟨d1, d2, d3⟩ := b3 hs
  exact ⟨fun j => (d1 j).trans (c1 j), fun j => (d2 j).trans (c2 j), fun j => (d3 j).trans (c3 j)⟩⟩
theorem Kp.sub (h : Kp S u w) (hs : ∀ a, a ∈ S → a ∈ T) : Kp T u w := ⟨h.1, fun a ha => ⟨(h.2 a ha).1, (h.2 a ha).2.1, fun hn => (h.2 a ha).2.2 (fun hm => hn (hs a hm))⟩⟩
/-- what was made since doesn't count -/
theorem Kp.drop (h : Kp S u w) (hs : ∀ a, a ∈ S → a ∈ T ∨ a ∉ wL u) : Kp T u w := ⟨h.1, fun a ha => ⟨(h.2 a ha).1, (h.2 a ha).2.1, fun hn => (h.2 a ha).2.2 (fun hm => (hs a hm).elim hn (fun h2 => h2 ha))⟩⟩
theorem Kp.trd (h1 : Kp T u w) (h2 : Kp S w v) (hs : ∀ a, a ∈ S → a ∈ T ∨ a ∉ wL u) : Kp T u v := ⟨h2.1.trans h1.1, fun a h => by
  obtain ⟨a1, a2, a3⟩ := h1.2 a h
  obtain ⟨b1, b2, b3⟩ := h2.2 a a1
  refine ⟨b1, b2.trans a2, fun hn => ?_⟩
  obtain ⟨c1, c2, c3⟩ := a3 hn
  obtain ⟨d1, d2, d3⟩ := b3 (fun hm => (hs a hm).elim hn (fun h2 => h2 h))
  exact ⟨fun j => (d1 j).trans (c1 j), fun j => (d2 j).trans (c2 j), fun j => (d3 j).trans (c3 j)⟩⟩
theorem Kp.nil (h : Kp [] u w) : Kp S u w := h.sub (fun _ h => absurd h List.not_mem_nil)
theorem Kp.uI (h : Kp S u w) (ha : a ∈ S ∨ a ∉ wL u) : Kp S u (uI w a j x) := ⟨h.1, fun b hb => ⟨(h.2 b hb).1, (h.2 b hb).2.1, fun hn => by
  have hne : b ≠ a := fun e => by subst e; exact ha.elim hn (fun h2 => h2 hb)
  obtain ⟨c1, c2, c3⟩ := (h.2 b hb).2.2 hn
  exact ⟨fun i => (wI_uI_a hne).trans (c1 i), c2, c3⟩⟩⟩
theorem Kp.uJ (h : Kp S u w) (ha : a ∈ S ∨ a ∉ wL u) : Kp S u (uJ w a j x) := ⟨h.1, fun b hb => ⟨(h.2 b hb).1, (h.2 b hb).2.1, fun hn => by
  have hne : b ≠ a := fun e => by subst e; exact ha.elim hn (fun h2 => h2 hb)
  obtain ⟨c1, c2, c3⟩ := (h.2 b hb).2.2 hn
  exact ⟨c1, c2, fun i => (wJ_uJ_a hne).trans (c3 i)⟩⟩⟩
theorem Kp.uR (h : Kp S u w) (ha : a ∈ S ∨ a ∉ wL u) : Kp S u (uR w a j r) := ⟨h.1, fun b hb => ⟨(h.2 b hb).1, (h.2 b hb).2.1, fun hn => by
  have hne : b ≠ a := fun e => by subst e; exact ha.elim hn (fun h2 => h2 hb)
  obtain ⟨c1, c2, c3⟩ := (h.2 b hb).2.2 hn
  exact ⟨c1, fun i => (wR_uR_a hne).trans (c2 i), c3⟩⟩⟩
theorem Kp.uF (h : Kp S u w) (ha : a ∈ S ∨ a ∉ wL u) : Kp S u (uF w a f) := ⟨h.1, fun b hb => ⟨(h.2 b hb).1, (h.2 b hb).2.1, fun hn => by
  have hne : b ≠ a := fun e => by subst e; exact ha.elim hn (fun h2 => h2 hb)
  obtain ⟨c1, c2, c3⟩ := (h.2 b hb).2.2 hn
  exact ⟨fun i => (wI_uF hne).trans (c1 i), c2, c3⟩⟩⟩
theorem Kp.uG (h : Kp S u w) (ha : a ∈ S ∨ a ∉ wL u) : Kp S u (uG w a g) := ⟨h.1, fun b hb => ⟨(h.2 b hb).1, (h.2 b hb).2.1, fun hn => by
  have hne : b ≠ a := fun e => by subst e; exact ha.elim hn (fun h2 => h2 hb)
  obtain ⟨c1, c2, c3⟩ := (h.2 b hb).2.2 hn
  exact ⟨c1, fun i => (wR_uG hne).trans (c2 i), c3⟩⟩⟩
theorem Kp.uN (h : Kp S u w) (hq : q ∉ wL w) : Kp S u (uN w q k) := ⟨h.1, fun b hb => by
  obtain ⟨a1, a2, a3⟩ := h.2 b hb
  have hne : b ≠ q := fun e => hq (e ▸ a1)
  refine ⟨by rw [wL_uN]; exact List.mem_append_left _ a1, (wK_uN hne).trans a2, fun hn => ?_⟩
  obtain ⟨c1, c2, c3⟩ := a3 hn
  exact ⟨fun i => (wI_uN (k := k) hne).trans (c1 i), fun i => (wR_uN (k := k) hne).trans (c2 i), fun i => (wJ_uN (k := k) hne).trans (c3 i)⟩⟩
theorem Kp.up (h : Kp S u w) {b : Nat} (hb : b ∉ wL w) : b ∉ wL u := fun hm => hb (h.2 b hm).1
theorem Kp.I (h : Kp S u w) (ha : a ∈ wL u) (hs : a ∉ S) : wI w a j = wI u a j := ((h.2 a ha).2.2 hs).1 j
theorem Kp.R (h : Kp S u w) (ha : a ∈ wL u) (hs : a ∉ S) : wR w a j = wR u a j := ((h.2 a ha).2.2 hs).2.1 j
theorem Kp.J (h : Kp S u w) (ha : a ∈ wL u) (hs : a ∉ S) : wJ w a j = wJ u a j := ((h.2 a ha).2.2 hs).2.2 j
theorem Ow.kp (h : Ow u a k) (hk : Kp S u w) : Ow w a k := ⟨(hk.2 a h.1).1, (hk.2 a h.1).2.1.trans h.2⟩
theorem Ow.kne {k2 : Kd} (h : Ow w a k) (h2 : Ow w q k2) (hne : k ≠ k2) : a ≠ q := fun e => hne (by subst e; exact h.2.symm.trans h2.2)
theorem Ow.mem (h : Ow w a k) : a ∈ wL w := h.1
end KP
theorem ishrq_1 {a : Int} (ha : inR a) : ishrq a 1 = a / 2 := by
  unfold ishrq
  rw [show Int32.ofInt 1 &&& 31 = Int32.ofInt 1 &&& 31 from rfl, q_shr ha (by decide) (by decide)]
  rw [show (2 : Int) ^ (1 : Int).toNat = 2 from rfl]
  exact toI (by unfold inR at *; omega)
theorem inR_of {a : Int} (h0 : -2147483648 ≤ a) (h1 : a ≤ 2147483647) : inR a := ⟨h0, h1⟩
/-- elements that an Object[] takes -/
abbrev EO (G : Gq) (w : Wd) (y : Nat) : Prop := Els G w y "java/lang/Object"
theorem Els.q {G : Gq} {w w' : Wd} {y : Nat} {E : String} (h : Els G w y E) (hg : KG G w w') : Els G w' y E := by
  obtain ⟨ci, q, h1, h2, h3⟩ := h
  exact ⟨ci, q, h1.q hg, h2, h3⟩
theorem eo_12 {G : Gq} {w : Wd} {y : Nat} (h : Is G w y (kO 12)) : EO G w y := ⟨12, _, h, rfl, by decide +kernel⟩
theorem eo_13 {G : Gq} {w : Wd} {y : Nat} (h : Is G w y (kO 13)) : EO G w y := ⟨13, _, h, rfl, by decide +kernel⟩
theorem eo_16 {G : Gq} {w : Wd} {y : Nat} (h : Is G w y (kO 16)) : EO G w y := ⟨16, _, h, rfl, by decide +kernel⟩
/-- an ArrayList: at a, its row r of n places, m changes, k elements f -/
def AL (G : Gq) (w : Wd) (a r n : Nat) (m k : Int) (f : Int → Nat) : Prop :=
  Ow w a (kO 14) ∧ wR w a 1 = some r ∧ wI w a 0 = m ∧ wI w a 2 = k ∧ (0 ≤ k ∧ k ≤ (n : Int) ∧ n ≤ 100000) ∧ ((r = xa G 0 ∧ n = 0) ∨ (Ow w r (kR 4 n) ∧ 0 < n)) ∧ ∀ j, 0 ≤ j → j < k → wR w r j = some (f j)
section AL
variable {G : Gq} {w w' : Wd} {a r n mc ms : Nat} {m k i : Int} {f : Int → Nat}
theorem AL.isr (h : AL G w a r n m k f) (hx : XOK G w) : Is G w r (kR 4 n) := by
  rcases h.2.2.2.2.2.1 with ⟨h1, h2⟩ | h1
  · rw [h1, h2]; exact hx.is (by decide) rfl
  · exact h1.1.is
theorem AL.ne (h : AL G w a r n m k f) (hx : XOK G w) (hE : a ∈ wL w) : a ≠ r := fun e => by
  have h1 := (h.isr hx).2
  rw [← e, h.1.2] at h1
  cases h1
theorem AL.kp {S : List Nat} (h : AL G w a r n m k f) (hk : Kp S w w') (ha : a ∉ S) (hr : r ∉ S) : AL G w' a r n m k f := by
  obtain ⟨h1, h2, h3, h4, h5, h6, h7⟩ := h
  refine ⟨h1.kp hk, (hk.R h1.1 ha).trans h2, (hk.I h1.1 ha).trans h3, (hk.I h1.1 ha).trans h4, h5, h6.imp id (fun h => ⟨h.1.kp hk, h.2⟩), fun j a b => ?_⟩
  rcases h6 with ⟨_, h8⟩ | h8
  · omega
  · exact (hk.R h8.1.1 hr).trans (h7 j a b)
theorem AL.kq {S : List Nat} (h : AL G w a r n m k f) (hk : Kp S w w') (ha : a ∉ S) (hr : Ow w r (kR 4 n) → r ∉ S) : AL G w' a r n m k f := by
  obtain ⟨h1, h2, h3, h4, h5, h6, h7⟩ := h
  refine ⟨h1.kp hk, (hk.R h1.1 ha).trans h2, (hk.I h1.1 ha).trans h3, (hk.I h1.1 ha).trans h4, h5, h6.imp id (fun h => ⟨h.1.kp hk, h.2⟩), fun j a b => ?_⟩
  rcases h6 with ⟨_, h8⟩ | h8
  · omega
  · exact (hk.R h8.1.1 (hr h8.1)).trans (h7 j a b)
theorem AL.kr {S : List Nat} (h : AL G w a r n m k f) (hk : Kp S w w') (ha : a ∉ S) (hr : 0 < n → Ow w r (kR 4 n) → r ∉ S) : AL G w' a r n m k f := by
  obtain ⟨h1, h2, h3, h4, h5, h6, h7⟩ := h
  refine ⟨h1.kp hk, (hk.R h1.1 ha).trans h2, (hk.I h1.1 ha).trans h3, (hk.I h1.1 ha).trans h4, h5, h6.imp id (fun h => ⟨h.1.kp hk, h.2⟩), fun j a b => ?_⟩
  rcases h6 with ⟨_, h8⟩ | h8
  · omega
  · exact (hk.R h8.1.1 (hr h8.2 h8.1)).trans (h7 j a b)
theorem v_checkIndex {K : Int → Wd → Prop} {i n : Int} (h0 : 0 ≤ i) (h1 : i < n) (hK : K i w) : DI G M_Ob_checkIndex [vI i, vI n] w mc ms K :=
  e_Ob_checkIndex _ _ (ed_Pc_checkIndex _ _ _ ⟨fun h => by omega, fun _ => ⟨fun _ => hK, fun h => by omega⟩⟩)
theorem v_Al_size {K : Int → Wd → Prop} (hL : AL G w a r n m k f) (hK : K k w) : DI G M_Al_size [vA a] w mc ms K := by
  refine e_Al_size a ⟨hL.1.is, ?_⟩
  rw [hL.2.2.2.1]; exact hK
theorem v_Al_isEmpty {K : Int → Wd → Prop} (hL : AL G w a r n m k f) (hK : K (if k = 0 then 1 else 0) w) : DI G M_Al_isEmpty [vA a] w mc ms K := by
  refine e_Al_isEmpty a ⟨hL.1.is, ?_⟩
  rw [hL.2.2.2.1]
  exact ⟨fun h => by rw [if_neg h] at hK; exact hK, fun h => by rw [if_pos h] at hK; exact hK⟩
theorem v_Al_get {K : Option Nat → Wd → Prop} (hL : AL G w a r n m k f) (h0 : 0 ≤ i) (h1 : i < k) (hK : K (some (f i)) w) : DP G M_Al_get [vA a, vI i] w mc ms K := by
  refine DC.wf fun hσ hx => ?_
  obtain ⟨g1, g2, g3, g4, g5, g6, g7⟩ := id hL
  refine e_Al_get a i ⟨g1.is, v_checkIndex h0 (by rw [g4]; exact h1) ?_⟩
  refine e_Al_elementData a i ⟨g1.is, r, g2, n, hL.isr hx, h0, by omega, ?_⟩
  rw [g7 i h0 h1]; exact hK
theorem v_max {K : Int → Wd → Prop} {x y : Int} (hK : K (if x < y then y else x) w) : DI G M_Ma_max [vI x, vI y] w mc ms K :=
  ed_Ma_max _ _ ⟨fun h => by rw [if_pos h] at hK; exact hK, fun h => by rw [if_neg h] at hK; exact hK⟩
theorem v_min {K : Int → Wd → Prop} {x y : Int} (hK : K (if y < x then y else x) w) : DI G M_Ma_min [vI x, vI y] w mc ms K :=
  e_Ma_min _ _ ⟨fun h => by rw [if_pos h] at hK; exact hK, fun h => by rw [if_neg h] at hK; exact hK⟩
theorem v_abs {K : Int → Wd → Prop} {x : Int} (h : -2147483647 ≤ x) (hx : x ≤ 2147483647) (hK : K (if 0 ≤ x then x else -x) w) : DI G M_Ma_abs [vI x] w mc ms K :=
  e_Ma_abs _ ⟨fun h => by rw [if_pos h] at hK; exact hK, fun h2 => ⟨inR_of (by omega) (by omega), by rw [if_neg h2] at hK; exact hK⟩⟩
theorem v_newLength {K : Int → Wd → Prop} {o mn_ pf : Int} (h0 : 0 ≤ o) (h1 : o ≤ 1000000) (h2 : 0 < mn_) (h3 : mn_ ≤ 1000000) (h4 : pf ≤ 1000000) (hK : K (o + if mn_ < pf then pf else mn_) w) : DI G M_Ss_newLength [vI o, vI mn_, vI pf] w mc ms K := by
  refine e_Ss_newLength _ _ _ (v_max ⟨inR_of (by split <;> omega) (by split <;> omega), fun h => ?_, fun _ => ⟨fun h => ?_, fun _ => hK⟩⟩)
  · exfalso; revert h; split <;> omega
  · exfalso; revert h; split <;> omega
/-- a longer row with the same elements -/
theorem v_copyOfR {K : Option Nat → Wd → Prop} {x : Nat} {N : Int} {k2 : Nat} (hO : Ow w x (kR 4 n)) (hn : n ≤ 100000) (hN : N = (k2 : Int)) (hnk : n ≤ k2) (hk : k2 ≤ 100000) (hel : ∀ j : Int, 0 ≤ j → j < (n : Int) → ∀ y, wR w x j = some y → EO G w y) (hc : 1 ≤ mc) (hs : k2 ≤ ms)
    (hK : ∀ q, Fr G w q → K (some q) (uG (uN w q (kR 4 k2)) q (fun j => if 0 ≤ j ∧ j < (n : Int) then wR w x j else none))) : DP G M_Ar_copyOf_1904c [vA x, vI N] w mc ms K := by
  subst hN
  refine e_Ar_copyOf_1904c _ _ ⟨n, hO, 1, k2, hc, hs, ?_⟩
  refine e_Ar_copyOf_6403c _ _ _ ⟨fun h => h rfl, fun _ => ⟨k2, rfl, hk, Nat.le_refl _, Nat.le_refl _, fun q hq => ⟨n, (hO.is).nu hq, inR_of (by omega) (by omega), ?_⟩⟩⟩
  have hne : x ≠ q := hq.ne hO.is
  refine v_min ?_
  have em : (if ((k2 : Nat) : Int) < (n : Int) then ((k2 : Nat) : Int) else (n : Int)) = (n : Int) := by split <;> omega
  rw [em]
  refine ⟨by omega, by omega, by omega, fun i h0 h1 y hy => ?_, hO.nu hq, ?_⟩
  · rw [Int.zero_add, wR_uN hne] at hy
    exact (hel i h0 h1 y hy).q (uN_g hq).k
  · have e : cpyR (uN w q (kR 4 k2)) x q 0 0 (n : Int) = fun j => if 0 ≤ j ∧ j < (n : Int) then wR w x j else none := by
      funext j
      unfold cpyR
      by_cases hj : 0 ≤ j ∧ j < (n : Int)
      · rw [if_pos (by omega), if_pos hj, wR_uN hne, show (0 : Int) + (j - 0) = j by omega]
      · rw [if_neg (by omega), if_neg hj, wR_uN_s]
    rw [e]
    exact hK q hq
def ncap (n : Nat) : Nat := if n = 0 then 10 else n + max 1 (n / 2)
def fup (f : Int → Nat) (k : Int) (x : Nat) : Int → Nat := fun j => if j = k then x else f j
/-- more room -/
theorem v_Al_grow {K : Option Nat → Wd → Prop} (hL : AL G w a r n m k f) (hkn : k = (n : Int)) (hn : n ≤ 60000) (hel : ∀ j, 0 ≤ j → j < k → EO G w (f j)) (hc : 1 ≤ mc) (hs : ncap n ≤ ms)
    (hK : ∀ q w', Fr G w q → Kp [a] w w' → AL G w' a q (ncap n) m k f → Ow w' q (kR 4 (ncap n)) → K (some q) w') : DP G M_Al_grow_d5877 [vA a] w mc ms K := by
  refine DC.wf fun hσ hx => ?_
  obtain ⟨g1, g2, g3, g4, g5, g6, g7⟩ := id hL
  refine e_Al_grow_d5877 a ⟨g1.is, by rw [g4]; exact inR_of (by omega) (by omega), 1, ncap n, hc, hs, ?_⟩
  rw [g4]
  refine e_Al_grow_92f84 a (k + 1) ⟨g1.is, r, g2, n, hL.isr hx, inR_of (by omega) (by omega), fun hp => ?_, fun hz => ⟨fun _ => ?_, fun hr => ?_⟩⟩
  · rcases g6 with ⟨h6, h6'⟩ | g6
    · omega
    refine ⟨inR_of (by omega) (by omega), v_newLength (by omega) (by omega) (by omega) (by omega) ?_ ⟨r, g2, 1, ncap n, Nat.le_refl _, Nat.le_refl _, ?_⟩⟩
    · rw [ishrq_1 (inR_of (by omega) (by omega))]; omega
    · refine v_copyOfR (n := n) (k2 := ncap n) g6.1 (by omega) ?_ ?_ ?_ ?_ (Nat.le_refl _) (Nat.le_refl _) (fun q hq => ⟨(g1.nu hq), ?_⟩)
      · rw [ishrq_1 (inR_of (by omega) (by omega))]
        have e : ncap n = n + max 1 (n / 2) := by unfold ncap; rw [if_neg (by omega)]
        rw [e]
        split <;> omega
      · unfold ncap; split <;> omega
      · unfold ncap; split <;> omega
      · intro j h0 h1 y hy
        rw [g7 j h0 (by omega)] at hy
        cases hy
        exact hel j h0 (by omega)
      · have hra : a ≠ q := hq.ne g1.is
        have hO2 : Ow (uR (uG (uN w q (kR 4 (ncap n))) q (fun j => if 0 ≤ j ∧ j < (n : Int) then wR w r j else none)) a 1 (some q)) q (kR 4 (ncap n)) := Ow.nw (w := w)
        refine hK q _ hq ((((Kp.rf.uN hq.1).uG (Or.inr hq.1)).uR (Or.inl (List.mem_singleton.mpr rfl)))) ⟨g1.nu hq, wR_uR_s, ?_, ?_, ⟨g5.1, by unfold ncap; split <;> omega, by unfold ncap; split <;> omega⟩, Or.inr ⟨hO2, by unfold ncap; split <;> omega⟩, fun j h0 h1 => ?_⟩ hO2
        · rw [wI_uR, wI_uG, wI_uN hra]; exact g3
        · rw [wI_uR, wI_uG, wI_uN hra]; exact g4
        · rw [wR_uR_a hra.symm, wR_uG_s, if_pos ⟨h0, by omega⟩]
          exact g7 j h0 h1
  · refine v_max ⟨10, ?_, by omega, Nat.le_refl _, ?_, fun q hq => ⟨g1.nu hq, ?_⟩⟩
    · split <;> omega
    · unfold ncap; rw [if_pos (by omega)]; exact Nat.le_refl _
    · have hra : a ≠ q := hq.ne g1.is
      have hcap : ncap n = 10 := by unfold ncap; rw [if_pos (by omega)]
      have hO2 : Ow (uR (uN w q (kR 4 10)) a 1 (some q)) q (kR 4 (ncap n)) := by rw [hcap]; exact Ow.nw (w := w)
      refine hK q _ hq ((Kp.rf.uN hq.1).uR (Or.inl (List.mem_singleton.mpr rfl))) ⟨g1.nu hq, wR_uR_s, ?_, ?_, ⟨g5.1, by omega, by omega⟩, Or.inr ⟨hO2, by omega⟩, fun j h0 h1 => by omega⟩ hO2
      · rw [wI_uR, wI_uN hra]; exact g3
      · rw [wI_uR, wI_uN hra]; exact g4
  · exfalso
    rcases g6 with ⟨h6, _⟩ | ⟨_, h6⟩
    · exact hr (by rw [g2, h6])
    · omega
/-- one more element at the end -/
theorem v_Al_add {K : Int → Wd → Prop} {x : Nat} (hL : AL G w a r n m k f) (hm0 : 0 ≤ m) (hm1 : m ≤ 1000000) (hn : n ≤ 60000) (hel : ∀ j, 0 ≤ j → j < k → EO G w (f j)) (hx0 : EO G w x) (hb : k = (n : Int) → 1 ≤ mc ∧ ncap n ≤ ms)
    (hK : ∀ w' r' n', Kp [a, r] w w' → AL G w' a r' n' (m + 1) (k + 1) (fup f k x) → (k ≠ (n : Int) → r' = r ∧ n' = n) → (k = (n : Int) → Fr G w r' ∧ n' = ncap n ∧ Kp [a] w w') → K 1 w') : DI G M_Al_add_9ea2d [vA a, vA x] w mc ms K := by
  refine DC.wf fun hσ hx => ?_
  obtain ⟨g1, g2, g3, g4, g5, g6, g7⟩ := id hL
  have har : a ≠ r := hL.ne hx g1.1
  refine e_Al_add_9ea2d a x ⟨g1.is, by rw [g3]; exact inR_of (by omega) (by omega), g1, r, g2, mc, ms, Nat.le_refl _, Nat.le_refl _, ?_⟩
  rw [g3, g4]
  -- the changes are counted
  have hL1 : AL G (uI w a 0 (m + 1)) a r n (m + 1) k f := ⟨g1, g2, wI_uI_s, (wI_uI_j (by decide)).trans g4, g5, g6, g7⟩
  refine DV.gx (e_Al_add_72be8 a x r k ⟨n, hL.isr hx, inR_of (by omega) (by omega), fun hne => ?_, fun he => ?_⟩)
  · rcases g6 with ⟨h6, h6'⟩ | g6
    · omega
    refine ⟨g6.1, by omega, by omega, hx0, inR_of (by omega) (by omega), g1, fun _ _ _ => hK _ r n ?_ ⟨g1, (wR_uR_a har).trans g2, (wI_uI_j (by decide)).trans wI_uI_s, wI_uI_s, ⟨by omega, by omega, by omega⟩, Or.inr g6, fun j h0 h1 => ?_⟩ (fun _ => ⟨rfl, rfl⟩) (fun h => absurd h hne)⟩
    · exact ((Kp.rf.uI (Or.inl (by simp))).uR (Or.inl (by simp))).uI (Or.inl (by simp))
    · show wR (uR (uI w a 0 (m + 1)) r k (some x)) r j = _
      by_cases hj : j = k
      · subst hj; rw [wR_uR_s]; unfold fup; rw [if_pos rfl]
      · rw [wR_uR_j hj]; unfold fup; rw [if_neg hj]; exact g7 j h0 (by omega)
  · obtain ⟨hb1, hb2⟩ := hb he
    refine ⟨1, ncap n, hb1, hb2, hL1.1.is, DP.gx (v_Al_grow hL1 he hn (fun j h0 h1 => hel j h0 h1) (Nat.le_refl _) (Nat.le_refl _) (fun q w' hq hk hA hO hσ' hx' hg' => ?_))⟩
    have hcap : n < ncap n := by unfold ncap; split <;> omega
    have haq : a ≠ q := hq.ne g1.is
    refine ⟨q, rfl, ncap n, hO, by omega, by omega, Els.q (w := uI w a 0 (m + 1)) hx0 hg'.k, inR_of (by omega) (by omega), hA.1, fun _ _ _ => hK _ q (ncap n) ?_ ⟨hA.1, (wR_uR_a haq).trans hA.2.1, (wI_uI_j (by decide)).trans hA.2.2.1, wI_uI_s, ⟨by omega, by omega, by have := hA.2.2.2.2.1; omega⟩, Or.inr ⟨hO, by omega⟩, fun j h0 h1 => ?_⟩ (fun h => absurd he h) (fun _ => ⟨hq, rfl, ?_⟩)⟩
    · refine (((Kp.rf.uI (Or.inl (by simp)) : Kp [a, r] w (uI w a 0 (m + 1))).tr (hk.sub (by simp))).uR (Or.inr hq.1)).uI (Or.inl (by simp))
    · show wR (uR w' q k (some x)) q j = _
      by_cases hj : j = k
      · subst hj; rw [wR_uR_s]; unfold fup; rw [if_pos rfl]
      · rw [wR_uR_j hj]; unfold fup; rw [if_neg hj]; exact hA.2.2.2.2.2.2 j h0 (by omega)
    · exact (((Kp.rf.uI (Or.inl (by simp)) : Kp [a] w (uI w a 0 (m + 1))).tr hk).uR (Or.inr hq.1)).uI (Or.inl (by simp))
/-- what an index finds: the first that is the same cell -/
theorem v_Al_indexOfHit {K : Int → Wd → Prop} {x : Nat} (hL : AL G w a r n m k f) (hx0 : Ow w x (kO 12)) (hK : K (fI (fun j => decide (f j = x)) k) w) : DI G M_Al_indexOf [vA a, vA x] w mc ms K := by
  refine DC.wf fun hσ hx => ?_
  obtain ⟨g1, g2, g3, g4, g5, g6, g7⟩ := id hL
  refine e_Al_indexOf a x ⟨g1.is, e_Al_indexOfRangeC12 a x 0 _ ⟨g1.is, ?_⟩⟩
  rw [g2, g4]
  have key : ∀ i : Int, 0 ≤ i → i ≤ k → (∀ j, 0 ≤ j → j < i → f j ≠ x) → WD G M_Al_indexOfRange 42 [(1, vA x), (3, vI k), (4, vP (some r)), (5, vI i)] [] w 0 0 (yI fun v3 w2 => K v3 w2) := by
    refine up_ind ?_ (fun i h0 h1 ih => ?_)
    · intro hno
      refine l_Al_indexOfRangeC12_2 x k (some r) k ⟨fun _ => ?_, fun h => absurd (Int.le_refl _) h⟩
      rw [fI_none g5.1 (fun j a b => by simpa using hno j a b)] at hK
      exact hK
    · intro hno
      refine l_Al_indexOfRangeC12_2 x k (some r) i ⟨fun h => by omega, fun _ => ⟨r, rfl, n, hL.isr hx, h0, by omega, hx0.is, ?_⟩⟩
      rw [g7 i h0 h1]
      refine ⟨fun he => ⟨inR_of (by omega) (by omega), ih (fun j a b => ?_)⟩, fun he => ?_⟩
      · by_cases hj : j = i
        · subst hj; intro hf; rw [if_pos (by rw [hf])] at he; cases he
        · exact hno j a (by omega)
      · have hf : f i = x := by
          by_cases hf : f i = x
          · exact hf
          · rw [if_neg (fun h => hf (Option.some.inj h).symm)] at he; exact absurd rfl he
        rw [fI_eq h0 h1 (by simpa using hf) (fun j a b => by simpa using hno j a b)] at hK
        exact hK
  exact key 0 (Int.le_refl _) g5.1 (fun j a b => by omega)
end AL
