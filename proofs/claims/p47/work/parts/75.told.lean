-- a set of small accounts, in the order they came
abbrev kX (G : Gq) (v : Int) : Nat := xa G (2 + (v + 128).toNat)
def ND (G : Gq) (w0 w : Wd) (d : Int) (f : Int → Nat) (g : Int → Int) : Prop :=
  (∀ j, 0 ≤ j → j < d → Ow w (f j) (kO 21) ∧ f j ∉ wL w0 ∧ (0 ≤ g j ∧ g j ≤ 4) ∧ wI w (f j) 0 = g j ∧ wR w (f j) 1 = some (kX G (g j)) ∧ wR w (f j) 2 = some (xa G 285) ∧ wR w (f j) 5 = if j + 1 < d then some (f (j + 1)) else none) ∧
  ∀ i j, 0 ≤ i → i < d → 0 ≤ j → j < d → f i = f j ∨ g i = g j → i = j
def M0 (w0 w : Wd) (m : Nat) : Prop := Ow w m (kO 20) ∧ m ∉ wL w0 ∧ wI w m 2 = 0 ∧ wI w m 3 = 0 ∧ wI w m 10 = 0 ∧ wI w m 11 = 0 ∧ wI w m 4 = 16 ∧ wR w m 0 = none ∧ wR w m 6 = none ∧ wR w m 8 = none ∧ wR w m 9 = none ∧ wJ w m 5 = 1061158912
def TBh (w : Wd) (t : Nat) (d : Int) (f : Int → Nat) (g : Int → Int) : Prop := ∀ a, 0 ≤ a → a < 16 → (∀ j, 0 ≤ j → j < d → g j = a → wR w t a = some (f j)) ∧ ((∀ j, 0 ≤ j → j < d → g j ≠ a) → wR w t a = none)
def MP (G : Gq) (w0 w : Wd) (m t : Nat) (d : Int) (f : Int → Nat) (g : Int → Int) : Prop :=
  (Ow w m (kO 20) ∧ m ∉ wL w0 ∧ wI w m 2 = d ∧ wI w m 3 = d ∧ wI w m 10 = 0 ∧ wI w m 11 = 0 ∧ wI w m 4 = 12 ∧ wR w m 0 = some t ∧ wR w m 6 = none) ∧
  (0 ≤ d ∧ (d = 0 → wR w m 8 = none ∧ wR w m 9 = none) ∧ (0 < d → wR w m 8 = some (f 0) ∧ wR w m 9 = some (f (d - 1)))) ∧
  (Ow w t (kR 5 16) ∧ t ∉ wL w0 ∧ TBh w t d f g) ∧ ND G w0 w d f g
def LSh (G : Gq) (w0 w : Wd) (p m : Nat) (d : Int) (f : Int → Nat) (g : Int → Int) : Prop :=
  (Ow w p (kO 19) ∧ wR w p 0 = some m) ∧ ((d = 0 ∧ M0 w0 w m) ∨ ∃ t, MP G w0 w m t d f g)
section TD
variable {G : Gq} {w0 w w' u v : Wd} {S T : List Nat} {a b n mc ms p q m t : Nat} {d k i j x y : Int} {f : Int → Nat} {g : Int → Int}
theorem Ow.sR {c : Kd} {r : Option Nat} (h : Ow w b c) : Ow (uR w a j r) b c := h
theorem Ow.sI {c : Kd} (h : Ow w b c) : Ow (uI w a j x) b c := h
theorem Ow.sJ {c : Kd} (h : Ow w b c) : Ow (uJ w a j x) b c := h
theorem Ow.sF {c : Kd} {F : Int → Int} (h : Ow w b c) : Ow (uF w a F) b c := h
theorem Ow.sN {c : Kd} : Ow (uN w q c) q c := Ow.nw
theorem yIR {r : Option Nat} : wI (uR w a j r) b i = wI w b i := Eq.trans rfl rfl
theorem yIJ : wI (uJ w a j x) b i = wI w b i := Eq.trans rfl rfl
theorem yRI : wR (uI w a j x) b i = wR w b i := Eq.trans rfl rfl
theorem yRJ : wR (uJ w a j x) b i = wR w b i := Eq.trans rfl rfl
theorem yJI : wJ (uI w a j x) b i = wJ w b i := Eq.trans rfl rfl
theorem yJR {r : Option Nat} : wJ (uR w a j r) b i = wJ w b i := Eq.trans rfl rfl
theorem zI : wI (uI w a j x) b i = if b = a then (if i = j then x else wI w b i) else wI w b i := by
  by_cases h : b = a
  · subst h; rw [if_pos rfl]
    by_cases h2 : i = j
    · subst h2; rw [if_pos rfl, wI_uI_s]
    · rw [if_neg h2, wI_uI_j h2]
  · rw [if_neg h, wI_uI_a h]
theorem zR {r : Option Nat} : wR (uR w a j r) b i = if b = a then (if i = j then r else wR w b i) else wR w b i := by
  by_cases h : b = a
  · subst h; rw [if_pos rfl]
    by_cases h2 : i = j
    · subst h2; rw [if_pos rfl, wR_uR_s]
    · rw [if_neg h2, wR_uR_j h2]
  · rw [if_neg h, wR_uR_a h]
theorem zJ : wJ (uJ w a j x) b i = if b = a then (if i = j then x else wJ w b i) else wJ w b i := by
  by_cases h : b = a
  · subst h; rw [if_pos rfl]
    by_cases h2 : i = j
    · subst h2; rw [if_pos rfl, wJ_uJ_s]
    · rw [if_neg h2, wJ_uJ_j h2]
  · rw [if_neg h, wJ_uJ_a h]
theorem zIN {kk : Kd} : wI (uN w q kk) b i = if b = q then 0 else wI w b i := Eq.trans rfl rfl
theorem zRN {kk : Kd} : wR (uN w q kk) b i = if b = q then none else wR w b i := Eq.trans rfl rfl
theorem zJN {kk : Kd} : wJ (uN w q kk) b i = if b = q then 0 else wJ w b i := Eq.trans rfl rfl
theorem v_In_small {K : Option Nat → Wd → Prop} {v : Int} (h0 : 0 ≤ v) (h1 : v ≤ 4) (hK : BX G w (kX G v) v → K (some (kX G v)) w) : DP G M_In_valueOf [vI v] w mc ms K := by
  refine DC.wf fun hσ hx => ?_
  refine e_In_valueOf v ⟨fun h => by omega, fun h0 => ⟨fun h => by omega, fun h1 => ⟨inR_of (by omega) (by omega), by omega, by omega, ?_⟩⟩⟩
  have e : xr 1 (v + 128) = some (2 + (v + 128).toNat) := by
    unfold xr
    rw [if_pos rfl, if_pos (by omega)]
  rw [e]
  have hi : 2 + (v + 128).toNat < xN := by unfold xN; omega
  have hxk : xk (2 + (v + 128).toNat) = kO 16 := by
    unfold xk
    rw [if_neg (by omega), if_neg (by omega), if_pos (by omega)]
  refine hK ⟨hx.is hi hxk, ?_⟩
  rw [(hx _ hi).2.1]
  unfold xi
  rw [if_neg (by omega), if_pos (by omega), if_pos rfl]
  omega
theorem kX_is (hx : XOK G w) (h0 : 0 ≤ x) (h1 : x ≤ 4) : BX G w (kX G x) x := by
  have hi : 2 + (x + 128).toNat < xN := by unfold xN; omega
  refine ⟨hx.is hi ?_, ?_⟩
  · unfold xk
    rw [if_neg (by omega), if_neg (by omega), if_pos (by omega)]
  · rw [(hx _ hi).2.1]
    unfold xi
    rw [if_neg (by omega), if_pos (by omega), if_pos rfl]
    omega
theorem five {P : Int → Prop} (h0 : 0 ≤ x) (h1 : x ≤ 4) (h : P 0 ∧ P 1 ∧ P 2 ∧ P 3 ∧ P 4) : P x := by
  obtain ⟨a0, a1, a2, a3, a4⟩ := h
  have : x = 0 ∨ x = 1 ∨ x = 2 ∨ x = 3 ∨ x = 4 := by omega
  rcases this with rfl | rfl | rfl | rfl | rfl <;> assumption
theorem at16 (h0 : 0 ≤ x) (h1 : x ≤ 4) : iandq (((16 : Nat) : Int) - 1) x = x := five (P := fun x => iandq (((16 : Nat) : Int) - 1) x = x) h0 h1 (by decide)
theorem hash5 (h0 : 0 ≤ x) (h1 : x ≤ 4) : ixorq x (iushrq x 16) = x := five (P := fun x => ixorq x (iushrq x 16) = x) h0 h1 (by decide)
/-- how many at most -/
theorem pig (n : Nat) : ∀ (d : Int) (g : Int → Int), (∀ i, 0 ≤ i → i < d → 0 ≤ g i ∧ g i < (n : Int)) → (∀ i j, 0 ≤ i → i < d → 0 ≤ j → j < d → g i = g j → i = j) → d ≤ (n : Int) := by
  induction n with
  | zero =>
    intro d g h1 h2
    by_cases hd : d ≤ 0
    · exact hd
    · have := h1 0 (by omega) (by omega); omega
  | succ n ih =>
    intro d g h1 h2
    by_cases hd : d ≤ 0
    · omega
    by_cases he : ∃ j, 0 ≤ j ∧ j < d ∧ g j = (n : Int)
    · obtain ⟨j, j0, j1, ej⟩ := he
      have := ih (d - 1) (fun i => if i = j then g (d - 1) else g i) (fun i a b => by
        show 0 ≤ (if i = j then g (d - 1) else g i) ∧ (if i = j then g (d - 1) else g i) < (n : Int)
        by_cases e : i = j
        · rw [if_pos e]
          have h3 := h1 (d - 1) (by omega) (by omega)
          have h4 : g (d - 1) ≠ (n : Int) := fun h => by have := h2 j (d - 1) j0 j1 (by omega) (by omega) (ej.trans h.symm); omega
          omega
        · rw [if_neg e]
          have h3 := h1 i a (by omega)
          have h4 : g i ≠ (n : Int) := fun h => by have := h2 j i j0 j1 a (by omega) (ej.trans h.symm); omega
          omega) (fun i i' a b a' b' h => by
        have h : (if i = j then g (d - 1) else g i) = (if i' = j then g (d - 1) else g i') := h
        by_cases e : i = j <;> by_cases e' : i' = j
        · omega
        · rw [if_pos e, if_neg e'] at h
          have := h2 (d - 1) i' (by omega) (by omega) a' (by omega) h
          omega
        · rw [if_neg e, if_pos e'] at h
          have := h2 i (d - 1) a (by omega) (by omega) (by omega) h
          omega
        · rw [if_neg e, if_neg e'] at h
          exact h2 i i' a (by omega) a' (by omega) h)
      omega
    · have := ih d g (fun i a b => by
        have h3 := h1 i a b
        have h4 : g i ≠ (n : Int) := fun h => he ⟨i, a, b, h⟩
        omega) h2
      omega
theorem MP.le (h : MP G w0 w m t d f g) : d ≤ 5 := pig 5 d g (fun i a b => by have := (h.2.2.2.1 i a b).2.2.1; omega) (fun i j a b a' b' e => h.2.2.2.2 i j a b a' b' (Or.inr e))
theorem Kp.L (h : Kp S u w) (ha : a ∈ wL u) : a ∈ wL w := (h.2 a ha).1
/-- made -/
theorem v_Lx_init {K : Wd → Prop} (hp : Ow w p (kO 19)) (hw : ∀ b, b ∈ wL w0 → b ∈ wL w) (hc : 1 ≤ mc) (hs : 12 ≤ ms) (hK : ∀ m w', Fr G w m → Kp [p] w w' → LSh G w0 w' p m 0 f g → K w') : DV G M_Lx_init [vA p] w mc ms K := by
  refine e_Lx_init p ⟨1, 12, hc, hs, e_Hs_init p 16 1061158912 1 (e_Ab_init p (e_Ac_init p ⟨Nat.le_refl _, Nat.le_refl _, fun q hq => ?_⟩))⟩
  have hqp : p ≠ q := hq.ne (G := G) hp.is
  refine e_Lm_init q 16 _ (e_Hm_init q 16 _ (e_Am_init q ⟨fun _ => ⟨fun _ => ⟨fun h => absurd h (by decide +kernel), fun _ => e_Jxf58ca_isNaN _ ⟨fun _ => ⟨fun _ => ⟨Ow.nw, e_Hm_tableSizeFor 16 ⟨inR_of (by omega) (by omega), ?_⟩⟩, fun h => absurd rfl h⟩, fun h => absurd h (by decide +kernel)⟩⟩, fun h => absurd h (by decide)⟩, fun h => absurd h (by decide)⟩))
  refine e_In_numberOfLeadingZeros _ ⟨fun _ => ⟨fun _ => ⟨fun _ => ⟨fun _ => ⟨fun h => absurd h (by decide), fun _ => ⟨inR_of (by omega) (by omega), inR_of (by decide) (by decide), ?_⟩⟩, fun h => absurd h (by decide)⟩, fun h => absurd h (by decide)⟩, fun h => absurd h (by decide)⟩, fun h => absurd h (by decide)⟩
  have e : iushrq (-1) ((31 + (-2)) - (iushrq (iushrq (16 - 1) 2) 1)) = 15 := by decide
  rw [e]
  refine ⟨fun _ => ⟨fun _ => ⟨inR_of (by omega) (by omega), ?_⟩, fun h => absurd h (by decide)⟩, fun h => absurd h (by decide)⟩
  have hk1 : Kp [] w (uI (uI (uI (uJ (uN w q (kO 20)) q 5 (((1061158912 : UInt32).toNat : Nat) : Int)) q 4 (15 + 1)) q 11 0) q 10 0) := ((((Kp.rf.uN hq.1).uJ (Or.inr hq.1)).uI (Or.inr hq.1)).uI (Or.inr hq.1)).uI (Or.inr hq.1)
  have hO : Ow (uI (uI (uI (uJ (uN w q (kO 20)) q 5 (((1061158912 : UInt32).toNat : Nat) : Int)) q 4 (15 + 1)) q 11 0) q 10 0) q (kO 20) := (((Ow.sN (w := w)).sJ.sI).sI).sI
  refine ⟨hO, hp.kp hk1, hK q _ hq (hk1.nil.uR (Or.inl (by simp))) ⟨⟨(hp.kp hk1).sR, wR_uR_s⟩, Or.inl ⟨rfl, ?_⟩⟩⟩
  have hqp2 : ¬ q = p := fun e => hqp e.symm
  refine ⟨hO.sR, fun h => hq.1 (hw q h), ?_, ?_, ?_, ?_, ?_, ?_, ?_, ?_, ?_, ?_⟩ <;> simp [zI, zR, zJ, zIN, zRN, zJN, yIR, yIJ, yRI, yRJ, yJI, yJR, hqp2]
/-- cells of the set alone have changed -/
def Kt (w0 w w' : Wd) : Prop := ∃ S, Kp S w w' ∧ ∀ b, b ∈ S → b ∉ wL w0 ∧ (b ∈ wL w → wK w b = kO 20 ∨ wK w b = kO 21 ∨ wK w b = kR 5 16 ∨ wK w b = kO 23 ∨ wK w b = kO 15)
theorem Kt.rf : Kt w0 w w := ⟨[], Kp.rf, fun _ h => absurd h List.not_mem_nil⟩
theorem Kt.kp (h : Kt w0 w w') (hk : Kp [] w0 w) : Kp [] w0 w' := by
  obtain ⟨S, h1, h2⟩ := h
  exact hk.trd h1 (fun b hb => Or.inr (h2 b hb).1)
theorem Kt.tr (h1 : Kt w0 u w) (h2 : Kt w0 w v) : Kt w0 u v := by
  obtain ⟨S, a1, a2⟩ := h1
  obtain ⟨T, b1, b2⟩ := h2
  refine ⟨S ++ T, (a1.sub (fun b hb => List.mem_append_left _ hb)).tr (b1.sub (fun b hb => List.mem_append_right _ hb)), fun b hb => ?_⟩
  rcases List.mem_append.mp hb with hb | hb
  · exact a2 b hb
  · refine ⟨(b2 b hb).1, fun hm => ?_⟩
    obtain ⟨c1, c2, -⟩ := a1.2 b hm
    rw [← c2]
    exact (b2 b hb).2 c1
theorem Kt.of (h : Kp [] w w') : Kt w0 w w' := ⟨[], h, fun _ h => absurd h List.not_mem_nil⟩
theorem Kt.us {σ : St} (h : Kt w0 w w') : Kt w0 (uS w σ) (uS w' σ) := by
  obtain ⟨S, h1, h2⟩ := h
  exact ⟨S, h1.us, h2⟩
theorem Kt.at (h : Kt w0 w w') {kk : Kd} (hO : Ow w b kk) (n1 : kk ≠ kO 20) (n2 : kk ≠ kO 21) (n3 : kk ≠ kR 5 16) (n4 : kk ≠ kO 23) (n5 : kk ≠ kO 15) : (∀ j, wI w' b j = wI w b j) ∧ ∀ j, wR w' b j = wR w b j := by
  obtain ⟨S, h1, h2⟩ := h
  have hn : b ∉ S := fun hb => by
    rcases (h2 b hb).2 hO.1 with e | e | e | e | e <;> rw [hO.2] at e
    · exact n1 e
    · exact n2 e
    · exact n3 e
    · exact n4 e
    · exact n5 e
  exact ⟨fun j => h1.I hO.1 hn, fun j => h1.R hO.1 hn⟩
theorem Kt.ow (h : Kt w0 w w') {kk : Kd} (hO : Ow w b kk) : Ow w' b kk := by
  obtain ⟨S, h1, h2⟩ := h
  exact hO.kp h1
theorem y_putNew {K : Option Nat → Wd → Prop} (hM : MP G w0 w m t d f g) (hw : ∀ b, b ∈ wL w0 → b ∈ wL w) (x0 : 0 ≤ x) (x1 : x ≤ 4) (hn : ∀ j, 0 ≤ j → j < d → g j ≠ x) (hc : 1 ≤ mc) (hs : 6 ≤ ms)
    (hK : ∀ q w', Kt w0 w w' → MP G w0 w' m t (d + 1) (fun j => if j = d then q else f j) (fun j => if j = d then x else g j) → K none w') :
    DP G M_Lm_newNode [vA m, vI x, vA (kX G x), vA (xa G 285), vP none] w mc ms (fun v25 w24 => (Ow w24 t (kR 5 16)) ∧ ∃ a27 : Nat, v25 = some a27 ∧ ((Els G w24 a27 "java/util/HashMap$Node") ∧ (inR ((wI w24 m 3) + 1)) ∧ (Ow (uR w24 t x (some a27)) m (kO 20)) ∧ (inR ((wI w24 m 2) + 1)) ∧ (((wI w24 m 2) + 1) ≤ (wI w24 m 4) → DV G M_Lm_afterNodeInsertion [vA m, vI 1] (uI (uI (uR w24 t x (some a27)) m 3 ((wI w24 m 3) + 1)) m 2 ((wI w24 m 2) + 1)) 0 0 (fun w34 => K none w34)) ∧ (¬ ((wI w24 m 2) + 1) ≤ (wI w24 m 4) → False))) := by
  have hd5 := hM.le
  obtain ⟨⟨m1, m2, m3, m4, m5, m6, m7, m8, m9⟩, ⟨d0, dz, dp⟩, ⟨t1, t2, t3⟩, n1, n2⟩ := id hM
  have hmt : m ≠ t := m1.kne t1 (by simp)
  have hfm : ∀ j, 0 ≤ j → j < d → f j ≠ m := fun j a b => (n1 j a b).1.kne m1 (by simp)
  have hft : ∀ j, 0 ≤ j → j < d → f j ≠ t := fun j a b => (n1 j a b).1.kne t1 (by simp)
  refine e_Lm_newNode m x _ _ none ⟨hc, hs, fun q hq => e_Ln_init q x _ _ none (e_Hn_init q x _ _ none ⟨Ow.nw, ?_⟩)⟩
  have hmq : m ≠ q := hq.ne (G := G) m1.is
  have htq : t ≠ q := hq.ne (G := G) t1.is
  have hfq : ∀ j, 0 ≤ j → j < d → f j ≠ q := fun j a b => hq.ne (G := G) (n1 j a b).1.is
  have fin : ∀ (S : List Nat) (w6 : Wd), Kp S w w6 → (∀ b, b ∈ S → b = m ∨ (0 < d ∧ b = f (d - 1))) → Ow w6 q (kO 21) → wI w6 q 0 = x → wR w6 q 1 = some (kX G x) → wR w6 q 2 = some (xa G 285) → wR w6 q 5 = none → wR w6 m 8 = some (if d = 0 then q else f 0) → wR w6 m 9 = some q → (∀ j, j ≠ 8 → j ≠ 9 → wR w6 m j = wR w m j) → (∀ j, wI w6 m j = wI w m j) → (0 < d → (∀ j, wI w6 (f (d - 1)) j = wI w (f (d - 1)) j) ∧ wR w6 (f (d - 1)) 5 = some q ∧ (∀ j, j ≠ 5 → j ≠ 4 → wR w6 (f (d - 1)) j = wR w (f (d - 1)) j)) →
      (Ow w6 t (kR 5 16)) ∧ ∃ a27 : Nat, some q = some a27 ∧ ((Els G w6 a27 "java/util/HashMap$Node") ∧ (inR ((wI w6 m 3) + 1)) ∧ (Ow (uR w6 t x (some a27)) m (kO 20)) ∧ (inR ((wI w6 m 2) + 1)) ∧ (((wI w6 m 2) + 1) ≤ (wI w6 m 4) → DV G M_Lm_afterNodeInsertion [vA m, vI 1] (uI (uI (uR w6 t x (some a27)) m 3 ((wI w6 m 3) + 1)) m 2 ((wI w6 m 2) + 1)) 0 0 (fun w34 => K none w34)) ∧ (¬ ((wI w6 m 2) + 1) ≤ (wI w6 m 4) → False)) := by
    intro S w6 hk hS q1 q2 q3 q4 q5 e8 e9 eR eI eL
    have o1 : Ow w6 m (kO 20) := m1.kp hk
    have o2 : Ow w6 t (kR 5 16) := t1.kp hk
    have htS : t ∉ S := fun h => by
      rcases hS t h with e | ⟨h0, e⟩
      · exact hmt e.symm
      · exact hft _ (by omega) (by omega) e.symm
    have hfS : ∀ j, 0 ≤ j → j < d - 1 → f j ∉ S := fun j a b h => by
      rcases hS _ h with e | ⟨h0, e⟩
      · exact hfm j a (by omega) e
      · have := n2 j (d - 1) a (by omega) (by omega) (by omega) (Or.inl e); omega
    rw [eI 2, eI 3, eI 4, m3, m4, m7]
    refine ⟨o2, q, rfl, ⟨21, _, q1.is, rfl, by decide +kernel⟩, inR_of (by omega) (by omega), o1.sR, inR_of (by omega) (by omega), fun _ => ?_, fun h => h (by omega)⟩
    have kt : Kt w0 w (uI (uI (uR w6 t x (some q)) m 3 (d + 1)) m 2 (d + 1)) := by
      refine ⟨m :: t :: S, ((((hk.sub (fun a ha => List.mem_cons_of_mem _ (List.mem_cons_of_mem _ ha))).uR (Or.inl (by simp))).uI (Or.inl (by simp))).uI (Or.inl (by simp))), fun b hb => ?_⟩
      rcases List.mem_cons.mp hb with rfl | hb
      · exact ⟨m2, fun _ => Or.inl m1.2⟩
      rcases List.mem_cons.mp hb with rfl | hb
      · exact ⟨t2, fun _ => Or.inr (Or.inr (Or.inl t1.2))⟩
      rcases hS b hb with rfl | ⟨h0, rfl⟩
      · exact ⟨m2, fun _ => Or.inl m1.2⟩
      · have := n1 (d - 1) (by omega) (by omega)
        exact ⟨this.2.1, fun _ => Or.inr (Or.inl this.1.2)⟩
    have hmt2 : ¬ t = m := fun e => hmt e.symm
    have mp : MP G w0 (uI (uI (uR w6 t x (some q)) m 3 (d + 1)) m 2 (d + 1)) m t (d + 1) (fun j => if j = d then q else f j) (fun j => if j = d then x else g j) := by
      refine ⟨⟨o1.sR.sI.sI, m2, ?_, ?_, ?_, ?_, ?_, ?_, ?_⟩, ⟨by omega, fun h => by omega, fun _ => ⟨?_, ?_⟩⟩, ⟨o2.sR.sI.sI, t2, fun a a0 a1 => ⟨fun j j0 j1 ej => ?_, fun hall => ?_⟩⟩, fun j j0 j1 => ?_, fun i j i0 i1 j0 j1 h => ?_⟩
      · rw [wI_uI_s]
      · rw [wI_uI_j (by decide), wI_uI_s]
      · rw [wI_uI_j (by decide), wI_uI_j (by decide), wI_uR, eI]; exact m5
      · rw [wI_uI_j (by decide), wI_uI_j (by decide), wI_uR, eI]; exact m6
      · rw [wI_uI_j (by decide), wI_uI_j (by decide), wI_uR, eI]; exact m7
      · rw [wR_uI, wR_uI, wR_uR_a hmt, eR 0 (by decide) (by decide)]; exact m8
      · rw [wR_uI, wR_uI, wR_uR_a hmt, eR 6 (by decide) (by decide)]; exact m9
      · rw [wR_uI, wR_uI, wR_uR_a hmt, e8]
        dsimp only
        by_cases hz : d = 0
        · rw [if_pos hz, if_pos (by omega)]
        · rw [if_neg hz, if_neg (by omega)]
      · rw [wR_uI, wR_uI, wR_uR_a hmt, e9, show d + 1 - 1 = d by omega]
        dsimp only
        rw [if_pos rfl]
      · rw [wR_uI, wR_uI]
        by_cases e : j = d
        · have ej : (if j = d then x else g j) = a := ej
          rw [if_pos e] at ej
          rw [← ej, wR_uR_s]
          show some q = some (if j = d then q else f j)
          rw [if_pos e]
        · have ej : (if j = d then x else g j) = a := ej
          rw [if_neg e] at ej
          have hne : a ≠ x := fun h => hn j j0 (by omega) (ej.trans h)
          rw [wR_uR_j hne, hk.R t1.1 htS, (t3 a a0 a1).1 j j0 (by omega) ej]
          show some (f j) = some (if j = d then q else f j)
          rw [if_neg e]
      · rw [wR_uI, wR_uI]
        have hne : a ≠ x := fun h => by
          have := hall d d0 (by omega)
          dsimp only at this
          rw [if_pos rfl] at this
          exact this h.symm
        rw [wR_uR_j hne, hk.R t1.1 htS]
        refine (t3 a a0 a1).2 (fun j j0 j1 => ?_)
        have := hall j j0 (by omega)
        dsimp only at this
        rw [if_neg (by omega)] at this
        exact this
      · by_cases e : j = d
        · have e1 : (if j = d then q else f j) = q := if_pos e
          have e2 : (if j = d then x else g j) = x := if_pos e
          show Ow _ (if j = d then q else f j) _ ∧ (if j = d then q else f j) ∉ _ ∧ (0 ≤ (if j = d then x else g j) ∧ (if j = d then x else g j) ≤ 4) ∧ wI _ (if j = d then q else f j) 0 = (if j = d then x else g j) ∧ wR _ (if j = d then q else f j) 1 = some (kX G (if j = d then x else g j)) ∧ wR _ (if j = d then q else f j) 2 = _ ∧ wR _ (if j = d then q else f j) 5 = _
          rw [e1, e2, wI_uI_a (fun e => hmq e.symm), wI_uI_a (fun e => hmq e.symm), wI_uR, wR_uI, wR_uI, wR_uR_a (fun e => htq e.symm), wR_uI, wR_uI, wR_uR_a (fun e => htq e.symm), wR_uI, wR_uI, wR_uR_a (fun e => htq e.symm), if_neg (by omega)]
          exact ⟨q1.sR.sI.sI, fun h => hq.1 (hw q h), ⟨x0, x1⟩, q2, q3, q4, q5⟩
        · have e1 : (if j = d then q else f j) = f j := if_neg e
          have e2 : (if j = d then x else g j) = g j := if_neg e
          show Ow _ (if j = d then q else f j) _ ∧ (if j = d then q else f j) ∉ _ ∧ (0 ≤ (if j = d then x else g j) ∧ (if j = d then x else g j) ≤ 4) ∧ wI _ (if j = d then q else f j) 0 = (if j = d then x else g j) ∧ wR _ (if j = d then q else f j) 1 = some (kX G (if j = d then x else g j)) ∧ wR _ (if j = d then q else f j) 2 = _ ∧ wR _ (if j = d then q else f j) 5 = if j + 1 < d + 1 then some (if j + 1 = d then q else f (j + 1)) else none
          have hj : j < d := by omega
          have h1 := hfm j j0 hj
          have h2 := hft j j0 hj
          obtain ⟨c1, c2, c3, c4, c5, c6, c7⟩ := n1 j j0 hj
          rw [e1, e2, wI_uI_a h1, wI_uI_a h1, wI_uR, wR_uI, wR_uI, wR_uR_a h2, wR_uI, wR_uI, wR_uR_a h2, wR_uI, wR_uI, wR_uR_a h2, if_pos (by omega)]
          by_cases hl : j = d - 1
          · obtain ⟨l1, l2, l3⟩ := eL (by omega)
            rw [hl] at c1 c2 c3 c4 c5 c6 c7 ⊢
            rw [l1, l2, l3 1 (by decide) (by decide), l3 2 (by decide) (by decide), if_pos (by omega)]
            exact ⟨(c1.kp hk).sR.sI.sI, c2, c3, c4, c5, c6, rfl⟩
          · have h3 := hfS j j0 (by omega)
            rw [hk.I c1.1 h3, hk.R c1.1 h3, hk.R c1.1 h3, hk.R c1.1 h3, if_neg (by omega)]
            rw [if_pos (by omega)] at c7
            exact ⟨(c1.kp hk).sR.sI.sI, c2, c3, c4, c5, c6, c7⟩
      · have h : (if i = d then q else f i) = (if j = d then q else f j) ∨ (if i = d then x else g i) = (if j = d then x else g j) := h
        by_cases e : i = d <;> by_cases e' : j = d
        · omega
        · rw [if_pos e, if_neg e', if_pos e, if_neg e'] at h
          exact (h.elim (fun h => absurd h.symm (hfq j j0 (by omega))) (fun h => absurd h.symm (hn j j0 (by omega))))
        · rw [if_neg e, if_pos e', if_neg e, if_pos e'] at h
          exact (h.elim (fun h => absurd h (hfq i i0 (by omega))) (fun h => absurd h (hn i i0 (by omega))))
        · rw [if_neg e, if_neg e', if_neg e, if_neg e'] at h
          exact n2 i j i0 (by omega) j0 (by omega) h
    refine e_Lm_afterNodeInsertion m 1 ⟨fun h => absurd h (by decide), fun _ => ⟨(o1.sR.sI.sI).is, fun _ => hK q _ kt mp, fun a _ => e_Lm_removeEldestEntry m a ⟨fun _ => hK q _ kt mp, fun h => absurd rfl h⟩⟩⟩
  have hqm : ¬ q = m := fun e => hmq e.symm
  have g1 : Kp [] w (uR (uR (uR (uI (uN w q (kO 21)) q 0 x) q 1 (some (kX G x))) q 2 (some (xa G 285))) q 3 none) := ((((Kp.rf.uN hq.1).uI (Or.inr hq.1)).uR (Or.inr hq.1)).uR (Or.inr hq.1)).uR (Or.inr hq.1)
  have oq : Ow (uR (uR (uR (uI (uN w q (kO 21)) q 0 x) q 1 (some (kX G x))) q 2 (some (xa G 285))) q 3 none) q (kO 21) := ((((Ow.sN (w := w)).sI).sR).sR).sR
  have v0 : wI (uR (uR (uR (uI (uN w q (kO 21)) q 0 x) q 1 (some (kX G x))) q 2 (some (xa G 285))) q 3 none) q 0 = x := by simp [zI, yIR]
  have v1 : wR (uR (uR (uR (uI (uN w q (kO 21)) q 0 x) q 1 (some (kX G x))) q 2 (some (xa G 285))) q 3 none) q 1 = some (kX G x) := by simp [zR]
  have v2 : wR (uR (uR (uR (uI (uN w q (kO 21)) q 0 x) q 1 (some (kX G x))) q 2 (some (xa G 285))) q 3 none) q 2 = some (xa G 285) := by simp [zR]
  have v5 : wR (uR (uR (uR (uI (uN w q (kO 21)) q 0 x) q 1 (some (kX G x))) q 2 (some (xa G 285))) q 3 none) q 5 = none := by simp [zR, yRI, zRN]
  generalize uR (uR (uR (uI (uN w q (kO 21)) q 0 x) q 1 (some (kX G x))) q 2 (some (xa G 285))) q 3 none = w5 at g1 oq v0 v1 v2 v5 ⊢
  have om : Ow w5 m (kO 20) := m1.kp g1
  have rI : ∀ j, wI w5 m j = wI w m j := fun j => g1.I m1.1 List.not_mem_nil
  have rR : ∀ j, wR w5 m j = wR w m j := fun j => g1.R m1.1 List.not_mem_nil
  refine ⟨om.is, e_Lm_linkNodeAtEnd m q ⟨om.is, (rI 11).trans m6, om, fun hz => ?_, fun a ha => ?_⟩⟩
  · rw [rR] at hz
    have hd : d = 0 := by
      by_cases h : d = 0
      · exact h
      · have := (dp (by omega)).2
        rw [hz] at this
        cases this
    refine fin [m] _ ((g1.nil.uR (Or.inl (by simp))).uR (Or.inl (by simp))) (fun b hb => Or.inl (List.mem_singleton.mp hb)) oq.sR.sR (yIR.trans (yIR.trans v0)) ?_ ?_ ?_ ?_ ?_ (fun j h8 h9 => ?_) (fun j => yIR.trans (yIR.trans (rI j))) (fun h => by omega)
    · simp [zR, hqm, v1]
    · simp [zR, hqm, v2]
    · simp [zR, hqm, v5]
    · rw [wR_uR_s, if_pos hd]
    · rw [wR_uR_j (by decide), wR_uR_s]
    · rw [wR_uR_j h8, wR_uR_j h9]; exact rR j
  · rw [rR] at ha
    have hd : 0 < d := by
      by_cases h : d = 0
      · have := (dz h).2
        rw [ha] at this
        cases this
      · omega
    have hl := (dp hd).2
    rw [ha] at hl
    have ea : a = f (d - 1) := Option.some.inj hl
    obtain ⟨c1, c2, c3, c4, c5, c6, c7⟩ := n1 (d - 1) (by omega) (by omega)
    rw [← ea] at c1
    have ham : a ≠ m := c1.kne m1 (by simp)
    have haq : a ≠ q := hq.ne (G := G) c1.is
    have hqa : ¬ q = a := fun e => haq e.symm
    have hma : ¬ m = a := fun e => ham e.symm
    have hmq2 : ¬ m = q := hmq
    have haq2 : ¬ a = q := haq
    have ham2 : ¬ a = m := ham
    have oa : Ow w5 a (kO 21) := c1.kp g1
    refine ⟨oq.sR, oa.sR.sR, fin [m, a] _ (((g1.nil.uR (Or.inl (by simp))).uR (Or.inr hq.1)).uR (Or.inl (by simp))) (fun b hb => ?_) oq.sR.sR.sR (yIR.trans (yIR.trans (yIR.trans v0))) ?_ ?_ ?_ ?_ ?_ (fun j h8 h9 => ?_) (fun j => yIR.trans (yIR.trans (yIR.trans (rI j)))) (fun h => ⟨fun j => ?_, ?_, fun j h5 h4 => ?_⟩)⟩
    · rcases List.mem_cons.mp hb with rfl | hb
      · exact Or.inl rfl
      · exact Or.inr ⟨hd, (List.mem_singleton.mp hb).trans ea⟩
    · simp [zR, hqm, hqa, v1]
    · simp [zR, hqm, hqa, v2]
    · simp [zR, hqm, hqa, v5]
    · rw [wR_uR_a hma, wR_uR_a hmq, wR_uR_j (by decide), rR, (dp hd).1, if_neg (by omega)]
    · rw [wR_uR_a hma, wR_uR_a hmq, wR_uR_s]
    · rw [wR_uR_a hma, wR_uR_a hmq, wR_uR_j h9]; exact rR j
    · rw [← ea]; exact yIR.trans (yIR.trans (yIR.trans (g1.I c1.1 List.not_mem_nil)))
    · rw [← ea, wR_uR_s]
    · rw [← ea, wR_uR_j h5, wR_uR_a haq, wR_uR_a ham]; exact g1.R c1.1 List.not_mem_nil
theorem uR_same {r : Option Nat} (h : wR w a j = r) : uR w a j r = w := by
  have e : upr (wR w) a j r = wR w := by
    funext b i
    refine (zR (w := w) (a := a) (j := j) (r := r) (b := b) (i := i)).trans ?_
    by_cases h1 : b = a
    · subst h1
      rw [if_pos rfl]
      by_cases h2 : i = j
      · subst h2; rw [if_pos rfl]; exact h.symm
      · rw [if_neg h2]
    · rw [if_neg h1]
  show (wS w, wL w, wK w, wI w, upr (wR w) a j r, wJ w) = w
  rw [e]
  rfl
/-- one more, where it isn't in yet -/
theorem v_Hs_add {K : Int → Wd → Prop} (hL : LSh G w0 w p m d f g) (hw : ∀ b, b ∈ wL w0 → b ∈ wL w) (x0 : 0 ≤ x) (x1 : x ≤ 4) (hc : 2 ≤ mc) (hs : 22 ≤ ms)
    (h1 : (∃ j, 0 ≤ j ∧ j < d ∧ g j = x) → K 0 w)
    (h0 : (∀ j, 0 ≤ j → j < d → g j ≠ x) → ∀ q w', Kt w0 w w' → LSh G w0 w' p m (d + 1) (fun j => if j = d then q else f j) (fun j => if j = d then x else g j) → K 1 w') : DI G M_Hs_add [vA p, vA (kX G x)] w mc ms K := by
  refine DC.wf fun hσ hx => ?_
  obtain ⟨⟨p1, p2⟩, hL⟩ := hL
  have hb := kX_is hx x0 x1
  have hOm : Ow w m (kO 20) := by
    rcases hL with ⟨_, h⟩ | ⟨t, h⟩
    · exact h.1
    · exact h.1.1
  have hfin : (∀ j, 0 ≤ j → j < d → g j ≠ x) → ∀ q w', Kt w0 w w' → ∀ t, MP G w0 w' m t (d + 1) (fun j => if j = d then q else f j) (fun j => if j = d then x else g j) → K 1 w' := fun hn q w' kt t mp => h0 hn q w' kt ⟨⟨kt.ow p1, ((kt.at p1 (by simp) (by simp) (by simp) (by simp) (by simp)).2 0).trans p2⟩, Or.inr ⟨t, mp⟩⟩
  refine e_Hs_add p _ ⟨p1.is, m, p2, 2, 22, hc, hs, hOm.is, e_Hm_put m _ _ (e_Hm_hashC16 _ ⟨hb.1, e_In_hashCode_8abf5 _ ⟨hb.1, e_In_hashCode_0f7a4 _ ?_⟩⟩)⟩
  rw [hb.2, hash5 x0 x1]
  refine ⟨2, 22, Nat.le_refl _, Nat.le_refl _, hOm.is, e_Hm_putValC16 m x _ _ 0 1 ⟨hOm.is, fun hz => ?_, fun t ht => ?_⟩⟩
  · obtain ⟨hd, hM⟩ : d = 0 ∧ M0 w0 w m := by
      rcases hL with h | ⟨t, hM⟩
      · exact h
      · have := hM.1.2.2.2.2.2.2.2.1
        rw [hz] at this
        cases this
    obtain ⟨m1, m2, m3, m4, m5, m6, m7, m8, m9, m10, m11, m12⟩ := id hM
    have hn : ∀ j, 0 ≤ j → j < d → g j ≠ x := fun j a b => by omega
    refine ⟨1, 16, by omega, by omega, e_Hm_resize m ⟨m1.is, fun _ => ?_, fun a ha => by rw [hz] at ha; cases ha⟩⟩
    rw [m7, m12]
    refine ⟨fun h => absurd h (by decide), fun _ => ⟨?_, fun h => absurd h (by decide), fun _ => ⟨fun h => absurd h (by decide +kernel), fun _ => ⟨m1, 16, rfl, by decide, Nat.le_refl _, Nat.le_refl _, fun q hq => ?_⟩⟩⟩⟩
    · unfold vf_n32; decide +kernel
    have e12 : f2q (FP.fmul (FP.i2f (Int32.ofInt 16)) (UInt32.ofNat (1061158912 : Int).toNat)) = 12 := by decide +kernel
    rw [e12] at hq ⊢
    have hq0 := hq
    have hq : Fr G w q := hq
    have hmq : m ≠ q := hq.ne (G := G) m1.is
    have hqm : ¬ q = m := fun e => hmq e.symm
    have hmq2 : ¬ m = q := hmq
    have om : Ow (uR (uN (uI w m 4 12) q (kR 5 16)) m 0 (some q)) m (kO 20) := ((m1.sI (a := m) (j := 4) (x := 12)).nu (G := G) (k2 := kR 5 16) hq0).sR
    have oq : Ow (uR (uN (uI w m 4 12) q (kR 5 16)) m 0 (some q)) q (kR 5 16) := (Ow.sN (w := uI w m 4 12)).sR
    have kp1 : Kp [m] w (uR (uN (uI w m 4 12) q (kR 5 16)) m 0 (some q)) := ((Kp.rf.uI (Or.inl (by simp))).uN hq.1).uR (Or.inl (by simp))
    have rq : ∀ i, wR (uR (uN (uI w m 4 12) q (kR 5 16)) m 0 (some q)) q i = none := fun i => by simp [zR, zRN, hqm]
    have mp : MP G w0 (uR (uN (uI w m 4 12) q (kR 5 16)) m 0 (some q)) m q d f g := by
      refine ⟨⟨om, m2, ?_, ?_, ?_, ?_, ?_, ?_, ?_⟩, ⟨by omega, fun _ => ⟨?_, ?_⟩, fun h => by omega⟩, ⟨oq, fun h => hq.1 (hw q h), fun a _ _ => ⟨fun j a b => by omega, fun _ => rq a⟩⟩, ⟨fun j a b => by omega, fun i j a b => by omega⟩⟩ <;> simp [zR, zI, zIN, zRN, yIR, yRI, hmq2, m3, m4, m5, m6, m9, m10, m11, hd]
    refine ⟨q, rfl, 16, oq.is, inR_of (by decide) (by decide), inR_of (by decide) (by decide), ?_⟩
    rw [at16 x0 x1, rq]
    refine ⟨by omega, by omega, fun _ => ⟨1, 6, by omega, by omega, ?_⟩, fun a ha => by cases ha⟩
    refine y_putNew (K := fun v w => (v = none → K 1 w) ∧ ∀ a, v = some a → K 0 w) mp (fun b hb => kp1.L (hw b hb)) x0 x1 hn (Nat.le_refl _) (Nat.le_refl _) (fun q2 w' kt mp2 => ⟨fun _ => ?_, fun a ha => by cases ha⟩)
    refine hfin hn q2 w' (Kt.tr ⟨[m], kp1, fun b hb => ?_⟩ kt) _ mp2
    rw [List.mem_singleton.mp hb]
    exact ⟨m2, fun _ => Or.inl m1.2⟩
  · rcases hL with ⟨hd, hM⟩ | ⟨t', hM⟩
    · have := hM.2.2.2.2.2.2.2.1
      rw [ht] at this
      cases this
    obtain ⟨⟨m1, m2, m3, m4, m5, m6, m7, m8, m9⟩, ⟨d0, dz, dp⟩, ⟨t1, t2, t3⟩, n1, n2⟩ := id hM
    have et : t = t' := Option.some.inj (ht.symm.trans m8)
    subst et
    refine ⟨16, t1.is, inR_of (by decide) (by decide), fun _ => ⟨inR_of (by decide) (by decide), ?_⟩, fun h => absurd h (by decide)⟩
    rw [at16 x0 x1]
    refine ⟨x0, by omega, fun hz => ⟨1, 6, by omega, by omega, ?_⟩, fun a ha => ?_⟩
    · have hn : ∀ j, 0 ≤ j → j < d → g j ≠ x := fun j a b e => by
        have := (t3 x x0 (by omega)).1 j a b e
        rw [hz] at this
        cases this
      exact y_putNew (K := fun v w => (v = none → K 1 w) ∧ ∀ a, v = some a → K 0 w) hM hw x0 x1 hn (Nat.le_refl _) (Nat.le_refl _) (fun q2 w' kt mp2 => ⟨fun _ => hfin hn q2 w' kt _ mp2, fun a ha => by cases ha⟩)
    · have hex : ∃ j, 0 ≤ j ∧ j < d ∧ g j = x := by
        by_cases h : ∃ j, 0 ≤ j ∧ j < d ∧ g j = x
        · exact h
        · have := (t3 x x0 (by omega)).2 (fun j a b e => h ⟨j, a, b, e⟩)
          rw [ha] at this
          cases this
      obtain ⟨j, j0, j1, ej⟩ := hex
      have ea : a = f j := Option.some.inj (ha.symm.trans ((t3 x x0 (by omega)).1 j j0 j1 ej))
      subst ea
      obtain ⟨c1, c2, c3, c4, c5, c6, c7⟩ := n1 j j0 j1
      rw [ej] at c4 c5
      refine ⟨c1.is, fun hne => hne c4, fun _ => ⟨fun _ => ⟨fun _ => ⟨c1, ?_⟩, fun h => absurd rfl h⟩, fun hne => hne c5⟩⟩
      rw [uR_same c6, c6]
      exact e_Lm_afterNodeAccess m (f j) ⟨m1.is, m6, m5, fun h => (by cases h), fun _ _ => h1 ⟨j, j0, j1, ej⟩⟩
/-- the iterator: k of them told -/
def KI (G : Gq) (w : Wd) (it m : Nat) (d k : Int) (f : Int → Nat) (g : Int → Int) : Prop :=
  (Ow w it (kO 23) ∧ wR w it 0 = (if k < d then some (f k) else none) ∧ wI w it 2 = d ∧ wI w it 3 = 0 ∧ wR w it 4 = some m) ∧ (Ow w m (kO 20) ∧ wI w m 3 = d) ∧
  ∀ j, 0 ≤ j → j < d → (Ow w (f j) (kO 21) ∧ wR w (f j) 1 = some (kX G (g j)) ∧ wR w (f j) 5 = if j + 1 < d then some (f (j + 1)) else none) ∧ (0 ≤ g j ∧ g j ≤ 4)
theorem KI.k0 {it : Nat} (h : KI G w it m d k f g) (hk : Kp [] w w') : KI G w' it m d k f g := by
  obtain ⟨⟨a1, a2, a3, a4, a5⟩, ⟨b1, b2⟩, c⟩ := h
  refine ⟨⟨a1.kp hk, (hk.R a1.1 List.not_mem_nil).trans a2, (hk.I a1.1 List.not_mem_nil).trans a3, (hk.I a1.1 List.not_mem_nil).trans a4, (hk.R a1.1 List.not_mem_nil).trans a5⟩, ⟨b1.kp hk, (hk.I b1.1 List.not_mem_nil).trans b2⟩, fun j x y => ?_⟩
  obtain ⟨⟨c1, c2, c3⟩, c4⟩ := c j x y
  exact ⟨⟨c1.kp hk, (hk.R c1.1 List.not_mem_nil).trans c2, (hk.R c1.1 List.not_mem_nil).trans c3⟩, c4⟩
theorem v_Hs_iterator {K : Option Nat → Wd → Prop} (hL : LSh G w0 w p m d f g) (hw : ∀ b, b ∈ wL w0 → b ∈ wL w) (hc : 2 ≤ mc) (hs : 7 ≤ ms) (hK : ∀ it w', Kt w0 w w' → it ∉ wL w0 → KI G w' it m d 0 f g → K (some it) w') : DP G M_Hs_iterator [vA p] w mc ms K := by
  obtain ⟨⟨p1, p2⟩, hL⟩ := hL
  obtain ⟨m1, m2, h3, h6, h8, hn⟩ : Ow w m (kO 20) ∧ m ∉ wL w0 ∧ wI w m 3 = d ∧ wR w m 6 = none ∧ wR w m 8 = (if 0 < d then some (f 0) else none) ∧ ∀ j, 0 ≤ j → j < d → (Ow w (f j) (kO 21) ∧ wR w (f j) 1 = some (kX G (g j)) ∧ wR w (f j) 5 = if j + 1 < d then some (f (j + 1)) else none) ∧ (0 ≤ g j ∧ g j ≤ 4) := by
    rcases hL with ⟨hd, h⟩ | ⟨t, h⟩
    · refine ⟨h.1, h.2.1, h.2.2.2.1.trans hd.symm, h.2.2.2.2.2.2.2.2.1, ?_, fun j a b => by omega⟩
      rw [if_neg (by omega)]
      exact h.2.2.2.2.2.2.2.2.2.1
    · refine ⟨h.1.1, h.1.2.1, h.1.2.2.2.1, h.1.2.2.2.2.2.2.2.2, ?_, fun j a b => ?_⟩
      · by_cases hz : 0 < d
        · rw [if_pos hz]; exact (h.2.1.2.2 hz).1
        · have := h.2.1.1
          rw [if_neg hz]; exact (h.2.1.2.1 (by omega)).1
      · obtain ⟨c1, c2, c3, c4, c5, c6, c7⟩ := h.2.2.2.1 j a b
        exact ⟨⟨c1, c5, c7⟩, c3⟩
  refine e_Hs_iterator p ⟨p1.is, m, p2, 1, 2, by omega, by omega, m1.is, e_Lm_keySet m ⟨1, 2, Nat.le_refl _, Nat.le_refl _, m1.is, e_Lm_sequencedKeySet m ⟨m1.is, fun _ => ⟨Nat.le_refl _, Nat.le_refl _, fun q hq => ?_⟩, fun a ha => (by rw [h6] at ha; cases ha)⟩⟩⟩
  have hmq : m ≠ q := hq.ne (G := G) m1.is
  refine e_Lq_init q m 0 ⟨Ow.nw, e_Ab_init q (e_Ac_init q ⟨Or.inl rfl, m1.nu hq, ?_⟩)⟩
  have k1 : Kp [m] w (uR (uI (uR (uN w q (kO 22)) q 1 (some m)) q 0 0) m 6 (some q)) := (((Kp.rf.uN hq.1).uR (Or.inr hq.1)).uI (Or.inr hq.1)).uR (Or.inl (by simp))
  have oq : Ow (uR (uI (uR (uN w q (kO 22)) q 1 (some m)) q 0 0) m 6 (some q)) q (kO 22) := (((Ow.sN (w := w)).sR).sI).sR
  have q0 : wI (uR (uI (uR (uN w q (kO 22)) q 1 (some m)) q 0 0) m 6 (some q)) q 0 = 0 := yIR.trans wI_uI_s
  have q1 : wR (uR (uI (uR (uN w q (kO 22)) q 1 (some m)) q 0 0) m 6 (some q)) q 1 = some m := (wR_uR_a hmq.symm).trans (yRI.trans wR_uR_s)
  have r3 : wI (uR (uI (uR (uN w q (kO 22)) q 1 (some m)) q 0 0) m 6 (some q)) m 3 = d := yIR.trans ((wI_uI_a hmq).trans (yIR.trans ((wI_uN (k := kO 22) hmq).trans h3)))
  have r8 : wR (uR (uI (uR (uN w q (kO 22)) q 1 (some m)) q 0 0) m 6 (some q)) m 8 = (if 0 < d then some (f 0) else none) := (wR_uR_j (by decide)).trans (yRI.trans ((wR_uR_a hmq).trans ((wR_uN (k := kO 22) hmq).trans h8)))
  generalize uR (uI (uR (uN w q (kO 22)) q 1 (some m)) q 0 0) m 6 (some q) = w1 at k1 oq q0 q1 r3 r8 ⊢
  refine ⟨q, rfl, 1, 5, by omega, by omega, oq.is, e_Lq_iterator q ⟨Nat.le_refl _, Nat.le_refl _, fun it hit => ⟨(oq.nu hit).is, ?_, m, ?_, ?_⟩⟩⟩
  · exact (wI_uN (hit.ne (G := G) oq.is)).trans q0
  · exact (wR_uN (hit.ne (G := G) oq.is)).trans q1
  have m1' : Ow w1 m (kO 20) := m1.kp k1
  have hmi : m ≠ it := hit.ne (G := G) m1'.is
  have him : it ≠ m := fun e => hmi e.symm
  refine e_Lk_init it m 0 (e_Lh_init it m 0 ⟨Ow.nw, Or.inl rfl, fun _ => ⟨((m1'.nu hit).sR.sI).is, ?_⟩, fun h => absurd rfl h⟩)
  have e8 : wR (uR (uN w1 it (kO 23)) it 4 (some m)) m 8 = (if 0 < d then some (f 0) else none) := (wR_uR_a hmi).trans ((wR_uN (k := kO 23) hmi).trans r8)
  have e3 : wI (uI (uR (uN w1 it (kO 23)) it 4 (some m)) it 3 0) m 3 = d := (wI_uI_a hmi).trans (yIR.trans ((wI_uN (k := kO 23) hmi).trans r3))
  rw [e8, e3]
  have k2 : Kp [] w1 (uR (uI (uR (uI (uR (uN w1 it (kO 23)) it 4 (some m)) it 3 0) it 0 (if 0 < d then some (f 0) else none)) it 2 d) it 1 none) := (((((Kp.rf.uN hit.1).uR (Or.inr hit.1)).uI (Or.inr hit.1)).uR (Or.inr hit.1)).uI (Or.inr hit.1)).uR (Or.inr hit.1)
  have k12 := k1.tr (k2.nil (S := [m]))
  refine hK it _ ⟨[m], k12, fun b hb => by rw [List.mem_singleton.mp hb]; exact ⟨m2, fun _ => Or.inl m1.2⟩⟩ (fun h => hit.1 (k1.L (hw it h))) ⟨⟨(((((Ow.sN (w := w1)).sR).sI).sR).sI).sR, ?_, yIR.trans wI_uI_s, ?_, ?_⟩, ⟨m1'.kp k2, (k2.I m1'.1 List.not_mem_nil).trans r3⟩, fun j a b => ?_⟩
  · exact (wR_uR_j (by decide)).trans (yRI.trans wR_uR_s)
  · exact yIR.trans ((wI_uI_j (by decide)).trans (yIR.trans wI_uI_s))
  · exact (wR_uR_j (by decide)).trans (yRI.trans ((wR_uR_j (by decide)).trans (yRI.trans wR_uR_s)))
  · obtain ⟨⟨c1, c2, c3⟩, c4⟩ := hn j a b
    have hs : f j ∉ [m] := fun h => (c1.kne m1 (by simp)) (List.mem_singleton.mp h)
    exact ⟨⟨c1.kp k12, (k12.R c1.1 hs).trans c2, (k12.R c1.1 hs).trans c3⟩, c4⟩
theorem v_Lh_hasNext {K : Int → Wd → Prop} {it : Nat} (h : KI G w it m d k f g) (h1 : k < d → K 1 w) (h0 : ¬ k < d → K 0 w) : DI G M_Lh_hasNext [vA it] w mc ms K := by
  have e := h.1.2.1
  refine e_Lh_hasNext it ⟨h.1.1.is, fun hz => h0 (fun hk => ?_), fun a ha => h1 ?_⟩
  · rw [if_pos hk, hz] at e; cases e
  · by_cases hk : k < d
    · exact hk
    · rw [if_neg hk, ha] at e; cases e
theorem v_Lk_next {K : Option Nat → Wd → Prop} {it : Nat} (h : KI G w it m d k f g) (k0 : 0 ≤ k) (k1 : k < d) (hn : it ∉ wL w0) (hK : ∀ w', Kt w0 w w' → KI G w' it m d (k + 1) f g → K (some (kX G (g k))) w') : DP G M_Lk_next [vA it] w mc ms K := by
  obtain ⟨⟨a1, a2, a3, a4, a5⟩, ⟨b1, b2⟩, c⟩ := id h
  obtain ⟨⟨c1, c2, c3⟩, c4⟩ := c k k0 k1
  rw [if_pos k1] at a2
  refine e_Lk_next it ⟨a1.is, e_Lh_nextNode it ⟨a1.is, m, a5, b1.is, fun _ => ⟨fun hz => (by rw [a2] at hz; cases hz), fun a ha => ?_⟩, fun hne => hne (b2.trans a3.symm)⟩⟩
  have ea : a = f k := Option.some.inj (ha.symm.trans a2)
  subst ea
  have hki : f k ≠ it := c1.kne a1 (by simp)
  have kp : Kp [it] w (uR (uR w it 1 (some (f k))) it 0 (wR (uR w it 1 (some (f k))) (f k) 5)) := (Kp.rf.uR (Or.inl (by simp))).uR (Or.inl (by simp))
  refine ⟨a1, a4, c1.sR.is, f k, rfl, (c1.kp kp).is, e_Hn_getKey (f k) ⟨(c1.kp kp).is, ?_⟩⟩
  rw [wR_uR_a hki, wR_uR_a hki, c2]
  have e5 : wR (uR w it 1 (some (f k))) (f k) 5 = (if k + 1 < d then some (f (k + 1)) else none) := (wR_uR_a hki).trans c3
  rw [e5] at kp ⊢
  refine hK _ ⟨[it], kp, fun b hb => by rw [List.mem_singleton.mp hb]; exact ⟨hn, fun _ => Or.inr (Or.inr (Or.inr (Or.inl a1.2)))⟩⟩ ⟨⟨a1.kp kp, wR_uR_s, ?_, ?_, ?_⟩, ⟨b1.kp kp, (kp.I b1.1 ?_).trans b2⟩, fun j x y => ?_⟩
  · exact yIR.trans (yIR.trans a3)
  · exact yIR.trans (yIR.trans a4)
  · rw [wR_uR_j (by decide), wR_uR_j (by decide)]; exact a5
  · exact fun h => (b1.kne a1 (by simp)) (List.mem_singleton.mp h)
  · obtain ⟨⟨d1, d2, d3⟩, d4⟩ := c j x y
    have hs : f j ∉ [it] := fun h => (d1.kne a1 (by simp)) (List.mem_singleton.mp h)
    exact ⟨⟨d1.kp kp, (kp.R d1.1 hs).trans d2, (kp.R d1.1 hs).trans d3⟩, d4⟩
end TD
