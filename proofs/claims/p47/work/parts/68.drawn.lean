-- how often an item is hit; whether it is looked at
theorem cQ_none {p : Int → Bool} {n : Int} (hn : 0 ≤ n) (h : ∀ j, 0 ≤ j → j < n → p j = false) : cI p n = 0 := by
  have e : cI p n = cI (fun _ => false) n := cI_congr hn (fun j a b => h j a b)
  rw [e]
  have : ∀ n, 0 ≤ n → cI (fun _ => false) n = 0 := nn_ind rfl (fun i hi ih => by rw [cI_f hi rfl, ih])
  exact this n hn
theorem cQ_one {p : Int → Bool} {n j0 : Int} (h0 : 0 ≤ j0) (h1 : j0 < n) (hp : p j0 = true) (h : ∀ j, 0 ≤ j → j < n → j ≠ j0 → p j = false) : cI p n = 1 := by
  have : ∀ m, 0 ≤ m → (m ≤ n → cI p m = if j0 < m then 1 else 0) := by
    refine nn_ind (fun _ => by rw [if_neg (by omega)]; rfl) (fun m hm ih h2 => ?_)
    by_cases e : m = j0
    · subst e
      rw [cI_t hm hp, ih (by omega), if_neg (by omega), if_pos (by omega)]; omega
    · rw [cI_f hm (h m hm (by omega) e), ih (by omega)]
      split <;> split <;> omega
  rw [this n (by omega) (Int.le_refl _), if_pos h1]
theorem cQ_app {p : Int → Bool} {a : Int} (ha : 0 ≤ a) : ∀ b, 0 ≤ b → cI p (a + b) = cI p a + cI (fun j => p (a + j)) b := by
  refine nn_ind (by rw [Int.add_zero, cI_0, Int.add_zero]) (fun b hb ih => ?_)
  rw [← Int.add_assoc]
  cases hp : p (a + b) with
  | true => rw [cI_t (by omega) hp, cI_t (p := fun j => p (a + j)) hb hp, ih]; omega
  | false => rw [cI_f (by omega) hp, cI_f (p := fun j => p (a + j)) hb hp, ih]
section DN
variable {G : Gq} {w w' u v : Wd} {A : St} {B : Bks} {S T : List Nat} {a r n mc ms q x h row : Nat} {m k i j R : Int} {f g : Int → Nat}
theorem ow_iff (hA : OKL A) {v c i : Int} (h0 : 1 ≤ c) (h1 : c ≤ Mq A v) (i0 : 0 ≤ i) (i1 : i < A 0 0) : ow A v c = i ↔ prq A v i < c ∧ c ≤ prq A v i + rc A v i := by
  constructor
  · intro h
    have := ow_spec hA h0 h1
    rw [h] at this
    exact ⟨this.2.2.2.1, this.2.2.2.2⟩
  · intro h
    exact ow_eq hA i0 i1 h.1 h.2
theorem cnt1 (hA : OKL A) {v s i : Int} (hv : 0 < v) (s0 : 1 ≤ s) (s1 : s ≤ v) (i0 : 0 ≤ i) (i1 : i < A 0 0) : cI (fun j => decide (ow A v (s + j * v) = i)) (nh A v s) = bi (sk A v s i) := by
  have hnh := nh_in hA (v := v) (s := s) (by omega) s0
  have hp := prq_in hA (v := v) i0 (by omega : i ≤ A 0 0)
  have hp2 := prq_in hA (v := v) (by omega : 0 ≤ i + 1) (by omega : i + 1 ≤ A 0 0)
  rw [prq_s i0] at hp2
  have hr := rc_in hA (v := v) i0 i1
  have hrl := rc_lt (A := A) (v := v) (i := i) hv
  have cond : ∀ j, 0 ≤ j → j < nh A v s → (ow A v (s + j * v) = i ↔ prq A v i < s + j * v ∧ s + j * v ≤ prq A v i + rc A v i) := fun j a b => by
    have hc := nh_coin hA (v := v) (by omega) s0 s1 a b
    exact ow_iff hA hc.1 hc.2.1 i0 i1
  by_cases hr0 : rc A v i = 0
  · have e : sk A v s i = false := by unfold sk; simp [hr0]
    rw [e, cQ_none hnh.1 (fun j a b => by simp only [decide_eq_false_iff_not]; rw [cond j a b]; omega)]
    rfl
  have hf : fc A v i = prq A v i + 1 := by unfold fc; rw [if_neg hr0]
  have d0 := Int.emod_nonneg (s - (prq A v i + 1)) (by omega : v ≠ 0)
  have d1 := Int.emod_lt_of_pos (s - (prq A v i + 1)) hv
  have d2 := Int.emod_add_mul_ediv (s - (prq A v i + 1)) v
  generalize hD : (s - (prq A v i + 1)) % v = d at d0 d1 d2
  generalize hQ : (s - (prq A v i + 1)) / v = Q at d2
  have eq0 : s + (-Q) * v = prq A v i + 1 + d := by
    have e2 : -Q * v = -(v * Q) := by rw [Int.neg_mul, Int.mul_comm]
    omega
  by_cases hd : d < rc A v i
  · have e : sk A v s i = true := by unfold sk; rw [hf, hD]; simp; omega
    rw [e]
    have hq0 : 0 ≤ -Q := by
      rcases Int.lt_or_le (-Q) 0 with h9 | h9
      · exfalso
        have : -Q * v ≤ -1 * v := Int.mul_le_mul_of_nonneg_right (by omega) (by omega)
        omega
      · exact h9
    have hqn : -Q < nh A v s := by
      unfold nh
      have hM : prq A v i + rc A v i ≤ Mq A v := hp2.2.2
      rw [if_neg (by have := Int.mul_nonneg hq0 (by omega : 0 ≤ v); omega)]
      have : -Q ≤ (Mq A v - s) / v := by
        rw [Int.le_ediv_iff_mul_le hv]
        omega
      omega
    refine (cQ_one hq0 hqn ?_ (fun j a b hne => ?_)).trans rfl
    · simp only [decide_eq_true_eq]
      rw [cond _ hq0 hqn]
      omega
    · simp only [decide_eq_false_iff_not]
      rw [cond j a b]
      intro hc
      have e3 : s + j * v = prq A v i + 1 + d + (j - -Q) * v := by
        rw [Int.sub_mul]; omega
      rcases Int.lt_or_lt_of_ne hne with h9 | h9
      · have : (j - -Q) * v ≤ -1 * v := Int.mul_le_mul_of_nonneg_right (by omega) (by omega)
        omega
      · have : 1 * v ≤ (j - -Q) * v := Int.mul_le_mul_of_nonneg_right (by omega) (by omega)
        omega
  · have e : sk A v s i = false := by unfold sk; rw [hf, hD]; simp; omega
    rw [e]
    refine (cQ_none hnh.1 (fun j a b => ?_)).trans rfl
    simp only [decide_eq_false_iff_not]
    rw [cond j a b]
    intro hc
    have e3 : s + j * v = prq A v i + 1 + d + (j - -Q) * v := by
      rw [Int.sub_mul]; omega
    rcases Int.lt_or_le (j - -Q) 0 with h9 | h9
    · have : (j - -Q) * v ≤ -1 * v := Int.mul_le_mul_of_nonneg_right (by omega) (by omega)
      omega
    · have := Int.mul_nonneg h9 (by omega : 0 ≤ v)
      omega
theorem oft_th (hA : OKA A) {i : Int} (i0 : 0 ≤ i) (i1 : i < A 0 0) : ∀ R, 0 ≤ R → (R ≤ A 0 2 → oft A R i = th A R i) := by
  refine nn_ind (fun _ => rfl) (fun R hR ih h2 => ?_)
  have hv : 0 < A 0 1 := hA.2.2.1.2.2.1 (by omega)
  have hst := hA.2.2.1.2.2.2 R hR (by omega)
  have hb0 := hb_in hA hR (by omega : R ≤ A 0 2)
  have hnh := nh_in hA.1 (v := A 0 1) (s := A 5 R) hA.2.1.1 hst.1
  have e1 : oft A (R + 1) i = oft A R i + bi (sk A (A 0 1) (A 5 R) i) := by
    unfold oft
    rw [hb_s hR, cQ_app hb0.1 _ hnh.1, ← cnt1 hA.1 hv hst.1 hst.2 i0 i1]
    congr 1
    refine cI_congr hnh.1 (fun j a b => ?_)
    show decide (hI A (hb A R + j) = i) = _
    unfold hI
    rw [hC_eq hA hR (by omega) a b]
  have e2 : th A (R + 1) i = th A R i + bi (sk A (A 0 1) (A 5 R) i) := sI_s hR
  rw [e1, e2, ih (by omega)]
theorem ior_bi (a b : Bool) : iorq (bi a) (bi b) = bi (a || b) := by cases a <;> cases b <;> decide +kernel
theorem y_drawn {K : Option Nat → Wd → Prop} (hB : BK G w A B) (hA : OKA A) (hL : HL G w A h r n m R g) (hR0 : 0 ≤ R) (hR1 : R ≤ A 0 2) (hc : 2 ≤ mc) (hs : 52 ≤ ms)
    (hK : ∀ q w' N, Kg G [] w w' → q ∉ wL w → Ow w' q (kA 2 N) → (N : Int) = A 0 0 → (∀ i, 0 ≤ i → i < A 0 0 → wI w' q i = bi (lk A R i)) → K (some q) w') : DP G M_Bo_drawn [vA (bD B), vA h] w mc ms K := by
  refine DC.wf fun hσ hx => ?_
  have hA48 := hA.1.2.1
  have hA0 := hA.1.1
  have hhb := hb_in hA hR0 hR1
  have hhm := hb_mono hA hR0 hR1 (Int.le_refl _)
  refine e_Bo_drawn (bD B) h ⟨hB.1.1.is, bI B, hB.1.2.1, hB.2.1.1.is, v_Al_size hB.2.1 ⟨(A 0 0).toNat, by omega, by omega, by omega, by omega, fun q hq => ?_⟩⟩
  have hkq : Kp [] w (uN w q (kA 2 (A 0 0).toNat)) := Kp.rf.uN hq.1
  have hz0 : ∀ i : Int, wI (uN w q (kA 2 (A 0 0).toNat)) q i = 0 := fun i => wI_uN_s
  have hOq : Ow (uN w q (kA 2 (A 0 0).toNat)) q (kA 2 (A 0 0).toNat) := Ow.nw
  generalize hW0 : uN w q (kA 2 (A 0 0).toNat) = W0 at hkq hz0 hOq
  have hg0 : Kg G [] w W0 := ⟨hkq, by rw [← hW0]; exact uN_g hq⟩
  have loop2 : ∀ i : Int, 0 ≤ i → i ≤ A 0 0 → ∀ (w2 : Wd) (rc0 rs0 : Nat), Kp [] w w2 → Ow w2 q (kA 2 (A 0 0).toNat) → (∀ t, 0 ≤ t → t < A 0 0 → wI w2 q t = if t < i then bi (lk A R t) else bi (decide (0 < oft A R t))) → WD G M_Bo_drawn 48 [(0, vA (bD B)), (2, vA q), (3, vI i)] [] w2 rc0 rs0 (yP K) := by
    refine up_ind (fun w2 rc0 rs0 hk hO hv => ?_) (fun i i0 i1 ih w2 rc0 rs0 hk hO hv => ?_)
    · refine WD.wf (fun _ hx1 _ => ?_)
      exact l_Bo_drawn_2 _ _ _ ⟨_, hO.is, inR_of (by omega) (by omega), fun _ => hK q w2 _ (Kg.of hk hx hx1) hq.1 hO (by omega) (fun t a b => by rw [hv t a b, if_pos b]), fun h => by omega⟩
    · refine WD.wf (fun _ hx1 _ => ?_)
      have hb := hB.k0 (Kg.of hk hx hx1)
      have him := hb.2.2.2.2.1 i i0 i1
      refine l_Bo_drawn_2 _ _ _ ⟨_, hO.is, inR_of (by omega) (by omega), fun h => by omega, fun _ => ⟨i0, by omega, hb.1.1.is, bI B, hb.1.2.1, hb.2.1.1.is, v_Al_get hb.2.1 i0 i1 ⟨bF B i, rfl, him.1.is, v_Bo_certain hb.1 him ⟨hO, ?_, inR_of (by omega) (by omega), ?_⟩⟩⟩⟩
      · rw [hv i i0 i1, if_neg (Int.lt_irrefl _), ior_bi]
        exact (bi_01 _)
      · refine ih _ _ _ (hk.uI (Or.inr hq.1)) hO (fun t a b => ?_)
        by_cases e : t = i
        · subst e
          rw [wI_uI_s, hv t a b, if_neg (Int.lt_irrefl _), ior_bi, if_pos (by omega), Bool.or_comm]
          unfold lk
          rw [oft_th hA a b R hR0 hR1]
        · rw [wI_uI_j e, hv t a b]
          by_cases h : t < i
          · rw [if_pos h, if_pos (by omega)]
          · rw [if_neg h, if_neg (by omega)]
  refine ⟨1, 4, by omega, by omega, (hL.1.1.kp hkq).is, v_iterator (u := w) (hL.1.kp hkq List.not_mem_nil List.not_mem_nil) hg0 (Nat.le_refl _) (Nat.le_refl _) (fun it w1 hit hu hu0 hI0 => ?_)⟩
  have hqit : it ≠ q := fun e => by
    have h1 := hI0.1.2
    have h2 := (hOq.kp hu0.1).2
    rw [e, h2] at h1
    cases h1
  have loop1 : ∀ k : Int, 0 ≤ k → k ≤ hb A R → ∀ (w2 : Wd) (rc0 rs0 : Nat), Kp [] w w2 → IT w2 it h m k → Ow w2 q (kA 2 (A 0 0).toNat) → (∀ t, 0 ≤ t → t < A 0 0 → wI w2 q t = bi (decide (0 < cI (fun j => decide (hI A j = t)) k))) → WD G M_Bo_drawn 15 [(0, vA (bD B)), (2, vA q), (3, vP (some it))] [] w2 rc0 rs0 (yP K) := by
    refine up_ind (fun w2 rc0 rs0 hk hI2 hO hv => ?_) (fun k k0 k1 ih w2 rc0 rs0 hk hI2 hO hv => ?_)
    · refine WD.wf (fun _ hx1 _ => ?_)
      have hl := hL.k0 (Kg.of hk hx hx1)
      refine l_Bo_drawn_1 _ _ _ ⟨it, rfl, hI2.1.is, v_Ai_hasNext hl.1 hI2 (fun h => absurd h (Int.lt_irrefl _)) (fun _ => ⟨fun _ => ?_, fun h => absurd rfl h⟩) (Int.le_refl _)⟩
      exact loop2 0 (Int.le_refl _) hA0 w2 _ _ hk hO (fun t a b => by rw [hv t a b, if_neg (by omega)]; rfl)
    · refine WD.wf (fun _ hx1 _ => ?_)
      have hg2 := Kg.of hk hx hx1
      have hl := hL.k0 hg2
      refine l_Bo_drawn_1 _ _ _ ⟨it, rfl, hI2.1.is, v_Ai_hasNext hl.1 hI2 (fun _ => ⟨fun h => absurd h (by decide), fun _ => ?_⟩) (fun h => by omega) (by omega)⟩
      refine v_next hl.1 hI2 k0 k1 hg2 hit (fun w3 hg3 hI3 hkk => ?_)
      have h23 := hkk [it] w2 Kp.rf (Or.inl (by simp))
      have ht := (hL.k0 hg3).2 k k0 k1
      have hin := hI_in hA k0 (by omega : k < hb A (A 0 2))
      have hO3 := hO.kp h23
      refine ⟨g k, rfl, ht.1.is, _, hO3, by rw [ht.2.1]; exact hin.1, by rw [ht.2.1]; omega, ?_⟩
      rw [ht.2.1]
      refine ih _ _ _ (hg3.1.uI (Or.inr hq.1)) ⟨hI3.1, hI3.2.1, (wI_uI_a hqit).trans hI3.2.2.1, (wI_uI_a hqit).trans hI3.2.2.2⟩ hO3 (fun t a b => ?_)
      have hcn := cI_in (p := fun j => decide (hI A j = t)) k0
      by_cases e : t = hI A k
      · subst e
        rw [wI_uI_s, cI_t k0 (by simp), bi_t (by simp; omega)]
      · rw [wI_uI_j e, cI_f k0 (by simp; exact fun h => e h.symm)]
        rw [h23.I hO.1 (by simp [hqit.symm])]
        exact hv t a b
  exact loop1 0 (Int.le_refl _) hhb.1 w1 _ _ hu.1 hI0 (hOq.kp hu0.1) (fun t a b => by
    rw [hu0.1.I hOq.1 List.not_mem_nil, hz0, cI_0]; rfl)
end DN
