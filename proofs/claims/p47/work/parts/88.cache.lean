-- what is kept of whose the coins are: it serves, or looks otherwise
section CQ
variable {G : Gq} {w w' : Wd} {A A' : St} {B B' : Bks} {S : List Nat} {row N : Nat} {i j v c : Int}
theorem co_cg (h : A' 3 i = A 3 i) : co A' i = co A i := by unfold co; rw [h]
theorem ce_cg (h : A' 3 i = A 3 i) : ce A' v i = ce A v i := by unfold ce; rw [h]
theorem rc_cg (h : A' 3 i = A 3 i) : rc A' v i = rc A v i := by unfold rc; rw [ce_cg h, co_cg h]
theorem prq_cg (h : ∀ j, 0 ≤ j → j < i → A' 3 j = A 3 j) (i0 : 0 ≤ i) : prq A' v i = prq A v i := sI_congr i0 (fun j a b => rc_cg (h j a b))
/-- one row of owners serves two ledgers that have the same rest, coin by coin -/
theorem CT.cg (hA : OKL A) (h0 : A' 0 0 = A 0 0) (h1 : A' 0 1 = A 0 1) (h3 : ∀ i, 0 ≤ i → i < A 0 0 → A' 3 i = A 3 i) (hc : CT w A row N) : CT w A' row N := by
  have hM : ∀ v, Mq A' v = Mq A v := fun v => by unfold Mq; rw [h0, prq_cg h3 hA.1]
  refine ⟨hc.1, by rw [h1, hM]; exact hc.2.1, fun hv c a b => ?_⟩
  rw [h1] at hv ⊢
  rw [hc.2.2 hv c a b]
  unfold ow
  rw [h0]
  refine fI_congr hA.1 (fun i i0 i1 => ?_)
  rw [rc_cg (h3 i i0 i1), prq_cg (fun j a b => h3 j a (by omega)) i0]
/-- an item of which nothing is in the rest -/
theorem CT.ad (hA : OKL A) (h0 : A' 0 0 = A 0 0 + 1) (h1 : A' 0 1 = A 0 1) (h3 : ∀ i, 0 ≤ i → i < A 0 0 → A' 3 i = A 3 i) (hc : CT w A row N) (hN : (N : Int) = Mq A' (A 0 1)) : CT w A' row N := by
  have hp : prq A' (A 0 1) (A 0 0) = Mq A (A 0 1) := prq_cg h3 hA.1
  have hr : rc A' (A 0 1) (A 0 0) = 0 := by
    have e : Mq A' (A 0 1) = prq A' (A 0 1) (A 0 0) + rc A' (A 0 1) (A 0 0) := by unfold Mq; rw [h0]; exact prq_s hA.1
    have := hc.2.1
    omega
  refine ⟨hc.1, by rw [h1]; exact hN, fun hv c a b => ?_⟩
  rw [h1] at hv ⊢
  rw [hc.2.2 hv c a b]
  have hcM : c + 1 ≤ Mq A (A 0 1) := by have := hc.2.1; omega
  have hs := ow_spec hA (v := A 0 1) (c := c + 1) (by omega) hcM
  have i0 := hs.1
  have i1 := hs.2.1
  unfold ow
  rw [h0]
  symm
  refine fI_eq i0 (show fI (fun i => decide (0 < rc A (A 0 1) i ∧ c + 1 ≤ prq A (A 0 1) i + rc A (A 0 1) i)) (A 0 0) < A 0 0 + 1 from by have : ow A (A 0 1) (c + 1) < A 0 0 := i1; unfold ow at this; omega) ?_ (fun j a b => ?_)
  · rcases fI_spec (fun i => decide (0 < rc A (A 0 1) i ∧ c + 1 ≤ prq A (A 0 1) i + rc A (A 0 1) i)) hA.1 with ⟨e, _⟩ | ⟨x0, x1, x2, _⟩
    · have : ow A (A 0 1) (c + 1) = -1 := e
      omega
    · rw [rc_cg (h3 _ x0 x1), prq_cg (fun j a b => h3 j a (by omega)) x0]
      exact x2
  · rcases fI_spec (fun i => decide (0 < rc A (A 0 1) i ∧ c + 1 ≤ prq A (A 0 1) i + rc A (A 0 1) i)) hA.1 with ⟨e, _⟩ | ⟨x0, x1, _, x3⟩
    · have : ow A (A 0 1) (c + 1) = -1 := e
      omega
    · rw [rc_cg (h3 j a (by omega)), prq_cg (fun k a b => h3 k a (by omega)) a]
      exact x3 j a b
theorem wrl_sp (x : Int) : ∃ k, wrl x = x + 18446744073709551616 * k ∧ -9223372036854775808 ≤ wrl x ∧ wrl x < 9223372036854775808 := by
  unfold wrl
  rw [Int64.toInt_ofInt]
  have e : Int.bmod x Int64.size = if x % 18446744073709551616 < 9223372036854775808 then x % 18446744073709551616 else x % 18446744073709551616 - 18446744073709551616 := by
    show Int.bmod x 18446744073709551616 = _
    unfold Int.bmod
    rfl
  rw [e]
  have h1 := Int.emod_add_mul_ediv x 18446744073709551616
  by_cases h : x % 18446744073709551616 < 9223372036854775808
  · rw [if_pos h]
    exact ⟨-(x / 18446744073709551616), by omega, by omega, by omega⟩
  · rw [if_neg h]
    exact ⟨-(x / 18446744073709551616) - 1, by omega, by omega, by omega⟩
def stp (x b : Int) : Int := wrl (wrl (31 * x) + b)
theorem stp_in (x b : Int) : -9223372036854775808 ≤ stp x b ∧ stp x b < 9223372036854775808 := by
  obtain ⟨k, h1, h2, h3⟩ := wrl_sp (wrl (31 * x) + b)
  exact ⟨h2, h3⟩
theorem m31 {d k : Int} (e : 31 * d = 18446744073709551616 * k) (h1 : -18446744073709551616 < d) (h2 : d < 18446744073709551616) : d = 0 := by omega
theorem lin4 {p1 p2 q1 q2 x x' b k1 k2 k3 k4 : Int} (a1 : p1 = 31 * x + 18446744073709551616 * k1) (a2 : p2 = 31 * x' + 18446744073709551616 * k2) (a3 : q1 = p1 + b + 18446744073709551616 * k3) (a4 : q2 = p2 + b + 18446744073709551616 * k4) (h : q1 = q2) : 31 * (x - x') = 18446744073709551616 * (k2 + k4 - k1 - k3) := by
  rw [a3, a4, a1, a2] at h
  clear a1 a2 a3 a4
  have e1 : 18446744073709551616 * (k2 + k4 - k1 - k3) = 18446744073709551616 * k2 + 18446744073709551616 * k4 - 18446744073709551616 * k1 - 18446744073709551616 * k3 := by
    rw [Int.mul_sub, Int.mul_sub, Int.mul_add]
  rw [e1, Int.mul_sub]
  generalize 18446744073709551616 * k1 = K1 at h ⊢
  generalize 18446744073709551616 * k2 = K2 at h ⊢
  generalize 18446744073709551616 * k3 = K3 at h ⊢
  generalize 18446744073709551616 * k4 = K4 at h ⊢
  omega
theorem stp_x {x x' b : Int} (h : stp x b = stp x' b) (hx : -9223372036854775808 ≤ x ∧ x < 9223372036854775808) (hx' : -9223372036854775808 ≤ x' ∧ x' < 9223372036854775808) : x = x' := by
  have d1 : -18446744073709551616 < x - x' := by clear h; omega
  have d2 : x - x' < 18446744073709551616 := by clear h; omega
  obtain ⟨k1, a1, -⟩ := wrl_sp (31 * x)
  obtain ⟨k2, a2, -⟩ := wrl_sp (31 * x')
  obtain ⟨k3, a3, -⟩ := wrl_sp (wrl (31 * x) + b)
  obtain ⟨k4, a4, -⟩ := wrl_sp (wrl (31 * x') + b)
  have e := m31 (lin4 a1 a2 a3 a4 h) d1 d2
  exact Int.sub_eq_zero.mp e
theorem stp_b {x b b' : Int} (h : stp x b = stp x b') (hb : -1000000 ≤ b ∧ b ≤ 1000000) (hb' : -1000000 ≤ b' ∧ b' ≤ 1000000) : b = b' := by
  unfold stp at h
  obtain ⟨k3, a3, -⟩ := wrl_sp (wrl (31 * x) + b)
  obtain ⟨k4, a4, -⟩ := wrl_sp (wrl (31 * x) + b')
  rw [a3, a4] at h
  clear a3 a4
  generalize wrl (31 * x) = y at h
  omega
theorem sgN_in (hv : 0 ≤ v ∧ v ≤ 4799952) : ∀ n : Nat, -9223372036854775808 ≤ sgN A v n ∧ sgN A v n < 9223372036854775808 := by
  intro n
  cases n with
  | zero => show -9223372036854775808 ≤ v ∧ v < 9223372036854775808; omega
  | succ n => exact stp_in _ _
theorem sgN_s (n : Nat) : sgN A v (n + 1) = stp (sgN A v n) (A 3 (n : Int)) := rfl
/-- the same sign of another interval: the same interval -/
theorem sgN_v {v' : Int} (hv : 0 ≤ v ∧ v ≤ 4799952) (hv' : 0 ≤ v' ∧ v' ≤ 4799952) : ∀ n : Nat, (∀ i : Nat, i < n → A' 3 (i : Int) = A 3 (i : Int)) → sgN A' v' n = sgN A v n → v' = v := by
  intro n
  induction n with
  | zero => intro _ h; exact h
  | succ n ih =>
    intro h3 h
    rw [sgN_s, sgN_s, h3 n (by omega)] at h
    exact ih (fun i hi => h3 i (by omega)) (stp_x h (sgN_in hv' n) (sgN_in hv n))
/-- the same sign where one book may be another: it's the same -/
theorem sgN_j {j : Nat} (hv : 0 ≤ v ∧ v ≤ 4799952) (hb : -1000000 ≤ A 3 (j : Int) ∧ A 3 (j : Int) ≤ 1000000) (hb' : -1000000 ≤ A' 3 (j : Int) ∧ A' 3 (j : Int) ≤ 1000000) : ∀ n : Nat, j < n → (∀ i : Nat, i < n → i ≠ j → A' 3 (i : Int) = A 3 (i : Int)) → sgN A' v n = sgN A v n → A' 3 (j : Int) = A 3 (j : Int) := by
  intro n
  induction n with
  | zero => intro h; exact absurd h (Nat.not_lt_zero _)
  | succ n ih =>
    intro hj h3 h
    rw [sgN_s, sgN_s] at h
    by_cases e : n = j
    · subst e
      have same : ∀ m : Nat, m ≤ n → sgN A' v m = sgN A v m := by
        intro m
        induction m with
        | zero => intro _; rfl
        | succ m ihm => intro hm; rw [sgN_s, sgN_s, ihm (by omega), h3 m (by omega) (by omega)]
      rw [same n (Nat.le_refl _)] at h
      exact stp_b h hb' hb
    · rw [h3 n (by omega) e] at h
      exact ih (by omega) (fun i hi hne => h3 i (by omega) hne) (stp_x h (sgN_in hv n) (sgN_in hv n))
/-- what is kept, for what the ledger has become -/
theorem CC.mk (hR : wR w (bD B) 5 = some row) (hO : Ow w row (kA 0 N)) (hN : N ≤ 100000) (h : wJ w (bD B) 6 = sgA A → (N : Int) = Mq A (A 0 1) → CT w A row N) : CC w A B := Or.inr ⟨row, N, hR, hO, hN, h⟩
theorem OV.fr (h : OV w A B row N) (hk : Kp S w w') (hd : bD B ∈ wL w) (h1 : bD B ∉ S) (h2 : row ∉ S) : OV w' A B row N := ⟨(hk.R hd h1).trans h.1, (hk.J hd h1).trans h.2.1, h.2.2.kp hk h2⟩
/-- books that are as they were -/
theorem CC.eq (hA : OKL A) (h : OV w A B row N) (hN : N ≤ 100000) (hB : bD B' = bD B) (h0 : A' 0 0 = A 0 0) (h1 : A' 0 1 = A 0 1) (h3 : ∀ i, 0 ≤ i → i < A 0 0 → A' 3 i = A 3 i) : CC w A' B' := by
  refine CC.mk (row := row) (N := N) (by rw [hB]; exact h.1) h.2.2.1 hN (fun _ _ => h.2.2.cg hA h0 h1 h3)
/-- one book another -/
theorem CC.po (hA : OKA A) (h : OV w A B row N) (hN : N ≤ 100000) (hB : bD B' = bD B) (j0 : 0 ≤ j) (j1 : j < A 0 0) (h0 : A' 0 0 = A 0 0) (h1 : A' 0 1 = A 0 1) (h3 : ∀ i, 0 ≤ i → i < A 0 0 → i ≠ j → A' 3 i = A 3 i) (hb : -1000000 ≤ A' 3 j ∧ A' 3 j ≤ 1000000) : CC w A' B' := by
  have hit := hA.1.2.2 j j0 j1
  refine CC.mk (row := row) (N := N) (by rw [hB]; exact h.1) h.2.2.1 hN (fun hs _ => h.2.2.cg hA.1 h0 h1 (fun i i0 i1 => ?_))
  by_cases e : i = j
  · rw [hB, h.2.1] at hs
    have hs : sgN A (A 0 1) (A 0 0).toNat = sgN A' (A' 0 1) (A' 0 0).toNat := hs
    rw [h0, h1] at hs
    have hv : 0 ≤ A 0 1 ∧ A 0 1 ≤ 4799952 := hA.2.1
    have := sgN_j (A := A) (A' := A') (v := A 0 1) (j := j.toNat) hv (by rw [Int.toNat_of_nonneg j0]; omega) (by rw [Int.toNat_of_nonneg j0]; exact hb) (A 0 0).toNat (by omega) (fun i hi hne => h3 i (by omega) (by omega) (by omega)) hs.symm
    rw [Int.toNat_of_nonneg j0] at this
    rw [e]; exact this
  · exact h3 i i0 i1 e
/-- another interval -/
theorem CC.iv (hA : OKA A) (h : OV w A B row N) (hN : N ≤ 100000) (hB : bD B' = bD B) (hv : 0 ≤ v ∧ v ≤ 4799952) (h0 : A' 0 0 = A 0 0) (h1 : A' 0 1 = v) (h3 : ∀ i, 0 ≤ i → i < A 0 0 → A' 3 i = A 3 i) : CC w A' B' := by
  have hA0 := hA.1.1
  refine CC.mk (row := row) (N := N) (by rw [hB]; exact h.1) h.2.2.1 hN (fun hs _ => h.2.2.cg hA.1 h0 ?_ h3)
  rw [hB, h.2.1] at hs
  have hs : sgN A (A 0 1) (A 0 0).toNat = sgN A' (A' 0 1) (A' 0 0).toNat := hs
  rw [h0, h1] at hs
  rw [h1]
  exact sgN_v (A := A) (A' := A') (v := A 0 1) (v' := v) hA.2.1 hv (A 0 0).toNat (fun i hi => h3 i (by omega) (by omega)) hs.symm
/-- one item more -/
theorem CC.ad (hA : OKL A) (h : OV w A B row N) (hN : N ≤ 100000) (hB : bD B' = bD B) (h0 : A' 0 0 = A 0 0 + 1) (h1 : A' 0 1 = A 0 1) (h3 : ∀ i, 0 ≤ i → i < A 0 0 → A' 3 i = A 3 i) : CC w A' B' := by
  refine CC.mk (row := row) (N := N) (by rw [hB]; exact h.1) h.2.2.1 hN (fun _ hn => h.2.2.ad hA h0 h1 h3 (by rw [h1] at hn; exact hn))
/-- no interval -/
theorem CC.no (hR : wR w (bD B) 5 = some row) (hO : Ow w row (kA 0 N)) (hN : N ≤ 100000) (h1 : A' 0 1 = 0) (hB : bD B' = bD B) : CC w A' B' :=
  CC.mk (row := row) (N := N) (by rw [hB]; exact hR) hO hN (fun _ hn => ⟨hO, hn, fun hv => absurd hv (by omega)⟩)
end CQ
