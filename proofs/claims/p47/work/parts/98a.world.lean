-- the moving world at the start
/-- the place that an address has among the cells behind -/
noncomputable def xix (G : Gq) (a : Nat) : Nat := by
  classical
  exact if h : ∃ i, i < xN ∧ xa G i = a then Classical.choose h else 0
theorem xix_at {G : Gq} (hinj : ∀ i j, i < xN → j < xN → xa G i = xa G j → i = j) {i : Nat} (hi : i < xN) : xix G (xa G i) = i := by
  classical
  have h : ∃ k, k < xN ∧ xa G k = xa G i := ⟨i, hi, rfl⟩
  unfold xix
  rw [dif_pos h]
  exact hinj _ _ (Classical.choose_spec h).1 hi (Classical.choose_spec h).2
def WW (σ : St) (kk : Nat → Kd) (ii : Nat → Int → Int) (rr : Nat → Int → Option Nat) : Wd := (σ, [], kk, ii, rr, fun _ _ => 0)
section
variable {σ : St} {kk : Nat → Kd} {ii : Nat → Int → Int} {rr : Nat → Int → Option Nat}
theorem WW_K {a : Nat} : wK (WW σ kk ii rr) a = kk a := rfl
theorem WW_I {a : Nat} {j : Int} : wI (WW σ kk ii rr) a j = ii a j := rfl
theorem WW_R {a : Nat} {j : Int} : wR (WW σ kk ii rr) a j = rr a j := rfl
theorem WW_J {a : Nat} {j : Int} : wJ (WW σ kk ii rr) a j = 0 := rfl
theorem WW_S : wS (WW σ kk ii rr) = σ := rfl
theorem WW_L : wL (WW σ kk ii rr) = [] := rfl
theorem WW_P {G : Gq} : wld2 G (WW σ kk ii rr) = wld G σ := by
  unfold wld2 dwd
  rw [WW_L]
  exact List.append_nil _
end
/-- the moving world before the law makes anything -/
noncomputable def W0 (G : Gq) : Wd := WW S0 (fun a => xk (xix G a)) (fun a j => xi (xix G a) j) (fun a j => (xr (xix G a) j).map (xa G))
theorem W0_x {G : Gq} (hinj : ∀ i j, i < xN → j < xN → xa G i = xa G j → i = j) : XOK G (W0 G) := fun i hi => by
  unfold W0
  exact ⟨by rw [WW_K, xix_at hinj hi], fun j => by rw [WW_I, xix_at hinj hi], fun j => by rw [WW_R, xix_at hinj hi], fun j => WW_J⟩
theorem xi_in (i : Nat) (hi : i < 284 ∨ 284 ≤ i) (j : Int) : inR (xi i j) := by
  unfold xi
  split
  · exact inR_of (by omega) (by omega)
  · split
    · split
      · exact inR_of (by omega) (by omega)
      · exact inR_of (by omega) (by omega)
    · split
      · split
        · exact inR_of (by omega) (by omega)
        · exact inR_of (by omega) (by omega)
      · split
        · split
          · exact inR_of (by omega) (by omega)
          · exact inR_of (by omega) (by omega)
        · split <;> (try (repeat' split)) <;> exact inR_of (by omega) (by omega)
theorem W0_wf {G : Gq} : WFd (W0 G) := by
  unfold W0
  exact ⟨by rw [WW_S]; exact S0_wf, fun a j => ⟨by rw [WW_I]; exact xi_in _ (by omega) j, by rw [WW_J]; exact ⟨by decide, by decide⟩⟩⟩
theorem W0_P {G : Gq} : wld2 G (W0 G) = wld G S0 := by unfold W0; exact WW_P
theorem W0_S {G : Gq} : wS (W0 G) = S0 := by unfold W0; exact WW_S
