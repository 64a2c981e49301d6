-- both sides at once
theorem CR.um {A σ σ' : St} (h : CR A σ) (u : UM σ σ') : CR A σ' := by
  have q : ∀ c j, ¬ mdl c → σ' c j = σ c j := fun c j hc => u c hc j
  obtain ⟨h1, h2, h3, h4, h5, h6⟩ := h
  refine ⟨⟨?_, fun i a b => ?_⟩, fun k a b => ?_, ⟨?_, ?_, ?_, fun i a b => ?_, fun i a b => ?_⟩, ⟨?_, ?_, fun r a b => ?_, fun k a b => ?_⟩, ⟨?_, fun i a b => ?_⟩, ⟨?_, ?_⟩⟩
  · rw [q 3 _ (by decide)]; exact h1.1
  · rw [q (3 + 1) _ (by decide), q (3 + 2) _ (by decide), q (3 + 3) _ (by decide), q (3 + 4) _ (by decide)]; exact h1.2 i a b
  · rw [q 15 _ (by decide)]; exact h2 k a b
  · rw [q 16 _ (by decide)]; exact h3.1
  · rw [q 16 _ (by decide)]; exact h3.2.1
  · rw [q 16 _ (by decide)]; exact h3.2.2.1
  · rw [q (16 + 1) _ (by decide)]; exact h3.2.2.2.1 i a b
  · rw [q (lc 16) _ (by decide)]; exact h3.2.2.2.2 i a b
  · rw [q 20 _ (by decide)]; exact h4.1
  · rw [q 20 _ (by decide)]; exact h4.2.1
  · rw [q 21 _ (by decide), q 25 _ (by decide)]; exact h4.2.2.1 r a b
  · rw [q 22 _ (by decide), q 23 _ (by decide), q 24 _ (by decide)]; exact h4.2.2.2 k a b
  · rw [q 1 _ (by decide)]; exact h5.1
  · rw [q 2 _ (by decide)]; exact h5.2 i a b
  · rw [q 8 _ (by decide)]; exact h6.1
  · rw [q 8 _ (by decide)]; exact h6.2
theorem FC.um {σ σ' : St} (h : FC σ) (u : UM σ σ') : FC σ' := fun k a b => by
  rw [u 27 (by decide), u 26 (by decide), u 26 (by decide)]
  exact h k a b
theorem MR.uc {A σ σ' : St} (h : MR A σ) (u : UC σ σ') : MR A σ' := h.of (fun c j hc _ _ => u c hc j)
theorem FM.uc {σ σ' : St} (h : FM σ) (u : UC σ σ') : FM σ' := fun k a b => by
  rw [u 49 (by decide), u 35 (by decide), u 35 (by decide)]
  exact h k a b
/-- what holds between two calls -/
def RL (σ : St) : Prop := ∃ A : St, CR A σ ∧ FC σ ∧ MR A σ ∧ FM σ ∧ OKA A ∧ OKB A
theorem rl_case {A B σ : St} {v : Int} {μ ν : Md} {vs ws : List Vq} (hM : MR A σ) (hF : FM σ)
    (hc : ∀ K : Int → St → Prop, EC B σ v K → CI μ vs σ K)
    (hm : ∀ (K : Int → St → Prop) (σ1 : St), MR A σ1 → FM σ1 → EM B σ1 v K → CI ν ws σ1 K)
    (oA : OKA B) (oB : OKB B) : CI μ vs σ (fun x σ1 => CI ν ws σ1 (fun y σ2 => x = y ∧ RL σ2)) := by
  refine hc _ (fun σ1 h1 h2 h3 => ?_)
  refine hm _ σ1 (hM.uc h3) (hF.uc h3) (fun σ2 g1 g2 g3 => ?_)
  exact ⟨rfl, B, h1.um g3, h2.um g3, g1, g2, oA, oB⟩
-- bytes stay bytes
theorem OKB.of {A B : St} (h : OKB A) (h4 : B 0 4 ≤ A 0 4) (h7 : ∀ j, B 7 j = A 7 j) : OKB B := fun i a b => by
  rw [h7]
  exact h i a (by omega)
theorem OKB.eq {A B : St} (h : OKB A) (h4 : B 0 4 = A 0 4) (h7 : ∀ j, B 7 j = A 7 j) : OKB B := h.of (Int.le_of_eq h4) h7
theorem feedB {A : St} (hB : OKB A) {a b c d e : Int} : OKB (q_feed A a b c d e).2 := by
  unfold q_feed
  split
  · exact hB
  · intro i h0 h1
    have h1 : i < fdA A (fdb a b c d e) 20 0 4 := h1
    show -128 ≤ fdA A (fdb a b c d e) 20 7 i ∧ fdA A (fdb a b c d e) 20 7 i ≤ 127
    have e4 : fdA A (fdb a b c d e) 20 0 4 = A 0 4 + 20 := by
      unfold fdA
      rw [if_neg (fun q => absurd q.1 (by decide)), if_pos ⟨rfl, rfl⟩]
    rw [e4] at h1
    rw [fdA_7]
    split
    · exact bv_in _ _
    · exact hB i h0 (by omega)
theorem termsB {A : St} (hB : OKB A) {x y : Int} : OKB (q_terms A x y).2 := by
  unfold q_terms
  split
  · exact hB
  · split
    · exact hB
    · show OKB (if x = 4 then _ else _)
      split
      · exact hB.eq rfl (fun _ => rfl)
      · exact hB.eq rfl (fun _ => rfl)
theorem addB {A : St} (hB : OKB A) {a v b : Int} : OKB (q_add A a v b).2 := by
  unfold q_add
  (repeat' split) <;> first | exact hB | exact hB.eq rfl (fun _ => rfl)
theorem postB {A : St} (hB : OKB A) {i v : Int} : OKB (q_post A i v).2 := by
  unfold q_post
  (repeat' split) <;> first | exact hB | exact hB.eq rfl (fun _ => rfl)
theorem auditB {A : St} (hB : OKB A) {i v : Int} : OKB (q_audit A i v).2 := by
  unfold q_audit
  (repeat' split) <;> first | exact hB | exact hB.eq rfl (fun _ => rfl)
theorem forgetB {A : St} (hB : OKB A) {i : Int} : OKB (q_forget A i).2 := by
  unfold q_forget
  (repeat' split) <;> first | exact hB | exact hB.eq rfl (fun _ => rfl)
theorem intervalB {A : St} (hB : OKB A) {v : Int} : OKB (q_interval A v).2 := by
  unfold q_interval
  (repeat' split) <;> first | exact hB | exact hB.eq rfl (fun _ => rfl)
theorem planB {A : St} (hB : OKB A) : OKB (q_plan A).2 := by
  unfold q_plan
  split
  · exact hB
  · split
    · exact hB
    · exact hB.eq rfl (fun _ => rfl)
theorem drawB {A : St} (hB : OKB A) : OKB (q_draw A).2 := by
  unfold q_draw
  split
  · exact hB
  · split
    · exact hB
    · exact hB.eq rfl (fun _ => rfl)
theorem clearB {A : St} (hB : OKB A) : OKB (q_clear A).2 := hB.eq rfl (fun _ => rfl)
theorem textB {A : St} (hA : OKA A) (hB : OKB A) {n : Int} : OKB (q_text A n).2 := by
  have h4 := hA.2.2.2.2.1.1
  unfold q_text
  split
  · exact hB
  · split
    · exact hB.of (B := ups (ups (ups A 0 5 _) 0 6 _) 0 4 0) h4 (fun _ => rfl)
    · refine hB.of (B := txA A _) ?_ (fun _ => rfl)
      exact h4
