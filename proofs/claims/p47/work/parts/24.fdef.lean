-- upper bounds by halving: what they are (the doubles of the document's words), and what is used of them
def ppq (u : Int) : UInt64 := FP.ddiv (FP.i2d (Int32.ofInt u)) 4696837146684686336
def qqq (u : Int) : UInt64 := FP.dsub FP.dconst1 (ppq u)
def alq (r : Int) : UInt64 := FP.ddiv (FP.i2d (Int32.ofInt r)) 4652007308841189376
def tpw (q : UInt64) : Nat → UInt64
  | 0 => FP.dconst1
  | k + 1 => FP.dmul (tpw q k) q
def tst (n : Int) (p q t : UInt64) (j : Int) : UInt64 := FP.ddiv (FP.dmul (FP.ddiv (FP.dmul t (FP.i2d (Int32.ofInt ((n - j) + 1)))) (FP.i2d (Int32.ofInt j))) p) q
def tsq (n u : Int) : Nat → UInt64 × UInt64
  | 0 => (tpw (qqq u) n.toNat, tpw (qqq u) n.toNat)
  | k + 1 => (tst n (ppq u) (qqq u) (tsq n u k).1 ((k : Int) + 1), FP.dadd (tsq n u k).2 (tst n (ppq u) (qqq u) (tsq n u k).1 ((k : Int) + 1)))
def wiq (n k r u : Int) : Bool := decide (¬ 0 < dcq .g (tsq n u k.toNat).2 (alq r))
/-- halving between two bounds, so many rounds at most -/
def bq (w : Int → Bool) : Nat → Int → Int → Int
  | 0, _, hi => hi
  | m + 1, lo, hi => if hi - lo ≤ 1 then hi else if w ((lo + hi) / 2) then bq w m lo ((lo + hi) / 2) else bq w m ((lo + hi) / 2) hi
def UP (n k r : Int) : Int := if k < n then bq (wiq n k r) 60 0 1000000 else 1000000
theorem bq_in {w : Int → Bool} : ∀ (m : Nat) (lo hi : Int), lo < hi → lo < bq w m lo hi ∧ bq w m lo hi ≤ hi := by
  intro m
  induction m with
  | zero => intro lo hi h; exact ⟨h, Int.le_refl _⟩
  | succ m ih =>
    intro lo hi h
    unfold bq
    split
    · omega
    · split
      · have := ih lo ((lo + hi) / 2) (by omega); omega
      · have := ih ((lo + hi) / 2) hi (by omega); omega
/-- who is let through more often comes lower -/
theorem bq_le {w w' : Int → Bool} : ∀ (m : Nat) (lo hi : Int), lo < hi → (∀ u, lo < u → u < hi → w u = true → w' u = true) → bq w' m lo hi ≤ bq w m lo hi := by
  intro m
  induction m with
  | zero => intro lo hi h _; exact Int.le_refl _
  | succ m ih =>
    intro lo hi h hw
    unfold bq
    by_cases h1 : hi - lo ≤ 1
    · rw [if_pos h1, if_pos h1]; exact Int.le_refl _
    · rw [if_neg h1, if_neg h1]
      have hu := hw ((lo + hi) / 2) (by omega) (by omega)
      cases ha : w ((lo + hi) / 2) with
      | true =>
        rw [hu ha, if_pos rfl, if_pos rfl]
        exact ih _ _ (by omega) (fun u a b => hw u a (by omega))
      | false =>
        cases hb : w' ((lo + hi) / 2) with
        | true =>
          have h2 := bq_in (w := w') m lo ((lo + hi) / 2) (by omega)
          have h3 := bq_in (w := w) m ((lo + hi) / 2) hi (by omega)
          simp
          omega
        | false =>
          simp
          exact ih _ _ (by omega) (fun u a b => hw u (by omega) b)
theorem UP_in (n k r : Int) : 1 ≤ UP n k r ∧ UP n k r ≤ 1000000 := by
  unfold UP
  split
  · have := bq_in (w := wiq n k r) 60 0 1000000 (by omega); omega
  · omega

