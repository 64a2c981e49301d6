theorem ups_c {σ : St} {c c' : Nat} {j j' v : Int} (h : c' ≠ c) : ups σ c j v c' j' = σ c' j' := by unfold ups; rw [if_neg (fun q => h q.1)]
theorem ups_f {σ : St} {c : Nat} {j j' v : Int} (h : j' ≠ j) : ups σ c j v c j' = σ c j' := by unfold ups; rw [if_neg (fun q => h q.2)]
theorem ups_s {σ : St} {c : Nat} {j v : Int} : ups σ c j v c j = v := by unfold ups; rw [if_pos ⟨rfl, rfl⟩]
theorem least_in (j : Int) : inR (leastq j) := by unfold leastq; split <;> (try split) <;> decide
theorem great_in (j : Int) : inR (greatq j) := by unfold greatq; split <;> (try split) <;> (try split) <;> (try split) <;> decide
def chq0 (j : Int) : Int := ((bytq.getD 0 []).getD j.toNat 0).toInt
def chq1 (j : Int) : Int := ((bytq.getD 1 []).getD j.toNat 0).toInt
theorem chq0_in (j : Int) : inR (chq0 j) := by
  have h1 := Int32.le_toInt ((bytq.getD 0 []).getD j.toNat 0)
  have h2 := Int32.toInt_lt ((bytq.getD 0 []).getD j.toNat 0)
  unfold chq0
  omega
theorem chq1_in (j : Int) : inR (chq1 j) := by
  have h1 := Int32.le_toInt ((bytq.getD 1 []).getD j.toNat 0)
  have h2 := Int32.toInt_lt ((bytq.getD 1 []).getD j.toNat 0)
  unfold chq1
  omega
theorem chq0_T (G : Gq) (A : Nat → Prop) (U : State) (H : Heap) (h : Extq G A U H) : va_T .byte (G.2.1 64) 4 (fun j => .int (Int32.ofInt (chq0 (j : Int)))) A U H := by
  have := (h.2.2.2.2.1.1 0 (by decide)).2.2.2
  have e : (fun j : Nat => Value.int (Int32.ofInt (chq0 (j : Int)))) = fun j => .int ((bytq.getD 0 []).getD j 0) := by
    funext j
    unfold chq0
    rw [Int32.ofInt_toInt, Int.toNat_natCast]
  rw [e]
  exact this
theorem chq1_T (G : Gq) (A : Nat → Prop) (U : State) (H : Heap) (h : Extq G A U H) : va_T .byte (G.2.1 65) 5 (fun j => .int (Int32.ofInt (chq1 (j : Int)))) A U H := by
  have := (h.2.2.2.2.1.1 1 (by decide)).2.2.2
  have e : (fun j : Nat => Value.int (Int32.ofInt (chq1 (j : Int)))) = fun j => .int ((bytq.getD 1 []).getD j 0) := by
    funext j
    unfold chq1
    rw [Int32.ofInt_toInt, Int.toNat_natCast]
  rw [e]
  exact this
section RX
variable {μ : Md} {pc : Nat} {ls : List (Nat × Vq)} {st : List Vq} {σ : St} {Q : Option Vq → St → Prop}
theorem q_xor {a b : Int} (ha : inR a) (hb : inR b) (h0 : 0 ≤ b) : (0 : Int32) ≤ Int32.ofInt a ^^^ Int32.ofInt b ↔ 0 ≤ a := by
  have e : ∀ x : Int32, (0 : Int32) ≤ x ↔ x.toBitVec.msb = false := by
    intro x
    rw [Int32.le_iff_toInt_le, ← Int32.toInt_toBitVec x, show (0 : Int32).toInt = 0 from rfl]
    constructor
    · intro h
      cases hm : x.toBitVec.msb with
      | false => rfl
      | true => have := BitVec.toInt_neg_of_msb_true hm; omega
    · intro h
      exact BitVec.toInt_nonneg_of_msb_false h
  have ea : (Int32.ofInt a).toBitVec.msb = false ↔ 0 ≤ a := by
    rw [← e, show (0 : Int32) = Int32.ofInt 0 from rfl, qi_le (by omega) ha]
  have eb : (Int32.ofInt b).toBitVec.msb = false := by
    rw [← e, show (0 : Int32) = Int32.ofInt 0 from rfl, qi_le (by omega) hb]
    exact h0
  rw [e, Int32.toBitVec_xor, BitVec.msb_xor, eb, Bool.xor_false, ea]
theorem r_xorge {a b : Int} {off : Int} (tgt : Nat) (hd : decode (cd μ) pc = .ok (.ixor, 1)) (hd2 : decode (cd μ) (pc + 1) = .ok (.ifCond .ge off, 3)) (ht : ((pc + 1 : Nat) : Int) + off = (tgt : Int)) (h0 : 0 ≤ b) (k : (0 ≤ a → WM μ tgt ls st σ Q) ∧ (¬ 0 ≤ a → WM μ (pc + 1 + 3) ls st σ Q)) : WM μ pc ls (vI b :: vI a :: st) σ Q := by
  intro hσ hl hs G p l e s m args below meth c C H locs lsA hP hS hL
  have ha : inR a := hs.tl.hd
  have hb : inR b := hs.hd
  refine lv_ixor C.1 C.2.1 hd ?_
  exact lv_if_ge C.1 C.2.1 hd2 ht (fun h => k.1 ((q_xor ha hb h0).mp h) hσ hl hs.tl.tl G p l e s m args below meth c C H locs lsA hP hS hL) (fun h => k.2 (fun z => h ((q_xor ha hb h0).mpr z)) hσ hl hs.tl.tl G p l e s m args below meth c C H locs lsA hP hS hL)
end RX
theorem lcq_lt {a b : Int} : lcq a b < 0 ↔ a < b := by unfold lcq; split <;> (try split) <;> omega
theorem lcq_le {a b : Int} : lcq a b ≤ 0 ↔ a ≤ b := by unfold lcq; split <;> (try split) <;> omega
theorem lcq_gt {a b : Int} : 0 < lcq a b ↔ b < a := by unfold lcq; split <;> (try split) <;> omega
theorem lcq_ge {a b : Int} : 0 ≤ lcq a b ↔ b ≤ a := by unfold lcq; split <;> (try split) <;> omega
def wr (x : Int) : Int := (Int32.ofInt x).toInt
theorem wr_in (x : Int) : inR (wr x) := ⟨Int32.le_toInt _, Int32.toInt_le _⟩
theorem wr_id {x : Int} (h : inR x) : wr x = x := toI h
theorem r_isubw {μ : Md} {pc : Nat} {ls : List (Nat × Vq)} {st : List Vq} {σ : St} {Q : Option Vq → St → Prop} {a b : Int} (hd : decode (cd μ) pc = .ok (.isub, 1)) (k : WM μ (pc + 1) ls (vI (wr (a - b)) :: st) σ Q) : WM μ pc ls (vI b :: vI a :: st) σ Q := by
  intro hσ hl hs G p l e s m args below meth c C H locs lsA hP hS hL
  refine lv_isub C.1 C.2.1 hd ?_
  rw [qi_sub, show Int32.ofInt (a - b) = Int32.ofInt (wr (a - b)) from (Int32.ofInt_toInt (Int32.ofInt (a - b))).symm]
  exact (k hσ hl (oks_cons (v := vI (wr (a - b))) (wr_in _) hs.tl.tl) G p l e s m args below meth c C H locs lsA hP hS hL)
