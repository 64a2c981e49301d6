-- items, accounts: what the hits add; the end
def vbq (A : St) (k t j : Int) : Int := if j = 5 then sI (fun k => if A 1 (hI A k) = t then pj A (A 0 2) (hI A k) else 0) k else vaq A (A 0 0) t j
section IT3
variable {G : Gq} {w0 w w' u v : Wd} {A A' : St} {B : Bks} {S T : List Nat} {a r n mc ms q x h row N y p it : Nat} {m k i j R sg t e d : Int} {f g g0 : Int → Nat} {σ : St} {ρ : Int → Nat} {va : Int → Int → Int} {gg : Int → Int} {mm K' : Nat}
theorem vbq_0 : vbq A 0 = vaq A (A 0 0) := by
  funext t j
  unfold vbq
  by_cases e : j = 5
  · subst e; rw [if_pos rfl]; unfold vaq; rw [if_pos rfl]; rfl
  · rw [if_neg e]
theorem vbq_in (hA : OKA A) (k0 : 0 ≤ k) (k1 : k ≤ hb A (A 0 2)) : -1151988480 ≤ vbq A k t 5 ∧ vbq A k t 5 ≤ 1151988480 := by
  have hhb := hb_in hA hA.2.2.1.1 (Int.le_refl _)
  have hr : ∀ j, 0 ≤ j → j < k → -4799952 ≤ (if A 1 (hI A j) = t then pj A (A 0 2) (hI A j) else 0) ∧ (if A 1 (hI A j) = t then pj A (A 0 2) (hI A j) else 0) ≤ 4799952 := fun j a b => by
    have hin := hI_in hA a (by omega : j < hb A (A 0 2))
    have hp := pj_in hA (R := A 0 2) hin.1 hin.2.1
    split <;> omega
  have h5 := hA.2.2.1.2.1
  have h1 := sI_ge k0 (fun j a b => (hr j a b).1)
  have h2 := sI_le k0 (fun j a b => (hr j a b).2)
  unfold vbq
  rw [if_pos rfl]
  omega
theorem acc_eq (hA : OKA A) (t0 : 0 ≤ t) (t1 : t < 7) (j0 : 0 ≤ j) (j1 : j < 6) : q_account A t j = vbq A (hb A (A 0 2)) t j := by
  have hhb := hb_in hA hA.2.2.1.1 (Int.le_refl _)
  unfold q_account vbq
  rw [if_neg (by omega)]
  by_cases e : j = 5
  · subst e
    rw [if_pos rfl, sI_m (F := fun i => if A 1 i = t then pj A (A 0 2) i else 0) (N := A 0 0) (h := hI A) hA.1.1 _ hhb.1 (fun k a b => by have := hI_in hA a b; exact ⟨this.1, this.2.1⟩)]
    refine sI_congr hA.1.1 (fun i a b => ?_)
    have ho : cI (fun k => decide (hI A k = i)) (hb A (A 0 2)) = th A (A 0 2) i := oft_th hA a b _ hA.2.2.1.1 (Int.le_refl _)
    show (if A 1 i = t then shq A 5 i else 0) = (if A 1 i = t then pj A (A 0 2) i else 0) * _
    rw [ho]
    by_cases h : A 1 i = t
    · rw [if_pos h, if_pos h]; rfl
    · rw [if_neg h, if_neg h, Int.zero_mul]
  · rw [if_neg e]
    unfold vaq
    rw [if_neg e]
/-- as IX, behind all items: k hits looked at -/
def IY (G : Gq) (w0 w : Wd) (A : St) (q : Nat) (ρ : Int → Nat) (p mm : Nat) (f : Int → Nat) (gg : Int → Int) (k : Int) : Prop :=
  CL G w0 w A ∧ MX w0 w q ρ (vbq A k) ∧ LSh G w0 w p mm (cI (fstq A) (A 0 0)) f gg ∧ ∀ k, 0 ≤ k → k < cI (fstq A) (A 0 0) → gg k = q_accounts A k
theorem IY.cls (hi : IY G w0 w A q ρ p mm f gg k) (hC : CR A σ) (hF : FC σ) : IY G w0 (uS w σ) A q ρ p mm f gg k := ⟨hi.1.cls hC hF, hi.2.1, hi.2.2.1, hi.2.2.2⟩
theorem y_itH {K : Int → Wd → Prop} (hB : BK G w0 A B) (hA : OKA A) (hC : AC A) (hL : HL G w0 A h r n m (A 0 2) g0) (hx0 : XOK G w0) (hin : it ∉ wL w0)
    (hK : ∀ W rc1 rs1, IY G w0 W A q ρ p mm f gg (hb A (A 0 2)) → mc ≤ rc1 → ms ≤ rs1 → WD G M_Cl_items 411 [(0, vR 0), (4, vI (A 0 0)), (5, vA q), (6, vA p), (7, vI 0)] [] W rc1 rs1 (yI K)) :
    ∀ k : Int, 0 ≤ k → k ≤ hb A (A 0 2) → ∀ (W : Wd) (rc1 rs1 : Nat), IY G w0 W A q ρ p mm f gg k → IT W it h m k → mc ≤ rc1 → ms ≤ rs1 → WD G M_Cl_items 344 [(0, vR 0), (1, vA (bD B)), (4, vI (A 0 0)), (5, vA q), (6, vA p), (7, vP (some it))] [] W rc1 rs1 (yI K) := by
  refine up_ind (fun W rc1 rs1 hi hT hc hs => ?_) (fun k k0 k1 ih W rc1 rs1 hi hT hc hs => ?_)
  · have hL1 := hi.1.hl hL
    exact l_Cl_items_8 _ _ _ _ _ ⟨it, rfl, hT.1.is, v_Ai_hasNext hL1.1 hT (fun h => absurd h (Int.lt_irrefl _)) (fun _ => ⟨fun _ => hK W _ _ hi hc hs, fun h => absurd rfl h⟩) (Int.le_refl _)⟩
  · have hL1 := hi.1.hl hL
    refine l_Cl_items_8 _ _ _ _ _ ⟨it, rfl, hT.1.is, v_Ai_hasNext hL1.1 hT (fun _ => ⟨fun h => absurd h (by decide), fun _ => ?_⟩) (fun h => by omega) (by omega)⟩
    refine DP.gx (v_Ai_next hL1.1 hT k0 k1 (fun w3 hk3 hI3 _ hx3 _ => ?_))
    have kt : Kt w0 W w3 := ⟨[it], hk3 [it] W Kp.rf (Or.inl (by simp)), fun b hb => by rw [List.mem_singleton.mp hb]; exact ⟨hin, fun _ => Or.inr (Or.inr (Or.inr (Or.inr hT.1.2)))⟩⟩
    have l3 := hi.1.kt kt hx0 hx3
    have M3 := hi.2.1.kt kt
    have S3 := hi.2.2.1.kq (hk3 [it] W Kp.rf (Or.inl (by simp))) (fun b hb => by rw [List.mem_singleton.mp hb]; exact ⟨_, hT.1.2, by simp, by simp, by simp, by simp⟩)
    have ht := (l3.hl hL).2 k k0 k1
    have hin2 := hI_in hA k0 k1
    have hb3 := l3.bk hB
    have him := hb3.2.2.2.2.1 _ hin2.1 hin2.2.1
    have hit := hA.1.2.2 _ hin2.1 hin2.2.1
    have ac := hC _ hin2.1 hin2.2.1
    have h02 := hA.2.2.1
    have hR0 : 0 < A 0 2 := by
      rcases Int.lt_or_le 0 (A 0 2) with h9 | h9
      · exact h9
      · have : A 0 2 = 0 := by omega
        rw [this] at k1
        have : hb A 0 = 0 := rfl
        omega
    obtain ⟨⟨q1, q2, q3⟩, rr, rj⟩ := id M3
    obtain ⟨r1, r2, r3⟩ := rr (A 1 (hI A k)) hit.1 (by omega)
    refine ⟨g0 k, rfl, ht.1.is, hb3.1.1.is, bI B, hb3.1.2.1, hb3.2.1.1.is, ?_⟩
    rw [ht.2.1]
    refine v_Al_get hb3.2.1 hin2.1 hin2.2.1 ⟨_, rfl, him.1.is, 100, q1.is, ?_⟩
    rw [him.2.1]
    refine ⟨hit.1, by omega, q1, ρ (A 1 (hI A k)), q3 _ hit.1 (by omega), 6, r1.is, by omega, bS B, hb3.1.2.2.1, hb3.2.2.1.1.is, v_Al_size hb3.2.2.1 ?_⟩
    rw [r3 5 (by omega) (by omega)]
    have hv := vbq_in hA (t := A 1 (hI A k)) k0 (by omega : k ≤ hb A (A 0 2))
    have hp := pj_in hA (R := A 0 2) hin2.1 hin2.2.1
    refine y_part hb3 hA ht.1 ht.2.1 hin2.1 hin2.2.1 hR0 (by omega) ⟨inR_of (by omega) (by omega), r1, ?_⟩
    have kp : Kp [ρ (A 1 (hI A k))] w3 (uI w3 (ρ (A 1 (hI A k))) 5 (vbq A k (A 1 (hI A k)) 5 + pj A (A 0 2) (hI A k))) := Kp.rf.uI (Or.inl (by simp))
    refine WD.wf (fun _ hx4 _ => ih _ _ _ ⟨l3.wr hx0 hx4 kp r2, M3.set hit.1 (by omega) kp (fun j a b => ?_) (fun s j s0 s1 hne j0 j1 => ?_), S3.kq kp (fun b hb => by rw [List.mem_singleton.mp hb]; exact ⟨_, r1.2, by simp, by simp, by simp, by simp⟩), hi.2.2.2⟩ ?_ hc hs)
    · by_cases j5 : j = 5
      · subst j5
        rw [wI_uI_s]
        unfold vbq
        rw [if_pos rfl, if_pos rfl, sI_s k0, if_pos rfl]
      · rw [wI_uI_j j5, r3 j a b]
        unfold vbq
        rw [if_neg j5, if_neg j5]
    · unfold vbq
      by_cases j5 : j = 5
      · rw [if_pos j5, if_pos j5, sI_s k0, if_neg (fun e => hne e.symm), Int.add_zero]
      · rw [if_neg j5, if_neg j5]
    · exact hI3.kp kp (fun hm => (hI3.1.kne r1 (by simp)) (List.mem_singleton.mp hm))
theorem y_itE {K : Int → Wd → Prop} (hA : OKA A) (hC : AC A) (hK : ∀ w', CL G w0 w' A → K 1 w') (hx0 : XOK G w0) (hin : it ∉ wL w0) (hg : ∀ k, 0 ≤ k → k < cI (fstq A) (A 0 0) → gg k = q_accounts A k) :
    ∀ k : Int, 0 ≤ k → k ≤ cI (fstq A) (A 0 0) → ∀ (W : Wd) (rc1 rs1 : Nat), CL G w0 W A → KI G W it mm (cI (fstq A) (A 0 0)) k f gg → WD G M_Cl_items 471 [(0, vR 0), (4, vI (A 0 0)), (7, vI k), (8, vP (some it))] [] W rc1 rs1 (yI K) := by
  have hA0 := hA.1.1
  have hA48 := hA.1.2.1
  have hd := cI_in (p := fstq A) hA0
  refine up_ind (fun W rc1 rs1 l hI => ?_) (fun k k0 k1 ih W rc1 rs1 l hI => ?_)
  · refine l_Cl_items_11 _ _ _ ⟨it, rfl, hI.1.1.is, v_Lh_hasNext hI (fun h => absurd h (Int.lt_irrefl _)) (fun _ => ⟨fun _ => ?_, fun h => absurd rfl h⟩)⟩
    have e1 : q_account A 100 0 = -10000000 := by unfold q_account; rw [if_pos (by omega)]
    have e2 : q_account A 0 6 = -10000000 := by unfold q_account; rw [if_pos (by omega)]
    have e3 : q_item A (A 0 0) 0 = -10000000 := by unfold q_item; rw [if_pos (by omega)]
    have e4 : q_item A (-1) 0 = -10000000 := by unfold q_item; rw [if_pos (by omega)]
    refine c_accounts l.2.2.1 l.2.2.2 hA (fun σ1 c1 f1 _ => ⟨fun hne => absurd (acs_end hA0) hne, fun _ => ?_⟩)
    refine c_accounts c1 f1 hA (fun σ2 c2 f2 _ => ⟨fun hne => absurd acs_all hne, fun _ => ?_⟩)
    refine c_accounts c2 f2 hA (fun σ3 c3 f3 _ => ⟨fun hne => absurd acs_low hne, fun _ => ?_⟩)
    refine c_account c3 f3 hA (fun σ4 c4 f4 _ => ⟨fun hne => absurd e1 hne, fun _ => ?_⟩)
    refine c_account c4 f4 hA (fun σ5 c5 f5 _ => ⟨fun hne => absurd e2 hne, fun _ => ?_⟩)
    refine c_item c5 f5 hA (fun σ6 c6 f6 _ => ⟨fun hne => absurd e3 hne, fun _ => ?_⟩)
    refine c_item c6 f6 hA (fun σ7 c7 f7 _ => ⟨fun hne => absurd e4 hne, fun _ => ?_⟩)
    exact c_find c7 f7 hA (fun σ8 c8 f8 _ => ⟨fun hne => absurd (plcq_99 hA.1 hC) hne, fun _ => hK _ (l.cls c8 f8)⟩)
  · refine l_Cl_items_11 _ _ _ ⟨it, rfl, hI.1.1.is, v_Lh_hasNext hI (fun _ => ⟨fun h => absurd h (by decide), fun _ => ?_⟩) (fun h => absurd k1 h)⟩
    refine DP.gx (v_Lk_next (w0 := w0) hI k0 k1 hin (fun w3 kt hI3 _ hx3 _ => ?_))
    have l3 := l.kt kt hx0 hx3
    have hgk := (hI3.2.2 k k0 k1).2
    have hbx := kX_is hx3 hgk.1 hgk.2
    refine ⟨kX G (gg k), rfl, hbx.1, v_In_intValue hbx ⟨inR_s (by omega) (by omega), c_accounts l3.2.2.1 l3.2.2.2 hA (fun σ1 c1 f1 _ => ⟨fun _ => ih _ _ _ (l3.cls c1 f1) hI3, fun hne => absurd (hg k k0 k1).symm hne⟩)⟩⟩
theorem mna_kp {r1 : Nat → Nat} (hM : MnF G w q r1 N) : ∀ i, i ≤ N → Kp [] w (mna w q N K' r1 i) := by
  intro i
  induction i with
  | zero => exact fun _ => (Kp.rf.uN hM.1.1).uG (Or.inr hM.1.1)
  | succ i ih => exact fun hi => (ih (by omega)).uN (mna_fr hM i (by omega)).1
theorem y_items {K : Int → Wd → Prop} (hB : BK G w A B) (hA : OKA A) (hC : AC A) (hU : UK A) (hL : HL G w A h r n m (A 0 2) g) (hCR : CR A (wS w)) (hF : FC (wS w)) (hc : 400 ≤ mc) (hs : 4000 ≤ ms) (hK : ∀ w', CL G w w' A → K 1 w') : DI G M_Cl_items [vR 0, vA (bD B), vA h] w mc ms K := by
  refine DC.wf fun hσ hx => ?_
  have hA48 := hA.1.2.1
  have hA0 := hA.1.1
  have h02 := hA.2.2.1
  have hhb := hb_in hA h02.1 (Int.le_refl _)
  refine e_Cl_items (bD B) h ⟨hB.1.1.is, bI B, hB.1.2.1, hB.2.1.1.is, v_Al_size hB.2.1 ⟨by omega, by omega, fun q r10 hM => ⟨by omega, by omega, fun p hp => ⟨1, 12, by omega, by omega, ?_⟩⟩⟩⟩
  have k0 := mna_kp (K' := 6) hM 100 (Nat.le_refl _)
  have M0 : MX w (mna w q 100 6 r10 100) q (fun t => r10 t.toNat) (vaq A 0) := by
    refine ⟨⟨hM.ow, hM.1.1, fun t a b => ?_⟩, fun t a b => ⟨hM.or (by omega), (hM.2.1 t.toNat (by omega)).1.1, fun j x y => ?_⟩, fun s t a b c d e => ?_⟩
    · rw [(mna_q hM 100 (Nat.le_refl _)).2 t, if_pos (by omega)]
    · rw [(mna_r hM 100 (Nat.le_refl _) t.toNat (by omega)).2 j]
      unfold vaq
      split <;> rfl
    · have := hM.2.2 s.toNat t.toNat (by omega) (by omega) e
      omega
  have hx1 := mna_x (K := 6) hM hx 100 (Nat.le_refl _)
  generalize mna w q 100 6 r10 100 = w1 at k0 M0 hp hx1 ⊢
  have hpn : p ∉ wL w := fun h => hp.1 (k0.L h)
  refine DV.gx (v_Lx_init (w0 := w) (f := fun _ => 0) (g := fun _ => 0) Ow.nw (fun b hb => ?_) (Nat.le_refl _) (Nat.le_refl _) (fun mm w2 hmm hk2 hS2 _ hx2 _ => ?_))
  · exact (k0.uN (k := kO 19) hp.1).L hb
  have k2 : Kp [] w w2 := (k0.uN hp.1).trd hk2 (fun b hb => by rw [List.mem_singleton.mp hb]; exact Or.inr hpn)
  have M2 : MX w w2 q (fun t => r10 t.toNat) (vaq A 0) := M0.k0 ((Kp.rf.uN hp.1).trd hk2 (fun b hb => by rw [List.mem_singleton.mp hb]; exact Or.inr hp.1))
  have l2 : CL G w w2 A := ((CL.rf hCR hF).law (Kg.of k2 hx hx2))
  have key : ∀ i : Int, 0 ≤ i → i ≤ A 0 0 → ∀ (W : Wd) (f : Int → Nat) (gg : Int → Int) (rc1 rs1 : Nat), IX G w W A q (fun t => r10 t.toNat) p mm f gg i → 4 * (48 - i.toNat) + 10 ≤ rc1 → 35 * (48 - i.toNat) + 100 ≤ rs1 → WD G M_Cl_items 33 [(0, vR 0), (1, vA (bD B)), (2, vA h), (3, vI (1 + prq A (A 0 1) i)), (4, vI (A 0 0)), (5, vA q), (6, vA p), (7, vI i)] [] W rc1 rs1 (yI K) := by
    refine up_ind (fun W f gg rc1 rs1 hI hc1 hs1 => ?_) (fun i i0 i1 ih W f gg rc1 rs1 hI hc1 hs1 => ?_)
    · refine l_Cl_items_1 _ _ _ _ _ _ _ ⟨fun _ => ⟨1, 4, by omega, by omega, (hI.1.hl hL).1.1.is, ?_⟩, fun h => absurd (Int.le_refl _) h⟩
      refine DP.gx (v_Al_iterator (hI.1.hl hL).1 (Nat.le_refl _) (Nat.le_refl _) (fun it w3 hit hk3 hI3 _ hx3 _ => ?_))
      have hin : it ∉ wL w := fun h => hit.1 (hI.1.sub it h)
      have l3 : CL G w w3 A := hI.1.kt (Kt.of hk3) hx hx3
      refine y_itH (ρ := fun t => r10 t.toNat) (mc := 5) (ms := 50) hB hA hC hL hx hin (fun W4 rc4 rs4 h4 hc4 hs4 => ?_) 0 (Int.le_refl _) hhb.1 w3 _ _ ⟨l3, ?_, hI.2.2.1.k0 hk3, hI.2.2.2⟩ hI3 (by omega) (by omega)
      · have acc : ∀ a : Int, 0 ≤ a → a ≤ 7 → ∀ (W5 : Wd) (rc5 rs5 : Nat), IY G w W5 A q (fun t => r10 t.toNat) p mm f gg (hb A (A 0 2)) → 5 ≤ rc5 → 50 ≤ rs5 → WD G M_Cl_items 411 [(0, vR 0), (4, vI (A 0 0)), (5, vA q), (6, vA p), (7, vI a)] [] W5 rc5 rs5 (yI K) := by
          refine up_ind (fun W5 rc5 rs5 h5 hc5 hs5 => ?_) (fun a a0 a1 iha W5 rc5 rs5 h5 hc5 hs5 => ?_)
          · refine l_Cl_items_9 _ _ _ _ ⟨fun _ => ⟨2, 7, by omega, by omega, h5.2.2.1.1.1.is, ?_⟩, fun h => absurd (by omega) h⟩
            refine DP.gx (v_Hs_iterator h5.2.2.1 h5.1.sub (Nat.le_refl _) (Nat.le_refl _) (fun it2 w6 kt6 hin6 hI6 _ hx6 _ => ?_))
            exact y_itE hA hC hK hx hin6 h5.2.2.2 0 (Int.le_refl _) (cI_in hA0).1 w6 _ _ (h5.1.kt kt6 hx hx6) hI6
          · have inner : ∀ b : Int, 0 ≤ b → b ≤ 6 → ∀ (W6 : Wd), IY G w W6 A q (fun t => r10 t.toNat) p mm f gg (hb A (A 0 2)) → WD G M_Cl_items 421 [(0, vR 0), (4, vI (A 0 0)), (5, vA q), (6, vA p), (7, vI a), (8, vI b)] [] W6 rc5 rs5 (yI K) := by
              refine up_ind (fun W6 h6 => ?_) (fun b b0 b1 ihb W6 h6 => ?_)
              · exact l_Cl_items_10 _ _ _ _ _ ⟨fun _ => ⟨inR_s (by omega) (by omega), iha W6 _ _ h6 hc5 hs5⟩, fun h => absurd (by omega) h⟩
              · obtain ⟨⟨q1, q2, q3⟩, rr, rj⟩ := id h6.2.1
                obtain ⟨r1, r2, r3⟩ := rr a a0 (by omega)
                refine l_Cl_items_10 _ _ _ _ _ ⟨fun h => by omega, fun _ => c_account h6.1.2.2.1 h6.1.2.2.2 hA (fun σ1 c1 f1 _ => ⟨100, q1.is, a0, by omega, q1, r10 a.toNat, q3 a a0 (by omega), 6, r1.is, b0, by omega, fun _ => ⟨inR_s (by omega) (by omega), ihb _ (h6.cls c1 f1)⟩, fun hne => ?_⟩)⟩
                exact absurd ((acc_eq hA a0 a1 b0 b1).trans (r3 b b0 b1).symm) hne
            exact l_Cl_items_9 _ _ _ _ ⟨fun h => by omega, fun _ => inner 0 (by omega) (by omega) W5 h5⟩
        exact acc 0 (by omega) (by omega) W4 _ _ h4 hc4 hs4
      · rw [vbq_0]; exact hI.2.1.k0 hk3
    · have hb1 := hI.1.bk hB
      have him := hb1.2.2.2.2.1 i i0 i1
      have nx : ∀ y0, y0 = (if rc A (A 0 1) i = 0 then 0 else 1) → WD G M_Cl_items 80 [(0, vR 0), (1, vA (bD B)), (2, vA h), (3, vI (1 + prq A (A 0 1) i)), (4, vI (A 0 0)), (5, vA q), (6, vA p), (7, vI i), (8, vA (bF B i)), (9, vI (bi (ce A (A 0 1) i)))] [vI y0] W rc1 rs1 (yI K) := fun y0 hy =>
        y_itA hB hA hL hI i0 i1 rfl hy (by omega) (by omega) (fun W2 its rc2 rs2 hI2 hO2 hv2 hc2 hs2 =>
          y_itB (mc := rc2) (ms := rs2) hB hA hU i0 i1 hy (fun W3 rc3 rs3 hI3 hc3 hs3 =>
            y_itC hB hA hC hI3 hx i0 i1 rfl (by omega) (by omega) (fun W4 f4 gg4 rc4 rs4 hI4 hc4 hs4 => ih W4 f4 gg4 rc4 rs4 hI4 (by omega) (by omega))) 0 (by omega) (by omega) W2 rc2 rs2 hI2 hO2 hv2 (Nat.le_refl _) (Nat.le_refl _))
      refine l_Cl_items_1 _ _ _ _ _ _ _ ⟨fun h => by omega, fun _ => ⟨hb1.1.1.is, bI B, hb1.1.2.1, hb1.2.1.1.is, v_Al_get hb1.2.1 i0 i1 ⟨bF B i, rfl, him.1.is, v_Bo_certain hb1.1 him ⟨fun hz => nx 0 ?_, fun hz => v_It_coins him ⟨fun hle => nx 0 ?_, fun hgt => nx 1 ?_⟩⟩⟩⟩⟩
      · have hce : ce A (A 0 1) i = true := by
          cases hc2 : ce A (A 0 1) i with
          | true => rfl
          | false => rw [hc2] at hz; exact absurd rfl hz
        unfold rc
        rw [hce]; rfl
      all_goals
        have hce : ce A (A 0 1) i = false := by
          cases hc2 : ce A (A 0 1) i with
          | false => rfl
          | true => rw [hc2] at hz; exact absurd hz (by decide)
        have hco := co_in hA.1 i0 i1
        have er : rc A (A 0 1) i = co A i := by unfold rc; rw [hce]; rfl
      · rw [er, if_pos (by omega)]
      · rw [er, if_neg (by omega)]
  have := key 0 (Int.le_refl _) hA0 w2 (fun _ => 0) (fun _ => 0) (mc - (1 + 100) - 1 - 1) (ms - (100 + 100 * 6) - 1 - 12) ⟨l2, M2, hS2, fun k a b => by rw [cI_0] at b; omega⟩ (by omega) (by omega)
  exact this
end IT3
