-- a text fed, twenty letters at a time
theorem ishl8 {a c : Int} (a0 : 0 ≤ a) (a1 : a < 8388608) (c0 : 0 ≤ c) (c1 : c < 256) : iorq (ishlq a 8) c = 256 * a + c := by
  obtain ⟨n, rfl⟩ := Int.eq_ofNat_of_zero_le a0
  obtain ⟨m, rfl⟩ := Int.eq_ofNat_of_zero_le c0
  have hn : n < 8388608 := by omega
  have hm : m < 256 := by omega
  unfold iorq ishlq
  rw [Int32.ofInt_toInt]
  have e : (Int32.ofInt (n : Int) <<< (Int32.ofInt 8 &&& 31) ||| Int32.ofInt (m : Int)) = Int32.ofInt ((256 * n + m : Nat) : Int) := by
    apply Int32.toBitVec_inj.1
    rw [Int32.toBitVec_or, Int32.toBitVec_shiftLeft]
    have e8 : ((Int32.ofInt 8 &&& 31).toBitVec.smod 32) = 8#32 := by decide
    rw [e8]
    have b : ∀ k : Nat, (Int32.ofInt (k : Int)).toBitVec = BitVec.ofNat 32 k := fun k => by
      show BitVec.ofInt 32 (k : Int) = _
      exact BitVec.ofInt_natCast 32 k
    rw [b, b, b]
    apply BitVec.eq_of_toNat_eq
    rw [BitVec.toNat_or, BitVec.toNat_ofNat]
    have s8 : (BitVec.ofNat 32 n <<< 8#32).toNat = n * 256 := by
      rw [BitVec.shiftLeft_eq', BitVec.toNat_shiftLeft, BitVec.toNat_ofNat, Nat.shiftLeft_eq]
      show (n % 4294967296) * 256 % 4294967296 = n * 256
      omega
    rw [s8, BitVec.toNat_ofNat]
    have h1 : m % 2 ^ 32 = m := by omega
    have h2 : (256 * n + m) % 2 ^ 32 = 256 * n + m := by omega
    rw [h1, h2]
    have := Nat.two_pow_add_eq_or_of_lt (i := 8) (b := m) (by omega) n
    rw [show n * 256 = 2 ^ 8 * n by omega, ← this]
  rw [e, toI (by unfold inR; omega)]
  omega
/-- the letters told, blanks behind them -/
def tby (T : Txt) (j : Int) : Int := if j < T.1 then T.2 j else 32
/-- the first p of the four letters from a place on, as a number -/
def pv (f : Int → Int) (o : Int) : Nat → Int
  | 0 => 0
  | p + 1 => 256 * pv f o p + f (o + p)
section FE
variable {G : Gq} {w0 w1 w w' u : Wd} {A A' : St} {B : Bks} {S : List Nat} {x vx n mc ms q N rc0 rs0 : Nat} {i j k o : Int} {σ : St} {T : Txt} {f : Int → Int}
theorem pv_in (h : ∀ j, o ≤ j → 0 ≤ f j ∧ f j ≤ 127) : ∀ p : Nat, p ≤ 4 → 0 ≤ pv f o p ∧ pv f o 0 = 0 ∧ (p ≤ 1 → pv f o p ≤ 127) ∧ (p ≤ 2 → pv f o p ≤ 32639) ∧ (p ≤ 3 → pv f o p ≤ 8355711) ∧ pv f o p ≤ 2139062143 := by
  have h0 := h o (by omega)
  have h1 := h (o + 1) (by omega)
  have h2 := h (o + 2) (by omega)
  have h3 := h (o + 3) (by omega)
  have e1 : pv f o 1 = f o := by show 256 * (0 : Int) + f (o + ((0 : Nat) : Int)) = f o; rw [show o + ((0 : Nat) : Int) = o by omega]; omega
  have e2 : pv f o 2 = 256 * f o + f (o + 1) := by show 256 * pv f o 1 + f (o + ((1 : Nat) : Int)) = _; rw [e1]; rfl
  have e3 : pv f o 3 = 256 * (256 * f o + f (o + 1)) + f (o + 2) := by show 256 * pv f o 2 + f (o + ((2 : Nat) : Int)) = _; rw [e2]; rfl
  have e4 : pv f o 4 = 256 * (256 * (256 * f o + f (o + 1)) + f (o + 2)) + f (o + 3) := by show 256 * pv f o 3 + f (o + ((3 : Nat) : Int)) = _; rw [e3]; rfl
  have e0 : pv f o 0 = 0 := rfl
  intro p hp
  have : p = 0 ∨ p = 1 ∨ p = 2 ∨ p = 3 ∨ p = 4 := by omega
  rcases this with rfl | rfl | rfl | rfl | rfl
  · omega
  · rw [e1]; omega
  · rw [e2]; omega
  · rw [e3]; omega
  · rw [e4]; omega
theorem pv_bv (h : ∀ j, o ≤ j → 0 ≤ f j ∧ f j ≤ 127) (q0 : 0 ≤ k) (q1 : k < 4) : bv (pv f o 4) (24 - 8 * k) = f (o + k) := by
  have h0 := h o (by omega)
  have h1 := h (o + 1) (by omega)
  have h2 := h (o + 2) (by omega)
  have h3 := h (o + 3) (by omega)
  have e1 : pv f o 1 = f o := by show 256 * (0 : Int) + f (o + ((0 : Nat) : Int)) = f o; rw [show o + ((0 : Nat) : Int) = o by omega]; omega
  have e2 : pv f o 2 = 256 * f o + f (o + 1) := by show 256 * pv f o 1 + f (o + ((1 : Nat) : Int)) = _; rw [e1]; rfl
  have e3 : pv f o 3 = 256 * (256 * f o + f (o + 1)) + f (o + 2) := by show 256 * pv f o 2 + f (o + ((2 : Nat) : Int)) = _; rw [e2]; rfl
  have e4 : pv f o 4 = 256 * (256 * (256 * f o + f (o + 1)) + f (o + 2)) + f (o + 3) := by show 256 * pv f o 3 + f (o + ((3 : Nat) : Int)) = _; rw [e3]; rfl
  rw [e4]
  unfold bv
  have : k = 0 ∨ k = 1 ∨ k = 2 ∨ k = 3 := by omega
  rcases this with rfl | rfl | rfl | rfl
  · rw [show (2 : Int) ^ (24 - 8 * (0 : Int)).toNat = 16777216 from rfl, Int.add_zero]; omega
  · rw [show (2 : Int) ^ (24 - 8 * (1 : Int)).toNat = 65536 from rfl]; omega
  · rw [show (2 : Int) ^ (24 - 8 * (2 : Int)).toNat = 256 from rfl]; omega
  · rw [show (2 : Int) ^ (24 - 8 * (3 : Int)).toNat = 1 from rfl]; omega
theorem fdb_pv (h : ∀ j, i ≤ j → 0 ≤ f j ∧ f j ≤ 127) (k0 : 0 ≤ k) (k1 : k < 20) : fdb (pv f (i + 4 * 0) 4) (pv f (i + 4 * 1) 4) (pv f (i + 4 * 2) 4) (pv f (i + 4 * 3) 4) (pv f (i + 4 * 4) 4) k = f (i + k) := by
  unfold fdb
  have hm := Int.emod_nonneg k (show (4 : Int) ≠ 0 by decide)
  have hm2 := Int.emod_lt_of_pos k (show (0 : Int) < 4 by decide)
  have go : ∀ m : Int, 0 ≤ m → k / 4 = m → bv (pv f (i + 4 * m) 4) (24 - 8 * (k % 4)) = f (i + k) := fun m m0 e => by
    rw [pv_bv (fun j hj => h j (by omega)) hm hm2]
    congr 1
    omega
  by_cases h0 : k < 4
  · rw [if_pos h0]; exact go 0 (by omega) (by omega)
  rw [if_neg h0]
  by_cases h1 : k < 8
  · rw [if_pos h1]; exact go 1 (by omega) (by omega)
  rw [if_neg h1]
  by_cases h2 : k < 12
  · rw [if_pos h2]; exact go 2 (by omega) (by omega)
  rw [if_neg h2]
  by_cases h3 : k < 16
  · rw [if_pos h3]; exact go 3 (by omega) (by omega)
  rw [if_neg h3]; exact go 4 (by omega) (by omega)
theorem fdA_0 (h : A 0 4 = 0) : fdA A f 0 = A := by
  funext c j
  unfold fdA
  rw [if_neg (by omega)]
  by_cases e : c = 0 ∧ j = 4
  · rw [if_pos e, e.1, e.2, h]; rfl
  · rw [if_neg e]
theorem fdA_add (h : A 0 4 = 0) (i0 : 0 ≤ i) {g : Int → Int} (hg : ∀ k, 0 ≤ k → k < 20 → g k = f (i + k)) : fdA (fdA A f i) g 20 = fdA A f (i + 20) := by
  have h4 : fdA A f i 0 4 = i := by unfold fdA; rw [if_neg (by omega), if_pos ⟨rfl, rfl⟩, h]; omega
  funext c j
  show (if c = 7 ∧ (fdA A f i 0 4 ≤ j ∧ j < fdA A f i 0 4 + 20) then g (j - fdA A f i 0 4) else if c = 0 ∧ j = 4 then fdA A f i 0 4 + 20 else fdA A f i c j) = fdA A f (i + 20) c j
  rw [h4]
  unfold fdA
  rw [h]
  by_cases e : c = 7 ∧ (i ≤ j ∧ j < i + 20)
  · rw [if_pos e, if_pos ⟨e.1, by omega, by omega⟩, hg _ (by omega) (by omega)]
    congr 1
    omega
  rw [if_neg e]
  by_cases e2 : c = 0 ∧ j = 4
  · rw [if_pos e2, if_neg (by omega), if_pos e2]; omega
  rw [if_neg e2, if_neg e2]
  by_cases e3 : c = 7 ∧ (0 ≤ j ∧ j < 0 + i)
  · rw [if_pos e3, if_pos ⟨e3.1, by omega, by omega⟩]
  · rw [if_neg e3]
    by_cases e4 : c = 7 ∧ (0 ≤ j ∧ j < 0 + (i + 20))
    · exact absurd ⟨e4.1, by omega, by omega⟩ (fun hh => if hj : i ≤ j then e ⟨e4.1, hj, by omega⟩ else e3 ⟨e4.1, by omega, by omega⟩ : ¬ (c = 7 ∧ (0 ≤ j ∧ j < 0 + (i + 20))))
    · rw [if_neg e4, if_neg e2]
theorem fdA_ok (hA : OKA A) (h : A 0 4 = 0) (i0 : 0 ≤ i) (i1 : i ≤ 900) : OKA (fdA A f i) := by
  have h4 : fdA A f i 0 4 = i := by unfold fdA; rw [if_neg (by omega), if_pos ⟨rfl, rfl⟩, h]; omega
  have h0 : ∀ j, j ≠ 4 → fdA A f i 0 j = A 0 j := fun j hj => by unfold fdA; rw [if_neg (by omega), if_neg (by omega)]
  have hc : ∀ c, c ≠ 0 → c ≠ 7 → ∀ j, fdA A f i c j = A c j := fun c c0 c7 j => by unfold fdA; rw [if_neg (by omega), if_neg (by omega)]
  obtain ⟨⟨a1, a2, a3⟩, a4, a5, a6, a7, a8⟩ := hA
  refine ⟨⟨by rw [h0 0 (by decide)]; exact a1, by rw [h0 0 (by decide)]; exact a2, fun j b c => ?_⟩, by rw [h0 1 (by decide)]; exact a4, ⟨by rw [h0 2 (by decide)]; exact a5.1, by rw [h0 2 (by decide)]; exact a5.2.1, by rw [h0 2 (by decide), h0 1 (by decide)]; exact a5.2.2.1, fun r b c => ?_⟩, by rw [h0 3 (by decide)]; exact a6, by rw [h4]; omega, ?_⟩
  · rw [h0 0 (by decide)] at c
    rw [hc 1 (by decide) (by decide), hc 2 (by decide) (by decide), hc 3 (by decide) (by decide), hc 4 (by decide) (by decide)]
    exact a3 j b c
  · rw [h0 2 (by decide)] at c
    rw [hc 5 (by decide) (by decide), h0 1 (by decide)]
    exact a5.2.2.2 r b c
  · rw [hc 6 (by decide) (by decide), hc 6 (by decide) (by decide), hc 6 (by decide) (by decide), hc 6 (by decide) (by decide), hc 6 (by decide) (by decide)]
    exact a8
theorem y_feeds {K : Int → Wd → Prop} (hX : TTx G w x vx n T) (hT : T.1 ≤ 900) (hCR : CR A (wS w)) (hF : FC (wS w)) (hA : OKA A) (h4 : A 0 4 = 0) (hc : 46 ≤ mc) (hs : 230 ≤ ms) (hK : ∀ w' N, T.1 ≤ N → N ≤ 900 → CL G w w' (fdA A (tby T) N) → K T.1 w') : DI G M_Cl_feeds [vR 0, vA x] w mc ms K := by
  have hT0 : 0 ≤ T.1 := by have := hX.2.2.2.2.1; omega
  have tb : ∀ j, 0 ≤ j → 0 ≤ tby T j ∧ tby T j ≤ 127 := fun j hj => by
    unfold tby
    by_cases h : j < T.1
    · rw [if_pos h]; exact hX.2.2.2.2.2.2 j hj h
    · rw [if_neg h]; omega
  have tx : ∀ W A2, CL G w W A2 → TTx G W x vx n T := fun W A2 hl => by
    have := hX.k0 hl.kg
    exact this
  refine e_Cl_feeds x ?_
  have key : ∀ c : Int, 0 ≤ c → c ≤ (T.1 + 19) / 20 → ∀ (W : Wd) (rc1 rs1 : Nat), CL G w W (fdA A (tby T) (20 * c)) → 45 - c.toNat ≤ rc1 → 5 * (45 - c.toNat) ≤ rs1 → WD G M_Cl_feeds 2 [(0, vR 0), (1, vA x), (2, vI (20 * c))] [] W rc1 rs1 (yI K) := by
    refine up_ind (fun W rc1 rs1 hl _ _ => ?_) (fun c c0 c1 ih W rc1 rs1 hl hc1 hs1 => ?_)
    · have t1 := tx W _ hl
      exact l_Cl_feeds_1 _ _ ⟨t1.1, v_Sg_length t1 ⟨fun _ => v_Sg_length t1 (hK W _ (by omega) (by omega) hl), fun h => absurd (by omega) h⟩⟩
    · have t1 := tx W _ hl
      refine l_Cl_feeds_1 _ _ ⟨t1.1, v_Sg_length t1 ⟨fun h => by omega, fun _ => ⟨by omega, by omega, fun q hq => ?_⟩⟩⟩
      have q0 := hq.up hl
      have inner : ∀ k : Int, 0 ≤ k → k ≤ 20 → ∀ W2, CL G w W2 (fdA A (tby T) (20 * c)) → Ow W2 q (kA 0 5) → (∀ m, 0 ≤ m → m < 5 → wI W2 q m = pv (tby T) (20 * c + 4 * m) (min 4 (k - 4 * m).toNat)) → WD G M_Cl_feeds 17 [(0, vR 0), (1, vA x), (2, vI (20 * c)), (3, vA q), (4, vI k)] [] W2 (rc1 - 1) (rs1 - 5) (yI K) := by
        refine up_ind (fun W2 hl2 hO hv => ?_) (fun k k0 k1 ihk W2 hl2 hO hv => ?_)
        · have v : ∀ m, 0 ≤ m → m < 5 → wI W2 q m = pv (tby T) (20 * c + 4 * m) 4 := fun m a b => by
            rw [hv m a b, show min 4 ((20 : Int) - 4 * m).toNat = 4 by omega]
          refine l_Cl_feeds_2 _ _ _ _ ⟨fun _ => ⟨5, hO.is, by omega, by omega, by omega, by omega, by omega, ?_⟩, fun h => absurd (by omega) h⟩
          rw [v 0 (by omega) (by omega), v 1 (by omega) (by omega), v 2 (by omega) (by omega), v 3 (by omega) (by omega), v 4 (by omega) (by omega)]
          refine c_feed hl2.2.2.1 hl2.2.2.2 (fdA_ok hA h4 (by omega) (by omega)) (fun σ1 k1 f1 _ => ?_)
          have e4 : fdA A (tby T) (20 * c) 0 4 = 20 * c := by unfold fdA; rw [if_neg (by omega), if_pos ⟨rfl, rfl⟩, h4]; omega
          unfold q_feed at k1
          rw [e4, if_neg (by omega)] at k1
          have k1 : CR (fdA (fdA A (tby T) (20 * c)) _ 20) σ1 := k1
          rw [fdA_add h4 (by omega) (fun k a b => fdb_pv (fun j hj => tb j (by omega)) a b), show 20 * c + 20 = 20 * (c + 1) by omega] at k1
          refine ⟨inR_s (by omega) (by omega), ?_⟩
          rw [show 20 * c + 20 = 20 * (c + 1) by omega]
          exact ih _ _ _ ⟨hl2.1, hl2.2.1, k1, f1⟩ (by omega) (by omega)
        · have t2 := tx W2 _ hl2
          have hm0 : 0 ≤ k / 4 := by omega
          have hm5 : k / 4 < 5 := by omega
          have hv0 := hv (k / 4) hm0 hm5
          have hpn := pv_in (f := tby T) (o := 20 * c + 4 * (k / 4)) (fun j hj => tb j (by omega)) (k - 4 * (k / 4)).toNat (by omega)
          rw [show min 4 (k - 4 * (k / 4)).toNat = (k - 4 * (k / 4)).toNat by omega] at hv0
          have hb3 : pv (tby T) (20 * c + 4 * (k / 4)) (k - 4 * (k / 4)).toNat ≤ 8355711 := hpn.2.2.2.2.1 (by omega)
          have fin : ∀ z, z = tby T (20 * c + k) → (Ow W2 q (kA 0 5)) ∧ (inR (k + 1)) ∧ WD G M_Cl_feeds 17 [(0, vR 0), (1, vA x), (2, vI (20 * c)), (3, vA q), (4, vI (k + 1))] [] (uI W2 q (k / 4) (iorq (ishlq (wI W2 q (k / 4)) 8) z)) (rc1 - 1) (rs1 - 5) (yI K) := fun z hz => by
            have hz2 := tb (20 * c + k) (by omega)
            rw [hv0, ishl8 hpn.1 (by omega) (by omega) (by omega)]
            refine ⟨hO, inR_s (by omega) (by omega), ihk _ (hl2.uI q0) hO.sI (fun m a b => ?_)⟩
            by_cases e : m = k / 4
            · rw [e, wI_uI_s, show min 4 (k + 1 - 4 * (k / 4)).toNat = (k - 4 * (k / 4)).toNat + 1 by omega]
              show _ = 256 * pv (tby T) (20 * c + 4 * (k / 4)) (k - 4 * (k / 4)).toNat + tby T (20 * c + 4 * (k / 4) + (((k - 4 * (k / 4)).toNat : Nat) : Int))
              rw [hz, show 20 * c + 4 * (k / 4) + (((k - 4 * (k / 4)).toNat : Nat) : Int) = 20 * c + k by omega]
            · rw [wI_uI_j e, hv m a b, show min 4 (k + 1 - 4 * m).toNat = min 4 (k - 4 * m).toNat by omega]
          refine l_Cl_feeds_2 _ _ _ _ ⟨fun h => by omega, fun _ => ⟨k0, 5, hO.is, hm0, hm5, inR_s (by omega) (by omega), t2.1, v_Sg_length t2 ⟨fun hle => fin 32 ?_, fun hgt => v_Sg_charAt t2 (by omega) (by omega) (fin _ ?_)⟩⟩⟩
          · unfold tby; rw [if_neg (by omega)]
          · unfold tby; rw [if_pos (by omega)]
      refine inner 0 (by omega) (by omega) _ (hl.uN hq) Ow.sN (fun m a b => ?_)
      rw [wI_uN_s, show min 4 ((0 : Int) - 4 * m).toNat = 0 by omega]
      rfl
  have := key 0 (Int.le_refl _) (by omega) w mc ms (by rw [Int.mul_zero, fdA_0 h4]; exact CL.rf hCR hF) (by omega) (by omega)
  exact this
end FE
