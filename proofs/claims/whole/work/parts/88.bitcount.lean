/-! THE COUNT OF BITS -/
def bsh (x : Int64) (k : Int32) : Int64 := ((Int64.toUInt64 x) >>> ((Int32.toInt64 k).toUInt64 &&& Int64.toUInt64 63)).toInt64
def bq1 (x : Int64) : Int64 := x - (bsh x 1 &&& (6148914691236517205 : Int64))
def bq2 (y : Int64) : Int64 := (y &&& (3689348814741910323 : Int64)) + (bsh y 2 &&& (3689348814741910323 : Int64))
def bq3 (y : Int64) : Int64 := (y + bsh y 4) &&& (1085102592571150095 : Int64)
theorem bcount_eq (x : Int64) (h : zH) : f_J13_bitCount_95d88 x h = some (Int64.toInt32 (bq3 (bq2 (bq1 x)) + bsh (bq3 (bq2 (bq1 x))) 8 + bsh (bq3 (bq2 (bq1 x)) + bsh (bq3 (bq2 (bq1 x))) 8) 16 + bsh (bq3 (bq2 (bq1 x)) + bsh (bq3 (bq2 (bq1 x))) 8 + bsh (bq3 (bq2 (bq1 x)) + bsh (bq3 (bq2 (bq1 x))) 8) 16) 32) &&& (127 : Int32), h) := rfl
def nN (x : Int64) : Nat := x.toBitVec.toNat
theorem nN_lt (x : Int64) : nN x < 18446744073709551616 := x.toBitVec.isLt
theorem nN_and (x y : Int64) : nN (x &&& y) = nN x &&& nN y := by unfold nN; rw [Int64.toBitVec_and, BitVec.toNat_and]
theorem nN_add {x y : Int64} (h : nN x + nN y < 18446744073709551616) : nN (x + y) = nN x + nN y := by
  unfold nN at *
  rw [Int64.toBitVec_add, BitVec.toNat_add]
  exact Nat.mod_eq_of_lt h
theorem nN_sub {x y : Int64} (h : nN y ≤ nN x) : nN (x - y) = nN x - nN y := by
  have h1 := nN_lt x
  unfold nN at *
  rw [Int64.toBitVec_sub, BitVec.toNat_sub]
  omega
theorem nN_sh (x : Int64) {k : Int32} {n : Nat} (hk : ((Int32.toInt64 k).toUInt64 &&& Int64.toUInt64 63).toBitVec % 64#64 = BitVec.ofNat 64 n) (hn : n < 64) : nN (bsh x k) = nN x / 2 ^ n := by
  have e : (bsh x k).toBitVec = x.toBitVec >>> (((Int32.toInt64 k).toUInt64 &&& Int64.toUInt64 63).toBitVec % 64#64).toNat := rfl
  unfold nN
  rw [e, hk, BitVec.toNat_ushiftRight, Nat.shiftRight_eq_div_pow, BitVec.toNat_ofNat, Nat.mod_eq_of_lt (by omega)]
/-- bytes -/
def BN : Nat → (Nat → Nat) → Nat
  | 0, _ => 0
  | n + 1, b => b 0 + 256 * BN n (fun i => b (i + 1))
theorem land_split {a c : Nat} (p d : Nat) (ha : a < 256) (hc : c < 256) : (a + 256 * p) &&& (c + 256 * d) = (a &&& c) + 256 * (p &&& d) := by
  have hac : a &&& c < 2 ^ 8 := Nat.and_lt_two_pow a (show c < 2 ^ 8 from hc)
  rw [Nat.add_comm a, Nat.add_comm c, Nat.add_comm (a &&& c)]
  apply Nat.eq_of_testBit_eq
  intro i
  rw [Nat.testBit_and, show (256 : Nat) = 2 ^ 8 from rfl, Nat.testBit_two_pow_mul_add _ (show a < 2 ^ 8 from ha), Nat.testBit_two_pow_mul_add _ (show c < 2 ^ 8 from hc), Nat.testBit_two_pow_mul_add _ hac]
  by_cases q : i < 8
  · simp only [q, if_true, Nat.testBit_and]
  · simp only [q, if_false, Nat.testBit_and]
theorem BN_and (w : Nat) (hw : w < 256) : ∀ (n : Nat) (b : Nat → Nat), (∀ i, b i < 256) → BN n b &&& BN n (fun _ => w) = BN n (fun i => b i &&& w)
  | 0, b, hb => by simp [BN]
  | n + 1, b, hb => by
    simp only [BN]
    rw [land_split _ _ (hb 0) hw, BN_and w hw n _ (fun i => hb (i + 1))]
theorem dec5 : ∀ (x : Fin 256) (e : Fin 2), (x.val / 2 + 128 * e.val) &&& 85 = (x.val / 2) &&& 85 := by decide +kernel
theorem dec3 : ∀ (x : Fin 256) (e : Fin 4), (x.val / 4 + 64 * e.val) &&& 51 = (x.val / 4) &&& 51 := by decide +kernel
theorem BN_h5 : ∀ (n : Nat) (b : Nat → Nat), (∀ i, b i < 256) → BN n b / 2 &&& BN n (fun _ => 85) = BN n (fun i => (b i / 2) &&& 85)
  | 0, b, hb => by simp [BN]
  | n + 1, b, hb => by
    simp only [BN]
    have h0 := hb 0
    rw [show (b 0 + 256 * BN n (fun i => b (i + 1))) / 2 = (b 0 / 2 + 128 * (BN n (fun i => b (i + 1)) % 2)) + 256 * (BN n (fun i => b (i + 1)) / 2) by omega, land_split _ _ (by omega) (by omega), BN_h5 n _ (fun i => hb (i + 1))]
    congr 1
    exact dec5 ⟨b 0, h0⟩ ⟨BN n (fun i => b (i + 1)) % 2, by omega⟩
theorem BN_h3 : ∀ (n : Nat) (b : Nat → Nat), (∀ i, b i < 256) → BN n b / 4 &&& BN n (fun _ => 51) = BN n (fun i => (b i / 4) &&& 51)
  | 0, b, hb => by simp [BN]
  | n + 1, b, hb => by
    simp only [BN]
    have h0 := hb 0
    rw [show (b 0 + 256 * BN n (fun i => b (i + 1))) / 4 = (b 0 / 4 + 64 * (BN n (fun i => b (i + 1)) % 4)) + 256 * (BN n (fun i => b (i + 1)) / 4) by omega, land_split _ _ (by omega) (by omega), BN_h3 n _ (fun i => hb (i + 1))]
    congr 1
    exact dec3 ⟨b 0, h0⟩ ⟨BN n (fun i => b (i + 1)) % 4, by omega⟩
theorem BN_add : ∀ (n : Nat) (b c : Nat → Nat), BN n b + BN n c = BN n (fun i => b i + c i)
  | 0, b, c => rfl
  | n + 1, b, c => by
    simp only [BN]
    rw [← BN_add n]; omega
theorem BN_lt : ∀ (n : Nat) (b : Nat → Nat), (∀ i, b i < 256) → BN n b < 256 ^ n
  | 0, b, hb => by simp [BN]
  | n + 1, b, hb => by
    have ih := BN_lt n _ (fun i => hb (i + 1))
    have h0 := hb 0
    simp only [BN]
    rw [Nat.pow_succ]; omega
theorem BN_cg : ∀ (n : Nat) (b c : Nat → Nat), (∀ i, b i = c i) → BN n b = BN n c := fun n b c h => by rw [show b = c from funext h]
/-- the nibbles of a byte are at most four -/
def nib (x : Nat) : Prop := x % 16 ≤ 4 ∧ x / 16 ≤ 4
theorem BN_m16 : ∀ (n : Nat) (b : Nat → Nat), (∀ i, nib (b i)) → BN n b % 16 ≤ 4
  | 0, b, hb => by simp [BN]
  | n + 1, b, hb => by
    have h0 := hb 0
    unfold nib at h0
    simp only [BN]; omega
theorem dec15 : ∀ (x e : Fin 80), (x.val % 16 ≤ 4 ∧ x.val / 16 ≤ 4) → e.val ≤ 4 → (x.val + x.val / 16 + 16 * e.val) &&& 15 = x.val % 16 + x.val / 16 := by decide +kernel
theorem BN_h15 : ∀ (n : Nat) (b : Nat → Nat), (∀ i, nib (b i)) → (BN n b + BN n b / 16) &&& BN n (fun _ => 15) = BN n (fun i => b i % 16 + b i / 16)
  | 0, b, hb => by simp [BN]
  | n + 1, b, hb => by
    simp only [BN]
    have h0 := hb 0
    have h1 := BN_m16 n _ (fun i => hb (i + 1))
    unfold nib at h0
    rw [show b 0 + 256 * BN n (fun i => b (i + 1)) + (b 0 + 256 * BN n (fun i => b (i + 1))) / 16 = (b 0 + b 0 / 16 + 16 * (BN n (fun i => b (i + 1)) % 16)) + 256 * (BN n (fun i => b (i + 1)) + BN n (fun i => b (i + 1)) / 16) by omega, land_split _ _ (by omega) (by omega), BN_h15 n _ (fun i => hb (i + 1))]
    congr 1
    exact dec15 ⟨b 0, by omega⟩ ⟨BN n (fun i => b (i + 1)) % 16, by omega⟩ h0 h1
def bp1 (x : Nat) : Nat := x - ((x / 2) &&& 85)
def bp2 (x : Nat) : Nat := (x &&& 51) + ((x / 4) &&& 51)
def bp3 (x : Nat) : Nat := x % 16 + x / 16
theorem decP : ∀ x : Fin 256, ((x.val / 2) &&& 85) ≤ x.val ∧ bp1 x.val < 256 ∧ bp2 (bp1 x.val) < 80 ∧ bp2 (bp1 x.val) % 16 ≤ 4 ∧ bp2 (bp1 x.val) / 16 ≤ 4 := by decide +kernel
theorem decC : ∀ a b c d e f g h : Fin 2, bp3 (bp2 (bp1 (a.val + 2 * b.val + 4 * c.val + 8 * d.val + 16 * e.val + 32 * f.val + 64 * g.val + 128 * h.val))) = a.val + b.val + c.val + d.val + e.val + f.val + g.val + h.val := by decide +kernel
theorem BN_sub : ∀ (n : Nat) (b c : Nat → Nat), (∀ i, c i ≤ b i) → BN n b - BN n c = BN n (fun i => b i - c i) ∧ BN n c ≤ BN n b
  | 0, b, c, h => ⟨rfl, Nat.le_refl _⟩
  | n + 1, b, c, h => by
    have ih := BN_sub n _ _ (fun i => h (i + 1))
    have h0 := h 0
    simp only [BN]
    rw [← ih.1]; omega
theorem bc3 (x : Int64) (b : Nat → Nat) (hb : ∀ i, b i < 256) (hx : nN x = BN 8 b) : nN (bq3 (bq2 (bq1 x))) = BN 8 (fun i => bp3 (bp2 (bp1 (b i)))) := by
  have m5 : nN (6148914691236517205 : Int64) = BN 8 (fun _ => 85) := by decide +kernel
  have m3 : nN (3689348814741910323 : Int64) = BN 8 (fun _ => 51) := by decide +kernel
  have mf : nN (1085102592571150095 : Int64) = BN 8 (fun _ => 15) := by decide +kernel
  have dp : ∀ i, ((b i / 2) &&& 85) ≤ b i ∧ bp1 (b i) < 256 ∧ bp2 (bp1 (b i)) < 80 ∧ bp2 (bp1 (b i)) % 16 ≤ 4 ∧ bp2 (bp1 (b i)) / 16 ≤ 4 := fun i => decP ⟨b i, hb i⟩
  have s1 := BN_sub 8 b (fun i => (b i / 2) &&& 85) (fun i => (dp i).1)
  have e1 : nN (bq1 x) = BN 8 (fun i => bp1 (b i)) := by
    have q : nN (bsh x 1 &&& (6148914691236517205 : Int64)) = BN 8 (fun i => (b i / 2) &&& 85) := by
      rw [nN_and, m5, nN_sh x (n := 1) (by decide) (by omega), hx]; exact BN_h5 8 b hb
    unfold bq1
    rw [nN_sub (by rw [q, hx]; exact s1.2), q, hx, s1.1]; rfl
  have e2 : nN (bq2 (bq1 x)) = BN 8 (fun i => bp2 (bp1 (b i))) := by
    have q1 : nN (bq1 x &&& (3689348814741910323 : Int64)) = BN 8 (fun i => bp1 (b i) &&& 51) := by
      rw [nN_and, m3, e1]; exact BN_and 51 (by omega) 8 _ (fun i => (dp i).2.1)
    have q2 : nN (bsh (bq1 x) 2 &&& (3689348814741910323 : Int64)) = BN 8 (fun i => (bp1 (b i) / 4) &&& 51) := by
      rw [nN_and, m3, nN_sh _ (n := 2) (by decide) (by omega), e1]; exact BN_h3 8 _ (fun i => (dp i).2.1)
    have q3 := BN_add 8 (fun i => bp1 (b i) &&& 51) (fun i => (bp1 (b i) / 4) &&& 51)
    have q4 := BN_lt 8 (fun i => bp2 (bp1 (b i))) (fun i => by have := (dp i).2.2.1; omega)
    unfold bq2
    rw [nN_add (by rw [q1, q2, q3]; exact q4), q1, q2, q3]; rfl
  have q4 := BN_lt 8 (fun i => bp2 (bp1 (b i))) (fun i => by have := (dp i).2.2.1; omega)
  have q5 : BN 8 (fun i => bp2 (bp1 (b i))) < 80 * 256 ^ 7 + 256 ^ 7 := by
    have g := BN_lt 7 (fun i => bp2 (bp1 (b i))) (fun i => by have := (dp i).2.2.1; omega)
    have := (dp 0).2.2.1; have := (dp 1).2.2.1; have := (dp 2).2.2.1; have := (dp 3).2.2.1; have := (dp 4).2.2.1; have := (dp 5).2.2.1; have := (dp 6).2.2.1; have := (dp 7).2.2.1
    simp only [BN, Nat.reduceAdd] at *
    omega
  unfold bq3
  rw [nN_and, mf, nN_add (by rw [nN_sh _ (n := 4) (by decide) (by omega), e2]; omega), nN_sh _ (n := 4) (by decide) (by omega), e2]
  exact BN_h15 8 _ (fun i => (dp i).2.2.2)
