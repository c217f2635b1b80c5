theorem i127 (v : Int64) : Int64.toInt32 v &&& (127 : Int32) = iI ((nN v % 128 : Nat) : Int) := by
  rw [← iI_nat]
  apply Int32.toBitVec_inj.mp
  rw [Int32.toBitVec_and, Int64.toBitVec_toInt32]
  have e1 : (Int32.ofNat (nN v % 128)).toBitVec = BitVec.ofNat 32 (nN v % 128) := rfl
  have e2 : (127 : Int32).toBitVec = 127#32 := by decide
  rw [e1, e2]
  apply BitVec.eq_of_getLsbD_eq
  intro i hi
  have e5 : (127#32).getLsbD i = decide (i < 7) := by
    have : ∀ j : Fin 32, (127#32).getLsbD j.val = decide (j.val < 7) := by decide
    exact this ⟨i, hi⟩
  rw [BitVec.getLsbD_and, e5, BitVec.getLsbD_signExtend, BitVec.getLsbD_ofNat, show (128 : Nat) = 2 ^ 7 from rfl, Nat.testBit_mod_two_pow]
  have e6 : v.toBitVec.getLsbD i = (nN v).testBit i := rfl
  rw [e6]
  simp only [hi, show i < 64 by omega, decide_true, Bool.true_and, if_true]
  cases (nN v).testBit i <;> simp
def sB (e : Nat → Nat) : Nat → Nat
  | 0 => 0
  | n + 1 => sB e n + 2 ^ n * e n
def cN (e : Nat → Nat) : Nat → Nat
  | 0 => 0
  | n + 1 => cN e n + e n
theorem sB_8 (e : Nat → Nat) : ∀ k, sB e (k + 8) = sB e 8 + 256 * sB (fun i => e (i + 8)) k
  | 0 => by simp [sB]
  | k + 1 => by
    have ih := sB_8 e k
    rw [show k + 1 + 8 = (k + 8) + 1 by omega]
    simp only [sB] at *
    rw [ih, Nat.pow_add, show (2 : Nat) ^ 8 = 256 from rfl, Nat.mul_add 256, Nat.mul_comm (2 ^ k) 256, Nat.mul_assoc]
    omega
theorem cN_8 (e : Nat → Nat) : ∀ k, cN e (k + 8) = cN e 8 + cN (fun i => e (i + 8)) k
  | 0 => by simp [cN]
  | k + 1 => by
    have ih := cN_8 e k
    rw [show k + 1 + 8 = (k + 8) + 1 by omega]
    simp only [cN] at *
    omega
theorem sB_BN : ∀ (n : Nat) (e : Nat → Nat), sB e (8 * n) = BN n (fun i => sB (fun j => e (8 * i + j)) 8)
  | 0, e => rfl
  | n + 1, e => by
    rw [show 8 * (n + 1) = 8 * n + 8 by omega, sB_8, sB_BN n]
    simp only [BN]
    have e0 : (fun j => e (8 * 0 + j)) = e := by funext j; congr 1; omega
    have e1 : BN n (fun i => sB (fun j => e (8 * i + j + 8)) 8) = BN n (fun i => sB (fun j => e (8 * (i + 1) + j)) 8) := by
      apply BN_cg
      intro i
      congr 1
      funext j
      congr 1; omega
    rw [e0, e1]
theorem cN_64 (e : Nat → Nat) : cN e 64 = cN (fun j => e (8 * 0 + j)) 8 + cN (fun j => e (8 * 1 + j)) 8 + cN (fun j => e (8 * 2 + j)) 8 + cN (fun j => e (8 * 3 + j)) 8 + cN (fun j => e (8 * 4 + j)) 8 + cN (fun j => e (8 * 5 + j)) 8 + cN (fun j => e (8 * 6 + j)) 8 + cN (fun j => e (8 * 7 + j)) 8 := by
  simp only [cN, Nat.reduceMul, Nat.reduceAdd, Nat.zero_add, Nat.add_zero]
  omega
theorem byte_ok {e : Nat → Nat} (he : ∀ i, e i < 2) : sB e 8 < 256 ∧ bp3 (bp2 (bp1 (sB e 8))) = cN e 8 ∧ cN e 8 ≤ 8 := by
  have h0 := he 0; have h1 := he 1; have h2 := he 2; have h3 := he 3; have h4 := he 4; have h5 := he 5; have h6 := he 6; have h7 := he 7
  have d := decC ⟨e 0, h0⟩ ⟨e 1, h1⟩ ⟨e 2, h2⟩ ⟨e 3, h3⟩ ⟨e 4, h4⟩ ⟨e 5, h5⟩ ⟨e 6, h6⟩ ⟨e 7, h7⟩
  have s : sB e 8 = e 0 + 2 * e 1 + 4 * e 2 + 8 * e 3 + 16 * e 4 + 32 * e 5 + 64 * e 6 + 128 * e 7 := by simp only [sB]; omega
  have c : cN e 8 = e 0 + e 1 + e 2 + e 3 + e 4 + e 5 + e 6 + e 7 := by simp only [cN]; omega
  refine ⟨by omega, ?_, by omega⟩
  rw [s, c]; exact d
noncomputable def bitE (P : Int → Prop) : Nat → Nat := fun i => @ite _ (P (i : Int)) (Classical.propDecidable _) 1 0
theorem bitE_lt (P : Int → Prop) (i : Nat) : bitE P i < 2 := by
  unfold bitE
  by_cases q : P (i : Int)
  · rw [if_pos q]; omega
  · rw [if_neg q]; omega
theorem bsN_n (P : Int → Prop) : ∀ n, n ≤ 64 → (bsN P n).toNat = sB (bitE P) n ∧ (bsN P n).toNat < 2 ^ n
  | 0, _ => by constructor <;> simp [bsN, sB]
  | n + 1, hn => by
    have ih := bsN_n P n (by omega)
    unfold bsN sB bitE
    by_cases q : P (n : Int)
    · rw [if_pos q, if_pos q]
      have e : (bsN P n ||| (1#64 <<< n)).toNat = (bsN P n).toNat + 2 ^ n := by
        have e1 : (1#64 <<< n).toNat = 2 ^ n := by
          rw [BitVec.toNat_shiftLeft, show (1#64).toNat = 1 from rfl, Nat.shiftLeft_eq, Nat.one_mul]
          exact Nat.mod_eq_of_lt (Nat.pow_lt_pow_right (by omega) (by omega))
        rw [BitVec.toNat_or, e1, Nat.or_comm]
        have := Nat.two_pow_add_eq_or_of_lt ih.2 1
        rw [Nat.mul_one] at this
        rw [← this]; omega
      have i1 := ih.1
      unfold bitE at i1
      rw [e, Nat.mul_one, Nat.pow_succ]
      exact ⟨by rw [i1], by have := ih.2; omega⟩
    · rw [if_neg q, if_neg q]
      have i1 := ih.1
      unfold bitE at i1
      rw [Nat.pow_succ]
      exact ⟨by rw [i1]; omega, by have := ih.2; omega⟩
