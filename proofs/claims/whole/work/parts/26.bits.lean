/-! BITS: a long as a set of cells -/
theorem all64 {P : Int → Prop} (h : ∀ n : Fin 64, P ((n.val : Nat) : Int)) {c : Int} (h1 : 0 ≤ c) (h2 : c < 64) : P c := by
  have := h ⟨c.toNat, by omega⟩
  rwa [Int.toNat_of_nonneg h1] at this
def bt (w : Int64) (i : Nat) : Bool := w.toBitVec.getLsbD i
theorem bt_ext {a b : Int64} (h : ∀ i, i < 64 → bt a i = bt b i) : a = b := by
  apply Int64.toBitVec_inj.mp
  apply BitVec.eq_of_getLsbD_eq
  intro i hi
  exact h i hi
noncomputable def bsN (P : Int → Prop) : Nat → BitVec 64
  | 0 => 0#64
  | n + 1 => @ite _ (P n) (Classical.propDecidable _) (bsN P n ||| (1#64 <<< n)) (bsN P n)
theorem bsN_bit (P : Int → Prop) : ∀ (n i : Nat), n ≤ 64 → ((bsN P n).getLsbD i = true ↔ i < n ∧ P i)
  | 0, i, _ => by simp [bsN]
  | n + 1, i, hn => by
    have ih := bsN_bit P n i (by omega)
    unfold bsN
    have hs : (1#64 <<< n).getLsbD i = decide (i = n) := by
      rw [BitVec.getLsbD_shiftLeft]
      by_cases e : i = n
      · subst e; simp; omega
      · by_cases l : i < n
        · simp [l, e]
        · have : i - n ≠ 0 := by omega
          simp [l, e, BitVec.getLsbD_one, this]
    by_cases hp : P n
    · rw [if_pos hp, BitVec.getLsbD_or, hs]
      by_cases e : i = n
      · subst e; simp [hp]
      · simp only [e, decide_false, Bool.or_false, ih]
        constructor
        · rintro ⟨a, b⟩; exact ⟨by omega, b⟩
        · rintro ⟨a, b⟩; exact ⟨by omega, b⟩
    · rw [if_neg hp, ih]
      constructor
      · rintro ⟨a, b⟩; exact ⟨by omega, b⟩
      · rintro ⟨a, b⟩
        refine ⟨?_, b⟩
        rcases Nat.lt_or_ge i n with g | g
        · exact g
        · exfalso; apply hp; rwa [show n = i by omega]
noncomputable def bset (P : Int → Prop) : Int64 := Int64.ofBitVec (bsN P 64)
theorem bt_bset (P : Int → Prop) {i : Nat} (hi : i < 64) : (bt (bset P) i = true) = P i := by
  apply propext
  have := bsN_bit P 64 i (by omega)
  unfold bt bset
  rw [Int64.toBitVec_ofBitVec, this]
  exact ⟨fun q => q.2, fun q => ⟨hi, q⟩⟩
theorem bset_of {w : Int64} {P : Int → Prop} (h : ∀ i : Nat, i < 64 → (bt w i = true ↔ P i)) : w = bset P := by
  apply bt_ext
  intro i hi
  have h1 := h i hi
  have h2 := bt_bset P hi
  cases hb : bt (bset P) i with
  | false =>
    cases hw : bt w i with
    | false => rfl
    | true => rw [hw] at h1; rw [hb] at h2; exact absurd (h2.mpr (h1.mp rfl)) (by simp)
  | true =>
    rw [hb] at h2
    exact h1.mpr (h2.mp rfl)
theorem bset_cg {P Q : Int → Prop} (h : ∀ c, 0 ≤ c → c < 64 → (P c ↔ Q c)) : bset P = bset Q := by
  apply bset_of
  intro i hi
  rw [bt_bset P hi]
  exact h i (by omega) (by omega)
theorem bset_or (P Q : Int → Prop) : bset P ||| bset Q = bset (fun c => P c ∨ Q c) := by
  apply bset_of
  intro i hi
  have h1 := bt_bset P hi
  have h2 := bt_bset Q hi
  unfold bt at *
  rw [Int64.toBitVec_or, BitVec.getLsbD_or, Bool.or_eq_true, h1, h2]
theorem bset_and (P Q : Int → Prop) : bset P &&& bset Q = bset (fun c => P c ∧ Q c) := by
  apply bset_of
  intro i hi
  have h1 := bt_bset P hi
  have h2 := bt_bset Q hi
  unfold bt at *
  rw [Int64.toBitVec_and, BitVec.getLsbD_and, Bool.and_eq_true, h1, h2]
theorem bset_not (P : Int → Prop) : bset P ^^^ (-1 : Int64) = bset (fun c => ¬ P c) := by
  apply bset_of
  intro i hi
  have h1 := bt_bset P hi
  unfold bt at *
  have e : (-1 : Int64).toBitVec = BitVec.allOnes 64 := by decide
  rw [Int64.toBitVec_xor, BitVec.getLsbD_xor, e, BitVec.getLsbD_allOnes, ← h1]
  simp [hi]
theorem bset_none : (0 : Int64) = bset (fun _ => False) := by
  apply bset_of
  intro i hi
  simp [bt]
theorem bset_eq0 (P : Int → Prop) : (bset P = 0) = ∀ c, 0 ≤ c → c < 64 → ¬ P c := by
  apply propext
  constructor
  · intro h c h1 h2 hp
    have := bt_bset P (i := c.toNat) (by omega)
    rw [Int.toNat_of_nonneg h1, h] at this
    have q : bt 0 c.toNat = false := by simp [bt]
    rw [q] at this
    exact absurd (this.mpr hp) (by simp)
  · intro h
    rw [bset_none]
    exact bset_cg (fun c h1 h2 => ⟨fun q => h c h1 h2 q, fun q => q.elim⟩)
theorem bset_one {c : Int} (h1 : 0 ≤ c) (h2 : c < 64) : (1 : Int64) <<< (Int32.toInt64 (iI c) &&& 63) = bset (fun x => x = c) := by
  have e : (1 : Int64) <<< (Int32.toInt64 (iI c) &&& 63) = Int64.ofBitVec (1#64 <<< c.toNat) := by
    refine all64 (P := fun c => (1 : Int64) <<< (Int32.toInt64 (iI c) &&& 63) = Int64.ofBitVec (1#64 <<< c.toNat)) ?_ h1 h2
    decide +kernel
  rw [e]
  apply bset_of
  intro i hi
  unfold bt
  rw [Int64.toBitVec_ofBitVec, BitVec.getLsbD_shiftLeft]
  by_cases e : i = c.toNat
  · subst e; simp; omega
  · by_cases l : i < c.toNat
    · simp [l]; omega
    · have : i - c.toNat ≠ 0 := by omega
      simp [l, BitVec.getLsbD_one, this]; omega
theorem cmp0 (P : Int → Prop) : (lg_cmp (bset P) (0 : Int64) = iI 0) = ∀ c, 0 ≤ c → c < 64 → ¬ P c := by
  rw [← bset_eq0]
  apply propext
  exact lg_cmp_eq _ _
theorem cmp1 (P : Int → Prop) {c : Int} (h1 : 0 ≤ c) (h2 : c < 64) : (lg_cmp (bset P &&& ((1 : Int64) <<< (Int32.toInt64 (iI c) &&& 63))) (0 : Int64) = iI 0) = ¬ P c := by
  rw [bset_one h1 h2, bset_and, cmp0]
  apply propext
  constructor
  · intro h q; exact h c h1 h2 ⟨q, rfl⟩
  · intro h x g1 g2 q; exact h (q.2 ▸ q.1)
theorem cmpite {α : Type} {P : Int → Prop} {c : Int} {d : Decidable (lg_cmp (bset P &&& ((1 : Int64) <<< (Int32.toInt64 (iI c) &&& 63))) (0 : Int64) = iI 0)} {a b : α} (h1 : 0 ≤ c) (h2 : c < 64) : @ite α (lg_cmp (bset P &&& ((1 : Int64) <<< (Int32.toInt64 (iI c) &&& 63))) (0 : Int64) = iI 0) d a b = @ite α (P c) (Classical.propDecidable _) b a := by
  have e := cmp1 P h1 h2
  by_cases hp : P c
  · rw [if_pos hp, if_neg (by rw [e]; exact fun q => q hp)]
  · rw [if_neg hp, if_pos (by rw [e]; exact hp)]
theorem cmpite0 {α : Type} {P : Int → Prop} {d : Decidable (lg_cmp (bset P) (0 : Int64) = iI 0)} {a b : α} : @ite α (lg_cmp (bset P) (0 : Int64) = iI 0) d a b = @ite α (∃ c, (0 ≤ c ∧ c < 64) ∧ P c) (Classical.propDecidable _) b a := by
  have e := cmp0 P
  by_cases hp : ∃ c, (0 ≤ c ∧ c < 64) ∧ P c
  · rw [if_pos hp, if_neg]
    rw [e]; obtain ⟨c, h1, h2⟩ := hp; exact fun q => q c h1.1 h1.2 h2
  · rw [if_neg hp, if_pos]
    rw [e]; exact fun c h1 h2 q => hp ⟨c, ⟨h1, h2⟩, q⟩
/-! small parts of a cell -/
theorem iI_and7 {c : Int} (h1 : 0 ≤ c) (h2 : c < 64) : iI c &&& iI 7 = iI (c % 8) := by
  refine all64 (P := fun c => iI c &&& iI 7 = iI (c % 8)) ?_ h1 h2
  decide +kernel
theorem iI_shr3 {c : Int} (h1 : 0 ≤ c) (h2 : c < 64) : iI c >>> (iI 3 &&& iI 31) = iI (c / 8) := by
  refine all64 (P := fun c => iI c >>> (iI 3 &&& iI 31) = iI (c / 8)) ?_ h1 h2
  decide +kernel
theorem iI_and3 {c : Int} (h1 : 0 ≤ c) (h2 : c < 64) : iI c &&& iI 3 = iI (c % 4) := by
  refine all64 (P := fun c => iI c &&& iI 3 = iI (c % 4)) ?_ h1 h2
  decide +kernel
theorem and3_rg (x : Int32) : ∃ d, (0 ≤ d ∧ d ≤ 3) ∧ x &&& iI 3 = iI d := by
  have hlt : (x &&& iI 3).toBitVec.toNat < 4 := by
    have : (iI 3).toBitVec.toNat = 3 := by decide
    rw [Int32.toBitVec_and, BitVec.toNat_and, this]
    exact Nat.lt_of_le_of_lt Nat.and_le_right (by omega)
  refine ⟨(x &&& iI 3).toBitVec.toNat, by omega, ?_⟩
  apply Int32.toBitVec_inj.mp
  apply BitVec.eq_of_toNat_eq
  have : ∀ n : Nat, n < 4 → (iI (n : Int)).toBitVec.toNat = n := by
    intro n hn
    rcases (show n = 0 ∨ n = 1 ∨ n = 2 ∨ n = 3 by omega) with rfl | rfl | rfl | rfl <;> decide
  exact (this _ hlt).symm
