/-! FORMS as numbers -/
def dgf (f i : Nat) : Nat := f / 4 ^ i % 4
def nmK (g : Nat → Nat) : Nat → Nat
  | 0 => 0
  | k + 1 => nmK g k + g k * 4 ^ k
def nm6 (g : Nat → Nat) : Nat := g 0 + 4 * g 1 + 16 * g 2 + 64 * g 3 + 256 * g 4 + 1024 * g 5
theorem dgf_lt (f i : Nat) : dgf f i < 4 := Nat.mod_lt _ (by omega)
theorem nmK_6 (g : Nat → Nat) : nmK g 6 = nm6 g := by
  simp only [nmK, nm6]; omega
theorem nmK_up {g : Nat → Nat} : ∀ {k n : Nat}, k ≤ n → (∀ j, k ≤ j → j < n → g j = 0) → nmK g n = nmK g k
  | k, 0, h, _ => by
    have : k = 0 := by omega
    subst this; rfl
  | k, n + 1, h, h0 => by
    by_cases e : k = n + 1
    · subst e; rfl
    · simp only [nmK]
      rw [h0 n (by omega) (by omega), nmK_up (k := k) (n := n) (by omega) (fun j h1 h2 => h0 j h1 (by omega))]
      omega
theorem nmK_nm6 {g : Nat → Nat} {k : Nat} (hk : k ≤ 6) (h0 : ∀ j, k ≤ j → j < 6 → g j = 0) : nmK g k = nm6 g := by
  rw [← nmK_6, nmK_up hk h0]
theorem nmK_cg {g g' : Nat → Nat} : ∀ k, (∀ j, j < k → g j = g' j) → nmK g k = nmK g' k
  | 0, _ => rfl
  | k + 1, h => by
    simp only [nmK]
    rw [nmK_cg k (fun j hj => h j (by omega)), h k (by omega)]
theorem nmK_lt {g : Nat → Nat} : ∀ k, (∀ j, j < k → g j < 4) → nmK g k < 4 ^ k
  | 0, _ => by simp [nmK]
  | k + 1, h => by
    have h1 := nmK_lt k (fun j hj => h j (by omega))
    have h2 := h k (by omega)
    simp only [nmK]
    rw [Nat.pow_succ]
    have : g k * 4 ^ k ≤ 3 * 4 ^ k := Nat.mul_le_mul_right _ (by omega)
    omega
theorem dgf6 {g : Nat → Nat} (h : ∀ j, j < 6 → g j < 4) {j : Nat} (hj : j < 6) : dgf (nm6 g) j = g j := by
  have h0 := h 0 (by omega)
  have h1 := h 1 (by omega)
  have h2 := h 2 (by omega)
  have h3 := h 3 (by omega)
  have h4 := h 4 (by omega)
  have h5 := h 5 (by omega)
  unfold dgf nm6
  rcases (show j = 0 ∨ j = 1 ∨ j = 2 ∨ j = 3 ∨ j = 4 ∨ j = 5 by omega) with rfl | rfl | rfl | rfl | rfl | rfl <;> simp only [Nat.reducePow] <;> omega
theorem nm6_dgf {f : Nat} (hf : f < 4096) : nm6 (dgf f) = f := by
  unfold nm6 dgf
  simp only [Nat.reducePow]
  omega
theorem dgf_0 {f k j : Nat} (hf : f < 4 ^ k) (hj : k ≤ j) : dgf f j = 0 := by
  unfold dgf
  rw [Nat.div_eq_of_lt (Nat.lt_of_lt_of_le hf (Nat.pow_le_pow_right (by omega) hj))]
theorem pow_le6 {k : Nat} (hk : k ≤ 6) : 4 ^ k ≤ 4096 := Nat.le_trans (Nat.pow_le_pow_right (by omega) hk) (by decide)
theorem nmK_dgf {f k : Nat} (hk : k ≤ 6) (hf : f < 4 ^ k) : nmK (dgf f) k = f := by
  rw [nmK_nm6 hk (fun j h1 h2 => dgf_0 hf h1), nm6_dgf (Nat.lt_of_lt_of_le hf (pow_le6 hk))]
theorem shl4_dec : ∀ (d : Fin 5) (k : Fin 6), iI (d.val : Int) <<< (iI (2 * (k.val : Int)) &&& iI 31) = iI ((d.val * 4 ^ k.val : Nat) : Int) := by decide
theorem iI_or (x y : Nat) : iI (x : Int) ||| iI (y : Int) = iI ((x ||| y : Nat) : Int) := by
  rw [← nI_iI, ← nI_iI, ← nI_iI]
  apply Int32.toBitVec_inj.1
  show BitVec.ofNat 32 x ||| BitVec.ofNat 32 y = BitVec.ofNat 32 (x ||| y)
  apply BitVec.eq_of_getLsbD_eq
  intro i hi
  simp [hi]
/-- one digit more -/
theorem or4 {x d k : Nat} (hx : x < 4 ^ k) (hd : d < 4) (hk : k ≤ 5) : iI (x : Int) ||| (iI (d : Int) <<< (iI (2 * (k : Int)) &&& iI 31)) = iI ((x + d * 4 ^ k : Nat) : Int) := by
  have hs := shl4_dec ⟨d, by omega⟩ ⟨k, by omega⟩
  simp only at hs
  rw [hs, iI_or]
  congr 2
  have e : 4 ^ k = 2 ^ (2 * k) := by rw [Nat.pow_mul]
  rw [e] at hx ⊢
  rw [Nat.or_comm, Nat.mul_comm d, ← Nat.two_pow_add_eq_or_of_lt hx, Nat.add_comm]
def D6 (d0 d1 d2 d3 d4 d5 : Nat) : Nat → Nat
  | 0 => d0
  | 1 => d1
  | 2 => d2
  | 3 => d3
  | 4 => d4
  | _ => d5
def sw (g : Nat → Nat) (i : Nat) : Nat → Nat := fun j => if j = i then g (i + 1) else if j = i + 1 then g i else g j
def chg (x p : Int32) : Int32 := ((x >>> (p &&& iI 31)) &&& iI 3) ^^^ ((x >>> ((p + iI 2) &&& iI 31)) &&& iI 3)
set_option maxRecDepth 100000 in
theorem flip_dec : ∀ (p : Fin 5) (d0 d1 d2 d3 d4 d5 : Fin 4),
    ((chg (iI ((nm6 (D6 d0.val d1.val d2.val d3.val d4.val d5.val) : Nat) : Int)) (iI (2 * (p.val : Int))) &&& iI 1 = iI 0) ↔ (D6 d0.val d1.val d2.val d3.val d4.val d5.val p.val + D6 d0.val d1.val d2.val d3.val d4.val d5.val (p.val + 1)) % 2 = 0) ∧
    (iI ((nm6 (D6 d0.val d1.val d2.val d3.val d4.val d5.val) : Nat) : Int) ^^^ (chg (iI ((nm6 (D6 d0.val d1.val d2.val d3.val d4.val d5.val) : Nat) : Int)) (iI (2 * (p.val : Int))) <<< (iI (2 * (p.val : Int)) &&& iI 31))) ^^^ (chg (iI ((nm6 (D6 d0.val d1.val d2.val d3.val d4.val d5.val) : Nat) : Int)) (iI (2 * (p.val : Int))) <<< ((iI (2 * (p.val : Int)) + iI 2) &&& iI 31)) = iI ((nm6 (sw (D6 d0.val d1.val d2.val d3.val d4.val d5.val) p.val) : Nat) : Int) := by decide +kernel
set_option maxRecDepth 100000 in
theorem turn_dec : ∀ (q : Fin 6) (s lo : Fin 4), (iI 3 <<< (iI (2 * (q.val : Int)) &&& iI 31)) ^^^ iI (-1) = iI (-1 - (3 * 4 ^ q.val : Nat)) ∧ iI (s.val : Int) <<< (iI (2 * (q.val : Int)) &&& iI 31) = iI ((s.val * 4 ^ q.val : Nat) : Int) := by decide +kernel
theorem D6_eq (g : Nat → Nat) {j : Nat} (hj : j < 6) : D6 (g 0) (g 1) (g 2) (g 3) (g 4) (g 5) j = g j := by
  rcases (show j = 0 ∨ j = 1 ∨ j = 2 ∨ j = 3 ∨ j = 4 ∨ j = 5 by omega) with rfl | rfl | rfl | rfl | rfl | rfl <;> rfl
theorem nm6_cg {g g' : Nat → Nat} (h : ∀ j, j < 6 → g j = g' j) : nm6 g = nm6 g' := by
  unfold nm6
  rw [h 0 (by omega), h 1 (by omega), h 2 (by omega), h 3 (by omega), h 4 (by omega), h 5 (by omega)]
def swp (f i : Nat) : Nat := nm6 (sw (dgf f) i)
theorem flip_bits {f p : Nat} (hf : f < 4096) (hp : p < 5) : ((chg (iI (f : Int)) (iI (2 * (p : Int))) &&& iI 1 = iI 0) ↔ (dgf f p + dgf f (p + 1)) % 2 = 0) ∧ (iI (f : Int) ^^^ (chg (iI (f : Int)) (iI (2 * (p : Int))) <<< (iI (2 * (p : Int)) &&& iI 31))) ^^^ (chg (iI (f : Int)) (iI (2 * (p : Int))) <<< ((iI (2 * (p : Int)) + iI 2) &&& iI 31)) = iI ((swp f p : Nat) : Int) := by
  have key := flip_dec ⟨p, hp⟩ ⟨dgf f 0, dgf_lt _ _⟩ ⟨dgf f 1, dgf_lt _ _⟩ ⟨dgf f 2, dgf_lt _ _⟩ ⟨dgf f 3, dgf_lt _ _⟩ ⟨dgf f 4, dgf_lt _ _⟩ ⟨dgf f 5, dgf_lt _ _⟩
  have e1 : nm6 (D6 (dgf f 0) (dgf f 1) (dgf f 2) (dgf f 3) (dgf f 4) (dgf f 5)) = f := by
    rw [nm6_cg (g' := dgf f) (fun j hj => D6_eq _ hj), nm6_dgf hf]
  have e2 : nm6 (sw (D6 (dgf f 0) (dgf f 1) (dgf f 2) (dgf f 3) (dgf f 4) (dgf f 5)) p) = swp f p := by
    unfold swp
    refine nm6_cg (fun j hj => ?_)
    unfold sw
    rw [D6_eq _ (show p + 1 < 6 by omega), D6_eq _ (show p < 6 by omega), D6_eq _ hj]
  simp only at key
  rw [e1, e2, D6_eq _ (show p < 6 by omega), D6_eq _ (show p + 1 < 6 by omega)] at key
  exact key
