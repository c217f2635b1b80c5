/-! WORDS: what a row of words does -/
theorem nI_iI (n : Nat) : nI n = iI (n : Int) := iI_nat n
theorem smod_dec : ∀ e : Fin 7, ((iI (2 * (e.val : Int)) &&& iI 31).toBitVec.smod 32).toNat = 2 * e.val := by decide
theorem shr4 {x e : Nat} (hx : x < 2147483648) (he : e ≤ 6) : iI (x : Int) >>> (iI (2 * (e : Int)) &&& iI 31) = iI ((x / 4 ^ e : Nat) : Int) := by
  rw [← nI_iI x, pk_shrN (by omega) _ (2 * e) (smod_dec ⟨e, by omega⟩), nI_iI, Nat.pow_mul]
theorem and4 {x : Nat} (hx : x < 2147483648) : iI (x : Int) &&& iI 3 = iI ((x % 4 : Nat) : Int) := by
  rw [← nI_iI x, pk_andN (by omega) 2 (by decide), nI_iI]
theorem dg4 {x e : Nat} (hx : x < 2147483648) (he : e ≤ 6) : (iI (x : Int) >>> (iI (2 * (e : Int)) &&& iI 31)) &&& iI 3 = iI (((x / 4 ^ e % 4 : Nat)) : Int) := by
  rw [shr4 hx he, and4 (by have := Nat.div_le_self x (4 ^ e); omega)]
theorem pow4_dec : ∀ e : Fin 7, iI 1 <<< (iI (2 * (e.val : Int)) &&& iI 31) = iI ((4 ^ e.val : Nat) : Int) := by decide
theorem pow4 {e : Nat} (he : e ≤ 6) : iI 1 <<< (iI (2 * (e : Int)) &&& iI 31) = iI ((4 ^ e : Nat) : Int) := pow4_dec ⟨e, by omega⟩
theorem pow4_pos (e : Nat) : 0 < 4 ^ e := Nat.pow_pos (by omega)
theorem div4 (r m : Nat) : r / 4 ^ (m + 1) = r / 4 ^ m / 4 := by rw [Nat.pow_succ, Nat.div_div_eq_div_mul]
/-- the i-th digit of c -/
def dgt (c r i : Nat) : Nat := r / 4 ^ (c - 1 - i) % 4
theorem dgt_pre {c s r v i : Nat} (hs : s ≤ c) (hv : r / 4 ^ (c - s) = v) (hi : i < s) : dgt c r i = dgt s v i := by
  unfold dgt
  subst hv
  rw [Nat.div_div_eq_div_mul, ← Nat.pow_add, show c - s + (s - 1 - i) = c - 1 - i by omega]
noncomputable def hd (A : Int → Int) (a w : Int) : Int → Int := uI A (72 + 40 * a) w
noncomputable def XW (A : Int → Int) (Q : Int → List zKl) (a : Int) (om : Nat → Int) : Nat → Int → Int
  | 0 => A
  | k + 1 => tickA (hd (XW A Q a om k) a (om k)) Q
/-- the word in a tick -/
def wdk (c r k : Nat) : Int := ((dgt c r (if k / 2 < c then k / 2 else c - 1) : Nat) : Int)
def EV (A : Int → Int) (Q : Int → List zKl) (a t : Int) (n c r : Nat) : Prop := ∃ k, k ≤ n ∧ XW A Q a (wdk c r) k (490 + 4 * t) = 2
theorem wdk_rg (c r k : Nat) : 0 ≤ wdk c r k ∧ wdk c r k ≤ 3 := by unfold wdk dgt; omega
section WD
variable {A : Int → Int} {Q : Int → List zKl} {a t : Int}
def good (A0 : Int → Int) (Q : Int → List zKl) (A : Int → Int) : Prop := WF A ∧ A 64 = A0 64 ∧ A 65 = A0 65 ∧ ∀ a, 0 ≤ a → a < A0 64 → TX A a (Q a)
theorem TX_vK {A : Int → Int} {a : Int} {q : List zKl} (h : TX A a q) : q.length ≤ 6 ∧ ∀ c, c ∈ q → vK c := ⟨h.1.1, h.1.2.1⟩
theorem good_hd {A0 : Int → Int} (hg : good A0 Q A) (ha : 0 ≤ a ∧ a ≤ 2) {w : Int} (hw : 0 ≤ w ∧ w ≤ 3) : good A0 Q (hd A a w) := by
  have hn := hg.1.n
  refine ⟨WF_dig hg.1 (dg_h ha) hw, by unfold hd; rw [uI_n _ _ (by omega)]; exact hg.2.1, by unfold hd; rw [uI_n _ _ (by omega)]; exact hg.2.2.1, fun a' h1 h2 => ?_⟩
  obtain ⟨t1, t2, t3⟩ := hg.2.2.2 a' h1 h2
  have h64 := hg.2.1
  have hl := t1.2.2
  refine ⟨t1, by unfold hd; rw [uI_n _ _ (by omega)]; exact t2, fun hq => ⟨by unfold hd; rw [uI_n _ _ (by omega)]; exact (t3 hq).1, tx_cg _ _ (fun j g1 g2 => uI_n _ _ (by omega)) (t3 hq).2⟩⟩
theorem good_vK {A0 : Int → Int} (hg : good A0 Q A) : ∀ a, 0 ≤ a → a < A 64 → ∀ c, c ∈ Q a → vK c := fun a h1 h2 => (TX_vK (hg.2.2.2 a h1 (by rw [← hg.2.1]; exact h2))).2
theorem good_tick {A0 : Int → Int} (hg : good A0 Q A) : good A0 Q (tickA A Q) ∧ kT A (tickA A Q) := by
  obtain ⟨h1, h2⟩ := tickA_ok hg.1 (good_vK hg)
  have hn := hg.1.n
  have h64 := hg.2.1
  exact ⟨⟨h1, by rw [h2 64 (by omega)]; exact hg.2.1, by rw [h2 65 (by omega)]; exact hg.2.2.1, fun a' g1 g2 => TX_kT h2 (by omega) (hg.2.2.2 a' g1 g2)⟩, h2⟩
theorem good_XW (hg : good A Q A) (ha : 0 ≤ a ∧ a ≤ 2) {om : Nat → Int} (ho : ∀ k, 0 ≤ om k ∧ om k ≤ 3) : ∀ k, good A Q (XW A Q a om k)
  | 0 => hg
  | k + 1 => (good_tick (good_hd (good_XW hg ha ho k) ha (ho k))).1
theorem XW_cg {om om' : Nat → Int} : ∀ k, (∀ j, j < k → om j = om' j) → XW A Q a om k = XW A Q a om' k
  | 0, _ => rfl
  | k + 1, h => by
    simp only [XW]
    rw [XW_cg k (fun j hj => h j (by omega)), h k (by omega)]
/-- the word goes on -/
theorem hd_same (ha : 0 ≤ a ∧ a ≤ 2) {A0 : Int → Int} (hg : good A0 Q A) (w : Int) (hw : 0 ≤ w ∧ w ≤ 3) : hd (tickA (hd A a w) Q) a w = tickA (hd A a w) Q := by
  have hk := (good_tick (good_hd hg ha hw)).2
  unfold hd
  have e : tickA (uI A (72 + 40 * a) w) Q (72 + 40 * a) = w := by
    have := hk (72 + 40 * a) (by omega)
    unfold hd at this
    rw [this, uI_s]
  conv => lhs; arg 3; rw [← e]
  exact uI_self _ _
/-- a row whose words are not all heard is no more than a shorter one -/
theorem EV_short {n c r : Nat} (hc : 2 ≤ c) (hn : n ≤ 2 * (c - 1)) (he : EV A Q a t n c r) : EV A Q a t n (c - 1) (r / 4) := by
  obtain ⟨k, h1, h2⟩ := he
  refine ⟨k, h1, ?_⟩
  rw [← h2]
  refine congrFun (XW_cg k (fun j hj => ?_)) _
  unfold wdk
  congr 1
  have e : j / 2 < c - 1 := by omega
  rw [if_pos e, if_pos (by omega)]
  exact (dgt_pre (c := c) (s := c - 1) (by omega) (by rw [show c - (c - 1) = 1 by omega, Nat.pow_one]) e).symm
/-- nor is one whose last word is said twice -/
theorem EV_same {n c r : Nat} (hc : 2 ≤ c) (hr : r % 4 = r / 4 % 4) (he : EV A Q a t n c r) : EV A Q a t n (c - 1) (r / 4) := by
  obtain ⟨k, h1, h2⟩ := he
  refine ⟨k, h1, ?_⟩
  rw [← h2]
  refine congrFun (XW_cg k (fun j hj => ?_)) _
  unfold wdk
  congr 1
  by_cases e : j / 2 < c - 1
  · rw [if_pos e, if_pos (by omega)]
    exact (dgt_pre (c := c) (s := c - 1) (by omega) (by rw [show c - (c - 1) = 1 by omega, Nat.pow_one]) e).symm
  · have l1 : (if j / 2 < c then j / 2 else c - 1) = c - 1 := by split <;> omega
    have l2 : (if j / 2 < c - 1 then j / 2 else c - 1 - 1) = c - 1 - 1 := by rw [if_neg e]
    rw [l1, l2]
    unfold dgt
    rw [show c - 1 - (c - 1) = 0 by omega, show c - 1 - 1 - (c - 1 - 1) = 0 by omega]
    simp only [Nat.pow_zero, Nat.div_one]
    exact hr.symm
end WD
