/-! CONDITIONS -/
theorem cLe {a b : Int} (h : (-2147483648 ≤ a ∧ a < 2147483648) ∧ (-2147483648 ≤ b ∧ b < 2147483648) ∧ a ≤ b) : iI a ≤ iI b := by
  rw [iI_le h.1.1 h.1.2 h.2.1.1 h.2.1.2]; exact h.2.2
theorem nLe {a b : Int} (h : (-2147483648 ≤ a ∧ a < 2147483648) ∧ (-2147483648 ≤ b ∧ b < 2147483648) ∧ b < a) : ¬ iI a ≤ iI b := by
  rw [iI_le h.1.1 h.1.2 h.2.1.1 h.2.1.2]; omega
theorem cLt {a b : Int} (h : (-2147483648 ≤ a ∧ a < 2147483648) ∧ (-2147483648 ≤ b ∧ b < 2147483648) ∧ a < b) : iI a < iI b := by
  rw [iI_lt h.1.1 h.1.2 h.2.1.1 h.2.1.2]; exact h.2.2
theorem nLt {a b : Int} (h : (-2147483648 ≤ a ∧ a < 2147483648) ∧ (-2147483648 ≤ b ∧ b < 2147483648) ∧ b ≤ a) : ¬ iI a < iI b := by
  rw [iI_lt h.1.1 h.1.2 h.2.1.1 h.2.1.2]; omega
theorem cEq {a b : Int} (h : a = b) : iI a = iI b := congrArg iI h
theorem nEq {a b : Int} (h : (-2147483648 ≤ a ∧ a < 2147483648) ∧ (-2147483648 ≤ b ∧ b < 2147483648) ∧ a ≠ b) : ¬ iI a = iI b := by
  rw [iI_eq h.1.1 h.1.2 h.2.1.1 h.2.1.2]; exact h.2.2
theorem iteLe {α : Type} {a b : Int} {d : Decidable (iI a ≤ iI b)} {x y : α} (h : (-2147483648 ≤ a ∧ a < 2147483648) ∧ (-2147483648 ≤ b ∧ b < 2147483648)) : @ite α (iI a ≤ iI b) d x y = if a ≤ b then x else y := by
  by_cases q : a ≤ b
  · rw [if_pos (cLe ⟨h.1, h.2, q⟩), if_pos q]
  · rw [if_neg (nLe ⟨h.1, h.2, by omega⟩), if_neg q]
theorem iteLt {α : Type} {a b : Int} {d : Decidable (iI a < iI b)} {x y : α} (h : (-2147483648 ≤ a ∧ a < 2147483648) ∧ (-2147483648 ≤ b ∧ b < 2147483648)) : @ite α (iI a < iI b) d x y = if a < b then x else y := by
  by_cases q : a < b
  · rw [if_pos (cLt ⟨h.1, h.2, q⟩), if_pos q]
  · rw [if_neg (nLt ⟨h.1, h.2, by omega⟩), if_neg q]
theorem iteEq {α : Type} {a b : Int} {d : Decidable (iI a = iI b)} {x y : α} (h : (-2147483648 ≤ a ∧ a < 2147483648) ∧ (-2147483648 ≤ b ∧ b < 2147483648)) : @ite α (iI a = iI b) d x y = if a = b then x else y := by
  by_cases q : a = b
  · rw [if_pos (cEq q), if_pos q]
  · rw [if_neg (nEq ⟨h.1, h.2, q⟩), if_neg q]
