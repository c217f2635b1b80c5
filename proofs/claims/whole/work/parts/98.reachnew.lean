theorem stepY {g : zH} {m n k c : Nat} {fs : List zTV} (arr : zMC) (hm : g m = .inr (c, fs)) (hk : k < fs.length) (hn : n ≠ m) : ∃ g', z_pF (z_up g n arr) c k (some m) (tA (some n)) = some g' ∧ g' m = .inr (c, fs.set k (tA (some n))) ∧ g' n = arr ∧ ∀ q, q ≠ m → q ≠ n → g' q = g q := by
  refine ⟨_, z_pF_k (by rw [z_up_n _ _ (fun e => hn e.symm)]; exact hm) hk, z_up_s _ _ _, ?_, fun q h1 h2 => ?_⟩
  · rw [z_up_n _ _ hn, z_up_s]
  · rw [z_up_n _ _ h1, z_up_n _ _ h2]
theorem C_reachNew {h : zH} {m z : Nat} (hm : h m = .inr (3, [tA none, tA none, tA none, tA none, tI 0, tI 0, tI 0, tI 0, tI 0, tJ 0, tJ 0])) : ∃ h', f_X3_init (some m) h (m + 1) z = some ((m + 5, z + 4096 + 4096 + 64 + 7), h') ∧ RcOK h' m ∧ ∀ q, (q < m ∨ m + 5 ≤ q) → h' q = h q := by
  obtain ⟨g0, p0, a00, b0, c0⟩ := stepY (n := m + 1) (k := 0) (.inl (0, 4096, .inl (fun _ => 0))) hm (Nat.le_of_ble_eq_true rfl) (by omega)
  have a0 : g0 m = .inr (3, [tA (some (m + 1)), tA none, tA none, tA none, tI 0, tI 0, tI 0, tI 0, tI 0, tJ 0, tJ 0]) := a00
  clear a00
  obtain ⟨g1, p1, a10, b1, c1⟩ := stepY (n := m + 2) (k := 1) (.inl (0, 4096, .inl (fun _ => 0))) a0 (Nat.le_of_ble_eq_true rfl) (by omega)
  have a1 : g1 m = .inr (3, [tA (some (m + 1)), tA (some (m + 2)), tA none, tA none, tI 0, tI 0, tI 0, tI 0, tI 0, tJ 0, tJ 0]) := a10
  clear a10
  obtain ⟨g2, p2, a20, b2, c2⟩ := stepY (n := m + 3) (k := 2) (.inl (0, 64, .inl (fun _ => 0))) a1 (Nat.le_of_ble_eq_true rfl) (by omega)
  have a2 : g2 m = .inr (3, [tA (some (m + 1)), tA (some (m + 2)), tA (some (m + 3)), tA none, tI 0, tI 0, tI 0, tI 0, tI 0, tJ 0, tJ 0]) := a20
  clear a20
  obtain ⟨g3, p3, a30, b3, c3⟩ := stepY (n := m + 4) (k := 3) (.inl (0, 7, .inl (fun _ => 0))) a2 (Nat.le_of_ble_eq_true rfl) (by omega)
  have a3 : g3 m = cRc m (iI 0) (iI 0) 0 0 0 0 0 := a30
  refine ⟨g3, ?_, ⟨fun _ => 0, fun _ => 0, fun _ => 0, fun _ => 0, iI 0, iI 0, 0, 0, 0, 0, 0, ⟨a3, ?_, ?_, ?_, b3⟩, Or.inl rfl⟩, fun q hq => ?_⟩
  · unfold f_X3_init
    rw [Option.bind_some]
    unfold f_X3_init_b10
    rw [p0, Option.bind_some]
    unfold f_X3_init_b19
    rw [p1, Option.bind_some]
    unfold f_X3_init_b27
    rw [p2, Option.bind_some]
    unfold f_X3_init_b35
    rw [p3, Option.bind_some]
  · rw [c3 _ (by omega) (by omega), c2 _ (by omega) (by omega), c1 _ (by omega) (by omega)]; exact b0
  · rw [c3 _ (by omega) (by omega), c2 _ (by omega) (by omega)]; exact b1
  · rw [c3 _ (by omega) (by omega)]; exact b2
  · rw [c3 _ (by omega) (by omega), c2 _ (by omega) (by omega), c1 _ (by omega) (by omega), c0 _ (by omega) (by omega)]
