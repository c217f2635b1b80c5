/-! THE REFERENCE'S CONSTRUCTOR -/
theorem stepX {g : zH} {m n k : Nat} {fs : List zTV} (arr : zMC) (hm : g m = .inr (11, fs)) (hk : k < fs.length) (hn : n ≠ m) : ∃ g', z_pF (z_up g n arr) 11 k (some m) (tA (some n)) = some g' ∧ g' m = .inr (11, fs.set k (tA (some n))) ∧ g' n = arr ∧ ∀ q, q ≠ m → q ≠ n → g' q = g q := by
  refine ⟨_, z_pF_k (by rw [z_up_n _ _ (fun e => hn e.symm)]; exact hm) hk, z_up_s _ _ _, ?_, fun q h1 h2 => ?_⟩
  · rw [z_up_n _ _ hn, z_up_s]
  · rw [z_up_n _ _ h1, z_up_n _ _ h2]
def zRow : Nat → Nat → Int32 := fun _ _ => 0
theorem C_X11_new {h : zH} {m z : Nat} (hm : h m = .inr (11, [tA none, tA none, tA none, tA none, tI 0, tA none, tA none, tA none, tA none, tA none, tI 0, tA none, tA none, tA none, tI 0, tA none, tA none, tA none, tA none, tI 0, tA none, tA none])) :
    ∃ g, f_X11_init (some m) h (m + 1) z = f_X11_init_b161 (some m) (0 : Int32) (z_up g (m + 1) (.inl (0, 530, .inl (upd (fun _ => 0) 66 3)))) (m + 19) (z + 530 + 1060 + 2 + 530 + 100 + 4 + 4 + 256 + 7 + 6 + 6 + 6 + 21 + 4096 + 4096 + 64 + 7 + 64) ∧ MAt g m zRow ∧ ∀ q, (q < m ∨ m + 19 ≤ q) → g q = h q := by
  obtain ⟨g0, p0, a00, b0, c0⟩ := stepX (n := m + 1) (k := 0) (.inl (0, 530, .inl (fun _ => 0))) hm (Nat.le_of_ble_eq_true rfl) (by omega)
  have a0 : g0 m = .inr (11, [tA (some (m + 1)), tA none, tA none, tA none, tI 0, tA none, tA none, tA none, tA none, tA none, tI 0, tA none, tA none, tA none, tI 0, tA none, tA none, tA none, tA none, tI 0, tA none, tA none]) := a00
  clear a00
  obtain ⟨g1, p1, a10, b1, c1⟩ := stepX (n := m + 2) (k := 1) (.inl (0, 1060, .inl (fun _ => 0))) a0 (Nat.le_of_ble_eq_true rfl) (by omega)
  have a1 : g1 m = .inr (11, [tA (some (m + 1)), tA (some (m + 2)), tA none, tA none, tI 0, tA none, tA none, tA none, tA none, tA none, tI 0, tA none, tA none, tA none, tI 0, tA none, tA none, tA none, tA none, tI 0, tA none, tA none]) := a10
  clear a10
  obtain ⟨g2, p2, a20, b2, c2⟩ := stepX (n := m + 3) (k := 2) (.inl (2, 2, .inl (fun _ => 0))) a1 (Nat.le_of_ble_eq_true rfl) (by omega)
  have a2 : g2 m = .inr (11, [tA (some (m + 1)), tA (some (m + 2)), tA (some (m + 3)), tA none, tI 0, tA none, tA none, tA none, tA none, tA none, tI 0, tA none, tA none, tA none, tI 0, tA none, tA none, tA none, tA none, tI 0, tA none, tA none]) := a20
  clear a20
  obtain ⟨g3, p3, a30, b3, c3⟩ := stepX (n := m + 4) (k := 3) (.inl (0, 530, .inl (fun _ => 0))) a2 (Nat.le_of_ble_eq_true rfl) (by omega)
  have a3 : g3 m = .inr (11, [tA (some (m + 1)), tA (some (m + 2)), tA (some (m + 3)), tA (some (m + 4)), tI 0, tA none, tA none, tA none, tA none, tA none, tI 0, tA none, tA none, tA none, tI 0, tA none, tA none, tA none, tA none, tI 0, tA none, tA none]) := a30
  clear a30
  obtain ⟨g4, p4, a40, b4, c4⟩ := stepX (n := m + 5) (k := 5) (.inl (0, 100, .inl (fun _ => 0))) a3 (Nat.le_of_ble_eq_true rfl) (by omega)
  have a4 : g4 m = .inr (11, [tA (some (m + 1)), tA (some (m + 2)), tA (some (m + 3)), tA (some (m + 4)), tI 0, tA (some (m + 5)), tA none, tA none, tA none, tA none, tI 0, tA none, tA none, tA none, tI 0, tA none, tA none, tA none, tA none, tI 0, tA none, tA none]) := a40
  clear a40
  obtain ⟨g5, p5, a50, b5, c5⟩ := stepX (n := m + 6) (k := 6) (.inl (0, 4, .inl (fun _ => 0))) a4 (Nat.le_of_ble_eq_true rfl) (by omega)
  have a5 : g5 m = .inr (11, [tA (some (m + 1)), tA (some (m + 2)), tA (some (m + 3)), tA (some (m + 4)), tI 0, tA (some (m + 5)), tA (some (m + 6)), tA none, tA none, tA none, tI 0, tA none, tA none, tA none, tI 0, tA none, tA none, tA none, tA none, tI 0, tA none, tA none]) := a50
  clear a50
  obtain ⟨g6, p6, a60, b6, c6⟩ := stepX (n := m + 7) (k := 7) (.inl (0, 4, .inl (fun _ => 0))) a5 (Nat.le_of_ble_eq_true rfl) (by omega)
  have a6 : g6 m = .inr (11, [tA (some (m + 1)), tA (some (m + 2)), tA (some (m + 3)), tA (some (m + 4)), tI 0, tA (some (m + 5)), tA (some (m + 6)), tA (some (m + 7)), tA none, tA none, tI 0, tA none, tA none, tA none, tI 0, tA none, tA none, tA none, tA none, tI 0, tA none, tA none]) := a60
  clear a60
  obtain ⟨g7, p7, a70, b7, c7⟩ := stepX (n := m + 8) (k := 8) (.inl (0, 256, .inl (fun _ => 0))) a6 (Nat.le_of_ble_eq_true rfl) (by omega)
  have a7 : g7 m = .inr (11, [tA (some (m + 1)), tA (some (m + 2)), tA (some (m + 3)), tA (some (m + 4)), tI 0, tA (some (m + 5)), tA (some (m + 6)), tA (some (m + 7)), tA (some (m + 8)), tA none, tI 0, tA none, tA none, tA none, tI 0, tA none, tA none, tA none, tA none, tI 0, tA none, tA none]) := a70
  clear a70
  obtain ⟨g8, p8, a80, b8, c8⟩ := stepX (n := m + 9) (k := 9) (.inl (0, 7, .inl (fun _ => 0))) a7 (Nat.le_of_ble_eq_true rfl) (by omega)
  have a8 : g8 m = .inr (11, [tA (some (m + 1)), tA (some (m + 2)), tA (some (m + 3)), tA (some (m + 4)), tI 0, tA (some (m + 5)), tA (some (m + 6)), tA (some (m + 7)), tA (some (m + 8)), tA (some (m + 9)), tI 0, tA none, tA none, tA none, tI 0, tA none, tA none, tA none, tA none, tI 0, tA none, tA none]) := a80
  clear a80
  obtain ⟨g9, p9, a90, b9, c9⟩ := stepX (n := m + 10) (k := 11) (.inl (2, 6, .inl (fun _ => 0))) a8 (Nat.le_of_ble_eq_true rfl) (by omega)
  have a9 : g9 m = .inr (11, [tA (some (m + 1)), tA (some (m + 2)), tA (some (m + 3)), tA (some (m + 4)), tI 0, tA (some (m + 5)), tA (some (m + 6)), tA (some (m + 7)), tA (some (m + 8)), tA (some (m + 9)), tI 0, tA (some (m + 10)), tA none, tA none, tI 0, tA none, tA none, tA none, tA none, tI 0, tA none, tA none]) := a90
  clear a90
  obtain ⟨g10, p10, a100, b10, c10⟩ := stepX (n := m + 11) (k := 12) (.inl (2, 6, .inl (fun _ => 0))) a9 (Nat.le_of_ble_eq_true rfl) (by omega)
  have a10 : g10 m = .inr (11, [tA (some (m + 1)), tA (some (m + 2)), tA (some (m + 3)), tA (some (m + 4)), tI 0, tA (some (m + 5)), tA (some (m + 6)), tA (some (m + 7)), tA (some (m + 8)), tA (some (m + 9)), tI 0, tA (some (m + 10)), tA (some (m + 11)), tA none, tI 0, tA none, tA none, tA none, tA none, tI 0, tA none, tA none]) := a100
  clear a100
  obtain ⟨g11, p11, a110, b11, c11⟩ := stepX (n := m + 12) (k := 13) (.inl (2, 6, .inl (fun _ => 0))) a10 (Nat.le_of_ble_eq_true rfl) (by omega)
  have a11 : g11 m = .inr (11, [tA (some (m + 1)), tA (some (m + 2)), tA (some (m + 3)), tA (some (m + 4)), tI 0, tA (some (m + 5)), tA (some (m + 6)), tA (some (m + 7)), tA (some (m + 8)), tA (some (m + 9)), tI 0, tA (some (m + 10)), tA (some (m + 11)), tA (some (m + 12)), tI 0, tA none, tA none, tA none, tA none, tI 0, tA none, tA none]) := a110
  clear a110
  obtain ⟨g12, p12, a120, b12, c12⟩ := stepX (n := m + 13) (k := 15) (.inl (0, 21, .inl (fun _ => 0))) a11 (Nat.le_of_ble_eq_true rfl) (by omega)
  have a12 : g12 m = .inr (11, [tA (some (m + 1)), tA (some (m + 2)), tA (some (m + 3)), tA (some (m + 4)), tI 0, tA (some (m + 5)), tA (some (m + 6)), tA (some (m + 7)), tA (some (m + 8)), tA (some (m + 9)), tI 0, tA (some (m + 10)), tA (some (m + 11)), tA (some (m + 12)), tI 0, tA (some (m + 13)), tA none, tA none, tA none, tI 0, tA none, tA none]) := a120
  clear a120
  obtain ⟨g13, p13, a130, b13, c13⟩ := stepX (n := m + 14) (k := 16) (.inl (0, 4096, .inl (fun _ => 0))) a12 (Nat.le_of_ble_eq_true rfl) (by omega)
  have a13 : g13 m = .inr (11, [tA (some (m + 1)), tA (some (m + 2)), tA (some (m + 3)), tA (some (m + 4)), tI 0, tA (some (m + 5)), tA (some (m + 6)), tA (some (m + 7)), tA (some (m + 8)), tA (some (m + 9)), tI 0, tA (some (m + 10)), tA (some (m + 11)), tA (some (m + 12)), tI 0, tA (some (m + 13)), tA (some (m + 14)), tA none, tA none, tI 0, tA none, tA none]) := a130
  clear a130
  obtain ⟨g14, p14, a140, b14, c14⟩ := stepX (n := m + 15) (k := 17) (.inl (0, 4096, .inl (fun _ => 0))) a13 (Nat.le_of_ble_eq_true rfl) (by omega)
  have a14 : g14 m = .inr (11, [tA (some (m + 1)), tA (some (m + 2)), tA (some (m + 3)), tA (some (m + 4)), tI 0, tA (some (m + 5)), tA (some (m + 6)), tA (some (m + 7)), tA (some (m + 8)), tA (some (m + 9)), tI 0, tA (some (m + 10)), tA (some (m + 11)), tA (some (m + 12)), tI 0, tA (some (m + 13)), tA (some (m + 14)), tA (some (m + 15)), tA none, tI 0, tA none, tA none]) := a140
  clear a140
  obtain ⟨g15, p15, a150, b15, c15⟩ := stepX (n := m + 16) (k := 18) (.inl (0, 64, .inl (fun _ => 0))) a14 (Nat.le_of_ble_eq_true rfl) (by omega)
  have a15 : g15 m = .inr (11, [tA (some (m + 1)), tA (some (m + 2)), tA (some (m + 3)), tA (some (m + 4)), tI 0, tA (some (m + 5)), tA (some (m + 6)), tA (some (m + 7)), tA (some (m + 8)), tA (some (m + 9)), tI 0, tA (some (m + 10)), tA (some (m + 11)), tA (some (m + 12)), tI 0, tA (some (m + 13)), tA (some (m + 14)), tA (some (m + 15)), tA (some (m + 16)), tI 0, tA none, tA none]) := a150
  clear a150
  obtain ⟨g16, p16, a160, b16, c16⟩ := stepX (n := m + 17) (k := 20) (.inl (0, 7, .inl (fun _ => 0))) a15 (Nat.le_of_ble_eq_true rfl) (by omega)
  have a16 : g16 m = .inr (11, [tA (some (m + 1)), tA (some (m + 2)), tA (some (m + 3)), tA (some (m + 4)), tI 0, tA (some (m + 5)), tA (some (m + 6)), tA (some (m + 7)), tA (some (m + 8)), tA (some (m + 9)), tI 0, tA (some (m + 10)), tA (some (m + 11)), tA (some (m + 12)), tI 0, tA (some (m + 13)), tA (some (m + 14)), tA (some (m + 15)), tA (some (m + 16)), tI 0, tA (some (m + 17)), tA none]) := a160
  clear a160
  obtain ⟨g17, p17, a170, b17, c17⟩ := stepX (n := m + 18) (k := 21) (.inl (0, 64, .inl (fun _ => 0))) a16 (Nat.le_of_ble_eq_true rfl) (by omega)
  have a17 : g17 m = .inr (11, [tA (some (m + 1)), tA (some (m + 2)), tA (some (m + 3)), tA (some (m + 4)), tI 0, tA (some (m + 5)), tA (some (m + 6)), tA (some (m + 7)), tA (some (m + 8)), tA (some (m + 9)), tI 0, tA (some (m + 10)), tA (some (m + 11)), tA (some (m + 12)), tI 0, tA (some (m + 13)), tA (some (m + 14)), tA (some (m + 15)), tA (some (m + 16)), tI 0, tA (some (m + 17)), tA (some (m + 18))]) := a170
  clear a170
  refine ⟨g17, ?_, fun k hk => ?_, fun q hq => ?_⟩
  · unfold f_X11_init
    rw [Option.bind_some]
    unfold f_X11_init_b10
    rw [p0, Option.bind_some]
    unfold f_X11_init_b19
    rw [p1, Option.bind_some]
    unfold f_X11_init_b26
    rw [p2, Option.bind_some]
    unfold f_X11_init_b35
    rw [p3, Option.bind_some]
    unfold f_X11_init_b43
    rw [p4, Option.bind_some]
    unfold f_X11_init_b50
    rw [p5, Option.bind_some]
    unfold f_X11_init_b57
    rw [p6, Option.bind_some]
    unfold f_X11_init_b66
    rw [p7, Option.bind_some]
    unfold f_X11_init_b74
    rw [p8, Option.bind_some]
    unfold f_X11_init_b82
    rw [p9, Option.bind_some]
    unfold f_X11_init_b90
    rw [p10, Option.bind_some]
    unfold f_X11_init_b98
    rw [p11, Option.bind_some]
    unfold f_X11_init_b106
    rw [p12, Option.bind_some]
    unfold f_X11_init_b115
    rw [p13, Option.bind_some]
    unfold f_X11_init_b124
    rw [p14, Option.bind_some]
    unfold f_X11_init_b132
    rw [p15, Option.bind_some]
    unfold f_X11_init_b140
    rw [p16, Option.bind_some]
    unfold f_X11_init_b148
    rw [p17, Option.bind_some]
    have s0 : z_sI g17 (some (m + 1)) (66 : Int32) (3 : Int32) = some (z_up g17 (m + 1) (.inl (0, 530, .inl (upd (fun _ => 0) 66 3)))) := by
      have q0 : g17 (m + 1) = .inl (0, 530, .inl (fun _ => 0)) := by rw [c17 _ (by omega) (by omega), c16 _ (by omega) (by omega), c15 _ (by omega) (by omega), c14 _ (by omega) (by omega), c13 _ (by omega) (by omega), c12 _ (by omega) (by omega), c11 _ (by omega) (by omega), c10 _ (by omega) (by omega), c9 _ (by omega) (by omega), c8 _ (by omega) (by omega), c7 _ (by omega) (by omega), c6 _ (by omega) (by omega), c5 _ (by omega) (by omega), c4 _ (by omega) (by omega), c3 _ (by omega) (by omega), c2 _ (by omega) (by omega), c1 _ (by omega) (by omega)]; exact b0
      exact z_sI_k (e := 66) q0 (by omega) (by omega) (by decide)
    have g0 : z_gA g17 11 0 (some m) = some (some (m + 1)) := z_gA_k a17 rfl
    rw [g0, Option.bind_some, s0, Option.bind_some]
  · rcases (show k = 0 ∨ k = 1 ∨ k = 2 ∨ k = 3 ∨ k = 4 ∨ k = 5 ∨ k = 6 ∨ k = 7 ∨ k = 8 ∨ k = 9 ∨ k = 10 ∨ k = 11 ∨ k = 12 ∨ k = 13 ∨ k = 14 ∨ k = 15 ∨ k = 16 ∨ k = 17 ∨ k = 18 by omega) with rfl | rfl | rfl | rfl | rfl | rfl | rfl | rfl | rfl | rfl | rfl | rfl | rfl | rfl | rfl | rfl | rfl | rfl | rfl
    · exact a17
    · rw [c17 _ (by omega) (by omega), c16 _ (by omega) (by omega), c15 _ (by omega) (by omega), c14 _ (by omega) (by omega), c13 _ (by omega) (by omega), c12 _ (by omega) (by omega), c11 _ (by omega) (by omega), c10 _ (by omega) (by omega), c9 _ (by omega) (by omega), c8 _ (by omega) (by omega), c7 _ (by omega) (by omega), c6 _ (by omega) (by omega), c5 _ (by omega) (by omega), c4 _ (by omega) (by omega), c3 _ (by omega) (by omega), c2 _ (by omega) (by omega), c1 _ (by omega) (by omega)]; exact b0
    · rw [c17 _ (by omega) (by omega), c16 _ (by omega) (by omega), c15 _ (by omega) (by omega), c14 _ (by omega) (by omega), c13 _ (by omega) (by omega), c12 _ (by omega) (by omega), c11 _ (by omega) (by omega), c10 _ (by omega) (by omega), c9 _ (by omega) (by omega), c8 _ (by omega) (by omega), c7 _ (by omega) (by omega), c6 _ (by omega) (by omega), c5 _ (by omega) (by omega), c4 _ (by omega) (by omega), c3 _ (by omega) (by omega), c2 _ (by omega) (by omega)]; exact b1
    · rw [c17 _ (by omega) (by omega), c16 _ (by omega) (by omega), c15 _ (by omega) (by omega), c14 _ (by omega) (by omega), c13 _ (by omega) (by omega), c12 _ (by omega) (by omega), c11 _ (by omega) (by omega), c10 _ (by omega) (by omega), c9 _ (by omega) (by omega), c8 _ (by omega) (by omega), c7 _ (by omega) (by omega), c6 _ (by omega) (by omega), c5 _ (by omega) (by omega), c4 _ (by omega) (by omega), c3 _ (by omega) (by omega)]; exact b2
    · rw [c17 _ (by omega) (by omega), c16 _ (by omega) (by omega), c15 _ (by omega) (by omega), c14 _ (by omega) (by omega), c13 _ (by omega) (by omega), c12 _ (by omega) (by omega), c11 _ (by omega) (by omega), c10 _ (by omega) (by omega), c9 _ (by omega) (by omega), c8 _ (by omega) (by omega), c7 _ (by omega) (by omega), c6 _ (by omega) (by omega), c5 _ (by omega) (by omega), c4 _ (by omega) (by omega)]; exact b3
    · rw [c17 _ (by omega) (by omega), c16 _ (by omega) (by omega), c15 _ (by omega) (by omega), c14 _ (by omega) (by omega), c13 _ (by omega) (by omega), c12 _ (by omega) (by omega), c11 _ (by omega) (by omega), c10 _ (by omega) (by omega), c9 _ (by omega) (by omega), c8 _ (by omega) (by omega), c7 _ (by omega) (by omega), c6 _ (by omega) (by omega), c5 _ (by omega) (by omega)]; exact b4
    · rw [c17 _ (by omega) (by omega), c16 _ (by omega) (by omega), c15 _ (by omega) (by omega), c14 _ (by omega) (by omega), c13 _ (by omega) (by omega), c12 _ (by omega) (by omega), c11 _ (by omega) (by omega), c10 _ (by omega) (by omega), c9 _ (by omega) (by omega), c8 _ (by omega) (by omega), c7 _ (by omega) (by omega), c6 _ (by omega) (by omega)]; exact b5
    · rw [c17 _ (by omega) (by omega), c16 _ (by omega) (by omega), c15 _ (by omega) (by omega), c14 _ (by omega) (by omega), c13 _ (by omega) (by omega), c12 _ (by omega) (by omega), c11 _ (by omega) (by omega), c10 _ (by omega) (by omega), c9 _ (by omega) (by omega), c8 _ (by omega) (by omega), c7 _ (by omega) (by omega)]; exact b6
    · rw [c17 _ (by omega) (by omega), c16 _ (by omega) (by omega), c15 _ (by omega) (by omega), c14 _ (by omega) (by omega), c13 _ (by omega) (by omega), c12 _ (by omega) (by omega), c11 _ (by omega) (by omega), c10 _ (by omega) (by omega), c9 _ (by omega) (by omega), c8 _ (by omega) (by omega)]; exact b7
    · rw [c17 _ (by omega) (by omega), c16 _ (by omega) (by omega), c15 _ (by omega) (by omega), c14 _ (by omega) (by omega), c13 _ (by omega) (by omega), c12 _ (by omega) (by omega), c11 _ (by omega) (by omega), c10 _ (by omega) (by omega), c9 _ (by omega) (by omega)]; exact b8
    · rw [c17 _ (by omega) (by omega), c16 _ (by omega) (by omega), c15 _ (by omega) (by omega), c14 _ (by omega) (by omega), c13 _ (by omega) (by omega), c12 _ (by omega) (by omega), c11 _ (by omega) (by omega), c10 _ (by omega) (by omega)]; exact b9
    · rw [c17 _ (by omega) (by omega), c16 _ (by omega) (by omega), c15 _ (by omega) (by omega), c14 _ (by omega) (by omega), c13 _ (by omega) (by omega), c12 _ (by omega) (by omega), c11 _ (by omega) (by omega)]; exact b10
    · rw [c17 _ (by omega) (by omega), c16 _ (by omega) (by omega), c15 _ (by omega) (by omega), c14 _ (by omega) (by omega), c13 _ (by omega) (by omega), c12 _ (by omega) (by omega)]; exact b11
    · rw [c17 _ (by omega) (by omega), c16 _ (by omega) (by omega), c15 _ (by omega) (by omega), c14 _ (by omega) (by omega), c13 _ (by omega) (by omega)]; exact b12
    · rw [c17 _ (by omega) (by omega), c16 _ (by omega) (by omega), c15 _ (by omega) (by omega), c14 _ (by omega) (by omega)]; exact b13
    · rw [c17 _ (by omega) (by omega), c16 _ (by omega) (by omega), c15 _ (by omega) (by omega)]; exact b14
    · rw [c17 _ (by omega) (by omega), c16 _ (by omega) (by omega)]; exact b15
    · rw [c17 _ (by omega) (by omega)]; exact b16
    · exact b17
  · rw [c17 _ (by omega) (by omega), c16 _ (by omega) (by omega), c15 _ (by omega) (by omega), c14 _ (by omega) (by omega), c13 _ (by omega) (by omega), c12 _ (by omega) (by omega), c11 _ (by omega) (by omega), c10 _ (by omega) (by omega), c9 _ (by omega) (by omega), c8 _ (by omega) (by omega), c7 _ (by omega) (by omega), c6 _ (by omega) (by omega), c5 _ (by omega) (by omega), c4 _ (by omega) (by omega), c3 _ (by omega) (by omega), c2 _ (by omega) (by omega), c1 _ (by omega) (by omega), c0 _ (by omega) (by omega)]
