/-! THE CLASS's CONSTRUCTOR -/
theorem RcOK_fr {h h' : zH} {rc : Nat} (hK : RcOK h rc) (hf : ∀ q, rc ≤ q → q < rc + 5 → h' q = h q) : RcOK h' rc := by
  obtain ⟨g0, g1, g2, g3, fc, cc, c0, N, f0, w, ot, ⟨k0, k1, k2, k3, k4⟩, k5⟩ := hK
  exact ⟨g0, g1, g2, g3, fc, cc, c0, N, f0, w, ot, ⟨by rw [hf _ (by omega) (by omega)]; exact k0, by rw [hf _ (by omega) (by omega)]; exact k1, by rw [hf _ (by omega) (by omega)]; exact k2, by rw [hf _ (by omega) (by omega)]; exact k3, by rw [hf _ (by omega) (by omega)]; exact k4⟩, k5⟩
theorem WSO_fr {h h' : zH} {ws : Nat} (hK : WSO h ws) (hf : ∀ q, ws ≤ q → q < ws + 153 → h' q = h q) : WSO h' ws := by
  obtain ⟨⟨x, y, z, g, k0, k1, k2⟩, k3⟩ := hK
  refine ⟨⟨x, y, z, g, by rw [hf _ (by omega) (by omega)]; exact k0, by rw [hf _ (by omega) (by omega)]; exact k1, by rw [hf _ (by omega) (by omega)]; exact k2⟩, fun j hj => ?_⟩
  obtain ⟨S, s⟩ := k3 j hj
  exact ⟨S, SAt_fr s (fun q g1 g2 => hf q (by omega) (by omega))⟩
theorem stepP {g : zH} {m k c : Nat} {fs : List zTV} (v : zTV) (hm : g m = .inr (c, fs)) (hk : k < fs.length) : ∃ g', z_pF g c k (some m) v = some g' ∧ g' m = .inr (c, fs.set k v) ∧ ∀ q, q ≠ m → g' q = g q := ⟨_, z_pF_k hm hk, z_up_s _ _ _, fun q hq => z_up_n _ _ hq⟩
theorem C_wordsNew {h : zH} {ws z : Nat} (hm : h ws = .inr (9, [tA none, tA none, tI 0, tI 0, tI 0])) : ∃ h', f_X9_init (some ws) h (ws + 1) z = some ((ws + 153, z + 989), h') ∧ WSO h' ws ∧ ∀ q, (q < ws ∨ ws + 153 ≤ q) → h' q = h q := by
  obtain ⟨g0, p0, a00, b0, c0⟩ := stepY (n := ws + 1) (k := 0) (.inl (0, 4, .inl (fun _ => 0))) hm (Nat.le_of_ble_eq_true rfl) (by omega)
  have a0 : g0 ws = .inr (9, [tA (some (ws + 1)), tA none, tI 0, tI 0, tI 0]) := a00
  clear a00
  obtain ⟨g1, p1, a10, b1, c1⟩ := stepY (n := ws + 2) (k := 1) (.inl (6, 5, .inr (.inr (fun _ => none)))) a0 (Nat.le_of_ble_eq_true rfl) (by omega)
  have a1 : g1 ws = .inr (9, [tA (some (ws + 1)), tA (some (ws + 2)), tI 0, tI 0, tI 0]) := a10
  clear a10
  have key := z_forI (body := fun q : (Nat × Nat) × ((Option Nat) × Int32 × zH) => (f_X9_init_c21 q.2.1 q.2.2.1 q.2.2.2 q.1.1 q.1.2).map z_ds) (Q := fun r => r.1 = (ws + 153, z + 989) ∧ WSO r.2 ws ∧ ∀ q, (q < ws ∨ ws + 153 ≤ q) → r.2 q = h q)
    (fun i st => ∃ h1, st = ((ws + 3 + 30 * i, z + 9 + 196 * i), (some ws, iI (i : Int), h1)) ∧ h1 ws = .inr (9, [tA (some (ws + 1)), tA (some (ws + 2)), tI 0, tI 0, tI 0]) ∧ h1 (ws + 1) = .inl (0, 4, .inl (fun _ => 0)) ∧ h1 (ws + 2) = .inl (6, 5, .inr (.inr (fun j => if j < i then some (ws + 3 + 30 * j) else none))) ∧ (∀ j, j < i → ∃ S, SAt h1 (ws + 3 + 30 * j) S) ∧ ∀ q, (q < ws ∨ ws + 153 ≤ q) → h1 q = h q) 5 ?_ ?_ 5 0 ((ws + 3, z + 9), (some ws, iI 0, g1)) (by omega) ⟨g1, rfl, a1, ?_, ?_, fun j hj => absurd hj (by omega), ?_⟩
  · obtain ⟨r, k1, k2, k3⟩ := key
    refine ⟨r.2, ?_, k3⟩
    have er : r = ((ws + 153, z + 989), r.2) := by rw [← k2]
    rw [← er]
    unfold f_X9_init
    rw [Option.bind_some]
    unfold f_X9_init_b8
    rw [p0, Option.bind_some]
    unfold f_X9_init_b16
    rw [p1, Option.bind_some]
    exact k1
  · rintro i st hi ⟨h1, rfl, k1, k2, k3, k4, k5⟩
    have g9 : z_gA h1 9 1 (some ws) = some (some (ws + 2)) := z_gA_k k1 rfl
    have l5 : z_len h1 (some (ws + 2)) = some (iI ((5 : Nat) : Int)) := z_len_o k3 (by omega)
    obtain ⟨h2, q1, q2, q3⟩ := C_seaNew (b := ws + 3 + 30 * i) (z := z + 9 + 196 * i + 9) (h := z_up h1 (ws + 3 + 30 * i) (.inr (6, [tJ 0, tJ 0, tA none, tA none, tI 0, tA none, tI 0, tI 0, tI 0]))) (z_up_s _ _ _)
    have o2 : ∀ q, (q < ws + 3 + 30 * i ∨ ws + 3 + 30 * i + 30 ≤ q) → h2 q = h1 q := fun q hq => by rw [q3 q hq, z_up_n _ _ (by omega)]
    have w := z_sA_k (h := h2) (a := ws + 2) (q := ws + 3 + 30 * i) (e := (i : Int)) (by rw [o2 _ (by omega)]; exact k3) q2.o (by omega) rfl (by omega) (by omega) (by decide)
    rw [show ((i : Int)).toNat = i by omega, va_upN ws 0 (fun j => ws + 3 + 30 * j) i] at w
    refine Or.inl ⟨_, ?_, z_up h2 (ws + 2) (.inl (6, 5, .inr (.inr (fun j => if j < i + 1 then some (ws + 3 + 30 * j) else none)))), rfl, ?_, ?_, z_up_s _ _ _, fun j hj => ?_, fun q hq => ?_⟩
    · show (f_X9_init_c21 (some ws) (iI (i : Int)) h1 (ws + 3 + 30 * i) (z + 9 + 196 * i)).map z_ds = _
      unfold f_X9_init_c21
      have n1 : iI (i : Int) + (1 : Int32) = iI ((i + 1 : Nat) : Int) := by rw [iI_lit, iI_add]; rfl
      rw [g9, Option.bind_some, l5, Option.bind_some, if_neg (nLe (by omega)), Option.bind_some]
      unfold f_X9_init_b38
      rw [Option.bind_some, q1, Option.bind_some]
      unfold f_X9_init_b42
      rw [w, Option.bind_some, n1, show ws + 3 + 30 * i + 30 = ws + 3 + 30 * (i + 1) by omega, show z + 9 + 196 * i + 9 + 187 = z + 9 + 196 * (i + 1) by omega]
      rfl
    · rw [z_up_n _ _ (by omega), o2 _ (by omega)]; exact k1
    · rw [z_up_n _ _ (by omega), o2 _ (by omega)]; exact k2
    · by_cases e : j = i
      · subst e
        exact ⟨S00, SAt_fr q2 (fun q h1 h2 => z_up_n _ _ (by omega))⟩
      · obtain ⟨S, s⟩ := k4 j (by omega)
        exact ⟨S, SAt_fr s (fun q h1 h2 => by rw [z_up_n _ _ (by omega), o2 _ (by omega)])⟩
    · rw [z_up_n _ _ (by omega), o2 _ (by omega)]; exact k5 q hq
  · rintro st ⟨h1, rfl, k1, k2, k3, k4, k5⟩
    have g9 : z_gA h1 9 1 (some ws) = some (some (ws + 2)) := z_gA_k k1 rfl
    have l5 : z_len h1 (some (ws + 2)) = some (iI ((5 : Nat) : Int)) := z_len_o k3 (by omega)
    refine ⟨((ws + 153, z + 989), h1), ?_, rfl, ⟨⟨_, _, _, _, k1, k2, k3⟩, fun j hj => k4 j (by omega)⟩, k5⟩
    show (f_X9_init_c21 (some ws) (iI ((5 : Nat) : Int)) h1 (ws + 3 + 30 * 5) (z + 9 + 196 * 5)).map z_ds = _
    unfold f_X9_init_c21
    rw [g9, Option.bind_some, l5, Option.bind_some, if_pos (Int32.le_refl _), show ws + 3 + 30 * 5 = ws + 153 by omega, show z + 9 + 196 * 5 = z + 989 by omega]
    rfl
  · rw [c1 _ (by omega) (by omega)]; exact b0
  · rw [b1]; rfl
  · intro q hq
    rw [c1 _ (by omega) (by omega), c0 _ (by omega) (by omega)]
theorem C_sheetsNew {h : zH} {X z : Nat} (hX : h X = oX X 0) (hs : h (X + 32) = .inl (7, 4, .inr (.inr (fun _ => none)))) : ∃ h', f_X10_init_b82 (some X) (0 : Int32) h (X + 194) z = some ((X + 202, z + 268), h') ∧ SHT h' X (fun _ => -1) (fun _ => 0) (fun _ _ => 0) ∧ ∀ q, q ≠ X + 32 → (q < X + 194 ∨ X + 202 ≤ q) → h' q = h q := by
  have key := z_forI (body := fun q : (Nat × Nat) × ((Option Nat) × Int32 × zH) => (f_X10_init_c82 q.2.1 q.2.2.1 q.2.2.2 q.1.1 q.1.2).map z_ds) (Q := fun r => r.1 = (X + 202, z + 268) ∧ SHT r.2 X (fun _ => -1) (fun _ => 0) (fun _ _ => 0) ∧ ∀ q, q ≠ X + 32 → (q < X + 194 ∨ X + 202 ≤ q) → r.2 q = h q)
    (fun i st => ∃ h1, st = ((X + 194 + 2 * i, z + 67 * i), (some X, iI (i : Int), h1)) ∧ h1 (X + 32) = .inl (7, 4, .inr (.inr (fun j => if j < i then some (X + 194 + 2 * j) else none))) ∧ (∀ j, j < i → h1 (X + 194 + 2 * j) = .inr (7, [tI (iI (-1)), tI (iI 0), tA (some (X + 195 + 2 * j))]) ∧ h1 (X + 195 + 2 * j) = .inl (0, 64, .inl (fun _ => 0))) ∧ ∀ q, q ≠ X + 32 → (q < X + 194 ∨ X + 202 ≤ q) → h1 q = h q) 4 ?_ ?_ 4 0 ((X + 194, z), (some X, iI 0, h)) (by omega) ⟨h, rfl, by rw [hs]; rfl, fun j hj => absurd hj (by omega), fun _ _ _ => rfl⟩
  · obtain ⟨r, k1, k2, k3⟩ := key
    refine ⟨r.2, ?_, k3⟩
    have er : r = ((X + 202, z + 268), r.2) := by rw [← k2]
    rw [← er]
    exact k1
  · rintro i st hi ⟨h1, rfl, k1, k2, k3⟩
    have hX1 : h1 X = oX X 0 := by rw [k3 X (by omega) (by omega)]; exact hX
    have l4 : z_len h1 (some (X + 32)) = some (iI ((4 : Nat) : Int)) := z_len_o k1 (by omega)
    obtain ⟨h2, q1, q2, q3, q4⟩ := C_sheetNew (b := X + 194 + 2 * i) (z := z + 67 * i + 3) (h := z_up h1 (X + 194 + 2 * i) (.inr (7, [tI 0, tI 0, tA none]))) (z_up_s _ _ _)
    have o2 : ∀ q, q ≠ X + 194 + 2 * i → q ≠ X + 195 + 2 * i → h2 q = h1 q := fun q g1 g2 => by rw [q4 q g1 (by omega), z_up_n _ _ g1]
    have w := z_sA_k (h := h2) (a := X + 32) (q := X + 194 + 2 * i) (e := (i : Int)) (by rw [o2 _ (by omega) (by omega)]; exact k1) q2 (by omega) rfl (by omega) (by omega) (by decide)
    rw [show ((i : Int)).toNat = i by omega, va_upN X 0 (fun j => X + 194 + 2 * j) i] at w
    refine Or.inl ⟨_, ?_, z_up h2 (X + 32) (.inl (7, 4, .inr (.inr (fun j => if j < i + 1 then some (X + 194 + 2 * j) else none)))), rfl, z_up_s _ _ _, fun j hj => ?_, fun q g1 g2 => by rw [z_up_n _ _ g1, o2 _ (by omega) (by omega)]; exact k3 q g1 g2⟩
    · show (f_X10_init_c82 (some X) (iI (i : Int)) h1 (X + 194 + 2 * i) (z + 67 * i)).map z_ds = _
      unfold f_X10_init_c82
      have n1 : iI (i : Int) + (1 : Int32) = iI ((i + 1 : Nat) : Int) := by rw [iI_lit, iI_add]; rfl
      rw [Xg2 hX1, Option.bind_some, l4, Option.bind_some, if_neg (nLe (by omega)), Option.bind_some]
      unfold f_X10_init_b99
      rw [Option.bind_some, q1, Option.bind_some]
      unfold f_X10_init_b103
      rw [w, Option.bind_some, n1, show X + 194 + 2 * i + 2 = X + 194 + 2 * (i + 1) by omega, show z + 67 * i + 3 + 64 = z + 67 * (i + 1) by omega]
      rfl
    · rw [z_up_n _ _ (by omega), z_up_n _ _ (by omega)]
      by_cases e : j = i
      · subst e
        rw [show X + 195 + 2 * j = X + 194 + 2 * j + 1 by omega]
        exact ⟨q2, q3⟩
      · rw [o2 _ (by omega) (by omega), o2 _ (by omega) (by omega)]
        exact k2 j (by omega)
  · rintro st ⟨h1, rfl, k1, k2, k3⟩
    have hX1 : h1 X = oX X 0 := by rw [k3 X (by omega) (by omega)]; exact hX
    have l4 : z_len h1 (some (X + 32)) = some (iI ((4 : Nat) : Int)) := z_len_o k1 (by omega)
    refine ⟨((X + 202, z + 268), h1), ?_, rfl, ⟨k1, fun s hs => ⟨(k2 s hs).1, _, (k2 s hs).2, fun _ _ => rfl⟩⟩, k3⟩
    show (f_X10_init_c82 (some X) (iI ((4 : Nat) : Int)) h1 (X + 194 + 2 * 4) (z + 67 * 4)).map z_ds = _
    unfold f_X10_init_c82
    rw [Xg2 hX1, Option.bind_some, l4, Option.bind_some, if_pos (Int32.le_refl _)]
    rfl
theorem C_X10_new {h : zH} {X z : Nat} (hm : h X = .inr (10, [tA none, tA none, tA none, tA none, tI 0, tA none, tA none, tA none, tA none])) :
    ∃ h' z', f_X10_init (some X) h (X + 1) z = some ((X + 202, z'), h') ∧ z' ≤ z + 20000 ∧ h' X = oX X (iI 0) ∧ SAt h' (X + 1) S00 ∧ h' (X + 31) = .inl (6, 2, .inr (.inr (fun _ => none))) ∧ SHT h' X (fun _ => -1) (fun _ => 0) (fun _ _ => 0) ∧ h' (X + 33) = .inl (1, 100, .inl (fun _ => 0)) ∧ h' (X + 34) = .inr (4, [tA none, tI 0, tI 0, tI 0, tI 0]) ∧ RcOK h' (X + 35) ∧ WSO h' (X + 40) ∧ h' (X + 193) = .inl (0, 7, .inl (fun _ => 0)) ∧ ∀ q, (q < X ∨ X + 202 ≤ q) → h' q = h q := by
  obtain ⟨h0, p0, a0, c0⟩ := C_seaNew (b := X + 1) (z := z + 9) (h := z_up h (X + 1) (.inr (6, [tJ 0, tJ 0, tA none, tA none, tI 0, tA none, tI 0, tI 0, tI 0]))) (z_up_s _ _ _)
  have o0 : ∀ q, (q < X + 1 ∨ X + 31 ≤ q) → h0 q = h q := fun q hq => by rw [c0 q (by omega), z_up_n _ _ (by omega)]
  obtain ⟨h1, p1, a10, c1⟩ := stepP (g := h0) (k := 0) (tA (some (X + 1))) ((o0 X (by omega)).trans hm) (Nat.le_of_ble_eq_true rfl)
  have a1 : h1 X = .inr (10, [tA (some (X + 1)), tA none, tA none, tA none, tI 0, tA none, tA none, tA none, tA none]) := a10
  clear a10
  obtain ⟨h2, p2, a20, b2, c2⟩ := stepY (n := X + 31) (k := 1) (.inl (6, 2, .inr (.inr (fun _ => none)))) a1 (Nat.le_of_ble_eq_true rfl) (by omega)
  have a2 : h2 X = .inr (10, [tA (some (X + 1)), tA (some (X + 31)), tA none, tA none, tI 0, tA none, tA none, tA none, tA none]) := a20
  clear a20
  obtain ⟨h3, p3, a30, b3, c3⟩ := stepY (n := X + 32) (k := 2) (.inl (7, 4, .inr (.inr (fun _ => none)))) a2 (Nat.le_of_ble_eq_true rfl) (by omega)
  have a3 : h3 X = .inr (10, [tA (some (X + 1)), tA (some (X + 31)), tA (some (X + 32)), tA none, tI 0, tA none, tA none, tA none, tA none]) := a30
  clear a30
  obtain ⟨h4, p4, a40, b4, c4⟩ := stepY (n := X + 33) (k := 3) (.inl (1, 100, .inl (fun _ => 0))) a3 (Nat.le_of_ble_eq_true rfl) (by omega)
  have a4 : h4 X = .inr (10, [tA (some (X + 1)), tA (some (X + 31)), tA (some (X + 32)), tA (some (X + 33)), tI 0, tA none, tA none, tA none, tA none]) := a40
  clear a40
  obtain ⟨h5, p5, a50, b5, c5⟩ := stepY (n := X + 34) (k := 5) (.inr (4, [tA none, tI 0, tI 0, tI 0, tI 0])) a4 (Nat.le_of_ble_eq_true rfl) (by omega)
  have a5 : h5 X = .inr (10, [tA (some (X + 1)), tA (some (X + 31)), tA (some (X + 32)), tA (some (X + 33)), tI 0, tA (some (X + 34)), tA none, tA none, tA none]) := a50
  clear a50
  obtain ⟨h6, p6, b6, c6⟩ := C_reachNew (m := X + 35) (z := z + 9 + 187 + 2 + 4 + 100 + 5 + 11) (h := z_up h5 (X + 35) (.inr (3, [tA none, tA none, tA none, tA none, tI 0, tI 0, tI 0, tI 0, tI 0, tJ 0, tJ 0]))) (z_up_s _ _ _)
  have o6 : ∀ q, (q < X + 35 ∨ X + 40 ≤ q) → h6 q = h5 q := fun q hq => by rw [c6 q (by omega), z_up_n _ _ (by omega)]
  obtain ⟨h7, p7, a70, c7⟩ := stepP (g := h6) (k := 6) (tA (some (X + 35))) ((o6 X (by omega)).trans a5) (Nat.le_of_ble_eq_true rfl)
  have a7 : h7 X = .inr (10, [tA (some (X + 1)), tA (some (X + 31)), tA (some (X + 32)), tA (some (X + 33)), tI 0, tA (some (X + 34)), tA (some (X + 35)), tA none, tA none]) := a70
  clear a70
  obtain ⟨h8, p8, b8, c8⟩ := C_wordsNew (ws := X + 40) (z := z + 9 + 187 + 2 + 4 + 100 + 5 + 11 + 4096 + 4096 + 64 + 7 + 5) (h := z_up h7 (X + 40) (.inr (9, [tA none, tA none, tI 0, tI 0, tI 0]))) (z_up_s _ _ _)
  have o8 : ∀ q, (q < X + 40 ∨ X + 193 ≤ q) → h8 q = h7 q := fun q hq => by rw [c8 q (by omega), z_up_n _ _ (by omega)]
  obtain ⟨h9, p9, a90, c9⟩ := stepP (g := h8) (k := 7) (tA (some (X + 40))) ((o8 X (by omega)).trans a7) (Nat.le_of_ble_eq_true rfl)
  have a9 : h9 X = .inr (10, [tA (some (X + 1)), tA (some (X + 31)), tA (some (X + 32)), tA (some (X + 33)), tI 0, tA (some (X + 34)), tA (some (X + 35)), tA (some (X + 40)), tA none]) := a90
  clear a90
  obtain ⟨hA, pA, aA0, bA, cA⟩ := stepY (n := X + 193) (k := 8) (.inl (0, 7, .inl (fun _ => 0))) a9 (Nat.le_of_ble_eq_true rfl) (by omega)
  have aA : hA X = oX X 0 := aA0
  clear aA0
  have s32 : hA (X + 32) = .inl (7, 4, .inr (.inr (fun _ => none))) := by rw [cA _ (by omega) (by omega), c9 _ (by omega), o8 _ (by omega), c7 _ (by omega), o6 _ (by omega), c5 _ (by omega) (by omega), c4 _ (by omega) (by omega)]; exact b3
  obtain ⟨hB, pB, bB, cB⟩ := C_sheetsNew (z := z + 9 + 187 + 2 + 4 + 100 + 5 + 11 + 4096 + 4096 + 64 + 7 + 5 + 989 + 7) aA s32
  have r6 : ∀ q, X + 35 ≤ q → q < X + 40 → hB q = h6 q := fun q g1 g2 => by rw [cB _ (by omega) (by omega), cA _ (by omega) (by omega), c9 _ (by omega), o8 _ (by omega), c7 _ (by omega)]
  have r8 : ∀ q, X + 40 ≤ q → q < X + 193 → hB q = h8 q := fun q g1 g2 => by rw [cB _ (by omega) (by omega), cA _ (by omega) (by omega), c9 _ (by omega)]
  have r5 : ∀ q, q < X + 35 → q ≠ X → q ≠ X + 32 → hB q = h5 q := fun q g1 g2 g3 => by rw [cB _ (by omega) (by omega), cA _ (by omega) (by omega), c9 _ (by omega), o8 _ (by omega), c7 _ (by omega), o6 _ (by omega)]
  refine ⟨hB, z + 9 + 187 + 2 + 4 + 100 + 5 + 11 + 4096 + 4096 + 64 + 7 + 5 + 989 + 7 + 268, ?_, by omega, ?_, SAt_fr a0 (fun q g1 g2 => ?_), ?_, bB, ?_, ?_, ?_, ?_, ?_, fun q hq => ?_⟩
  · unfold f_X10_init
    rw [Option.bind_some]
    unfold f_X10_init_b8
    rw [Option.bind_some, p0, Option.bind_some]
    unfold f_X10_init_b12
    rw [p1, Option.bind_some]
    unfold f_X10_init_b20
    rw [p2, Option.bind_some]
    unfold f_X10_init_b28
    rw [p3, Option.bind_some]
    unfold f_X10_init_b36
    rw [p4, Option.bind_some]
    unfold f_X10_init_b43 f_X4_init
    rw [Option.bind_some, Option.bind_some, Option.bind_some, p5, Option.bind_some]
    unfold f_X10_init_b54
    rw [Option.bind_some, p6, Option.bind_some]
    unfold f_X10_init_b58
    rw [p7, Option.bind_some]
    unfold f_X10_init_b65
    rw [Option.bind_some, p8, Option.bind_some]
    unfold f_X10_init_b69
    rw [p9, Option.bind_some]
    unfold f_X10_init_b77
    rw [pA, Option.bind_some]
    exact pB
  · rw [cB _ (by omega) (by omega)]; exact aA
  · rw [r5 q (by omega) (by omega) (by omega), c5 _ (by omega) (by omega), c4 _ (by omega) (by omega), c3 _ (by omega) (by omega), c2 _ (by omega) (by omega), c1 _ (by omega)]
  · rw [r5 _ (by omega) (by omega) (by omega), c5 _ (by omega) (by omega), c4 _ (by omega) (by omega), c3 _ (by omega) (by omega)]; exact b2
  · rw [r5 _ (by omega) (by omega) (by omega), c5 _ (by omega) (by omega)]; exact b4
  · rw [r5 _ (by omega) (by omega) (by omega)]; exact b5
  · exact RcOK_fr b6 (fun q g1 g2 => r6 q g1 (by omega))
  · exact WSO_fr b8 (fun q g1 g2 => r8 q g1 (by omega))
  · rw [cB _ (by omega) (by omega)]; exact bA
  · rw [cB _ (by omega) (by omega), cA _ (by omega) (by omega), c9 _ (by omega), o8 _ (by omega), c7 _ (by omega), o6 _ (by omega), c5 _ (by omega) (by omega), c4 _ (by omega) (by omega), c3 _ (by omega) (by omega), c2 _ (by omega) (by omega), c1 _ (by omega), o0 _ (by omega)]
