section CW
variable {ws tS : Nat} {D : Nat → Prop} {A : Int → Int} {Q : Int → List zKl} {U : Int → Option Nat} {a t : Int} {n : Nat}
def WSAt (h : zH) (ws : Nat) (x y z : Int32) (g : Nat → Int32) : Prop := h ws = .inr (9, [tA (some (ws + 1)), tA (some (ws + 2)), tI x, tI y, tI z]) ∧ h (ws + 1) = .inl (0, 4, .inl g) ∧ h (ws + 2) = .inl (6, 5, .inr (.inr (fun i => if i < 5 then some (ws + 3 + 30 * i) else none)))
theorem WSb {h : zH} {x y z : Int32} {g : Nat → Int32} (hS : WSAt h ws x y z g) {e : Int} (h1 : 0 ≤ e) (h2 : e < 5) : z_aA h (some (ws + 2)) (iI e) = some (some (ws + 3 + 30 * e.toNat)) := by
  rw [z_aA_k hS.2.2 (by omega) h1 (by omega) (by decide), if_pos (by omega)]
theorem WSck {h : zH} {x y z : Int32} {g : Nat → Int32} (hS : WSAt h ws x y z g) : z_ck h 9 (some ws) = some ws := z_ck_k hS.1
theorem WS0 {h : zH} {x y z : Int32} {g : Nat → Int32} (hS : WSAt h ws x y z g) : z_gA h 9 0 (some ws) = some (some (ws + 1)) := z_gA_k hS.1 rfl
theorem WS1 {h : zH} {x y z : Int32} {g : Nat → Int32} (hS : WSAt h ws x y z g) : z_gA h 9 1 (some ws) = some (some (ws + 2)) := z_gA_k hS.1 rfl
theorem WS2 {h : zH} {x y z : Int32} {g : Nat → Int32} (hS : WSAt h ws x y z g) : z_gI h 9 2 (some ws) = some x := z_gI_k hS.1 rfl
theorem WS3 {h : zH} {x y z : Int32} {g : Nat → Int32} (hS : WSAt h ws x y z g) : z_gI h 9 3 (some ws) = some y := z_gI_k hS.1 rfl
theorem WS4 {h : zH} {x y z : Int32} {g : Nat → Int32} (hS : WSAt h ws x y z g) : z_gI h 9 4 (some ws) = some z := z_gI_k hS.1 rfl
theorem WSAt_fr {h h' : zH} {x y z : Int32} {g : Nat → Int32} (hS : WSAt h ws x y z g) (hf : ∀ q, ws ≤ q → q < ws + 3 → h' q = h q) : WSAt h' ws x y z g := ⟨by rw [hf _ (by omega) (by omega)]; exact hS.1, by rw [hf _ (by omega) (by omega)]; exact hS.2.1, by rw [hf _ (by omega) (by omega)]; exact hS.2.2⟩
/-- what a search behind s words leaves as it was -/
def fw (ws s : Nat) (h h' : zH) : Prop := ∀ q, q ≠ ws + 1 → (q < ws + 33 + 30 * s ∨ ws + 153 ≤ q) → h' q = h q
theorem fw_rf (ws s : Nat) (h : zH) : fw ws s h h := fun _ _ _ => rfl
theorem fw_tr {s : Nat} {h h1 h2 : zH} (p : fw ws s h h1) (q : fw ws s h1 h2) : fw ws s h h2 := fun x h1 h2 => (q x h1 h2).trans (p x h1 h2)
theorem fw_dn {s : Nat} {h h1 : zH} (p : fw ws (s + 1) h h1) : fw ws s h h1 := fun x h1 h2 => p x h1 (by omega)
theorem fw_fr {s i : Nat} (hi : s < i ∧ i ≤ 4) {h h1 : zH} (p : fr (ws + 3 + 30 * i) 30 h h1) : fw ws s h h1 := fun x _ h2 => p x (by omega)
def RUs (D : Nat → Prop) (h : zH) (A : Int → Int) (U : Int → Option Nat) (Q : Int → List zKl) : Prop := ∀ a, 0 ≤ a → a < A 64 → RU D h (U a) (Q a)
theorem RUs_fw {s : Nat} {h h1 : zH} (hD : ∀ q, D q → q < ws ∨ ws + 153 ≤ q) (hr : RUs D h A U Q) (p : fw ws s h h1) : RUs D h1 A U Q := fun a g1 g2 => RU_mono (fun q hq => ⟨hq, by have := hD q hq; exact p q (by omega) (by omega)⟩) (hr a g1 g2)
theorem hd_t (ht : 0 ≤ t ∧ t ≤ 7) (ha : 0 ≤ a ∧ a ≤ 2) (X : Int → Int) (w : Int) : hd X a w (490 + 4 * t) = X (490 + 4 * t) := uI_n _ _ (by omega)
/-- ticks until it is eaten, or all are done -/
theorem C_wt (hg : good A Q A) (ha : 0 ≤ a ∧ a < A 64) (ht : 0 ≤ t ∧ t < A 65) (hts : tS < ws ∨ ws + 153 ≤ tS) (hD : ∀ q, D q → q < ws ∨ ws + 153 ≤ q) {om : Nat → Int} (hom : ∀ k, 0 ≤ om k ∧ om k ≤ 3) {k0 : Nat} {w : Int} (hw : ∀ k, k0 ≤ k → om k = w) {i : Nat} (hi : 1 ≤ i ∧ i ≤ 4) {T : Nat} (hT : T ≤ 20) (rec : Option Nat → Int32 → Int32 → zH → Option (Int32 × zH)) (x1 x2 x3 x4 x5 : Int32) {x z : Int32} {g : Nat → Int32} : ∀ (d j : Nat) (h : zH) (F : Nat → Nat → Int32), j + d = T → hST h tS → RUs D h A U Q → WSAt h ws x (iI t) z g → SR h (ws + 3 + 30 * i) (hd (XW A Q a om (k0 + j)) a w) U F → (∀ q, q < j → XW A Q a om (k0 + q) (490 + 4 * t) ≠ 2) →
    ∃ h' F' j', (∀ y, f_X9_isEatenBy_b172 tS rec (some ws) x1 x2 x3 x4 x5 (some (ws + 3 + 30 * i)) h' = some y → f_X9_isEatenBy_b137 tS rec (some ws) x1 x2 x3 x4 x5 (some (ws + 3 + 30 * i)) (iI (T : Int)) (iI (j : Int)) h = some y) ∧ SR h' (ws + 3 + 30 * i) (hd (XW A Q a om (k0 + j')) a w) U F' ∧ fr (ws + 3 + 30 * i) 30 h h' ∧ j' ≤ T ∧ (j' = T ∨ XW A Q a om (k0 + j') (490 + 4 * t) = 2) ∧ ∀ q, q < j' → XW A Q a om (k0 + q) (490 + 4 * t) ≠ 2 := by
  have hN := hg.1.n
  intro d
  induction d with
  | zero =>
    intro j h F hj hST0 hRU hWS hS hno
    refine ⟨h, F, j, fun y hy => ?_, hS, fr_rf _ _ _, by omega, Or.inl (by omega), hno⟩
    unfold f_X9_isEatenBy_b137
    refine z_it_done ?_
    show f_X9_isEatenBy_c137 tS rec (some ws) x1 x2 x3 x4 x5 (some (ws + 3 + 30 * i)) (iI (T : Int)) (iI (j : Int)) h = _
    unfold f_X9_isEatenBy_c137
    rw [if_pos (cLe (by omega)), hy]; rfl
  | succ d ih =>
    intro j h F hj hST0 hRU hWS hS hno
    obtain ⟨S, s1, s2⟩ := id hS
    have gk := good_XW (a := a) hg (by omega) hom (k0 + j)
    have hwr : 0 ≤ w ∧ w ≤ 3 := by rw [← hw k0 (Nat.le_refl _)]; exact hom k0
    have gh := good_hd gk (show 0 ≤ a ∧ a ≤ 2 by omega) hwr
    have e65 := gh.2.2.1
    have wt := (gh.1.t (t := t) (by omega)).1
    have et : hd (XW A Q a om (k0 + j)) a w (490 + 4 * t) = XW A Q a om (k0 + j) (490 + 4 * t) := hd_t (by omega) (by omega) _ _
    rw [et] at wt
    have hv1 := s2.v1 t ht.1 (by omega)
    rw [et] at hv1
    have pre : f_X9_isEatenBy_c137 tS rec (some ws) x1 x2 x3 x4 x5 (some (ws + 3 + 30 * i)) (iI (T : Int)) (iI (j : Int)) h = (if iI (XW A Q a om (k0 + j) (490 + 4 * t)) = iI 2 then z_i1 (f_X9_isEatenBy_b172 tS rec (some ws) x1 x2 x3 x4 x5 (some (ws + 3 + 30 * i)) h) else (f_X6_tick tS (some (ws + 3 + 30 * i)) h).bind fun h6 => some (Sum.inl (some ws, x1, x2, x3, x4, x5, some (ws + 3 + 30 * i), iI (T : Int), iI ((j : Int) + 1), h6))) := by
      unfold f_X9_isEatenBy_c137
      simp only [iI_lit, iI_add, iI_sub, iI_mul, iI_neg]
      rw [if_neg (nLe (by omega)), Sg5 s1, Option.bind_some, WS3 hWS, Option.bind_some, Sthg s1 (by omega) (by omega), Option.bind_some, Tv1 s1 (by omega), Option.bind_some, hv1, Sck s1, Option.bind_some]
    by_cases e : XW A Q a om (k0 + j) (490 + 4 * t) = 2
    · refine ⟨h, F, j, fun y hy => ?_, hS, fr_rf _ _ _, by omega, Or.inr e, hno⟩
      unfold f_X9_isEatenBy_b137
      refine z_it_done (s := (some ws, x1, x2, x3, x4, x5, some (ws + 3 + 30 * i), iI (T : Int), iI (j : Int), h)) ?_
      rw [pre, if_pos (cEq e), hy]; rfl
    · obtain ⟨h1, F1, u1, u2, u3⟩ := C_tick (D := D) (Q := Q) hST0 (by omega) (fun q hq => by have := hD q hq; omega) hS gh.1 (fun a' g1 g2 => by
        have h64 := gh.2.1
        have tx := TX_vK (gh.2.2.2 a' g1 (by omega))
        exact ⟨hRU a' g1 (by omega), tx⟩)
      have e1 : tickA (hd (XW A Q a om (k0 + j)) a w) Q = XW A Q a om (k0 + (j + 1)) := by
        show _ = tickA (hd (XW A Q a om (k0 + j)) a (om (k0 + j))) Q
        rw [hw (k0 + j) (by omega)]
      have e2 : hd (XW A Q a om (k0 + (j + 1))) a w = XW A Q a om (k0 + (j + 1)) := by
        rw [← e1]; exact hd_same (by omega) gk w hwr
      rw [e1, ← e2] at u2
      obtain ⟨h2, F2, j2, v1, v2, v3, v4⟩ := ih (j + 1) h1 F1 (by omega) (hST_fr hST0 (by omega) u3) (fun a' g1 g2 => RU_mono (fun q hq => ⟨hq, by have := hD q hq; exact u3 q (by omega)⟩) (hRU a' g1 g2)) (WSAt_fr hWS (fun q q1 q2 => u3 q (by omega))) u2 (fun q hq => by
        by_cases q2 : q = j
        · subst q2; exact e
        · exact hno q (by omega))
      refine ⟨h2, F2, j2, fun y hy => ?_, v2, fr_tr u3 v3, v4⟩
      rw [← v1 y hy]
      unfold f_X9_isEatenBy_b137
      refine z_it_next (s := (some ws, x1, x2, x3, x4, x5, some (ws + 3 + 30 * i), iI (T : Int), iI (j : Int), h)) ?_
      rw [pre, if_neg (nEq (by omega)), u1, Option.bind_some]
      rfl
end CW
