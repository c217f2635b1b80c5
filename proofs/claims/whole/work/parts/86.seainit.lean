theorem z_sA_k {h : zH} {kd a n q c : Nat} {f : Nat → Option Nat} {fs : List zTV} {e : Int} (hh : h a = .inl (kd, n, .inr (.inr f))) (hq : h q = .inr (c, fs)) (hk : 4 ≤ kd ∧ kd ≤ 8) (hc : c = z_kc kd) (h1 : 0 ≤ e) (h2 : e < n) (h3 : (n : Int) < 2147483648) : z_sA h (some a) (iI e) (some q) = some (z_up h a (.inl (kd, n, .inr (.inr (va_up f e.toNat (some q)))))) := by
  unfold z_sA
  simp only [Option.bind_some, hh, hq]
  rw [if_pos ⟨⟨hk, hc⟩, iI_inb h1 h2 h3⟩, iI_cl h1 (by omega)]
theorem C_X0_init {h : zH} {x nx z : Nat} (hx : h x = .inr (0, [tI 0, tI 0, tI 0, tA none, tA none, tA none, tA none, tA none, tA none])) (hlt : x < nx) :
    ∃ h', f_X0_init (some x) h nx z = some ((nx + 5, z + 35), h') ∧ h' x = .inr (0, [tI 0, tI 0, tI 0, tA none, tA (some (nx + 0)), tA (some (nx + 1)), tA (some (nx + 2)), tA (some (nx + 3)), tA (some (nx + 4))]) ∧ (∀ j, j < 5 → h' (nx + j) = .inl (0, 7, .inl (fun _ => 0))) ∧ ∀ q, q ≠ x → (q < nx ∨ nx + 5 ≤ q) → h' q = h q := by
  have a1 : z_up h nx (.inl (0, 7, .inl (fun _ => 0))) x = .inr (0, [tI 0, tI 0, tI 0, tA none, tA none, tA none, tA none, tA none, tA none]) := by rw [z_up_n _ _ (by omega)]; exact hx
  obtain ⟨g1, e1⟩ : ∃ g, g = z_up (z_up h nx (.inl (0, 7, .inl (fun _ => 0)))) x (.inr (0, [tI 0, tI 0, tI 0, tA none, tA (some nx), tA none, tA none, tA none, tA none])) := ⟨_, rfl⟩
  have p1 : z_pF (z_up h nx (.inl (0, 7, .inl (fun _ => 0)))) 0 4 (some x) (tA (some nx)) = some g1 := by rw [z_pF_k a1 (Nat.le_of_ble_eq_true rfl), e1]; rfl
  have a2 : z_up g1 (nx + 1) (.inl (0, 7, .inl (fun _ => 0))) x = .inr (0, [tI 0, tI 0, tI 0, tA none, tA (some nx), tA none, tA none, tA none, tA none]) := by rw [z_up_n _ _ (by omega), e1, z_up_s]
  obtain ⟨g2, e2⟩ : ∃ g, g = z_up (z_up g1 (nx + 1) (.inl (0, 7, .inl (fun _ => 0)))) x (.inr (0, [tI 0, tI 0, tI 0, tA none, tA (some nx), tA (some (nx + 1)), tA none, tA none, tA none])) := ⟨_, rfl⟩
  have p2 : z_pF (z_up g1 (nx + 1) (.inl (0, 7, .inl (fun _ => 0)))) 0 5 (some x) (tA (some (nx + 1))) = some g2 := by rw [z_pF_k a2 (Nat.le_of_ble_eq_true rfl), e2]; rfl
  have a3 : z_up g2 (nx + 1 + 1) (.inl (0, 7, .inl (fun _ => 0))) x = .inr (0, [tI 0, tI 0, tI 0, tA none, tA (some nx), tA (some (nx + 1)), tA none, tA none, tA none]) := by rw [z_up_n _ _ (by omega), e2, z_up_s]
  obtain ⟨g3, e3⟩ : ∃ g, g = z_up (z_up g2 (nx + 1 + 1) (.inl (0, 7, .inl (fun _ => 0)))) x (.inr (0, [tI 0, tI 0, tI 0, tA none, tA (some nx), tA (some (nx + 1)), tA (some (nx + 1 + 1)), tA none, tA none])) := ⟨_, rfl⟩
  have p3 : z_pF (z_up g2 (nx + 1 + 1) (.inl (0, 7, .inl (fun _ => 0)))) 0 6 (some x) (tA (some (nx + 1 + 1))) = some g3 := by rw [z_pF_k a3 (Nat.le_of_ble_eq_true rfl), e3]; rfl
  have a4 : z_up g3 (nx + 1 + 1 + 1) (.inl (0, 7, .inl (fun _ => 0))) x = .inr (0, [tI 0, tI 0, tI 0, tA none, tA (some nx), tA (some (nx + 1)), tA (some (nx + 1 + 1)), tA none, tA none]) := by rw [z_up_n _ _ (by omega), e3, z_up_s]
  obtain ⟨g4, e4⟩ : ∃ g, g = z_up (z_up g3 (nx + 1 + 1 + 1) (.inl (0, 7, .inl (fun _ => 0)))) x (.inr (0, [tI 0, tI 0, tI 0, tA none, tA (some nx), tA (some (nx + 1)), tA (some (nx + 1 + 1)), tA (some (nx + 1 + 1 + 1)), tA none])) := ⟨_, rfl⟩
  have p4 : z_pF (z_up g3 (nx + 1 + 1 + 1) (.inl (0, 7, .inl (fun _ => 0)))) 0 7 (some x) (tA (some (nx + 1 + 1 + 1))) = some g4 := by rw [z_pF_k a4 (Nat.le_of_ble_eq_true rfl), e4]; rfl
  have a5 : z_up g4 (nx + 1 + 1 + 1 + 1) (.inl (0, 7, .inl (fun _ => 0))) x = .inr (0, [tI 0, tI 0, tI 0, tA none, tA (some nx), tA (some (nx + 1)), tA (some (nx + 1 + 1)), tA (some (nx + 1 + 1 + 1)), tA none]) := by rw [z_up_n _ _ (by omega), e4, z_up_s]
  have p5 := z_pF_k (k := 8) (v := tA (some (nx + 1 + 1 + 1 + 1))) a5 (Nat.le_of_ble_eq_true rfl)
  refine ⟨z_up (z_up g4 (nx + 1 + 1 + 1 + 1) (.inl (0, 7, .inl (fun _ => 0)))) x (.inr (0, [tI 0, tI 0, tI 0, tA none, tA (some (nx + 0)), tA (some (nx + 1)), tA (some (nx + 2)), tA (some (nx + 3)), tA (some (nx + 4))])), ?_, z_up_s _ _ _, fun j hj => ?_, fun q h1 h2 => ?_⟩
  · unfold f_X0_init
    rw [Option.bind_some]
    unfold f_X0_init_b9
    rw [p1, Option.bind_some]
    unfold f_X0_init_b17
    rw [p2, Option.bind_some]
    unfold f_X0_init_b25
    rw [p3, Option.bind_some]
    unfold f_X0_init_b33
    rw [p4, Option.bind_some]
    unfold f_X0_init_b41
    rw [p5, Option.bind_some]
    rfl
  · rw [z_up_n _ _ (by omega)]
    rcases (show j = 0 ∨ j = 1 ∨ j = 2 ∨ j = 3 ∨ j = 4 by omega) with rfl | rfl | rfl | rfl | rfl
    · rw [z_up_n _ _ (by omega), e4, z_up_n _ _ (by omega), z_up_n _ _ (by omega), e3, z_up_n _ _ (by omega), z_up_n _ _ (by omega), e2, z_up_n _ _ (by omega), z_up_n _ _ (by omega), e1, z_up_n _ _ (by omega)]; exact z_up_s _ _ _
    · rw [z_up_n _ _ (by omega), e4, z_up_n _ _ (by omega), z_up_n _ _ (by omega), e3, z_up_n _ _ (by omega), z_up_n _ _ (by omega), e2, z_up_n _ _ (by omega)]; exact z_up_s _ _ _
    · rw [z_up_n _ _ (by omega), e4, z_up_n _ _ (by omega), z_up_n _ _ (by omega), e3, z_up_n _ _ (by omega)]; exact z_up_s _ _ _
    · rw [z_up_n _ _ (by omega), e4, z_up_n _ _ (by omega)]; exact z_up_s _ _ _
    · exact z_up_s _ _ _
  · rw [z_up_n _ _ h1, z_up_n _ _ (by omega), e4, z_up_n _ _ h1, z_up_n _ _ (by omega), e3, z_up_n _ _ h1, z_up_n _ _ (by omega), e2, z_up_n _ _ h1, z_up_n _ _ (by omega), e1, z_up_n _ _ h1, z_up_n _ _ (by omega)]
def S00 : zS := (0, 0, fun _ => 0, fun k => if k = 7 then 3 else 0, fun _ _ => 0, fun _ => none, fun _ _ _ => 0, fun _ _ => 0)
/-- a sea half built: i arms, k things -/
def SP (h : zH) (b i k : Nat) : Prop :=
  h b = c0 b S00 ∧ h (b + 1) = .inl (3, 4, .inr (.inl (fun _ => 0))) ∧ h (b + 2) = .inl (4, 3, .inr (.inr (fun j => if j < i then some (b + 4 + 6 * j) else none))) ∧ h (b + 3) = .inl (5, 8, .inr (.inr (fun j => if j < k then some (b + 22 + j) else none))) ∧
  (∀ j, j < i → h (b + 4 + 6 * j) = cA b j S00) ∧ (∀ j l, j < i → l < 5 → h (b + 5 + 6 * j + l) = .inl (0, 7, .inl (fun _ => 0))) ∧ ∀ j, j < k → h (b + 22 + j) = cT j S00
theorem va_upN (b m : Nat) (g : Nat → Nat) (i : Nat) : va_up (fun j => if j < i then some (g j) else none) i (some (g i)) = fun j => if j < i + 1 then some (g j) else none := by
  funext j
  unfold va_up
  by_cases e : j = i
  · subst e; rw [if_pos rfl, if_pos (by omega)]
  · rw [if_neg e]
    show (if j < i then some (g j) else none) = (if j < i + 1 then some (g j) else none)
    by_cases q : j < i
    · rw [if_pos q, if_pos (by omega)]
    · rw [if_neg q, if_neg (by omega)]
theorem SP_fr {h h' : zH} {b i k : Nat} (hS : SP h b i k) (hf : ∀ q, b ≤ q → q < b + 22 + k → ¬ (b + 4 + 6 * i ≤ q ∧ q < b + 22) → q ≠ b + 2 → q ≠ b + 3 → h' q = h q) (hi : i ≤ 3) (h2 : ∃ f, h' (b + 2) = .inl (4, 3, .inr (.inr f)) ∧ f = (fun j => if j < i then some (b + 4 + 6 * j) else none)) (h3 : ∃ f, h' (b + 3) = .inl (5, 8, .inr (.inr f)) ∧ f = (fun j => if j < k then some (b + 22 + j) else none)) : SP h' b i k := by
  obtain ⟨k1, k2, k3, k4, k5, k6, k7⟩ := hS
  obtain ⟨f2, g2, rfl⟩ := h2
  obtain ⟨f3, g3, rfl⟩ := h3
  refine ⟨by rw [hf _ (by omega) (by omega) (by omega) (by omega) (by omega)]; exact k1, by rw [hf _ (by omega) (by omega) (by omega) (by omega) (by omega)]; exact k2, g2, g3, fun j hj => by rw [hf _ (by omega) (by omega) (by omega) (by omega) (by omega)]; exact k5 j hj, fun j l hj hl => by rw [hf _ (by omega) (by omega) (by omega) (by omega) (by omega)]; exact k6 j l hj hl, fun j hj => by rw [hf _ (by omega) (by omega) (by omega) (by omega) (by omega)]; exact k7 j hj⟩
theorem C_arms {b : Nat} {h0 : zH} {z0 : Nat} : ∀ (d i : Nat) (h : zH), i + d = 3 → SP h b i 0 → (∀ q, q < b ∨ b + 30 ≤ q → h q = h0 q) → (∀ h' , SP h' b 3 0 → (∀ q, q < b ∨ b + 30 ≤ q → h' q = h0 q) → ∃ h2, f_X6_init_b65 (some b) (iI 0) h' (b + 22) (z0 + 132) = some ((b + 30, z0 + 172), h2) ∧ SP h2 b 3 8 ∧ ∀ q, q < b ∨ b + 30 ≤ q → h2 q = h0 q) →
    ∃ h2, f_X6_init_b35 (some b) (iI (i : Int)) h (b + 4 + 6 * i) (z0 + 44 * i) = some ((b + 30, z0 + 172), h2) ∧ SP h2 b 3 8 ∧ ∀ q, q < b ∨ b + 30 ≤ q → h2 q = h0 q
  | 0, i, h, hd, hS, hf, hk => by
    have e : i = 3 := by omega
    subst e
    obtain ⟨h2, k1, k2, k3⟩ := hk h hS hf
    refine ⟨h2, ?_, k2, k3⟩
    refine z_it_done ?_
    show (f_X6_init_c35 (some b) (iI ((3 : Nat) : Int)) h (b + 4 + 6 * 3) (z0 + 44 * 3)).map z_ds = _
    unfold f_X6_init_c35
    have l2 : z_len h (some (b + 2)) = some (iI ((3 : Nat) : Int)) := z_len_o hS.2.2.1 (by omega)
    have g3 : z_gA h 6 3 (some b) = some (some (b + 2)) := z_gA_k hS.1 rfl
    simp only [iI_lit, iI_add, iI_sub, iI_mul, iI_neg]
    rw [g3, Option.bind_some, l2, Option.bind_some, if_pos (Int32.le_refl _), show b + 4 + 6 * 3 = b + 22 by omega, show z0 + 44 * 3 = z0 + 132 by omega, k1]
    rfl
  | d + 1, i, h, hd, hS, hf, hk => by
    obtain ⟨s1, s2, s3, s4, s5, s6, s7⟩ := id hS
    have g3 : z_gA h 6 3 (some b) = some (some (b + 2)) := z_gA_k s1 rfl
    have l2 : z_len h (some (b + 2)) = some (iI ((3 : Nat) : Int)) := z_len_o s3 (by omega)
    obtain ⟨h1, k1, k2, k3, k4⟩ := C_X0_init (h := z_up h (b + 4 + 6 * i) (.inr (0, [tI 0, tI 0, tI 0, tA none, tA none, tA none, tA none, tA none, tA none]))) (x := b + 4 + 6 * i) (nx := b + 4 + 6 * i + 1) (z := z0 + 44 * i + 9) (z_up_s _ _ _) (by omega)
    have o1 : ∀ q, (q < b + 4 + 6 * i ∨ b + 4 + 6 * i + 6 ≤ q) → h1 q = h q := fun q hq => by rw [k4 q (by omega) (by omega), z_up_n _ _ (by omega)]
    have a2 : h1 (b + 2) = .inl (4, 3, .inr (.inr (fun j => if j < i then some (b + 4 + 6 * j) else none))) := by rw [o1 _ (by omega)]; exact s3
    have w := z_sA_k (e := (i : Int)) a2 k2 (by omega) rfl (by omega) (by omega) (by decide)
    rw [show ((i : Int)).toNat = i by omega, va_upN b 0 (fun j => b + 4 + 6 * j) i] at w
    have S2 : SP (z_up h1 (b + 2) (.inl (4, 3, .inr (.inr (fun j => if j < i + 1 then some (b + 4 + 6 * j) else none))))) b (i + 1) 0 := by
      refine ⟨by rw [z_up_n _ _ (by omega), o1 _ (by omega)]; exact s1, by rw [z_up_n _ _ (by omega), o1 _ (by omega)]; exact s2, z_up_s _ _ _, by rw [z_up_n _ _ (by omega), o1 _ (by omega)]; exact s4, fun j hj => ?_, fun j l hj hl => ?_, fun j hj => absurd hj (by omega)⟩
      · rw [z_up_n _ _ (by omega)]
        by_cases e : j = i
        · subst e; rw [k2]; unfold cA
          rw [show b + 4 + 6 * j + 1 = b + 5 + 6 * j by omega]; rfl
        · rw [o1 _ (by omega)]; exact s5 j (by omega)
      · rw [z_up_n _ _ (by omega)]
        by_cases e : j = i
        · subst e; rw [show b + 5 + 6 * j + l = b + 4 + 6 * j + 1 + l by omega]; exact k3 l hl
        · rw [o1 _ (by omega)]; exact s6 j l (by omega) hl
    obtain ⟨h2, q1, q2, q3⟩ := C_arms d (i + 1) _ (by omega) S2 (fun q hq => by rw [z_up_n _ _ (by omega), o1 _ (by omega)]; exact hf q hq) hk
    refine ⟨h2, ?_, q2, q3⟩
    rw [← q1]
    refine z_it_next ?_
    show (f_X6_init_c35 (some b) (iI (i : Int)) h (b + 4 + 6 * i) (z0 + 44 * i)).map z_ds = _
    unfold f_X6_init_c35
    have n1 : iI (i : Int) + (1 : Int32) = iI ((i + 1 : Nat) : Int) := by rw [iI_lit, iI_add]; rfl
    rw [g3, Option.bind_some, l2, Option.bind_some, if_neg (nLe (by omega)), Option.bind_some]
    unfold f_X6_init_b52 f_X6_init_b56
    rw [Option.bind_some, k1, Option.bind_some, n1]
    rw [w, Option.bind_some, show b + 4 + 6 * i + 1 + 5 = b + 4 + 6 * (i + 1) by omega, show z0 + 44 * i + 9 + 35 = z0 + 44 * (i + 1) by omega]
    rfl
theorem C_thgs {b : Nat} {h0 : zH} {z0 : Nat} : ∀ (d k : Nat) (h : zH), k + d = 8 → SP h b 3 k → (∀ q, q < b ∨ b + 30 ≤ q → h q = h0 q) → ∃ h2, f_X6_init_b65 (some b) (iI (k : Int)) h (b + 22 + k) (z0 + 132 + 5 * k) = some ((b + 30, z0 + 172), h2) ∧ SP h2 b 3 8 ∧ ∀ q, q < b ∨ b + 30 ≤ q → h2 q = h0 q
  | 0, k, h, hd, hS, hf => by
    have e : k = 8 := by omega
    subst e
    refine ⟨h, ?_, hS, hf⟩
    refine z_it_done ?_
    show (f_X6_init_c65 (some b) (iI ((8 : Nat) : Int)) h (b + 22 + 8) (z0 + 132 + 5 * 8)).map z_ds = _
    unfold f_X6_init_c65
    have l3 : z_len h (some (b + 3)) = some (iI ((8 : Nat) : Int)) := z_len_o hS.2.2.2.1 (by omega)
    have g5 : z_gA h 6 5 (some b) = some (some (b + 3)) := z_gA_k hS.1 rfl
    rw [g5, Option.bind_some, l3, Option.bind_some, if_pos (Int32.le_refl _), show b + 22 + 8 = b + 30 by omega, show z0 + 132 + 5 * 8 = z0 + 172 by omega]
    rfl
  | d + 1, k, h, hd, hS, hf => by
    obtain ⟨s1, s2, s3, s4, s5, s6, s7⟩ := id hS
    have g5 : z_gA h 6 5 (some b) = some (some (b + 3)) := z_gA_k s1 rfl
    have l3 : z_len h (some (b + 3)) = some (iI ((8 : Nat) : Int)) := z_len_o s4 (by omega)
    have a3 : z_up h (b + 22 + k) (.inr (8, [tI 0, tI 0, tI 0, tI 0, tI 0])) (b + 3) = .inl (5, 8, .inr (.inr (fun j => if j < k then some (b + 22 + j) else none))) := by rw [z_up_n _ _ (by omega)]; exact s4
    have w := z_sA_k (e := (k : Int)) (q := b + 22 + k) a3 (z_up_s _ _ _) (by omega) rfl (by omega) (by omega) (by decide)
    rw [show ((k : Int)).toNat = k by omega, va_upN b 0 (fun j => b + 22 + j) k] at w
    have S2 : SP (z_up (z_up h (b + 22 + k) (.inr (8, [tI 0, tI 0, tI 0, tI 0, tI 0]))) (b + 3) (.inl (5, 8, .inr (.inr (fun j => if j < k + 1 then some (b + 22 + j) else none))))) b 3 (k + 1) := by
      refine ⟨by rw [z_up_n _ _ (by omega), z_up_n _ _ (by omega)]; exact s1, by rw [z_up_n _ _ (by omega), z_up_n _ _ (by omega)]; exact s2, by rw [z_up_n _ _ (by omega), z_up_n _ _ (by omega)]; exact s3, z_up_s _ _ _, fun j hj => by rw [z_up_n _ _ (by omega), z_up_n _ _ (by omega)]; exact s5 j hj, fun j l hj hl => by rw [z_up_n _ _ (by omega), z_up_n _ _ (by omega)]; exact s6 j l hj hl, fun j hj => ?_⟩
      rw [z_up_n _ _ (by omega)]
      by_cases e : j = k
      · subst e; rw [z_up_s]; rfl
      · rw [z_up_n _ _ (by omega)]; exact s7 j (by omega)
    obtain ⟨h2, q1, q2, q3⟩ := C_thgs (h0 := h0) (z0 := z0) d (k + 1) _ (by omega) S2 (fun q hq => by rw [z_up_n _ _ (by omega), z_up_n _ _ (by omega)]; exact hf q hq)
    refine ⟨h2, ?_, q2, q3⟩
    rw [← q1]
    refine z_it_next ?_
    show (f_X6_init_c65 (some b) (iI (k : Int)) h (b + 22 + k) (z0 + 132 + 5 * k)).map z_ds = _
    unfold f_X6_init_c65
    rw [g5, Option.bind_some, l3, Option.bind_some, if_neg (nLe (by omega)), Option.bind_some]
    unfold f_X6_init_b82 f_X8_init
    have n1 : iI (k : Int) + (1 : Int32) = iI ((k + 1 : Nat) : Int) := by rw [iI_lit, iI_add]; rfl
    rw [Option.bind_some, Option.bind_some, Option.bind_some, n1, w, Option.bind_some, show b + 22 + k + 1 = b + 22 + (k + 1) by omega, show z0 + 132 + 5 * k + 5 = z0 + 132 + 5 * (k + 1) by omega]
    rfl
/-- a new sea -/
theorem C_seaNew {b z : Nat} {h : zH} (hb : h b = .inr (6, [tJ 0, tJ 0, tA none, tA none, tI 0, tA none, tI 0, tI 0, tI 0])) : ∃ h', f_X6_init (some b) h (b + 1) z = some ((b + 30, z + 187), h') ∧ SAt h' b S00 ∧ ∀ q, q < b ∨ b + 30 ≤ q → h' q = h q := by
  have a1 : z_up h (b + 1) (.inl (3, 4, .inr (.inl (fun _ => 0)))) b = .inr (6, [tJ 0, tJ 0, tA none, tA none, tI 0, tA none, tI 0, tI 0, tI 0]) := by rw [z_up_n _ _ (by omega)]; exact hb
  obtain ⟨g1, e1⟩ : ∃ g, g = z_up (z_up h (b + 1) (.inl (3, 4, .inr (.inl (fun _ => 0))))) b (.inr (6, [tJ 0, tJ 0, tA (some (b + 1)), tA none, tI 0, tA none, tI 0, tI 0, tI 0])) := ⟨_, rfl⟩
  have p1 : z_pF (z_up h (b + 1) (.inl (3, 4, .inr (.inl (fun _ => 0))))) 6 2 (some b) (tA (some (b + 1))) = some g1 := by rw [z_pF_k a1 (Nat.le_of_ble_eq_true rfl), e1]; rfl
  have a2 : z_up g1 (b + 1 + 1) (.inl (4, 3, .inr (.inr (fun _ => none)))) b = .inr (6, [tJ 0, tJ 0, tA (some (b + 1)), tA none, tI 0, tA none, tI 0, tI 0, tI 0]) := by rw [z_up_n _ _ (by omega), e1, z_up_s]
  obtain ⟨g2, e2⟩ : ∃ g, g = z_up (z_up g1 (b + 1 + 1) (.inl (4, 3, .inr (.inr (fun _ => none))))) b (.inr (6, [tJ 0, tJ 0, tA (some (b + 1)), tA (some (b + 1 + 1)), tI 0, tA none, tI 0, tI 0, tI 0])) := ⟨_, rfl⟩
  have p2 : z_pF (z_up g1 (b + 1 + 1) (.inl (4, 3, .inr (.inr (fun _ => none))))) 6 3 (some b) (tA (some (b + 1 + 1))) = some g2 := by rw [z_pF_k a2 (Nat.le_of_ble_eq_true rfl), e2]; rfl
  have a3 : z_up g2 (b + 1 + 1 + 1) (.inl (5, 8, .inr (.inr (fun _ => none)))) b = .inr (6, [tJ 0, tJ 0, tA (some (b + 1)), tA (some (b + 1 + 1)), tI 0, tA none, tI 0, tI 0, tI 0]) := by rw [z_up_n _ _ (by omega), e2, z_up_s]
  obtain ⟨g3, e3⟩ : ∃ g, g = z_up (z_up g2 (b + 1 + 1 + 1) (.inl (5, 8, .inr (.inr (fun _ => none))))) b (.inr (6, [tJ 0, tJ 0, tA (some (b + 1)), tA (some (b + 1 + 1)), tI 0, tA (some (b + 1 + 1 + 1)), tI 0, tI 0, tI 0])) := ⟨_, rfl⟩
  have p3 : z_pF (z_up g2 (b + 1 + 1 + 1) (.inl (5, 8, .inr (.inr (fun _ => none))))) 6 5 (some b) (tA (some (b + 1 + 1 + 1))) = some g3 := by rw [z_pF_k a3 (Nat.le_of_ble_eq_true rfl), e3]; rfl
  have a4 : g3 b = .inr (6, [tJ 0, tJ 0, tA (some (b + 1)), tA (some (b + 1 + 1)), tI 0, tA (some (b + 1 + 1 + 1)), tI 0, tI 0, tI 0]) := by rw [e3, z_up_s]
  have p4 : z_pF g3 6 7 (some b) (tI (iI 3)) = some (z_up g3 b (c0 b S00)) := by rw [z_pF_k a4 (Nat.le_of_ble_eq_true rfl)]; rfl
  have o : ∀ q, q ≠ b → q ≠ b + 1 → q ≠ b + 2 → q ≠ b + 3 → z_up g3 b (c0 b S00) q = h q := fun q h1 h2 h3 h4 => by rw [z_up_n _ _ h1, e3, z_up_n _ _ h1, z_up_n _ _ (by omega), e2, z_up_n _ _ h1, z_up_n _ _ (by omega), e1, z_up_n _ _ h1, z_up_n _ _ h2]
  have S0 : SP (z_up g3 b (c0 b S00)) b 0 0 := by
    refine ⟨z_up_s _ _ _, ?_, ?_, ?_, fun j hj => absurd hj (by omega), fun j l hj => absurd hj (by omega), fun j hj => absurd hj (by omega)⟩
    · rw [z_up_n _ _ (by omega), e3, z_up_n _ _ (by omega), z_up_n _ _ (by omega), e2, z_up_n _ _ (by omega), z_up_n _ _ (by omega), e1, z_up_n _ _ (by omega), z_up_s]
    · rw [z_up_n _ _ (by omega), e3, z_up_n _ _ (by omega), z_up_n _ _ (by omega), e2, z_up_n _ _ (by omega), z_up_s]
      congr 5
    · rw [z_up_n _ _ (by omega), e3, z_up_n _ _ (by omega), z_up_s]
      congr 5
  obtain ⟨h2, q1, q2, q3⟩ := C_arms (b := b) (h0 := h) (z0 := z + 15) 3 0 _ (by omega) S0 (fun q hq => o q (by omega) (by omega) (by omega) (by omega)) (fun h' k1 k2 => C_thgs (z0 := z + 15) 8 0 h' (by omega) k1 k2)
  refine ⟨h2, ?_, ⟨q2.1, q2.2.1, q2.2.2.1, q2.2.2.2.1, q2.2.2.2.2.1, q2.2.2.2.2.2.1, q2.2.2.2.2.2.2⟩, q3⟩
  unfold f_X6_init
  rw [Option.bind_some]
  unfold f_X6_init_b8
  rw [p1, Option.bind_some]
  unfold f_X6_init_b16
  rw [p2, Option.bind_some]
  unfold f_X6_init_b25
  rw [p3, Option.bind_some]
  simp only [iI_lit, iI_add, iI_sub, iI_mul, iI_neg]
  rw [p4, Option.bind_some]
  exact q1
