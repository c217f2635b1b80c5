section AT
variable {A : Int → Int} {U : Int → Option Nat} {tS X m : Nat}
theorem R_armL {h : zH} {Y : Nat → Nat → Int32} {N f : Nat} {c : Int} (hW : WF A) (hN : 2 ≤ N ∧ N ≤ 7) (hf : f < 4096) (hc : 0 ≤ c ∧ c < 64) (hM : MR h m A Y) :
    ∃ r h' A' Y', f_X11_arm_b48 (some m) (iI (N : Int)) (iI (f : Int)) (iI c) (iI 0) h = some (r, h') ∧ MR h' m A' Y' ∧ kG Y Y' ∧ fr m 19 h h' ∧ (((¬ ∀ j, j < N → okp A c f j) ∧ r = iI (-2) ∧ A' = A) ∨ ((∀ j, j < N → okp A c f j) ∧ ¬ A 64 < 3 ∧ r = iI (-3) ∧ A' = A) ∨ ((∀ j, j < N → okp A c f j) ∧ A 64 < 3 ∧ r = iI (A 64) ∧ A' = arA A (N : Int) c f)) := by
  have hn := hW.n
  have key := z_forI (body := fun s : (Option Nat) × Int32 × Int32 × Int32 × Int32 × zH => f_X11_arm_c48 s.1 s.2.1 s.2.2.1 s.2.2.2.1 s.2.2.2.2.1 s.2.2.2.2.2) (Q := fun r => ∃ A' Y', MR r.2 m A' Y' ∧ kG Y Y' ∧ fr m 19 h r.2 ∧ (((¬ ∀ j, j < N → okp A c f j) ∧ r.1 = iI (-2) ∧ A' = A) ∨ ((∀ j, j < N → okp A c f j) ∧ ¬ A 64 < 3 ∧ r.1 = iI (-3) ∧ A' = A) ∨ ((∀ j, j < N → okp A c f j) ∧ A 64 < 3 ∧ r.1 = iI (A 64) ∧ A' = arA A (N : Int) c f)))
    (fun i s => ∃ h1 Y1, s = (some m, iI (N : Int), iI (f : Int), iI (pth c f (i - 1)), iI (i : Int), h1) ∧ MR h1 m A Y1 ∧ kG Y Y1 ∧ fr m 19 h h1 ∧ (∀ j, j < i → Y1 9 j = iI (pth c f j)) ∧ ∀ j, j < i → okp A c f j) N ?_ ?_ N 0 (some m, iI (N : Int), iI (f : Int), iI c, iI 0, h) (by omega) ⟨h, Y, rfl, hM, kG_rf _, fr_rf _ _ _, fun j hj => absurd hj (by omega), fun j hj => absurd hj (by omega)⟩
  · obtain ⟨r, k1, A', Y', k2⟩ := key
    exact ⟨r.1, r.2, A', Y', k1, k2⟩
  · rintro i s hi ⟨h1, Y1, rfl, k1, k2, k3, k4, k5⟩
    have pr := pth_rg (f := f) hc i (fun j hj => (k5 j hj).1.1)
    have e1 : f_X11_arm_c48 (some m) (iI (N : Int)) (iI (f : Int)) (iI (pth c f (i - 1))) (iI (i : Int)) h1 = f_X11_arm_b80 (some m) (iI (N : Int)) (iI (f : Int)) (iI (i : Int)) (iI (pth c f i)) h1 := by
      unfold f_X11_arm_c48
      simp only [iI_lit]
      rw [if_neg (nLe (by omega))]
      cases i with
      | zero => rw [if_pos (cEq (by omega))]
      | succ k =>
        have p1 := (k5 k (by omega)).1.1
        have p2 := (pth_rg (f := f) hc k (fun j hj => (k5 j (by omega)).1.1)).2
        have d4 := dgf_lt f k
        rw [if_neg (nEq (by omega)), iI_sub, iI_mul, show (((k + 1 : Nat) : Int) - 1) = (k : Int) by omega, dg4 (by omega) (by omega)]
        show z_b2 (f_X11_beside (iI (pth c f k)) (iI ((dgf f k : Nat) : Int)) h1) _ = _
        rw [R_beside p1 p2 (by omega), z_b2_some]
        rfl
    have e2 : f_X11_arm_b80 (some m) (iI (N : Int)) (iI (f : Int)) (iI (i : Int)) (iI (pth c f i)) h1 = f_X11_arm_b130 (some m) (iI (N : Int)) (iI (f : Int)) (iI (pth c f i)) (iI (i : Int)) (tb (okp A c f i)) h1 := by
      unfold f_X11_arm_b80
      simp only [iI_lit]
      rw [Mck k1.1, Option.bind_some, R_isFree k1 hW pr, z_b2_some]
      exact R_arm0 k1 (by omega) (g := pth c f) (fun j hj => ⟨k4 j hj, by have := (k5 j hj).1.1; omega, (pth_rg (f := f) hc j (fun q hq => (k5 q (by omega)).1.1)).2⟩) (by omega) _ _ _
    show (∃ s', f_X11_arm_c48 (some m) (iI (N : Int)) (iI (f : Int)) (iI (pth c f (i - 1))) (iI (i : Int)) h1 = some (.inl s') ∧ _) ∨ ∃ a, f_X11_arm_c48 (some m) (iI (N : Int)) (iI (f : Int)) (iI (pth c f (i - 1))) (iI (i : Int)) h1 = some (.inr a) ∧ _
    rw [e1, e2]
    unfold f_X11_arm_b130
    simp only [iI_lit, iI_neg]
    rw [ite_tb]
    by_cases q : okp A c f i
    · left
      have M1 := MR_up k1 (k := 9) (by omega) (by omega) (upd (Y1 9) i (iI (pth c f i)))
      have w9 : z_sI h1 (some (m + 9)) (iI (i : Int)) (iI (pth c f i)) = some (z_up h1 (m + 9) (mL m 9 (upd (Y1 9) i (iI (pth c f i))))) := by
        rw [z_sI_k (k1.1 9 (by omega)) (by omega) (by omega) (by decide), show ((i : Int)).toNat = i by omega]; rfl
      rw [if_pos q, Mg9 k1.1, Option.bind_some, w9, Option.bind_some, iI_add]
      refine ⟨_, rfl, _, _, rfl, M1, kG_tr k2 ⟨by rw [updR_n _ _ (by omega)], fun k hk => updR_n _ _ (by omega)⟩, fr_tr k3 (fr_up (by omega) (by omega)), fun j hj => ?_, fun j hj => ?_⟩
      · rw [updR_s]
        by_cases e : j = i
        · subst e; exact pk_us
        · rw [pk_un e]; exact k4 j (by omega)
      · by_cases e : j = i
        · subst e; exact q
        · exact k5 j (by omega)
    · right
      rw [if_neg q]
      exact ⟨(iI (-2), h1), rfl, A, Y1, k1, k2, k3, Or.inl ⟨fun w => q (w i hi), rfl, rfl⟩⟩
  · rintro s ⟨h1, Y1, rfl, k1, k2, k3, k4, k5⟩
    show ∃ a, f_X11_arm_c48 (some m) (iI (N : Int)) (iI (f : Int)) (iI (pth c f (N - 1))) (iI (N : Int)) h1 = some (.inr a) ∧ _
    unfold f_X11_arm_c48
    simp only [iI_lit, iI_neg]
    rw [if_pos (cLe (by omega)), Mg0 k1.1, Option.bind_some, M_all k1 (by omega) (by omega), Option.bind_some, iteEq (by omega)]
    by_cases q : A 64 < 3
    · obtain ⟨h2, w1, Y2, w2, w3, w4⟩ := R_arm1 hN ⟨hn.1.1, q⟩ k4 k1
      rw [if_neg (by omega), w1]
      exact ⟨(iI (A 64), h2), rfl, _, Y2, w2, kG_tr k2 (kG_o1 w3), fr_tr k3 w4, Or.inr (Or.inr ⟨k5, q, rfl, rfl⟩)⟩
    · rw [if_pos (by omega)]
      exact ⟨(iI (-3), h1), rfl, A, Y1, k1, k2, k3, Or.inr (Or.inl ⟨k5, q, rfl, rfl⟩)⟩
def KArm (tS X m : Nat) (U : Int → Option Nat) (A : Int → Int) (fc fR : zH → Option (Int32 × zH)) : Prop :=
  ∃ (r : Int32) (A' : Int → Int) (U' : Int → Option Nat), (∀ h v F g, h X = oX X v → hST h tS → h (X + 193) = .inl (0, 7, .inl g) → SR h (X + 1) A U F → ∃ h' F' g', fc h = some (r, h') ∧ SR h' (X + 1) A' U' F' ∧ h' (X + 193) = .inl (0, 7, .inl g') ∧ ∀ q, (q < X + 1 ∨ X + 31 ≤ q) → q ≠ X + 193 → h' q = h q) ∧ stR m A fR r A' ∧ WF A' ∧
    ((A' = A ∧ U' = U) ∨ (∃ N c f, A' = arA A N c f) ∧ (U' = fun a => if a = A 64 then none else U a) ∧ 0 ≤ A 64 ∧ A 64 < 3)
theorem KArm_no {fc fR : zH → Option (Int32 × zH)} (r : Int32) (hW : WF A) (hc : ∀ h : zH, fc h = some (r, h)) (hr : ∀ h : zH, fR h = some (r, h)) : KArm tS X m U A fc fR :=
  ⟨r, A, U, fun h v F g _ _ hp hS => ⟨h, F, g, hc h, hS, hp, fun _ _ _ => rfl⟩, fun h Y hM => ⟨h, Y, hr h, hM, kG_rf Y, fr_rf _ _ _⟩, hW, Or.inl ⟨rfl, rfl⟩⟩
theorem K_arm (hts : tS < X) (hW : WF A) {x y n f : Int} (hx : rgI x) (hy : rgI y) (hn : rgI n) (hf : rgI f) : KArm tS X m U A (f_X10_arm tS (some X) (iI x) (iI y) (iI n) (iI f)) (f_X11_arm (some m) (iI x) (iI y) (iI n) (iI f)) := by
  have hN := hW.n
  unfold rgI at hn hf
  have eC0 : ∀ h : zH, f_X10_arm tS (some X) (iI x) (iI y) (iI n) (iI f) h = @ite _ ((0 ≤ x ∧ x ≤ 7) ∧ 0 ≤ y ∧ y ≤ 7) (Classical.propDecidable _) (if n < 2 then some (iI (-1), h) else if 7 < n then some (iI (-1), h) else if f < 0 then some (iI (-1), h) else if iI f < iI 1 <<< (iI (2 * (n - 1)) &&& iI 31) then
            (z_gA h 10 0 (some X)).bind fun v5 =>
            (z_gA h 10 8 (some X)).bind fun v8 =>
            (z_ck h 6 v5).bind fun _ =>
            z_b2 (f_X6_canLie tS v5 (iI (8 * y + x)) (iI n) (iI f) v8 h) fun v11 h10 =>
            if v11 = iI 0 then
              some (iI (-2), h10)
            else
              (z_gA h10 10 0 (some X)).bind fun v12 =>
              (z_gI h10 6 4 v12).bind fun v13 =>
              if v13 < iI 3 then
                (z_gA h10 10 0 (some X)).bind fun v14 =>
                (z_gA h10 10 8 (some X)).bind fun v15 =>
                (z_ck h10 6 v14).bind fun _ =>
                (f_X6_addArm v14 v15 (iI n) h10).bind fun h17 =>
                (z_gA h17 10 0 (some X)).bind fun v18 =>
                (z_gI h17 6 4 v18).bind fun v19 =>
                some (v19 - iI 1, h17)
              else
                some (iI (-3), h10)
          else some (iI (-1), h)) (some (iI (-1), h)) := by
    intro h
    unfold f_X10_arm f_X10_formsOf f_X10_cellOf
    rw [C_isCell hx hy, z_b2_some]
    simp only [iI_lit, iI_add, iI_sub, iI_mul, iI_neg, z_b2_some]
    rw [ite_tb, iteLt (by omega), iteLt (by omega), iteLt (by omega)]
  have eR0 : ∀ h : zH, f_X11_arm (some m) (iI x) (iI y) (iI n) (iI f) h = @ite _ ((0 ≤ x ∧ x ≤ 7) ∧ 0 ≤ y ∧ y ≤ 7) (Classical.propDecidable _) (@ite _ (2 ≤ n ∧ n ≤ 7) (Classical.propDecidable _) (z_b2 (f_X11_in (iI f) (iI 0) ((iI 1 <<< (iI (2 * (n - 1)) &&& iI 31)) - iI 1) h) fun v8 h7 => if v8 = iI 0 then some (iI (-1), h7) else f_X11_arm_b48 (some m) (iI n) (iI f) (iI (8 * y + x)) (iI 0) h7) (some (iI (-1), h))) (some (iI (-1), h)) := by
    intro h
    unfold f_X11_arm f_X11_power
    rw [R_isCell hx hy, z_b2_some]
    simp only [iI_lit, iI_add, iI_sub, iI_mul, iI_neg, z_b2_some]
    rw [ite_tb, R_in2 (by omega), z_b2_some, ite_tb]
  by_cases c1 : (0 ≤ x ∧ x ≤ 7) ∧ 0 ≤ y ∧ y ≤ 7
  · by_cases c2 : 2 ≤ n ∧ n ≤ 7
    · obtain ⟨N, rfl⟩ : ∃ N : Nat, n = (N : Int) := ⟨n.toNat, by omega⟩
      have p4 : iI 1 <<< (iI (2 * ((N : Int) - 1)) &&& iI 31) = iI ((4 ^ (N - 1) : Nat) : Int) := by rw [show (N : Int) - 1 = ((N - 1 : Nat) : Int) by omega]; exact pow4 (by omega)
      have l4 : 4 ^ (N - 1) ≤ 4096 := pow_le6 (by omega)
      rw [p4] at eC0 eR0
      obtain ⟨W, hW4⟩ : ∃ W : Nat, W = 4 ^ (N - 1) := ⟨_, rfl⟩
      rw [← hW4] at eC0 eR0 l4
      by_cases c3 : 0 ≤ f ∧ f < (W : Int)
      · obtain ⟨e, rfl⟩ : ∃ e : Nat, f = (e : Int) := ⟨f.toNat, by omega⟩
        obtain ⟨c, hc⟩ : ∃ c, c = 8 * y + x := ⟨_, rfl⟩
        have hc1 : 0 ≤ c ∧ c < 64 := by omega
        rw [← hc] at eC0 eR0
        have eC : ∀ h : zH, f_X10_arm tS (some X) (iI x) (iI y) (iI (N : Int)) (iI (e : Int)) h = 
            (z_gA h 10 0 (some X)).bind fun v5 =>
            (z_gA h 10 8 (some X)).bind fun v8 =>
            (z_ck h 6 v5).bind fun _ =>
            z_b2 (f_X6_canLie tS v5 (iI c) (iI (N : Int)) (iI (e : Int)) v8 h) fun v11 h10 =>
            if v11 = iI 0 then
              some (iI (-2), h10)
            else
              (z_gA h10 10 0 (some X)).bind fun v12 =>
              (z_gI h10 6 4 v12).bind fun v13 =>
              if v13 < iI 3 then
                (z_gA h10 10 0 (some X)).bind fun v14 =>
                (z_gA h10 10 8 (some X)).bind fun v15 =>
                (z_ck h10 6 v14).bind fun _ =>
                (f_X6_addArm v14 v15 (iI (N : Int)) h10).bind fun h17 =>
                (z_gA h17 10 0 (some X)).bind fun v18 =>
                (z_gI h17 6 4 v18).bind fun v19 =>
                some (v19 - iI 1, h17)
              else
                some (iI (-3), h10) := by
          intro h
          rw [eC0 h, if_pos c1, if_neg (by omega), if_neg (by omega), if_neg (by omega), if_pos (cLt (by omega))]
        have eR : ∀ h : zH, f_X11_arm (some m) (iI x) (iI y) (iI (N : Int)) (iI (e : Int)) h = f_X11_arm_b48 (some m) (iI (N : Int)) (iI (e : Int)) (iI c) (iI 0) h := by
          intro h
          rw [eR0 h, if_pos c1, if_pos c2, iI_sub, R_in2 (by omega), z_b2_some, ite_tb, if_pos (by omega)]
        clear eC0 eR0
        have cl : ∀ h v F g, h X = oX X v → hST h tS → h (X + 193) = .inl (0, 7, .inl g) → SR h (X + 1) A U F → ∃ (h1 : zH) (g1 : Nat → Int32) (r : Int32), h1 (X + 193) = .inl (0, 7, .inl g1) ∧ (∀ q, q ≠ X + 193 → h1 q = h q) ∧ f_X6_canLie tS (some (X + 1)) (iI c) (iI (N : Int)) (iI (e : Int)) (some (X + 193)) h = some (r, h1) ∧ z_ck h 6 (some (X + 1)) = some (X + 1) ∧ SR h1 (X + 1) A U F ∧ h1 X = oX X v ∧ ((r = iI 1 ∧ (∀ j, j < N → okp A c e j) ∧ ∀ j, j < N → g1 j = iI (pth c e j)) ∨ (r = iI 0 ∧ ¬ ∀ j, j < N → okp A c e j)) := by
          intro h v F g hX hT hp hS
          obtain ⟨S, s1, s2⟩ := id hS
          obtain ⟨r, h1, g1, k1, k2, k3, k4⟩ := C_canLie hT s1 s2 hW (P := X + 193) (by omega) (by omega) hp (N := N) (f := e) (c := c) (by omega) (by omega) hc1
          exact ⟨h1, g1, r, k2, k3, k1, Sck s1, SR_fr hS (fun q g1 g2 => k3 q (by omega)), by rw [k3 X (by omega)]; exact hX, k4⟩
        by_cases c4 : ∀ j, j < N → okp A c e j
        · by_cases c5 : A 64 < 3
          · refine ⟨iI (A 64), arA A (N : Int) c e, _, fun h v F g hX hT hp hS => ?_, fun h Y hM => ?_, WF_arm hW c5 (by omega) hc1 (fun k hk => c4 k (by omega)), Or.inr ⟨⟨_, _, _, rfl⟩, rfl, hN.1.1, c5⟩⟩
            · obtain ⟨h1, g1, r, k1, k2, k3, k4, k5, k6, k7⟩ := cl h v F g hX hT hp hS
              rcases k7 with ⟨r1, r2, r3⟩ | ⟨r1, r2⟩
              · obtain ⟨S, s1, s2⟩ := id k5
                obtain ⟨h2, w1, w2, w3⟩ := C_addArm s1 s2 hW c5 (P := X + 193) (by omega) k1 (N := N) (f := e) (c := c) (by omega) r3 (fun j hj => ⟨(c4 j hj).1.1, (pth_rg hc1 j (fun q hq => (c4 q (by omega)).1.1)).2⟩)
                refine ⟨h2, F, g1, ?_, w2, by rw [w3 _ (by omega)]; exact k1, fun q g1 g2 => by rw [w3 q (by omega)]; exact k2 q g2⟩
                have hX2 : h2 X = oX X v := by rw [w3 X (by omega)]; exact k6
                obtain ⟨S2, t1, t2⟩ := id w2
                rw [eC h, Xg0 hX, Option.bind_some, Xg8 hX, Option.bind_some, k4, Option.bind_some, k3, z_b2_some, r1, if_neg iI_01, Xg0 k6, Option.bind_some, Sz4 s1, Option.bind_some, s2.n4, if_pos (cLt (by omega)), Option.bind_some, Xg8 k6, Option.bind_some, Sck s1, Option.bind_some, w1, Option.bind_some, Xg0 hX2, Option.bind_some, Sz4 t1, Option.bind_some, t2.n4, arA_64, iI_sub, show A 64 + 1 - 1 = A 64 by omega]
              · exact absurd c4 r2
            · obtain ⟨r, h', A', Y', k1, k2, k3, k4, k5⟩ := R_armL hW (by omega) (by omega) hc1 hM (N := N) (f := e)
              rcases k5 with ⟨q, -⟩ | ⟨-, q, -⟩ | ⟨-, -, rfl, rfl⟩
              · exact absurd c4 q
              · exact absurd c5 q
              · exact ⟨h', Y', by rw [eR h]; exact k1, k2, k3, k4⟩
          · refine ⟨iI (-3), A, U, fun h v F g hX hT hp hS => ?_, fun h Y hM => ?_, hW, Or.inl ⟨rfl, rfl⟩⟩
            · obtain ⟨h1, g1, r, k1, k2, k3, k4, k5, k6, k7⟩ := cl h v F g hX hT hp hS
              rcases k7 with ⟨r1, r2, r3⟩ | ⟨r1, r2⟩
              · obtain ⟨S, s1, s2⟩ := id k5
                refine ⟨h1, F, g1, ?_, k5, k1, fun q g1 g2 => k2 q g2⟩
                rw [eC h, Xg0 hX, Option.bind_some, Xg8 hX, Option.bind_some, k4, Option.bind_some, k3, z_b2_some, r1, if_neg iI_01, Xg0 k6, Option.bind_some, Sz4 s1, Option.bind_some, s2.n4, if_neg (nLt (by omega))]
              · exact absurd c4 r2
            · obtain ⟨r, h', A', Y', k1, k2, k3, k4, k5⟩ := R_armL hW (by omega) (by omega) hc1 hM (N := N) (f := e)
              rcases k5 with ⟨q, -⟩ | ⟨-, q, rfl, rfl⟩ | ⟨-, q, -⟩
              · exact absurd c4 q
              · exact ⟨h', Y', by rw [eR h]; exact k1, k2, k3, k4⟩
              · exact absurd q c5
        · refine ⟨iI (-2), A, U, fun h v F g hX hT hp hS => ?_, fun h Y hM => ?_, hW, Or.inl ⟨rfl, rfl⟩⟩
          · obtain ⟨h1, g1, r, k1, k2, k3, k4, k5, k6, k7⟩ := cl h v F g hX hT hp hS
            rcases k7 with ⟨r1, r2, r3⟩ | ⟨r1, r2⟩
            · exact absurd r2 c4
            · refine ⟨h1, F, g1, ?_, k5, k1, fun q g1 g2 => k2 q g2⟩
              rw [eC h, Xg0 hX, Option.bind_some, Xg8 hX, Option.bind_some, k4, Option.bind_some, k3, z_b2_some, r1, if_pos rfl]
          · obtain ⟨r, h', A', Y', k1, k2, k3, k4, k5⟩ := R_armL hW (by omega) (by omega) hc1 hM (N := N) (f := e)
            rcases k5 with ⟨q, rfl, rfl⟩ | ⟨q, -⟩ | ⟨q, -⟩
            · exact ⟨h', Y', by rw [eR h]; exact k1, k2, k3, k4⟩
            · exact absurd q c4
            · exact absurd q c4
      · refine KArm_no (iI (-1)) hW (fun h => ?_) (fun h => ?_)
        · rw [eC0 h, if_pos c1, if_neg (by omega), if_neg (by omega)]
          by_cases q : f < 0
          · rw [if_pos q]
          · rw [if_neg q, if_neg (nLt (by omega))]
        · rw [eR0 h, if_pos c1, if_pos c2, iI_sub, R_in2 (by omega), z_b2_some, ite_tb, if_neg (by omega)]
    · refine KArm_no (iI (-1)) hW (fun h => ?_) (fun h => ?_)
      · rw [eC0 h, if_pos c1]
        by_cases q : n < 2
        · rw [if_pos q]
        · rw [if_neg q, if_pos (by omega)]
      · rw [eR0 h, if_pos c1, if_neg c2]
  · refine KArm_no (iI (-1)) hW (fun h => ?_) (fun h => ?_)
    · rw [eC0 h, if_neg c1]
    · rw [eR0 h, if_neg c1]
end AT
