section KQ2
variable {tS X m : Nat} {D : Nat → Prop} {Q : Int → List zKl} {U : Int → Option Nat} {A : Int → Int}
theorem bI_tip {w : Int64} {c0 : Int} {N f0 : Nat} {B : zB} (hB : bI w c0 N f0 B) (c : Nat) : -4 ≤ B.2.2.2 c ∧ B.2.2.2 c ≤ 4096 := by
  have t := hB.2.2.2.2 c
  omega
theorem bfE_I {w : Int64} {c0 : Int} {N f0 : Nat} (hN : 2 ≤ N ∧ N ≤ 7) (h0 : VF w c0 N f0 f0) : bI w c0 N f0 (bfE w c0 N f0) := bf_I hN h0 4096
theorem bfE_tip (hW : WF A) {a : Int} (ha : 0 ≤ a ∧ a < A 64) (hcut : A (71 + 40 * a) < 0) (c : Nat) : -4 ≤ (bfE (wA A) (A (75 + 40 * a)) (A (70 + 40 * a)).toNat (fmA A a)).2.2.2 c ∧ (bfE (wA A) (A (75 + 40 * a)) (A (70 + 40 * a)).toNat (fmA A a)).2.2.2 c ≤ 4096 := by
  have pc := hW.pc ha
  exact bI_tip (bfE_I (by omega) (VF0 hW ha hcut)) c
theorem R_lr (hW : WF A) {a : Int} (ha : 0 ≤ a ∧ a < A 64) (hcut : A (71 + 40 * a) < 0) {h : zH} {Y : Nat → Nat → Int32} (hM : MR h m A Y) : ∃ h' Y', f_X11_layReach (some m) (iI a) h = some h' ∧ MR h' m A Y' ∧ RB Y' (bfE (wA A) (A (75 + 40 * a)) (A (70 + 40 * a)).toNat (fmA A a)) ∧ kG Y Y' ∧ fr m 19 h h' := by
  obtain ⟨h', Y', k1, k2, k3, k4, k5⟩ := R_layReach hW ha hcut hM
  exact ⟨h', Y', k1, k2, k3, kG_kv k4, k5⟩
theorem K_forms (hts : tS < X) (hW : WF A) {a : Int} (ha : rgI a) : KQ tS X m U A (f_X10_forms tS (some X) (iI a)) (f_X11_forms (some m) (iI a)) := by
  have hn := hW.n
  refine ⟨if 0 ≤ a ∧ a < A 64 then (if A (71 + 40 * a) < 0 then iI ((bfE (wA A) (A (75 + 40 * a)) (A (70 + 40 * a)).toNat (fmA A a)).2.2.1 : Int) else iI (-2)) else iI (-1), fun h n F hX hT hS hK => ?_, fun h Y hM => ?_⟩
  · unfold f_X10_forms
    rw [Xck hX, Option.bind_some]
    simp only [iI_lit, iI_add, iI_sub, iI_mul, iI_neg]
    rcases C_refuses hts hW ha hX hT hS hK with ⟨c1, e⟩ | ⟨c1, c2, e⟩ | ⟨c1, c2, h', e, k1, k2, g0, g1, g2, g3, fc, cc, c0, N, f0, w, ot, r0, r1, r2, r3⟩
    · refine ⟨h, ?_, hK, fr_rf _ _ _⟩
      rw [e, z_b2_some, if_neg c1, if_neg (nEq (by omega))]
    · refine ⟨h, ?_, hK, fr_rf _ _ _⟩
      rw [e, z_b2_some, if_pos c1, if_neg c2, if_neg (nEq (by omega))]
    · refine ⟨h', ?_, k2, k1⟩
      have hX' : h' X = oX X n := by rw [k1 X (by omega)]; exact hX
      rw [e, z_b2_some, if_pos c1, if_pos c2, if_pos rfl, Xg6 hX', Option.bind_some, Ri4 r0, Option.bind_some, r2]
  · unfold f_X11_forms
    rw [Mck hM.1, Option.bind_some, R_isArm hM ha hn.1, z_b2_some]
    simp only [iI_lit, iI_add, iI_sub, iI_mul, iI_neg]
    rw [ite_tb]
    by_cases c1 : 0 ≤ a ∧ a < A 64
    · have cc := cut_cs hW c1
      rw [if_pos c1, if_pos c1, Mck hM.1, Option.bind_some, R_cutOf hM (by omega), z_b2_some, iteLt (by omega)]
      by_cases c2 : A (71 + 40 * a) < 0
      · obtain ⟨h', Y', k1, k2, k3, k4, k5⟩ := R_lr hW c1 c2 hM
        refine ⟨h', Y', ?_, k2, k4, k5⟩
        rw [if_pos c2, if_pos c2, Mck hM.1, Option.bind_some, k1, Option.bind_some, Mi19 k2.1, Option.bind_some, k3.2.2.2]
      · refine ⟨h, Y, ?_, hM, kG_rf _, fr_rf _ _ _⟩
        rw [if_neg c2, if_neg c2]
    · refine ⟨h, Y, ?_, hM, kG_rf _, fr_rf _ _ _⟩
      rw [if_neg c1, if_neg c1]
theorem K_reach (hts : tS < X) (hW : WF A) {a : Int} (ha : rgI a) : KQ tS X m U A (f_X10_reach tS (some X) (iI a)) (f_X11_reach (some m) (iI a)) := by
  have hn := hW.n
  refine ⟨if 0 ≤ a ∧ a < A 64 then (if A (71 + 40 * a) < 0 then iI ((cntN (bfE (wA A) (A (75 + 40 * a)) (A (70 + 40 * a)).toNat (fmA A a)).2.2.2 64 : Nat) : Int) else iI (-2)) else iI (-1), fun h n F hX hT hS hK => ?_, fun h Y hM => ?_⟩
  · unfold f_X10_reach
    rw [Xck hX, Option.bind_some]
    simp only [iI_lit, iI_add, iI_sub, iI_mul, iI_neg]
    rcases C_refuses hts hW ha hX hT hS hK with ⟨c1, e⟩ | ⟨c1, c2, e⟩ | ⟨c1, c2, h', e, k1, k2, g0, g1, g2, g3, fc, cc, c0, N, f0, w, ot, r0, r1, r2, r3⟩
    · refine ⟨h, ?_, hK, fr_rf _ _ _⟩
      rw [e, z_b2_some, if_neg c1, if_neg (nEq (by omega))]
    · refine ⟨h, ?_, hK, fr_rf _ _ _⟩
      rw [e, z_b2_some, if_pos c1, if_neg c2, if_neg (nEq (by omega))]
    · refine ⟨h', ?_, k2, k1⟩
      have hX' : h' X = oX X n := by rw [k1 X (by omega)]; exact hX
      rw [e, z_b2_some, if_pos c1, if_pos c2, if_pos rfl, Xg6 hX', Option.bind_some, Ri5 r0, Option.bind_some, r3]
  · unfold f_X11_reach
    rw [Mck hM.1, Option.bind_some, R_isArm hM ha hn.1, z_b2_some]
    simp only [iI_lit, iI_add, iI_sub, iI_mul, iI_neg]
    rw [ite_tb]
    by_cases c1 : 0 ≤ a ∧ a < A 64
    · have cc := cut_cs hW c1
      rw [if_pos c1, if_pos c1, Mck hM.1, Option.bind_some, R_cutOf hM (by omega), z_b2_some, iteLt (by omega)]
      by_cases c2 : A (71 + 40 * a) < 0
      · obtain ⟨h', Y', k1, k2, k3, k4, k5⟩ := R_lr hW c1 c2 hM
        refine ⟨h', Y', ?_, k2, k4, k5⟩
        have bt := bfE_tip hW c1 c2
        rw [if_pos c2, if_pos c2, Mck hM.1, Option.bind_some, k1, Option.bind_some]
        exact R_reachL k2 k3.2.2.1 (fun c hc => by have := bt c; omega)
      · refine ⟨h, Y, ?_, hM, kG_rf _, fr_rf _ _ _⟩
        rw [if_neg c2, if_neg c2]
    · refine ⟨h, Y, ?_, hM, kG_rf _, fr_rf _ _ _⟩
      rw [if_neg c1, if_neg c1]
theorem K_far (hts : tS < X) (hW : WF A) {a x y : Int} (ha : rgI a) (hx : rgI x) (hy : rgI y) : KQ tS X m U A (f_X10_far tS (some X) (iI a) (iI x) (iI y)) (f_X11_far (some m) (iI a) (iI x) (iI y)) := by
  have hn := hW.n
  refine ⟨if (0 ≤ x ∧ x ≤ 7) ∧ 0 ≤ y ∧ y ≤ 7 then (if 0 ≤ a ∧ a < A 64 then (if A (71 + 40 * a) < 0 then iI ((bfE (wA A) (A (75 + 40 * a)) (A (70 + 40 * a)).toNat (fmA A a)).2.2.2 (8 * y + x).toNat) else iI (-2)) else iI (-1)) else iI (-1), fun h n F hX hT hS hK => ?_, fun h Y hM => ?_⟩
  · unfold f_X10_far
    rw [C_isCell hx hy, z_b2_some]
    simp only [iI_lit, iI_add, iI_sub, iI_mul, iI_neg]
    rw [ite_tb]
    by_cases c0 : (0 ≤ x ∧ x ≤ 7) ∧ 0 ≤ y ∧ y ≤ 7
    · rw [if_pos c0, if_pos c0, Xck hX, Option.bind_some]
      rcases C_refuses hts hW ha hX hT hS hK with ⟨c1, e⟩ | ⟨c1, c2, e⟩ | ⟨c1, c2, h', e, k1, k2, g0, g1, g2, g3, fc, cc, cz, N, f0, w, ot, r0, r1, r2, r3⟩
      · refine ⟨h, ?_, hK, fr_rf _ _ _⟩
        rw [e, z_b2_some, if_neg c1, if_neg (nEq (by omega))]
      · refine ⟨h, ?_, hK, fr_rf _ _ _⟩
        rw [e, z_b2_some, if_pos c1, if_neg c2, if_neg (nEq (by omega))]
      · refine ⟨h', ?_, k2, k1⟩
        have hX' : h' X = oX X n := by rw [k1 X (by omega)]; exact hX
        rw [e, z_b2_some, if_pos c1, if_pos c2, if_pos rfl, Xg6 hX', Option.bind_some, Rg2 r0, Option.bind_some]
        unfold f_X10_cellOf
        simp only [iI_lit, iI_add, iI_sub, iI_mul, iI_neg, z_b2_some]
        rw [z_aI_k r0.2.2.2.1 (Or.inl rfl) (by omega) (by omega) (by decide), Option.bind_some, r1 _ (by omega)]
    · refine ⟨h, ?_, hK, fr_rf _ _ _⟩
      rw [if_neg c0, if_neg c0]
  · unfold f_X11_far
    rw [Mck hM.1, Option.bind_some, R_isArm hM ha hn.1, z_b2_some]
    simp only [iI_lit, iI_add, iI_sub, iI_mul, iI_neg]
    rw [ite_tb]
    by_cases c1 : 0 ≤ a ∧ a < A 64
    · have cc := cut_cs hW c1
      rw [if_pos c1, if_pos c1, R_isCell hx hy, z_b2_some, ite_tb]
      by_cases c0 : (0 ≤ x ∧ x ≤ 7) ∧ 0 ≤ y ∧ y ≤ 7
      · rw [if_pos c0, if_pos c0, Mck hM.1, Option.bind_some, R_cutOf hM (by omega), z_b2_some, iteLt (by omega)]
        by_cases c2 : A (71 + 40 * a) < 0
        · obtain ⟨h', Y', k1, k2, k3, k4, k5⟩ := R_lr hW c1 c2 hM
          refine ⟨h', Y', ?_, k2, k4, k5⟩
          rw [if_pos c2, if_pos c2, Mck hM.1, Option.bind_some, k1, Option.bind_some, Mg18 k2.1, Option.bind_some, Ma16 k2.1 (by omega) (by omega), Option.bind_some, k3.2.2.1 _ (by omega)]
        · refine ⟨h, Y, ?_, hM, kG_rf _, fr_rf _ _ _⟩
          rw [if_neg c2, if_neg c2]
      · refine ⟨h, Y, ?_, hM, kG_rf _, fr_rf _ _ _⟩
        rw [if_neg c0, if_neg c0]
    · refine ⟨h, Y, ?_, hM, kG_rf _, fr_rf _ _ _⟩
      rw [if_neg c1]
      by_cases c0 : (0 ≤ x ∧ x ≤ 7) ∧ 0 ≤ y ∧ y ≤ 7
      · rw [if_pos c0, if_neg c1]
      · rw [if_neg c0]
/-! the fewest words -/
def WSO (h : zH) (ws : Nat) : Prop := (∃ x y z g, WSAt h ws x y z g) ∧ ∀ j, j ≤ 4 → ∃ S, SAt h (ws + 3 + 30 * j) S
def stF (tS X : Nat) (D : Nat → Prop) (Q : Int → List zKl) (U : Int → Option Nat) (A : Int → Int) (f : zH → Option (Int32 × zH)) (r : Int32) : Prop :=
  ∀ h n F, h X = oX X n → hST h tS → RX D Q U A h → SR h (X + 1) A U F → WSO h (X + 40) → ∃ h', f h = some (r, h') ∧ WSO h' (X + 40) ∧ fr (X + 40) 153 h h'
def KF (tS X m : Nat) (D : Nat → Prop) (Q : Int → List zKl) (U : Int → Option Nat) (A : Int → Int) (fc fR : zH → Option (Int32 × zH)) : Prop := ∃ r, stF tS X D Q U A fc r ∧ stR m A fR r A
theorem KF_no {fc fR : zH → Option (Int32 × zH)} (r : Int32) (hc : ∀ h n F S, h X = oX X n → SAt h (X + 1) S → SRel A U F S → fc h = some (r, h)) (hr : ∀ h Y, MR h m A Y → fR h = some (r, h)) : KF tS X m D Q U A fc fR := by
  refine ⟨r, fun h n F hX hT hQ hS hK => ?_, fun h Y hM => ⟨h, Y, hr h Y hM, hM, kG_rf Y, fr_rf _ _ _⟩⟩
  obtain ⟨S, s1, s2⟩ := id hS
  exact ⟨h, hc h n F S hX s1 s2, hK, fr_rf _ _ _⟩
theorem minN {P : Nat → Prop} : ∀ (k n : Nat), n ≤ k → P n → ∃ n, P n ∧ ∀ j, j < n → ¬ P j
  | 0, n, hn, hp => ⟨n, hp, fun j hj => absurd hj (by omega)⟩
  | k + 1, n, hn, hp => by
    by_cases q : ∃ j, j < n ∧ P j
    · obtain ⟨j, h1, h2⟩ := q
      exact minN k j (by omega) h2
    · exact ⟨n, hp, fun j hj hq => q ⟨j, hj, hq⟩⟩
theorem FNW (A : Int → Int) (Q : Int → List zKl) (a t : Int) (N : Nat) (w : Int) : ∃ r, (r = iI (-4) ∧ FN A Q a t N) ∨ ∃ c' r', FW A Q a t N c' r' ∧ r = iI (fwA w c' r') := by
  by_cases q : FN A Q a t N
  · exact ⟨_, Or.inl ⟨rfl, q⟩⟩
  · have ex : ∃ c, (1 ≤ c ∧ c ≤ 4) ∧ ∃ r, r < 4 ^ c ∧ EV A Q a t N c r := by
      apply Classical.byContradiction
      intro q2
      exact q (fun c h1 h2 r h3 h4 => q2 ⟨c, ⟨h1, h2⟩, r, h3, h4⟩)
    obtain ⟨c, hc⟩ := ex
    obtain ⟨c, ⟨h1, r, h2, h3⟩, hm⟩ := minN (P := fun c => (1 ≤ c ∧ c ≤ 4) ∧ ∃ r, r < 4 ^ c ∧ EV A Q a t N c r) c c (Nat.le_refl _) hc
    obtain ⟨r, ⟨g1, g2⟩, gm⟩ := minN (P := fun r => r < 4 ^ c ∧ EV A Q a t N c r) r r (Nat.le_refl _) ⟨h2, h3⟩
    exact ⟨_, Or.inr ⟨c, r, ⟨⟨h1.1, h1.2, g1⟩, g2, fun r' hr he => gm r' hr ⟨by omega, he⟩, fun c' k1 k2 r' k3 k4 => hm c' k2 ⟨⟨k1, by omega⟩, r', k3, k4⟩⟩, rfl⟩⟩
theorem K_fewest (hts : tS < X) (hD : ∀ q, D q → X + 221 ≤ q) (hW : WF A) (hTX : ∀ a, 0 ≤ a → a < A 64 → TX A a (Q a)) {a t n w : Int} (ha : rgI a) (ht : rgI t) (hn : rgI n) (hw : rgI w) : KF tS X m D Q U A (f_X10_fewest tS (some X) (iI a) (iI t) (iI n) (iI w)) (f_X11_fewest (some m) (iI a) (iI t) (iI n) (iI w)) := by
  have h64 := hW.n
  have hn' : -2147483648 ≤ n ∧ n < 2147483648 := hn
  have hw' : -2147483648 ≤ w ∧ w < 2147483648 := hw
  by_cases c1 : 0 ≤ a ∧ a < A 64
  · by_cases c2 : 0 ≤ t ∧ t < A 65
    · by_cases c3 : (1 ≤ n ∧ n ≤ 20) ∧ 0 ≤ w ∧ w ≤ 4
      · have wt := (hW.t c2).1
        have CE : ∀ h x F S, h X = oX X x → SAt h (X + 1) S → SRel A U F S → f_X10_fewest tS (some X) (iI a) (iI t) (iI n) (iI w) h = if A (490 + 4 * t) = 2 then some (iI (-2), h) else
                (z_ck h 9 (some (X + 40))).bind fun _ =>
                z_b2 (f_X9_search tS (some (X + 40)) (some (X + 1)) (iI a) (iI t) (iI n) h) fun v15 h14 =>
                if v15 = iI 0 then some (iI (-4), h14) else if iI w = iI 0 then some (v15, h14) else if v15 < iI w then some (iI (-1), h14) else
                      (z_gA h14 10 7 (some X)).bind fun v16 => (z_gA h14 9 0 v16).bind fun v17 => (z_aI h14 v17 (iI w - iI 1)).bind fun v18 => some (v18, h14) := by
          intro h x F S hX s1 s2
          have v1 := s2.v1 t c2.1 c2.2
          unfold f_X10_fewest
          rw [Xck hX, Option.bind_some, C_isArm hX s1 s2 hW ha, z_b2_some]
          simp only [iI_lit, iI_neg]
          rw [ite_tb, if_pos c1, Xck hX, Option.bind_some, C_isThing hX s1 s2 hW ht, z_b2_some, ite_tb, if_pos c2, if_neg (nLt (by omega)), if_neg (nLt (by omega)), if_neg (nLt (by omega)), if_pos (cLe (by omega))]
          simp (disch := omega) only [Xg0 hX, Option.bind_some, z_b2_some, z_i1_some, Sg5 s1, Sthg s1, Tv1 s1, v1, iteEq, Xg7 hX]
        have RE : ∀ h Y, MR h m A Y → f_X11_fewest (some m) (iI a) (iI t) (iI n) (iI w) h = if A (490 + 4 * t) = 2 then some (iI (-2), h) else f_X11_fewest_b57 (some m) (iI a) (iI t) (iI n) (iI w) (iI 0) h := by
          intro h Y hM
          unfold f_X11_fewest
          rw [Mck hM.1, Option.bind_some, R_isArm hM ha h64.1, z_b2_some]
          simp only [iI_lit, iI_add, iI_sub, iI_mul, iI_neg]
          rw [ite_tb, if_pos c1, Mck hM.1, Option.bind_some, R_isThing hM ht h64.2.1, z_b2_some, ite_tb, if_pos c2, R_in2 (by omega), z_b2_some, ite_tb, if_pos c3.1, R_in2 (by omega), z_b2_some, ite_tb, if_pos c3.2]
          simp (disch := omega) only [Mg0 hM.1, Option.bind_some, z_b2_some, z_i1_some, R_thingAt, M_all hM, iteEq]
        by_cases c4 : A (490 + 4 * t) = 2
        · refine KF_no (iI (-2)) (fun h x F S hX s1 s2 => ?_) (fun h Y hM => ?_)
          · rw [CE h x F S hX s1 s2, if_pos c4]
          · rw [RE h Y hM, if_pos c4]
        · have hg : good A Q A := ⟨hW, rfl, rfl, hTX⟩
          obtain ⟨N, rfl⟩ : ∃ N : Nat, n = (N : Int) := ⟨n.toNat, by omega⟩
          obtain ⟨r, hr⟩ := FNW A Q a t N w
          have no : ∀ c' r', FN A Q a t N → FW A Q a t N c' r' → False := fun c' r' q1 q2 => q1 c' q2.1.1 q2.1.2.1 r' q2.1.2.2 q2.2.1
          refine ⟨r, fun h x F hX hT hQ hS hK => ?_, fun h Y hM => ?_⟩
          · obtain ⟨⟨x1, y1, z1, g1, ks⟩, ksea⟩ := hK
            obtain ⟨res, h', g', e1, e2, e3, e4, e5⟩ := C_search hg c1 c2 c4 (n := N) (by omega) (tS := tS) (ws := X + 40) (by omega) (D := D) (fun q hq => by have := hD q hq; omega) (b := X + 1) (by omega) hT hQ hS ks ksea
            obtain ⟨S, s1, s2⟩ := id hS
            refine ⟨h', ?_, ⟨⟨_, _, _, _, e3⟩, e4⟩, e2⟩
            have ck : z_ck h 9 (some (X + 40)) = some (X + 40) := z_ck_k ks.1
            have hX' : h' X = oX X x := by rw [e2 X (by omega)]; exact hX
            rw [CE h x F S hX s1 s2, if_neg c4, ck, Option.bind_some, e1, z_b2_some]
            rcases e5 with ⟨q1, q2⟩ | ⟨c', r1, q1, q2, q3⟩
            · rw [q1, if_pos rfl]
              rcases hr with ⟨g1, g2⟩ | ⟨c', r', g1, g2⟩
              · rw [g1]
              · exact (no _ _ q2 g1).elim
            · rcases hr with ⟨g1, g2⟩ | ⟨c2', r', g1, g2⟩
              · exact (no _ _ g2 q1).elim
              · obtain ⟨rfl, rfl⟩ := FW_un q1 g1
                have b := q1.1
                rw [q2, if_neg (nEq (by omega)), g2]
                unfold fwA
                by_cases w0 : w = 0
                · rw [if_pos (cEq w0), if_pos w0]
                · rw [if_neg (nEq (by omega)), if_neg w0]
                  by_cases wl : w ≤ (c' : Int)
                  · rw [if_neg (nLt (by omega)), if_pos wl, Xg7 hX', Option.bind_some, z_gA_k e3.1 rfl, Option.bind_some, iI_sub, z_aI_k e3.2.1 (Or.inl rfl) (by omega) (by omega) (by decide), Option.bind_some, q3 _ (by omega), show (w - 1).toNat = w.toNat - 1 by omega]
                  · rw [if_pos (cLt (by omega)), if_neg wl]
          · obtain ⟨x, h', Y', e1, e2, e3, e4, e5⟩ := R_few hM hg c1 c2 c4 (n := N) (by omega) (w := w) (by omega)
            refine ⟨h', Y', ?_, e2, kG_k4 e3, e4⟩
            rw [RE h Y hM, if_neg c4, e1]
            rcases e5 with ⟨q1, q2⟩ | ⟨c', r1, q1, q2⟩
            · rcases hr with ⟨g1, g2⟩ | ⟨c', r', g1, g2⟩
              · rw [g1, q1]
              · exact (no _ _ q2 g1).elim
            · rcases hr with ⟨g1, g2⟩ | ⟨c2', r', g1, g2⟩
              · exact (no _ _ g2 q1).elim
              · obtain ⟨rfl, rfl⟩ := FW_un q1 g1
                rw [q2, g2]
      · refine KF_no (iI (-1)) (fun h x F S hX s1 s2 => ?_) (fun h Y hM => ?_)
        · unfold f_X10_fewest
          rw [Xck hX, Option.bind_some, C_isArm hX s1 s2 hW ha, z_b2_some]
          simp only [iI_lit, iI_add, iI_sub, iI_mul, iI_neg]
          rw [ite_tb, if_pos c1, Xck hX, Option.bind_some, C_isThing hX s1 s2 hW ht, z_b2_some, ite_tb, if_pos c2, iteLt (by omega)]
          refine ite_c (fun q => rfl) (fun q1 => ?_)
          rw [iteLt (by omega)]
          refine ite_c (fun q => rfl) (fun q2 => ?_)
          rw [iteLt (by omega)]
          refine ite_c (fun q => rfl) (fun q3 => ?_)
          rw [if_neg (nLe (by omega))]
        · unfold f_X11_fewest
          rw [Mck hM.1, Option.bind_some, R_isArm hM ha h64.1, z_b2_some]
          simp only [iI_lit, iI_add, iI_sub, iI_mul, iI_neg]
          rw [ite_tb, if_pos c1, Mck hM.1, Option.bind_some, R_isThing hM ht h64.2.1, z_b2_some, ite_tb, if_pos c2, R_in2 (by omega), z_b2_some, ite_tb]
          by_cases q : 1 ≤ n ∧ n ≤ 20
          · rw [if_pos q, R_in2 (by omega), z_b2_some, ite_tb, if_neg (by omega)]
          · rw [if_neg q]
    · refine KF_no (iI (-1)) (fun h x F S hX s1 s2 => ?_) (fun h Y hM => ?_)
      · unfold f_X10_fewest
        rw [Xck hX, Option.bind_some, C_isArm hX s1 s2 hW ha, z_b2_some]
        simp only [iI_lit, iI_add, iI_sub, iI_mul, iI_neg]
        rw [ite_tb, if_pos c1, Xck hX, Option.bind_some, C_isThing hX s1 s2 hW ht, z_b2_some, ite_tb, if_neg c2]
      · unfold f_X11_fewest
        rw [Mck hM.1, Option.bind_some, R_isArm hM ha h64.1, z_b2_some]
        simp only [iI_lit, iI_add, iI_sub, iI_mul, iI_neg]
        rw [ite_tb, if_pos c1, Mck hM.1, Option.bind_some, R_isThing hM ht h64.2.1, z_b2_some, ite_tb, if_neg c2]
  · refine KF_no (iI (-1)) (fun h x F S hX s1 s2 => ?_) (fun h Y hM => ?_)
    · unfold f_X10_fewest
      rw [Xck hX, Option.bind_some, C_isArm hX s1 s2 hW ha, z_b2_some]
      simp only [iI_lit, iI_add, iI_sub, iI_mul, iI_neg]
      rw [ite_tb, if_neg c1]
    · unfold f_X11_fewest
      rw [Mck hM.1, Option.bind_some, R_isArm hM ha h64.1, z_b2_some]
      simp only [iI_lit, iI_add, iI_sub, iI_mul, iI_neg]
      rw [ite_tb, if_neg c1]
end KQ2
