section KT
variable {tS X m : Nat} {D : Nat → Prop} {Q : Int → List zKl} {U : Int → Option Nat} {A : Int → Int}
/-- a new thing -/
def thA (A : Int → Int) (c x : Int) : Int → Int := uI (uI (uI (uI (uI A (490 + 4 * A 65) 0) (491 + 4 * A 65) c) (492 + 4 * A 65) x) (493 + 4 * A 65) (-4)) 65 (A 65 + 1)
theorem thA_n {c x j : Int} (hW : WF A) (hj : j ≠ 65 ∧ (j < 490 + 4 * A 65 ∨ 494 + 4 * A 65 ≤ j)) : thA A c x j = A j := by
  unfold thA; rw [uI_n _ _ (by omega), uI_n _ _ (by omega), uI_n _ _ (by omega), uI_n _ _ (by omega), uI_n _ _ (by omega)]
theorem thA_s {c x : Int} (hW : WF A) : thA A c x 65 = A 65 + 1 ∧ thA A c x (490 + 4 * A 65) = 0 ∧ thA A c x (491 + 4 * A 65) = c ∧ thA A c x (492 + 4 * A 65) = x ∧ thA A c x (493 + 4 * A 65) = -4 := by
  have hn := hW.n
  unfold thA
  refine ⟨uI_s _ _ _, ?_, ?_, ?_, ?_⟩
  · rw [uI_n _ _ (by omega), uI_n _ _ (by omega), uI_n _ _ (by omega), uI_n _ _ (by omega), uI_s]
  · rw [uI_n _ _ (by omega), uI_n _ _ (by omega), uI_n _ _ (by omega), uI_s]
  · rw [uI_n _ _ (by omega), uI_n _ _ (by omega), uI_s]
  · rw [uI_n _ _ (by omega), uI_s]
theorem thA_vP {c x : Int} (hW : WF A) (a p : Int) : vP (thA A c x) a p ↔ vP A a p := by
  have hn := hW.n
  exact vP_cg (thA_n hW (by omega)) hn.1.2 (fun a h1 h2 => thA_n hW (by omega)) a p
theorem thA_ly {c x : Int} (hW : WF A) (t d : Int) : ly (thA A c x) t d ↔ ly A t d ∨ (t = A 65 ∧ d = c) := by
  have hn := hW.n
  have s := thA_s (c := c) (x := x) hW
  unfold ly
  rw [s.1]
  by_cases e : t = A 65
  · subst e
    rw [s.2.1, s.2.2.1]
    constructor
    · rintro ⟨-, -, q⟩; exact Or.inr ⟨rfl, q.symm⟩
    · rintro (⟨q, -⟩ | ⟨-, q⟩)
      · omega
      · exact ⟨by omega, rfl, q.symm⟩
  · constructor
    · rintro ⟨q1, q2, q3⟩
      rw [thA_n hW (by omega)] at q2 q3
      exact Or.inl ⟨by omega, q2, q3⟩
    · rintro (⟨q1, q2, q3⟩ | ⟨q, -⟩)
      · refine ⟨by omega, ?_, ?_⟩
        · rw [thA_n hW (by omega)]; exact q2
        · rw [thA_n hW (by omega)]; exact q3
      · exact absurd q e
theorem thA_hasP {c x : Int} (hW : WF A) (d : Int) : hasP (thA A c x) d ↔ hasP A d := by
  have hn := hW.n
  constructor
  · rintro ⟨a, p, k1, k2⟩
    rw [thA_vP hW] at k1
    have v := hW.vp k1
    rw [thA_n hW (by omega)] at k2
    exact ⟨a, p, k1, k2⟩
  · rintro ⟨a, p, k1, k2⟩
    have v := hW.vp k1
    exact ⟨a, p, (thA_vP hW a p).mpr k1, by rw [thA_n hW (by omega)]; exact k2⟩
theorem WF_thing (hW : WF A) {c x : Int} (hc : 0 ≤ c ∧ c < 64) (hx : 0 ≤ x ∧ x ≤ 3) (h8 : A 65 < 8) (hw : A c = 0) (hl : ¬ ∃ t, ly A t c) : WF (thA A c x) := by
  have hn := hW.n
  have s := thA_s (c := c) (x := x) hW
  have k : ∀ j, j < 490 → j ≠ 65 → thA A c x j = A j := fun j h1 h2 => thA_n hW (by omega)
  refine ⟨⟨by rw [k _ (by omega) (by omega)]; exact hn.1, by rw [s.1]; omega, by rw [k _ (by omega) (by omega)]; exact hn.2.2⟩, fun c' g1 g2 => by rw [k _ (by omega) (by omega)]; exact hW.w g1 g2, fun a g1 g2 => ?_, fun t g1 g2 => ?_, fun a p a' p' g1 g2 he => ?_, fun t t' d g1 g2 => ?_⟩
  · rw [k _ (by omega) (by omega)] at g2
    have wa := hW.a ⟨g1, g2⟩
    have pc := hW.pc ⟨g1, g2⟩
    unfold WA
    rw [k (70 + 40 * a) (by omega) (by omega), k (71 + 40 * a) (by omega) (by omega), k (72 + 40 * a) (by omega) (by omega), s.1]
    refine ⟨wa.1, wa.2.1, wa.2.2.1, fun p q1 q2 => ?_, fun p q1 q2 q3 => ?_⟩
    · have hv : vP A a p := ⟨⟨g1, g2⟩, q1, q2⟩
      have ce := hW.ce hv
      have ho := hW.ho hv
      rw [k (75 + 40 * a + p) (by omega) (by omega), k (82 + 40 * a + p) (by omega) (by omega), k (96 + 40 * a + p) (by omega) (by omega), k (89 + 40 * a + p) (by omega) (by omega), k _ (by omega) (by omega)]
      refine ⟨ce, hW.me hv, hW.sa hv, hW.pw hv, ?_⟩
      rcases ho with ho | ho
      · exact Or.inl ho
      · right
        rw [thA_n hW (by omega), thA_n hW (by omega)]
        exact ⟨by omega, ho.2⟩
    · rw [k (75 + 40 * a + p) (by omega) (by omega), k (75 + 40 * a + (p - 1)) (by omega) (by omega)]
      exact wa.2.2.2.2 p q1 q2 q3
  · rw [s.1] at g2
    by_cases e : t = A 65
    · subst e
      unfold WT
      rw [s.2.1, s.2.2.1, s.2.2.2.1, s.2.2.2.2, k c (by omega) (by omega)]
      exact ⟨Or.inl rfl, hc, hx, fun _ => ⟨hw, rfl⟩, fun q => absurd q (by omega), fun q => absurd q (by omega)⟩
    · have w := hW.t (t := t) ⟨g1, by omega⟩
      have w2 := w.2.1
      unfold WT
      rw [thA_n (j := 490 + 4 * t) hW (by omega), thA_n (j := 491 + 4 * t) hW (by omega), thA_n (j := 492 + 4 * t) hW (by omega), thA_n (j := 493 + 4 * t) hW (by omega), k (A (491 + 4 * t)) (by omega) (by omega), k 64 (by omega) (by omega)]
      refine ⟨w.1, w.2.1, w.2.2.1, w.2.2.2.1, fun q => ?_, w.2.2.2.2.2⟩
      obtain ⟨a', p', k1, k2, k3⟩ := w.2.2.2.2.1 q
      have v2 := hW.vp k1
      exact ⟨a', p', (thA_vP hW a' p').mpr k1, k2, by rw [k _ (by omega) (by omega)]; exact k3⟩
  · rw [thA_vP hW] at g1 g2
    have v1 := hW.vp g1
    have v2 := hW.vp g2
    rw [k _ (by omega) (by omega), k _ (by omega) (by omega)] at he
    exact hW.d g1 g2 he
  · rw [thA_ly hW] at g1 g2
    rcases g1 with g1 | g1 <;> rcases g2 with g2 | g2
    · exact hW.l g1 g2
    · exact absurd ⟨t, by rw [← g2.2]; exact g1⟩ hl
    · exact absurd ⟨t', by rw [← g1.2]; exact g2⟩ hl
    · omega
theorem SRel_thing {F : Nat → Nat → Int32} {S : zS} (hR : SRel A U F S) (hW : WF A) {c x : Int} (hc : 0 ≤ c ∧ c < 64) (hx : 0 ≤ x ∧ x ≤ 3) (h8 : A 65 < 8) (S0 : zS) (hS0 : S0 = sV S (A 65).toNat (upd (S.v (A 65).toNat) 0 (iI x))) : SRel (thA A c x) U F (sZ (laS S0 (A 65) c x (S0.L x.toNat ||| ((1 : Int64) <<< (Int32.toInt64 (iI c) &&& 63)))) 6 (iI (A 65 + 1))) := by
  have hn := hW.n
  have s := thA_s (c := c) (x := x) hW
  have k : ∀ j, j < 490 → j ≠ 65 → thA A c x j = A j := fun j h1 h2 => thA_n hW (by omega)
  have e64 := k 64 (by omega) (by omega)
  have eL : S0.L = S.L := by rw [hS0]; rfl
  have ev : ∀ i, i ≠ (A 65).toNat → (laS S0 (A 65) c x (S0.L x.toNat ||| ((1 : Int64) <<< (Int32.toInt64 (iI c) &&& 63)))).v i = S.v i := by
    intro i hi
    show (sV S0 _ _).v i = _
    rw [sV_n _ _ hi, hS0, sV_n _ _ hi]
  have es : (laS S0 (A 65) c x (S0.L x.toNat ||| ((1 : Int64) <<< (Int32.toInt64 (iI c) &&& 63)))).v (A 65).toNat = upd (upd (upd (S.v (A 65).toNat) 0 (iI x)) 1 (iI 0)) 2 (iI c) := by
    show (sV S0 _ _).v _ = _
    rw [sV_s, hS0, sV_s]
  have er : S0.r = S.r := by rw [hS0]; rfl
  have en : S0.n = S.n := by rw [hS0]; rfl
  have ez : S0.z = S.z := by rw [hS0]; rfl
  refine ⟨?_, ?_, fun y g1 g2 => ?_, ?_, ?_, ?_, ?_, fun a' g1 g2 => ?_, fun a' g1 g2 => ?_, fun a' g1 g2 => ?_, fun a' g1 g2 => ?_, fun a' p' g1 g2 g3 g4 => ?_, fun a' p' g1 g2 g3 g4 => ?_, fun a' p' g1 g2 g3 g4 => ?_, fun a' p' g1 g2 g3 g4 => ?_, fun i => ?_, fun t g1 g2 => ?_, fun t g1 g2 => ?_, fun t g1 g2 g3 => ?_, fun t g1 g2 g3 => ?_, fun t g1 g2 g3 => ?_⟩
  · show S0.W = _
    rw [hS0]; exact hR.w.trans (bset_cg (fun c g1 g2 => by rw [k _ (by omega) (by omega)]))
  · show S0.T = _
    rw [hS0]; exact hR.k.trans (bset_cg (fun c g1 g2 => (thA_hasP hW c).symm))
  · show vp_updL S0.L x.toNat (S0.L x.toNat ||| ((1 : Int64) <<< (Int32.toInt64 (iI c) &&& 63))) y.toNat = _
    rw [eL]
    have hl : ∀ d, (∃ t, ly (thA A c x) t d ∧ thA A c x (492 + 4 * t) = y) ↔ (∃ t, ly A t d ∧ A (492 + 4 * t) = y) ∨ (d = c ∧ x = y) := by
      intro d
      constructor
      · rintro ⟨t, k1, k2⟩
        rw [thA_ly hW] at k1
        rcases k1 with k1 | k1
        · have := k1.1
          rw [thA_n hW (by omega)] at k2
          exact Or.inl ⟨t, k1, k2⟩
        · rw [k1.1, s.2.2.2.1] at k2
          exact Or.inr ⟨k1.2, k2⟩
      · rintro (⟨t, k1, k2⟩ | ⟨k1, k2⟩)
        · have := k1.1
          exact ⟨t, (thA_ly hW t d).mpr (Or.inl k1), by rw [thA_n hW (by omega)]; exact k2⟩
        · exact ⟨A 65, (thA_ly hW _ d).mpr (Or.inr ⟨rfl, k1⟩), by rw [s.2.2.2.1]; exact k2⟩
    by_cases e : y = x
    · subst e
      rw [show vp_updL S.L y.toNat (S.L y.toNat ||| ((1 : Int64) <<< (Int32.toInt64 (iI c) &&& 63))) y.toNat = _ from if_pos rfl, hR.l y g1 g2, bset_one hc.1 hc.2, bset_or]
      exact bset_cg (fun d k1 k2 => by rw [hl]; exact ⟨fun q => q.elim Or.inl (fun g => Or.inr ⟨g, rfl⟩), fun q => q.elim Or.inl (fun g => Or.inr g.1)⟩)
    · rw [show vp_updL S.L x.toNat (S.L x.toNat ||| ((1 : Int64) <<< (Int32.toInt64 (iI c) &&& 63))) y.toNat = S.L y.toNat from if_neg (by omega), hR.l y g1 g2]
      exact bset_cg (fun d k1 k2 => by rw [hl]; exact ⟨Or.inl, fun q => q.elim id (fun g => absurd g.2.symm e)⟩)
  · rw [e64]; show upd S0.z 6 (iI (A 65 + 1)) 4 = _; rw [pk_un (by omega), ez]; exact hR.n4
  · rw [s.1]; show upd S0.z 6 (iI (A 65 + 1)) 6 = _; exact pk_us
  · rw [k 66 (by omega) (by omega)]; show upd S0.z 6 (iI (A 65 + 1)) 7 = _; rw [pk_un (by omega), ez]; exact hR.n7
  · rw [k 67 (by omega) (by omega)]; show upd S0.z 6 (iI (A 65 + 1)) 8 = _; rw [pk_un (by omega), ez]; exact hR.n8
  · rw [e64] at g2; rw [k _ (by omega) (by omega)]; show S0.n _ _ = _; rw [en]; exact hR.m0 a' g1 g2
  · rw [e64] at g2; rw [k _ (by omega) (by omega)]; show S0.n _ _ = _; rw [en]; exact hR.m1 a' g1 g2
  · rw [e64] at g2; rw [k _ (by omega) (by omega)]; show S0.n _ _ = _; rw [en]; exact hR.m2 a' g1 g2
  · rw [e64] at g2; show S0.u _ = _; rw [hS0]; exact hR.u a' g1 g2
  · rw [e64] at g2; have pc := hW.pc ⟨g1, g2⟩; rw [k (70 + 40 * a') (by omega) (by omega)] at g4; rw [k _ (by omega) (by omega)]; show S0.r _ _ _ = _; rw [er]; exact hR.r0 a' p' g1 g2 g3 g4
  · rw [e64] at g2; have pc := hW.pc ⟨g1, g2⟩; rw [k (70 + 40 * a') (by omega) (by omega)] at g4; rw [k _ (by omega) (by omega)]; show S0.r _ _ _ = _; rw [er]; exact hR.r1 a' p' g1 g2 g3 g4
  · rw [e64] at g2; have pc := hW.pc ⟨g1, g2⟩; rw [k (70 + 40 * a') (by omega) (by omega)] at g4; rw [k _ (by omega) (by omega)]; show S0.r _ _ _ = _; rw [er]; exact hR.r2 a' p' g1 g2 g3 g4
  · rw [e64] at g2; have pc := hW.pc ⟨g1, g2⟩; rw [k (70 + 40 * a') (by omega) (by omega)] at g4; rw [k _ (by omega) (by omega)]; show S0.r _ _ _ = _; rw [er]; exact hR.r3 a' p' g1 g2 g3 g4
  · show S0.r i 4 = _; rw [er]; exact hR.f i
  · rw [s.1] at g2
    show (laS S0 (A 65) c x (S0.L x.toNat ||| ((1 : Int64) <<< (Int32.toInt64 (iI c) &&& 63)))).v t.toNat 0 = _
    by_cases e : t = A 65
    · subst e; rw [es, s.2.2.2.1, pk_un (by omega), pk_un (by omega), pk_us]
    · rw [ev _ (by omega), thA_n hW (by omega)]; exact hR.v0 t g1 (by omega)
  · rw [s.1] at g2
    show (laS S0 (A 65) c x (S0.L x.toNat ||| ((1 : Int64) <<< (Int32.toInt64 (iI c) &&& 63)))).v t.toNat 1 = _
    by_cases e : t = A 65
    · subst e; rw [es, s.2.1, pk_un (by omega), pk_us]
    · rw [ev _ (by omega), thA_n hW (by omega)]; exact hR.v1 t g1 (by omega)
  · rw [s.1] at g2
    show (laS S0 (A 65) c x (S0.L x.toNat ||| ((1 : Int64) <<< (Int32.toInt64 (iI c) &&& 63)))).v t.toNat 2 = _
    by_cases e : t = A 65
    · subst e; rw [es, s.2.2.1, pk_us]
    · rw [thA_n hW (by omega)] at g3
      rw [ev _ (by omega), thA_n hW (by omega)]; exact hR.v2 t g1 (by omega) g3
  · rw [s.1] at g2
    show (laS S0 (A 65) c x (S0.L x.toNat ||| ((1 : Int64) <<< (Int32.toInt64 (iI c) &&& 63)))).v t.toNat 3 = _
    by_cases e : t = A 65
    · subst e; exact absurd s.2.1 g3
    · rw [thA_n hW (by omega)] at g3
      rw [ev _ (by omega), thA_n hW (by omega)]; exact hR.v3 t g1 (by omega) g3
  · rw [s.1] at g2
    show (laS S0 (A 65) c x (S0.L x.toNat ||| ((1 : Int64) <<< (Int32.toInt64 (iI c) &&& 63)))).v t.toNat 4 = _
    by_cases e : t = A 65
    · subst e; exact absurd s.2.1 g3
    · rw [thA_n hW (by omega)] at g3
      rw [ev _ (by omega), thA_n hW (by omega)]; exact hR.v4 t g1 (by omega) g3
theorem K_thing (hW : WF A) {x y v : Int} (hx : rgI x) (hy : rgI y) (hv : rgI v) : KS tS X m D Q U A (f_X10_thing (some X) (iI x) (iI y) (iI v)) (f_X11_thing (some m) (iI x) (iI y) (iI v)) := by
  have hn := hW.n
  have hv' : -2147483648 ≤ v ∧ v < 2147483648 := hv
  by_cases c1 : (0 ≤ x ∧ x ≤ 7) ∧ 0 ≤ y ∧ y ≤ 7
  · by_cases c2 : 0 ≤ v ∧ v ≤ 3
    · obtain ⟨c, hc⟩ : ∃ c, c = 8 * y + x := ⟨_, rfl⟩
      have hc1 : 0 ≤ c ∧ c < 64 := by omega
      have hw := hW.w hc1.1 hc1.2
      by_cases c3 : A c = 1 ∨ ∃ t, ly A t c
      · refine KS_no (iI (-2)) hW (fun h n F S hX hQ s1 s2 => ?_) (fun h Y hM => ?_)
        · unfold f_X10_thing
          rw [C_isCell hx hy, z_b2_some]
          simp only [iI_lit, iI_add, iI_sub, iI_mul, iI_neg]
          rw [ite_tb, if_pos c1, C_isDigit hv, z_b2_some, ite_tb, if_pos c2]
          unfold f_X10_cellOf
          simp only [iI_lit, iI_add, iI_sub, iI_mul, iI_neg, z_b2_some]
          rw [← hc]
          simp (disch := omega) only [Xg0 hX, Option.bind_some, z_b2_some, z_i1_some, SW s1, s2.w, Sck s1, C_lyC s1 s2 hW, bset_or, cmpite]
          rw [if_pos c3]
        · unfold f_X11_thing
          rw [R_isCell hx hy, z_b2_some]
          simp only [iI_lit, iI_add, iI_sub, iI_mul, iI_neg]
          rw [ite_tb, if_pos c1, R_in2 (by omega), z_b2_some, ite_tb, if_pos c2, ← hc, Mg0 hM.1, Option.bind_some, M_all hM (by omega) (by omega), Option.bind_some]
          by_cases q : A c = 1
          · rw [if_pos (cEq q)]
          · rw [if_neg (nEq (by omega)), Mck hM.1, Option.bind_some, R_lyingAt hM hW (by omega), z_b2_some]
            rcases ly_cs hW c with ⟨g1, g2⟩ | ⟨t, g1, g2, g3⟩
            · exact absurd (c3.resolve_left q) g2
            · rw [g1, if_neg (nLt (by omega))]
      · have cw : A c = 0 := hw.resolve_right (fun q => c3 (Or.inl q))
        have cl : ¬ ∃ t, ly A t c := fun q => c3 (Or.inr q)
        by_cases c4 : A 65 < 8
        · refine ⟨iI (A 65), thA A c v, fun h n F hX hT hQ hS => ?_, fun h Y hM => ?_, WF_thing hW hc1 c2 c4 cw cl, fun j hj => thA_n hW (by omega)⟩
          · obtain ⟨S, s1, s2⟩ := hS
            have S1 := SAt_v s1 (i := (A 65).toNat) (by omega) (upd (S.v (A 65).toNat) 0 (iI v))
            obtain ⟨h2, k1, k2, k3⟩ := C_lay S1 (t := A 65) (c := c) (x := v) (by omega) c2 (by rw [sV_s]; exact pk_us)
            have S3 := SAt_o k2 (S' := sZ (laS (sV S (A 65).toNat (upd (S.v (A 65).toNat) 0 (iI v))) (A 65) c v ((sV S (A 65).toNat (upd (S.v (A 65).toNat) 0 (iI v))).L v.toNat ||| ((1 : Int64) <<< (Int32.toInt64 (iI c) &&& 63)))) 6 (iI (A 65 + 1))) rfl rfl rfl rfl rfl
            have z6a : (sV S (A 65).toNat (upd (S.v (A 65).toNat) 0 (iI v))).z 6 = iI (A 65) := s2.n6
            have z6b : (laS (sV S (A 65).toNat (upd (S.v (A 65).toNat) 0 (iI v))) (A 65) c v ((sV S (A 65).toNat (upd (S.v (A 65).toNat) 0 (iI v))).L v.toNat ||| ((1 : Int64) <<< (Int32.toInt64 (iI c) &&& 63)))).z 6 = iI (A 65) := s2.n6
            have f1 : fr (X + 1) 30 h h2 := fr_tr (fr_up (by omega) (by omega)) k3
            have f2 : fr (X + 1) 30 h _ := fr_tr f1 (fr_up (c := c0 (X + 1) (sZ (laS (sV S (A 65).toNat (upd (S.v (A 65).toNat) 0 (iI v))) (A 65) c v ((sV S (A 65).toNat (upd (S.v (A 65).toNat) 0 (iI v))).L v.toNat ||| ((1 : Int64) <<< (Int32.toInt64 (iI c) &&& 63)))) 6 (iI (A 65 + 1)))) (a := X + 1) (by omega) (by omega))
            refine ⟨_, F, ?_, ⟨_, S3, SRel_thing s2 hW hc1 c2 c4 _ rfl⟩, f2⟩
            have hX3 := (f2 X (by omega)).trans hX
            unfold f_X10_thing
            rw [C_isCell hx hy, z_b2_some]
            simp only [iI_lit, iI_add, iI_sub, iI_mul, iI_neg]
            rw [ite_tb, if_pos c1, C_isDigit hv, z_b2_some, ite_tb, if_pos c2]
            unfold f_X10_cellOf
            simp only [iI_lit, iI_add, iI_sub, iI_mul, iI_neg, z_b2_some]
            rw [← hc]
            simp (disch := omega) only [Xg0 hX, Option.bind_some, z_b2_some, z_i1_some, SW s1, s2.w, Sck s1, C_lyC s1 s2 hW, bset_or, cmpite]
            rw [if_neg c3, Sz6 s1, Option.bind_some, s2.n6, if_pos (cLt (by omega))]
            unfold f_X6_addThing
            simp only [iI_lit, iI_add, iI_sub, iI_mul, iI_neg]
            rw [Sg5 s1, Option.bind_some, Sz6 s1, Option.bind_some, s2.n6, Sthg s1 (by omega) (by omega), Option.bind_some, Tp s1 _ (by omega) (by omega), Option.bind_some, Sz6 S1, Option.bind_some, z6a, Sck S1, Option.bind_some, k1, Option.bind_some, Sz6 k2, Option.bind_some, z6b, iI_add, Sp6 k2, Option.bind_some, Option.bind_some, Xg0 hX3, Option.bind_some, Sz6 S3, Option.bind_some]
            show some (upd S.z 6 (iI (A 65 + 1)) 6 - iI 1, _) = _
            rw [pk_us, iI_sub, show A 65 + 1 - 1 = A 65 by omega]
          · have M1 := go1_ms hM (e := 490 + 4 * A 65) (v := 0) (by omega) (by omega)
            obtain ⟨Y1, a1, a2, a3⟩ := M1
            obtain ⟨Y2, b1, b2, b3⟩ := go1_ms a1 (e := 491 + 4 * A 65) (v := c) (by omega) (by omega)
            obtain ⟨Y3, d1, d2, d3⟩ := go1_ms b1 (e := 492 + 4 * A 65) (v := v) (by omega) (by omega)
            obtain ⟨Y4, e1, e2, e3⟩ := go1_ms d1 (e := 493 + 4 * A 65) (v := -4) (by omega) (by omega)
            obtain ⟨Y5, f1, f2, f3⟩ := go1_ms e1 (e := 65) (v := A 65 + 1) (by omega) (by omega)
            refine ⟨_, Y5, ?_, f1, kG_o1 (o1_tr (o1_tr (o1_tr (o1_tr a2 b2) d2) e2) f2), fr_tr (fr_tr (fr_tr (fr_tr a3 b3) d3) e3) f3⟩
            have g1 : 490 + 4 * A 65 + 1 = 491 + 4 * A 65 := by omega
            have g2 : 490 + 4 * A 65 + 2 = 492 + 4 * A 65 := by omega
            have g3 : 490 + 4 * A 65 + 3 = 493 + 4 * A 65 := by omega
            unfold f_X11_thing
            rw [R_isCell hx hy, z_b2_some]
            simp only [iI_lit, iI_add, iI_sub, iI_mul, iI_neg]
            rw [ite_tb, if_pos c1, R_in2 (by omega), z_b2_some, ite_tb, if_pos c2, ← hc, Mg0 hM.1, Option.bind_some, M_all hM (by omega) (by omega), Option.bind_some, if_neg (nEq (by omega)), Mck hM.1, Option.bind_some, R_lyingAt hM hW (by omega), z_b2_some, ly_no cl, if_pos (cLt (by omega)), Mg0 hM.1, Option.bind_some, M_all hM (by omega) (by omega), Option.bind_some, if_neg (nEq (by omega))]
            simp (disch := omega) only [Option.bind_some, R_thingAt, z_b2_some, M_set hM, Mg0 a1.1, iI_add, g1, g2, g3, M_set a1, Mg0 b1.1, M_set b1, Mg0 d1.1, M_set d1, Mg0 e1.1, M_all e1, uI_n, M_set e1]
        · refine KS_no (iI (-3)) hW (fun h n F S hX hQ s1 s2 => ?_) (fun h Y hM => ?_)
          · unfold f_X10_thing
            rw [C_isCell hx hy, z_b2_some]
            simp only [iI_lit, iI_add, iI_sub, iI_mul, iI_neg]
            rw [ite_tb, if_pos c1, C_isDigit hv, z_b2_some, ite_tb, if_pos c2]
            unfold f_X10_cellOf
            simp only [iI_lit, iI_add, iI_sub, iI_mul, iI_neg, z_b2_some]
            rw [← hc]
            simp (disch := omega) only [Xg0 hX, Option.bind_some, z_b2_some, z_i1_some, SW s1, s2.w, Sck s1, C_lyC s1 s2 hW, bset_or, cmpite]
            rw [if_neg c3, Sz6 s1, Option.bind_some, s2.n6, if_neg (nLt (by omega))]
          · unfold f_X11_thing
            rw [R_isCell hx hy, z_b2_some]
            simp only [iI_lit, iI_add, iI_sub, iI_mul, iI_neg]
            rw [ite_tb, if_pos c1, R_in2 (by omega), z_b2_some, ite_tb, if_pos c2, ← hc, Mg0 hM.1, Option.bind_some, M_all hM (by omega) (by omega), Option.bind_some, if_neg (nEq (by omega)), Mck hM.1, Option.bind_some, R_lyingAt hM hW (by omega), z_b2_some, ly_no cl, if_pos (cLt (by omega)), Mg0 hM.1, Option.bind_some, M_all hM (by omega) (by omega), Option.bind_some, if_pos (cEq (by omega))]
    · refine KS_no (iI (-1)) hW (fun h n F S hX hQ s1 s2 => ?_) (fun h Y hM => ?_)
      · unfold f_X10_thing
        rw [C_isCell hx hy, z_b2_some]
        simp only [iI_lit, iI_add, iI_sub, iI_mul, iI_neg]
        rw [ite_tb, if_pos c1, C_isDigit hv, z_b2_some, ite_tb, if_neg c2]
      · unfold f_X11_thing
        rw [R_isCell hx hy, z_b2_some]
        simp only [iI_lit, iI_add, iI_sub, iI_mul, iI_neg]
        rw [ite_tb, if_pos c1, R_in2 (by omega), z_b2_some, ite_tb, if_neg c2]
  · refine KS_no (iI (-1)) hW (fun h n F S hX hQ s1 s2 => ?_) (fun h Y hM => ?_)
    · unfold f_X10_thing
      rw [C_isCell hx hy, z_b2_some]
      simp only [iI_lit, iI_add, iI_sub, iI_mul, iI_neg]
      rw [ite_tb, if_neg c1]
    · unfold f_X11_thing
      rw [R_isCell hx hy, z_b2_some]
      simp only [iI_lit, iI_add, iI_sub, iI_mul, iI_neg]
      rw [ite_tb, if_neg c1]
end KT
