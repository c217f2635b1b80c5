section KD
variable {tS X m : Nat} {D : Nat → Prop} {Q : Int → List zKl} {U : Int → Option Nat} {A : Int → Int}
theorem C_isCutOff {h : zH} {n : Int32} {F : Nat → Nat → Int32} {S : zS} (hS : SAt h (X + 1) S) (hR : SRel A U F S) (hW : WF A) {a p : Int} (hv : vP A a p) : f_X0_isCutOff (some (X + 1 + 4 + 6 * a.toNat)) (iI p) h = some (tb (0 ≤ A (71 + 40 * a) ∧ A (71 + 40 * a) ≤ p), h) := by
  have hn := hW.n
  have v := hW.vp hv
  have m1 := hR.m1 a hv.1.1 hv.1.2
  have cc := cut_cs hW hv.1
  unfold f_X0_isCutOff
  rw [Ack hS (by omega), Option.bind_some, C_isCut hS hR hW hv.1, z_b2_some]
  simp only [iI_lit, iI_add, iI_sub, iI_mul, iI_neg]
  rw [ite_tb]
  refine ite_c (fun q => ?_) (fun q => ?_)
  · simp (disch := omega) only [An1 hS, m1, Option.bind_some, z_b2_some, z_i1_some, iteLt]
    refine ite_c (fun q1 => ?_) (fun q1 => ?_)
    · rw [tb_f (by omega)]
    · rw [tb_t (by omega)]
  · rw [tb_f (by omega)]
theorem K_piece (hW : WF A) {a p w : Int} (ha : rgI a) (hp : rgI p) (hw : rgI w) : KS tS X m D Q U A (f_X10_piece (some X) (iI a) (iI p) (iI w)) (f_X11_piece (some m) (iI a) (iI p) (iI w)) := by
  have hn := hW.n
  have hw' : -2147483648 ≤ w ∧ w < 2147483648 := hw
  by_cases hv : vP A a p
  · have v := hW.vp hv
    have hva := hv.1
    have hv2 := hv.2
    have cc := cut_cs hW hv.1
    have cs : ∀ h n F S, h X = oX X n → SAt h (X + 1) S → SRel A U F S → f_X10_piece (some X) (iI a) (iI p) (iI w) h = some (if w = 0 then iI (A (75 + 40 * a + p)) else if w = 1 then iI (A (82 + 40 * a + p)) else if w = 2 then iI (A (89 + 40 * a + p)) else if w = 3 then iI (A (96 + 40 * a + p)) else if w = 4 then tb (0 ≤ A (71 + 40 * a) ∧ A (71 + 40 * a) ≤ p) else if w = 5 then tb (isTip A a p) else iI (-1), h) := by
      intro h n F S hX s1 s2
      have r0 := s2.r0 a p hva.1 hva.2 hv2.1 hv2.2
      have r1 := s2.r1 a p hva.1 hva.2 hv2.1 hv2.2
      have r2 := s2.r2 a p hva.1 hva.2 hv2.1 hv2.2
      have r3 := s2.r3 a p hva.1 hva.2 hv2.1 hv2.2
      unfold f_X10_piece
      rw [Xck hX, Option.bind_some, C_isPiece hX s1 s2 hW ha hp, z_b2_some]
      simp only [iI_lit, iI_add, iI_sub, iI_mul, iI_neg]
      rw [ite_tb, if_pos hv]
      simp (disch := omega) only [Xg0 hX, Option.bind_some, z_b2_some, z_i1_some, Sg3 s1, Sarm s1, iteEq]
      by_cases w0 : w = 0
      · simp (disch := omega) only [if_pos w0, Ag4 s1, Option.bind_some, z_b2_some, z_i1_some, Arow s1, r0]
      simp (disch := omega) only [if_neg w0]
      by_cases w1 : w = 1
      · simp (disch := omega) only [if_pos w1, Ag5 s1, Option.bind_some, z_b2_some, z_i1_some, Arow s1, r1]
      simp (disch := omega) only [if_neg w1]
      by_cases w2 : w = 2
      · simp (disch := omega) only [if_pos w2, Ag6 s1, Option.bind_some, z_b2_some, z_i1_some, Arow s1, r2]
      simp (disch := omega) only [if_neg w2]
      by_cases w3 : w = 3
      · simp (disch := omega) only [if_pos w3, Ag7 s1, Option.bind_some, z_b2_some, z_i1_some, Arow s1, r3]
      simp (disch := omega) only [if_neg w3]
      by_cases w4 : w = 4
      · simp (disch := omega) only [if_pos w4, Ack s1, Option.bind_some, z_b2_some, z_i1_some, C_isCutOff (n := n) s1 s2 hW hv, ite_tb]
        refine ite_c (fun q => ?_) (fun q => ?_)
        · rw [tb_t q]
        · rw [tb_f q]
      simp (disch := omega) only [if_neg w4]
      by_cases w5 : w = 5
      · simp (disch := omega) only [if_pos w5, Ack s1, Option.bind_some, z_b2_some, z_i1_some, C_isTip s1 s2 hW hv, ite_tb]
        refine ite_c (fun q => ?_) (fun q => ?_)
        · rw [tb_t q]
        · rw [tb_f q]
      simp (disch := omega) only [if_neg w5]
    refine KS_no _ hW (fun h n F S hX hQ s1 s2 => cs h n F S hX s1 s2) (fun h Y hM => ?_)
    unfold f_X11_piece
    rw [Mck hM.1, Option.bind_some, R_isPiece hM hW ha hp, z_b2_some]
    simp only [iI_lit, iI_add, iI_sub, iI_mul, iI_neg]
    have e1 : 70 + 40 * a + 12 + p = 82 + 40 * a + p := by omega
    have e2 : 70 + 40 * a + 19 + p = 89 + 40 * a + p := by omega
    have e3 : 70 + 40 * a + 26 + p = 96 + 40 * a + p := by omega
    rw [ite_tb, if_pos hv]
    simp (disch := omega) only [iteEq]
    by_cases w0 : w = 0
    · simp (disch := omega) only [if_pos w0, Mck hM.1, Option.bind_some, z_b2_some, z_i1_some, R_cell hM]
    simp (disch := omega) only [if_neg w0]
    by_cases w1 : w = 1
    · simp (disch := omega) only [if_pos w1, Mg0 hM.1, Option.bind_some, z_b2_some, z_i1_some, R_of, iI_add, e1, M_all hM]
    simp (disch := omega) only [if_neg w1]
    by_cases w2 : w = 2
    · simp (disch := omega) only [if_pos w2, Mg0 hM.1, Option.bind_some, z_b2_some, z_i1_some, R_of, iI_add, e2, M_all hM]
    simp (disch := omega) only [if_neg w2]
    by_cases w3 : w = 3
    · simp (disch := omega) only [if_pos w3, Mg0 hM.1, Option.bind_some, z_b2_some, z_i1_some, R_of, iI_add, e3, M_all hM]
    simp (disch := omega) only [if_neg w3]
    by_cases w4 : w = 4
    · simp (disch := omega) only [if_pos w4, Mck hM.1, Option.bind_some, z_b2_some, z_i1_some, R_cutOf hM, iteLt]
      refine ite_c (fun q => ?_) (fun q => ite_c (fun q2 => ?_) (fun q2 => ?_))
      · rw [tb_f (by omega)]
      · rw [tb_f (by omega)]
      · rw [tb_t (by omega)]
    simp (disch := omega) only [if_neg w4]
    by_cases w5 : w = 5
    · simp (disch := omega) only [if_pos w5, Mck hM.1, Option.bind_some, z_b2_some, z_i1_some, R_isTip hM hW hv, ite_tb]
      refine ite_c (fun q => ?_) (fun q => ?_)
      · rw [tb_t q]
      · rw [tb_f q]
    simp (disch := omega) only [if_neg w5]
  · refine KS_no (iI (-1)) hW (fun h n F S hX hQ s1 s2 => ?_) (fun h Y hM => ?_)
    · unfold f_X10_piece
      rw [Xck hX, Option.bind_some, C_isPiece hX s1 s2 hW ha hp, z_b2_some]
      simp only [iI_lit, iI_add, iI_sub, iI_mul, iI_neg]
      rw [ite_tb, if_neg hv]
    · unfold f_X11_piece
      rw [Mck hM.1, Option.bind_some, R_isPiece hM hW ha hp, z_b2_some]
      simp only [iI_lit, iI_add, iI_sub, iI_mul, iI_neg]
      rw [ite_tb, if_neg hv]
theorem K_told (hW : WF A) {t w : Int} (ha : rgI t) (hw : rgI w) : KS tS X m D Q U A (f_X10_told (some X) (iI t) (iI w)) (f_X11_told (some m) (iI t) (iI w)) := by
  have hn := hW.n
  have hw' : -2147483648 ≤ w ∧ w < 2147483648 := hw
  by_cases hv : 0 ≤ t ∧ t < A 65
  · have wt := hW.t hv
    have wt1 := wt.1
    have wt2 := wt.2.1
    have e1 : 490 + 4 * t + 1 = 491 + 4 * t := by omega
    have e2 : 490 + 4 * t + 2 = 492 + 4 * t := by omega
    have e3 : 490 + 4 * t + 3 = 493 + 4 * t := by omega
    by_cases hq : 0 ≤ w ∧ w ≤ 3
    · have h93 : (A (490 + 4 * t) = 0 ∧ A (493 + 4 * t) = -4) ∨ (A (490 + 4 * t) = 1 ∧ vP A (A (493 + 4 * t) / 10) (A (493 + 4 * t) % 10) ∧ 0 ≤ A (493 + 4 * t) ∧ A (493 + 4 * t) ≤ 26) ∨ (A (490 + 4 * t) = 2 ∧ 0 ≤ A (493 + 4 * t) ∧ A (493 + 4 * t) ≤ 26) := by
        rcases wt1 with q | q | q
        · exact Or.inl ⟨q, (wt.2.2.2.1 q).2⟩
        · obtain ⟨a, p, k1, k2, k3⟩ := wt.2.2.2.2.1 q
          have v := hW.vp k1
          rw [k2, show (10 * a + p) / 10 = a by omega, show (10 * a + p) % 10 = p by omega]
          exact Or.inr (Or.inl ⟨q, k1, by omega, by omega⟩)
        · obtain ⟨a, k1, k2⟩ := wt.2.2.2.2.2 q
          exact Or.inr (Or.inr ⟨q, by omega, by omega⟩)
      have g93 : -4 ≤ A (493 + 4 * t) ∧ A (493 + 4 * t) ≤ 26 := by
        rcases h93 with q | q | q
        · omega
        · have := q.2.2; omega
        · omega
      refine KS_no (if w = 0 then iI (A (490 + 4 * t)) else if w = 1 then (if A (490 + 4 * t) = 0 then iI (A (491 + 4 * t)) else if A (490 + 4 * t) = 1 then iI (A (75 + 40 * (A (493 + 4 * t) / 10) + A (493 + 4 * t) % 10)) else iI (-4)) else if w = 2 then iI (A (492 + 4 * t)) else iI (A (493 + 4 * t))) hW (fun h n F S hX hQ s1 s2 => ?_) (fun h Y hM => ?_)
      · have v0 := s2.v0 t hv.1 hv.2
        have v1 := s2.v1 t hv.1 hv.2
        have v2 := s2.v2 t hv.1 hv.2
        have v3 := s2.v3 t hv.1 hv.2
        have v4 := s2.v4 t hv.1 hv.2
        unfold f_X10_told
        rw [Xck hX, Option.bind_some, C_isThing hX s1 s2 hW ha, z_b2_some]
        simp only [iI_lit, iI_add, iI_sub, iI_mul, iI_neg]
        rw [ite_tb, if_pos hv]
        simp (disch := omega) only [Xg0 hX, Option.bind_some, z_b2_some, z_i1_some, Sg5 s1, Sthg s1, iteEq]
        by_cases w0 : w = 0
        · simp (disch := omega) only [if_pos w0, Tv1 s1, v1, Option.bind_some, z_b2_some, z_i1_some]
        simp (disch := omega) only [if_neg w0]
        by_cases w1 : w = 1
        · simp (disch := omega) only [if_pos w1, Sck s1, Option.bind_some, z_b2_some, z_i1_some, f_X6_cellOfThing, Tv1 s1, v1, iI_lit, iI_add, iI_sub, iI_mul, iI_neg, iteEq]
          by_cases z2 : A (490 + 4 * t) = 2
          · rw [if_pos z2, if_neg (by omega), if_neg (by omega)]; rfl
          rw [if_neg z2]
          by_cases z0 : A (490 + 4 * t) = 0
          · rw [if_pos z0, if_pos z0]
            simp (disch := omega) only [Tv2 s1, v2 z0, Option.bind_some, z_b2_some, z_i1_some]
          rw [if_neg z0, if_neg z0, if_pos (by omega)]
          rcases h93 with q | q | q
          · omega
          · have vv := hW.vp q.2.1
            have r0 := s2.r0 _ _ q.2.1.1.1 q.2.1.1.2 q.2.1.2.1 q.2.1.2.2
            simp (disch := omega) only [Sg3 s1, Tv3 s1, v3 z0, Tv4 s1, v4 z0, Option.bind_some, z_b2_some, z_i1_some, Sarm s1, Ag4 s1, Arow s1, r0]
          · omega
        simp (disch := omega) only [if_neg w1]
        by_cases w2 : w = 2
        · simp (disch := omega) only [if_pos w2, Tv0 s1, v0, Option.bind_some, z_b2_some, z_i1_some]
        have w3 : w = 3 := by omega
        simp (disch := omega) only [if_neg w2, if_pos w3, Tv1 s1, v1, Option.bind_some, z_b2_some, z_i1_some, iteEq]
        by_cases z0 : A (490 + 4 * t) = 0
        · rw [if_pos z0, (wt.2.2.2.1 z0).2]
        · rw [if_neg z0]
          simp (disch := omega) only [Tv3 s1, v3 z0, Tv4 s1, v4 z0, Option.bind_some, z_b2_some, z_i1_some, iI_lit, iI_add, iI_sub, iI_mul, iI_neg]
          congr 3
          omega
      · unfold f_X11_told
        rw [Mck hM.1, Option.bind_some, R_isThing hM ha hn.2.1, z_b2_some]
        simp only [iI_lit, iI_add, iI_sub, iI_mul, iI_neg]
        rw [ite_tb, if_pos hv, R_in2 (by omega), z_b2_some, ite_tb, if_pos hq]
        simp (disch := omega) only [Mg0 hM.1, Option.bind_some, z_b2_some, z_i1_some, R_thingAt, iI_add, e1, e2, e3, M_all hM, iteEq]
        by_cases w1 : w = 1
        · rw [if_pos w1, if_neg (show ¬ w = 0 by omega), if_pos w1]
          by_cases z0 : A (490 + 4 * t) = 0
          · rw [if_pos z0, if_pos z0]
          rw [if_neg z0, if_neg z0]
          by_cases z1 : A (490 + 4 * t) = 1
          · rw [if_pos z1, if_pos z1]
            rcases h93 with q | q | q
            · omega
            · have vv := hW.vp q.2.1
              rw [Mck hM.1, Option.bind_some, iI_rem (by omega) (by omega) (by omega) (by omega), iI_div (by omega) (by omega) (by omega) (by omega), R_cell hM (by omega) (by omega), z_b2_some]
            · omega
          · rw [if_neg z1, if_neg z1]
        rw [if_neg w1]
        by_cases w0 : w = 0
        · rw [if_pos w0, if_pos w0]
        rw [if_neg w0, if_neg w0, if_neg w1]
        by_cases w2 : w = 2
        · rw [if_pos w2, if_pos w2]
        · rw [if_neg w2, if_neg w2]
    · refine KS_no (iI (-1)) hW (fun h n F S hX hQ s1 s2 => ?_) (fun h Y hM => ?_)
      · unfold f_X10_told
        rw [Xck hX, Option.bind_some, C_isThing hX s1 s2 hW ha, z_b2_some]
        simp only [iI_lit, iI_add, iI_sub, iI_mul, iI_neg]
        rw [ite_tb, if_pos hv]
        simp (disch := omega) only [Xg0 hX, Option.bind_some, z_b2_some, z_i1_some, Sg5 s1, Sthg s1, iteEq]
        rw [if_neg (by omega), if_neg (by omega), if_neg (by omega), if_neg (by omega)]
      · unfold f_X11_told
        rw [Mck hM.1, Option.bind_some, R_isThing hM ha hn.2.1, z_b2_some]
        simp only [iI_lit, iI_add, iI_sub, iI_mul, iI_neg]
        rw [ite_tb, if_pos hv, R_in2 (by omega), z_b2_some, ite_tb, if_neg hq]
  · refine KS_no (iI (-1)) hW (fun h n F S hX hQ s1 s2 => ?_) (fun h Y hM => ?_)
    · unfold f_X10_told
      rw [Xck hX, Option.bind_some, C_isThing hX s1 s2 hW ha, z_b2_some]
      simp only [iI_lit, iI_add, iI_sub, iI_mul, iI_neg]
      rw [ite_tb, if_neg hv]
    · unfold f_X11_told
      rw [Mck hM.1, Option.bind_some, R_isThing hM ha hn.2.1, z_b2_some]
      simp only [iI_lit, iI_add, iI_sub, iI_mul, iI_neg]
      rw [ite_tb, if_neg hv]
end KD
