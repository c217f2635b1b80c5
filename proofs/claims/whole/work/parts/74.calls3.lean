section KE
variable {tS X m : Nat} {D : Nat → Prop} {Q : Int → List zKl} {U : Int → Option Nat} {A : Int → Int}
theorem fmO_fmA (hW : WF A) {a : Int} (ha : 0 ≤ a ∧ a < A 64) (hcut : A (71 + 40 * a) < 0) : fmO A a = iI ((fmA A a : Nat) : Int) := by
  have pc := hW.pc ha
  unfold fmO fmA
  refine fmK_num (g := fun k : Nat => (sideTo (A (75 + 40 * a + (k : Int))) (A (75 + 40 * a + ((k : Int) + 1)))).toNat) _ (by omega) (fun k hk => ?_)
  have q := ((fmA_ok hW ha hcut).1 k (by omega)).1
  constructor
  · show _ = (((sideTo (A (75 + 40 * a + (k : Int))) (A (75 + 40 * a + ((k : Int) + 1)))).toNat : Nat) : Int)
    omega
  · show (sideTo (A (75 + 40 * a + (k : Int))) (A (75 + 40 * a + ((k : Int) + 1)))).toNat < 4
    omega
theorem K_form (hW : WF A) {a : Int} (ha : rgI a) : KS tS X m D Q U A (f_X10_form (some X) (iI a)) (f_X11_form (some m) (iI a)) := by
  have hn := hW.n
  by_cases c1 : 0 ≤ a ∧ a < A 64
  · have cc := cut_cs hW c1
    have pc := hW.pc c1
    refine KS_no (if A (71 + 40 * a) < 0 then fmO A a else iI (-2)) hW (fun h n F S hX hQ s1 s2 => ?_) (fun h Y hM => ?_)
    · unfold f_X10_form
      rw [Xck hX, Option.bind_some, C_isArm hX s1 s2 hW ha, z_b2_some]
      simp only [iI_lit, iI_add, iI_sub, iI_mul, iI_neg]
      rw [ite_tb, if_pos c1]
      simp (disch := omega) only [Xg0 hX, Option.bind_some, z_b2_some, z_i1_some, Sg3 s1, Sarm s1, Ack s1, C_isCut s1 s2 hW c1, ite_tb]
      by_cases q : A (71 + 40 * a) < 0
      · rw [if_neg (by omega), if_pos q, C_formNow s1 s2 hW c1 q, z_b2_some, fmO_fmA hW c1 q]
      · rw [if_pos (by omega), if_neg q]
    · unfold f_X11_form
      rw [Mck hM.1, Option.bind_some, R_isArm hM ha hn.1, z_b2_some]
      simp only [iI_lit, iI_add, iI_sub, iI_mul, iI_neg]
      rw [ite_tb, if_pos c1]
      simp (disch := omega) only [Mck hM.1, Option.bind_some, z_b2_some, z_i1_some, R_cutOf hM, iteLt]
      by_cases q : A (71 + 40 * a) < 0
      · rw [if_pos q, if_pos q, R_formOf hM (by omega) pc (fun p g1 g2 => hW.ce ⟨c1, g1, g2⟩), z_b2_some]
      · rw [if_neg q, if_neg q]
  · refine KS_no (iI (-1)) hW (fun h n F S hX hQ s1 s2 => ?_) (fun h Y hM => ?_)
    · unfold f_X10_form
      rw [Xck hX, Option.bind_some, C_isArm hX s1 s2 hW ha, z_b2_some]
      simp only [iI_lit, iI_add, iI_sub, iI_mul, iI_neg]
      rw [ite_tb, if_neg c1]
    · unfold f_X11_form
      rw [Mck hM.1, Option.bind_some, R_isArm hM ha hn.1, z_b2_some]
      simp only [iI_lit, iI_add, iI_sub, iI_mul, iI_neg]
      rw [ite_tb, if_neg c1]
theorem C_canEver {h : zH} {F : Nat → Nat → Int32} {S : zS} (hS : SAt h (X + 1) S) (hR : SRel A U F S) (hW : WF A) {a p : Int} (hv : vP A a p) : f_X0_canEverMove (some (X + 1 + 4 + 6 * a.toNat)) (iI p) h = some (tb (1 ≤ p ∧ p ≠ A (71 + 40 * a)), h) := by
  have hn := hW.n
  have v := hW.vp hv
  have m1 := hR.m1 a hv.1.1 hv.1.2
  have cc := cut_cs hW hv.1
  simp (disch := omega) only [f_X0_canEverMove, An1 hS, m1, Option.bind_some, z_b2_some, z_i1_some, iI_lit, iI_add, iI_sub, iI_mul, iI_neg, iteLe, iteEq]
  refine ite_c (fun q => ?_) (fun q => ite_c (fun q2 => ?_) (fun q2 => ?_))
  · rw [tb_f (by omega)]
  · rw [tb_f (by omega)]
  · rw [tb_t (by omega)]
theorem K_flip (hW : WF A) {a p : Int} (ha : rgI a) (hp : rgI p) : KS tS X m D Q U A (f_X10_flip tS (some X) (iI a) (iI p)) (f_X11_flip (some m) (iI a) (iI p)) := by
  have hn := hW.n
  by_cases hv : vP A a p
  · have v := hW.vp hv
    have hva := hv.1
    have hv2 := hv.2
    have cc := cut_cs hW hv.1
    have g := goesTo_rg hW hv
    have e5 : 70 + 40 * a + 5 + p = 75 + 40 * a + p := by omega
    by_cases c2 : 1 ≤ p ∧ p ≠ A (71 + 40 * a)
    · have R0 : ∀ h Y, MR h m A Y → f_X11_flip (some m) (iI a) (iI p) h = if 0 ≤ goesTo A a p then (z_sI h (some (m + 1)) (iI (75 + 40 * a + p)) (iI (goesTo A a p))).bind (fun h13 => some (iI (goesTo A a p), h13)) else some (iI (-2), h) := by
        intro h Y hM
        unfold f_X11_flip
        rw [Mck hM.1, Option.bind_some, R_isPiece hM hW ha hp, z_b2_some]
        simp only [iI_lit, iI_add, iI_sub, iI_mul, iI_neg]
        rw [ite_tb, if_pos hv, if_neg (nEq (by omega)), Mck hM.1, Option.bind_some, R_cutOf hM (by omega), z_b2_some, if_neg (nEq (by omega)), Mck hM.1, Option.bind_some, R_goesTo hM hW hv, z_b2_some]
        simp (disch := omega) only [iteLe, Mg0 hM.1, Option.bind_some, z_b2_some, z_i1_some, R_of, iI_add, e5]
      have C0 : ∀ h n F S, h X = oX X n → SAt h (X + 1) S → SRel A U F S → f_X10_flip tS (some X) (iI a) (iI p) h = z_b2 (f_X6_move tS (some (X + 1)) (some (X + 1 + 4 + 6 * a.toNat)) (iI p) h) fun v16 h15 =>
          if v16 = iI 0 then some (iI (-2), h15) else
        (z_gA h15 10 0 (some X)).bind fun v17 =>
        (z_gA h15 6 3 v17).bind fun v18 =>
        (z_aA h15 v18 (iI a)).bind fun v19 =>
        (z_gA h15 0 4 v19).bind fun v20 =>
        (z_aI h15 v20 (iI p)).bind fun v21 =>
        some (v21, h15) := by
        intro h n F S hX s1 s2
        unfold f_X10_flip
        rw [Xck hX, Option.bind_some, C_isPiece hX s1 s2 hW ha hp, z_b2_some]
        simp only [iI_lit, iI_add, iI_sub, iI_mul, iI_neg]
        rw [ite_tb, if_pos hv]
        simp (disch := omega) only [Xg0 hX, Option.bind_some, z_b2_some, z_i1_some, Sg3 s1, Sarm s1, Ack s1, C_canEver s1 s2 hW hv, ite_tb, if_pos c2, Sck s1]
      refine ⟨if 0 ≤ goesTo A a p then iI (goesTo A a p) else iI (-2), sFlip A a p, fun h n F hX hT hQ hS => ?_, stR_go fun h Y hM => ?_, WF_flip hW hv, ?_⟩
      · obtain ⟨h', k1, k2, k3⟩ := C_move hT hS hW hv c2.1 c2.2
        refine ⟨h', F, ?_, k2, k3⟩
        obtain ⟨S, s1, s2⟩ := hS
        rw [C0 h n F S hX s1 s2, k1, z_b2_some, ite_tb]
        by_cases q : 0 ≤ goesTo A a p
        · rw [if_pos q, if_pos q]
          obtain ⟨S', t1, t2⟩ := k2
          have hX' : h' X = oX X n := by rw [k3 X (by omega)]; exact hX
          rw [sFlip_y (by omega)] at t2
          have r0 := t2.r0 a p hva.1 (by rw [uI_n _ _ (by omega)]; exact hva.2) hv2.1 (by rw [uI_n _ _ (by omega)]; exact hv2.2)
          rw [uI_s] at r0
          simp (disch := omega) only [Xg0 hX', Option.bind_some, z_b2_some, z_i1_some, Sg3 t1, Sarm t1, Ag4 t1, Arow t1, r0]
        · rw [if_neg q, if_neg q]
      · by_cases q : 0 ≤ goesTo A a p
        · refine ⟨ms h m (75 + 40 * a + p) (goesTo A a p), ?_, ?_⟩
          · rw [R0 h Y hM, if_pos q, if_pos q, M_set hM (by omega) (by omega), Option.bind_some]
          · rw [sFlip_y (by omega)]; exact go1_ms hM (by omega) (by omega)
        · refine ⟨h, ?_, ?_⟩
          · rw [R0 h Y hM, if_neg q, if_neg q]
          · rw [sFlip_n (by omega)]; exact go1_rf hM
      · unfold sFlip; exact kX_uI _ _ (by omega)
    · refine KS_no (iI (-1)) hW (fun h n F S hX hQ s1 s2 => ?_) (fun h Y hM => ?_)
      · unfold f_X10_flip
        rw [Xck hX, Option.bind_some, C_isPiece hX s1 s2 hW ha hp, z_b2_some]
        simp only [iI_lit, iI_add, iI_sub, iI_mul, iI_neg]
        rw [ite_tb, if_pos hv]
        simp (disch := omega) only [Xg0 hX, Option.bind_some, z_b2_some, z_i1_some, Sg3 s1, Sarm s1, Ack s1, C_canEver s1 s2 hW hv, ite_tb, if_neg c2]
      · unfold f_X11_flip
        rw [Mck hM.1, Option.bind_some, R_isPiece hM hW ha hp, z_b2_some]
        simp only [iI_lit, iI_add, iI_sub, iI_mul, iI_neg]
        rw [ite_tb, if_pos hv]
        by_cases q : p = 0
        · rw [if_pos (cEq q)]
        · rw [if_neg (nEq (by omega)), Mck hM.1, Option.bind_some, R_cutOf hM (by omega), z_b2_some, if_pos (cEq (by omega))]
  · refine KS_no (iI (-1)) hW (fun h n F S hX hQ s1 s2 => ?_) (fun h Y hM => ?_)
    · unfold f_X10_flip
      rw [Xck hX, Option.bind_some, C_isPiece hX s1 s2 hW ha hp, z_b2_some]
      simp only [iI_lit, iI_add, iI_sub, iI_mul, iI_neg]
      rw [ite_tb, if_neg hv]
    · unfold f_X11_flip
      rw [Mck hM.1, Option.bind_some, R_isPiece hM hW ha hp, z_b2_some]
      simp only [iI_lit, iI_add, iI_sub, iI_mul, iI_neg]
      rw [ite_tb, if_neg hv]
theorem K_cut (hW : WF A) {a p : Int} (ha : rgI a) (hp : rgI p) : KS tS X m D Q U A (f_X10_cut (some X) (iI a) (iI p)) (f_X11_cut (some m) (iI a) (iI p)) := by
  have hn := hW.n
  by_cases hv : vP A a p
  · have v := hW.vp hv
    have hva := hv.1
    have hv2 := hv.2
    have pc := hW.pc hv.1
    have cc := cut_cs hW hv.1
    have e1 : 70 + 40 * a + 1 = 71 + 40 * a := by omega
    by_cases p0 : p = 0
    · refine KS_no (iI (-1)) hW (fun h n F S hX hQ s1 s2 => ?_) (fun h Y hM => ?_)
      · unfold f_X10_cut
        rw [Xck hX, Option.bind_some, C_isPiece hX s1 s2 hW ha hp, z_b2_some]
        simp only [iI_lit, iI_add, iI_sub, iI_mul, iI_neg]
        rw [ite_tb, if_pos hv, if_pos (cEq p0)]
      · unfold f_X11_cut
        rw [Mck hM.1, Option.bind_some, R_isPiece hM hW ha hp, z_b2_some]
        simp only [iI_lit, iI_add, iI_sub, iI_mul, iI_neg]
        rw [ite_tb, if_pos hv, if_pos (cEq p0)]
    · by_cases q : A (71 + 40 * a) < 0
      · have q4 : A (71 + 40 * a) = -4 := by omega
        refine ⟨iI (A (70 + 40 * a) - p), uI A (71 + 40 * a) p, fun h n F hX hT hQ hS => ?_, stR_go fun h Y hM => ⟨_, ?_, go1_ms hM (e := 71 + 40 * a) (v := p) (by omega) (by omega)⟩, WF_cut hW hv (by omega) q4, kX_uI _ _ (by omega)⟩
        · obtain ⟨S, s1, s2⟩ := hS
          have S1 := SAt_n s1 (i := a.toNat) (j := 1) (iI p) (by omega)
          have n0 : (sN S a.toNat 1 (iI p)).n a.toNat 0 = iI (A (70 + 40 * a)) := by rw [sN_n _ _ (Or.inr (by omega))]; exact s2.m0 a hva.1 hva.2
          refine ⟨_, F, ?_, ⟨_, S1, SRel_cut s2 hW hva (by omega)⟩, fr_up (by omega) (by omega)⟩
          unfold f_X10_cut
          rw [Xck hX, Option.bind_some, C_isPiece hX s1 s2 hW ha hp, z_b2_some]
          simp only [iI_lit, iI_add, iI_sub, iI_mul, iI_neg]
          rw [ite_tb, if_pos hv, if_neg (nEq (by omega))]
          simp (disch := omega) only [Xg0 hX, Option.bind_some, z_b2_some, z_i1_some, Sg3 s1, Sarm s1, Ack s1, C_isCut s1 s2 hW hva, ite_tb, Ap1 s1, An0 S1, n0, iI_sub]
          rw [if_neg (by omega)]
        · unfold f_X11_cut
          rw [Mck hM.1, Option.bind_some, R_isPiece hM hW ha hp, z_b2_some]
          simp only [iI_lit, iI_add, iI_sub, iI_mul, iI_neg]
          rw [ite_tb, if_pos hv, if_neg (nEq (by omega)), Mck hM.1, Option.bind_some, R_cutOf hM (by omega), z_b2_some, if_pos (cLt (by omega))]
          have M1 := M_ms hM (71 + 40 * a) p (by omega) (by omega)
          simp (disch := omega) only [Mg0 hM.1, Option.bind_some, z_b2_some, z_i1_some, R_of, e1, M_set hM, Mck M1.1, R_pieces M1, uI_n, iI_sub]
      · refine KS_no (iI (-2)) hW (fun h n F S hX hQ s1 s2 => ?_) (fun h Y hM => ?_)
        · unfold f_X10_cut
          rw [Xck hX, Option.bind_some, C_isPiece hX s1 s2 hW ha hp, z_b2_some]
          simp only [iI_lit, iI_add, iI_sub, iI_mul, iI_neg]
          rw [ite_tb, if_pos hv, if_neg (nEq (by omega))]
          simp (disch := omega) only [Xg0 hX, Option.bind_some, z_b2_some, z_i1_some, Sg3 s1, Sarm s1, Ack s1, C_isCut s1 s2 hW hva, ite_tb]
          rw [if_pos (by omega)]
        · unfold f_X11_cut
          rw [Mck hM.1, Option.bind_some, R_isPiece hM hW ha hp, z_b2_some]
          simp only [iI_lit, iI_add, iI_sub, iI_mul, iI_neg]
          rw [ite_tb, if_pos hv, if_neg (nEq (by omega)), Mck hM.1, Option.bind_some, R_cutOf hM (by omega), z_b2_some, if_neg (nLt (by omega))]
  · refine KS_no (iI (-1)) hW (fun h n F S hX hQ s1 s2 => ?_) (fun h Y hM => ?_)
    · unfold f_X10_cut
      rw [Xck hX, Option.bind_some, C_isPiece hX s1 s2 hW ha hp, z_b2_some]
      simp only [iI_lit, iI_add, iI_sub, iI_mul, iI_neg]
      rw [ite_tb, if_neg hv]
    · unfold f_X11_cut
      rw [Mck hM.1, Option.bind_some, R_isPiece hM hW ha hp, z_b2_some]
      simp only [iI_lit, iI_add, iI_sub, iI_mul, iI_neg]
      rw [ite_tb, if_neg hv]
theorem K_finds (hW : WF A) (hTX : ∀ a, 0 ≤ a → a < A 64 → TX A a (Q a)) {a p : Int} (ha : rgI a) (hp : rgI p) : KS tS X m D Q U A (f_X10_finds (some X) (iI a) (iI p)) (f_X11_finds (some m) (iI a) (iI p)) := by
  have hn := hW.n
  by_cases hv : vP A a p
  · have v := hW.vp hv
    have hva := hv.1
    have tx := hTX a hva.1 hva.2
    by_cases p0 : p = 0
    · refine KS_no (iI (-1)) hW (fun h n F S hX hQ s1 s2 => ?_) (fun h Y hM => ?_)
      · unfold f_X10_finds
        rw [Xck hX, Option.bind_some, C_isPiece hX s1 s2 hW ha hp, z_b2_some]
        simp only [iI_lit, iI_add, iI_sub, iI_mul, iI_neg]
        rw [ite_tb, if_pos hv, if_pos (cEq p0)]
      · unfold f_X11_finds
        rw [Mck hM.1, Option.bind_some, R_isPiece hM hW ha hp, z_b2_some]
        simp only [iI_lit, iI_add, iI_sub, iI_mul, iI_neg]
        rw [ite_tb, if_pos hv, if_pos (cEq p0)]
    · refine ⟨iI (fndx A a p (Q a) 0), A, fun h n F hX hT hQ hS => ?_, fun h Y hM => ?_, hW, kX_rf A⟩
      · obtain ⟨S, s1, s2⟩ := id hS
        refine ⟨h, F, ?_, hS, fr_rf _ _ _⟩
        unfold f_X10_finds
        rw [Xck hX, Option.bind_some, C_isPiece hX s1 s2 hW ha hp, z_b2_some]
        simp only [iI_lit, iI_add, iI_sub, iI_mul, iI_neg]
        rw [ite_tb, if_pos hv, if_neg (nEq (by omega))]
        simp (disch := omega) only [Xg0 hX, Option.bind_some, z_b2_some, z_i1_some, Sg3 s1, Sarm s1, Sck s1]
        rw [C_clauseFor s1 s2 hW hv (by omega) (hQ a hva.1 hva.2) tx.1.1 tx.1.2.1, z_b2_some]
      · obtain ⟨h', Y', k1, k2, k3, k4, -⟩ := R_findsOf hM hW hv (by omega) tx
        refine ⟨h', Y', ?_, k2, kG_sm k3, k4⟩
        unfold f_X11_finds
        rw [Mck hM.1, Option.bind_some, R_isPiece hM hW ha hp, z_b2_some]
        simp only [iI_lit, iI_add, iI_sub, iI_mul, iI_neg]
        rw [ite_tb, if_pos hv, if_neg (nEq (by omega)), Mck hM.1, Option.bind_some, k1, z_b2_some]
  · refine KS_no (iI (-1)) hW (fun h n F S hX hQ s1 s2 => ?_) (fun h Y hM => ?_)
    · unfold f_X10_finds
      rw [Xck hX, Option.bind_some, C_isPiece hX s1 s2 hW ha hp, z_b2_some]
      simp only [iI_lit, iI_add, iI_sub, iI_mul, iI_neg]
      rw [ite_tb, if_neg hv]
    · unfold f_X11_finds
      rw [Mck hM.1, Option.bind_some, R_isPiece hM hW ha hp, z_b2_some]
      simp only [iI_lit, iI_add, iI_sub, iI_mul, iI_neg]
      rw [ite_tb, if_neg hv]
end KE
