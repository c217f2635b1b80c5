section RL
variable {X m : Nat} {D : Nat → Prop} {Q : Int → List zKl} {U : Int → Option Nat} {A : Int → Int} {T : Nat → Int} {N : Nat}
theorem C_rules_x {h : zH} {nx z : Nat} {n : Int32} {F : Nat → Nat → Int32} (hW : WF A) (hX : h X = oX X n) (hS : SR h (X + 1) A U F) {a : Int} (ha : rgI a) (c : ¬ (0 ≤ a ∧ a < A 64)) : f_X10_rules (some X) (iI a) h nx z = some ((nx, z), (iI (-1), h)) := by
  obtain ⟨S, s1, s2⟩ := hS
  unfold f_X10_rules
  rw [Xck hX, Option.bind_some, C_isArm hX s1 s2 hW ha, z_b2_some]
  simp only [iI_lit, iI_add, iI_sub, iI_mul, iI_neg]
  rw [ite_tb, if_neg c]
theorem C_rules {h : zH} {nx z : Nat} {F : Nat → Nat → Int32} (hW : WF A) (hX : h X = oX X (iI (N : Int))) (hS : SR h (X + 1) A U F) (hT : TPE T N (X + 33) h) (hN : N ≤ 100) (hc : ∀ k, k < N → 32 ≤ T k ∧ T k ≤ 126) (hr : ∃ x0 x1 x2 x3 x4, h (X + 34) = .inr (4, [tA x0, tI x1, tI x2, tI x3, tI x4])) (hnx : X + 221 ≤ nx) {a : Int} (ha : rgI a) (c : 0 ≤ a ∧ a < A 64) :
    ∃ (nx' z' : Nat) (h' : zH) (r : Int), f_X10_rules (some X) (iI a) h nx z = some ((nx', z'), (iI r, h')) ∧ (nx ≤ nx' ∧ nx' ≤ nx + 126) ∧ (z ≤ z' ∧ z' ≤ z + 610) ∧ h' X = oX X (iI 0) ∧ (∃ x0 x1 x2 x3 x4, h' (X + 34) = .inr (4, [tA x0, tI x1, tI x2, tI x3, tI x4])) ∧ (∀ q, q < nx → q ≠ X → q ≠ X + 34 → ¬ (X + 1 ≤ q ∧ q < X + 31) → h' q = h q) ∧
    ((∃ q' u, SR h' (X + 1) (txA A a (rs T N 0) (q'.length : Int)) (fun x => if x = a then u else U x) F ∧ RU (rg nx nx') h' u q' ∧ vQ q' ∧ q' ≠ [] ∧ rs T N 0 = prQ q' ∧ smf T N 0 (0, 0, 0, 1) = (-4, (q'.length : Int)) ∧ r = (q'.length : Int)) ∨ (SR h' (X + 1) A U F ∧ 0 ≤ (smf T N 0 (0, 0, 0, 1)).1 ∧ (smf T N 0 (0, 0, 0, 1)).1 ≤ 100 ∧ r = -20 - (smf T N 0 (0, 0, 0, 1)).1)) := by
  have hn := hW.n
  obtain ⟨S, s1, s2⟩ := hS
  obtain ⟨x0, x1, x2, x3, x4, hcell⟩ := hr
  obtain ⟨nx', z', h1, u, e1, e2, e3, e4, ⟨y0, y1, y2, y3, e5⟩, e6⟩ := C_read (rd := X + 34) (tp := X + 33) (z := z) ⟨hN, hc, by omega⟩ hT hcell (by omega) (show X + 33 < nx by omega)
  have fz1 : ∀ q, q < nx → q ≠ X + 34 → h1 q = h q := fun q h1 h2 => e4 q (by omega) (by omega)
  have hX1 : h1 X = oX X (iI (N : Int)) := by rw [fz1 X (by omega) (by omega)]; exact hX
  have t1 : SAt (z_up h1 X (oX X (iI 0))) (X + 1) S := SAt_fr s1 (fun q g1 g2 => by rw [z_up_n _ _ (by omega)]; exact fz1 q (by omega) (by omega))
  have ck : z_ck h 4 (some (X + 34)) = some (X + 34) := z_ck_k hcell
  have e0 : f_X10_rules (some X) (iI a) h nx z = f_X10_rules_b25 (some X) (iI a) u h1 nx' z' := by
    unfold f_X10_rules
    rw [Xck hX, Option.bind_some, C_isArm hX s1 s2 hW ha, z_b2_some]
    simp only [iI_lit, iI_add, iI_sub, iI_mul, iI_neg]
    rw [ite_tb, if_pos c, Xg5 hX, Option.bind_some, Xg3 hX, Option.bind_some, Xi4 hX, Option.bind_some, ck, Option.bind_some, e1, Option.bind_some]
  have hX2 : z_up h1 X (oX X (iI 0)) X = oX X (iI 0) := z_up_s _ _ _
  rcases e6 with ⟨q', g1, g2, g3, g4, g5, g6⟩ | ⟨g1, g2, g3⟩
  · have S2 := SAt_u t1 (i := a.toNat) u (by omega)
    have g6' : RU (rg nx nx') (z_up (z_up h1 X (oX X (iI 0))) (X + 1 + 4 + 6 * a.toNat) (cA (X + 1) a.toNat (sU S a.toNat u))) u q' := RU_mono (fun q hq => ⟨hq, by have := hq.1; rw [z_up_n _ _ (by omega), z_up_n _ _ (by omega)]⟩) g2
    refine ⟨nx', z', _, (q'.length : Int), ?_, e2, e3, ?_, ?_, fun q h1 h2 h3 h4 => ?_, Or.inl ⟨q', u, ⟨_, S2, ?_⟩, g6', g3, g4, g5, g6, rfl⟩⟩
    · rw [e0]
      unfold f_X10_rules_b25
      simp only [iI_lit, iI_add, iI_sub, iI_mul, iI_neg]
      have gi : z_gI (z_up (z_up h1 X (oX X (iI 0))) (X + 1 + 4 + 6 * a.toNat) (cA (X + 1) a.toNat (sU S a.toNat u))) 5 1 u = some (iI (q'.length : Int)) := by
        obtain ⟨e, -⟩ | ⟨r, k, hd, e, -, h2, -⟩ := g6'
        · exact absurd e g1
        · subst e; exact z_gI_k h2 rfl
      rw [Xp4 hX1, Option.bind_some, if_neg g1, Xg0 hX2, Option.bind_some, Sg3 t1, Option.bind_some, Sarm t1 (by omega) (by omega), Option.bind_some, ApU t1 u (by omega), Option.bind_some, gi, Option.bind_some]
    · rw [z_up_n _ _ (by omega)]; exact hX2
    · exact ⟨_, _, _, _, _, by rw [z_up_n _ _ (by omega), z_up_n _ _ (by omega)]; exact e5⟩
    · rw [z_up_n _ _ (by omega), z_up_n _ _ h2]; exact fz1 q h1 h3
    · have lr : (rs T N 0).length ≤ 100 := by rw [g5]; exact g3.2.2
      have R1 : SRel A (fun x => if x = a then u else U x) F (sU S a.toNat u) := by
        refine ⟨s2.w, s2.k, s2.l, s2.n4, s2.n6, s2.n7, s2.n8, s2.m0, s2.m1, s2.m2, fun a' k1 k2 => ?_, s2.r0, s2.r1, s2.r2, s2.r3, s2.f, s2.v0, s2.v1, s2.v2, s2.v3, s2.v4⟩
        show updR S.u a.toNat u a'.toNat = if a' = a then u else U a'
        by_cases e : a' = a
        · subst e; rw [updR_s, if_pos rfl]
        · rw [updR_n _ _ (by omega), if_neg e]; exact s2.u a' k1 k2
      exact SRel_cg R1 hW (fun j hj => txA_n A (by omega) lr _ (by unfold dW at hj; omega)) (txA_n A (by omega) lr _ (by omega)) (fun _ _ _ => rfl)
  · refine ⟨nx', z', _, -20 - (smf T N 0 (0, 0, 0, 1)).1, ?_, e2, e3, hX2, ⟨_, _, _, _, _, by rw [z_up_n _ _ (by omega)]; exact e5⟩, fun q h1 h2 h3 h4 => by rw [z_up_n _ _ h2]; exact fz1 q h1 h3, Or.inr ⟨⟨S, t1, s2⟩, g2, g3, rfl⟩⟩
    rw [e0]
    unfold f_X10_rules_b25
    simp only [iI_lit, iI_add, iI_sub, iI_mul, iI_neg]
    have gi : z_gI (z_up h1 X (oX X (iI 0))) 4 4 (some (X + 34)) = some (iI (smf T N 0 (0, 0, 0, 1)).1) := by
      rw [if_pos g1] at e5
      refine z_gI_k (by rw [z_up_n _ _ (by omega)]; exact e5) rfl
    rw [Xp4 hX1, Option.bind_some, if_pos g1, Xg5 hX2, Option.bind_some, gi, Option.bind_some, iI_sub]
theorem R_rules_x {h : zH} {Y : Nat → Nat → Int32} (hM : MR h m A Y) (hW : WF A) {a : Int} (ha : rgI a) (c : ¬ (0 ≤ a ∧ a < A 64)) : f_X11_rules (some m) (iI a) h = some (iI (-1), h) := by
  unfold f_X11_rules
  rw [Mck hM.1, Option.bind_some, R_isArm hM ha hW.n.1, z_b2_some]
  simp only [iI_lit, iI_add, iI_sub, iI_mul, iI_neg]
  rw [ite_tb, if_neg c]
def kU (Y Y' : Nat → Nat → Int32) : Prop := ∀ k, (k = 2 ∨ k = 3 ∨ (5 ≤ k ∧ k ≤ 8)) → Y' k = Y k
theorem R_rules {h : zH} {Y : Nat → Nat → Int32} (hM : MR h m A Y) (hW : WF A) (hY : Y 0 4 = iI (N : Int)) (hT : ∀ k, k < N → Y 5 k = iI (T k)) (hN : N ≤ 100) (hc : ∀ k, k < N → 32 ≤ T k ∧ T k ≤ 126) {a : Int} (ha : rgI a) (c : 0 ≤ a ∧ a < A 64) :
    (∀ cl : Int, smf T N 0 (0, 0, 0, 1) = (-4, cl) → ∃ h' Y', f_X11_rules (some m) (iI a) h = some (iI cl, h') ∧ MR h' m (txA A a (rs T N 0) cl) Y' ∧ Y' 0 4 = iI 0 ∧ kU Y Y' ∧ fr m 19 h h') ∧
    (0 ≤ (smf T N 0 (0, 0, 0, 1)).1 ∧ (smf T N 0 (0, 0, 0, 1)).1 ≤ 100 → ∃ h' Y', f_X11_rules (some m) (iI a) h = some (iI (-20 - (smf T N 0 (0, 0, 0, 1)).1), h') ∧ MR h' m A Y' ∧ Y' 0 4 = iI 0 ∧ kU Y Y' ∧ fr m 19 h h') := by
  have hn := hW.n
  obtain ⟨h1, Y1, e1, e2, e3, e4, e5⟩ := R_faultOf hM hN hc hY hT
  have y4 : Y1 0 4 = iI (N : Int) := (e3.2 4 (by omega)).trans hY
  have M2 := MR_up e2 (k := 0) (by omega) (by omega) (upd (Y1 0) 4 (iI 0))
  have e0 : f_X11_rules (some m) (iI a) h = if iI (smf T N 0 (0, 0, 0, 1)).1 < iI 0 then f_X11_rules_b40 (some m) (iI a) (iI (N : Int)) (iI 0) (iI 0) (z_up h1 m (mL m 0 (upd (Y1 0) 4 (iI 0)))) else some (iI (-20) - iI (smf T N 0 (0, 0, 0, 1)).1, z_up h1 m (mL m 0 (upd (Y1 0) 4 (iI 0)))) := by
    unfold f_X11_rules
    rw [Mck hM.1, Option.bind_some, R_isArm hM ha hn.1, z_b2_some]
    simp only [iI_lit, iI_neg]
    rw [ite_tb, if_pos c, Mck hM.1, Option.bind_some, e1, z_b2_some, Mi4 e2.1, Option.bind_some, y4, Mp4 e2.1, Option.bind_some]
  have k2 : kU Y (updR Y1 0 (upd (Y1 0) 4 (iI 0))) := fun k hk => by rw [updR_n _ _ (by omega)]; exact e3.1 k (by omega)
  have f2 : fr m 19 h (z_up h1 m (mL m 0 (upd (Y1 0) 4 (iI 0)))) := fr_tr e4 (fr_up (by omega) (by omega))
  have z4 : (updR Y1 0 (upd (Y1 0) 4 (iI 0))) 0 4 = iI 0 := by rw [updR_s]; exact pk_us
  constructor
  · intro cl hs
    have y10 : (updR Y1 0 (upd (Y1 0) 4 (iI 0))) 0 10 = iI cl := by
      rw [updR_s, pk_un (by omega), e5 (by rw [hs]), hs]
    obtain ⟨h', k1, Y', k3, k4, k5⟩ := R_rulesL M2 (a := a) (cl := cl) (by omega) hN (T := T) (fun k hk => by rw [updR_n _ _ (by omega), e3.1 5 (by omega)]; exact hT k hk) hc y10 N 0 [] _ _ (by omega) rfl M2 (o1_rf _) (fr_rf _ _ _)
    refine ⟨h', Y', ?_, k3, by rw [k4 0 (by omega)]; exact z4, fun k hk => by rw [k4 k (by omega)]; exact k2 k hk, fr_tr f2 k5⟩
    rw [e0, hs, if_pos (cLt (by omega))]
    exact k1
  · intro hs
    refine ⟨_, _, ?_, M2, z4, k2, f2⟩
    rw [e0, if_neg (nLt (by omega)), iI_sub]
    rfl
end RL
