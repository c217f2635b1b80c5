section RT2
variable {m : Nat} {A : Int → Int} {Q : Int → List zKl}
/-- one piece acts -/
theorem R_tk3 {A1 : Int → Int} {h : zH} {Y : Nat → Nat → Int32} (hM : MR h m A1 Y) (hW : WF A1) (hk : kT A A1) {a p : Int} (hv : vP A1 a p) (hp : 1 ≤ p) {g : Option (List (Int × Int))} (hg : BG A a g (Y 13 (7 * a + p).toNat)) :
    ∃ h', f_X11_tick_c110 (some m) (iI a) (iI p) h = some (.inl (some m, iI a, iI (p + 1), h')) ∧ go1 m h Y (stP g A1 a p) h' := by
  have v1 := hW.vp hv
  have hv2 := hv.2
  have pc := hW.pc hv.1
  have e96 : 70 + 40 * a + 26 + p = 96 + 40 * a + p := by omega
  unfold f_X11_tick_c110
  rw [Mck hM.1, Option.bind_some, R_pieces hM v1.1, z_b2_some, if_neg (nLe (by omega)), Mg0 hM.1, Option.bind_some]
  simp only [iI_lit, iI_add, iI_sub, iI_mul, iI_neg]
  rw [R_of, z_b2_some, Mg15 hM.1, Option.bind_some, Mget13 hM (by omega) (by omega), Option.bind_some]
  match g, hg with
  | none, hg =>
    have hg : Y 13 (7 * a + p).toNat = iI (-4) := hg
    rw [hg, if_neg (by decide)]
    refine ⟨_, ?_, go1_ms hM (e := 96 + 40 * a + p) (v := 0) (by omega) (by omega)⟩
    rw [f_X11_tick_b166, iI_add, e96, M_set hM (by omega) (by omega), Option.bind_some, iI_lit, iI_add]
  | some l, hg =>
    obtain ⟨i, g1, g2⟩ := hg
    have g3 := actAt_kT hk v1.1 g2
    have g4 := g3.2.1
    rw [g1, if_pos (cLe (by omega)), Option.bind_some, Mget13 hM (by omega) (by omega), g1, Option.bind_some, Mck hM.1, Option.bind_some]
    obtain ⟨h1, k1, Y1, k2, k3, k4⟩ := R_act (m := m) hp l A1 h Y i 0 hM hW hv g3 (by omega)
    have hact : f_X11_act (some m) (iI a) (iI p) (iI i) h = some (iI (actsW 0 l), h1) := by
      unfold f_X11_act
      simp only [iI_lit, iI_add, iI_sub, iI_mul, iI_neg]
      exact k1
    rw [hact, z_b2_some]
    refine ⟨_, ?_, go1_tr ⟨k2, k3, k4⟩ (go1_ms k2 (e := 96 + 40 * a + p) (v := actsW 0 l) (by omega) (by omega))⟩
    rw [f_X11_tick_b166, iI_add, e96, M_set k2 (by omega) (by omega), Option.bind_some, iI_lit, iI_add]
theorem R_tk4 {A1 : Int → Int} {h : zH} {Y : Nat → Nat → Int32} (hM : MR h m A1 Y) (hW : WF A1) (hW0 : WF A) (hk : kT A A1) (hQ : ∀ a, 0 ≤ a → a < A 64 → ∀ c, c ∈ Q a → vK c) {a : Int} (ha : 0 ≤ a ∧ a < A 64) (hB : BGs A Q Y a (A (70 + 40 * a))) :
    ∃ h', f_X11_tick_b110 (some m) (iI a) (iI 1) h = some (.inl (some m, iI (a + 1), h')) ∧ go1 m h Y (tkP (gfc A Q) a A1 (A (70 + 40 * a) - 1).toNat) h' := by
  have hn := hW0.n
  have pc := hW0.pc ha
  have e64 : A1 64 = A 64 := hk 64 (by omega)
  have e70 : A1 (70 + 40 * a) = A (70 + 40 * a) := hk _ (by omega)
  have vg := vG_kT hW0 hk (vG_gfc hQ)
  have key := z_forI (body := fun s : (Option Nat) × Int32 × Int32 × zH => f_X11_tick_c110 s.1 s.2.1 s.2.2.1 s.2.2.2) (Q := fun r => ∃ h', r = .inl (some m, iI (a + 1), h') ∧ go1 m h Y (tkP (gfc A Q) a A1 (A (70 + 40 * a) - 1).toNat) h')
    (fun i s => ∃ h', s = (some m, iI a, iI ((i : Int) + 1), h') ∧ go1 m h Y (tkP (gfc A Q) a A1 i) h') (A (70 + 40 * a) - 1).toNat ?_ ?_ (A (70 + 40 * a) - 1).toNat 0 (some m, iI a, iI 1, h) (by omega) ⟨h, rfl, go1_rf hM⟩
  · obtain ⟨r, k1, h', rfl, k2⟩ := key
    exact ⟨h', k1, k2⟩
  · rintro i s hi ⟨h1, rfl, Y1, k1, k2, k3⟩
    obtain ⟨w1, w2⟩ := tkP_ok hW (a := a) (by omega) vg i (by omega)
    have hv : vP A1 a ((i : Int) + 1) := ⟨by omega, by omega, by omega⟩
    obtain ⟨h2, q1, q2⟩ := R_tk3 k1 w1 (kT_tr hk w2) (a := a) (p := (i : Int) + 1) ((kT_vP w2 hW.n.1.2 a _).mpr hv) (by omega) (g := gfc A Q a ((i : Int) + 1)) (by rw [k2 13 (by omega)]; exact hB _ (by omega) (by omega))
    exact Or.inl ⟨_, q1, h2, by simp, go1_tr ⟨k1, k2, k3⟩ q2⟩
  · rintro s ⟨h1, rfl, Y1, k1, k2, k3⟩
    obtain ⟨w1, w2⟩ := tkP_ok hW (a := a) (by omega) vg (A (70 + 40 * a) - 1).toNat (by omega)
    have e : (((A (70 + 40 * a) - 1).toNat : Int) + 1) = A (70 + 40 * a) := by omega
    have e71 : tkP (gfc A Q) a A1 (A (70 + 40 * a) - 1).toNat (70 + 40 * a) = A (70 + 40 * a) := (w2 _ (by omega)).trans e70
    refine ⟨_, ?_, h1, rfl, Y1, k1, k2, k3⟩
    simp (disch := omega) only [f_X11_tick_c110, Mck k1.1, R_pieces k1, Option.bind_some, z_b2_some, z_i1_some, iI_lit, iI_add, iI_sub, iI_mul, iI_neg, e, e71, iI_le, if_pos]
theorem R_tk5 {h : zH} {Y : Nat → Nat → Int32} (hM : MR h m A Y) (hW : WF A) (hQ : ∀ a, 0 ≤ a → a < A 64 → ∀ c, c ∈ Q a → vK c) (hB : ∀ a, 0 ≤ a → a < A 64 → BGs A Q Y a (A (70 + 40 * a))) :
    ∃ h', f_X11_tick_b76 (some m) (iI 0) h = some h' ∧ go1 m h Y (tickA A Q) h' := by
  have hn := hW.n
  have vg := vG_gfc hQ
  have key := z_forI (body := fun s : (Option Nat) × Int32 × zH => f_X11_tick_c76 s.1 s.2.1 s.2.2) (Q := fun r => go1 m h Y (tickA A Q) r)
    (fun i s => ∃ h', s = (some m, iI (i : Int), h') ∧ go1 m h Y (tkA (gfc A Q) A i) h') (A 64).toNat ?_ ?_ (A 64).toNat 0 (some m, iI 0, h) (by omega) ⟨h, rfl, go1_rf hM⟩
  · exact key
  · rintro i s hi ⟨h1, rfl, Y1, k1, k2, k3⟩
    obtain ⟨w1, w2⟩ := tkA_ok hW vg i (by omega)
    have e64 : tkA (gfc A Q) A i 64 = A 64 := w2 64 (by omega)
    obtain ⟨w3, w4⟩ := tk0_ok w1 (a := (i : Int)) (by omega)
    have e26 : 70 + 40 * (i : Int) + 26 = 96 + 40 * (i : Int) := by omega
    have e2 : 70 + 40 * (i : Int) + 2 = 72 + 40 * (i : Int) := by omega
    obtain ⟨Y2, q1, q2, q3⟩ := go1_ms k1 (e := 96 + 40 * (i : Int)) (v := tkA (gfc A Q) A i (72 + 40 * (i : Int))) (by omega) (by omega)
    obtain ⟨h2, r1, r2⟩ := R_tk4 (A := A) (Q := Q) (A1 := tk0 (tkA (gfc A Q) A i) (i : Int)) q1 w3 hW (kT_tr w2 w4) hQ (a := (i : Int)) (by omega) (fun p g1 g2 => by rw [q2 13 (by omega), k2 13 (by omega)]; exact hB _ (by omega) (by omega) p g1 g2)
    refine Or.inl ⟨_, ?_, h2, rfl, go1_tr ⟨k1, k2, k3⟩ (go1_tr ⟨q1, q2, q3⟩ r2)⟩
    show f_X11_tick_c76 (some m) (iI (i : Int)) h1 = _
    unfold f_X11_tick_c76
    rw [Mg0 k1.1, Option.bind_some]
    simp only [iI_lit, iI_add, iI_sub, iI_mul, iI_neg]
    rw [M_all k1 (by omega) (by omega), Option.bind_some, e64, if_neg (nLe (by omega)), Option.bind_some, R_of, z_b2_some, Mg0 k1.1, Option.bind_some, R_of, z_b2_some, e26, e2, M_all k1 (by omega) (by omega), Option.bind_some, M_set k1 (by omega) (by omega), Option.bind_some, r1]
    rfl
  · rintro s ⟨h1, rfl, Y1, k1, k2, k3⟩
    obtain ⟨w1, w2⟩ := tkA_ok hW vg (A 64).toNat (by omega)
    have e64 : tkA (gfc A Q) A (A 64).toNat 64 = A 64 := w2 64 (by omega)
    refine ⟨_, ?_, go1_tr ⟨k1, k2, k3⟩ (go1_ms k1 (e := 67) (v := tkA (gfc A Q) A (A 64).toNat 67 + 1) (by omega) (by omega))⟩
    show f_X11_tick_c76 (some m) (iI ((A 64).toNat : Int)) h1 = _
    have e : (((A 64).toNat : Nat) : Int) = A 64 := by omega
    simp (disch := omega) only [f_X11_tick_c76, Mg0 k1.1, Option.bind_some, z_b2_some, z_i1_some, iI_lit, iI_add, iI_sub, iI_mul, iI_neg, M_all k1, e64, e, iI_le, if_pos, M_set k1]
theorem R_tick {h : zH} {Y : Nat → Nat → Int32} (hM : MR h m A Y) (hW : WF A) (hT : ∀ a, 0 ≤ a → a < A 64 → TX A a (Q a)) : ∃ h' Y', f_X11_tick (some m) h = some h' ∧ MR h' m (tickA A Q) Y' ∧ ky Y Y' ∧ fr m 19 h h' := by
  have hn := hW.n
  have hQ : ∀ a, 0 ≤ a → a < A 64 → ∀ c, c ∈ Q a → vK c := fun a h1 h2 c hc => (hT a h1 h2).1.2.1 c hc
  have key := z_forI (body := fun s : (Option Nat) × Int32 × zH => f_X11_tick_c2 s.1 s.2.1 s.2.2) (Q := fun h' => ∃ Y', MR h' m (tickA A Q) Y' ∧ ky Y Y' ∧ fr m 19 h h')
    (fun i s => ∃ h' Y', s = (some m, iI (i : Int), h') ∧ MR h' m A Y' ∧ ky Y Y' ∧ fr m 19 h h' ∧ ∀ a, 0 ≤ a → a < (i : Int) → BGs A Q Y' a (A (70 + 40 * a))) (A 64).toNat ?_ ?_ (A 64).toNat 0 (some m, iI 0, h) (by omega) ⟨h, Y, rfl, hM, ky_rf Y, fr_rf _ _ _, fun a h1 h2 => absurd h2 (by omega)⟩
  · obtain ⟨h', k1, Y', k2⟩ := key
    refine ⟨h', Y', ?_, k2⟩
    unfold f_X11_tick f_X11_tick_b2
    rw [iI_lit]; exact k1
  · rintro i s hi ⟨h1, Y1, rfl, k1, k2, k3, k4⟩
    obtain ⟨h2, Y2, q1, q2, q3, q4, q5, q6⟩ := R_tk2 k1 hW (a := (i : Int)) (by omega) (hT _ (by omega) (by omega))
    refine Or.inl ⟨_, ?_, h2, Y2, rfl, q2, ky_tr k2 q3, fr_tr k3 q4, fun a g1 g2 => ?_⟩
    · show f_X11_tick_c2 (some m) (iI (i : Int)) h1 = _
      unfold f_X11_tick_c2
      rw [Mg0 k1.1, Option.bind_some]
      simp only [iI_lit, iI_add, iI_sub, iI_mul, iI_neg]
      rw [M_all k1 (by omega) (by omega), Option.bind_some, if_neg (nLe (by omega)), q1]
      rfl
    · by_cases e : a = (i : Int)
      · subst e; exact q5
      · have pc := hW.pc (a := a) (by omega)
        intro p g3 g4
        rw [q6 _ (by omega)]
        exact k4 a g1 (by omega) p g3 g4
  · rintro s ⟨h1, Y1, rfl, k1, k2, k3, k4⟩
    have e : (((A 64).toNat : Nat) : Int) = A 64 := by omega
    rw [e] at k4
    obtain ⟨h2, r1, Y2, r2, r3, r4⟩ := R_tk5 k1 hW hQ k4
    refine ⟨h2, ?_, Y2, r2, ky_tr k2 (ky_o1 r3), fr_tr k3 r4⟩
    show f_X11_tick_c2 (some m) (iI ((A 64).toNat : Int)) h1 = _
    simp (disch := omega) only [f_X11_tick_c2, Mg0 k1.1, Option.bind_some, z_b2_some, z_i1_some, iI_lit, iI_add, iI_sub, iI_mul, iI_neg, M_all k1, e, iI_le, if_pos, r1]
end RT2
