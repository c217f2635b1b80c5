section WFk
variable {A A' : Int → Int}
/-- a change of what is held and of things alone -/
theorem WF_hold (hW : WF A) (hs : ∀ j, (j < 490 ∨ 522 ≤ j) → (∀ a p, 0 ≤ a → a ≤ 2 → 0 ≤ p → p ≤ 6 → j ≠ 89 + 40 * a + p) → A' j = A j)
    (hho : ∀ a p, vP A a p → A' (89 + 40 * a + p) = -4 ∨ ((0 ≤ A' (89 + 40 * a + p) ∧ A' (89 + 40 * a + p) < A 65) ∧ A' (490 + 4 * A' (89 + 40 * a + p)) = 1 ∧ A' (493 + 4 * A' (89 + 40 * a + p)) = 10 * a + p))
    (hth : ∀ t, 0 ≤ t → t < A 65 → (A' (490 + 4 * t) = 0 ∨ A' (490 + 4 * t) = 1 ∨ A' (490 + 4 * t) = 2) ∧ (0 ≤ A' (491 + 4 * t) ∧ A' (491 + 4 * t) < 64) ∧ (0 ≤ A' (492 + 4 * t) ∧ A' (492 + 4 * t) ≤ 3) ∧ (A' (490 + 4 * t) = 0 → A (A' (491 + 4 * t)) = 0 ∧ A' (493 + 4 * t) = -4) ∧
      (A' (490 + 4 * t) = 1 → ∃ a p, vP A a p ∧ A' (493 + 4 * t) = 10 * a + p ∧ A' (89 + 40 * a + p) = t) ∧ (A' (490 + 4 * t) = 2 → ∃ a, (0 ≤ a ∧ a < A 64) ∧ A' (493 + 4 * t) = 10 * a))
    (hly : ∀ t t' c, 0 ≤ t → t < A 65 → 0 ≤ t' → t' < A 65 → A' (490 + 4 * t) = 0 → A' (491 + 4 * t) = c → A' (490 + 4 * t') = 0 → A' (491 + 4 * t') = c → t = t') : WF A' := by
  have hn := hW.n
  have e64 : A' 64 = A 64 := hs 64 (by omega) (by intros; omega)
  have e65 : A' 65 = A 65 := hs 65 (by omega) (by intros; omega)
  have e66 : A' 66 = A 66 := hs 66 (by omega) (by intros; omega)
  have ew : ∀ c, 0 ≤ c → c < 64 → A' c = A c := fun c h1 h2 => hs c (by omega) (by intros; omega)
  have e70 : ∀ a, 0 ≤ a → a ≤ 2 → A' (70 + 40 * a) = A (70 + 40 * a) := fun a h1 h2 => hs _ (by omega) (by intros; omega)
  have e71 : ∀ a, 0 ≤ a → a ≤ 2 → A' (71 + 40 * a) = A (71 + 40 * a) := fun a h1 h2 => hs _ (by omega) (by intros; omega)
  have e72 : ∀ a, 0 ≤ a → a ≤ 2 → A' (72 + 40 * a) = A (72 + 40 * a) := fun a h1 h2 => hs _ (by omega) (by intros; omega)
  have e75 : ∀ a p, 0 ≤ a → a ≤ 2 → 0 ≤ p → p ≤ 6 → A' (75 + 40 * a + p) = A (75 + 40 * a + p) := fun a p h1 h2 h3 h4 => hs _ (by omega) (by intros; omega)
  have e82 : ∀ a p, 0 ≤ a → a ≤ 2 → 0 ≤ p → p ≤ 6 → A' (82 + 40 * a + p) = A (82 + 40 * a + p) := fun a p h1 h2 h3 h4 => hs _ (by omega) (by intros; omega)
  have e96 : ∀ a p, 0 ≤ a → a ≤ 2 → 0 ≤ p → p ≤ 6 → A' (96 + 40 * a + p) = A (96 + 40 * a + p) := fun a p h1 h2 h3 h4 => hs _ (by omega) (by intros; omega)
  have ev : ∀ a p, vP A' a p ↔ vP A a p := by
    intro a p
    unfold vP
    rw [e64]
    refine ⟨fun q => ⟨q.1, q.2.1, ?_⟩, fun q => ⟨q.1, q.2.1, ?_⟩⟩
    · rw [← e70 a (by omega) (by omega)]; exact q.2.2
    · rw [e70 a (by omega) (by omega)]; exact q.2.2
  refine ⟨⟨by rw [e64]; exact hn.1, by rw [e65]; exact hn.2.1, by rw [e66]; exact hn.2.2⟩, fun c h1 h2 => by rw [ew c h1 h2]; exact hW.w h1 h2, fun a h1 h2 => ?_, fun t h1 h2 => ?_, fun a p a' p' h1 h2 he => ?_, fun t t' c h1 h2 => ?_⟩
  · rw [e64] at h2
    have wa := hW.a ⟨h1, h2⟩
    have hpc := hW.pc ⟨h1, h2⟩
    unfold WA
    rw [e70 a h1 (by omega), e71 a h1 (by omega), e72 a h1 (by omega), e65]
    refine ⟨wa.1, wa.2.1, wa.2.2.1, fun p g1 g2 => ?_, fun p g1 g2 g3 => ?_⟩
    · have hv : vP A a p := ⟨⟨h1, h2⟩, g1, g2⟩
      have hc := hW.ce hv
      rw [e75 a p h1 (by omega) g1 (by omega), e82 a p h1 (by omega) g1 (by omega), e96 a p h1 (by omega) g1 (by omega), ew _ hc.1 hc.2]
      exact ⟨hc, hW.me hv, hW.sa hv, hW.pw hv, hho a p hv⟩
    · rw [e75 a p h1 (by omega) (by omega) (by omega), e75 a (p - 1) h1 (by omega) (by omega) (by omega)]
      exact wa.2.2.2.2 p g1 g2 g3
  · rw [e65] at h2
    obtain ⟨k1, k2, k3, k4, k5, k6⟩ := hth t h1 h2
    refine ⟨k1, k2, k3, fun q => ?_, fun q => ?_, fun q => ?_⟩
    · rw [ew _ k2.1 k2.2]; exact k4 q
    · obtain ⟨a, p, g1, g2⟩ := k5 q
      exact ⟨a, p, (ev a p).mpr g1, g2⟩
    · rw [e64]; exact k6 q
  · have g1 := (ev a p).mp h1
    have g2 := (ev a' p').mp h2
    have v1 := hW.vp g1
    have v2 := hW.vp g2
    rw [e75 a p (by omega) (by omega) (by omega) (by omega), e75 a' p' (by omega) (by omega) (by omega) (by omega)] at he
    exact hW.d g1 g2 he
  · unfold ly at h1 h2
    rw [e65] at h1 h2
    exact hly t t' c h1.1.1 h1.1.2 h2.1.1 h2.1.2 h1.2.1 h1.2.2 h2.2.1 h2.2.2
theorem WF_give (hW : WF A) {a p t : Int} (hv : vP A a p) (h0 : A (89 + 40 * a + p) = -4) (ht : 0 ≤ t ∧ t < A 65) (hl : A (490 + 4 * t) = 0) : WF (sGive A a p t) := by
  have hn := hW.n
  have v1 := hW.vp hv
  unfold sGive
  have nh : ∀ a' p', vP A a' p' → A (89 + 40 * a' + p') ≠ t := by
    intro a' p' hv' e
    rcases hW.ho hv' with q | q
    · omega
    · rw [e] at q; omega
  refine WF_hold hW (fun j h1 h2 => ?_) (fun a' p' hv' => ?_) (fun t' g1 g2 => ?_) (fun t1 t2 c g1 g2 g3 g4 g5 g6 g7 g8 => ?_)
  · have := h2 a p (by omega) (by omega) (by omega) (by omega)
    simp (disch := omega) only [uI_n]
  · have v2 := hW.vp hv'
    by_cases e : a' = a ∧ p' = p
    · obtain ⟨rfl, rfl⟩ := e
      right
      simp (disch := omega) only [uI_n, uI_s]
      exact ⟨ht, trivial, trivial⟩
    · have hne := nh a' p' hv'
      rw [uI_n (j := 89 + 40 * a' + p') _ _ (by omega), uI_n (j := 89 + 40 * a' + p') _ _ (by omega), uI_n (j := 89 + 40 * a' + p') _ _ (by omega)]
      rcases hW.ho hv' with q | q
      · exact Or.inl q
      · right
        simp (disch := omega) only [uI_n]
        exact q
  · by_cases e : t' = t
    · subst e
      have w := hW.t ⟨g1, g2⟩
      simp (disch := omega) only [uI_n, uI_s]
      refine ⟨by simp, w.2.1, w.2.2.1, fun q => absurd q (by omega), fun _ => ⟨a, p, hv, rfl, ?_⟩, fun q => absurd q (by omega)⟩
      rw [uI_s]
    · have w := hW.t ⟨g1, g2⟩
      simp (disch := omega) only [uI_n]
      refine ⟨w.1, w.2.1, w.2.2.1, w.2.2.2.1, fun q => ?_, w.2.2.2.2.2⟩
      obtain ⟨a', p', k1, k2, k3⟩ := w.2.2.2.2.1 q
      have v2 := hW.vp k1
      refine ⟨a', p', k1, k2, ?_⟩
      have : ¬ (a' = a ∧ p' = p) := by rintro ⟨rfl, rfl⟩; omega
      rw [uI_n _ _ (by omega), uI_n _ _ (by omega), uI_n _ _ (by omega)]
      exact k3
  · by_cases e1 : t1 = t
    · subst e1
      simp (disch := omega) only [uI_n, uI_s] at g5
      omega
    · by_cases e2 : t2 = t
      · subst e2
        simp (disch := omega) only [uI_n, uI_s] at g7
        omega
      · simp (disch := omega) only [uI_n] at g5 g6 g7 g8
        exact hW.l (c := c) ⟨⟨g1, g2⟩, g5, g6⟩ ⟨⟨g3, g4⟩, g7, g8⟩
theorem WF_grab (hW : WF A) {a p : Int} (hv : vP A a p) : WF (sGrab A a p) := by
  unfold sGrab
  split
  · rename_i h0
    split
    · rename_i h1
      rcases gfind_cs hW (A (75 + 40 * a + p)) with q | ⟨s, q1, q2, q3, q4⟩
      · omega
      · rcases cand_cs hW (atS (A (75 + 40 * a + p)) s) with k | ⟨k0, k1, k2, k3⟩
        · omega
        · rw [← q2] at k1
          refine WF_give hW hv ?_ k1.1 k1.2.1
          rcases hW.ho hv with g | g <;> omega
    · exact hW
  · exact hW
/-- what is passed on -/
noncomputable def sPass (A : Int → Int) (a p : Int) : Int → Int :=
  if A (89 + 40 * a + p) < 0 ∨ p - 1 = A (71 + 40 * a) ∨ (1 < p ∧ 0 ≤ A (89 + 40 * a + (p - 1))) then A else
    if p = 1 then uI (uI (uI A (89 + 40 * a + p) (-4)) (493 + 4 * A (89 + 40 * a + p)) (10 * a + p - 1)) (490 + 4 * A (89 + 40 * a + p)) 2
    else uI (uI (uI A (89 + 40 * a + p) (-4)) (493 + 4 * A (89 + 40 * a + p)) (10 * a + p - 1)) (89 + 40 * a + (p - 1)) (A (89 + 40 * a + p))
noncomputable def sDrop (A : Int → Int) (a p : Int) : Int → Int :=
  if 0 ≤ A (89 + 40 * a + p) ∧ lyAt A (A (75 + 40 * a + p)) < 0 then
    uI (uI (uI (uI A (89 + 40 * a + p) (-4)) (490 + 4 * A (89 + 40 * a + p)) 0) (491 + 4 * A (89 + 40 * a + p)) (A (75 + 40 * a + p))) (493 + 4 * A (89 + 40 * a + p)) (-4) else A
theorem WF_pass (hW : WF A) {a p : Int} (hv : vP A a p) (hp : 1 ≤ p) : WF (sPass A a p) := by
  have hn := hW.n
  have v1 := hW.vp hv
  unfold sPass
  split
  · exact hW
  · rename_i hc
    have hh : (0 ≤ A (89 + 40 * a + p) ∧ A (89 + 40 * a + p) < A 65) ∧ A (490 + 4 * A (89 + 40 * a + p)) = 1 ∧ A (493 + 4 * A (89 + 40 * a + p)) = 10 * a + p := by
      rcases hW.ho hv with g | g
      · omega
      · exact g
    generalize ht : A (89 + 40 * a + p) = t at *
    have nh : ∀ a' p', vP A a' p' → A (89 + 40 * a' + p') = t → a' = a ∧ p' = p := by
      intro a' p' hv' e
      have v2 := hW.vp hv'
      rcases hW.ho hv' with q | q
      · omega
      · rw [e] at q; omega
    have w := hW.t hh.1
    have hpv : vP A a (p - 1) := ⟨hv.1, by omega, by have := hv.2.2; omega⟩
    split
    · rename_i hp1
      refine WF_hold hW (fun j h1 h2 => ?_) (fun a' p' hv' => ?_) (fun t' g1 g2 => ?_) (fun t1 t2 c g1 g2 g3 g4 g5 g6 g7 g8 => ?_)
      · have := h2 a p (by omega) (by omega) (by omega) (by omega)
        simp (disch := omega) only [uI_n]
      · have v2 := hW.vp hv'
        by_cases e : a' = a ∧ p' = p
        · obtain ⟨rfl, rfl⟩ := e
          left
          simp (disch := omega) only [uI_n, uI_s]
        · rw [uI_n (j := 89 + 40 * a' + p') _ _ (by omega), uI_n (j := 89 + 40 * a' + p') _ _ (by omega), uI_n (j := 89 + 40 * a' + p') _ _ (by omega)]
          have hne : A (89 + 40 * a' + p') ≠ t := fun q => e (nh a' p' hv' q)
          rcases hW.ho hv' with q | q
          · exact Or.inl q
          · right
            simp (disch := omega) only [uI_n]
            exact q
      · have w' := hW.t ⟨g1, g2⟩
        by_cases e : t' = t
        · subst e
          simp (disch := omega) only [uI_n, uI_s]
          exact ⟨by simp, w'.2.1, w'.2.2.1, fun q => absurd q (by omega), fun q => absurd q (by omega), fun _ => ⟨a, hv.1, by omega⟩⟩
        · simp (disch := omega) only [uI_n]
          refine ⟨w'.1, w'.2.1, w'.2.2.1, w'.2.2.2.1, fun q => ?_, w'.2.2.2.2.2⟩
          obtain ⟨a', p', k1, k2, k3⟩ := w'.2.2.2.2.1 q
          have v2 := hW.vp k1
          have : ¬ (a' = a ∧ p' = p) := by rintro ⟨rfl, rfl⟩; omega
          refine ⟨a', p', k1, k2, ?_⟩
          rw [uI_n _ _ (by omega), uI_n _ _ (by omega), uI_n _ _ (by omega)]
          exact k3
      · have f1 : t1 ≠ t := by rintro rfl; simp (disch := omega) only [uI_n, uI_s] at g5; omega
        have f2 : t2 ≠ t := by rintro rfl; simp (disch := omega) only [uI_n, uI_s] at g7; omega
        simp (disch := omega) only [uI_n] at g5 g6 g7 g8
        exact hW.l (c := c) ⟨⟨g1, g2⟩, g5, g6⟩ ⟨⟨g3, g4⟩, g7, g8⟩
    · rename_i hp1
      have h4 : A (89 + 40 * a + (p - 1)) = -4 := by
        rcases hW.ho hpv with q | q
        · exact q
        · omega
      refine WF_hold hW (fun j h1 h2 => ?_) (fun a' p' hv' => ?_) (fun t' g1 g2 => ?_) (fun t1 t2 c g1 g2 g3 g4 g5 g6 g7 g8 => ?_)
      · have q1 := h2 a p (by omega) (by omega) (by omega) (by omega)
        have q2 := h2 a (p - 1) (by omega) (by omega) (by omega) (by omega)
        simp (disch := omega) only [uI_n]
      · have v2 := hW.vp hv'
        by_cases e : a' = a ∧ p' = p
        · obtain ⟨rfl, rfl⟩ := e
          left
          simp (disch := omega) only [uI_n, uI_s]
        · by_cases e' : a' = a ∧ p' = p - 1
          · obtain ⟨rfl, rfl⟩ := e'
            right
            simp (disch := omega) only [uI_n, uI_s]
            exact ⟨hh.1, hh.2.1, by omega⟩
          · rw [uI_n (j := 89 + 40 * a' + p') _ _ (by omega), uI_n (j := 89 + 40 * a' + p') _ _ (by omega), uI_n (j := 89 + 40 * a' + p') _ _ (by omega)]
            have hne : A (89 + 40 * a' + p') ≠ t := fun q => e (nh a' p' hv' q)
            rcases hW.ho hv' with q | q
            · exact Or.inl q
            · right
              simp (disch := omega) only [uI_n]
              exact q
      · have w' := hW.t ⟨g1, g2⟩
        by_cases e : t' = t
        · subst e
          simp (disch := omega) only [uI_n, uI_s]
          refine ⟨w'.1, w'.2.1, w'.2.2.1, fun q => absurd q (by omega), fun _ => ⟨a, p - 1, hpv, by omega, ?_⟩, fun q => absurd q (by omega)⟩
          rw [uI_s]
        · simp (disch := omega) only [uI_n]
          refine ⟨w'.1, w'.2.1, w'.2.2.1, w'.2.2.2.1, fun q => ?_, w'.2.2.2.2.2⟩
          obtain ⟨a', p', k1, k2, k3⟩ := w'.2.2.2.2.1 q
          have v2 := hW.vp k1
          have : ¬ (a' = a ∧ p' = p) := by rintro ⟨rfl, rfl⟩; omega
          have : ¬ (a' = a ∧ p' = p - 1) := by rintro ⟨rfl, rfl⟩; omega
          refine ⟨a', p', k1, k2, ?_⟩
          rw [uI_n _ _ (by omega), uI_n _ _ (by omega), uI_n _ _ (by omega)]
          exact k3
      · have f1 : t1 ≠ t := by rintro rfl; simp (disch := omega) only [uI_n, uI_s] at g5; omega
        have f2 : t2 ≠ t := by rintro rfl; simp (disch := omega) only [uI_n, uI_s] at g7; omega
        simp (disch := omega) only [uI_n] at g5 g6 g7 g8
        exact hW.l (c := c) ⟨⟨g1, g2⟩, g5, g6⟩ ⟨⟨g3, g4⟩, g7, g8⟩
theorem WF_drop (hW : WF A) {a p : Int} (hv : vP A a p) : WF (sDrop A a p) := by
  have hn := hW.n
  have v1 := hW.vp hv
  unfold sDrop
  split
  · rename_i hc
    have hh : (0 ≤ A (89 + 40 * a + p) ∧ A (89 + 40 * a + p) < A 65) ∧ A (490 + 4 * A (89 + 40 * a + p)) = 1 ∧ A (493 + 4 * A (89 + 40 * a + p)) = 10 * a + p := by
      rcases hW.ho hv with g | g
      · omega
      · exact g
    have hno : ¬ ∃ t, ly A t (A (75 + 40 * a + p)) := by
      rw [← lyAt_ge hW]; omega
    have hce := hW.ce hv
    have hpw := hW.pw hv
    generalize ht : A (89 + 40 * a + p) = t at *
    generalize hcc : A (75 + 40 * a + p) = cc at *
    have nh : ∀ a' p', vP A a' p' → A (89 + 40 * a' + p') = t → a' = a ∧ p' = p := by
      intro a' p' hv' e
      have v2 := hW.vp hv'
      rcases hW.ho hv' with q | q
      · omega
      · rw [e] at q; omega
    refine WF_hold hW (fun j h1 h2 => ?_) (fun a' p' hv' => ?_) (fun t' g1 g2 => ?_) (fun t1 t2 c g1 g2 g3 g4 g5 g6 g7 g8 => ?_)
    · have := h2 a p (by omega) (by omega) (by omega) (by omega)
      simp (disch := omega) only [uI_n]
    · have v2 := hW.vp hv'
      by_cases e : a' = a ∧ p' = p
      · obtain ⟨rfl, rfl⟩ := e
        left
        simp (disch := omega) only [uI_n, uI_s]
      · rw [uI_n (j := 89 + 40 * a' + p') _ _ (by omega), uI_n (j := 89 + 40 * a' + p') _ _ (by omega), uI_n (j := 89 + 40 * a' + p') _ _ (by omega), uI_n (j := 89 + 40 * a' + p') _ _ (by omega)]
        have hne : A (89 + 40 * a' + p') ≠ t := fun q => e (nh a' p' hv' q)
        rcases hW.ho hv' with q | q
        · exact Or.inl q
        · right
          simp (disch := omega) only [uI_n]
          exact q
    · have w' := hW.t ⟨g1, g2⟩
      by_cases e : t' = t
      · subst e
        simp (disch := omega) only [uI_n, uI_s]
        exact ⟨by simp, hce, w'.2.2.1, fun _ => ⟨hpw, trivial⟩, fun q => absurd q (by omega), fun q => absurd q (by omega)⟩
      · simp (disch := omega) only [uI_n]
        refine ⟨w'.1, w'.2.1, w'.2.2.1, w'.2.2.2.1, fun q => ?_, w'.2.2.2.2.2⟩
        obtain ⟨a', p', k1, k2, k3⟩ := w'.2.2.2.2.1 q
        have v2 := hW.vp k1
        have : ¬ (a' = a ∧ p' = p) := by rintro ⟨rfl, rfl⟩; omega
        refine ⟨a', p', k1, k2, ?_⟩
        rw [uI_n _ _ (by omega), uI_n _ _ (by omega), uI_n _ _ (by omega), uI_n _ _ (by omega)]
        exact k3
    · by_cases f1 : t1 = t
      · by_cases f2 : t2 = t
        · omega
        · subst f1
          simp (disch := omega) only [uI_n, uI_s] at g5 g6 g7 g8
          exact absurd ⟨t2, ⟨g3, g4⟩, g7, by omega⟩ hno
      · by_cases f2 : t2 = t
        · subst f2
          simp (disch := omega) only [uI_n, uI_s] at g5 g6 g7 g8
          exact absurd ⟨t1, ⟨g1, g2⟩, g5, by omega⟩ hno
        · simp (disch := omega) only [uI_n] at g5 g6 g7 g8
          exact hW.l (c := c) ⟨⟨g1, g2⟩, g5, g6⟩ ⟨⟨g3, g4⟩, g7, g8⟩
  · exact hW
end WFk
section R5
variable {h : zH} {m : Nat} {Y : Nat → Nat → Int32} {A : Int → Int}
theorem R_pass (hM : MR h m A Y) (hW : WF A) {a p : Int} (hv : vP A a p) (hp : 1 ≤ p) : ∃ h', f_X11_pass (some m) (iI a) (iI p) h = some h' ∧ go1 m h Y (sPass A a p) h' := by
  have hn := hW.n
  have v1 := hW.vp hv
  have hcu := hW.cu hv.1
  have hpc := hW.pc hv.1
  have e89 : 70 + 40 * a + 19 + p = 89 + 40 * a + p := by omega
  have e88 : 89 + 40 * a + p - 1 = 89 + 40 * a + (p - 1) := by omega
  unfold sPass
  by_cases q0 : A (89 + 40 * a + p) < 0
  · rw [if_pos (Or.inl q0)]
    refine ⟨h, ?_, go1_rf hM⟩
    rcases hW.ho hv with g | g
    · simp (disch := omega) only [f_X11_pass, Mg0 hM.1, R_of, Option.bind_some, z_b2_some, z_i1_some, iI_lit, iI_add, iI_sub, iI_mul, iI_neg, e89, M_all hM, iI_lt, if_pos]
    · omega
  · have hh : (0 ≤ A (89 + 40 * a + p) ∧ A (89 + 40 * a + p) < A 65) ∧ A (490 + 4 * A (89 + 40 * a + p)) = 1 ∧ A (493 + 4 * A (89 + 40 * a + p)) = 10 * a + p := by
      rcases hW.ho hv with g | g
      · omega
      · exact g
    generalize ht : A (89 + 40 * a + p) = t at *
    have e3 : 490 + 4 * t + 3 = 493 + 4 * t := by omega
    have M1 := M_ms hM (89 + 40 * a + p) (-4) (by omega) (by omega)
    have M2 := M_ms M1 (493 + 4 * t) (10 * a + p - 1) (by omega) (by omega)
    have b53 : f_X11_pass_b53 (some m) (iI a) (iI p) (iI t) h = (if p = 1 then some (ms (ms (ms h m (89 + 40 * a + p) (-4)) m (493 + 4 * t) (10 * a + p - 1)) m (490 + 4 * t) 2) else some (ms (ms (ms h m (89 + 40 * a + p) (-4)) m (493 + 4 * t) (10 * a + p - 1)) m (89 + 40 * a + (p - 1)) t)) := by
      simp (disch := omega) only [f_X11_pass_b53, Mg0 hM.1, Mg0 M1.1, Mg0 M2.1, R_of, R_thingAt, Option.bind_some, z_b2_some, z_i1_some, iI_lit, iI_add, iI_sub, iI_mul, iI_neg, e89, e3, e88, M_set hM, M_set M1, M_set M2, iI_eq]
    by_cases q1 : p - 1 = A (71 + 40 * a)
    · rw [if_pos (Or.inr (Or.inl q1))]
      refine ⟨h, ?_, go1_rf hM⟩
      simp (disch := omega) only [f_X11_pass, Mg0 hM.1, Mck hM.1, R_of, R_cutOf hM, Option.bind_some, z_b2_some, z_i1_some, iI_lit, iI_add, iI_sub, iI_mul, iI_neg, e89, M_all hM, ht, iI_lt, iI_eq, if_neg, if_pos]
    · by_cases q2 : p = 1
      · rw [if_neg (by omega), if_pos q2]
        refine ⟨_, ?_, _, M_ms M2 (490 + 4 * t) 2 (by omega) (by omega), o1_tr (o1_tr (o1_ms _ _ _) (o1_ms _ _ _)) (o1_ms _ _ _), fr_tr (fr_tr (ms_fr hM _ _) (ms_fr M1 _ _)) (ms_fr M2 _ _)⟩
        simp (disch := omega) only [f_X11_pass, Mg0 hM.1, Mck hM.1, R_of, R_cutOf hM, Option.bind_some, z_b2_some, z_i1_some, iI_lit, iI_add, iI_sub, iI_mul, iI_neg, e89, M_all hM, ht, iI_lt, iI_le, iI_eq, if_neg, if_pos]
        rw [b53, if_pos q2]
      · have hpv : vP A a (p - 1) := ⟨hv.1, by omega, by have := hv.2.2; omega⟩
        have ho2 := hW.ho hpv
        by_cases q3 : 0 ≤ A (89 + 40 * a + (p - 1))
        · rw [if_pos (Or.inr (Or.inr ⟨by omega, q3⟩))]
          refine ⟨h, ?_, go1_rf hM⟩
          simp (disch := omega) only [f_X11_pass, Mg0 hM.1, Mck hM.1, R_of, R_cutOf hM, Option.bind_some, z_b2_some, z_i1_some, iI_lit, iI_add, iI_sub, iI_mul, iI_neg, e89, e88, M_all hM, ht, iI_lt, iI_le, iI_eq, if_neg, if_pos]
        · rw [if_neg (by omega), if_neg q2]
          refine ⟨_, ?_, _, M_ms M2 (89 + 40 * a + (p - 1)) t (by omega) (by omega), o1_tr (o1_tr (o1_ms _ _ _) (o1_ms _ _ _)) (o1_ms _ _ _), fr_tr (fr_tr (ms_fr hM _ _) (ms_fr M1 _ _)) (ms_fr M2 _ _)⟩
          simp (disch := omega) only [f_X11_pass, Mg0 hM.1, Mck hM.1, R_of, R_cutOf hM, Option.bind_some, z_b2_some, z_i1_some, iI_lit, iI_add, iI_sub, iI_mul, iI_neg, e89, e88, M_all hM, ht, iI_lt, iI_le, iI_eq, if_neg, if_pos]
          rw [b53, if_neg q2]
theorem R_letGo (hM : MR h m A Y) (hW : WF A) {a p : Int} (hv : vP A a p) : ∃ h', f_X11_letGo (some m) (iI a) (iI p) h = some h' ∧ go1 m h Y (sDrop A a p) h' := by
  have hn := hW.n
  have v1 := hW.vp hv
  have hce := hW.ce hv
  have e89 : 70 + 40 * a + 19 + p = 89 + 40 * a + p := by omega
  unfold sDrop
  by_cases q0 : A (89 + 40 * a + p) < 0
  · rw [if_neg (by omega)]
    refine ⟨h, ?_, go1_rf hM⟩
    rcases hW.ho hv with g | g
    · simp (disch := omega) only [f_X11_letGo, Mg0 hM.1, R_of, Option.bind_some, z_b2_some, z_i1_some, iI_lit, iI_add, iI_sub, iI_mul, iI_neg, e89, M_all hM, iI_lt, if_pos]
    · omega
  · have hh : (0 ≤ A (89 + 40 * a + p) ∧ A (89 + 40 * a + p) < A 65) ∧ A (490 + 4 * A (89 + 40 * a + p)) = 1 ∧ A (493 + 4 * A (89 + 40 * a + p)) = 10 * a + p := by
      rcases hW.ho hv with g | g
      · omega
      · exact g
    generalize ht : A (89 + 40 * a + p) = t at *
    have hlr := lyAt_rg hW (A (75 + 40 * a + p))
    have pre : f_X11_letGo (some m) (iI a) (iI p) h = (if iI 0 ≤ iI (lyAt A (A (75 + 40 * a + p))) then some h else f_X11_letGo (some m) (iI a) (iI p) h) := by
      by_cases q1 : iI 0 ≤ iI (lyAt A (A (75 + 40 * a + p)))
      · rw [if_pos q1]
        simp (disch := omega) only [f_X11_letGo, Mg0 hM.1, Mck hM.1, R_of, R_cell hM, R_lyingAt hM hW, Option.bind_some, z_b2_some, z_i1_some, iI_lit, iI_add, iI_sub, iI_mul, iI_neg, e89, M_all hM, ht, iI_lt, if_neg]
        rw [if_pos q1]
      · rw [if_neg q1]
    by_cases q1 : 0 ≤ lyAt A (A (75 + 40 * a + p))
    · rw [if_pos (by rw [iI_le (by omega) (by omega) (by omega) (by omega)]; exact q1)] at pre
      rw [if_neg (by omega)]
      exact ⟨h, pre, go1_rf hM⟩
    · rw [if_pos ⟨by omega, by omega⟩]
      have e1 : 490 + 4 * t + 1 = 491 + 4 * t := by omega
      have e3 : 490 + 4 * t + 3 = 493 + 4 * t := by omega
      have M1 := M_ms hM (89 + 40 * a + p) (-4) (by omega) (by omega)
      have M2 := M_ms M1 (490 + 4 * t) 0 (by omega) (by omega)
      have ec : uI (uI A (89 + 40 * a + p) (-4)) (490 + 4 * t) 0 (75 + 40 * a + p) = A (75 + 40 * a + p) := by
        simp (disch := omega) only [uI_n]
      have M3 := M_ms M2 (491 + 4 * t) (A (75 + 40 * a + p)) (by omega) (by omega)
      refine ⟨_, ?_, _, M_ms M3 (493 + 4 * t) (-4) (by omega) (by omega), o1_tr (o1_tr (o1_tr (o1_ms _ _ _) (o1_ms _ _ _)) (o1_ms _ _ _)) (o1_ms _ _ _), fr_tr (fr_tr (fr_tr (ms_fr hM _ _) (ms_fr M1 _ _)) (ms_fr M2 _ _)) (ms_fr M3 _ _)⟩
      simp (disch := omega) only [f_X11_letGo, Mg0 hM.1, Mg0 M1.1, Mg0 M2.1, Mg0 M3.1, Mck hM.1, Mck M2.1, R_of, R_thingAt, R_cell hM, R_cell M2, ec, R_lyingAt hM hW, Option.bind_some, z_b2_some, z_i1_some, iI_lit, iI_add, iI_sub, iI_mul, iI_neg, e89, e1, e3, M_all hM, ht, iI_lt, iI_le, if_neg, M_set hM, M_set M1, M_set M2, M_set M3]
end R5
