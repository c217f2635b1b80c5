/-! WHAT DEPENDS ON WHAT -/
def dW (j : Int) : Prop := 0 ≤ j ∧ (j < 67 ∨ (70 ≤ j ∧ j < 73) ∨ (75 ≤ j ∧ j < 113) ∨ (115 ≤ j ∧ j < 153) ∨ (155 ≤ j ∧ j < 190) ∨ (490 ≤ j ∧ j < 530))
section CG
variable {A A' : Int → Int} {U : Int → Option Nat} {F : Nat → Nat → Int32} {S : zS}
theorem dW_i {j : Int} (h : 0 ≤ j ∧ (j < 67 ∨ (70 ≤ j ∧ j < 73) ∨ (75 ≤ j ∧ j < 113) ∨ (115 ≤ j ∧ j < 153) ∨ (155 ≤ j ∧ j < 190) ∨ (490 ≤ j ∧ j < 530))) : dW j := h
theorem WF_cg (hW : WF A) (k : ∀ j, dW j → A' j = A j) : WF A' := by
  have hn := hW.n
  have e64 : A' 64 = A 64 := k 64 (dW_i (by omega))
  have e65 : A' 65 = A 65 := k 65 (dW_i (by omega))
  have e66 : A' 66 = A 66 := k 66 (dW_i (by omega))
  have ew : ∀ c, 0 ≤ c → c < 64 → A' c = A c := fun c h1 h2 => k c (dW_i (by omega))
  have e70 : ∀ a, 0 ≤ a → a ≤ 2 → A' (70 + 40 * a) = A (70 + 40 * a) := fun a h1 h2 => k _ (dW_i (by omega))
  have e71 : ∀ a, 0 ≤ a → a ≤ 2 → A' (71 + 40 * a) = A (71 + 40 * a) := fun a h1 h2 => k _ (dW_i (by omega))
  have e72 : ∀ a, 0 ≤ a → a ≤ 2 → A' (72 + 40 * a) = A (72 + 40 * a) := fun a h1 h2 => k _ (dW_i (by omega))
  have e75 : ∀ a p, 0 ≤ a → a ≤ 2 → 0 ≤ p → p ≤ 6 → A' (75 + 40 * a + p) = A (75 + 40 * a + p) := fun a p h1 h2 h3 h4 => k _ (dW_i (by omega))
  have e82 : ∀ a p, 0 ≤ a → a ≤ 2 → 0 ≤ p → p ≤ 6 → A' (82 + 40 * a + p) = A (82 + 40 * a + p) := fun a p h1 h2 h3 h4 => k _ (dW_i (by omega))
  have e89 : ∀ a p, 0 ≤ a → a ≤ 2 → 0 ≤ p → p ≤ 6 → A' (89 + 40 * a + p) = A (89 + 40 * a + p) := fun a p h1 h2 h3 h4 => k _ (dW_i (by omega))
  have e96 : ∀ a p, 0 ≤ a → a ≤ 2 → 0 ≤ p → p ≤ 6 → A' (96 + 40 * a + p) = A (96 + 40 * a + p) := fun a p h1 h2 h3 h4 => k _ (dW_i (by omega))
  have et : ∀ j, 490 ≤ j → j < 522 → A' j = A j := fun j h1 h2 => k _ (dW_i (by omega))
  have ev : ∀ a p, vP A' a p ↔ vP A a p := vP_cg e64 hn.1.2 e70
  refine ⟨⟨by rw [e64]; exact hn.1, by rw [e65]; exact hn.2.1, by rw [e66]; exact hn.2.2⟩, fun c h1 h2 => by rw [ew c h1 h2]; exact hW.w h1 h2, fun a h1 h2 => ?_, fun t h1 h2 => ?_, fun a p a' p' h1 h2 he => ?_, fun t t' c h1 h2 => ?_⟩
  · rw [e64] at h2
    have wa := hW.a ⟨h1, h2⟩
    have hpc := hW.pc ⟨h1, h2⟩
    unfold WA
    rw [e70 a h1 (by omega), e71 a h1 (by omega), e72 a h1 (by omega), e65]
    refine ⟨wa.1, wa.2.1, wa.2.2.1, fun p g1 g2 => ?_, fun p g1 g2 g3 => ?_⟩
    · have hv : vP A a p := ⟨⟨h1, h2⟩, g1, g2⟩
      have hc := hW.ce hv
      have ho := hW.ho hv
      rw [e75 a p h1 (by omega) g1 (by omega), e82 a p h1 (by omega) g1 (by omega), e96 a p h1 (by omega) g1 (by omega), ew _ hc.1 hc.2, e89 a p h1 (by omega) g1 (by omega)]
      refine ⟨hc, hW.me hv, hW.sa hv, hW.pw hv, ?_⟩
      rcases ho with ho | ho
      · exact Or.inl ho
      · right
        rw [et _ (by omega) (by omega), et _ (by omega) (by omega)]
        exact ho
    · rw [e75 a p h1 (by omega) (by omega) (by omega), e75 a (p - 1) h1 (by omega) (by omega) (by omega)]
      exact wa.2.2.2.2 p g1 g2 g3
  · rw [e65] at h2
    have w := hW.t ⟨h1, h2⟩
    have w2 := w.2.1
    unfold WT
    rw [et (490 + 4 * t) (by omega) (by omega), et (491 + 4 * t) (by omega) (by omega), et (492 + 4 * t) (by omega) (by omega), et (493 + 4 * t) (by omega) (by omega), ew _ w2.1 w2.2, e64]
    refine ⟨w.1, w.2.1, w.2.2.1, w.2.2.2.1, fun q => ?_, w.2.2.2.2.2⟩
    obtain ⟨a', p', k1, k2, k3⟩ := w.2.2.2.2.1 q
    have v2 := hW.vp k1
    exact ⟨a', p', (ev a' p').mpr k1, k2, by rw [e89 a' p' (by omega) (by omega) (by omega) (by omega)]; exact k3⟩
  · have g1 := (ev a p).mp h1
    have g2 := (ev a' p').mp h2
    have v1 := hW.vp g1
    have v2 := hW.vp g2
    rw [e75 a p (by omega) (by omega) (by omega) (by omega), e75 a' p' (by omega) (by omega) (by omega) (by omega)] at he
    exact hW.d g1 g2 he
  · have hc := ly_cg e65 hn.2.1.2 et
    exact hW.l ((hc t c).mp h1) ((hc t' c).mp h2)
theorem hasP_cg (hW : WF A) (k : ∀ j, dW j → A' j = A j) (c : Int) : hasP A' c ↔ hasP A c := by
  have hn := hW.n
  have ev : ∀ a p, vP A' a p ↔ vP A a p := vP_cg (k 64 (dW_i (by omega))) hn.1.2 (fun a h1 h2 => k _ (dW_i (by omega)))
  constructor
  · rintro ⟨a, p, h1, h2⟩
    rw [ev] at h1
    have v1 := hW.vp h1
    rw [k _ (dW_i (by omega))] at h2
    exact ⟨a, p, h1, h2⟩
  · rintro ⟨a, p, h1, h2⟩
    have v1 := hW.vp h1
    exact ⟨a, p, (ev a p).mpr h1, by rw [k _ (dW_i (by omega))]; exact h2⟩
theorem SRel_cg (hR : SRel A U F S) (hW : WF A) (k : ∀ j, dW j → A' j = A j) (k7 : A' 67 = A 67) {U' : Int → Option Nat} (hU : ∀ a, 0 ≤ a → a < A 64 → U' a = U a) : SRel A' U' F S := by
  have hn := hW.n
  have e64 : A' 64 = A 64 := k 64 (dW_i (by omega))
  have e65 : A' 65 = A 65 := k 65 (dW_i (by omega))
  have et : ∀ j, 490 ≤ j → j < 522 → A' j = A j := fun j h1 h2 => k _ (dW_i (by omega))
  refine ⟨?_, ?_, fun x g1 g2 => ?_, ?_, ?_, ?_, ?_, fun a' g1 g2 => ?_, fun a' g1 g2 => ?_, fun a' g1 g2 => ?_, fun a' g1 g2 => ?_, fun a' p' g1 g2 g3 g4 => ?_, fun a' p' g1 g2 g3 g4 => ?_, fun a' p' g1 g2 g3 g4 => ?_, fun a' p' g1 g2 g3 g4 => ?_, fun i => ?_, fun t g1 g2 => ?_, fun t g1 g2 => ?_, fun t g1 g2 g3 => ?_, fun t g1 g2 g3 => ?_, fun t g1 g2 g3 => ?_⟩
  · exact hR.w.trans (bset_cg (fun c g1 g2 => by rw [k c (dW_i (by omega))]))
  · exact hR.k.trans (bset_cg (fun c g1 g2 => (hasP_cg hW k c).symm))
  · exact (hR.l x g1 g2).trans (bset_cg (fun c k1 k2 => (lyx_cg e65 hn.2.1.2 et x c).symm))
  · rw [e64]; exact hR.n4
  · rw [e65]; exact hR.n6
  · rw [k 66 (dW_i (by omega))]; exact hR.n7
  · rw [k7]; exact hR.n8
  · rw [e64] at g2; rw [k _ (dW_i (by omega))]; exact hR.m0 a' g1 g2
  · rw [e64] at g2; rw [k _ (dW_i (by omega))]; exact hR.m1 a' g1 g2
  · rw [e64] at g2; rw [k _ (dW_i (by omega))]; exact hR.m2 a' g1 g2
  · rw [e64] at g2; rw [hU a' g1 g2]; exact hR.u a' g1 g2
  · rw [e64] at g2; have pc := hW.pc ⟨g1, g2⟩; rw [k (70 + 40 * a') (dW_i (by omega))] at g4; rw [k _ (dW_i (by omega))]; exact hR.r0 a' p' g1 g2 g3 g4
  · rw [e64] at g2; have pc := hW.pc ⟨g1, g2⟩; rw [k (70 + 40 * a') (dW_i (by omega))] at g4; rw [k _ (dW_i (by omega))]; exact hR.r1 a' p' g1 g2 g3 g4
  · rw [e64] at g2; have pc := hW.pc ⟨g1, g2⟩; rw [k (70 + 40 * a') (dW_i (by omega))] at g4; rw [k _ (dW_i (by omega))]; exact hR.r2 a' p' g1 g2 g3 g4
  · rw [e64] at g2; have pc := hW.pc ⟨g1, g2⟩; rw [k (70 + 40 * a') (dW_i (by omega))] at g4; rw [k _ (dW_i (by omega))]; exact hR.r3 a' p' g1 g2 g3 g4
  · exact hR.f i
  · rw [e65] at g2; rw [et _ (by omega) (by omega)]; exact hR.v0 t g1 g2
  · rw [e65] at g2; rw [et _ (by omega) (by omega)]; exact hR.v1 t g1 g2
  · rw [e65] at g2; rw [et _ (by omega) (by omega)] at g3 ⊢; exact hR.v2 t g1 g2 g3
  · rw [e65] at g2; rw [et _ (by omega) (by omega)] at g3 ⊢; exact hR.v3 t g1 g2 g3
  · rw [e65] at g2; rw [et _ (by omega) (by omega)] at g3 ⊢; exact hR.v4 t g1 g2 g3
end CG
