section DG
variable {h : zH} {b tS : Nat} {S : zS} {A : Int → Int} {U : Int → Option Nat} {F : Nat → Nat → Int32}
/-- a digit of an arm: head, memory, said -/
def isDg (e : Int) : Prop := ∃ a, (0 ≤ a ∧ a ≤ 2) ∧ (e = 72 + 40 * a ∨ (82 + 40 * a ≤ e ∧ e < 89 + 40 * a) ∨ (96 + 40 * a ≤ e ∧ e < 103 + 40 * a))
theorem WF_dig (hW : WF A) {e v : Int} (he : isDg e) (hv : 0 ≤ v ∧ v ≤ 3) : WF (uI A e v) := by
  have hn := hW.n
  obtain ⟨x, hx, he⟩ := he
  have ev : ∀ a' p', vP (uI A e v) a' p' ↔ vP A a' p' := fun a' p' => vP_cg (uI_n _ _ (by omega)) hn.1.2 (fun a' g1 g2 => uI_n _ _ (by omega)) a' p'
  have dg : ∀ j, 0 ≤ A j ∧ A j ≤ 3 → 0 ≤ uI A e v j ∧ uI A e v j ≤ 3 := fun j hj => by
    by_cases q : j = e
    · rw [uI_is _ _ q]; exact hv
    · rw [uI_n _ _ q]; exact hj
  refine ⟨?_, fun c g1 g2 => ?_, fun a' g1 g2 => ?_, fun t g1 g2 => ?_, fun a1 p1 a2 p2 k1 k2 e' => ?_, fun t t' c k1 k2 => ?_⟩
  · simp (disch := omega) only [uI_n]; exact hn
  · rw [uI_n _ _ (by omega)]; exact hW.w g1 g2
  · rw [uI_n _ _ (by omega)] at g2
    have wa := hW.a ⟨g1, g2⟩
    have hpc := hW.pc ⟨g1, g2⟩
    unfold WA
    rw [uI_n (j := 70 + 40 * a') _ _ (by omega), uI_n (j := 71 + 40 * a') _ _ (by omega), uI_n (j := 65) _ _ (by omega)]
    refine ⟨wa.1, wa.2.1, dg _ wa.2.2.1, fun q k1 k2 => ?_, fun q k1 k2 k3 => ?_⟩
    · have hv' : vP A a' q := ⟨⟨g1, g2⟩, k1, k2⟩
      have w := wa.2.2.2.1 q k1 k2
      have w1 := w.1
      have ho := hW.ho hv'
      refine ⟨?_, dg _ w.2.1, dg _ w.2.2.1, ?_, ?_⟩
      · rw [uI_n _ _ (by omega)]; exact w.1
      · rw [uI_n (j := 75 + 40 * a' + q) _ _ (by omega), uI_n _ _ (by omega)]; exact w.2.2.2.1
      · rw [uI_n (j := 89 + 40 * a' + q) _ _ (by omega)]
        rcases ho with h4 | h4
        · exact Or.inl h4
        · right
          simp (disch := omega) only [uI_n]
          exact h4
    · rw [uI_n _ _ (by omega), uI_n _ _ (by omega)]
      exact wa.2.2.2.2 q k1 k2 k3
  · rw [uI_n _ _ (by omega)] at g2
    have w := hW.t ⟨g1, g2⟩
    have w2 := w.2.1
    unfold WT
    simp (disch := omega) only [uI_n]
    refine ⟨w.1, w.2.1, w.2.2.1, w.2.2.2.1, fun q => ?_, w.2.2.2.2.2⟩
    obtain ⟨a', p', k1, k2, k3⟩ := w.2.2.2.2.1 q
    have v2 := hW.vp k1
    refine ⟨a', p', (ev a' p').mpr k1, k2, ?_⟩
    rw [uI_n _ _ (by omega)]; exact k3
  · rw [ev] at k1 k2
    have v2 := hW.vp k1
    have v3 := hW.vp k2
    rw [uI_n _ _ (by omega), uI_n _ _ (by omega)] at e'
    exact hW.d k1 k2 e'
  · have hc := ly_cg (A' := uI A e v) (uI_n A v (by omega)) hn.2.1.2 (fun j g1 g2 => uI_n A v (by omega))
    exact hW.l ((hc t c).mp k1) ((hc t' c).mp k2)
/-- what of the sea the digits leave as it was -/
theorem hasP_dig (hW : WF A) {e v : Int} (he : isDg e) (c : Int) : hasP (uI A e v) c ↔ hasP A c := by
  have hn := hW.n
  obtain ⟨x, hx, he⟩ := he
  have ev : ∀ a' p', vP (uI A e v) a' p' ↔ vP A a' p' := fun a' p' => vP_cg (uI_n _ _ (by omega)) hn.1.2 (fun a' g1 g2 => uI_n _ _ (by omega)) a' p'
  constructor
  · rintro ⟨a', p', k1, k2⟩
    rw [ev] at k1
    have v2 := hW.vp k1
    rw [uI_n _ _ (by omega)] at k2
    exact ⟨a', p', k1, k2⟩
  · rintro ⟨a', p', k1, k2⟩
    have v2 := hW.vp k1
    exact ⟨a', p', (ev a' p').mpr k1, by rw [uI_n _ _ (by omega)]; exact k2⟩
/-- the same change in the class's sea -/
theorem SRel_dig (hR : SRel A U F S) (hW : WF A) {e v : Int} {S' : zS} (he : isDg e) (e1 : S'.W = S.W) (e2 : S'.T = S.T) (e3 : S'.L = S.L) (e4 : S'.z = S.z) (e5 : S'.u = S.u) (e6 : S'.v = S.v) (en : ∀ i j, j ≠ 2 → S'.n i j = S.n i j) (er : ∀ i j, j ≠ 1 → j ≠ 3 → S'.r i j = S.r i j)
    (h2 : ∀ a, 0 ≤ a → a < A 64 → S'.n a.toNat 2 = iI (uI A e v (72 + 40 * a))) (r1 : ∀ a p, vP A a p → S'.r a.toNat 1 p.toNat = iI (uI A e v (82 + 40 * a + p))) (r3 : ∀ a p, vP A a p → S'.r a.toNat 3 p.toNat = iI (uI A e v (96 + 40 * a + p))) : SRel (uI A e v) U F S' := by
  have hn := hW.n
  obtain ⟨x, hx, he'⟩ := id he
  have e64 : uI A e v 64 = A 64 := uI_n _ _ (by omega)
  have e65 : uI A e v 65 = A 65 := uI_n _ _ (by omega)
  have e70 : ∀ a', 0 ≤ a' → a' < A 64 → uI A e v (70 + 40 * a') = A (70 + 40 * a') := fun a' g1 g2 => uI_n _ _ (by omega)
  refine ⟨?_, ?_, fun x g1 g2 => ?_, ?_, ?_, ?_, ?_, fun a' g1 g2 => ?_, fun a' g1 g2 => ?_, fun a' g1 g2 => ?_, fun a' g1 g2 => ?_, fun a' p' g1 g2 g3 g4 => ?_, fun a' p' g1 g2 g3 g4 => ?_, fun a' p' g1 g2 g3 g4 => ?_, fun a' p' g1 g2 g3 g4 => ?_, fun i => ?_, fun t g1 g2 => ?_, fun t g1 g2 => ?_, fun t g1 g2 g3 => ?_, fun t g1 g2 g3 => ?_, fun t g1 g2 g3 => ?_⟩
  · exact e1.trans (hR.w.trans (bset_cg (fun c g1 g2 => by rw [uI_n _ _ (by omega)])))
  · exact e2.trans (hR.k.trans (bset_cg (fun c g1 g2 => (hasP_dig hW he c).symm)))
  · rw [e3]; exact (hR.l x g1 g2).trans (bset_cg (fun c k1 k2 => (lyx_cg e65 hn.2.1.2 (fun j q1 q2 => uI_n _ _ (by omega)) x c).symm))
  · rw [e4, e64]; exact hR.n4
  · rw [e4, e65]; exact hR.n6
  · rw [e4, uI_n _ _ (by omega)]; exact hR.n7
  · rw [e4, uI_n _ _ (by omega)]; exact hR.n8
  · rw [e64] at g2; rw [e70 a' g1 g2, en _ _ (by omega)]; exact hR.m0 a' g1 g2
  · rw [e64] at g2; rw [uI_n _ _ (by omega), en _ _ (by omega)]; exact hR.m1 a' g1 g2
  · rw [e64] at g2; exact h2 a' g1 g2
  · rw [e64] at g2; rw [e5]; exact hR.u a' g1 g2
  · rw [e64] at g2; rw [e70 a' g1 g2] at g4
    have v2 := hW.vp (a := a') (p := p') ⟨⟨g1, g2⟩, g3, g4⟩
    rw [er _ _ (by omega) (by omega), uI_n _ _ (by omega)]; exact hR.r0 a' p' g1 g2 g3 g4
  · rw [e64] at g2; rw [e70 a' g1 g2] at g4
    exact r1 a' p' ⟨⟨g1, g2⟩, g3, g4⟩
  · rw [e64] at g2; rw [e70 a' g1 g2] at g4
    have v2 := hW.vp (a := a') (p := p') ⟨⟨g1, g2⟩, g3, g4⟩
    rw [er _ _ (by omega) (by omega), uI_n _ _ (by omega)]; exact hR.r2 a' p' g1 g2 g3 g4
  · rw [e64] at g2; rw [e70 a' g1 g2] at g4
    exact r3 a' p' ⟨⟨g1, g2⟩, g3, g4⟩
  · rw [er _ _ (by omega) (by omega)]; exact hR.f i
  · rw [e65] at g2; rw [e6, uI_n _ _ (by omega)]; exact hR.v0 t g1 g2
  · rw [e65] at g2; rw [e6, uI_n _ _ (by omega)]; exact hR.v1 t g1 g2
  · rw [e65] at g2; rw [e6]; rw [uI_n _ _ (by omega)] at g3 ⊢; exact hR.v2 t g1 g2 g3
  · rw [e65] at g2; rw [e6]; rw [uI_n _ _ (by omega)] at g3 ⊢; exact hR.v3 t g1 g2 g3
  · rw [e65] at g2; rw [e6]; rw [uI_n _ _ (by omega)] at g3 ⊢; exact hR.v4 t g1 g2 g3
theorem dg_m {a p : Int} (ha : 0 ≤ a ∧ a ≤ 2) (hp : 0 ≤ p ∧ p ≤ 6) : isDg (82 + 40 * a + p) := ⟨a, ha, by omega⟩
theorem dg_s {a p : Int} (ha : 0 ≤ a ∧ a ≤ 2) (hp : 0 ≤ p ∧ p ≤ 6) : isDg (96 + 40 * a + p) := ⟨a, ha, by omega⟩
theorem dg_h {a : Int} (ha : 0 ≤ a ∧ a ≤ 2) : isDg (72 + 40 * a) := ⟨a, ha, by omega⟩
theorem SRel_mem (hR : SRel A U F S) (hW : WF A) {a p v : Int} (hv : vP A a p) : SRel (uI A (82 + 40 * a + p) v) U F (sR S a.toNat 1 (upd (S.r a.toNat 1) p.toNat (iI v))) := by
  have v1 := hW.vp hv
  have hn := hW.n
  refine SRel_dig hR hW (dg_m v1.1 v1.2) rfl rfl rfl rfl rfl rfl (fun _ _ _ => rfl) (fun i j h1 _ => sR_n _ _ (Or.inr h1)) (fun a' g1 g2 => ?_) (fun a' p' hv' => ?_) (fun a' p' hv' => ?_)
  · rw [uI_n _ _ (by omega)]; exact hR.m2 a' g1 g2
  · have v2 := hW.vp hv'
    by_cases e : a' = a
    · subst e
      rw [sR_s]
      by_cases e2 : p' = p
      · subst e2; rw [pk_us, uI_s]
      · rw [pk_un (by omega), uI_n _ _ (by omega)]; exact hR.r1 a' p' hv'.1.1 hv'.1.2 hv'.2.1 hv'.2.2
    · rw [sR_n _ _ (by omega), uI_n _ _ (by omega)]; exact hR.r1 a' p' hv'.1.1 hv'.1.2 hv'.2.1 hv'.2.2
  · have v2 := hW.vp hv'
    rw [sR_n _ _ (by omega), uI_n _ _ (by omega)]; exact hR.r3 a' p' hv'.1.1 hv'.1.2 hv'.2.1 hv'.2.2
theorem SRel_said (hR : SRel A U F S) (hW : WF A) {a p v : Int} (hv : vP A a p) : SRel (uI A (96 + 40 * a + p) v) U F (sR S a.toNat 3 (upd (S.r a.toNat 3) p.toNat (iI v))) := by
  have v1 := hW.vp hv
  have hn := hW.n
  refine SRel_dig hR hW (dg_s v1.1 v1.2) rfl rfl rfl rfl rfl rfl (fun _ _ _ => rfl) (fun i j _ h1 => sR_n _ _ (Or.inr h1)) (fun a' g1 g2 => ?_) (fun a' p' hv' => ?_) (fun a' p' hv' => ?_)
  · rw [uI_n _ _ (by omega)]; exact hR.m2 a' g1 g2
  · have v2 := hW.vp hv'
    rw [sR_n _ _ (by omega), uI_n _ _ (by omega)]; exact hR.r1 a' p' hv'.1.1 hv'.1.2 hv'.2.1 hv'.2.2
  · have v2 := hW.vp hv'
    by_cases e : a' = a
    · subst e
      rw [sR_s]
      by_cases e2 : p' = p
      · subst e2; rw [pk_us, uI_s]
      · rw [pk_un (by omega), uI_n _ _ (by omega)]; exact hR.r3 a' p' hv'.1.1 hv'.1.2 hv'.2.1 hv'.2.2
    · rw [sR_n _ _ (by omega), uI_n _ _ (by omega)]; exact hR.r3 a' p' hv'.1.1 hv'.1.2 hv'.2.1 hv'.2.2
theorem sN_n (S : zS) {i j i' j' : Nat} (x : Int32) (hn : i' ≠ i ∨ j' ≠ j) : (sN S i j x).n i' j' = S.n i' j' := by
  show updR S.n i (upd (S.n i) j x) i' j' = _
  by_cases e : i' = i
  · subst e; rw [updR_s, pk_un (by omega)]
  · rw [updR_n _ _ e]
theorem SRel_head (hR : SRel A U F S) (hW : WF A) {a v : Int} (ha : 0 ≤ a ∧ a < A 64) : SRel (uI A (72 + 40 * a) v) U F (sN S a.toNat 2 (iI v)) := by
  have hn := hW.n
  refine SRel_dig hR hW (dg_h (by omega)) rfl rfl rfl rfl rfl rfl (fun i j hj => sN_n _ _ (Or.inr hj)) (fun i j _ h1 => rfl) (fun a' g1 g2 => ?_) (fun a' p' hv' => ?_) (fun a' p' hv' => ?_)
  · by_cases e : a' = a
    · subst e; rw [sN_s, pk_us, uI_s]
    · rw [sN_n _ _ (by omega), uI_n _ _ (by omega)]; exact hR.m2 a' g1 g2
  · have v2 := hW.vp hv'
    rw [uI_n _ _ (by omega)]; exact hR.r1 a' p' hv'.1.1 hv'.1.2 hv'.2.1 hv'.2.2
  · have v2 := hW.vp hv'
    rw [uI_n _ _ (by omega)]; exact hR.r3 a' p' hv'.1.1 hv'.1.2 hv'.2.1 hv'.2.2
end DG
