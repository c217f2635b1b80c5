section FL
variable {A A' : Int → Int}
theorem vP_cg (h0 : A' 64 = A 64) (h3 : A 64 ≤ 3) (h1 : ∀ a, 0 ≤ a → a ≤ 2 → A' (70 + 40 * a) = A (70 + 40 * a)) (a p : Int) : vP A' a p ↔ vP A a p := by
  unfold vP
  rw [h0]
  refine ⟨fun q => ⟨q.1, q.2.1, ?_⟩, fun q => ⟨q.1, q.2.1, ?_⟩⟩
  · rw [← h1 a (by omega) (by omega)]; exact q.2.2
  · rw [h1 a (by omega) (by omega)]; exact q.2.2
theorem ly_cg (h0 : A' 65 = A 65) (h8 : A 65 ≤ 8) (h1 : ∀ j, 490 ≤ j → j < 522 → A' j = A j) (t c : Int) : ly A' t c ↔ ly A t c := by
  unfold ly
  rw [h0]
  constructor
  · rintro ⟨q1, q2, q3⟩
    rw [h1 _ (by omega) (by omega)] at q2 q3
    exact ⟨q1, q2, q3⟩
  · rintro ⟨q1, q2, q3⟩
    refine ⟨q1, ?_, ?_⟩
    · rw [h1 _ (by omega) (by omega)]; exact q2
    · rw [h1 _ (by omega) (by omega)]; exact q3
theorem lyx_cg (h0 : A' 65 = A 65) (h8 : A 65 ≤ 8) (h1 : ∀ j, 490 ≤ j → j < 522 → A' j = A j) (x c : Int) : (∃ t, ly A' t c ∧ A' (492 + 4 * t) = x) ↔ ∃ t, ly A t c ∧ A (492 + 4 * t) = x := by
  constructor
  · rintro ⟨t, q1, q2⟩
    have := q1.1
    rw [h1 _ (by omega) (by omega)] at q2
    exact ⟨t, (ly_cg h0 h8 h1 t c).mp q1, q2⟩
  · rintro ⟨t, q1, q2⟩
    have := q1.1
    refine ⟨t, (ly_cg h0 h8 h1 t c).mpr q1, ?_⟩
    rw [h1 _ (by omega) (by omega)]; exact q2
/-- a piece lies elsewhere -/
theorem WF_cell (hW : WF A) {a p v : Int} (hv : vP A a p) (hf : free A v) (h64 : v < 64) (had : 0 < p → p ≠ A (71 + 40 * a) → ∃ s, (0 ≤ s ∧ s ≤ 3) ∧ v = bes (A (75 + 40 * a + (p - 1))) s) (had2 : p + 1 < A (70 + 40 * a) → p + 1 ≠ A (71 + 40 * a) → ∃ s, (0 ≤ s ∧ s ≤ 3) ∧ A (75 + 40 * a + (p + 1)) = bes v s) : WF (uI A (75 + 40 * a + p) v) := by
  have hn := hW.n
  have v1 := hW.vp hv
  have hv0 := hf.1
  have ev : ∀ a' p', vP (uI A (75 + 40 * a + p) v) a' p' ↔ vP A a' p' := fun a' p' => vP_cg (uI_n _ _ (by omega)) hn.1.2 (fun a' g1 g2 => uI_n _ _ (by omega)) a' p'
  refine ⟨?_, fun c g1 g2 => ?_, fun a' g1 g2 => ?_, fun t g1 g2 => ?_, fun a1 p1 a2 p2 k1 k2 e => ?_, fun t t' c k1 k2 => ?_⟩
  · simp (disch := omega) only [uI_n]; exact hn
  · rw [uI_n _ _ (by omega)]; exact hW.w g1 g2
  · rw [uI_n _ _ (by omega)] at g2
    have wa := hW.a ⟨g1, g2⟩
    have hpc := hW.pc ⟨g1, g2⟩
    unfold WA
    rw [uI_n (j := 70 + 40 * a') _ _ (by omega), uI_n (j := 71 + 40 * a') _ _ (by omega), uI_n (j := 72 + 40 * a') _ _ (by omega), uI_n (j := 65) _ _ (by omega)]
    refine ⟨wa.1, wa.2.1, wa.2.2.1, fun q k1 k2 => ?_, fun q k1 k2 k3 => ?_⟩
    · have hv' : vP A a' q := ⟨⟨g1, g2⟩, k1, k2⟩
      have w := wa.2.2.2.1 q k1 k2
      have ho := hW.ho hv'
      refine ⟨?_, ?_, ?_, ?_, ?_⟩
      · by_cases e : a' = a ∧ q = p
        · obtain ⟨rfl, rfl⟩ := e; rw [uI_s]; exact ⟨hv0, h64⟩
        · rw [uI_n _ _ (by omega)]; exact w.1
      · rw [uI_n _ _ (by omega)]; exact w.2.1
      · rw [uI_n _ _ (by omega)]; exact w.2.2.1
      · by_cases e : a' = a ∧ q = p
        · obtain ⟨rfl, rfl⟩ := e; rw [uI_s, uI_n _ _ (by omega)]; exact hf.2.1
        · have := w.1
          rw [uI_n _ _ (show 75 + 40 * a' + q ≠ 75 + 40 * a + p by omega), uI_n _ _ (by omega)]; exact w.2.2.2.1
      · rw [uI_n (j := 89 + 40 * a' + q) _ _ (by omega)]
        rcases ho with h4 | h4
        · exact Or.inl h4
        · right
          simp (disch := omega) only [uI_n]
          exact h4
    · by_cases e : a' = a ∧ q = p
      · obtain ⟨rfl, rfl⟩ := e
        rw [uI_s, uI_n _ _ (by omega)]
        exact had k1 k3
      · by_cases e2 : a' = a ∧ q = p + 1
        · obtain ⟨rfl, rfl⟩ := e2
          rw [uI_is (j := 75 + 40 * a' + (p + 1 - 1)) _ _ (by omega), uI_n _ _ (by omega)]
          exact had2 k2 k3
        · rw [uI_n _ _ (by omega), uI_n _ _ (by omega)]
          exact wa.2.2.2.2 q k1 k2 k3
  · rw [uI_n _ _ (by omega)] at g2
    have w := hW.t ⟨g1, g2⟩
    have w2 := w.2.1
    unfold WT
    simp (disch := omega) only [uI_n]
    refine ⟨w.1, w.2.1, w.2.2.1, w.2.2.2.1, fun q => ?_, w.2.2.2.2.2⟩
    obtain ⟨a', p', k1, k2, k3⟩ := w.2.2.2.2.1 q
    have v2 := hW.vp k1
    refine ⟨a', p', (ev a' p').mpr k1, k2, ?_⟩
    rw [uI_n _ _ (by omega)]; exact k3
  · rw [ev] at k1 k2
    have v2 := hW.vp k1
    have v3 := hW.vp k2
    by_cases e1 : a1 = a ∧ p1 = p
    · by_cases e2 : a2 = a ∧ p2 = p
      · omega
      · obtain ⟨rfl, rfl⟩ := e1
        rw [uI_s, uI_n _ _ (by omega)] at e
        exact absurd ⟨a2, p2, k2, e.symm⟩ hf.2.2
    · by_cases e2 : a2 = a ∧ p2 = p
      · obtain ⟨rfl, rfl⟩ := e2
        rw [uI_s, uI_n _ _ (by omega)] at e
        exact absurd ⟨a1, p1, k1, e⟩ hf.2.2
      · rw [uI_n _ _ (by omega), uI_n _ _ (by omega)] at e
        exact hW.d k1 k2 e
  · have hc := ly_cg (A' := uI A (75 + 40 * a + p) v) (uI_n A v (by omega)) hn.2.1.2 (fun j g1 g2 => uI_n A v (by omega))
    exact hW.l ((hc t c).mp k1) ((hc t' c).mp k2)
theorem turn_ok {c s : Int} (hc : 0 ≤ c ∧ c < 64) (hs : 0 ≤ s) (hr : 0 ≤ turn A c s) : free A (turn A c s) ∧ ∃ x, (0 ≤ x ∧ x ≤ 3) ∧ turn A c s = bes c x := by
  unfold turn at hr ⊢
  split
  · rename_i q; exact ⟨q, _, by omega, rfl⟩
  · rename_i q
    rw [if_neg q] at hr
    split
    · rename_i q2; exact ⟨q2, _, by omega, rfl⟩
    · rename_i q2
      rw [if_neg q2] at hr
      by_cases q3 : free A (bes c ((s + 3) % 4))
      · rw [pick_t q3]; exact ⟨q3, _, by omega, rfl⟩
      · rw [pick_f q3] at hr; omega
theorem goesTo_ok (hW : WF A) {a p : Int} (hv : vP A a p) (hg : 0 ≤ goesTo A a p) : free A (goesTo A a p) ∧ (0 < p → p ≠ A (71 + 40 * a) → ∃ s, (0 ≤ s ∧ s ≤ 3) ∧ goesTo A a p = bes (A (75 + 40 * a + (p - 1))) s) ∧ (p + 1 < A (70 + 40 * a) → p + 1 ≠ A (71 + 40 * a) → ∃ s, (0 ≤ s ∧ s ≤ 3) ∧ A (75 + 40 * a + (p + 1)) = bes (goesTo A a p) s) := by
  have v1 := hW.vp hv
  have hc := hv.2
  unfold goesTo at hg ⊢
  by_cases q0 : p = 0 ∨ p = A (71 + 40 * a)
  · rw [if_pos q0] at hg; omega
  · rw [if_neg q0] at hg ⊢
    have c1 := hW.ce (a := a) (p := p - 1) ⟨hv.1, by omega, by omega⟩
    have c0 := hW.ce hv
    obtain ⟨s, hs1, hs2⟩ := hW.ad hv (by omega) (by omega)
    by_cases ht : isTip A a p
    · rw [if_pos ht] at hg ⊢
      obtain ⟨k1, x, k2, k3⟩ := turn_ok c1 (sideTo_rg _ _).1 hg
      exact ⟨k1, fun _ _ => ⟨x, k2, k3⟩, fun g1 g2 => absurd ht (by unfold isTip; omega)⟩
    · rw [if_neg ht] at hg ⊢
      have hv2 : vP A a (p + 1) := ⟨hv.1, by omega, by unfold isTip at ht; omega⟩
      have c2 := hW.ce hv2
      obtain ⟨s', hs3, hs4⟩ := hW.ad hv2 (by omega) (by unfold isTip at ht; omega)
      rw [show p + 1 - 1 = p by omega] at hs4
      unfold flp at hg ⊢
      by_cases q : (A (75 + 40 * a + (p - 1)) % 8 - A (75 + 40 * a + (p + 1)) % 8) * (A (75 + 40 * a + (p - 1)) % 8 - A (75 + 40 * a + (p + 1)) % 8) = 1 ∧ (A (75 + 40 * a + (p - 1)) / 8 - A (75 + 40 * a + (p + 1)) / 8) * (A (75 + 40 * a + (p - 1)) / 8 - A (75 + 40 * a + (p + 1)) / 8) = 1
      · rw [if_pos q] at hg ⊢
        have ac := across c1.1 c1.2 hs1 hs3 hs2 hs4 c0.1 c2.1 q
        rw [ac.1] at hg ⊢
        by_cases hf : free A (A (75 + 40 * a + (p - 1)) + A (75 + 40 * a + (p + 1)) - A (75 + 40 * a + p))
        · rw [pick_t hf]
          exact ⟨hf, fun _ _ => ⟨s', hs3, ac.2.2.1.symm⟩, fun _ _ => ⟨s, hs1, ac.2.2.2.symm⟩⟩
        · rw [pick_f hf] at hg; omega
      · rw [if_neg q] at hg; omega
noncomputable def sFlip (A : Int → Int) (a p : Int) : Int → Int := uI A (75 + 40 * a + p) (if goesTo A a p < 0 then A (75 + 40 * a + p) else goesTo A a p)
theorem uI_self (A : Int → Int) (e : Int) : uI A e (A e) = A := by
  funext j
  by_cases q : j = e
  · subst q; rw [uI_s]
  · rw [uI_n _ _ q]
theorem sFlip_n {a p : Int} (hg : goesTo A a p < 0) : sFlip A a p = A := by unfold sFlip; rw [if_pos hg, uI_self]
theorem sFlip_y {a p : Int} (hg : ¬ goesTo A a p < 0) : sFlip A a p = uI A (75 + 40 * a + p) (goesTo A a p) := by unfold sFlip; rw [if_neg hg]
theorem WF_flip (hW : WF A) {a p : Int} (hv : vP A a p) : WF (sFlip A a p) := by
  by_cases hg : goesTo A a p < 0
  · rw [sFlip_n hg]; exact hW
  · rw [sFlip_y hg]
    have ok := goesTo_ok hW hv (by omega)
    exact WF_cell hW hv ok.1 (goesTo_rg hW hv).2 ok.2.1 ok.2.2
end FL
section C2
variable {h : zH} {b tS : Nat} {S : zS} {A : Int → Int} {U : Int → Option Nat} {F : Nat → Nat → Int32}
def SR (h : zH) (b : Nat) (A : Int → Int) (U : Int → Option Nat) (F : Nat → Nat → Int32) : Prop := ∃ S, SAt h b S ∧ SRel A U F S
theorem SR_fr {h' : zH} (hS : SR h b A U F) (hf : ∀ q : Nat, b ≤ q → q < b + 30 → h' q = h q) : SR h' b A U F := by
  obtain ⟨S, h1, h2⟩ := hS
  exact ⟨S, SAt_fr h1 hf, h2⟩
theorem C_isTip (hS : SAt h b S) (hR : SRel A U F S) (hW : WF A) {a p : Int} (hv : vP A a p) : f_X0_isTip (some (b + 4 + 6 * a.toNat)) (iI p) h = some (tb (isTip A a p), h) := by
  have hn := hW.n
  have h1 := hW.vp hv
  have h2 := hW.pc hv.1
  have h3 := hW.cu hv.1
  have m0 := hR.m0 a hv.1.1 hv.1.2
  have m1 := hR.m1 a hv.1.1 hv.1.2
  have hcv : A (71 + 40 * a) = -4 ∧ cutv (A (71 + 40 * a)) = 0 ∨ (1 ≤ A (71 + 40 * a) ∧ cutv (A (71 + 40 * a)) = A (71 + 40 * a)) := by
    rcases h3 with q | q
    · left; exact ⟨q, by rw [q]; rfl⟩
    · right; exact ⟨q.1, by unfold cutv; rw [if_neg (by omega)]⟩
  simp (disch := omega) only [f_X0_isTip, An0 hS, An1 hS, m0, m1, Option.bind_some, z_b2_some, z_i1_some, iI_lit, iI_add, iI_sub, iI_mul, iI_neg, iI_eq]
  refine ite_c (fun q => ?_) (fun q => ite_c (fun q2 => ?_) (fun q2 => ?_))
  · rw [tb_t (show isTip A a p from Or.inl q)]
  · rw [tb_t (show isTip A a p from Or.inr (by omega))]
  · rw [tb_f (fun e => e.elim q (fun e2 => q2 (by omega)))]
theorem SRel_cell (hR : SRel A U F S) (hW : WF A) {a p v : Int} (hv : vP A a p) : SRel (uI A (75 + 40 * a + p) v) U F (sR (sT S (bset (hasP (uI A (75 + 40 * a + p) v)))) a.toNat 0 (upd (S.r a.toNat 0) p.toNat (iI v))) := by
  have hn := hW.n
  have v1 := hW.vp hv
  have e64 : uI A (75 + 40 * a + p) v 64 = A 64 := uI_n _ _ (by omega)
  have e65 : uI A (75 + 40 * a + p) v 65 = A 65 := uI_n _ _ (by omega)
  have e70 : ∀ a', 0 ≤ a' → a' < A 64 → uI A (75 + 40 * a + p) v (70 + 40 * a') = A (70 + 40 * a') := fun a' g1 g2 => uI_n _ _ (by omega)
  refine ⟨?_, rfl, fun x g1 g2 => ?_, ?_, ?_, ?_, ?_, fun a' g1 g2 => ?_, fun a' g1 g2 => ?_, fun a' g1 g2 => ?_, fun a' g1 g2 => ?_, fun a' p' g1 g2 g3 g4 => ?_, fun a' p' g1 g2 g3 g4 => ?_, fun a' p' g1 g2 g3 g4 => ?_, fun a' p' g1 g2 g3 g4 => ?_, fun i => ?_, fun t g1 g2 => ?_, fun t g1 g2 => ?_, fun t g1 g2 g3 => ?_, fun t g1 g2 g3 => ?_, fun t g1 g2 g3 => ?_⟩
  · exact hR.w.trans (bset_cg (fun c g1 g2 => by rw [uI_n _ _ (by omega)]))
  · exact (hR.l x g1 g2).trans (bset_cg (fun c k1 k2 => (lyx_cg e65 hn.2.1.2 (fun j q1 q2 => uI_n _ _ (by omega)) x c).symm))
  · rw [e64]; exact hR.n4
  · rw [e65]; exact hR.n6
  · rw [uI_n _ _ (by omega)]; exact hR.n7
  · rw [uI_n _ _ (by omega)]; exact hR.n8
  · rw [e64] at g2; rw [e70 a' g1 g2]; exact hR.m0 a' g1 g2
  · rw [e64] at g2; rw [uI_n _ _ (by omega)]; exact hR.m1 a' g1 g2
  · rw [e64] at g2; rw [uI_n _ _ (by omega)]; exact hR.m2 a' g1 g2
  · rw [e64] at g2; exact hR.u a' g1 g2
  · rw [e64] at g2; rw [e70 a' g1 g2] at g4
    have v2 := hW.vp (a := a') (p := p') ⟨⟨g1, g2⟩, g3, g4⟩
    by_cases e : a' = a
    · subst e
      rw [sR_s]
      by_cases e2 : p' = p
      · subst e2; rw [pk_us, uI_s]
      · rw [pk_un (by omega), uI_n _ _ (by omega)]; exact hR.r0 a' p' g1 g2 g3 g4
    · rw [sR_n _ _ (by omega), uI_n _ _ (by omega)]; exact hR.r0 a' p' g1 g2 g3 g4
  · rw [e64] at g2; rw [e70 a' g1 g2] at g4
    have v2 := hW.vp (a := a') (p := p') ⟨⟨g1, g2⟩, g3, g4⟩
    rw [sR_n _ _ (by omega), uI_n _ _ (by omega)]; exact hR.r1 a' p' g1 g2 g3 g4
  · rw [e64] at g2; rw [e70 a' g1 g2] at g4
    have v2 := hW.vp (a := a') (p := p') ⟨⟨g1, g2⟩, g3, g4⟩
    rw [sR_n _ _ (by omega), uI_n _ _ (by omega)]; exact hR.r2 a' p' g1 g2 g3 g4
  · rw [e64] at g2; rw [e70 a' g1 g2] at g4
    have v2 := hW.vp (a := a') (p := p') ⟨⟨g1, g2⟩, g3, g4⟩
    rw [sR_n _ _ (by omega), uI_n _ _ (by omega)]; exact hR.r3 a' p' g1 g2 g3 g4
  · rw [sR_n _ _ (by omega)]; exact hR.f i
  · rw [e65] at g2; rw [uI_n _ _ (by omega)]; exact hR.v0 t g1 g2
  · rw [e65] at g2; rw [uI_n _ _ (by omega)]; exact hR.v1 t g1 g2
  · rw [e65] at g2; rw [uI_n _ _ (by omega)] at g3 ⊢; exact hR.v2 t g1 g2 g3
  · rw [e65] at g2; rw [uI_n _ _ (by omega)] at g3 ⊢; exact hR.v3 t g1 g2 g3
  · rw [e65] at g2; rw [uI_n _ _ (by omega)] at g3 ⊢; exact hR.v4 t g1 g2 g3
theorem hasP_cell (hW : WF A) {a p v : Int} (hv : vP A a p) (c : Int) : hasP (uI A (75 + 40 * a + p) v) c ↔ (hasP A c ∧ ¬ c = A (75 + 40 * a + p)) ∨ c = v := by
  have hn := hW.n
  have v1 := hW.vp hv
  have ev : ∀ a' p', vP (uI A (75 + 40 * a + p) v) a' p' ↔ vP A a' p' := fun a' p' => vP_cg (uI_n _ _ (by omega)) hn.1.2 (fun a' g1 g2 => uI_n _ _ (by omega)) a' p'
  constructor
  · rintro ⟨a', p', k1, k2⟩
    rw [ev] at k1
    have v2 := hW.vp k1
    by_cases e : a' = a ∧ p' = p
    · obtain ⟨rfl, rfl⟩ := e; rw [uI_s] at k2; exact Or.inr k2.symm
    · rw [uI_n _ _ (by omega)] at k2
      refine Or.inl ⟨⟨a', p', k1, k2⟩, fun q => ?_⟩
      have := hW.d k1 hv (by omega)
      exact e this
  · rintro (⟨⟨a', p', k1, k2⟩, k3⟩ | rfl)
    · have v2 := hW.vp k1
      refine ⟨a', p', (ev a' p').mpr k1, ?_⟩
      by_cases e : a' = a ∧ p' = p
      · obtain ⟨rfl, rfl⟩ := e; exact absurd k2.symm k3
      · rw [uI_n _ _ (by omega)]; exact k2
    · exact ⟨a, p, (ev a p).mpr hv, uI_s _ _ _⟩
theorem C_move (hT : hST h tS) (hS : SR h b A U F) (hW : WF A) {a p : Int} (hv : vP A a p) (hp : 1 ≤ p) (hcu : p ≠ A (71 + 40 * a)) : ∃ h', f_X6_move tS (some b) (some (b + 4 + 6 * a.toNat)) (iI p) h = some (tb (0 ≤ goesTo A a p), h') ∧ SR h' b (sFlip A a p) U F ∧ fr b 30 h h' := by
  obtain ⟨S, hS, hR⟩ := hS
  have hn := hW.n
  have v1 := hW.vp hv
  have hv2 := hv.2
  have hva := hv.1
  have hpc := hW.pc hv.1
  have g := goesTo_rg hW hv
  have c0 := hW.ce hv
  have r0 := hR.r0 a p hva.1 hva.2 hv2.1 hv2.2
  have b55 : ∃ h', f_X6_move_b55 tS (some b) (some (b + 4 + 6 * a.toNat)) (iI p) (iI (goesTo A a p)) h = some (tb (0 ≤ goesTo A a p), h') ∧ SR h' b (sFlip A a p) U F ∧ fr b 30 h h' := by
    by_cases q : goesTo A a p < 0
    · refine ⟨h, ?_, ?_, fr_rf _ _ _⟩
      · rw [tb_f (by omega)]
        simp (disch := omega) only [f_X6_move_b55, iI_lit, iI_add, iI_sub, iI_mul, iI_neg, iI_le, if_neg]
      · rw [sFlip_n q]; exact ⟨S, hS, hR⟩
    · have S1 := SAt_o hS (S' := sT S (bset (hasP (uI A (75 + 40 * a + p) (goesTo A a p))))) rfl rfl rfl rfl rfl
      have S2 := SAt_r S1 (i := a.toNat) (j := 0) (by omega) (by omega) (upd (S.r a.toNat 0) p.toNat (iI (goesTo A a p)))
      have hval : ((bset (hasP A)) &&& ((((1 : Int64) <<< (Int32.toInt64 (iI (A (75 + 40 * a + p))) &&& 63))) ^^^ (-1 : Int64))) ||| ((1 : Int64) <<< (Int32.toInt64 (iI (goesTo A a p)) &&& 63)) = bset (hasP (uI A (75 + 40 * a + p) (goesTo A a p))) := by
        rw [bset_one c0.1 c0.2, bset_one (by omega) g.2, bset_not, bset_and, bset_or]
        exact bset_cg (fun c _ _ => (hasP_cell hW hv c).symm)
      refine ⟨_, ?_, ⟨_, S2, ?_⟩, ?_⟩
      · rw [tb_t (by omega)]
        simp (disch := omega) only [f_X6_move_b55, iI_lit, iI_add, iI_sub, iI_mul, iI_neg, iI_le, if_pos, ST hS, hR.k, Ag4 hS, Arow hS, r0, Option.bind_some, z_b2_some, z_i1_some]
        rw [hval]
        simp (disch := omega) only [SpT hS, Ag4 S1, AwR S1, Option.bind_some, z_b2_some, z_i1_some]
        rfl
      · rw [sFlip_y q]
        exact SRel_cell hR hW hv
      · exact fr_tr (fr_up (by omega) (by omega)) (fr_up (by omega) (by omega))
  have rm := hR.r0 a (p - 1) hva.1 hva.2 (by omega) (by omega)
  have c1 := hW.ce (a := a) (p := p - 1) ⟨hva, by omega, by omega⟩
  obtain ⟨s, hs1, hs2⟩ := hW.ad hv (by omega) hcu
  have ge : goesTo A a p = @ite _ (isTip A a p) (Classical.propDecidable _) (turn A (A (75 + 40 * a + (p - 1))) (sideTo (A (75 + 40 * a + (p - 1))) (A (75 + 40 * a + p)))) (flp A (A (75 + 40 * a + (p - 1))) (A (75 + 40 * a + (p + 1))) (A (75 + 40 * a + p))) := by
    unfold goesTo; rw [if_neg (by omega)]
  simp (disch := omega) only [f_X6_move, Ack hS, Option.bind_some, z_b2_some, z_i1_some, C_isTip hS hR hW hv, iI_lit, iI_add, iI_sub, iI_mul, iI_neg, ite_tb]
  by_cases ht : isTip A a p
  · rw [if_pos ht]
    rw [if_pos ht] at ge
    simp (disch := omega) only [Ag4 hS, Arow hS, Sck hS, r0, rm, Option.bind_some, z_b2_some, z_i1_some, C_turned hT hS hR hW c1 hs1 c0.1 hs2]
    rw [← ge]
    exact b55
  · rw [if_neg ht]
    rw [if_neg ht] at ge
    have hvn : vP A a (p + 1) := ⟨hva, by omega, by unfold isTip at ht; omega⟩
    have hvn2 := hvn.2
    have rp := hR.r0 a (p + 1) hva.1 hva.2 (by omega) (by omega)
    have c2 := hW.ce hvn
    obtain ⟨s', hs3, hs4⟩ := hW.ad hvn (by omega) (by unfold isTip at ht; omega)
    rw [show p + 1 - 1 = p by omega] at hs4
    simp (disch := omega) only [Ag4 hS, Arow hS, Sck hS, r0, rm, rp, Option.bind_some, z_b2_some, z_i1_some, C_flipped hS hR hW c1.1 c1.2 hs1 hs3 hs2 hs4 c0.1 c2.1 c2.2]
    rw [← ge]
    exact b55
end C2
