section C4
variable {h : zH} {b tS : Nat} {S : zS} {A : Int → Int} {U : Int → Option Nat} {F : Nat → Nat → Int32}
theorem uL_s (f : Nat → Int64) (k : Nat) (x : Int64) : vp_updL f k x k = x := if_pos rfl
theorem uL_n (f : Nat → Int64) {k j : Nat} (x : Int64) (hn : j ≠ k) : vp_updL f k x j = f j := if_neg hn
noncomputable def liS (S : zS) (A : Int → Int) (t : Int) : zS := sL S (vp_updL S.L (A (492 + 4 * t)).toNat (bset (fun c => (∃ u, ly A u c ∧ A (492 + 4 * u) = A (492 + 4 * t)) ∧ ¬ c = A (491 + 4 * t))))
theorem C_lift (hS : SAt h b S) (hR : SRel A U F S) (hW : WF A) {t : Int} (ht : 0 ≤ t ∧ t < A 65) (hl : A (490 + 4 * t) = 0) : ∃ h', f_X6_lift (some b) (iI t) h = some h' ∧ SAt h' b (liS S A t) ∧ fr b 30 h h' := by
  have hn := hW.n
  have w := hW.t ht
  have w2 := w.2.1
  have w3 := w.2.2.1
  have v0 := hR.v0 t ht.1 ht.2
  have v2 := hR.v2 t ht.1 ht.2 hl
  have l := hR.l _ w3.1 w3.2
  refine ⟨_, ?_, SAt_l hS _, fr_up (by omega) (by omega)⟩
  simp (disch := omega) only [f_X6_lift, Sg2 hS, Sg5 hS, Sthg hS, Tv0 hS, Tv2 hS, v0, v2, SL hS, l, bset_one, bset_not, bset_and, SwL hS, Option.bind_some, z_b2_some, z_i1_some]
theorem ly_give {a p t u c : Int} (hW : WF A) (hv : vP A a p) (ht : 0 ≤ t ∧ t < A 65) : ly (sGive A a p t) u c ↔ ly A u c ∧ u ≠ t := by
  have hn := hW.n
  have v1 := hW.vp hv
  unfold ly sGive
  rw [uI_n (j := 65) _ _ (by omega), uI_n (j := 65) _ _ (by omega), uI_n (j := 65) _ _ (by omega)]
  constructor
  · rintro ⟨k1, k2, k3⟩
    by_cases e : u = t
    · subst e
      simp (disch := omega) only [uI_n, uI_s] at k2
      omega
    · simp (disch := omega) only [uI_n] at k2 k3
      exact ⟨⟨k1, k2, k3⟩, e⟩
  · rintro ⟨⟨k1, k2, k3⟩, e⟩
    refine ⟨k1, ?_, ?_⟩
    · simp (disch := omega) only [uI_n]; exact k2
    · simp (disch := omega) only [uI_n]; exact k3
theorem SRel_give (hR : SRel A U F S) (hW : WF A) {a p t : Int} (hv : vP A a p) (ht : 0 ≤ t ∧ t < A 65) (hl : A (490 + 4 * t) = 0) : SRel (sGive A a p t) U F (gvS (liS S A t) a p t) := by
  have hn := hW.n
  have v1 := hW.vp hv
  have w := hW.t ht
  have tx : ∀ u, 0 ≤ u → u < A 65 → sGive A a p t (492 + 4 * u) = A (492 + 4 * u) := fun u g1 g2 => by
    unfold sGive; simp (disch := omega) only [uI_n]
  refine SRel_hold hR hW (fun j h1 h2 => ?_) rfl rfl rfl rfl rfl (fun i j hj => ?_) (fun x g1 g2 => ?_) (fun a' p' hv' => ?_) (fun t' g1 g2 => ?_)
  · have := h2 a p (by omega) (by omega) (by omega) (by omega)
    unfold sGive; simp (disch := omega) only [uI_n]
  · exact sR_n _ _ (Or.inr hj)
  · show vp_updL S.L _ _ x.toNat = _
    by_cases e : x = A (492 + 4 * t)
    · subst e
      rw [uL_s]
      refine bset_cg (fun c _ _ => ⟨?_, ?_⟩)
      · rintro ⟨⟨u, k1, k2⟩, k3⟩
        refine ⟨u, (ly_give hW hv ht).mpr ⟨k1, ?_⟩, ?_⟩
        · rintro rfl; exact k3 k1.2.2.symm
        · rw [tx u k1.1.1 k1.1.2]; exact k2
      · rintro ⟨u, k1, k2⟩
        rw [ly_give hW hv ht] at k1
        rw [tx u k1.1.1.1 k1.1.1.2] at k2
        refine ⟨⟨u, k1.1, k2⟩, fun q => k1.2 (hW.l (c := c) k1.1 ⟨ht, hl, q.symm⟩)⟩
    · rw [uL_n _ _ (by have := w.2.2.1; omega), hR.l x g1 g2]
      refine bset_cg (fun c _ _ => ⟨?_, ?_⟩)
      · rintro ⟨u, k1, k2⟩
        refine ⟨u, (ly_give hW hv ht).mpr ⟨k1, ?_⟩, ?_⟩
        · rintro rfl; exact e k2.symm
        · rw [tx u k1.1.1 k1.1.2]; exact k2
      · rintro ⟨u, k1, k2⟩
        rw [ly_give hW hv ht] at k1
        rw [tx u k1.1.1.1 k1.1.1.2] at k2
        exact ⟨u, k1.1, k2⟩
  · have v2 := hW.vp hv'
    show (sR _ a.toNat 2 _).r a'.toNat 2 p'.toNat = _
    unfold sGive
    by_cases e : a' = a
    · subst e
      rw [sR_s]
      by_cases e2 : p' = p
      · subst e2; rw [pk_us, uI_s]
      · rw [pk_un (by omega)]
        simp (disch := omega) only [uI_n]
        exact hR.r2 a' p' hv'.1.1 hv'.1.2 hv'.2.1 hv'.2.2
    · rw [sR_n _ _ (by omega)]
      simp (disch := omega) only [uI_n]
      exact hR.r2 a' p' hv'.1.1 hv'.1.2 hv'.2.1 hv'.2.2
  · unfold gvS
    by_cases e : t' = t
    · subst e
      rw [sV_s]
      unfold sGive
      have e4 : (iI 4 = iI 4) := rfl
      simp (disch := omega) only [uI_n, uI_s, pk_us, pk_un]
      refine ⟨hR.v0 t' g1 g2, trivial, fun q => absurd q (by omega), fun _ => ⟨?_, ?_⟩⟩
      · congr 1; omega
      · congr 1; omega
    · rw [sV_n _ _ (by omega)]
      unfold sGive
      simp (disch := omega) only [uI_n]
      exact SRel_hv hR g1 g2
theorem C_grab (hT : hST h tS) (hb : tS < b ∨ b + 30 ≤ tS) (hS : SR h b A U F) (hW : WF A) {a p : Int} (hv : vP A a p) : ∃ h', f_X6_grab tS (some b) (iI a) (iI p) h = some h' ∧ SR h' b (sGrab A a p) U F ∧ fr b 30 h h' := by
  obtain ⟨S, hS, hR⟩ := hS
  have hn := hW.n
  have v1 := hW.vp hv
  have hpc := hW.pc hv.1
  have hc := hW.ce hv
  have hh := hW.ho hv
  have r0 := hR.r0 a p hv.1.1 hv.1.2 hv.2.1 hv.2.2
  have r2 := hR.r2 a p hv.1.1 hv.1.2 hv.2.1 hv.2.2
  have go : f_X6_grab tS (some b) (iI a) (iI p) h = f_X6_grab_b15 tS (some b) (iI a) (iI p) (iI (A (75 + 40 * a + p))) (iI (-1)) h := by
    simp (disch := omega) only [f_X6_grab, Sg3 hS, Sarm hS, Ag4 hS, Arow hS, r0, Option.bind_some, z_b2_some, z_i1_some, iI_lit, iI_add, iI_sub, iI_mul, iI_neg]
  rw [go]
  unfold sGrab
  generalize hcc : A (75 + 40 * a + p) = c at *
  by_cases q0 : A (89 + 40 * a + p) < 0
  · rw [if_pos q0]
    have b51n : ∀ (s w : Int), (-4 ≤ w ∧ w < 64) → ¬ 0 ≤ cand A w → f_X6_grab_b51 tS (some b) (iI a) (iI p) (iI c) (iI s) (some b) (iI w) h = some (.inl (some b, iI a, iI p, iI c, iI (s + 1), h)) := by
      intro s w hw hno
      simp (disch := omega) only [f_X6_grab_b51, f_X6_grab_b92, Sck hS, C_lyingAt hS hR hW, Option.bind_some, z_b2_some, z_i1_some, iI_lit, iI_add, iI_sub, iI_mul, iI_neg]
      rcases ly_cs hW w with ⟨g1, g2⟩ | ⟨u, g1, g2, g3⟩
      · rw [g1]
        simp (disch := omega) only [iI_lt, if_pos]
      · have hu := hW.t g2.1
        have ht2 := hu.2.2.1
        have w0 : 0 ≤ w := by have := hu.2.1; have := g2.2.2; omega
        have heq : A (492 + 4 * u) = A 66 := by
          apply Classical.byContradiction; intro hne
          apply hno
          unfold cand
          rw [if_neg (by omega), g1, if_neg (by omega), if_neg hne]
          exact g3.1
        have v0 := hR.v0 u g2.1.1 g2.1.2
        rw [g1]
        simp (disch := omega) only [iI_lt, if_neg, Sg5 hS, Sthg hS, Tv0 hS, v0, Sz7 hS, hR.n7, Option.bind_some, z_b2_some, z_i1_some, iI_eq, if_pos]
    have b51y : ∀ (s w : Int), (-4 ≤ w ∧ w < 64) → 0 ≤ cand A w → ∃ h', f_X6_grab_b51 tS (some b) (iI a) (iI p) (iI c) (iI s) (some b) (iI w) h = some (.inl (some b, iI a, iI p, iI c, iI (s + 1), h')) ∧ SR h' b (sGive A a p (cand A w)) U F ∧ fr b 30 h h' := by
      intro s w hw hy
      rcases cand_cs hW w with g | ⟨g0, g1, g2, g3, g4⟩
      · omega
      · have hla : lyAt A w = cand A w := ly_at hW g1
        generalize cand A w = u at *
        have hu := hW.t g1.1
        have ht2 := hu.2.2.1
        have v0 := hR.v0 u g1.1.1 g1.1.2
        obtain ⟨h1, k1, k2, k3⟩ := C_lift hS hR hW g1.1 g1.2.1
        obtain ⟨h2, k4, k5, k6⟩ := C_give k2 (a := a) (p := p) (t := u) v1.1 v1.2 ⟨g3, g4⟩
        refine ⟨h2, ?_, ⟨_, k5, SRel_give hR hW hv g1.1 g1.2.1⟩, fr_tr k3 k6⟩
        simp (disch := omega) only [f_X6_grab_b51, f_X6_grab_b92, Sck hS, C_lyingAt hS hR hW, hla, Option.bind_some, z_b2_some, z_i1_some, iI_lit, iI_add, iI_sub, iI_mul, iI_neg, iI_lt, if_neg, Sg5 hS, Sthg hS, Tv0 hS, v0, Sz7 hS, hR.n7, iI_eq, k1, Sck k2, k4]
    have hat : ∀ s : Int, (-1 ≤ s ∧ s ≤ 3) → f_X6_grab_c15 tS (some b) (iI a) (iI p) (iI c) (iI s) h = f_X6_grab_b51 tS (some b) (iI a) (iI p) (iI c) (iI s) (some b) (iI (atS c s)) h := by
      intro s hs
      simp (disch := omega) only [f_X6_grab_c15, iI_lit, iI_add, iI_sub, iI_mul, iI_neg, iI_le, if_neg, Sg3 hS, Sarm hS, Ag6 hS, Arow hS, r2, Option.bind_some, z_b2_some, z_i1_some]
      unfold atS
      refine ite_c (fun q => ?_) (fun q => ?_)
      · simp (disch := omega) only [C_beside hT hc.1 hc.2, Option.bind_some, z_b2_some, z_i1_some]
        rw [if_neg (by omega)]
      · rw [if_pos (by omega)]
    have run : ∀ (n : Nat), n ≤ 5 → (∀ i : Nat, i < n → ¬ 0 ≤ cand A (atS c ((i : Int) - 1))) → f_X6_grab_b15 tS (some b) (iI a) (iI p) (iI c) (iI (-1)) h = f_X6_grab_b15 tS (some b) (iI a) (iI p) (iI c) (iI ((n : Int) - 1)) h := by
      intro n
      induction n with
      | zero => intro _ _; rfl
      | succ n ih =>
        intro hn5 hno
        rw [ih (by omega) (fun i hi => hno i (by omega))]
        unfold f_X6_grab_b15
        refine z_it_next ?_
        show f_X6_grab_c15 tS (some b) (iI a) (iI p) (iI c) (iI ((n : Int) - 1)) h = _
        rw [hat _ (by omega), b51n _ _ (atS_rg hc) (hno n (by omega)), show (n : Int) - 1 + 1 = ((n + 1 : Nat) : Int) - 1 by omega]
    rcases gfind_first A c with ⟨n, hn5, hno, hy, he⟩ | ⟨hno, hy⟩
    · rw [he, if_pos hy]
      obtain ⟨h', k1, k2, k3⟩ := b51y ((n : Int) - 1) _ (atS_rg hc) hy
      refine ⟨h', ?_, k2, k3⟩
      rw [run n (by omega) hno]
      unfold f_X6_grab_b15
      have st : f_X6_grab_c15 tS (some b) (iI a) (iI p) (iI c) (iI ((n : Int) - 1)) h = some (.inl (some b, iI a, iI p, iI c, iI ((n : Int) - 1 + 1), h')) := by rw [hat _ (by omega)]; exact k1
      refine (z_it_next st).trans (z_it_done ?_)
      show f_X6_grab_c15 tS (some b) (iI a) (iI p) (iI c) (iI ((n : Int) - 1 + 1)) h' = _
      obtain ⟨S', kS, kR⟩ := k2
      have hcr := cand_cs hW (atS c ((n : Int) - 1))
      have e64 : sGive A a p (cand A (atS c ((n : Int) - 1))) 64 = A 64 := by unfold sGive; simp (disch := omega) only [uI_n]
      have e70 : sGive A a p (cand A (atS c ((n : Int) - 1))) (70 + 40 * a) = A (70 + 40 * a) := by unfold sGive; simp (disch := omega) only [uI_n]
      have r2' := kR.r2 a p hv.1.1 (by rw [e64]; exact hv.1.2) hv.2.1 (by rw [e70]; exact hv.2.2)
      have e89 : sGive A a p (cand A (atS c ((n : Int) - 1))) (89 + 40 * a + p) = cand A (atS c ((n : Int) - 1)) := by unfold sGive; rw [uI_s]
      rw [e89] at r2'
      simp (disch := omega) only [f_X6_grab_c15, iI_lit, iI_add, iI_sub, iI_mul, iI_neg, iI_le, Sg3 kS, Sarm kS, Ag6 kS, Arow kS, r2', Option.bind_some, z_b2_some, z_i1_some, if_pos, ite_self]
    · rw [if_neg hy]
      refine ⟨h, ?_, ⟨S, hS, hR⟩, fr_rf _ _ _⟩
      rw [run 5 (by omega) hno]
      unfold f_X6_grab_b15
      refine z_it_done ?_
      show f_X6_grab_c15 tS (some b) (iI a) (iI p) (iI c) (iI (((5 : Nat) : Int) - 1)) h = _
      have e5 : ((5 : Nat) : Int) - 1 = 4 := by omega
      simp (disch := omega) only [f_X6_grab_c15, iI_lit, iI_add, iI_sub, iI_mul, iI_neg, iI_le, e5, if_pos, Option.bind_some, z_b2_some, z_i1_some]
  · rw [if_neg q0]
    refine ⟨h, ?_, ⟨S, hS, hR⟩, fr_rf _ _ _⟩
    unfold f_X6_grab_b15
    refine z_it_done ?_
    show f_X6_grab_c15 tS (some b) (iI a) (iI p) (iI c) (iI (-1)) h = _
    simp (disch := omega) only [f_X6_grab_c15, iI_lit, iI_add, iI_sub, iI_mul, iI_neg, iI_le, Sg3 hS, Sarm hS, Ag6 hS, Arow hS, r2, Option.bind_some, z_b2_some, z_i1_some, if_pos, if_neg]
end C4
