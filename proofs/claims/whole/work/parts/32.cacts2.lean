section C5
variable {h : zH} {b tS : Nat} {S : zS} {A : Int → Int} {U : Int → Option Nat} {F : Nat → Nat → Int32}
/-! passing on -/
theorem C_passOn (hS : SR h b A U F) (hW : WF A) {a p : Int} (hv : vP A a p) (hp : 1 ≤ p) : ∃ h', f_X6_passOn (some b) (iI a) (iI p) h = some h' ∧ SR h' b (sPass A a p) U F ∧ fr b 30 h h' := by
  obtain ⟨S, hS, hR⟩ := hS
  have hn := hW.n
  have v1 := hW.vp hv
  have hva := hv.1
  have hv2 := hv.2
  have hpc := hW.pc hv.1
  have hcu := hW.cu hv.1
  have hh := hW.ho hv
  have r2 := hR.r2 a p hv.1.1 hv.1.2 hv.2.1 hv.2.2
  have m1 := hR.m1 a hva.1 hva.2
  have hcv : A (71 + 40 * a) = -4 ∧ cutv (A (71 + 40 * a)) = 0 ∨ (1 ≤ A (71 + 40 * a) ∧ cutv (A (71 + 40 * a)) = A (71 + 40 * a)) := by
    rcases hcu with q | q
    · left; exact ⟨q, by rw [q]; rfl⟩
    · right; exact ⟨q.1, by unfold cutv; rw [if_neg (by omega)]⟩
  unfold sPass
  by_cases q0 : A (89 + 40 * a + p) < 0
  · rw [if_pos (Or.inl q0)]
    refine ⟨h, ?_, ⟨S, hS, hR⟩, fr_rf _ _ _⟩
    simp (disch := omega) only [f_X6_passOn, Sg3 hS, Sarm hS, Ag6 hS, Arow hS, r2, Option.bind_some, z_b2_some, z_i1_some, iI_lit, iI_add, iI_sub, iI_mul, iI_neg, iI_lt, if_pos]
  · have hh : (0 ≤ A (89 + 40 * a + p) ∧ A (89 + 40 * a + p) < A 65) ∧ A (490 + 4 * A (89 + 40 * a + p)) = 1 ∧ A (493 + 4 * A (89 + 40 * a + p)) = 10 * a + p := by
      rcases hW.ho hv with g | g
      · omega
      · exact g
    have nh : ∀ a' p', vP A a' p' → A (89 + 40 * a' + p') = A (89 + 40 * a + p) → a' = a ∧ p' = p := by
      intro a' p' hv' e
      have v2 := hW.vp hv'
      rcases hW.ho hv' with q | q
      · omega
      · rw [e] at q; omega
    generalize ht : A (89 + 40 * a + p) = t at *
    have S1 := SAt_r hS (i := a.toNat) (j := 2) (by omega) (by omega) (upd (S.r a.toNat 2) p.toNat (iI (-4)))
    have hlyx : ∀ (e : Int), (e = 490 + 4 * t ∨ (89 ≤ e ∧ e < 300)) → ∀ v, (e = 490 + 4 * t → v ≠ 0) → ∀ x c, (∃ u, ly (uI (uI (uI A (89 + 40 * a + p) (-4)) (493 + 4 * t) (10 * a + p - 1)) e v) u c ∧ uI (uI (uI A (89 + 40 * a + p) (-4)) (493 + 4 * t) (10 * a + p - 1)) e v (492 + 4 * u) = x) ↔ ∃ u, ly A u c ∧ A (492 + 4 * u) = x := by
      intro e he v hve x c
      constructor
      · rintro ⟨u, ⟨k1, k2, k3⟩, k4⟩
        simp (disch := omega) only [uI_n] at k1
        by_cases eu : u = t
        · subst eu
          by_cases ee : e = 490 + 4 * u
          · subst ee; rw [uI_s] at k2; exact absurd k2 (hve rfl)
          · simp (disch := omega) only [uI_n] at k2; omega
        · simp (disch := omega) only [uI_n] at k2 k3 k4
          exact ⟨u, ⟨k1, k2, k3⟩, k4⟩
      · rintro ⟨u, ⟨k1, k2, k3⟩, k4⟩
        have eu : u ≠ t := by rintro rfl; omega
        refine ⟨u, ⟨?_, ?_, ?_⟩, ?_⟩ <;> simp (disch := omega) only [uI_n] <;> assumption
    by_cases q2 : p = 1
    · rw [if_neg (by omega), if_pos q2]
      have S2 := SAt_v S1 (i := t.toNat) (by omega) (upd (S.v t.toNat) 1 (iI 2))
      have S3 := SAt_v S2 (i := t.toNat) (by omega) (upd (upd (S.v t.toNat) 1 (iI 2)) 4 (iI 0))
      have e1 : (sR S a.toNat 2 (upd (S.r a.toNat 2) p.toNat (iI (-4)))).v t.toNat = S.v t.toNat := rfl
      have e2 := sV_s (sR S a.toNat 2 (upd (S.r a.toNat 2) p.toNat (iI (-4)))) t.toNat (upd (S.v t.toNat) 1 (iI 2))
      refine ⟨_, ?_, ⟨_, S3, ?_⟩, fr_tr (fr_tr (fr_up (by omega) (by omega)) (fr_up (by omega) (by omega))) (fr_up (by omega) (by omega))⟩
      · simp (disch := omega) only [f_X6_passOn, f_X6_passOn_b50, Sg3 hS, Sarm hS, Ag6 hS, Arow hS, AwR hS, r2, ht, Option.bind_some, z_b2_some, z_i1_some, iI_lit, iI_add, iI_sub, iI_mul, iI_neg, iI_lt, iI_le, if_neg, if_pos, Sg5 S1, Sthg S1, Tp S1, e1, Sg5 S2, Sthg S2, Tp S2, e2]
      · rw [sV_sV]
        refine SRel_hold hR hW (fun j h1 h2 => ?_) rfl rfl rfl rfl rfl (fun i j hj => ?_) (fun x g1 g2 => ?_) (fun a' p' hv' => ?_) (fun t' g1 g2 => ?_)
        · have := h2 a p (by omega) (by omega) (by omega) (by omega)
          simp (disch := omega) only [uI_n]
        · exact sR_n _ _ (Or.inr hj)
        · exact (hR.l x g1 g2).trans (bset_cg (fun c _ _ => (hlyx (490 + 4 * t) (Or.inl rfl) 2 (by omega) x c).symm))
        · have v2 := hW.vp hv'
          show (sR S a.toNat 2 _).r a'.toNat 2 p'.toNat = _
          by_cases e : a' = a
          · subst e
            rw [sR_s]
            by_cases e2 : p' = p
            · subst e2; rw [pk_us]; simp (disch := omega) only [uI_n, uI_s]
            · rw [pk_un (by omega)]
              simp (disch := omega) only [uI_n]
              exact hR.r2 a' p' hv'.1.1 hv'.1.2 hv'.2.1 hv'.2.2
          · rw [sR_n _ _ (by omega)]
            simp (disch := omega) only [uI_n]
            exact hR.r2 a' p' hv'.1.1 hv'.1.2 hv'.2.1 hv'.2.2
        · by_cases e : t' = t
          · subst e
            rw [sV_s]
            have v0 := hR.v0 t' g1 g2
            have v3 := hR.v3 t' g1 g2 (by omega)
            simp (disch := omega) only [uI_n, uI_s, pk_us, pk_un]
            refine ⟨v0, trivial, fun q => absurd q (by omega), fun _ => ⟨?_, ?_⟩⟩
            · rw [v3]; congr 1; omega
            · congr 1; omega
          · rw [sV_n _ _ (by omega)]
            simp (disch := omega) only [uI_n]
            exact SRel_hv hR g1 g2
    · have hpv : vP A a (p - 1) := ⟨hva, by omega, by omega⟩
      have ho2 := hW.ho hpv
      have r2m := hR.r2 a (p - 1) hva.1 hva.2 (by omega) (by omega)
      by_cases q1 : p - 1 = A (71 + 40 * a)
      · rw [if_pos (Or.inr (Or.inl q1))]
        refine ⟨h, ?_, ⟨S, hS, hR⟩, fr_rf _ _ _⟩
        simp (disch := omega) only [f_X6_passOn, Sg3 hS, Sarm hS, Ag6 hS, Arow hS, r2, ht, Option.bind_some, z_b2_some, z_i1_some, iI_lit, iI_add, iI_sub, iI_mul, iI_neg, iI_lt, iI_le, iI_eq, if_neg, An1 hS, m1, if_pos]
      · by_cases q3 : 0 ≤ A (89 + 40 * a + (p - 1))
        · rw [if_pos (Or.inr (Or.inr ⟨by omega, q3⟩))]
          refine ⟨h, ?_, ⟨S, hS, hR⟩, fr_rf _ _ _⟩
          simp (disch := omega) only [f_X6_passOn, Sg3 hS, Sarm hS, Ag6 hS, Arow hS, r2, r2m, ht, Option.bind_some, z_b2_some, z_i1_some, iI_lit, iI_add, iI_sub, iI_mul, iI_neg, iI_lt, iI_le, iI_eq, if_neg, An1 hS, m1, if_pos]
        · rw [if_neg (by omega), if_neg q2]
          obtain ⟨h2, k4, k5, k6⟩ := C_give S1 (a := a) (p := p - 1) (t := t) (by omega) (by omega) (by omega)
          refine ⟨h2, ?_, ⟨_, k5, ?_⟩, fr_tr (fr_up (by omega) (by omega)) k6⟩
          · simp (disch := omega) only [f_X6_passOn, f_X6_passOn_b50, Sg3 hS, Sarm hS, Ag6 hS, Arow hS, AwR hS, r2, r2m, ht, Option.bind_some, z_b2_some, z_i1_some, iI_lit, iI_add, iI_sub, iI_mul, iI_neg, iI_lt, iI_le, iI_eq, if_neg, An1 hS, m1, if_pos, Sck S1, k4]
          · unfold gvS
            refine SRel_hold hR hW (fun j h1 h2 => ?_) rfl rfl rfl rfl rfl (fun i j hj => ?_) (fun x g1 g2 => ?_) (fun a' p' hv' => ?_) (fun t' g1 g2 => ?_)
            · have k1 := h2 a p (by omega) (by omega) (by omega) (by omega)
              have k2 := h2 a (p - 1) (by omega) (by omega) (by omega) (by omega)
              simp (disch := omega) only [uI_n]
            · exact (sR_n _ _ (Or.inr hj)).trans (sR_n _ _ (Or.inr hj))
            · exact (hR.l x g1 g2).trans (bset_cg (fun c _ _ => (hlyx (89 + 40 * a + (p - 1)) (by omega) t (by omega) x c).symm))
            · have v2 := hW.vp hv'
              show (sR (sR S a.toNat 2 _) a.toNat 2 _).r a'.toNat 2 p'.toNat = _
              by_cases e : a' = a
              · subst e
                rw [sR_s, sR_s]
                by_cases e2 : p' = p - 1
                · subst e2; rw [pk_us, uI_s]
                · rw [pk_un (by omega)]
                  by_cases e3 : p' = p
                  · subst e3; rw [pk_us]; simp (disch := omega) only [uI_n, uI_s]
                  · rw [pk_un (by omega)]
                    simp (disch := omega) only [uI_n]
                    exact hR.r2 a' p' hv'.1.1 hv'.1.2 hv'.2.1 hv'.2.2
              · rw [sR_n _ _ (by omega), sR_n _ _ (by omega)]
                simp (disch := omega) only [uI_n]
                exact hR.r2 a' p' hv'.1.1 hv'.1.2 hv'.2.1 hv'.2.2
            · by_cases e : t' = t
              · subst e
                rw [sV_s]
                have v0 := hR.v0 t' g1 g2
                simp (disch := omega) only [uI_n, uI_s, pk_us, pk_un]
                refine ⟨v0, by rw [hh.2.1], fun q => absurd q (by omega), fun _ => ⟨?_, ?_⟩⟩
                · congr 1; omega
                · congr 1; omega
              · rw [sV_n _ _ (by omega)]
                simp (disch := omega) only [uI_n]
                exact SRel_hv hR g1 g2
/-! laying down -/
def laS (S : zS) (t c x : Int) (w : Int64) : zS := sL (sV S t.toNat (upd (upd (S.v t.toNat) 1 (iI 0)) 2 (iI c))) (vp_updL S.L x.toNat w)
theorem C_lay (hS : SAt h b S) {t c x : Int} (ht : 0 ≤ t ∧ t ≤ 7) (hx : 0 ≤ x ∧ x ≤ 3) (h0 : S.v t.toNat 0 = iI x) : ∃ h', f_X6_lay (some b) (iI t) (iI c) h = some h' ∧ SAt h' b (laS S t c x (S.L x.toNat ||| ((1 : Int64) <<< (Int32.toInt64 (iI c) &&& 63)))) ∧ fr b 30 h h' := by
  have S1 := SAt_v hS (i := t.toNat) (by omega) (upd (S.v t.toNat) 1 (iI 0))
  have S2 := SAt_v S1 (i := t.toNat) (by omega) (upd (upd (S.v t.toNat) 1 (iI 0)) 2 (iI c))
  have S3 := SAt_l S2 (vp_updL S.L x.toNat (S.L x.toNat ||| ((1 : Int64) <<< (Int32.toInt64 (iI c) &&& 63))))
  have eS : sL (sV (sV S t.toNat (upd (S.v t.toNat) 1 (iI 0))) t.toNat (upd (upd (S.v t.toNat) 1 (iI 0)) 2 (iI c))) (vp_updL S.L x.toNat (S.L x.toNat ||| ((1 : Int64) <<< (Int32.toInt64 (iI c) &&& 63)))) = laS S t c x (S.L x.toNat ||| ((1 : Int64) <<< (Int32.toInt64 (iI c) &&& 63))) := by
    rw [sV_sV]; rfl
  refine ⟨_, ?_, (congrArg (SAt _ b) eS).mp S3, fr_tr (fr_tr (fr_up (by omega) (by omega)) (fr_up (by omega) (by omega))) (fr_up (by omega) (by omega))⟩
  have e1 := sV_s S t.toNat (upd (S.v t.toNat) 1 (iI 0))
  have e2 : (sV (sV S t.toNat (upd (S.v t.toNat) 1 (iI 0))) t.toNat (upd (upd (S.v t.toNat) 1 (iI 0)) 2 (iI c))).v t.toNat 0 = iI x := by
    rw [sV_s, pk_un (by omega), pk_un (by omega)]; exact h0
  have e3 : (sV (sV S t.toNat (upd (S.v t.toNat) 1 (iI 0))) t.toNat (upd (upd (S.v t.toNat) 1 (iI 0)) 2 (iI c))).L = S.L := rfl
  simp (disch := omega) only [f_X6_lay, iI_lit, iI_add, iI_sub, iI_mul, iI_neg, Option.bind_some, z_b2_some, z_i1_some, Sg5 hS, Sthg hS, Tp hS, Sg5 S1, Sthg S1, Tp S1, e1, Sg2 S2, Sg5 S2, Sthg S2, Tv0 S2, e2, SL S2, SwL S2, e3]
theorem C_letGo (hS : SR h b A U F) (hW : WF A) {a p : Int} (hv : vP A a p) : ∃ h', f_X6_letGo (some b) (some (b + 4 + 6 * a.toNat)) (iI p) h = some h' ∧ SR h' b (sDrop A a p) U F ∧ fr b 30 h h' := by
  obtain ⟨S, hS, hR⟩ := hS
  have hn := hW.n
  have v1 := hW.vp hv
  have hva := hv.1
  have hv2 := hv.2
  have hpc := hW.pc hv.1
  have hce := hW.ce hv
  have r0 := hR.r0 a p hv.1.1 hv.1.2 hv.2.1 hv.2.2
  have r2 := hR.r2 a p hv.1.1 hv.1.2 hv.2.1 hv.2.2
  have ho := hW.ho hv
  unfold sDrop
  by_cases q0 : A (89 + 40 * a + p) < 0
  · rw [if_neg (by omega)]
    refine ⟨h, ?_, ⟨S, hS, hR⟩, fr_rf _ _ _⟩
    simp (disch := omega) only [f_X6_letGo, Ag6 hS, Arow hS, r2, Option.bind_some, z_b2_some, z_i1_some, iI_lit, iI_add, iI_sub, iI_mul, iI_neg, iI_lt, if_pos]
  · have hh : (0 ≤ A (89 + 40 * a + p) ∧ A (89 + 40 * a + p) < A 65) ∧ A (490 + 4 * A (89 + 40 * a + p)) = 1 ∧ A (493 + 4 * A (89 + 40 * a + p)) = 10 * a + p := by
      rcases hW.ho hv with g | g
      · omega
      · exact g
    have lg := lyAt_ge hW (A (75 + 40 * a + p))
    generalize ht : A (89 + 40 * a + p) = t at *
    generalize hcc : A (75 + 40 * a + p) = cc at *
    have w := hW.t hh.1
    have w3 := w.2.2.1
    by_cases q1 : ∃ u, ly A u cc
    · have q1' := lg.mpr q1
      rw [if_neg (by omega)]
      refine ⟨h, ?_, ⟨S, hS, hR⟩, fr_rf _ _ _⟩
      simp (disch := omega) only [f_X6_letGo, Ag6 hS, Ag4 hS, Arow hS, r2, r0, ht, Option.bind_some, z_b2_some, z_i1_some, iI_lit, iI_add, iI_sub, iI_mul, iI_neg, iI_lt, if_neg, Sck hS, C_lyC hS hR hW, cmpite]
      rw [if_pos q1]
    · have q1' : ¬ 0 ≤ lyAt A cc := fun e => q1 (lg.mp e)
      rw [if_pos ⟨by omega, by omega⟩]
      have S1 := SAt_r hS (i := a.toNat) (j := 2) (by omega) (by omega) (upd (S.r a.toNat 2) p.toNat (iI (-4)))
      have v0 := hR.v0 t hh.1.1 hh.1.2
      obtain ⟨h2, k1, k2, k3⟩ := C_lay S1 (t := t) (c := cc) (x := A (492 + 4 * t)) (by omega) w3 v0
      have r0' : (sR S a.toNat 2 (upd (S.r a.toNat 2) p.toNat (iI (-4)))).r a.toNat 0 p.toNat = iI cc := by rw [sR_n _ _ (by omega)]; exact r0
      refine ⟨h2, ?_, ⟨_, k2, ?_⟩, fr_tr (fr_up (by omega) (by omega)) k3⟩
      · simp (disch := omega) only [f_X6_letGo, Ag6 hS, Ag4 hS, Arow hS, r2, r0, ht, Option.bind_some, z_b2_some, z_i1_some, iI_lit, iI_add, iI_sub, iI_mul, iI_neg, iI_lt, if_neg, Sck hS, C_lyC hS hR hW, cmpite]
        simp (disch := omega) only [AwR hS, Ag4 S1, Arow S1, r0', Sck S1, k1, Option.bind_some, z_b2_some, z_i1_some]
      · refine SRel_hold hR hW (fun j h1 h2 => ?_) rfl rfl rfl rfl rfl (fun i j hj => ?_) (fun x g1 g2 => ?_) (fun a' p' hv' => ?_) (fun t' g1 g2 => ?_)
        · have := h2 a p (by omega) (by omega) (by omega) (by omega)
          simp (disch := omega) only [uI_n]
        · exact sR_n _ _ (Or.inr hj)
        · have hly : ∀ u c, ly (uI (uI (uI (uI A (89 + 40 * a + p) (-4)) (490 + 4 * t) 0) (491 + 4 * t) cc) (493 + 4 * t) (-4)) u c ↔ ly A u c ∨ (u = t ∧ c = cc) := by
            intro u c
            unfold ly
            rw [uI_n (j := 65) _ _ (by omega), uI_n (j := 65) _ _ (by omega), uI_n (j := 65) _ _ (by omega), uI_n (j := 65) _ _ (by omega)]
            by_cases e : u = t
            · subst e
              simp (disch := omega) only [uI_n, uI_s]
              constructor
              · rintro ⟨k1, k2, k3⟩; exact Or.inr ⟨trivial, k3.symm⟩
              · rintro (⟨k1, k2, k3⟩ | ⟨k1, k2⟩)
                · omega
                · exact ⟨hh.1, trivial, k2.symm⟩
            · constructor
              · rintro ⟨k1, k2, k3⟩
                simp (disch := omega) only [uI_n] at k2 k3
                exact Or.inl ⟨k1, k2, k3⟩
              · rintro (⟨k1, k2, k3⟩ | ⟨k1, k2⟩)
                · simp (disch := omega) only [uI_n]
                  exact ⟨k1, k2, k3⟩
                · exact absurd k1 e
          have tx : ∀ u, 0 ≤ u → u < A 65 → (uI (uI (uI (uI A (89 + 40 * a + p) (-4)) (490 + 4 * t) 0) (491 + 4 * t) cc) (493 + 4 * t) (-4)) (492 + 4 * u) = A (492 + 4 * u) := fun u g1 g2 => by
            simp (disch := omega) only [uI_n]
          show vp_updL S.L _ _ x.toNat = _
          have l := hR.l x g1 g2
          by_cases e : x = A (492 + 4 * t)
          · subst e
            rw [uL_s]
            show S.L _ ||| _ = _
            rw [l, bset_one hce.1 hce.2, bset_or]
            refine bset_cg (fun c _ _ => ⟨?_, ?_⟩)
            · rintro (⟨u, k1, k2⟩ | rfl)
              · exact ⟨u, (hly u c).mpr (Or.inl k1), by rw [tx u k1.1.1 k1.1.2]; exact k2⟩
              · exact ⟨t, (hly t c).mpr (Or.inr ⟨rfl, rfl⟩), by rw [tx t hh.1.1 hh.1.2]⟩
            · rintro ⟨u, k1, k2⟩
              rcases (hly u c).mp k1 with k | k
              · rw [tx u k.1.1 k.1.2] at k2; exact Or.inl ⟨u, k, k2⟩
              · exact Or.inr k.2
          · rw [uL_n _ _ (by omega)]
            refine l.trans (bset_cg (fun c _ _ => ⟨?_, ?_⟩))
            · rintro ⟨u, k1, k2⟩
              exact ⟨u, (hly u c).mpr (Or.inl k1), by rw [tx u k1.1.1 k1.1.2]; exact k2⟩
            · rintro ⟨u, k1, k2⟩
              rcases (hly u c).mp k1 with k | k
              · rw [tx u k.1.1 k.1.2] at k2; exact ⟨u, k, k2⟩
              · rw [k.1, tx t hh.1.1 hh.1.2] at k2; exact absurd k2.symm e
        · have v2 := hW.vp hv'
          show (sR S a.toNat 2 _).r a'.toNat 2 p'.toNat = _
          by_cases e : a' = a
          · subst e
            rw [sR_s]
            by_cases e2 : p' = p
            · subst e2; rw [pk_us]; simp (disch := omega) only [uI_n, uI_s]
            · rw [pk_un (by omega)]
              simp (disch := omega) only [uI_n]
              exact hR.r2 a' p' hv'.1.1 hv'.1.2 hv'.2.1 hv'.2.2
          · rw [sR_n _ _ (by omega)]
            simp (disch := omega) only [uI_n]
            exact hR.r2 a' p' hv'.1.1 hv'.1.2 hv'.2.1 hv'.2.2
        · show (sV _ t.toNat _).v t'.toNat 0 = _ ∧ (sV _ t.toNat _).v t'.toNat 1 = _ ∧ (_ → (sV _ t.toNat _).v t'.toNat 2 = _) ∧ (_ → (sV _ t.toNat _).v t'.toNat 3 = _ ∧ (sV _ t.toNat _).v t'.toNat 4 = _)
          by_cases e : t' = t
          · subst e
            rw [sV_s]
            have v0 := hR.v0 t' g1 g2
            simp (disch := omega) only [uI_n, uI_s, pk_us, pk_un]
            exact ⟨v0, trivial, fun _ => trivial, fun q => absurd rfl q⟩
          · rw [sV_n _ _ (by omega)]
            simp (disch := omega) only [uI_n]
            exact SRel_hv hR g1 g2
end C5
