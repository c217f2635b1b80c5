section C3
variable {h : zH} {b tS : Nat} {S : zS} {A : Int → Int} {U : Int → Option Nat} {F : Nat → Nat → Int32}
theorem gfind_first (A : Int → Int) (c : Int) : (∃ n : Nat, n < 5 ∧ (∀ i : Nat, i < n → ¬ 0 ≤ cand A (atS c ((i : Int) - 1))) ∧ 0 ≤ cand A (atS c ((n : Int) - 1)) ∧ gfind A c = cand A (atS c ((n : Int) - 1))) ∨ ((∀ i : Nat, i < 5 → ¬ 0 ≤ cand A (atS c ((i : Int) - 1))) ∧ ¬ 0 ≤ gfind A c) := by
  have at0 : atS c (((0 : Nat) : Int) - 1) = c := by unfold atS; rw [if_pos (by omega)]
  have at1 : atS c (((1 : Nat) : Int) - 1) = bes c 0 := by unfold atS; rw [if_neg (by omega)]; rfl
  have at2 : atS c (((2 : Nat) : Int) - 1) = bes c 1 := by unfold atS; rw [if_neg (by omega)]; rfl
  have at3 : atS c (((3 : Nat) : Int) - 1) = bes c 2 := by unfold atS; rw [if_neg (by omega)]; rfl
  have at4 : atS c (((4 : Nat) : Int) - 1) = bes c 3 := by unfold atS; rw [if_neg (by omega)]; rfl
  unfold gfind
  by_cases k0 : 0 ≤ cand A c
  · rw [if_pos k0]; exact Or.inl ⟨0, by omega, fun i hi => absurd hi (by omega), by rw [at0]; exact k0, by rw [at0]⟩
  · rw [if_neg k0]
    by_cases k1 : 0 ≤ cand A (bes c 0)
    · rw [if_pos k1]; exact Or.inl ⟨1, by omega, fun i hi => by rw [show i = 0 by omega, at0]; exact k0, by rw [at1]; exact k1, by rw [at1]⟩
    · rw [if_neg k1]
      by_cases k2 : 0 ≤ cand A (bes c 1)
      · rw [if_pos k2]; exact Or.inl ⟨2, by omega, fun i hi => by rcases (show i = 0 ∨ i = 1 by omega) with rfl | rfl; rw [at0]; exact k0; rw [at1]; exact k1, by rw [at2]; exact k2, by rw [at2]⟩
      · rw [if_neg k2]
        by_cases k3 : 0 ≤ cand A (bes c 2)
        · rw [if_pos k3]; exact Or.inl ⟨3, by omega, fun i hi => by rcases (show i = 0 ∨ i = 1 ∨ i = 2 by omega) with rfl | rfl | rfl; rw [at0]; exact k0; rw [at1]; exact k1; rw [at2]; exact k2, by rw [at3]; exact k3, by rw [at3]⟩
        · rw [if_neg k3]
          by_cases k4 : 0 ≤ cand A (bes c 3)
          · exact Or.inl ⟨4, by omega, fun i hi => by rcases (show i = 0 ∨ i = 1 ∨ i = 2 ∨ i = 3 by omega) with rfl | rfl | rfl | rfl; rw [at0]; exact k0; rw [at1]; exact k1; rw [at2]; exact k2; rw [at3]; exact k3, by rw [at4]; exact k4, by rw [at4]⟩
          · exact Or.inr ⟨fun i hi => by rcases (show i = 0 ∨ i = 1 ∨ i = 2 ∨ i = 3 ∨ i = 4 by omega) with rfl | rfl | rfl | rfl | rfl; rw [at0]; exact k0; rw [at1]; exact k1; rw [at2]; exact k2; rw [at3]; exact k3; rw [at4]; exact k4, k4⟩
theorem SRel_hold (hR : SRel A U F S) (hW : WF A) {A' : Int → Int} {S' : zS} (hs : ∀ j, (j < 490 ∨ 522 ≤ j) → (∀ a p, 0 ≤ a → a ≤ 2 → 0 ≤ p → p ≤ 6 → j ≠ 89 + 40 * a + p) → A' j = A j) (e1 : S'.W = S.W) (e2 : S'.T = S.T) (e4 : S'.z = S.z) (e5 : S'.n = S.n) (e6 : S'.u = S.u) (er : ∀ i j, j ≠ 2 → S'.r i j = S.r i j)
    (hl : ∀ x : Int, 0 ≤ x → x ≤ 3 → S'.L x.toNat = bset (fun c => ∃ t, ly A' t c ∧ A' (492 + 4 * t) = x)) (h2 : ∀ a p, vP A a p → S'.r a.toNat 2 p.toNat = iI (A' (89 + 40 * a + p)))
    (hv : ∀ t, 0 ≤ t → t < A 65 → S'.v t.toNat 0 = iI (A' (492 + 4 * t)) ∧ S'.v t.toNat 1 = iI (A' (490 + 4 * t)) ∧ (A' (490 + 4 * t) = 0 → S'.v t.toNat 2 = iI (A' (491 + 4 * t))) ∧ (A' (490 + 4 * t) ≠ 0 → S'.v t.toNat 3 = iI (A' (493 + 4 * t) / 10) ∧ S'.v t.toNat 4 = iI (A' (493 + 4 * t) % 10))) : SRel A' U F S' := by
  have hn := hW.n
  have e64 : A' 64 = A 64 := hs _ (by omega) (by intros; omega)
  have e65 : A' 65 = A 65 := hs _ (by omega) (by intros; omega)
  have e70 : ∀ a', 0 ≤ a' → a' < A 64 → A' (70 + 40 * a') = A (70 + 40 * a') := fun a' g1 g2 => hs _ (by omega) (by intros; omega)
  refine ⟨?_, ?_, hl, ?_, ?_, ?_, ?_, fun a' g1 g2 => ?_, fun a' g1 g2 => ?_, fun a' g1 g2 => ?_, fun a' g1 g2 => ?_, fun a' p' g1 g2 g3 g4 => ?_, fun a' p' g1 g2 g3 g4 => ?_, fun a' p' g1 g2 g3 g4 => ?_, fun a' p' g1 g2 g3 g4 => ?_, fun i => ?_, fun t g1 g2 => ?_, fun t g1 g2 => ?_, fun t g1 g2 g3 => ?_, fun t g1 g2 g3 => ?_, fun t g1 g2 g3 => ?_⟩
  · rw [e1, hR.w]; exact bset_cg (fun c g1 g2 => by rw [hs c (by omega) (by intros; omega)])
  · rw [e2, hR.k]
    refine bset_cg (fun c _ _ => ?_)
    have ev := fun a' p' => vP_cg (A := A) (A' := A') e64 hn.1.2 (fun a' g1 g2 => hs _ (by omega) (by intros; omega)) a' p'
    constructor
    · rintro ⟨a', p', k1, k2⟩
      have v2 := hW.vp k1
      exact ⟨a', p', (ev a' p').mpr k1, by rw [hs _ (by omega) (by intros; omega)]; exact k2⟩
    · rintro ⟨a', p', k1, k2⟩
      rw [ev] at k1
      have v2 := hW.vp k1
      exact ⟨a', p', k1, by rw [hs _ (by omega) (by intros; omega)] at k2; exact k2⟩
  · rw [e4, e64]; exact hR.n4
  · rw [e4, e65]; exact hR.n6
  · rw [e4, hs _ (by omega) (by intros; omega)]; exact hR.n7
  · rw [e4, hs _ (by omega) (by intros; omega)]; exact hR.n8
  · rw [e64] at g2; rw [e5, e70 a' g1 g2]; exact hR.m0 a' g1 g2
  · rw [e64] at g2; rw [e5, hs _ (by omega) (by intros; omega)]; exact hR.m1 a' g1 g2
  · rw [e64] at g2; rw [e5, hs _ (by omega) (by intros; omega)]; exact hR.m2 a' g1 g2
  · rw [e64] at g2; rw [e6]; exact hR.u a' g1 g2
  · rw [e64] at g2; rw [e70 a' g1 g2] at g4
    have v2 := hW.vp (a := a') (p := p') ⟨⟨g1, g2⟩, g3, g4⟩
    rw [er _ _ (by omega), hs _ (by omega) (by intros; omega)]; exact hR.r0 a' p' g1 g2 g3 g4
  · rw [e64] at g2; rw [e70 a' g1 g2] at g4
    have v2 := hW.vp (a := a') (p := p') ⟨⟨g1, g2⟩, g3, g4⟩
    rw [er _ _ (by omega), hs _ (by omega) (by intros; omega)]; exact hR.r1 a' p' g1 g2 g3 g4
  · rw [e64] at g2; rw [e70 a' g1 g2] at g4
    exact h2 a' p' ⟨⟨g1, g2⟩, g3, g4⟩
  · rw [e64] at g2; rw [e70 a' g1 g2] at g4
    have v2 := hW.vp (a := a') (p := p') ⟨⟨g1, g2⟩, g3, g4⟩
    rw [er _ _ (by omega), hs _ (by omega) (by intros; omega)]; exact hR.r3 a' p' g1 g2 g3 g4
  · rw [er _ _ (by omega)]; exact hR.f i
  · rw [e65] at g2; exact (hv t g1 g2).1
  · rw [e65] at g2; exact (hv t g1 g2).2.1
  · rw [e65] at g2; exact (hv t g1 g2).2.2.1 g3
  · rw [e65] at g2; exact ((hv t g1 g2).2.2.2 g3).1
  · rw [e65] at g2; exact ((hv t g1 g2).2.2.2 g3).2
theorem SRel_hv (hR : SRel A U F S) {t : Int} (g1 : 0 ≤ t) (g2 : t < A 65) : S.v t.toNat 0 = iI (A (492 + 4 * t)) ∧ S.v t.toNat 1 = iI (A (490 + 4 * t)) ∧ (A (490 + 4 * t) = 0 → S.v t.toNat 2 = iI (A (491 + 4 * t))) ∧ (A (490 + 4 * t) ≠ 0 → S.v t.toNat 3 = iI (A (493 + 4 * t) / 10) ∧ S.v t.toNat 4 = iI (A (493 + 4 * t) % 10)) :=
  ⟨hR.v0 t g1 g2, hR.v1 t g1 g2, hR.v2 t g1 g2, fun q => ⟨hR.v3 t g1 g2 q, hR.v4 t g1 g2 q⟩⟩
/-- a thing is given to a piece: what is written -/
def gvS (S : zS) (a p t : Int) : zS :=
  sV (sR S a.toNat 2 (upd (S.r a.toNat 2) p.toNat (iI t))) t.toNat (upd (upd (upd (S.v t.toNat) 1 (iI 1)) 3 (iI a)) 4 (iI p))
theorem updR_updR {α : Type} (Y : Nat → α) (k : Nat) (r r' : α) : updR (updR Y k r) k r' = updR Y k r' := by
  funext j
  by_cases e : j = k
  · subst e; rw [updR_s, updR_s]
  · rw [updR_n _ _ e, updR_n _ _ e, updR_n _ _ e]
theorem sV_sV (S : zS) (i : Nat) (f g : Nat → Int32) : sV (sV S i f) i g = sV S i g :=
  congrArg (fun x => ((S.1, S.2.1, S.2.2.1, S.2.2.2.1, S.2.2.2.2.1, S.2.2.2.2.2.1, S.2.2.2.2.2.2.1, x) : zS)) (updR_updR S.v i f g)
theorem C_give (hS : SAt h b S) {a p t : Int} (ha : 0 ≤ a ∧ a ≤ 2) (hp : 0 ≤ p ∧ p ≤ 6) (ht : 0 ≤ t ∧ t ≤ 7) : ∃ h', f_X6_give (some b) (iI t) (iI a) (iI p) h = some h' ∧ SAt h' b (gvS S a p t) ∧ fr b 30 h h' := by
  have S1 := SAt_r hS (i := a.toNat) (j := 2) (by omega) (by omega) (upd (S.r a.toNat 2) p.toNat (iI t))
  have S2 := SAt_v S1 (i := t.toNat) (by omega) (upd (S.v t.toNat) 1 (iI 1))
  have S3 := SAt_v S2 (i := t.toNat) (by omega) (upd (upd (S.v t.toNat) 1 (iI 1)) 3 (iI a))
  have S4 := SAt_v S3 (i := t.toNat) (by omega) (upd (upd (upd (S.v t.toNat) 1 (iI 1)) 3 (iI a)) 4 (iI p))
  have eS : sV (sV (sV (sR S a.toNat 2 (upd (S.r a.toNat 2) p.toNat (iI t))) t.toNat (upd (S.v t.toNat) 1 (iI 1))) t.toNat (upd (upd (S.v t.toNat) 1 (iI 1)) 3 (iI a))) t.toNat (upd (upd (upd (S.v t.toNat) 1 (iI 1)) 3 (iI a)) 4 (iI p)) = gvS S a p t := by
    rw [sV_sV, sV_sV]; rfl
  refine ⟨_, ?_, (congrArg (SAt _ b) eS).mp S4, ?_⟩
  · have e1 : (sR S a.toNat 2 (upd (S.r a.toNat 2) p.toNat (iI t))).v t.toNat = S.v t.toNat := rfl
    have e2 := sV_s (sR S a.toNat 2 (upd (S.r a.toNat 2) p.toNat (iI t))) t.toNat (upd (S.v t.toNat) 1 (iI 1))
    have e3 := sV_s (sV (sR S a.toNat 2 (upd (S.r a.toNat 2) p.toNat (iI t))) t.toNat (upd (S.v t.toNat) 1 (iI 1))) t.toNat (upd (upd (S.v t.toNat) 1 (iI 1)) 3 (iI a))
    simp (disch := omega) only [f_X6_give, iI_lit, iI_add, iI_sub, iI_mul, iI_neg, Option.bind_some, z_b2_some, z_i1_some, Sg3 hS, Sarm hS, Ag6 hS, AwR hS, Sg5 S1, Sthg S1, Tp S1, e1, Sg5 S2, Sthg S2, Tp S2, e2, Sg5 S3, Sthg S3, Tp S3, e3]
  · exact fr_tr (fr_tr (fr_tr (fr_up (by omega) (by omega)) (fr_up (by omega) (by omega))) (fr_up (by omega) (by omega))) (fr_up (by omega) (by omega))
end C3
