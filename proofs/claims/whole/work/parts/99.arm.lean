/-! A NEW ARM -/
def okp (A : Int → Int) (c : Int) (f k : Nat) : Prop := free A (pth c f k) ∧ ∀ q, q < k → pth c f q ≠ pth c f k
theorem pth_rg {c : Int} {f : Nat} (hc : 0 ≤ c ∧ c < 64) : ∀ k, (∀ j, j < k → 0 ≤ pth c f j) → -4 ≤ pth c f k ∧ pth c f k < 64
  | 0, _ => by show -4 ≤ c ∧ c < 64; omega
  | k + 1, h => by
    have h1 := pth_rg hc k (fun j hj => h j (by omega))
    have h2 := h k (by omega)
    show -4 ≤ bes (pth c f k) ((dgf f k : Nat) : Int) ∧ bes (pth c f k) ((dgf f k : Nat) : Int) < 64
    rcases bes_rg (c := pth c f k) (s := ((dgf f k : Nat) : Int)) h2 h1.2 with e | e <;> omega
def arA (A : Int → Int) (N c : Int) (f : Nat) : Int → Int := fun j =>
  if j = 64 then A 64 + 1 else if 70 + 40 * A 64 ≤ j ∧ j < 110 + 40 * A 64 then
    (if j = 70 + 40 * A 64 then N else if j = 71 + 40 * A 64 then -4 else if 75 + 40 * A 64 ≤ j ∧ j < 82 + 40 * A 64 then (if j - (75 + 40 * A 64) < N then pth c f (j - (75 + 40 * A 64)).toNat else 0) else if 89 + 40 * A 64 ≤ j ∧ j < 96 + 40 * A 64 then -4 else 0) else A j
section AR
variable {A : Int → Int} {U : Int → Option Nat} {F : Nat → Nat → Int32} {S S' : zS} {N c : Int} {f : Nat}
theorem arA_64 : arA A N c f 64 = A 64 + 1 := if_pos rfl
theorem arA_n {j : Int} (hj : j ≠ 64 ∧ (j < 70 + 40 * A 64 ∨ 110 + 40 * A 64 ≤ j)) : arA A N c f j = A j := by
  unfold arA; rw [if_neg hj.1, if_neg (by omega)]
theorem arA_70 (h : 0 ≤ A 64) : arA A N c f (70 + 40 * A 64) = N := by
  unfold arA; rw [if_neg (by omega), if_pos (by omega), if_pos rfl]
theorem arA_71 (h : 0 ≤ A 64) : arA A N c f (71 + 40 * A 64) = -4 := by
  unfold arA; rw [if_neg (by omega), if_pos (by omega), if_neg (by omega), if_pos rfl]
theorem arA_0 (h : 0 ≤ A 64) {w : Int} (hw : (2 ≤ w ∧ w < 5) ∨ (12 ≤ w ∧ w < 19) ∨ (26 ≤ w ∧ w < 40)) : arA A N c f (70 + 40 * A 64 + w) = 0 := by
  unfold arA; rw [if_neg (by omega), if_pos (by omega), if_neg (by omega), if_neg (by omega), if_neg (by omega), if_neg (by omega)]
theorem arA_75 (h : 0 ≤ A 64) {p : Int} (hp : 0 ≤ p ∧ p < N ∧ p ≤ 6) : arA A N c f (75 + 40 * A 64 + p) = pth c f p.toNat := by
  unfold arA; rw [if_neg (by omega), if_pos (by omega), if_neg (by omega), if_neg (by omega), if_pos (by omega), if_pos (by omega), show 75 + 40 * A 64 + p - (75 + 40 * A 64) = p by omega]
theorem arA_89 (h : 0 ≤ A 64) {p : Int} (hp : 0 ≤ p ∧ p ≤ 6) : arA A N c f (89 + 40 * A 64 + p) = -4 := by
  unfold arA; rw [if_neg (by omega), if_pos (by omega), if_neg (by omega), if_neg (by omega), if_neg (by omega), if_pos (by omega)]
theorem arA_72 (h : 0 ≤ A 64) : arA A N c f (72 + 40 * A 64) = 0 := by
  rw [show 72 + 40 * A 64 = 70 + 40 * A 64 + 2 by omega]; exact arA_0 h (by omega)
theorem arA_82 (h : 0 ≤ A 64) {p : Int} (hp : 0 ≤ p ∧ p ≤ 6) : arA A N c f (82 + 40 * A 64 + p) = 0 := by
  rw [show 82 + 40 * A 64 + p = 70 + 40 * A 64 + (12 + p) by omega]; exact arA_0 h (by omega)
theorem arA_96 (h : 0 ≤ A 64) {p : Int} (hp : 0 ≤ p ∧ p ≤ 6) : arA A N c f (96 + 40 * A 64 + p) = 0 := by
  rw [show 96 + 40 * A 64 + p = 70 + 40 * A 64 + (26 + p) by omega]; exact arA_0 h (by omega)
theorem arA_vP (hW : WF A) (h3 : A 64 < 3) (a p : Int) : vP (arA A N c f) a p ↔ vP A a p ∨ (a = A 64 ∧ 0 ≤ p ∧ p < N) := by
  have hn := hW.n
  unfold vP
  rw [arA_64]
  by_cases e : a = A 64
  · subst e
    rw [arA_70 hn.1.1]
    constructor
    · rintro ⟨-, q⟩; exact Or.inr ⟨rfl, q⟩
    · rintro (⟨q, -⟩ | ⟨-, q⟩)
      · omega
      · exact ⟨by omega, q⟩
  · constructor
    · rintro ⟨q1, q2⟩
      rw [arA_n (by omega)] at q2
      exact Or.inl ⟨by omega, q2⟩
    · rintro (⟨q1, q2⟩ | ⟨q, -⟩)
      · refine ⟨by omega, ?_⟩
        rw [arA_n (by omega)]; exact q2
      · exact absurd q e
theorem arA_ly (hW : WF A) (h3 : A 64 < 3) (t d : Int) : ly (arA A N c f) t d ↔ ly A t d := by
  have hn := hW.n
  exact ly_cg (arA_n (by omega)) hn.2.1.2 (fun j h1 h2 => arA_n (by omega)) t d
theorem arA_hasP (hW : WF A) (h3 : A 64 < 3) (hN : 2 ≤ N ∧ N ≤ 7) (d : Int) : hasP (arA A N c f) d ↔ hasP A d ∨ ∃ q, q < N.toNat ∧ pth c f q = d := by
  have hn := hW.n
  constructor
  · rintro ⟨a, p, k1, k2⟩
    rw [arA_vP hW h3] at k1
    rcases k1 with k1 | ⟨rfl, k3, k4⟩
    · have v := hW.vp k1
      have := k1.1
      rw [arA_n (by omega)] at k2
      exact Or.inl ⟨a, p, k1, k2⟩
    · rw [arA_75 hn.1.1 (by omega)] at k2
      exact Or.inr ⟨p.toNat, by omega, k2⟩
  · rintro (⟨a, p, k1, k2⟩ | ⟨q, k1, k2⟩)
    · have v := hW.vp k1
      have := k1.1
      exact ⟨a, p, (arA_vP hW h3 a p).mpr (Or.inl k1), by rw [arA_n (by omega)]; exact k2⟩
    · refine ⟨A 64, q, (arA_vP hW h3 _ _).mpr (Or.inr ⟨rfl, by omega, by omega⟩), ?_⟩
      rw [arA_75 hn.1.1 (by omega)]; exact k2
theorem WF_arm (hW : WF A) (h3 : A 64 < 3) (hN : 2 ≤ N ∧ N ≤ 7) (hc : 0 ≤ c ∧ c < 64) (hok : ∀ k, k < N.toNat → okp A c f k) : WF (arA A N c f) := by
  have hn := hW.n
  have ks : ∀ j, j < 70 → j ≠ 64 → arA A N c f j = A j := fun j h1 h2 => arA_n (by omega)
  have kl : ∀ j, 490 ≤ j → arA A N c f j = A j := fun j h1 => arA_n (by omega)
  have ko : ∀ a w, 0 ≤ a → a < A 64 → 0 ≤ w → w < 40 → arA A N c f (70 + 40 * a + w) = A (70 + 40 * a + w) := fun a w h1 h2 h4 h5 => arA_n (by omega)
  have prg : ∀ k, k < N.toNat → 0 ≤ pth c f k ∧ pth c f k < 64 := fun k hk => ⟨(hok k hk).1.1, (pth_rg hc k (fun j hj => (hok j (by omega)).1.1)).2⟩
  refine ⟨⟨by rw [arA_64]; omega, by rw [ks _ (by omega) (by omega)]; exact hn.2.1, by rw [ks _ (by omega) (by omega)]; exact hn.2.2⟩, fun c' g1 g2 => by rw [ks _ (by omega) (by omega)]; exact hW.w g1 g2, fun a g1 g2 => ?_, fun t g1 g2 => ?_, fun a p a' p' g1 g2 he => ?_, fun t t' d g1 g2 => ?_⟩
  · rw [arA_64] at g2
    by_cases e : a = A 64
    · subst e
      unfold WA
      rw [arA_70 hn.1.1, arA_71 hn.1.1, arA_72 hn.1.1, ks 65 (by omega) (by omega)]
      refine ⟨hN, Or.inl rfl, by omega, fun p q1 q2 => ?_, fun p q1 q2 q3 => ?_⟩
      · have r := prg p.toNat (by omega)
        rw [arA_75 hn.1.1 (by omega), arA_82 hn.1.1 (by omega), arA_96 hn.1.1 (by omega), arA_89 hn.1.1 (by omega), ks _ (by omega) (by omega)]
        exact ⟨r, by omega, by omega, (hok p.toNat (by omega)).1.2.1, Or.inl rfl⟩
      · rw [arA_75 hn.1.1 (by omega), arA_75 hn.1.1 (p := p - 1) (by omega)]
        have d4 := dgf_lt f (p - 1).toNat
        refine ⟨((dgf f (p - 1).toNat : Nat) : Int), by omega, ?_⟩
        rw [show p.toNat = (p - 1).toNat + 1 by omega]; rfl
    · have ha : 0 ≤ a ∧ a < A 64 := by omega
      have wa := hW.a ha
      have pc := hW.pc ha
      unfold WA
      rw [arA_n (j := 70 + 40 * a) (by omega), arA_n (j := 71 + 40 * a) (by omega), arA_n (j := 72 + 40 * a) (by omega), ks 65 (by omega) (by omega)]
      refine ⟨wa.1, wa.2.1, wa.2.2.1, fun p q1 q2 => ?_, fun p q1 q2 q3 => ?_⟩
      · have hv : vP A a p := ⟨ha, q1, q2⟩
        have ce := hW.ce hv
        have ho := hW.ho hv
        rw [arA_n (j := 75 + 40 * a + p) (by omega), arA_n (j := 82 + 40 * a + p) (by omega), arA_n (j := 96 + 40 * a + p) (by omega), arA_n (j := 89 + 40 * a + p) (by omega), ks _ (by omega) (by omega)]
        refine ⟨ce, hW.me hv, hW.sa hv, hW.pw hv, ?_⟩
        rcases ho with ho | ho
        · exact Or.inl ho
        · right
          rw [kl _ (by omega), kl _ (by omega)]
          exact ho
      · rw [arA_n (j := 75 + 40 * a + p) (by omega), arA_n (j := 75 + 40 * a + (p - 1)) (by omega)]
        exact wa.2.2.2.2 p q1 q2 q3
  · rw [ks 65 (by omega) (by omega)] at g2
    have w := hW.t ⟨g1, g2⟩
    have w2 := w.2.1
    unfold WT
    rw [kl (490 + 4 * t) (by omega), kl (491 + 4 * t) (by omega), kl (492 + 4 * t) (by omega), kl (493 + 4 * t) (by omega), ks (A (491 + 4 * t)) (by omega) (by omega), arA_64]
    refine ⟨w.1, w.2.1, w.2.2.1, w.2.2.2.1, fun q => ?_, fun q => ?_⟩
    · obtain ⟨a', p', k1, k2, k3⟩ := w.2.2.2.2.1 q
      have v2 := hW.vp k1
      have := k1.1
      exact ⟨a', p', (arA_vP hW h3 a' p').mpr (Or.inl k1), k2, by rw [arA_n (by omega)]; exact k3⟩
    · obtain ⟨a', k1, k2⟩ := w.2.2.2.2.2 q
      exact ⟨a', by omega, k2⟩
  · rw [arA_vP hW h3] at g1 g2
    have old : ∀ a p, vP A a p → arA A N c f (75 + 40 * a + p) = A (75 + 40 * a + p) := fun a p k1 => by
      have v := hW.vp k1
      have := k1.1
      exact arA_n (by omega)
    rcases g1 with g1 | ⟨rfl, g1, g1'⟩ <;> rcases g2 with g2 | ⟨e2, g2, g2'⟩
    · rw [old a p g1, old a' p' g2] at he
      exact hW.d g1 g2 he
    · subst e2
      rw [old a p g1, arA_75 hn.1.1 (by omega)] at he
      exact absurd ⟨a, p, g1, he⟩ (hok p'.toNat (by omega)).1.2.2
    · rw [old a' p' g2, arA_75 hn.1.1 (by omega)] at he
      exact absurd ⟨a', p', g2, he.symm⟩ (hok p.toNat (by omega)).1.2.2
    · subst e2
      rw [arA_75 hn.1.1 (by omega), arA_75 hn.1.1 (by omega)] at he
      refine ⟨rfl, ?_⟩
      rcases Int.lt_trichotomy p p' with l | l | l
      · exact absurd he ((hok p'.toNat (by omega)).2 p.toNat (by omega))
      · exact l
      · exact absurd he.symm ((hok p.toNat (by omega)).2 p'.toNat (by omega))
  · rw [arA_ly hW h3] at g1 g2
    exact hW.l g1 g2
theorem SRel_arm (hR : SRel A U F S) (hW : WF A) (h3 : A 64 < 3) (hN : 2 ≤ N ∧ N ≤ 7) (sw : S'.W = S.W) (st : S'.T = bset (fun d => hasP A d ∨ ∃ q, q < N.toNat ∧ pth c f q = d)) (sl : S'.L = S.L) (s4 : S'.z 4 = iI (A 64 + 1)) (s6 : S'.z 6 = S.z 6) (s7 : S'.z 7 = S.z 7) (s8 : S'.z 8 = S.z 8)
    (so : ∀ a, a ≠ (A 64).toNat → S'.n a = S.n a ∧ S'.u a = S.u a ∧ ∀ j, S'.r a j = S.r a j) (r4 : S'.r (A 64).toNat 4 = S.r (A 64).toNat 4) (n0 : S'.n (A 64).toNat 0 = iI N) (n1 : S'.n (A 64).toNat 1 = iI 0) (n2 : S'.n (A 64).toNat 2 = iI 0) (u0 : S'.u (A 64).toNat = none)
    (r0 : ∀ p : Nat, p < N.toNat → S'.r (A 64).toNat 0 p = iI (pth c f p)) (r1 : ∀ p : Nat, p < 7 → S'.r (A 64).toNat 1 p = iI 0) (r2 : ∀ p : Nat, p < 7 → S'.r (A 64).toNat 2 p = iI (-4)) (r3 : ∀ p : Nat, p < 7 → S'.r (A 64).toNat 3 p = iI 0) (sv : S'.v = S.v) :
    SRel (arA A N c f) (fun a => if a = A 64 then none else U a) F S' := by
  have hn := hW.n
  have kl : ∀ j, 490 ≤ j → arA A N c f j = A j := fun j h1 => arA_n (by omega)
  have e65 : arA A N c f 65 = A 65 := arA_n (by omega)
  have rw0 : ∀ (a' p' : Int) (k : Nat) (w : Int), 0 ≤ a' → a' < A 64 + 1 → 0 ≤ p' → p' < arA A N c f (70 + 40 * a') → (k < 4 ∧ w = 75 + 7 * (k : Int)) → (∀ a p, 0 ≤ a → a < A 64 → 0 ≤ p → p < A (70 + 40 * a) → S.r a.toNat k p.toNat = iI (A (w + 40 * a + p))) → (∀ p : Int, 0 ≤ p → p < N → S'.r (A 64).toNat k p.toNat = iI (arA A N c f (w + 40 * A 64 + p))) → S'.r a'.toNat k p'.toNat = iI (arA A N c f (w + 40 * a' + p')) := by
    intro a' p' k w g1 g2 g3 g4 hk ho hnw
    by_cases e : a' = A 64
    · subst e
      rw [arA_70 hn.1.1] at g4
      exact hnw p' g3 g4
    · have ha : 0 ≤ a' ∧ a' < A 64 := by omega
      have pc := hW.pc ha
      rw [arA_n (by omega)] at g4
      rw [arA_n (by omega), (so a'.toNat (by omega)).2.2 k]
      exact ho a' p' g1 ha.2 g3 g4
  refine ⟨?_, ?_, fun x g1 g2 => ?_, ?_, ?_, ?_, ?_, fun a' g1 g2 => ?_, fun a' g1 g2 => ?_, fun a' g1 g2 => ?_, fun a' g1 g2 => ?_, fun a' p' g1 g2 g3 g4 => ?_, fun a' p' g1 g2 g3 g4 => ?_, fun a' p' g1 g2 g3 g4 => ?_, fun a' p' g1 g2 g3 g4 => ?_, fun i => ?_, fun t g1 g2 => ?_, fun t g1 g2 => ?_, fun t g1 g2 g3 => ?_, fun t g1 g2 g3 => ?_, fun t g1 g2 g3 => ?_⟩
  · rw [sw]; exact hR.w.trans (bset_cg (fun c g1 g2 => by rw [arA_n (by omega)]))
  · rw [st]; exact bset_cg (fun d g1 g2 => (arA_hasP hW h3 hN d).symm)
  · rw [sl]; exact (hR.l x g1 g2).trans (bset_cg (fun c k1 k2 => (lyx_cg e65 hn.2.1.2 (fun j h1 h2 => kl j h1) x c).symm))
  · rw [arA_64]; exact s4
  · rw [e65, s6]; exact hR.n6
  · rw [arA_n (by omega), s7]; exact hR.n7
  · rw [arA_n (by omega), s8]; exact hR.n8
  · rw [arA_64] at g2
    by_cases e : a' = A 64
    · subst e; rw [arA_70 hn.1.1]; exact n0
    · rw [arA_n (by omega), (so a'.toNat (by omega)).1]; exact hR.m0 a' g1 (by omega)
  · rw [arA_64] at g2
    by_cases e : a' = A 64
    · subst e; rw [arA_71 hn.1.1]; exact n1
    · rw [arA_n (by omega), (so a'.toNat (by omega)).1]; exact hR.m1 a' g1 (by omega)
  · rw [arA_64] at g2
    by_cases e : a' = A 64
    · subst e; rw [arA_72 hn.1.1]; exact n2
    · rw [arA_n (by omega), (so a'.toNat (by omega)).1]; exact hR.m2 a' g1 (by omega)
  · rw [arA_64] at g2
    by_cases e : a' = A 64
    · subst e; show _ = if A 64 = A 64 then none else U (A 64); rw [if_pos rfl]; exact u0
    · show _ = if a' = A 64 then none else U a'; rw [if_neg e, (so a'.toNat (by omega)).2.1]; exact hR.u a' g1 (by omega)
  · rw [arA_64] at g2
    exact rw0 a' p' 0 75 g1 g2 g3 g4 (by omega) hR.r0 (fun p h1 h2 => by rw [arA_75 hn.1.1 (by omega)]; exact r0 p.toNat (by omega))
  · rw [arA_64] at g2
    exact rw0 a' p' 1 82 g1 g2 g3 g4 (by omega) hR.r1 (fun p h1 h2 => by rw [arA_82 hn.1.1 (by omega)]; exact r1 p.toNat (by omega))
  · rw [arA_64] at g2
    exact rw0 a' p' 2 89 g1 g2 g3 g4 (by omega) hR.r2 (fun p h1 h2 => by rw [arA_89 hn.1.1 (by omega)]; exact r2 p.toNat (by omega))
  · rw [arA_64] at g2
    exact rw0 a' p' 3 96 g1 g2 g3 g4 (by omega) hR.r3 (fun p h1 h2 => by rw [arA_96 hn.1.1 (by omega)]; exact r3 p.toNat (by omega))
  · by_cases e : i = (A 64).toNat
    · subst e; rw [r4]; exact hR.f _
    · rw [(so i e).2.2 4]; exact hR.f i
  · rw [e65] at g2; rw [kl _ (by omega), sv]; exact hR.v0 t g1 g2
  · rw [e65] at g2; rw [kl _ (by omega), sv]; exact hR.v1 t g1 g2
  · rw [e65] at g2; rw [kl _ (by omega)] at g3 ⊢; rw [sv]; exact hR.v2 t g1 g2 g3
  · rw [e65] at g2; rw [kl _ (by omega)] at g3 ⊢; rw [sv]; exact hR.v3 t g1 g2 g3
  · rw [e65] at g2; rw [kl _ (by omega)] at g3 ⊢; rw [sv]; exact hR.v4 t g1 g2 g3
end AR
