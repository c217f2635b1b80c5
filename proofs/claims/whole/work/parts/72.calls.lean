/-! a change of walls, of the skin's taste or of a cut alone -/
def dX (j : Int) : Prop := dW j ∧ j ≠ 66 ∧ 64 ≤ j ∧ j ≠ 71 ∧ j ≠ 111 ∧ j ≠ 151
section WC
variable {A A' : Int → Int} {U : Int → Option Nat} {F : Nat → Nat → Int32} {S S' : zS}
theorem dX_i {j : Int} (h : (0 ≤ j ∧ (j < 67 ∨ (70 ≤ j ∧ j < 73) ∨ (75 ≤ j ∧ j < 113) ∨ (115 ≤ j ∧ j < 153) ∨ (155 ≤ j ∧ j < 190) ∨ (490 ≤ j ∧ j < 530))) ∧ j ≠ 66 ∧ 64 ≤ j ∧ j ≠ 71 ∧ j ≠ 111 ∧ j ≠ 151) : dX j := h
theorem WF_wc (hW : WF A) (k : ∀ j, dX j → A' j = A j) (k66 : 0 ≤ A' 66 ∧ A' 66 ≤ 3) (kw : ∀ c, 0 ≤ c → c < 64 → A' c = 0 ∨ A' c = 1) (kp : ∀ a p, vP A a p → A' (A (75 + 40 * a + p)) = 0) (kt : ∀ t, 0 ≤ t → t < A 65 → A (490 + 4 * t) = 0 → A' (A (491 + 4 * t)) = 0)
    (kc : ∀ a, 0 ≤ a → a < A 64 → A' (71 + 40 * a) = A (71 + 40 * a) ∨ (A (71 + 40 * a) = -4 ∧ 1 ≤ A' (71 + 40 * a) ∧ A' (71 + 40 * a) < A (70 + 40 * a))) : WF A' := by
  have hn := hW.n
  have e64 : A' 64 = A 64 := k 64 (dX_i (by omega))
  have e65 : A' 65 = A 65 := k 65 (dX_i (by omega))
  have e70 : ∀ a, 0 ≤ a → a ≤ 2 → A' (70 + 40 * a) = A (70 + 40 * a) := fun a h1 h2 => k _ (dX_i (by omega))
  have e72 : ∀ a, 0 ≤ a → a ≤ 2 → A' (72 + 40 * a) = A (72 + 40 * a) := fun a h1 h2 => k _ (dX_i (by omega))
  have e75 : ∀ a p, 0 ≤ a → a ≤ 2 → 0 ≤ p → p ≤ 6 → A' (75 + 40 * a + p) = A (75 + 40 * a + p) := fun a p h1 h2 h3 h4 => k _ (dX_i (by omega))
  have e82 : ∀ a p, 0 ≤ a → a ≤ 2 → 0 ≤ p → p ≤ 6 → A' (82 + 40 * a + p) = A (82 + 40 * a + p) := fun a p h1 h2 h3 h4 => k _ (dX_i (by omega))
  have e89 : ∀ a p, 0 ≤ a → a ≤ 2 → 0 ≤ p → p ≤ 6 → A' (89 + 40 * a + p) = A (89 + 40 * a + p) := fun a p h1 h2 h3 h4 => k _ (dX_i (by omega))
  have e96 : ∀ a p, 0 ≤ a → a ≤ 2 → 0 ≤ p → p ≤ 6 → A' (96 + 40 * a + p) = A (96 + 40 * a + p) := fun a p h1 h2 h3 h4 => k _ (dX_i (by omega))
  have et : ∀ j, 490 ≤ j → j < 522 → A' j = A j := fun j h1 h2 => k _ (dX_i (by omega))
  have ev : ∀ a p, vP A' a p ↔ vP A a p := vP_cg e64 hn.1.2 e70
  refine ⟨⟨by rw [e64]; exact hn.1, by rw [e65]; exact hn.2.1, k66⟩, fun c h1 h2 => kw c h1 h2, fun a h1 h2 => ?_, fun t h1 h2 => ?_, fun a p a' p' h1 h2 he => ?_, fun t t' c h1 h2 => ?_⟩
  · rw [e64] at h2
    have wa := hW.a ⟨h1, h2⟩
    have hpc := hW.pc ⟨h1, h2⟩
    have hcu := kc a h1 h2
    have hcu0 := hW.cu ⟨h1, h2⟩
    unfold WA
    rw [e70 a h1 (by omega), e72 a h1 (by omega), e65]
    refine ⟨wa.1, by omega, wa.2.2.1, fun p g1 g2 => ?_, fun p g1 g2 g3 => ?_⟩
    · have hv : vP A a p := ⟨⟨h1, h2⟩, g1, g2⟩
      have hc := hW.ce hv
      have ho := hW.ho hv
      rw [e75 a p h1 (by omega) g1 (by omega), e82 a p h1 (by omega) g1 (by omega), e96 a p h1 (by omega) g1 (by omega), e89 a p h1 (by omega) g1 (by omega)]
      refine ⟨hc, hW.me hv, hW.sa hv, kp a p hv, ?_⟩
      rcases ho with ho | ho
      · exact Or.inl ho
      · right
        rw [et _ (by omega) (by omega), et _ (by omega) (by omega)]
        exact ho
    · rw [e75 a p h1 (by omega) (by omega) (by omega), e75 a (p - 1) h1 (by omega) (by omega) (by omega)]
      exact wa.2.2.2.2 p g1 g2 (by omega)
  · rw [e65] at h2
    have w := hW.t ⟨h1, h2⟩
    have w2 := w.2.1
    unfold WT
    rw [et (490 + 4 * t) (by omega) (by omega), et (491 + 4 * t) (by omega) (by omega), et (492 + 4 * t) (by omega) (by omega), et (493 + 4 * t) (by omega) (by omega), e64]
    refine ⟨w.1, w.2.1, w.2.2.1, fun q => ⟨kt t h1 h2 q, (w.2.2.2.1 q).2⟩, fun q => ?_, w.2.2.2.2.2⟩
    obtain ⟨a', p', k1, k2, k3⟩ := w.2.2.2.2.1 q
    have v2 := hW.vp k1
    exact ⟨a', p', (ev a' p').mpr k1, k2, by rw [e89 a' p' (by omega) (by omega) (by omega) (by omega)]; exact k3⟩
  · have g1 := (ev a p).mp h1
    have g2 := (ev a' p').mp h2
    have v1 := hW.vp g1
    have v2 := hW.vp g2
    rw [e75 a p (by omega) (by omega) (by omega) (by omega), e75 a' p' (by omega) (by omega) (by omega) (by omega)] at he
    exact hW.d g1 g2 he
  · have hc := ly_cg e65 hn.2.1.2 et
    exact hW.l ((hc t c).mp h1) ((hc t' c).mp h2)
theorem SRel_wc (hR : SRel A U F S) (hW : WF A) (k : ∀ j, dX j → A' j = A j) (k7 : A' 67 = A 67) (sw : S'.W = bset (fun c => A' c = 1)) (sk : S'.T = S.T) (sl : S'.L = S.L) (s4 : S'.z 4 = S.z 4) (s6 : S'.z 6 = S.z 6) (s7 : S'.z 7 = iI (A' 66)) (s8 : S'.z 8 = S.z 8) (sn0 : ∀ i, S'.n i 0 = S.n i 0) (sn2 : ∀ i, S'.n i 2 = S.n i 2) (sn1 : ∀ a, 0 ≤ a → a < A 64 → S'.n a.toNat 1 = iI (cutv (A' (71 + 40 * a)))) (su : S'.u = S.u) (sr : S'.r = S.r) (sv : S'.v = S.v) : SRel A' U F S' := by
  have hn := hW.n
  have e64 : A' 64 = A 64 := k 64 (dX_i (by omega))
  have e65 : A' 65 = A 65 := k 65 (dX_i (by omega))
  have et : ∀ j, 490 ≤ j → j < 522 → A' j = A j := fun j h1 h2 => k _ (dX_i (by omega))
  have e70 : ∀ a, 0 ≤ a → a ≤ 2 → A' (70 + 40 * a) = A (70 + 40 * a) := fun a h1 h2 => k _ (dX_i (by omega))
  have e75 : ∀ a p, 0 ≤ a → a ≤ 2 → 0 ≤ p → p ≤ 6 → A' (75 + 40 * a + p) = A (75 + 40 * a + p) := fun a p h1 h2 h3 h4 => k _ (dX_i (by omega))
  have ev : ∀ a p, vP A' a p ↔ vP A a p := vP_cg e64 hn.1.2 e70
  have hp : ∀ c, hasP A' c ↔ hasP A c := by
    intro c
    constructor
    · rintro ⟨a, p, k1, k2⟩
      rw [ev] at k1
      have v := hW.vp k1
      rw [e75 a p (by omega) (by omega) (by omega) (by omega)] at k2
      exact ⟨a, p, k1, k2⟩
    · rintro ⟨a, p, k1, k2⟩
      have v := hW.vp k1
      exact ⟨a, p, (ev a p).mpr k1, by rw [e75 a p (by omega) (by omega) (by omega) (by omega)]; exact k2⟩
  refine ⟨?_, ?_, fun x g1 g2 => ?_, ?_, ?_, ?_, ?_, fun a' g1 g2 => ?_, fun a' g1 g2 => ?_, fun a' g1 g2 => ?_, fun a' g1 g2 => ?_, fun a' p' g1 g2 g3 g4 => ?_, fun a' p' g1 g2 g3 g4 => ?_, fun a' p' g1 g2 g3 g4 => ?_, fun a' p' g1 g2 g3 g4 => ?_, fun i => ?_, fun t g1 g2 => ?_, fun t g1 g2 => ?_, fun t g1 g2 g3 => ?_, fun t g1 g2 g3 => ?_, fun t g1 g2 g3 => ?_⟩
  · exact sw
  · rw [sk]; exact hR.k.trans (bset_cg (fun c g1 g2 => (hp c).symm))
  · rw [sl]; exact (hR.l x g1 g2).trans (bset_cg (fun c k1 k2 => (lyx_cg e65 hn.2.1.2 et x c).symm))
  · rw [e64, s4]; exact hR.n4
  · rw [e65, s6]; exact hR.n6
  · exact s7
  · rw [k7, s8]; exact hR.n8
  · rw [e64] at g2; rw [k _ (dX_i (by omega)), sn0]; exact hR.m0 a' g1 g2
  · rw [e64] at g2; exact sn1 a' g1 g2
  · rw [e64] at g2; rw [k _ (dX_i (by omega)), sn2]; exact hR.m2 a' g1 g2
  · rw [e64] at g2; rw [su]; exact hR.u a' g1 g2
  · rw [e64] at g2; have pc := hW.pc ⟨g1, g2⟩; rw [k (70 + 40 * a') (dX_i (by omega))] at g4; rw [k _ (dX_i (by omega)), sr]; exact hR.r0 a' p' g1 g2 g3 g4
  · rw [e64] at g2; have pc := hW.pc ⟨g1, g2⟩; rw [k (70 + 40 * a') (dX_i (by omega))] at g4; rw [k _ (dX_i (by omega)), sr]; exact hR.r1 a' p' g1 g2 g3 g4
  · rw [e64] at g2; have pc := hW.pc ⟨g1, g2⟩; rw [k (70 + 40 * a') (dX_i (by omega))] at g4; rw [k _ (dX_i (by omega)), sr]; exact hR.r2 a' p' g1 g2 g3 g4
  · rw [e64] at g2; have pc := hW.pc ⟨g1, g2⟩; rw [k (70 + 40 * a') (dX_i (by omega))] at g4; rw [k _ (dX_i (by omega)), sr]; exact hR.r3 a' p' g1 g2 g3 g4
  · rw [sr]; exact hR.f i
  · rw [e65] at g2; rw [et _ (by omega) (by omega), sv]; exact hR.v0 t g1 g2
  · rw [e65] at g2; rw [et _ (by omega) (by omega), sv]; exact hR.v1 t g1 g2
  · rw [e65] at g2; rw [et _ (by omega) (by omega)] at g3 ⊢; rw [sv]; exact hR.v2 t g1 g2 g3
  · rw [e65] at g2; rw [et _ (by omega) (by omega)] at g3 ⊢; rw [sv]; exact hR.v3 t g1 g2 g3
  · rw [e65] at g2; rw [et _ (by omega) (by omega)] at g3 ⊢; rw [sv]; exact hR.v4 t g1 g2 g3
theorem WF_66 (hW : WF A) {v : Int} (hv : 0 ≤ v ∧ v ≤ 3) : WF (uI A 66 v) := by
  have hn := hW.n
  refine WF_wc hW (fun j hj => uI_n _ _ hj.2.1) (by rw [uI_s]; exact hv) (fun c g1 g2 => by rw [uI_n _ _ (by omega)]; exact hW.w g1 g2) (fun a p hv => by have := hW.ce hv; rw [uI_n _ _ (by omega)]; exact hW.pw hv) (fun t g1 g2 g3 => ?_) (fun a g1 g2 => Or.inl (uI_n _ _ (by omega)))
  have w := hW.t ⟨g1, g2⟩
  have w2 := w.2.1
  rw [uI_n _ _ (by omega)]; exact (w.2.2.2.1 g3).1
theorem SRel_66 (hR : SRel A U F S) (hW : WF A) (v : Int) : SRel (uI A 66 v) U F (sZ S 7 (iI v)) := by
  have hn := hW.n
  refine SRel_wc hR hW (fun j hj => uI_n _ _ hj.2.1) (uI_n _ _ (by omega)) ?_ rfl rfl (show upd S.z 7 (iI v) 4 = S.z 4 from pk_un (by omega)) (show upd S.z 7 (iI v) 6 = S.z 6 from pk_un (by omega)) ?_ (show upd S.z 7 (iI v) 8 = S.z 8 from pk_un (by omega)) (fun _ => rfl) (fun _ => rfl) (fun a g1 g2 => ?_) rfl rfl rfl
  · exact hR.w.trans (bset_cg (fun c g1 g2 => by rw [uI_n _ _ (by omega)]))
  · rw [uI_s]; show upd S.z 7 (iI v) 7 = _; exact pk_us
  · rw [uI_n _ _ (by omega)]; exact hR.m1 a g1 g2
theorem WF_cut (hW : WF A) {a p : Int} (hv : vP A a p) (hp : 1 ≤ p) (hc : A (71 + 40 * a) = -4) : WF (uI A (71 + 40 * a) p) := by
  have hn := hW.n
  have hv1 := hv.1
  have hv2 := hv.2
  refine WF_wc hW (fun j hj => uI_n _ _ (by have := hj.2; omega)) (by rw [uI_n _ _ (by omega)]; exact hn.2.2) (fun c g1 g2 => by rw [uI_n _ _ (by omega)]; exact hW.w g1 g2) (fun a p hv => by have := hW.ce hv; rw [uI_n _ _ (by omega)]; exact hW.pw hv) (fun t g1 g2 g3 => ?_) (fun a' g1 g2 => ?_)
  · have w := hW.t ⟨g1, g2⟩
    have w2 := w.2.1
    rw [uI_n _ _ (by omega)]; exact (w.2.2.2.1 g3).1
  · by_cases e : a' = a
    · subst e; rw [uI_s]; right; exact ⟨hc, by omega, hv2.2⟩
    · left; exact uI_n _ _ (by omega)
theorem SRel_cut (hR : SRel A U F S) (hW : WF A) {a p : Int} (ha : 0 ≤ a ∧ a < A 64) (hp : 1 ≤ p) : SRel (uI A (71 + 40 * a) p) U F (sN S a.toNat 1 (iI p)) := by
  have hn := hW.n
  refine SRel_wc hR hW (fun j hj => uI_n _ _ (by have := hj.2; omega)) (uI_n _ _ (by omega)) ?_ rfl rfl rfl rfl ?_ rfl (fun i => sN_n _ _ (Or.inr (by omega))) (fun i => sN_n _ _ (Or.inr (by omega))) (fun a' g1 g2 => ?_) rfl rfl rfl
  · exact hR.w.trans (bset_cg (fun c g1 g2 => by rw [uI_n _ _ (by omega)]))
  · rw [uI_n _ _ (by omega)]; exact hR.n7
  · by_cases e : a' = a
    · subst e; rw [sN_s, pk_us, uI_s]; unfold cutv; rw [if_neg (by omega)]
    · rw [sN_n _ _ (by omega), uI_n _ _ (by omega)]; exact hR.m1 a' g1 g2
end WC
/-! THE CALLS that touch the sea alone: the class and the reference, side by side -/
def oX (X : Nat) (n : Int32) : zMC := .inr (10, [tA (some (X + 1)), tA (some (X + 31)), tA (some (X + 32)), tA (some (X + 33)), tI n, tA (some (X + 34)), tA (some (X + 35)), tA (some (X + 40)), tA (some (X + 193))])
def rgI (x : Int) : Prop := -2147483648 ≤ x ∧ x < 2147483648
section XG
variable {h : zH} {X : Nat} {n : Int32}
theorem Xck (hX : h X = oX X n) : z_ck h 10 (some X) = some X := z_ck_k hX
theorem Xg0 (hX : h X = oX X n) : z_gA h 10 0 (some X) = some (some (X + 1)) := z_gA_k hX rfl
theorem Xg1 (hX : h X = oX X n) : z_gA h 10 1 (some X) = some (some (X + 31)) := z_gA_k hX rfl
theorem Xg2 (hX : h X = oX X n) : z_gA h 10 2 (some X) = some (some (X + 32)) := z_gA_k hX rfl
theorem Xg3 (hX : h X = oX X n) : z_gA h 10 3 (some X) = some (some (X + 33)) := z_gA_k hX rfl
theorem Xi4 (hX : h X = oX X n) : z_gI h 10 4 (some X) = some n := z_gI_k hX rfl
theorem Xg5 (hX : h X = oX X n) : z_gA h 10 5 (some X) = some (some (X + 34)) := z_gA_k hX rfl
theorem Xg6 (hX : h X = oX X n) : z_gA h 10 6 (some X) = some (some (X + 35)) := z_gA_k hX rfl
theorem Xg7 (hX : h X = oX X n) : z_gA h 10 7 (some X) = some (some (X + 40)) := z_gA_k hX rfl
theorem Xg8 (hX : h X = oX X n) : z_gA h 10 8 (some X) = some (some (X + 193)) := z_gA_k hX rfl
theorem Xp4 (hX : h X = oX X n) (x : Int32) : z_pF h 10 4 (some X) (tI x) = some (z_up h X (oX X x)) := z_pF_k hX (Nat.le_of_ble_eq_true rfl)
end XG
/-- what the texts of the rules need -/
def kX (A A' : Int → Int) : Prop := ∀ j, (j = 64 ∨ (73 ≤ j ∧ j < 75) ∨ (113 ≤ j ∧ j < 115) ∨ (153 ≤ j ∧ j < 155) ∨ (190 ≤ j ∧ j < 490)) → A' j = A j
theorem kX_rf (A : Int → Int) : kX A A := fun _ _ => rfl
theorem kX_tr {A A1 A2 : Int → Int} (a : kX A A1) (b : kX A1 A2) : kX A A2 := fun j hj => (b j hj).trans (a j hj)
theorem kX_kT {A A' : Int → Int} (k : kT A A') : kX A A' := fun j hj => k j (by omega)
theorem kX_uI (A : Int → Int) {e : Int} (v : Int) (he : ¬ (e = 64 ∨ (73 ≤ e ∧ e < 75) ∨ (113 ≤ e ∧ e < 115) ∨ (153 ≤ e ∧ e < 155) ∨ (190 ≤ e ∧ e < 490))) : kX A (uI A e v) := fun j hj => uI_n _ _ (by omega)
theorem TX_kX {A A' : Int → Int} (k : kX A A') {a : Int} (ha : 0 ≤ a ∧ a ≤ 2) {q : List zKl} (h : TX A a q) : TX A' a q := by
  obtain ⟨h1, h2, h3⟩ := h
  refine ⟨h1, by rw [k _ (by omega)]; exact h2, fun hq => ?_⟩
  obtain ⟨h4, h5⟩ := h3 hq
  have hl := h1.2.2
  exact ⟨by rw [k _ (by omega)]; exact h4, tx_cg _ _ (fun j g1 g2 => k j (by omega)) h5⟩
def kG (Y Y' : Nat → Nat → Int32) : Prop := Y' 0 4 = Y 0 4 ∧ ∀ k, (k = 2 ∨ k = 3 ∨ (5 ≤ k ∧ k ≤ 8)) → Y' k = Y k
theorem kG_rf (Y : Nat → Nat → Int32) : kG Y Y := ⟨rfl, fun _ _ => rfl⟩
theorem kG_tr {Y Y1 Y2 : Nat → Nat → Int32} (a : kG Y Y1) (b : kG Y1 Y2) : kG Y Y2 := ⟨b.1.trans a.1, fun k hk => (b.2 k hk).trans (a.2 k hk)⟩
theorem kG_o1 {Y Y' : Nat → Nat → Int32} (k : o1 Y Y') : kG Y Y' := ⟨by rw [k 0 (by omega)], fun j hj => k j (by omega)⟩
theorem kG_ky {Y Y' : Nat → Nat → Int32} (k : ky Y Y') : kG Y Y' := ⟨k.2 4 (by omega), fun j hj => k.1 j (by omega) (by omega) (by omega) (by omega) (by omega) (by omega)⟩
theorem kG_sm {i : Nat} {Y Y' : Nat → Nat → Int32} (k : sm i Y Y') : kG Y Y' := ⟨k.2.1 4 (by omega), fun j hj => k.1 j (by omega) (by omega) (by omega) (by omega)⟩
theorem kG_k4 {Y Y' : Nat → Nat → Int32} (k : k4 Y Y') : kG Y Y' := ⟨k.2 4 (by omega), fun j hj => k.1 j (by omega) (by omega) (by omega) (by omega) (by omega) (by omega) (by omega)⟩
theorem kG_kv {Y Y' : Nat → Nat → Int32} (k : kv Y Y') : kG Y Y' := ⟨k.2 4 (by omega), fun j hj => k.1 j (by omega) (by omega) (by omega) (by omega) (by omega) (by omega)⟩
def RX (D : Nat → Prop) (Q : Int → List zKl) (U : Int → Option Nat) (A : Int → Int) (h : zH) : Prop := ∀ a, 0 ≤ a → a < A 64 → RU D h (U a) (Q a)
def stC (tS X : Nat) (D : Nat → Prop) (Q : Int → List zKl) (U : Int → Option Nat) (A : Int → Int) (f : zH → Option (Int32 × zH)) (r : Int32) (A' : Int → Int) : Prop :=
  ∀ h n F, h X = oX X n → hST h tS → RX D Q U A h → SR h (X + 1) A U F → ∃ h' F', f h = some (r, h') ∧ SR h' (X + 1) A' U F' ∧ fr (X + 1) 30 h h'
def stR (m : Nat) (A : Int → Int) (f : zH → Option (Int32 × zH)) (r : Int32) (A' : Int → Int) : Prop :=
  ∀ h Y, MR h m A Y → ∃ h' Y', f h = some (r, h') ∧ MR h' m A' Y' ∧ kG Y Y' ∧ fr m 19 h h'
def KS (tS X m : Nat) (D : Nat → Prop) (Q : Int → List zKl) (U : Int → Option Nat) (A : Int → Int) (fc fR : zH → Option (Int32 × zH)) : Prop :=
  ∃ r A', stC tS X D Q U A fc r A' ∧ stR m A fR r A' ∧ WF A' ∧ kX A A'
section KC
variable {tS X m : Nat} {D : Nat → Prop} {Q : Int → List zKl} {U : Int → Option Nat} {A : Int → Int}
theorem KS_no {fc fR : zH → Option (Int32 × zH)} (r : Int32) (hW : WF A) (hc : ∀ h n F S, h X = oX X n → RX D Q U A h → SAt h (X + 1) S → SRel A U F S → fc h = some (r, h)) (hr : ∀ h Y, MR h m A Y → fR h = some (r, h)) : KS tS X m D Q U A fc fR := by
  refine ⟨r, A, fun h n F hX hT hQ hS => ?_, fun h Y hM => ⟨h, Y, hr h Y hM, hM, kG_rf Y, fr_rf _ _ _⟩, hW, kX_rf A⟩
  obtain ⟨S, s1, s2⟩ := id hS
  exact ⟨h, F, hc h n F S hX hQ s1 s2, hS, fr_rf _ _ _⟩
theorem stR_go {f : zH → Option (Int32 × zH)} {r : Int32} {A' : Int → Int} (hr : ∀ h Y, MR h m A Y → ∃ h', f h = some (r, h') ∧ go1 m h Y A' h') : stR m A f r A' := fun h Y hM => by
  obtain ⟨h', e, Y', a, b, c⟩ := hr h Y hM
  exact ⟨h', Y', e, a, kG_o1 b, c⟩
variable {h : zH} {n : Int32} {F : Nat → Nat → Int32} {S : zS}
theorem C_isArm (hX : h X = oX X n) (hS : SAt h (X + 1) S) (hR : SRel A U F S) (hW : WF A) {a : Int} (ha : rgI a) : f_X10_isArm (some X) (iI a) h = some (tb (0 ≤ a ∧ a < A 64), h) := by
  have hn := hW.n
  unfold rgI at ha
  simp (disch := omega) only [f_X10_isArm, Xg0 hX, Option.bind_some, z_b2_some, z_i1_some, Sz4 hS, hR.n4, iI_lit, iI_add, iI_sub, iI_mul, iI_neg, iteLt, iteLe]
  refine ite_c (fun q => ?_) (fun q => ite_c (fun q2 => ?_) (fun q2 => ?_))
  · rw [tb_f (by omega)]
  · rw [tb_f (by omega)]
  · rw [tb_t (by omega)]
theorem C_isThing (hX : h X = oX X n) (hS : SAt h (X + 1) S) (hR : SRel A U F S) (hW : WF A) {a : Int} (ha : rgI a) : f_X10_isThing (some X) (iI a) h = some (tb (0 ≤ a ∧ a < A 65), h) := by
  have hn := hW.n
  unfold rgI at ha
  simp (disch := omega) only [f_X10_isThing, Xg0 hX, Option.bind_some, z_b2_some, z_i1_some, Sz6 hS, hR.n6, iI_lit, iI_add, iI_sub, iI_mul, iI_neg, iteLt, iteLe]
  refine ite_c (fun q => ?_) (fun q => ite_c (fun q2 => ?_) (fun q2 => ?_))
  · rw [tb_f (by omega)]
  · rw [tb_f (by omega)]
  · rw [tb_t (by omega)]
theorem C_isPiece (hX : h X = oX X n) (hS : SAt h (X + 1) S) (hR : SRel A U F S) (hW : WF A) {a p : Int} (ha : rgI a) (hp : rgI p) : f_X10_isPiece (some X) (iI a) (iI p) h = some (tb (vP A a p), h) := by
  have hn := hW.n
  unfold f_X10_isPiece
  rw [Xck hX, Option.bind_some, C_isArm hX hS hR hW ha, z_b2_some]
  unfold rgI at ha hp
  simp only [iI_lit, iI_add, iI_sub, iI_mul, iI_neg]
  rw [ite_tb]
  refine ite_c (fun q => ?_) (fun q => ?_)
  · have m0 := hR.m0 a q.1 q.2
    have pc := hW.pc q
    simp (disch := omega) only [Xg0 hX, Option.bind_some, z_b2_some, z_i1_some, Sg3 hS, Sarm hS, An0 hS, m0, iteLt, iteLe]
    refine ite_c (fun q1 => ?_) (fun q1 => ite_c (fun q2 => ?_) (fun q2 => ?_))
    · rw [tb_f (fun e => absurd e.2.1 (by omega))]
    · rw [tb_f (fun e => absurd e.2.2 (by omega))]
    · rw [tb_t (show vP A a p from ⟨q, by omega, by omega⟩)]
  · rw [tb_f (fun e => q e.1)]
theorem C_isDigit {v : Int} (hv : rgI v) : f_X10_isDigit (iI v) h = some (tb (0 ≤ v ∧ v ≤ 3), h) := by
  unfold rgI at hv
  simp (disch := omega) only [f_X10_isDigit, iI_lit, iI_add, iI_sub, iI_mul, iI_neg, iteLt]
  refine ite_c (fun q => ?_) (fun q => ite_c (fun q2 => ?_) (fun q2 => ?_))
  · rw [tb_f (by omega)]
  · rw [tb_f (by omega)]
  · rw [tb_t (by omega)]
theorem C_isCell {x y : Int} (hx : rgI x) (hy : rgI y) : f_X10_isCell (iI x) (iI y) h = some (tb ((0 ≤ x ∧ x ≤ 7) ∧ 0 ≤ y ∧ y ≤ 7), h) := by
  unfold rgI at hx hy
  simp (disch := omega) only [f_X10_isCell, iI_lit, iI_add, iI_sub, iI_mul, iI_neg, iteLt, iteLe]
  refine ite_c (fun q => ?_) (fun q => ite_c (fun q => ?_) (fun q => ite_c (fun q => ?_) (fun q => ite_c (fun q => ?_) (fun q => ?_))))
  · rw [tb_f (by omega)]
  · rw [tb_f (by omega)]
  · rw [tb_f (by omega)]
  · rw [tb_f (by omega)]
  · rw [tb_t (by omega)]
theorem cut_cs (hW : WF A) {a : Int} (ha : 0 ≤ a ∧ a < A 64) : A (71 + 40 * a) = -4 ∧ cutv (A (71 + 40 * a)) = 0 ∨ ((1 ≤ A (71 + 40 * a) ∧ A (71 + 40 * a) ≤ 6) ∧ cutv (A (71 + 40 * a)) = A (71 + 40 * a)) := by
  have pc := hW.pc ha
  rcases hW.cu ha with q | q
  · left; exact ⟨q, by rw [q]; rfl⟩
  · right; exact ⟨by omega, by unfold cutv; rw [if_neg (by omega)]⟩
theorem C_isCut (hS : SAt h (X + 1) S) (hR : SRel A U F S) (hW : WF A) {a : Int} (ha : 0 ≤ a ∧ a < A 64) : f_X0_isCut (some (X + 1 + 4 + 6 * a.toNat)) h = some (tb (0 ≤ A (71 + 40 * a)), h) := by
  have hn := hW.n
  have m1 := hR.m1 a ha.1 ha.2
  have cc := cut_cs hW ha
  simp (disch := omega) only [f_X0_isCut, An1 hS, m1, Option.bind_some, z_b2_some, z_i1_some, iI_lit, iI_add, iI_sub, iI_mul, iI_neg, iteLe]
  refine ite_c (fun q => ?_) (fun q => ?_)
  · rw [tb_f (by omega)]
  · rw [tb_t (by omega)]
theorem K_head (hW : WF A) {a v : Int} (ha : rgI a) (hv : rgI v) : KS tS X m D Q U A (f_X10_head (some X) (iI a) (iI v)) (f_X11_head (some m) (iI a) (iI v)) := by
  have hn := hW.n
  by_cases c1 : 0 ≤ a ∧ a < A 64
  · by_cases c2 : 0 ≤ v ∧ v ≤ 3
    · refine ⟨iI (A (72 + 40 * a)), uI A (72 + 40 * a) v, fun h n F hX hT hQ hS => ?_, stR_go fun h Y hM => ⟨_, ?_, go1_ms hM (e := 72 + 40 * a) (v := v) (by omega) (by omega)⟩, WF_dig hW (dg_h (by omega)) c2, kX_uI _ _ (by omega)⟩
      · obtain ⟨S, s1, s2⟩ := hS
        have m2 := s2.m2 a c1.1 c1.2
        refine ⟨_, F, ?_, ⟨_, SAt_n s1 (i := a.toNat) (j := 2) (iI v) (by omega), SRel_head s2 hW c1⟩, fr_up (by omega) (by omega)⟩
        unfold f_X10_head
        rw [Xck hX, Option.bind_some, C_isArm hX s1 s2 hW ha, z_b2_some]
        simp only [iI_lit, iI_add, iI_sub, iI_mul, iI_neg]
        rw [ite_tb, if_pos c1, C_isDigit hv, z_b2_some, ite_tb, if_pos c2]
        simp (disch := omega) only [Xg0 hX, Option.bind_some, z_b2_some, z_i1_some, Sg3 s1, Sarm s1, An2 s1, m2, Ap2 s1]
      · unfold f_X11_head
        rw [Mck hM.1, Option.bind_some, R_isArm hM ha hn.1, z_b2_some]
        simp only [iI_lit, iI_add, iI_sub, iI_mul, iI_neg]
        unfold rgI at hv
        rw [ite_tb, if_pos c1, R_in2 (by omega), z_b2_some, ite_tb, if_pos c2]
        have e : 70 + 40 * a + 2 = 72 + 40 * a := by omega
        simp (disch := omega) only [Mg0 hM.1, Option.bind_some, z_b2_some, z_i1_some, R_of, e, M_all hM, M_set hM]
    · refine KS_no (iI (-1)) hW (fun h n F S hX hQ s1 s2 => ?_) (fun h Y hM => ?_)
      · unfold f_X10_head
        rw [Xck hX, Option.bind_some, C_isArm hX s1 s2 hW ha, z_b2_some]
        simp only [iI_lit, iI_add, iI_sub, iI_mul, iI_neg]
        rw [ite_tb, if_pos c1, C_isDigit hv, z_b2_some, ite_tb, if_neg c2]
      · unfold f_X11_head
        rw [Mck hM.1, Option.bind_some, R_isArm hM ha hn.1, z_b2_some]
        simp only [iI_lit, iI_add, iI_sub, iI_mul, iI_neg]
        unfold rgI at hv
        rw [ite_tb, if_pos c1, R_in2 (by omega), z_b2_some, ite_tb, if_neg c2]
  · refine KS_no (iI (-1)) hW (fun h n F S hX hQ s1 s2 => ?_) (fun h Y hM => ?_)
    · unfold f_X10_head
      rw [Xck hX, Option.bind_some, C_isArm hX s1 s2 hW ha, z_b2_some]
      simp only [iI_lit, iI_add, iI_sub, iI_mul, iI_neg]
      rw [ite_tb, if_neg c1]
    · unfold f_X11_head
      rw [Mck hM.1, Option.bind_some, R_isArm hM ha hn.1, z_b2_some]
      simp only [iI_lit, iI_add, iI_sub, iI_mul, iI_neg]
      rw [ite_tb, if_neg c1]
theorem K_skin (hW : WF A) {v : Int} (hv : rgI v) : KS tS X m D Q U A (f_X10_skin (some X) (iI v)) (f_X11_skin (some m) (iI v)) := by
  have hn := hW.n
  have hv' : -2147483648 ≤ v ∧ v < 2147483648 := hv
  by_cases c2 : 0 ≤ v ∧ v ≤ 3
  · refine ⟨iI (A 66), uI A 66 v, fun h n F hX hT hQ hS => ?_, stR_go fun h Y hM => ⟨_, ?_, go1_ms hM (e := 66) (v := v) (by omega) (by omega)⟩, ?_, kX_uI _ _ (by omega)⟩
    · obtain ⟨S, s1, s2⟩ := hS
      have s1' := SAt_o s1 (S' := sZ S 7 (iI v)) rfl rfl rfl rfl rfl
      refine ⟨_, F, ?_, ⟨_, s1', SRel_66 s2 hW v⟩, fr_up (by omega) (by omega)⟩
      unfold f_X10_skin
      rw [C_isDigit hv, z_b2_some]
      simp only [iI_lit, iI_add, iI_sub, iI_mul, iI_neg]
      rw [ite_tb, if_pos c2]
      simp (disch := omega) only [Xg0 hX, Option.bind_some, z_b2_some, z_i1_some, Sz7 s1, s2.n7, Sp7 s1]
    · unfold f_X11_skin
      simp only [iI_lit, iI_add, iI_sub, iI_mul, iI_neg]
      rw [R_in2 (by omega), z_b2_some, ite_tb, if_pos c2]
      simp (disch := omega) only [Mg0 hM.1, Option.bind_some, z_b2_some, z_i1_some, M_all hM, M_set hM]
    · exact WF_66 hW c2
  · refine KS_no (iI (-1)) hW (fun h n F S hX hQ s1 s2 => ?_) (fun h Y hM => ?_)
    · unfold f_X10_skin
      rw [C_isDigit hv, z_b2_some]
      simp only [iI_lit, iI_add, iI_sub, iI_mul, iI_neg]
      rw [ite_tb, if_neg c2]
    · unfold f_X11_skin
      simp only [iI_lit, iI_add, iI_sub, iI_mul, iI_neg]
      rw [R_in2 (by omega), z_b2_some, ite_tb, if_neg c2]
end KC
