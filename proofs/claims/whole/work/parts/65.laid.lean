/-! AN ARM LAID OUT -/
noncomputable def lyd (A : Int → Int) (a : Int) (f : Nat) : Int → Int := fun j => if 75 + 40 * a ≤ j ∧ j < 75 + 40 * a + A (70 + 40 * a) then pth (A (75 + 40 * a)) f (j - (75 + 40 * a)).toNat else A j
noncomputable def wA (A : Int → Int) : Int64 := bset (fun c => A c = 1) ||| bset (hasP A)
def oth (A : Int → Int) (a c : Int) : Prop := A c = 1 ∨ ∃ a' p', a' ≠ a ∧ vP A a' p' ∧ A (75 + 40 * a' + p') = c
noncomputable def fmA (A : Int → Int) (a : Int) : Nat := nmK (fun k => (sideTo (A (75 + 40 * a + (k : Int))) (A (75 + 40 * a + ((k : Int) + 1)))).toNat) (A (70 + 40 * a) - 1).toNat
section LY
variable {A : Int → Int} {a : Int}
theorem lyd_c {f : Nat} {p : Int} (h1 : 0 ≤ p) (h2 : p < A (70 + 40 * a)) : lyd A a f (75 + 40 * a + p) = pth (A (75 + 40 * a)) f p.toNat := by
  unfold lyd
  rw [if_pos (by omega)]
  congr 1; omega
theorem lyd_n {f : Nat} {j : Int} (h : j < 75 + 40 * a ∨ 75 + 40 * a + A (70 + 40 * a) ≤ j) : lyd A a f j = A j := by
  unfold lyd
  rw [if_neg (by omega)]
/-- an uncut arm has a form, and lies as that says -/
theorem fmA_ok (hW : WF A) (ha : 0 ≤ a ∧ a < A 64) (hcut : A (71 + 40 * a) < 0) : (∀ k : Nat, (k : Int) + 1 < A (70 + 40 * a) → (0 ≤ sideTo (A (75 + 40 * a + (k : Int))) (A (75 + 40 * a + ((k : Int) + 1))) ∧ sideTo (A (75 + 40 * a + (k : Int))) (A (75 + 40 * a + ((k : Int) + 1))) ≤ 3) ∧ bes (A (75 + 40 * a + (k : Int))) (sideTo (A (75 + 40 * a + (k : Int))) (A (75 + 40 * a + ((k : Int) + 1)))) = A (75 + 40 * a + ((k : Int) + 1)) ∧ dgf (fmA A a) k = (sideTo (A (75 + 40 * a + (k : Int))) (A (75 + 40 * a + ((k : Int) + 1)))).toNat) ∧ fmA A a < 4 ^ ((A (70 + 40 * a)).toNat - 1) ∧ ∀ p : Nat, (p : Int) < A (70 + 40 * a) → pth (A (75 + 40 * a)) (fmA A a) p = A (75 + 40 * a + (p : Int)) := by
  have pc := hW.pc ha
  have sd : ∀ k : Nat, (k : Int) + 1 < A (70 + 40 * a) → (0 ≤ sideTo (A (75 + 40 * a + (k : Int))) (A (75 + 40 * a + ((k : Int) + 1))) ∧ sideTo (A (75 + 40 * a + (k : Int))) (A (75 + 40 * a + ((k : Int) + 1))) ≤ 3) ∧ bes (A (75 + 40 * a + (k : Int))) (sideTo (A (75 + 40 * a + (k : Int))) (A (75 + 40 * a + ((k : Int) + 1)))) = A (75 + 40 * a + ((k : Int) + 1)) := by
    intro k hk
    have c1 := hW.ce (a := a) (p := (k : Int)) ⟨ha, by omega, by omega⟩
    have c2 := hW.ce (a := a) (p := (k : Int) + 1) ⟨ha, by omega, by omega⟩
    obtain ⟨s, hs, e⟩ := hW.ad (a := a) (p := (k : Int) + 1) ⟨ha, by omega, by omega⟩ (by omega) (by omega)
    rw [show (k : Int) + 1 - 1 = (k : Int) by omega] at e
    have sa := (side_adj c1.1 c1.2 hs.1 hs.2 (by rw [← e]; exact c2.1)).1
    rw [← e] at sa
    rw [sa]
    exact ⟨hs, e.symm⟩
  have dg : ∀ k : Nat, (k : Int) + 1 < A (70 + 40 * a) → dgf (fmA A a) k = (sideTo (A (75 + 40 * a + (k : Int))) (A (75 + 40 * a + ((k : Int) + 1)))).toNat := by
    intro k hk
    have e : fmA A a = nm6 (fun j => if (j : Int) + 1 < A (70 + 40 * a) then (sideTo (A (75 + 40 * a + (j : Int))) (A (75 + 40 * a + ((j : Int) + 1)))).toNat else 0) := by
      rw [← nmK_nm6 (k := (A (70 + 40 * a) - 1).toNat) (by omega) (fun j h1 h2 => if_neg (by omega))]
      unfold fmA
      exact nmK_cg _ (fun j hj => by rw [if_pos (by omega)])
    rw [e, dgf6 (fun j hj => ?_) (by omega), if_pos hk]
    split
    · rename_i q
      have := (sd j q).1
      omega
    · omega
  refine ⟨fun k hk => ⟨(sd k hk).1, (sd k hk).2, dg k hk⟩, ?_, ?_⟩
  · unfold fmA
    have := nmK_lt (g := fun k : Nat => (sideTo (A (75 + 40 * a + (k : Int))) (A (75 + 40 * a + ((k : Int) + 1)))).toNat) (A (70 + 40 * a) - 1).toNat (fun j hj => by
      have := (sd j (by omega)).1
      omega)
    rwa [show (A (70 + 40 * a) - 1).toNat = (A (70 + 40 * a)).toNat - 1 by omega] at this ⊢
  · intro p
    induction p with
    | zero => intro _; simp [pth]
    | succ p ih =>
      intro hp
      simp only [pth]
      rw [ih (by omega), dg p (by omega), Int.toNat_of_nonneg (sd p (by omega)).1.1, (sd p (by omega)).2]
      rfl
theorem Ow_oth (hW : WF A) (ha : 0 ≤ a ∧ a < A 64) (hcut : A (71 + 40 * a) < 0) {c : Int} (hc : 0 ≤ c ∧ c < 64) : Ow (wA A) (A (75 + 40 * a)) (A (70 + 40 * a)).toNat (fmA A a) c ↔ oth A a c := by
  have pc := hW.pc ha
  have ok := (fmA_ok hW ha hcut).2.2
  have hb : bt (wA A) c.toNat = true ↔ (A c = 1 ∨ hasP A c) := by
    unfold wA
    rw [bset_or, bt_bset _ (by omega)]
    rw [Int.toNat_of_nonneg hc.1]
  unfold Ow
  rw [hb]
  constructor
  · rintro ⟨⟨-, -, h1⟩, h2⟩
    rcases h1 with h1 | ⟨a', p', k1, k2⟩
    · exact Or.inl h1
    · refine Or.inr ⟨a', p', fun e => h2 ?_, k1, k2⟩
      subst e
      have k3 := k1.2
      exact ⟨p'.toNat, by omega, by rw [ok _ (by omega), Int.toNat_of_nonneg k3.1]; exact k2⟩
  · intro h
    refine ⟨⟨hc.1, hc.2, ?_⟩, ?_⟩
    · rcases h with h | ⟨a', p', -, k1, k2⟩
      · exact Or.inl h
      · exact Or.inr ⟨a', p', k1, k2⟩
    · rintro ⟨p, hp, e⟩
      rw [ok p (by omega)] at e
      have hv : vP A a (p : Int) := ⟨ha, by omega, by omega⟩
      rcases h with h | ⟨a', p', k0, k1, k2⟩
      · have := hW.pw hv
        rw [e] at this
        omega
      · exact k0 (hW.d k1 hv (k2.trans e.symm)).1
theorem VF0 (hW : WF A) (ha : 0 ≤ a ∧ a < A 64) (hcut : A (71 + 40 * a) < 0) : VF (wA A) (A (75 + 40 * a)) (A (70 + 40 * a)).toNat (fmA A a) (fmA A a) := by
  have pc := hW.pc ha
  obtain ⟨-, h1, ok⟩ := fmA_ok hW ha hcut
  refine ⟨h1, fun p hp => ⟨?_, fun o => o.2 ⟨p, hp, rfl⟩⟩, fun p q hp hq e => ?_⟩
  · rw [ok p (by omega)]; exact hW.ce ⟨ha, by omega, by omega⟩
  · rw [ok p (by omega), ok q (by omega)] at e
    have := (hW.d (a := a) (p := (p : Int)) (a' := a) (p' := (q : Int)) ⟨ha, by omega, by omega⟩ ⟨ha, by omega, by omega⟩ e).2
    omega
theorem lyd_0 (hW : WF A) (ha : 0 ≤ a ∧ a < A 64) (hcut : A (71 + 40 * a) < 0) : lyd A a (fmA A a) = A := by
  obtain ⟨-, h1, ok⟩ := fmA_ok hW ha hcut
  funext j
  unfold lyd
  split
  · rename_i q
    rw [ok _ (by omega)]
    congr 1; omega
  · rfl
theorem lyd_vP (hW : WF A) (ha : 0 ≤ a ∧ a < A 64) {f : Nat} (a' p' : Int) : vP (lyd A a f) a' p' ↔ vP A a' p' := by
  have hn := hW.n
  have pc := hW.pc ha
  exact vP_cg (lyd_n (by omega)) hn.1.2 (fun x h1 h2 => lyd_n (by omega)) a' p'
theorem lyd_hasP (hW : WF A) (ha : 0 ≤ a ∧ a < A 64) {f : Nat} (c : Int) : hasP (lyd A a f) c ↔ (∃ a' p', a' ≠ a ∧ vP A a' p' ∧ A (75 + 40 * a' + p') = c) ∨ inP (A (75 + 40 * a)) (A (70 + 40 * a)).toNat f c := by
  have hn := hW.n
  have pc := hW.pc ha
  constructor
  · rintro ⟨a', p', h1, h2⟩
    rw [lyd_vP hW ha] at h1
    have v := hW.vp h1
    have h3 := h1.2
    by_cases e : a' = a
    · subst e
      rw [lyd_c h3.1 h3.2] at h2
      exact Or.inr ⟨p'.toNat, by omega, h2⟩
    · have pc' := hW.pc h1.1
      rw [lyd_n (by omega)] at h2
      exact Or.inl ⟨a', p', e, h1, h2⟩
  · rintro (⟨a', p', h0, h1, h2⟩ | ⟨p, h1, h2⟩)
    · have v := hW.vp h1
      exact ⟨a', p', (lyd_vP hW ha a' p').mpr h1, by rw [lyd_n (by omega)]; exact h2⟩
    · exact ⟨a, (p : Int), (lyd_vP hW ha a _).mpr ⟨ha, by omega, by omega⟩, by rw [lyd_c (by omega) (by omega), show (p : Int).toNat = p by omega]; exact h2⟩
theorem lyd_free (hW : WF A) (ha : 0 ≤ a ∧ a < A 64) (hcut : A (71 + 40 * a) < 0) {f : Nat} {c : Int} (hc : c < 64) : free (lyd A a f) c ↔ 0 ≤ c ∧ ¬ usd (wA A) (A (75 + 40 * a)) (A (70 + 40 * a)).toNat (fmA A a) f c := by
  have hn := hW.n
  have pc := hW.pc ha
  unfold free usd
  constructor
  · rintro ⟨h0, h1, h2⟩
    refine ⟨h0, fun o => ?_⟩
    rw [lyd_n (by omega)] at h1
    rw [Ow_oth hW ha hcut ⟨h0, hc⟩] at o
    rw [lyd_hasP hW ha] at h2
    rcases o with (o | o) | o
    · omega
    · exact h2 (Or.inl o)
    · exact h2 (Or.inr o)
  · rintro ⟨h0, h1⟩
    rw [Ow_oth hW ha hcut ⟨h0, hc⟩] at h1
    refine ⟨h0, ?_, fun o => h1 ?_⟩
    · rw [lyd_n (by omega)]
      rcases hW.w h0 hc with e | e
      · exact e
      · exact absurd (Or.inl (Or.inl e)) h1
    · rw [lyd_hasP hW ha] at o
      rcases o with o | o
      · exact Or.inl (Or.inr o)
      · exact Or.inr o
theorem lyd_WF (hW : WF A) (ha : 0 ≤ a ∧ a < A 64) (hcut : A (71 + 40 * a) < 0) {f : Nat} (hV : VF (wA A) (A (75 + 40 * a)) (A (70 + 40 * a)).toNat (fmA A a) f) : WF (lyd A a f) := by
  have hn := hW.n
  have pc := hW.pc ha
  have ce : ∀ p : Int, 0 ≤ p → p < A (70 + 40 * a) → (0 ≤ pth (A (75 + 40 * a)) f p.toNat ∧ pth (A (75 + 40 * a)) f p.toNat < 64) ∧ ¬ oth A a (pth (A (75 + 40 * a)) f p.toNat) := by
    intro p h1 h2
    obtain ⟨k1, k2⟩ := hV.2.1 p.toNat (by omega)
    exact ⟨k1, fun o => k2 ((Ow_oth hW ha hcut k1).mpr o)⟩
  refine ⟨?_, fun c g1 g2 => ?_, fun a' g1 g2 => ?_, fun t g1 g2 => ?_, fun a1 p1 a2 p2 k1 k2 e => ?_, fun t t' c k1 k2 => ?_⟩
  · rw [lyd_n (by omega), lyd_n (by omega), lyd_n (by omega)]; exact hn
  · rw [lyd_n (by omega)]; exact hW.w g1 g2
  · rw [lyd_n (by omega)] at g2
    have wa := hW.a ⟨g1, g2⟩
    have pc' := hW.pc ⟨g1, g2⟩
    unfold WA
    rw [lyd_n (j := 70 + 40 * a') (by omega), lyd_n (j := 71 + 40 * a') (by omega), lyd_n (j := 72 + 40 * a') (by omega), lyd_n (j := 65) (by omega)]
    refine ⟨wa.1, wa.2.1, wa.2.2.1, fun p k1 k2 => ?_, fun p k1 k2 k3 => ?_⟩
    · have w := wa.2.2.2.1 p k1 k2
      have w1 := w.1
      have ho := hW.ho (a := a') (p := p) ⟨⟨g1, g2⟩, k1, k2⟩
      rw [lyd_n (j := 82 + 40 * a' + p) (by omega), lyd_n (j := 96 + 40 * a' + p) (by omega), lyd_n (j := 89 + 40 * a' + p) (by omega)]
      refine ⟨?_, w.2.1, w.2.2.1, ?_, ?_⟩
      · by_cases e : a' = a
        · subst e; rw [lyd_c k1 k2]; exact (ce p k1 k2).1
        · rw [lyd_n (by omega)]; exact w.1
      · by_cases e : a' = a
        · subst e
          have c := ce p k1 k2
          rw [lyd_c k1 k2, lyd_n (by omega)]
          rcases hW.w c.1.1 c.1.2 with q | q
          · exact q
          · exact absurd (Or.inl q) c.2
        · rw [lyd_n (j := 75 + 40 * a' + p) (by omega), lyd_n (by omega)]; exact w.2.2.2.1
      · rcases ho with h4 | h4
        · exact Or.inl h4
        · right
          rw [lyd_n (by omega), lyd_n (by omega)]
          exact h4
    · by_cases e : a' = a
      · subst e
        refine ⟨((dgf f (p - 1).toNat : Nat) : Int), by have := dgf_lt f (p - 1).toNat; omega, ?_⟩
        rw [lyd_c (by omega) k2, lyd_c (by omega) (by omega), show p.toNat = (p - 1).toNat + 1 by omega]
        rfl
      · rw [lyd_n (by omega), lyd_n (by omega)]
        exact wa.2.2.2.2 p k1 k2 k3
  · rw [lyd_n (by omega)] at g2
    have w := hW.t ⟨g1, g2⟩
    have w2 := w.2.1
    unfold WT
    rw [lyd_n (j := 490 + 4 * t) (by omega), lyd_n (j := 491 + 4 * t) (by omega), lyd_n (j := 492 + 4 * t) (by omega), lyd_n (j := 493 + 4 * t) (by omega), lyd_n (j := A (491 + 4 * t)) (by omega), lyd_n (j := 64) (by omega)]
    refine ⟨w.1, w.2.1, w.2.2.1, w.2.2.2.1, fun q => ?_, w.2.2.2.2.2⟩
    obtain ⟨a', p', k1, k2, k3⟩ := w.2.2.2.2.1 q
    have v2 := hW.vp k1
    exact ⟨a', p', (lyd_vP hW ha a' p').mpr k1, k2, by rw [lyd_n (by omega)]; exact k3⟩
  · rw [lyd_vP hW ha] at k1 k2
    have v1 := hW.vp k1
    have v2 := hW.vp k2
    have q1 := k1.2
    have q2 := k2.2
    by_cases e1 : a1 = a
    · by_cases e2 : a2 = a
      · subst e1; subst e2
        rw [lyd_c q1.1 q1.2, lyd_c q2.1 q2.2] at e
        have := hV.2.2 p1.toNat p2.toNat (by omega) (by omega) e
        exact ⟨rfl, by omega⟩
      · subst e1
        rw [lyd_c q1.1 q1.2, lyd_n (by omega)] at e
        exact absurd (Or.inr ⟨a2, p2, e2, k2, e.symm⟩) (ce p1 q1.1 q1.2).2
    · by_cases e2 : a2 = a
      · subst e2
        rw [lyd_c q2.1 q2.2, lyd_n (by omega)] at e
        exact absurd (Or.inr ⟨a1, p1, e1, k1, e⟩) (ce p2 q2.1 q2.2).2
      · rw [lyd_n (by omega), lyd_n (by omega)] at e
        exact hW.d k1 k2 e
  · have hc := ly_cg (A' := lyd A a f) (lyd_n (by omega)) hn.2.1.2 (fun j h1 h2 => lyd_n (by omega))
    exact hW.l ((hc t c).mp k1) ((hc t' c).mp k2)
end LY
