/-! TURNS of a form's last piece -/
set_option maxRecDepth 100000 in
theorem mask_dec : ∀ (q : Fin 6) (d0 d1 d2 d3 d4 d5 : Fin 4), iI ((nm6 (D6 d0.val d1.val d2.val d3.val d4.val d5.val) : Nat) : Int) &&& ((iI 3 <<< (iI (2 * (q.val : Int)) &&& iI 31)) ^^^ iI (-1)) = iI ((nm6 (D6 d0.val d1.val d2.val d3.val d4.val d5.val) - D6 d0.val d1.val d2.val d3.val d4.val d5.val q.val * 4 ^ q.val : Nat) : Int) := by decide +kernel
theorem mask4 {f q : Nat} (hq : q ≤ 5) (hf : f < 4 ^ (q + 1)) : iI (f : Int) &&& ((iI 3 <<< (iI (2 * (q : Int)) &&& iI 31)) ^^^ iI (-1)) = iI ((f % 4 ^ q : Nat) : Int) := by
  have hf6 : f < 4096 := Nat.lt_of_lt_of_le hf (pow_le6 (by omega))
  have key := mask_dec ⟨q, by omega⟩ ⟨dgf f 0, dgf_lt _ _⟩ ⟨dgf f 1, dgf_lt _ _⟩ ⟨dgf f 2, dgf_lt _ _⟩ ⟨dgf f 3, dgf_lt _ _⟩ ⟨dgf f 4, dgf_lt _ _⟩ ⟨dgf f 5, dgf_lt _ _⟩
  have e1 : nm6 (D6 (dgf f 0) (dgf f 1) (dgf f 2) (dgf f 3) (dgf f 4) (dgf f 5)) = f := by
    rw [nm6_cg (g' := dgf f) (fun j hj => D6_eq _ hj), nm6_dgf hf6]
  simp only at key
  rw [e1, D6_eq _ (show q < 6 by omega)] at key
  rw [key]
  congr 2
  have e2 : dgf f q = f / 4 ^ q := by
    unfold dgf
    rw [Nat.mod_eq_of_lt ((Nat.div_lt_iff_lt_mul (pow4_pos q)).mpr (by rw [Nat.pow_succ, Nat.mul_comm] at hf; exact hf))]
  rw [e2]
  have := Nat.div_add_mod f (4 ^ q)
  rw [Nat.mul_comm] at this
  omega
def tnf (f q s : Nat) : Nat := f % 4 ^ q + s * 4 ^ q
theorem turn_bits {f q s : Nat} (hq : q ≤ 5) (hf : f < 4 ^ (q + 1)) (hs : s < 4) : (iI (f : Int) &&& ((iI 3 <<< (iI (2 * (q : Int)) &&& iI 31)) ^^^ iI (-1))) ||| (iI (s : Int) <<< (iI (2 * (q : Int)) &&& iI 31)) = iI ((tnf f q s : Nat) : Int) := by
  rw [mask4 hq hf, or4 (Nat.mod_lt _ (pow4_pos q)) hs hq]; rfl
/-! PATHS -/
def pth (c0 : Int) (f : Nat) : Nat → Int
  | 0 => c0
  | p + 1 => bes (pth c0 f p) ((dgf f p : Nat) : Int)
def inP (c0 : Int) (N f : Nat) (c : Int) : Prop := ∃ p, p < N ∧ pth c0 f p = c
def Ow (w : Int64) (c0 : Int) (N f0 : Nat) (c : Int) : Prop := (0 ≤ c ∧ c < 64 ∧ bt w c.toNat = true) ∧ ¬ inP c0 N f0 c
def VF (w : Int64) (c0 : Int) (N f0 f : Nat) : Prop := f < 4 ^ (N - 1) ∧ (∀ p, p < N → (0 ≤ pth c0 f p ∧ pth c0 f p < 64) ∧ ¬ Ow w c0 N f0 (pth c0 f p)) ∧ ∀ p q, p < N → q < N → pth c0 f p = pth c0 f q → p = q
def usd (w : Int64) (c0 : Int) (N f0 f : Nat) (c : Int) : Prop := Ow w c0 N f0 c ∨ inP c0 N f c
/-- a flip (of piece p + 1), a turn: the form that comes of it -/
noncomputable def fl (w : Int64) (c0 : Int) (N f0 f p : Nat) : Option Nat := @ite _ ((dgf f p + dgf f (p + 1)) % 2 = 1 ∧ ¬ usd w c0 N f0 f (bes (pth c0 f p) ((dgf f (p + 1) : Nat) : Int))) (Classical.propDecidable _) (some (swp f p)) none
noncomputable def tn (w : Int64) (c0 : Int) (N f0 f s : Nat) : Option Nat := @ite _ (0 ≤ bes (pth c0 f (N - 2)) (s : Int) ∧ ¬ usd w c0 N f0 f (bes (pth c0 f (N - 2)) (s : Int))) (Classical.propDecidable _) (some (tnf f (N - 2) s)) none
theorem pth_cg {c0 : Int} {f f' : Nat} : ∀ p, (∀ j, j < p → dgf f j = dgf f' j) → pth c0 f p = pth c0 f' p
  | 0, _ => rfl
  | p + 1, h => by
    simp only [pth]
    rw [pth_cg p (fun j hj => h j (by omega)), h p (by omega)]
theorem corner {one s s' : Int} (h1 : 0 ≤ one) (h2 : one < 64) (g1 : 0 ≤ s ∧ s ≤ 3) (g2 : 0 ≤ s' ∧ s' ≤ 3) (k1 : 0 ≤ bes one s) (k2 : 0 ≤ bes (bes one s) s') : ((one % 8 - bes (bes one s) s' % 8) * (one % 8 - bes (bes one s) s' % 8) = 1 ∧ (one / 8 - bes (bes one s) s' / 8) * (one / 8 - bes (bes one s) s' / 8) = 1) ↔ (s + s') % 2 = 1 := by
  have key : ∀ n : Fin 64, ∀ s s' : Fin 4, 0 ≤ bes ((n.val : Nat) : Int) ((s.val : Nat) : Int) → 0 ≤ bes (bes ((n.val : Nat) : Int) ((s.val : Nat) : Int)) ((s'.val : Nat) : Int) → (((((n.val : Nat) : Int) % 8 - (bes (bes ((n.val : Nat) : Int) ((s.val : Nat) : Int)) ((s'.val : Nat) : Int)) % 8) * (((n.val : Nat) : Int) % 8 - (bes (bes ((n.val : Nat) : Int) ((s.val : Nat) : Int)) ((s'.val : Nat) : Int)) % 8) = 1 ∧ (((n.val : Nat) : Int) / 8 - (bes (bes ((n.val : Nat) : Int) ((s.val : Nat) : Int)) ((s'.val : Nat) : Int)) / 8) * (((n.val : Nat) : Int) / 8 - (bes (bes ((n.val : Nat) : Int) ((s.val : Nat) : Int)) ((s'.val : Nat) : Int)) / 8) = 1) ↔ (((s.val : Nat) : Int) + ((s'.val : Nat) : Int)) % 2 = 1) := by decide +kernel
  have := key ⟨one.toNat, by omega⟩ ⟨s.toNat, by omega⟩ ⟨s'.toNat, by omega⟩
  simp only [Int.toNat_of_nonneg h1, Int.toNat_of_nonneg g1.1, Int.toNat_of_nonneg g2.1] at this
  exact this k1 k2
section BF1
variable {w : Int64} {c0 : Int} {N f0 f : Nat}
theorem swp_dgf {p : Nat} (hp : p < 5) {j : Nat} (hj : j < 6) : dgf (swp f p) j = sw (dgf f) p j := by
  unfold swp
  refine dgf6 (fun i hi => ?_) hj
  unfold sw
  split
  · exact dgf_lt _ _
  · split
    · exact dgf_lt _ _
    · exact dgf_lt _ _
theorem swp_lt {p : Nat} (hN : 2 ≤ N ∧ N ≤ 7) (hp : p + 2 < N) (hf : f < 4 ^ (N - 1)) : swp f p < 4 ^ (N - 1) := by
  have e : swp f p = nmK (sw (dgf f) p) (N - 1) := by
    unfold swp
    rw [nmK_nm6 (by omega)]
    intro j h1 h2
    unfold sw
    rw [if_neg (by omega), if_neg (by omega)]
    exact dgf_0 hf h1
  rw [e]
  refine nmK_lt _ (fun j hj => ?_)
  unfold sw
  split
  · exact dgf_lt _ _
  · split
    · exact dgf_lt _ _
    · exact dgf_lt _ _
/-- the path behind a flip: one cell is another -/
theorem pth_swp {p : Nat} (hN : 2 ≤ N ∧ N ≤ 7) (hp : p + 2 < N) (hV : VF w c0 N f0 f) (hodd : (dgf f p + dgf f (p + 1)) % 2 = 1) : pth c0 (swp f p) (p + 1) = bes (pth c0 f p) ((dgf f (p + 1) : Nat) : Int) ∧ (0 ≤ bes (pth c0 f p) ((dgf f (p + 1) : Nat) : Int) ∧ bes (pth c0 f p) ((dgf f (p + 1) : Nat) : Int) < 64) ∧ (∀ j, j < N → j ≠ p + 1 → pth c0 (swp f p) j = pth c0 f j) ∧ bes (bes (pth c0 f p) ((dgf f (p + 1) : Nat) : Int)) ((dgf f p : Nat) : Int) = pth c0 f (p + 2) := by
  have v0 := (hV.2.1 p (by omega)).1
  have v1 := (hV.2.1 (p + 1) (by omega)).1
  have v2 := (hV.2.1 (p + 2) (by omega)).1
  have dp := dgf_lt f p
  have dq := dgf_lt f (p + 1)
  have co := (corner v0.1 v0.2 (s := ((dgf f p : Nat) : Int)) (s' := ((dgf f (p + 1) : Nat) : Int)) (by omega) (by omega) v1.1 v2.1).mpr (by omega)
  have ac := across v0.1 v0.2 (s := ((dgf f p : Nat) : Int)) (s' := ((dgf f (p + 1) : Nat) : Int)) (by omega) (by omega) rfl rfl v1.1 v2.1 co
  have e1 : bes (pth c0 f p) ((dgf f (p + 1) : Nat) : Int) = pth c0 f p + pth c0 f (p + 2) - pth c0 f (p + 1) := ac.2.2.1
  have e2 : bes (pth c0 f p + pth c0 f (p + 2) - pth c0 f (p + 1)) ((dgf f p : Nat) : Int) = pth c0 f (p + 2) := ac.2.2.2
  have pp : pth c0 (swp f p) p = pth c0 f p := pth_cg p (fun j hj => by rw [swp_dgf (by omega) (by omega)]; unfold sw; rw [if_neg (by omega), if_neg (by omega)])
  have p1 : pth c0 (swp f p) (p + 1) = bes (pth c0 f p) ((dgf f (p + 1) : Nat) : Int) := by
    simp only [pth]
    rw [pp, swp_dgf (by omega) (by omega)]
    unfold sw
    rw [if_pos rfl]
  have p2 : pth c0 (swp f p) (p + 2) = pth c0 f (p + 2) := by
    show bes (pth c0 (swp f p) (p + 1)) ((dgf (swp f p) (p + 1) : Nat) : Int) = _
    rw [p1, swp_dgf (by omega) (by omega)]
    unfold sw
    rw [if_neg (by omega), if_pos rfl, e1, e2]
  refine ⟨p1, by rw [e1]; exact ac.2.1, ?_, by rw [e1]; exact e2⟩
  intro j hj hne
  by_cases q : j ≤ p
  · exact pth_cg j (fun i hi => by rw [swp_dgf (by omega) (by omega)]; unfold sw; rw [if_neg (by omega), if_neg (by omega)])
  · have : ∀ d, p + 2 + d < N → pth c0 (swp f p) (p + 2 + d) = pth c0 f (p + 2 + d) := by
      intro d
      induction d with
      | zero => intro _; exact p2
      | succ d ih =>
        intro hd
        show bes (pth c0 (swp f p) (p + 2 + d)) ((dgf (swp f p) (p + 2 + d) : Nat) : Int) = bes (pth c0 f (p + 2 + d)) ((dgf f (p + 2 + d) : Nat) : Int)
        rw [ih (by omega), swp_dgf (by omega) (by omega)]
        unfold sw
        rw [if_neg (by omega), if_neg (by omega)]
    have h2 := this (j - (p + 2)) (by omega)
    rwa [show p + 2 + (j - (p + 2)) = j by omega] at h2
theorem VF_fl {p f' : Nat} (hN : 2 ≤ N ∧ N ≤ 7) (hp : p + 2 < N) (hV : VF w c0 N f0 f) (hf : fl w c0 N f0 f p = some f') : VF w c0 N f0 f' := by
  unfold fl at hf
  by_cases q : (dgf f p + dgf f (p + 1)) % 2 = 1 ∧ ¬ usd w c0 N f0 f (bes (pth c0 f p) ((dgf f (p + 1) : Nat) : Int))
  · rw [if_pos q] at hf
    cases hf
    obtain ⟨e1, e2, e3, e4⟩ := pth_swp hN hp hV q.1
    have key : ∀ j, j < N → j ≠ p + 1 → pth c0 (swp f p) j ≠ pth c0 (swp f p) (p + 1) := by
      intro j hj hne e
      rw [e3 j hj hne, e1] at e
      exact q.2 (Or.inr ⟨j, hj, e⟩)
    refine ⟨swp_lt hN hp hV.1, fun j hj => ?_, fun i j hi hj e => ?_⟩
    · by_cases ej : j = p + 1
      · subst ej; rw [e1]; exact ⟨e2, fun o => q.2 (Or.inl o)⟩
      · rw [e3 j hj ej]; exact hV.2.1 j hj
    · by_cases ei : i = p + 1
      · by_cases ej : j = p + 1
        · omega
        · subst ei; exact absurd e.symm (key j hj ej)
      · by_cases ej : j = p + 1
        · subst ej; exact absurd e (key i hi ei)
        · rw [e3 i hi ei, e3 j hj ej] at e
          exact hV.2.2 i j hi hj e
  · rw [if_neg q] at hf; cases hf
theorem tnf_dgf {q s j : Nat} (hs : s < 4) (hj : j ≤ q) : dgf (tnf f q s) j = if j = q then s else dgf f j := by
  unfold dgf tnf
  by_cases e : j = q
  · subst e
    rw [if_pos rfl, Nat.add_mul_div_right _ _ (pow4_pos j), Nat.div_eq_of_lt (Nat.mod_lt _ (pow4_pos j))]
    omega
  · rw [if_neg e]
    have h1 : 4 ^ q = 4 ^ j * (4 * 4 ^ (q - j - 1)) := by
      rw [show 4 * 4 ^ (q - j - 1) = 4 ^ (q - j) by rw [← Nat.pow_succ', show (q - j - 1).succ = q - j by omega], ← Nat.pow_add, show j + (q - j) = q by omega]
    rw [h1, Nat.mul_comm s, Nat.mul_assoc, Nat.add_mul_div_left _ _ (pow4_pos j), Nat.mod_mul_right_div_self]
    rw [Nat.mul_assoc, Nat.add_mul_mod_self_left, Nat.mod_mul_right_mod]
theorem tnf_lt {q s : Nat} (hs : s < 4) : tnf f q s < 4 ^ (q + 1) := by
  unfold tnf
  have := Nat.mod_lt f (pow4_pos q)
  have : s * 4 ^ q ≤ 3 * 4 ^ q := Nat.mul_le_mul_right _ (by omega)
  rw [Nat.pow_succ]
  omega
theorem pth_tnf {s : Nat} (hN : 2 ≤ N ∧ N ≤ 7) (hs : s < 4) : pth c0 (tnf f (N - 2) s) (N - 1) = bes (pth c0 f (N - 2)) (s : Int) ∧ ∀ j, j < N - 1 → pth c0 (tnf f (N - 2) s) j = pth c0 f j := by
  have e : ∀ j, j < N - 1 → pth c0 (tnf f (N - 2) s) j = pth c0 f j := fun j hj => pth_cg j (fun i hi => by rw [tnf_dgf hs (by omega), if_neg (by omega)])
  refine ⟨?_, e⟩
  have e1 : N - 1 = (N - 2) + 1 := by omega
  rw [e1]
  simp only [pth]
  rw [e (N - 2) (by omega), tnf_dgf hs (Nat.le_refl _), if_pos rfl]
theorem VF_tn {s f' : Nat} (hN : 2 ≤ N ∧ N ≤ 7) (hs : s < 4) (hV : VF w c0 N f0 f) (hf : tn w c0 N f0 f s = some f') : VF w c0 N f0 f' := by
  unfold tn at hf
  by_cases q : 0 ≤ bes (pth c0 f (N - 2)) (s : Int) ∧ ¬ usd w c0 N f0 f (bes (pth c0 f (N - 2)) (s : Int))
  · rw [if_pos q] at hf
    cases hf
    obtain ⟨e1, e3⟩ := pth_tnf (c0 := c0) (f := f) hN hs
    have v0 := (hV.2.1 (N - 2) (by omega)).1
    have r := bes_rg (s := (s : Int)) v0.1 v0.2
    have key : ∀ j, j < N - 1 → pth c0 (tnf f (N - 2) s) j ≠ pth c0 (tnf f (N - 2) s) (N - 1) := by
      intro j hj e
      rw [e3 j hj, e1] at e
      exact q.2 (Or.inr ⟨j, by omega, e⟩)
    refine ⟨by have := tnf_lt (f := f) (q := N - 2) hs; rwa [show N - 2 + 1 = N - 1 by omega] at this, fun j hj => ?_, fun i j hi hj e => ?_⟩
    · by_cases ej : j = N - 1
      · subst ej; rw [e1]; exact ⟨by omega, fun o => q.2 (Or.inl o)⟩
      · rw [e3 j (by omega)]; exact hV.2.1 j hj
    · by_cases ei : i = N - 1
      · by_cases ej : j = N - 1
        · omega
        · subst ei; exact absurd e.symm (key j (by omega))
      · by_cases ej : j = N - 1
        · subst ej; exact absurd e (key i (by omega))
        · rw [e3 i (by omega), e3 j (by omega)] at e
          exact hV.2.2 i j hi hj e
  · rw [if_neg q] at hf; cases hf
end BF1
