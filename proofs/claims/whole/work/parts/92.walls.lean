section WL
variable {X m : Nat} {U : Int → Option Nat} {A : Int → Int} {ln le : Nat → Int} {it : Nat → Nat → Int32}
noncomputable def wlA (g : Nat → Int32) (A : Int → Int) : Int → Int := fun j => if 0 ≤ j ∧ j < 64 then (if g j.toNat = iI 1 then 1 else 0) else A j
theorem wlA_n {g : Nat → Int32} {j : Int} (hj : ¬ (0 ≤ j ∧ j < 64)) : wlA g A j = A j := if_neg hj
theorem wlA_1 {g : Nat → Int32} {j : Int} (hj : 0 ≤ j ∧ j < 64) : (wlA g A j = 1) ↔ g j.toNat = iI 1 := by
  unfold wlA
  rw [if_pos hj]
  by_cases q : g j.toNat = iI 1
  · rw [if_pos q]; exact ⟨fun _ => q, fun _ => rfl⟩
  · rw [if_neg q]; exact ⟨fun e => absurd e (by omega), fun e => absurd e q⟩
theorem wlA_0 {g : Nat → Int32} {j : Int} (hj : 0 ≤ j ∧ j < 64) (q : ¬ g j.toNat = iI 1) : wlA g A j = 0 := by
  unfold wlA
  rw [if_pos hj, if_neg q]
def busy (A : Int → Int) (g : Nat → Int32) (c : Int) : Prop := g c.toNat = iI 1 ∧ (hasP A c ∨ ∃ t, ly A t c)
theorem WF_walls (hW : WF A) {g : Nat → Int32} (hb : ∀ c, 0 ≤ c → c < 64 → ¬ busy A g c) : WF (wlA g A) := by
  have hn := hW.n
  refine WF_wc hW (fun j hj => wlA_n (by have := hj.2.2.1; omega)) (by rw [wlA_n (by omega)]; exact hn.2.2) (fun c g1 g2 => ?_) (fun a p hv => ?_) (fun t g1 g2 g3 => ?_) (fun a g1 g2 => Or.inl (wlA_n (by omega)))
  · by_cases q : g c.toNat = iI 1
    · exact Or.inr ((wlA_1 ⟨g1, g2⟩).mpr q)
    · exact Or.inl (wlA_0 ⟨g1, g2⟩ q)
  · have ce := hW.ce hv
    exact wlA_0 ce (fun q => hb _ ce.1 ce.2 ⟨q, Or.inl ⟨a, p, hv, rfl⟩⟩)
  · have w := (hW.t ⟨g1, g2⟩).2.1
    exact wlA_0 w (fun q => hb _ w.1 w.2 ⟨q, Or.inr ⟨t, ⟨g1, g2⟩, g3, rfl⟩⟩)
theorem SRel_walls {F : Nat → Nat → Int32} {S : zS} (hR : SRel A U F S) (hW : WF A) (g : Nat → Int32) : SRel (wlA g A) U F (sW S (bset (fun c => g c.toNat = iI 1))) := by
  have hn := hW.n
  refine SRel_wc hR hW (fun j hj => wlA_n (by have := hj.2.2.1; omega)) (wlA_n (by omega)) (bset_cg (fun c g1 g2 => (wlA_1 ⟨g1, g2⟩).symm)) rfl rfl rfl rfl ?_ rfl (fun _ => rfl) (fun _ => rfl) (fun a g1 g2 => ?_) rfl rfl rfl
  · rw [wlA_n (by omega)]; exact hR.n7
  · rw [wlA_n (by omega)]; exact hR.m1 a g1 g2
theorem C_asCells {h : zH} (hT : SHT h X ln le it) {s : Nat} (hs : s < 4) (hi : ∀ j, j < 64 → it s j = iI 0 ∨ it s j = iI 1) : f_X7_asCells (some (X + 194 + 2 * s)) h = some (bset (fun c => it s c.toNat = iI 1), h) := by
  have e0 : (0 : Int64) = bset (fun c => c < ((0 : Nat) : Int) ∧ it s c.toNat = iI 1) := by
    rw [bset_none]; exact bset_cg (fun c g1 g2 => ⟨fun q => q.elim, fun q => absurd q.1 (by omega)⟩)
  unfold f_X7_asCells
  rw [e0]
  refine z_for0 (fun i : Nat => ((some (X + 194 + 2 * s), bset (fun c => c < (i : Int) ∧ it s c.toNat = iI 1), iI i, h) : Option Nat × Int64 × Int32 × zH)) 64 (fun i hi' => ?_) ?_
  · show f_X7_asCells_c4 (some (X + 194 + 2 * s)) (bset (fun c => c < (i : Int) ∧ it s c.toNat = iI 1)) (iI (i : Int)) h = _
    unfold f_X7_asCells_c4 f_X7_asCells_b25
    simp only [iI_lit, iI_add, iI_sub, iI_mul, iI_neg]
    rw [if_neg (nLe (by omega)), Hg2 hT hs, Option.bind_some, Hit hT hs (by omega), Option.bind_some, bset_one (by omega) (by omega), bset_or, show ((i : Int)).toNat = i by omega]
    rcases hi i hi' with q | q
    · rw [q, if_pos rfl]
      have e : bset (fun c => c < (i : Int) ∧ it s c.toNat = iI 1) = bset (fun c => c < ((i + 1 : Nat) : Int) ∧ it s c.toNat = iI 1) := by
        refine bset_cg (fun c g1 g2 => ⟨fun e => ⟨by have := e.1; omega, e.2⟩, fun e => ⟨?_, e.2⟩⟩)
        have e1 := e.1
        by_cases ec : c = (i : Int)
        · subst ec; exact absurd (q.symm.trans e.2).symm iI_01
        · omega
      rw [e]; rfl
    · rw [q, if_neg iI_01]
      have e : bset (fun c => (c < (i : Int) ∧ it s c.toNat = iI 1) ∨ c = (i : Int)) = bset (fun c => c < ((i + 1 : Nat) : Int) ∧ it s c.toNat = iI 1) := by
        refine bset_cg (fun c g1 g2 => ⟨fun e => ?_, fun e => ?_⟩)
        · rcases e with e | e
          · exact ⟨by have := e.1; omega, e.2⟩
          · subst e; exact ⟨by omega, q⟩
        · by_cases ec : c = (i : Int)
          · exact Or.inr ec
          · exact Or.inl ⟨by have := e.1; omega, e.2⟩
      rw [e]; rfl
  · show f_X7_asCells_c4 (some (X + 194 + 2 * s)) (bset (fun c => c < ((64 : Nat) : Int) ∧ it s c.toNat = iI 1)) (iI ((64 : Nat) : Int)) h = _
    unfold f_X7_asCells_c4
    simp only [iI_lit, iI_add, iI_sub, iI_mul, iI_neg]
    rw [if_pos (cLe (by omega))]
    have e : bset (fun c => c < ((64 : Nat) : Int) ∧ it s c.toNat = iI 1) = bset (fun c => it s c.toNat = iI 1) := bset_cg (fun c g1 g2 => ⟨fun e => e.2, fun e => ⟨by omega, e⟩⟩)
    rw [e]; rfl
end WL
