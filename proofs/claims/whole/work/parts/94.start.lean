/-! THE START -/
def A00 : Int → Int := fun j => if j = 66 then 3 else 0
theorem A00_n {j : Int} (h : j ≠ 66) : A00 j = 0 := if_neg h
theorem A00_66 : A00 66 = 3 := if_pos rfl
theorem WF_A00 : WF A00 := by
  have e64 : A00 64 = 0 := A00_n (by omega)
  have e65 : A00 65 = 0 := A00_n (by omega)
  refine ⟨⟨by omega, by omega, by rw [A00_66]; omega⟩, fun c h1 h2 => Or.inl (A00_n (by omega)), fun a h1 h2 => absurd h2 (by omega), fun t h1 h2 => absurd h2 (by omega), fun a p a' p' h1 _ _ => absurd h1.1.2 (by have := h1.1.1; omega), fun t t' c h1 _ => absurd h1.1.2 (by have := h1.1.1; omega)⟩
theorem SRel_00 : SRel A00 (fun _ => none) (fun _ _ => 0) S00 := by
  have e64 : A00 64 = 0 := A00_n (by omega)
  have e65 : A00 65 = 0 := A00_n (by omega)
  refine ⟨?_, ?_, fun x g1 g2 => ?_, ?_, ?_, ?_, ?_, fun a' g1 g2 => absurd g2 (by omega), fun a' g1 g2 => absurd g2 (by omega), fun a' g1 g2 => absurd g2 (by omega), fun a' g1 g2 => absurd g2 (by omega), fun a' p' g1 g2 g3 g4 => absurd g2 (by omega), fun a' p' g1 g2 g3 g4 => absurd g2 (by omega), fun a' p' g1 g2 g3 g4 => absurd g2 (by omega), fun a' p' g1 g2 g3 g4 => absurd g2 (by omega), fun i => rfl, fun t g1 g2 => absurd g2 (by omega), fun t g1 g2 => absurd g2 (by omega), fun t g1 g2 g3 => absurd g2 (by omega), fun t g1 g2 g3 => absurd g2 (by omega), fun t g1 g2 g3 => absurd g2 (by omega)⟩
  · show (0 : Int64) = _
    rw [bset_none]
    exact bset_cg (fun c g1 g2 => ⟨fun q => q.elim, fun q => by rw [A00_n (by omega)] at q; omega⟩)
  · show (0 : Int64) = _
    rw [bset_none]
    exact bset_cg (fun c g1 g2 => ⟨fun q => q.elim, fun ⟨a, p, q, _⟩ => by have := q.1; omega⟩)
  · show (0 : Int64) = _
    rw [bset_none]
    exact bset_cg (fun c g1 g2 => ⟨fun q => q.elim, fun ⟨t, q, _⟩ => by have := q.1; omega⟩)
  · rw [e64]; rfl
  · rw [e65]; rfl
  · rw [A00_66]; rfl
  · rw [A00_n (by omega)]; rfl
