theorem R_new {h : zH} {m z : Nat} (hm : h m = .inr (11, [tA none, tA none, tA none, tA none, tI 0, tA none, tA none, tA none, tA none, tA none, tI 0, tA none, tA none, tA none, tI 0, tA none, tA none, tA none, tA none, tI 0, tA none, tA none])) :
    ∃ h' Y, f_X11_init (some m) h (m + 1) z = some ((m + 19, z + 530 + 1060 + 2 + 530 + 100 + 4 + 4 + 256 + 7 + 6 + 6 + 6 + 21 + 4096 + 4096 + 64 + 7 + 64), h') ∧ MR h' m A00 Y ∧ (∀ s, s < 4 → Y 6 s = iI (-4)) ∧ (∀ k, k ≠ 1 → k ≠ 6 → Y k = fun _ => 0) ∧ ∀ q, (q < m ∨ m + 19 ≤ q) → h' q = h q := by
  obtain ⟨g, e, M, o⟩ := C_X11_new (z := z) hm
  have M1 := MAt_up M (k := 1) (by omega) (upd (fun _ => 0) 66 3)
  have R1 : MR (z_up g (m + 1) (mL m 1 (upd (fun _ => 0) 66 3))) m A00 (updR zRow 1 (upd (fun _ => 0) 66 3)) := by
    refine ⟨M1, fun j hj => ?_⟩
    rw [updR_s]
    by_cases q : j = 66
    · subst q; rw [pk_us, show (((66 : Nat)) : Int) = 66 from rfl, A00_66]; rfl
    · rw [pk_un q, A00_n (by omega)]; rfl
  obtain ⟨Z, hZ⟩ : ∃ Z, Z = z + 530 + 1060 + 2 + 530 + 100 + 4 + 4 + 256 + 7 + 6 + 6 + 6 + 21 + 4096 + 4096 + 64 + 7 + 64 := ⟨_, rfl⟩
  rw [← hZ] at e ⊢
  have key := z_forI (body := fun q : (Nat × Nat) × ((Option Nat) × Int32 × zH) => (f_X11_init_c161 q.2.1 q.2.2.1 q.2.2.2 q.1.1 q.1.2).map z_ds) (Q := fun r => r.1 = (m + 19, Z) ∧ ∃ Y, MR r.2 m A00 Y ∧ (∀ s, s < 4 → Y 6 s = iI (-4)) ∧ (∀ k, k ≠ 1 → k ≠ 6 → Y k = fun _ => 0) ∧ ∀ q, (q < m ∨ m + 19 ≤ q) → r.2 q = h q)
    (fun i st => ∃ h' Y, st = ((m + 19, Z), (some m, iI (i : Int), h')) ∧ MR h' m A00 Y ∧ (∀ s, s < i → Y 6 s = iI (-4)) ∧ (∀ k, k ≠ 1 → k ≠ 6 → Y k = fun _ => 0) ∧ ∀ q, (q < m ∨ m + 19 ≤ q) → h' q = h q) 4 ?_ ?_ 4 0 ((m + 19, Z), (some m, iI 0, z_up g (m + 1) (mL m 1 (upd (fun _ => 0) 66 3)))) (by omega) ⟨_, _, rfl, R1, fun s hs => absurd hs (by omega), fun k h1 h2 => by rw [updR_n _ _ h1]; rfl, fun q hq => by rw [z_up_n _ _ (by omega)]; exact o q hq⟩
  · obtain ⟨r, k1, k2, Y, k3⟩ := key
    refine ⟨r.2, Y, ?_, k3⟩
    rw [e]
    unfold f_X11_init_b161
    have er : r = ((m + 19, Z), r.2) := by rw [← k2]
    rw [← er]
    exact k1
  · rintro i st hi ⟨h1, Y1, rfl, k1, k2, k3, k4⟩
    have M2 := MR_up k1 (k := 6) (by omega) (by omega) (upd (Y1 6) i (iI (-4)))
    refine Or.inl ⟨_, ?_, _, _, rfl, M2, fun s hs => ?_, fun k h1 h2 => by rw [updR_n _ _ h2]; exact k3 k h1 h2, fun q hq => by rw [z_up_n _ _ (by omega)]; exact k4 q hq⟩
    · show (f_X11_init_c161 (some m) (iI (i : Int)) h1 (m + 19) Z).map z_ds = _
      unfold f_X11_init_c161
      simp only [iI_lit, iI_add, iI_sub, iI_mul, iI_neg]
      have s6 : z_sI h1 (some (m + 6)) (iI (i : Int)) (iI (-4)) = some (z_up h1 (m + 6) (mL m 6 (upd (Y1 6) i (iI (-4))))) := by rw [S6 k1 (by omega), show ((i : Int)).toNat = i by omega]
      rw [if_neg (nLe (by omega)), Mg6 k1.1, Option.bind_some, s6, Option.bind_some]
      rfl
    · rw [updR_s]
      by_cases q : s = i
      · subst q; exact pk_us
      · rw [pk_un q]; exact k2 s (by omega)
  · rintro st ⟨h1, Y1, rfl, k1, k2, k3, k4⟩
    refine ⟨((m + 19, Z), h1), ?_, rfl, Y1, k1, k2, k3, k4⟩
    show (f_X11_init_c161 (some m) (iI ((4 : Nat) : Int)) h1 (m + 19) Z).map z_ds = _
    unfold f_X11_init_c161
    simp only [iI_lit, iI_add, iI_sub, iI_mul, iI_neg]
    rw [if_pos (cLe (by omega))]
    rfl
