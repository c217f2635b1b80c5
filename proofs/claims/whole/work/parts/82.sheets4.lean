section SK
variable {X m : Nat} {U : Int → Option Nat} {A : Int → Int} {ln le : Nat → Int} {it : Nat → Nat → Int32}
/-- the sheet's items after k pieces of a film -/
noncomputable def flI (A : Int → Int) (a : Int) (f : Nat → Int32) (I k : Nat) : Nat → Int32 := fun j => if I ≤ j ∧ j < I + k then iI (A (75 + 40 * a + ((j - I : Nat) : Int))) else f j
theorem flI_s (A : Int → Int) (a : Int) (f : Nat → Int32) (I k : Nat) : upd (flI A a f I k) (I + k) (iI (A (75 + 40 * a + (k : Int)))) = flI A a f I (k + 1) := by
  funext j
  by_cases e : j = I + k
  · subst e
    rw [pk_us]
    unfold flI
    rw [if_pos (by omega), show I + k - I = k by omega]
  · rw [pk_un e]
    unfold flI
    by_cases q : I ≤ j ∧ j < I + k
    · rw [if_pos q, if_pos (by omega)]
    · rw [if_neg q, if_neg (by omega)]
theorem flI_0 (A : Int → Int) (a : Int) (f : Nat → Int32) (I : Nat) : flI A a f I 0 = f := by
  funext j
  unfold flI
  rw [if_neg (by omega)]
theorem updR_2 {α : Type} (f : Nat → α) (k : Nat) (x y : α) : updR (updR f k x) k y = updR f k y := by
  funext j
  by_cases e : j = k
  · subst e; rw [updR_s, updR_s]
  · rw [updR_n _ _ e, updR_n _ _ e, updR_n _ _ e]
theorem K_film (hW : WF A) (hI : SHI ln le it) {a s l i : Int} (ha : rgI a) (hs : rgI s) (hl : rgI l) (hi : rgI i) : KH X m U A ln le it (f_X10_film (some X) (iI a) (iI s) (iI l) (iI i)) (f_X11_film (some m) (iI a) (iI s) (iI l) (iI i)) := by
  have hn := hW.n
  have rg := flR_rg A ln le a s l i
  by_cases c : flR A ln le a s l i = 0
  · obtain ⟨c1, c2, c3, c4, c5, c6⟩ := flR_0 c
    have pc := hW.pc c1
    have leg := (hI s.toNat (by omega)).2.1
    have c2n : s.toNat < 4 := by omega
    refine ⟨iI (A (70 + 40 * a)), ln, le, updR it s.toNat (flI A a (it s.toNat) i.toNat (A (70 + 40 * a)).toNat), fun h n F hX hS hT => ?_, fun h Y hM hT => ?_, SHI_it hI (by omega) (fun q => absurd q (by omega))⟩
    · obtain ⟨S, s1, s2⟩ := hS
      have m0 := s2.m0 a c1.1 c1.2
      have key := z_forI (body := fun s : (Option Nat) × Int32 × Int32 × (Option Nat) × Int32 × zH => f_X10_film_c33 s.1 s.2.1 s.2.2.1 s.2.2.2.1 s.2.2.2.2.1 s.2.2.2.2.2) (Q := fun r => r.1 = iI (A (70 + 40 * a)) ∧ SHT r.2 X ln le (updR it s.toNat (flI A a (it s.toNat) i.toNat (A (70 + 40 * a)).toNat)) ∧ fr (X + 194) 8 h r.2)
        (fun k st => ∃ h', st = (some X, iI s, iI i, some (X + 1 + 4 + 6 * a.toNat), iI (k : Int), h') ∧ SHT h' X ln le (updR it s.toNat (flI A a (it s.toNat) i.toNat k)) ∧ fr (X + 194) 8 h h') (A (70 + 40 * a)).toNat ?_ ?_ (A (70 + 40 * a)).toNat 0 (some X, iI s, iI i, some (X + 1 + 4 + 6 * a.toNat), iI 0, h) (by omega) ⟨h, rfl, by rw [flI_0, updR_self]; exact hT, fr_rf _ _ _⟩
      · obtain ⟨r, k1, k2, k3, k4⟩ := key
        refine ⟨r.2, ?_, k3, k4⟩
        unfold f_X10_film
        rw [Xck hX, Option.bind_some, C_flR hX s1 s2 hW hT hI ha hs hl hi, z_b2_some]
        simp only [iI_lit, iI_add, iI_sub, iI_mul, iI_neg]
        rw [if_pos (cEq c), Xg0 hX, Option.bind_some, Sg3 s1, Option.bind_some, Sarm s1 (by omega) (by omega), Option.bind_some]
        unfold f_X10_film_b33
        rw [k1, ← k2]
      · rintro k st hk ⟨h1, rfl, k1, k2⟩
        have t1 : SAt h1 (X + 1) S := SAt_fr s1 (fun q g1 g2 => k2 q (by omega))
        have hX1 : h1 X = oX X n := by rw [k2 X (by omega)]; exact hX
        obtain ⟨h2, e1, e2, e3⟩ := Hsi k1 c2n (e := i + (k : Int)) (by omega) (iI (A (75 + 40 * a + (k : Int))))
        rw [updR_s, show (i + (k : Int)).toNat = i.toNat + k by omega, flI_s, updR_2] at e2
        have r0 := s2.r0 a (k : Int) c1.1 c1.2 (by omega) (by omega)
        refine Or.inl ⟨_, ?_, h2, rfl, e2, fr_tr k2 e3⟩
        show f_X10_film_c33 (some X) (iI s) (iI i) (some (X + 1 + 4 + 6 * a.toNat)) (iI (k : Int)) h1 = _
        unfold f_X10_film_c33
        rw [An0 t1 (by omega), Option.bind_some, m0, if_neg (nLe (by omega)), Xg2 hX1, Option.bind_some, XshA k1 c2, Option.bind_some, Hg2 k1 c2n, Option.bind_some, Ag4 t1 (by omega), Option.bind_some, Arow t1 (by omega) (by omega) (by omega) (by omega), Option.bind_some, r0, iI_add, e1, Option.bind_some]
        simp only [iI_lit, iI_add, iI_sub, iI_mul, iI_neg]
        rfl
      · rintro st ⟨h1, rfl, k1, k2⟩
        have t1 : SAt h1 (X + 1) S := SAt_fr s1 (fun q g1 g2 => k2 q (by omega))
        refine ⟨(iI (A (70 + 40 * a)), h1), ?_, rfl, k1, k2⟩
        show f_X10_film_c33 (some X) (iI s) (iI i) (some (X + 1 + 4 + 6 * a.toNat)) (iI ((A (70 + 40 * a)).toNat : Int)) h1 = _
        unfold f_X10_film_c33
        rw [An0 t1 (by omega), Option.bind_some, m0, if_pos (cLe (by omega)), Option.bind_some]
        rfl
    · have key := z_forI (body := fun s : (Option Nat) × Int32 × Int32 × Int32 × Int32 × zH => f_X11_film_c22 s.1 s.2.1 s.2.2.1 s.2.2.2.1 s.2.2.2.2.1 s.2.2.2.2.2) (Q := fun r => r.1 = iI (A (70 + 40 * a)) ∧ ∃ Y', MR r.2 m A Y' ∧ RSH Y' ln le (updR it s.toNat (flI A a (it s.toNat) i.toNat (A (70 + 40 * a)).toNat)) ∧ oS Y Y' ∧ fr m 19 h r.2)
        (fun k st => ∃ h' Y', st = (some m, iI a, iI s, iI i, iI (k : Int), h') ∧ MR h' m A Y' ∧ RSH Y' ln le (updR it s.toNat (flI A a (it s.toNat) i.toNat k)) ∧ oS Y Y' ∧ fr m 19 h h') (A (70 + 40 * a)).toNat ?_ ?_ (A (70 + 40 * a)).toNat 0 (some m, iI a, iI s, iI i, iI 0, h) (by omega) ⟨h, Y, rfl, hM, by rw [flI_0, updR_self]; exact hT, oS_rf _, fr_rf _ _ _⟩
      · obtain ⟨r, k1, k2, Y', k3, k4, k5, k6⟩ := key
        refine ⟨r.2, Y', ?_, k3, k4, k5, k6⟩
        unfold f_X11_film
        rw [Mck hM.1, Option.bind_some, R_flR hM hW hT hI ha hs hl hi, z_b2_some]
        simp only [iI_lit, iI_add, iI_sub, iI_mul, iI_neg]
        rw [if_pos (cLe (by omega))]
        unfold f_X11_film_b22
        rw [k1, ← k2]
      · rintro k st hk ⟨h1, Y1, rfl, k1, k2, k3, k4⟩
        have M1 := MR_up k1 (k := 8) (by omega) (by omega) (upd (Y1 8) (64 * s + i + (k : Int)).toNat (iI (A (75 + 40 * a + (k : Int)))))
        refine Or.inl ⟨_, ?_, _, _, rfl, M1, ?_, oS_tr k3 (oS_up _ _ (by omega)), fr_tr k4 (fr_up (by omega) (by omega))⟩
        · show f_X11_film_c22 (some m) (iI a) (iI s) (iI i) (iI (k : Int)) h1 = _
          unfold f_X11_film_c22
          rw [Mck k1.1, Option.bind_some, R_pieces k1 (by omega), z_b2_some, if_neg (nLe (by omega)), Mg8 k1.1, Option.bind_some, Mck k1.1, Option.bind_some, R_cell k1 (by omega) (by omega), z_b2_some]
          simp only [iI_lit, iI_add, iI_sub, iI_mul, iI_neg]
          rw [S8 k1 (by omega), Option.bind_some]
          rfl
        · have q := RSH_8 k2 (s := s.toNat) c2n (e := i.toNat + k) (by omega) (iI (A (75 + 40 * a + (k : Int))))
          rw [updR_s, flI_s, updR_2] at q
          rw [show (64 * s + i + (k : Int)).toNat = 64 * s.toNat + (i.toNat + k) by omega]
          exact q
      · rintro st ⟨h1, Y1, rfl, k1, k2, k3, k4⟩
        refine ⟨(iI (A (70 + 40 * a)), h1), ?_, rfl, Y1, k1, k2, k3, k4⟩
        show f_X11_film_c22 (some m) (iI a) (iI s) (iI i) (iI ((A (70 + 40 * a)).toNat : Int)) h1 = _
        unfold f_X11_film_c22
        rw [Mck k1.1, Option.bind_some, R_pieces k1 (by omega), z_b2_some, if_pos (cLe (by omega)), Mck k1.1, Option.bind_some, R_pieces k1 (by omega), z_b2_some]
        rfl
  · refine KH_no (iI (flR A ln le a s l i)) hI (fun h n F S hX s1 s2 hT => ?_) (fun h Y hM hT => ?_)
    · unfold f_X10_film
      rw [Xck hX, Option.bind_some, C_flR hX s1 s2 hW hT hI ha hs hl hi, z_b2_some]
      simp only [iI_lit, iI_add, iI_sub, iI_mul, iI_neg]
      rw [if_neg (nEq (by omega))]
    · unfold f_X11_film
      rw [Mck hM.1, Option.bind_some, R_flR hM hW hT hI ha hs hl hi, z_b2_some]
      simp only [iI_lit, iI_add, iI_sub, iI_mul, iI_neg]
      rw [if_neg (nLe (by omega))]
noncomputable def dfN (A : Int → Int) (a : Int) (f : Nat → Int32) (I : Nat) : Nat → Nat → Int
  | 0, _ => -4
  | d + 1, k => if f (I + k) = iI (A (75 + 40 * a + (k : Int))) then dfN A a f I d (k + 1) else (k : Int)
theorem K_differs (hW : WF A) (hI : SHI ln le it) {a s l i : Int} (ha : rgI a) (hs : rgI s) (hl : rgI l) (hi : rgI i) : KH X m U A ln le it (f_X10_differs (some X) (iI a) (iI s) (iI l) (iI i)) (f_X11_differs (some m) (iI a) (iI s) (iI l) (iI i)) := by
  have hn := hW.n
  have rg := flR_rg A ln le a s l i
  by_cases c : flR A ln le a s l i = 0
  · obtain ⟨c1, c2, c3, c4, c5, c6⟩ := flR_0 c
    have pc := hW.pc c1
    have leg := (hI s.toNat (by omega)).2.1
    have c2n : s.toNat < 4 := by omega
    refine KH_no (iI (dfN A a (it s.toNat) i.toNat (A (70 + 40 * a)).toNat 0)) hI (fun h n F S hX s1 s2 hT => ?_) (fun h Y hM hT => ?_)
    · have m0 := s2.m0 a c1.1 c1.2
      have key : ∀ d k : Nat, k + d = (A (70 + 40 * a)).toNat → f_X10_differs_b33 (some X) (iI s) (iI i) (some (X + 1 + 4 + 6 * a.toNat)) (iI (k : Int)) h = some (iI (dfN A a (it s.toNat) i.toNat d k), h) := by
        intro d
        induction d with
        | zero =>
          intro k hk
          refine z_it_done ?_
          show f_X10_differs_c33 (some X) (iI s) (iI i) (some (X + 1 + 4 + 6 * a.toNat)) (iI (k : Int)) h = _
          unfold f_X10_differs_c33
          rw [An0 s1 (by omega), Option.bind_some, m0, if_pos (cLe (by omega))]
          rfl
        | succ d ih =>
          intro k hk
          have r0 := s2.r0 a (k : Int) c1.1 c1.2 (by omega) (by omega)
          have e : f_X10_differs_c33 (some X) (iI s) (iI i) (some (X + 1 + 4 + 6 * a.toNat)) (iI (k : Int)) h = if it s.toNat (i.toNat + k) = iI (A (75 + 40 * a + (k : Int))) then some (Sum.inl (some X, iI s, iI i, some (X + 1 + 4 + 6 * a.toNat), iI ((k + 1 : Nat) : Int), h)) else some (Sum.inr (iI (k : Int), h)) := by
            unfold f_X10_differs_c33
            rw [An0 s1 (by omega), Option.bind_some, m0, if_neg (nLe (by omega)), Xg2 hX, Option.bind_some, XshA hT c2, Option.bind_some, Hg2 hT c2n, Option.bind_some, iI_add, Hit hT c2n (by omega), Option.bind_some, Ag4 s1 (by omega), Option.bind_some, Arow s1 (by omega) (by omega) (by omega) (by omega), Option.bind_some, r0, show (i + (k : Int)).toNat = i.toNat + k by omega]
            simp only [iI_lit, iI_add, iI_sub, iI_mul, iI_neg]
            rfl
          unfold dfN
          by_cases q : it s.toNat (i.toNat + k) = iI (A (75 + 40 * a + (k : Int)))
          · rw [if_pos q, ← ih (k + 1) (by omega)]
            refine z_it_next ?_
            show f_X10_differs_c33 (some X) (iI s) (iI i) (some (X + 1 + 4 + 6 * a.toNat)) (iI (k : Int)) h = _
            rw [e, if_pos q]
          · rw [if_neg q]
            refine z_it_done ?_
            show f_X10_differs_c33 (some X) (iI s) (iI i) (some (X + 1 + 4 + 6 * a.toNat)) (iI (k : Int)) h = _
            rw [e, if_neg q]
      unfold f_X10_differs
      rw [Xck hX, Option.bind_some, C_flR hX s1 s2 hW hT hI ha hs hl hi, z_b2_some]
      simp only [iI_lit, iI_add, iI_sub, iI_mul, iI_neg]
      rw [if_pos (cEq c), Xg0 hX, Option.bind_some, Sg3 s1, Option.bind_some, Sarm s1 (by omega) (by omega), Option.bind_some]
      exact key _ 0 (by omega)
    · have key : ∀ d k : Nat, k + d = (A (70 + 40 * a)).toNat → f_X11_differs_b22 (some m) (iI a) (iI s) (iI i) (iI (k : Int)) h = some (iI (dfN A a (it s.toNat) i.toNat d k), h) := by
        intro d
        induction d with
        | zero =>
          intro k hk
          refine z_it_done ?_
          show f_X11_differs_c22 (some m) (iI a) (iI s) (iI i) (iI (k : Int)) h = _
          unfold f_X11_differs_c22
          rw [Mck hM.1, Option.bind_some, R_pieces hM (by omega), z_b2_some, if_pos (cLe (by omega))]
          rfl
        | succ d ih =>
          intro k hk
          have e : f_X11_differs_c22 (some m) (iI a) (iI s) (iI i) (iI (k : Int)) h = if it s.toNat (i.toNat + k) = iI (A (75 + 40 * a + (k : Int))) then some (Sum.inl (some m, iI a, iI s, iI i, iI ((k + 1 : Nat) : Int), h)) else some (Sum.inr (iI (k : Int), h)) := by
            unfold f_X11_differs_c22
            simp only [iI_lit, iI_add, iI_sub, iI_mul, iI_neg]
            rw [Mck hM.1, Option.bind_some, R_pieces hM (by omega), z_b2_some, if_neg (nLe (by omega)), Mg8 hM.1, Option.bind_some, show 64 * s + i + (k : Int) = 64 * s + (i + (k : Int)) by omega, Y8 hM hT c2 (by omega), Option.bind_some, Mck hM.1, Option.bind_some, R_cell hM (by omega) (by omega), z_b2_some, show (i + (k : Int)).toNat = i.toNat + k by omega]
            rfl
          unfold dfN
          by_cases q : it s.toNat (i.toNat + k) = iI (A (75 + 40 * a + (k : Int)))
          · rw [if_pos q, ← ih (k + 1) (by omega)]
            refine z_it_next ?_
            show f_X11_differs_c22 (some m) (iI a) (iI s) (iI i) (iI (k : Int)) h = _
            rw [e, if_pos q]
          · rw [if_neg q]
            refine z_it_done ?_
            show f_X11_differs_c22 (some m) (iI a) (iI s) (iI i) (iI (k : Int)) h = _
            rw [e, if_neg q]
      unfold f_X11_differs
      rw [Mck hM.1, Option.bind_some, R_flR hM hW hT hI ha hs hl hi, z_b2_some]
      simp only [iI_lit, iI_add, iI_sub, iI_mul, iI_neg]
      rw [if_pos (cLe (by omega))]
      exact key _ 0 (by omega)
  · refine KH_no (iI (flR A ln le a s l i)) hI (fun h n F S hX s1 s2 hT => ?_) (fun h Y hM hT => ?_)
    · unfold f_X10_differs
      rw [Xck hX, Option.bind_some, C_flR hX s1 s2 hW hT hI ha hs hl hi, z_b2_some]
      simp only [iI_lit, iI_add, iI_sub, iI_mul, iI_neg]
      rw [if_neg (nEq (by omega))]
    · unfold f_X11_differs
      rw [Mck hM.1, Option.bind_some, R_flR hM hW hT hI ha hs hl hi, z_b2_some]
      simp only [iI_lit, iI_add, iI_sub, iI_mul, iI_neg]
      rw [if_neg (nLe (by omega))]
end SK
