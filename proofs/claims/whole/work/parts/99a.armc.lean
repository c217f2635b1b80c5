section AC
variable {A : Int → Int} {U : Int → Option Nat} {F : Nat → Nat → Int32} {S : zS} {b P tS : Nat}
theorem C_canLie {h : zH} {g : Nat → Int32} (hT : hST h tS) (hS : SAt h b S) (hR : SRel A U F S) (hW : WF A) (hP : P < b ∨ b + 30 ≤ P) (hPt : P ≠ tS) (hp : h P = .inl (0, 7, .inl g)) {N f : Nat} {c : Int} (hN : 2 ≤ N ∧ N ≤ 7) (hf : f < 4096) (hc : 0 ≤ c ∧ c < 64) :
    ∃ v h' g', f_X6_canLie tS (some b) (iI c) (iI (N : Int)) (iI (f : Int)) (some P) h = some (v, h') ∧ h' P = .inl (0, 7, .inl g') ∧ (∀ q, q ≠ P → h' q = h q) ∧ ((v = iI 1 ∧ (∀ j, j < N → okp A c f j) ∧ ∀ j, j < N → g' j = iI (pth c f j)) ∨ (v = iI 0 ∧ ¬ ∀ j, j < N → okp A c f j)) := by
  have key := z_forI (body := fun s : (Option Nat) × Int32 × Int32 × (Option Nat) × Int64 × Int32 × Int32 × zH => f_X6_canLie_c9 tS s.1 s.2.1 s.2.2.1 s.2.2.2.1 s.2.2.2.2.1 s.2.2.2.2.2.1 s.2.2.2.2.2.2.1 s.2.2.2.2.2.2.2) (Q := fun r => ∃ g', r.2 P = .inl (0, 7, .inl g') ∧ (∀ q, q ≠ P → r.2 q = h q) ∧ ((r.1 = iI 1 ∧ (∀ j, j < N → okp A c f j) ∧ ∀ j, j < N → g' j = iI (pth c f j)) ∨ (r.1 = iI 0 ∧ ¬ ∀ j, j < N → okp A c f j)))
    (fun i s => ∃ h1 g1, s = (some b, iI (N : Int), iI (f : Int), some P, bset (fun d => ∃ q, q < i ∧ pth c f q = d), iI (pth c f (i - 1)), iI (i : Int), h1) ∧ h1 P = .inl (0, 7, .inl g1) ∧ (∀ j, j < i → g1 j = iI (pth c f j)) ∧ (∀ q, q ≠ P → h1 q = h q) ∧ ∀ j, j < i → okp A c f j) N ?_ ?_ N 0 (some b, iI (N : Int), iI (f : Int), some P, (0 : Int64), iI c, iI 0, h) (by omega) ⟨h, g, ?_, hp, fun j hj => absurd hj (by omega), fun _ _ => rfl, fun j hj => absurd hj (by omega)⟩
  · obtain ⟨r, k1, g', k2, k3, k4⟩ := key
    refine ⟨r.1, r.2, g', ?_, k2, k3, k4⟩
    unfold f_X6_canLie f_X6_canLie_b9
    simp only [iI_lit]
    exact k1
  · rintro i s hi ⟨h1, g1, rfl, k1, k2, k3, k4⟩
    have T1 : hST h1 tS := by unfold hST; rw [k3 tS (fun e => hPt e.symm)]; exact hT
    have S1 : SAt h1 b S := SAt_fr hS (fun q g1 g2 => k3 q (by omega))
    have pr := pth_rg (f := f) hc i (fun j hj => (k4 j hj).1.1)
    have e1 : f_X6_canLie_c9 tS (some b) (iI (N : Int)) (iI (f : Int)) (some P) (bset (fun d => ∃ q, q < i ∧ pth c f q = d)) (iI (pth c f (i - 1))) (iI (i : Int)) h1 = f_X6_canLie_b37 tS (some b) (iI (N : Int)) (iI (f : Int)) (some P) (bset (fun d => ∃ q, q < i ∧ pth c f q = d)) (iI (pth c f i)) (iI (i : Int)) h1 := by
      unfold f_X6_canLie_c9
      simp only [iI_lit]
      rw [if_neg (nLe (by omega))]
      cases i with
      | zero => rw [if_pos (cLe (by omega))]
      | succ k =>
        have p1 := (k4 k (by omega)).1.1
        have p2 := (pth_rg (f := f) hc k (fun j hj => (k4 j (by omega)).1.1)).2
        have d4 := dgf_lt f k
        rw [if_neg (nLe (by omega)), iI_sub, iI_mul, show (((k + 1 : Nat) : Int) - 1) = (k : Int) by omega, dg4 (by omega) (by omega)]
        show z_b2 (f_X10_beside tS (iI (pth c f k)) (iI ((dgf f k : Nat) : Int)) h1) _ = _
        rw [C_beside T1 p1 p2 (by omega) (by omega), z_b2_some]
        rfl
    show (∃ s', f_X6_canLie_c9 tS (some b) (iI (N : Int)) (iI (f : Int)) (some P) (bset (fun d => ∃ q, q < i ∧ pth c f q = d)) (iI (pth c f (i - 1))) (iI (i : Int)) h1 = some (.inl s') ∧ _) ∨ ∃ a, f_X6_canLie_c9 tS (some b) (iI (N : Int)) (iI (f : Int)) (some P) (bset (fun d => ∃ q, q < i ∧ pth c f q = d)) (iI (pth c f (i - 1))) (iI (i : Int)) h1 = some (.inr a) ∧ _
    rw [e1]
    unfold f_X6_canLie_b37
    rw [Sck S1, Option.bind_some, C_isFree S1 hR hW pr, z_b2_some]
    simp only [iI_lit]
    rw [ite_tb]
    by_cases c1 : free A (pth c f i)
    · have p0 := c1.1
      rw [if_pos c1, cmpite p0 pr.2]
      by_cases c2 : ∃ q, q < i ∧ pth c f q = pth c f i
      · right
        rw [if_pos c2]
        refine ⟨(iI 0, h1), rfl, g1, k1, k3, Or.inr ⟨rfl, fun q => ?_⟩⟩
        obtain ⟨r, r1, r2⟩ := c2
        exact (q i hi).2 r r1 r2
      · left
        rw [if_neg c2, z_sI_k k1 (by omega) (by omega) (by decide), Option.bind_some, bset_one p0 pr.2, bset_or, iI_add]
        refine ⟨_, rfl, z_up h1 P (.inl (0, 7, .inl (upd g1 ((i : Int)).toNat (iI (pth c f i))))), upd g1 ((i : Int)).toNat (iI (pth c f i)), ?_, z_up_s _ _ _, fun j hj => ?_, fun q hq => (z_up_n _ _ hq).trans (k3 q hq), fun j hj => ?_⟩
        · have e : bset (fun d => (∃ q, q < i ∧ pth c f q = d) ∨ d = pth c f i) = bset (fun d => ∃ q, q < i + 1 ∧ pth c f q = d) := by
            refine bset_cg (fun d _ _ => ⟨?_, ?_⟩)
            · rintro (⟨q, h1, h2⟩ | e)
              · exact ⟨q, by omega, h2⟩
              · exact ⟨i, by omega, e.symm⟩
            · rintro ⟨q, h1, h2⟩
              by_cases e : q = i
              · subst e; exact Or.inr h2.symm
              · exact Or.inl ⟨q, by omega, h2⟩
          rw [e]; rfl
        · rw [show ((i : Int)).toNat = i by omega]
          by_cases e : j = i
          · subst e; exact pk_us
          · rw [pk_un e]; exact k2 j (by omega)
        · by_cases e : j = i
          · subst e; exact ⟨c1, fun q hq he => c2 ⟨q, hq, he⟩⟩
          · exact k4 j (by omega)
    · right
      rw [if_neg c1]
      exact ⟨(iI 0, h1), rfl, g1, k1, k3, Or.inr ⟨rfl, fun q => c1 (q i hi).1⟩⟩
  · rintro s ⟨h1, g1, rfl, k1, k2, k3, k4⟩
    refine ⟨(iI 1, h1), ?_, g1, k1, k3, Or.inl ⟨rfl, k4, k2⟩⟩
    show f_X6_canLie_c9 tS (some b) (iI (N : Int)) (iI (f : Int)) (some P) _ _ (iI (N : Int)) h1 = _
    unfold f_X6_canLie_c9
    simp only [iI_lit]
    rw [if_pos (cLe (by omega))]
    rfl
  · have e : (0 : Int64) = bset (fun d => ∃ q, q < 0 ∧ pth c f q = d) := by
      rw [bset_none]
      exact bset_cg (fun d _ _ => ⟨fun q => q.elim, fun ⟨q, h1, _⟩ => absurd h1 (by omega)⟩)
    rw [e]; rfl
theorem A_fill {h : zH} (hS : SAt h b S) {i j : Nat} (hi : i < 3) (hj : j < 5) (v : Int32) : ∃ h' g, f_J7_fill_53178 (some (b + 5 + 6 * i + j)) v h = some h' ∧ SAt h' b (sR S i j g) ∧ (∀ k, k < 7 → g k = v) ∧ fr b 30 h h' := by
  obtain ⟨h', g, k1, k2, k3, k4⟩ := C_fill (hS.r i j hi hj) (by omega) v
  have e : h' = z_up h (b + 5 + 6 * i + j) (.inl (0, 7, .inl g)) := by
    funext q
    by_cases e : q = b + 5 + 6 * i + j
    · rw [e, z_up_s]; exact k2
    · rw [z_up_n _ _ e]; exact k4 q e
  refine ⟨h', g, k1, ?_, k3, fun q hq => k4 q (by omega)⟩
  rw [e]
  exact SAt_r hS hi hj g
theorem C_begin {h : zH} {g : Nat → Int32} (hS : SAt h b S) (hP : P < b ∨ b + 30 ≤ P) (hp : h P = .inl (0, 7, .inl g)) {N i : Nat} (hN : N ≤ 7) (hi : i < 3) :
    ∃ h' S', f_X0_begin (some (b + 4 + 6 * i)) (some P) (iI (N : Int)) h = some h' ∧ SAt h' b S' ∧ fr b 30 h h' ∧ eqx i S S' ∧ S'.r i 4 = S.r i 4 ∧ (S'.n i 0 = iI (N : Int) ∧ S'.n i 1 = iI 0 ∧ S'.n i 2 = iI 0 ∧ S'.u i = none) ∧ (∀ p, p < N → S'.r i 0 p = g p) ∧ (∀ p, p < 7 → S'.r i 1 p = iI 0) ∧ (∀ p, p < 7 → S'.r i 2 p = iI (-4)) ∧ ∀ p, p < 7 → S'.r i 3 p = iI 0 := by
  have S1 := SAt_n hS (i := i) (j := 0) (iI (N : Int)) hi
  have S2 := SAt_n S1 (i := i) (j := 1) (iI 0) hi
  have S3 := SAt_n S2 (i := i) (j := 2) (iI 0) hi
  have S4 := SAt_u S3 (i := i) none hi
  obtain ⟨h4, e4⟩ : ∃ g, g = z_up (z_up (z_up (z_up h (b + 4 + 6 * i) (cA b i (sN S i 0 (iI (N : Int))))) (b + 4 + 6 * i) (cA b i (sN (sN S i 0 (iI (N : Int))) i 1 (iI 0)))) (b + 4 + 6 * i) (cA b i (sN (sN (sN S i 0 (iI (N : Int))) i 1 (iI 0)) i 2 (iI 0)))) (b + 4 + 6 * i) (cA b i (sU (sN (sN (sN S i 0 (iI (N : Int))) i 1 (iI 0)) i 2 (iI 0)) i none)) := ⟨_, rfl⟩
  have hp4 : h4 P = .inl (0, 7, .inl g) := by rw [e4, z_up_n _ _ (by omega), z_up_n _ _ (by omega), z_up_n _ _ (by omega), z_up_n _ _ (by omega)]; exact hp
  rw [← e4] at S4
  have f4 : fr b 30 h h4 := by
    rw [e4]
    exact fr_tr (fr_up (by omega) (by omega)) (fr_tr (fr_up (by omega) (by omega)) (fr_tr (fr_up (by omega) (by omega)) (fr_up (by omega) (by omega))))
  obtain ⟨R4, eR⟩ : ∃ R, R = sU (sN (sN (sN S i 0 (iI (N : Int))) i 1 (iI 0)) i 2 (iI 0)) i none := ⟨_, rfl⟩
  rw [← eR] at S4
  have w5 : z_cp h4 (some P) (iI 0) (some (b + 5 + 6 * i + 0)) (iI 0) (iI (N : Int)) = some (z_up h4 (b + 5 + 6 * i + 0) (.inl (0, 7, .inl (va_cpy g (R4.r i 0) 0 0 N)))) := by
    rw [z_cp_k hp4 (S4.r i 0 hi (by omega)) (by omega) (by omega) (by omega) (by omega) (by omega) (by omega) (by omega)]; rfl
  have S5 := SAt_r S4 hi (show 0 < 5 by omega) (va_cpy g (R4.r i 0) 0 0 N)
  have f5 : fr b 30 h4 (z_up h4 (b + 5 + 6 * i + 0) (.inl (0, 7, .inl (va_cpy g (R4.r i 0) 0 0 N)))) := fr_up (by omega) (by omega)
  obtain ⟨h6, g6, w6, S6, v6, f6⟩ := A_fill S5 hi (show 1 < 5 by omega) (iI 0)
  obtain ⟨h7, g7, w7, S7, v7, f7⟩ := A_fill S6 hi (show 2 < 5 by omega) (iI (-4))
  obtain ⟨h8, g8, w8, S8, v8, f8⟩ := A_fill S7 hi (show 3 < 5 by omega) (iI 0)
  refine ⟨h8, _, ?_, S8, fr_tr f4 (fr_tr f5 (fr_tr f6 (fr_tr f7 f8))), ?_, ?_, ⟨?_, ?_, ?_, ?_⟩, fun p hp => ?_, fun p hp => ?_, fun p hp => ?_, fun p hp => ?_⟩
  · unfold f_X0_begin
    simp only [iI_lit, iI_add, iI_sub, iI_mul, iI_neg]
    rw [Ap0 hS _ hi, Option.bind_some, Ap1 S1 _ hi, Option.bind_some, Ap2 S2 _ hi, Option.bind_some, ApU S3 _ hi, Option.bind_some, ← e4, Ag4 S4 hi, Option.bind_some, w5, Option.bind_some, Ag5 S5 hi, Option.bind_some, w6, Option.bind_some, Ag6 S6 hi, Option.bind_some, w7, Option.bind_some, Ag7 S7 hi, Option.bind_some, w8, Option.bind_some]
  · rw [eR]
    exact eqx_tr (eqx_n _ _ _ _) (eqx_tr (eqx_n _ _ _ _) (eqx_tr (eqx_n _ _ _ _) (eqx_tr (eqx_u _ _ _) (eqx_tr (eqx_r _ _ _ _) (eqx_tr (eqx_r _ _ _ _) (eqx_tr (eqx_r _ _ _ _) (eqx_r _ _ _ _)))))))
  · rw [sR_n _ _ (Or.inr (by omega)), sR_n _ _ (Or.inr (by omega)), sR_n _ _ (Or.inr (by omega)), sR_n _ _ (Or.inr (by omega)), eR]; rfl
  · show R4.n i 0 = _
    rw [eR]
    show (sN (sN (sN S i 0 (iI (N : Int))) i 1 (iI 0)) i 2 (iI 0)).n i 0 = _
    rw [sN_s, pk_un (by omega), sN_s, pk_un (by omega), sN_s, pk_us]
  · show R4.n i 1 = _
    rw [eR]
    show (sN (sN (sN S i 0 (iI (N : Int))) i 1 (iI 0)) i 2 (iI 0)).n i 1 = _
    rw [sN_s, pk_un (by omega), sN_s, pk_us]
  · show R4.n i 2 = _
    rw [eR]
    show (sN (sN (sN S i 0 (iI (N : Int))) i 1 (iI 0)) i 2 (iI 0)).n i 2 = _
    rw [sN_s, pk_us]
  · show R4.u i = _
    rw [eR]
    exact updR_s _ _ _
  · rw [sR_n _ _ (Or.inr (by omega)), sR_n _ _ (Or.inr (by omega)), sR_n _ _ (Or.inr (by omega)), sR_s, cpy_in _ _ hp]
  · rw [sR_n _ _ (Or.inr (by omega)), sR_n _ _ (Or.inr (by omega)), sR_s, v6 p hp]
  · rw [sR_n _ _ (Or.inr (by omega)), sR_s, v7 p hp]
  · rw [sR_s, v8 p hp]
theorem C_addArm {h : zH} {g : Nat → Int32} (hS : SAt h b S) (hR : SRel A U F S) (hW : WF A) (h3 : A 64 < 3) (hP : P < b ∨ b + 30 ≤ P) (hp : h P = .inl (0, 7, .inl g)) {N f : Nat} {c : Int} (hN : 2 ≤ N ∧ N ≤ 7) (hg : ∀ j, j < N → g j = iI (pth c f j)) (hr : ∀ j, j < N → 0 ≤ pth c f j ∧ pth c f j < 64) :
    ∃ h', f_X6_addArm (some b) (some P) (iI (N : Int)) h = some h' ∧ SR h' b (arA A (N : Int) c f) (fun a => if a = A 64 then none else U a) F ∧ fr b 30 h h' := by
  have hn := hW.n
  have hi : (A 64).toNat < 3 := by omega
  obtain ⟨h1, S1, w1, s1, f1, ⟨⟨q1, q2, q3, q4, q5⟩, q6⟩, q7, ⟨m0, m1, m2, m3⟩, r0, r1, r2, r3⟩ := C_begin hS hP hp (N := N) hN.2 hi
  have hp1 : h1 P = .inl (0, 7, .inl g) := by rw [f1 P (by omega)]; exact hp
  have s2 := SAt_o s1 (S' := sZ S1 4 (iI (A 64 + 1))) rfl rfl rfl rfl rfl
  have T1 : S1.T = bset (hasP A) := by rw [q2]; exact hR.k
  have key := z_forI (body := fun s : (Option Nat) × (Option Nat) × Int32 × Int32 × zH => f_X6_addArm_c26 s.1 s.2.1 s.2.2.1 s.2.2.2.1 s.2.2.2.2) (Q := fun h' => SAt h' b (sT (sZ S1 4 (iI (A 64 + 1))) (bset (fun d => hasP A d ∨ ∃ q, q < N ∧ pth c f q = d))) ∧ fr b 30 h h')
    (fun i s => ∃ h', s = (some b, some P, iI (N : Int), iI (i : Int), h') ∧ h' P = .inl (0, 7, .inl g) ∧ SAt h' b (sT (sZ S1 4 (iI (A 64 + 1))) (bset (fun d => hasP A d ∨ ∃ q, q < i ∧ pth c f q = d))) ∧ fr b 30 h h') N ?_ ?_ N 0 (some b, some P, iI (N : Int), iI 0, z_up h1 b (c0 b (sZ S1 4 (iI (A 64 + 1))))) (by omega) ⟨_, rfl, by rw [z_up_n _ _ (by omega)]; exact hp1, ?_, fr_tr f1 (fr_up (by omega) (by omega))⟩
  · obtain ⟨h', k1, k2, k3⟩ := key
    refine ⟨h', ?_, ⟨_, k2, ?_⟩, k3⟩
    · unfold f_X6_addArm
      have z4 : S1.z 4 = iI (A 64) := by rw [q4]; exact hR.n4
      simp only [iI_lit]
      rw [Sg3 hS, Option.bind_some, Sz4 hS, Option.bind_some, hR.n4, Sarm hS hn.1.1 (by omega), Option.bind_some, Ack hS hi, Option.bind_some, w1, Option.bind_some, Sz4 s1, Option.bind_some, z4, iI_add, Sp4 s1, Option.bind_some]
      exact k1
    · refine SRel_arm hR hW h3 (by omega) q1 ?_ q3 ?_ ?_ ?_ ?_ q6 q7 m0 m1 m2 m3 (fun p hp => ?_) r1 r2 r3 q5
      · show bset _ = bset _
        rw [show ((N : Int)).toNat = N by omega]
      · show upd S1.z 4 (iI (A 64 + 1)) 4 = _
        exact pk_us
      · show upd S1.z 4 (iI (A 64 + 1)) 6 = _
        rw [pk_un (by omega), q4]
      · show upd S1.z 4 (iI (A 64 + 1)) 7 = _
        rw [pk_un (by omega), q4]
      · show upd S1.z 4 (iI (A 64 + 1)) 8 = _
        rw [pk_un (by omega), q4]
      · show S1.r (A 64).toNat 0 p = _
        rw [r0 p (by omega)]; exact hg p (by omega)
  · rintro i s hi ⟨h', rfl, k1, k2, k3⟩
    have pr := hr i hi
    have S3 := SAt_o k2 (S' := sT (sZ S1 4 (iI (A 64 + 1))) (bset (fun d => hasP A d ∨ ∃ q, q < i + 1 ∧ pth c f q = d))) rfl rfl rfl rfl rfl
    refine Or.inl ⟨_, ?_, _, rfl, by rw [z_up_n _ _ (by omega)]; exact k1, S3, fr_tr k3 (fr_up (by omega) (by omega))⟩
    show f_X6_addArm_c26 (some b) (some P) (iI (N : Int)) (iI (i : Int)) h' = _
    have eT : (sT (sZ S1 4 (iI (A 64 + 1))) (bset (fun d => hasP A d ∨ ∃ q, q < i ∧ pth c f q = d))).T ||| ((1 : Int64) <<< (Int32.toInt64 (iI (pth c f i)) &&& 63)) = bset (fun d => hasP A d ∨ ∃ q, q < i + 1 ∧ pth c f q = d) := by
      show bset _ ||| _ = _
      rw [bset_one pr.1 pr.2, bset_or]
      refine bset_cg (fun d _ _ => ⟨?_, ?_⟩)
      · rintro ((e | ⟨q, h1, h2⟩) | e)
        · exact Or.inl e
        · exact Or.inr ⟨q, by omega, h2⟩
        · exact Or.inr ⟨i, by omega, e.symm⟩
      · rintro (e | ⟨q, h1, h2⟩)
        · exact Or.inl (Or.inl e)
        · by_cases e : q = i
          · subst e; exact Or.inr h2.symm
          · exact Or.inl (Or.inr ⟨q, by omega, h2⟩)
    unfold f_X6_addArm_c26
    rw [if_neg (nLe (by omega)), ST k2, Option.bind_some, z_aI_k k1 (Or.inl rfl) (by omega) (by omega) (by decide), Option.bind_some, show ((i : Int)).toNat = i by omega, hg i hi, eT, SpT k2, Option.bind_some]
    rw [show iI (i : Int) + (1 : Int32) = iI ((i + 1 : Nat) : Int) by rw [iI_lit, iI_add]; rfl]
    rfl
  · rintro s ⟨h', rfl, k1, k2, k3⟩
    refine ⟨h', ?_, k2, k3⟩
    show f_X6_addArm_c26 (some b) (some P) (iI (N : Int)) (iI (N : Int)) h' = _
    unfold f_X6_addArm_c26
    rw [if_pos (Int32.le_refl _)]; rfl
  · have e : bset (fun d => hasP A d ∨ ∃ q, q < 0 ∧ pth c f q = d) = S1.T := by
      rw [T1]
      exact bset_cg (fun d _ _ => ⟨fun q => q.elim id (fun ⟨q, h1, _⟩ => absurd h1 (by omega)), Or.inl⟩)
    rw [e]; exact s2
end AC
