section WM
variable {X m : Nat} {U : Int → Option Nat} {A : Int → Int} {ln le : Nat → Int} {it : Nat → Nat → Int32}
theorem R_wl1 {h : zH} {Y : Nat → Nat → Int32} (hM : MR h m A Y) (hW : WF A) (hT : RSH Y ln le it) {s : Int} (hs : 0 ≤ s ∧ s < 4) (hi : ∀ j, j < 64 → it s.toNat j = iI 0 ∨ it s.toNat j = iI 1) : ∀ (d k : Nat), k + d = 64 →
    ((∃ c : Int, ((k : Int) ≤ c ∧ c < 64) ∧ busy A (it s.toNat) c) → f_X11_walls_b49 (some m) (iI s) (iI (k : Int)) h = some (iI (-2), h)) ∧ ((¬ ∃ c : Int, ((k : Int) ≤ c ∧ c < 64) ∧ busy A (it s.toNat) c) → f_X11_walls_b49 (some m) (iI s) (iI (k : Int)) h = f_X11_walls_b99 (some m) (iI s) (iI 0) (iI 0) h)
  | 0, k, hk => by
    refine ⟨fun ⟨c, q, _⟩ => absurd q (by omega), fun _ => ?_⟩
    refine z_it_i1 ?_
    show f_X11_walls_c49 (some m) (iI s) (iI (k : Int)) h = _
    unfold f_X11_walls_c49
    simp only [iI_lit, iI_add, iI_sub, iI_mul, iI_neg]
    rw [if_pos (cLe (by omega))]
  | d + 1, k, hk => by
    have ih := R_wl1 hM hW hT hs hi d (k + 1) (by omega)
    have y8 := Y8 hM hT hs (j := (k : Int)) (by omega)
    rw [show ((k : Int)).toNat = k by omega] at y8
    by_cases b : busy A (it s.toNat) (k : Int)
    · refine ⟨fun _ => ?_, fun q => absurd ⟨(k : Int), by omega, b⟩ q⟩
      have bi : it s.toNat k = iI 1 := by have := b.1; rwa [show ((k : Int)).toNat = k by omega] at this
      refine z_it_done ?_
      show f_X11_walls_c49 (some m) (iI s) (iI (k : Int)) h = _
      unfold f_X11_walls_c49
      simp only [iI_lit, iI_add, iI_sub, iI_mul, iI_neg]
      rw [if_neg (nLe (by omega)), Mg8 hM.1, Option.bind_some, y8, Option.bind_some, bi, if_pos rfl, Mck hM.1, Option.bind_some, R_hasPiece hM hW (by omega), z_b2_some, ite_tb]
      refine ite_c (fun q => rfl) (fun q => ?_)
      rw [Mck hM.1, Option.bind_some, R_lyingAt hM hW (by omega), z_b2_some]
      rcases ly_cs hW (k : Int) with ⟨g1, g2⟩ | ⟨t, g1, g2, g3⟩
      · exact absurd (b.2.resolve_left q) g2
      · rw [g1, if_neg (nLt (by omega))]; rfl
    · have e : f_X11_walls_b49 (some m) (iI s) (iI (k : Int)) h = f_X11_walls_b49 (some m) (iI s) (iI ((k + 1 : Nat) : Int)) h := by
        refine z_it_next ?_
        show f_X11_walls_c49 (some m) (iI s) (iI (k : Int)) h = _
        unfold f_X11_walls_c49 f_X11_walls_b89
        simp only [iI_lit, iI_add, iI_sub, iI_mul, iI_neg]
        rw [if_neg (nLe (by omega)), Mg8 hM.1, Option.bind_some, y8, Option.bind_some]
        rcases hi k (by omega) with q | q
        · rw [q, if_neg (fun e => iI_01 e.symm)]; rfl
        · have nb : ¬ (hasP A (k : Int) ∨ ∃ t, ly A t (k : Int)) := fun g => b ⟨by rw [show ((k : Int)).toNat = k by omega]; exact q, g⟩
          rw [q, if_pos rfl, Mck hM.1, Option.bind_some, R_hasPiece hM hW (by omega), z_b2_some, ite_tb, if_neg (fun g => nb (Or.inl g)), Mck hM.1, Option.bind_some, R_lyingAt hM hW (by omega), z_b2_some, ly_no (fun g => nb (Or.inr g)), if_pos (cLt (by omega))]
          rfl
      rw [e]
      refine ⟨fun ⟨c, q1, q2⟩ => ih.1 ⟨c, ?_, q2⟩, fun q => ih.2 (fun ⟨c, q1, q2⟩ => q ⟨c, by omega, q2⟩)⟩
      by_cases ec : c = (k : Int)
      · subst ec; exact absurd q2 b
      · omega
theorem R_wl2 {h : zH} {Y : Nat → Nat → Int32} (hM : MR h m A Y) (hT : RSH Y ln le it) {s : Int} (hs : 0 ≤ s ∧ s < 4) (hi : ∀ j, j < 64 → it s.toNat j = iI 0 ∨ it s.toNat j = iI 1) : ∃ h', f_X11_walls_b99 (some m) (iI s) (iI 0) (iI 0) h = some (iI ((cN (bitE (fun c => it s.toNat c.toNat = iI 1)) 64 : Nat) : Int), h') ∧ go1 m h Y (wlA (it s.toNat) A) h' := by
  have key := z_forI (body := fun s : (Option Nat) × Int32 × Int32 × Int32 × zH => f_X11_walls_c99 s.1 s.2.1 s.2.2.1 s.2.2.2.1 s.2.2.2.2) (Q := fun r => r.1 = iI ((cN (bitE (fun c => it s.toNat c.toNat = iI 1)) 64 : Nat) : Int) ∧ go1 m h Y (wlA (it s.toNat) A) r.2)
    (fun i st => ∃ h', st = (some m, iI s, iI ((cN (bitE (fun c => it s.toNat c.toNat = iI 1)) i : Nat) : Int), iI (i : Int), h') ∧ go1 m h Y (fun j => if 0 ≤ j ∧ j < (i : Int) then wlA (it s.toNat) A j else A j) h') 64 ?_ ?_ 64 0 (some m, iI s, iI 0, iI 0, h) (by omega) ⟨h, rfl, Y, MR_cg hM (fun j hj => by rw [if_neg (by omega)]), o1_rf Y, fr_rf _ _ _⟩
  · obtain ⟨r, k1, k2, k3⟩ := key
    refine ⟨r.2, ?_, k3⟩
    unfold f_X11_walls_b99
    rw [k1, ← k2]
  · rintro i st hi' ⟨h1, rfl, Y1, k1, k2, k3⟩
    have T1 : RSH Y1 ln le it := fun s' hs' => by rw [k2 6 (by omega), k2 7 (by omega), k2 8 (by omega)]; exact hT s' hs'
    have y8 := Y8 k1 T1 hs (j := (i : Int)) (by omega)
    rw [show ((i : Int)).toNat = i by omega] at y8
    have wv : it s.toNat i = iI (wlA (it s.toNat) A (i : Int)) ∧ wlA (it s.toNat) A (i : Int) = ((bitE (fun c => it s.toNat c.toNat = iI 1) i : Nat) : Int) := by
      have ei : ((i : Int)).toNat = i := by omega
      unfold wlA bitE
      rcases hi i hi' with q | q
      · have nb : ¬ it s.toNat ((i : Int)).toNat = iI 1 := by rw [ei, q]; exact fun e => iI_01 e.symm
        rw [if_pos (by omega), if_neg nb, if_neg (show ¬ (fun c : Int => it s.toNat c.toNat = iI 1) (i : Int) from nb)]; exact ⟨q, rfl⟩
      · have yb : it s.toNat ((i : Int)).toNat = iI 1 := by rw [ei, q]
        rw [if_pos (by omega), if_pos yb, if_pos (show (fun c : Int => it s.toNat c.toNat = iI 1) (i : Int) from yb)]; exact ⟨q, rfl⟩
    have g := go1_ms k1 (e := (i : Int)) (v := wlA (it s.toNat) A (i : Int)) (by omega) (by omega)
    have M1 := M_ms k1 (i : Int) (wlA (it s.toNat) A (i : Int)) (by omega) (by omega)
    rw [mix_step] at g
    refine Or.inl ⟨_, ?_, _, rfl, go1_tr ⟨k1, k2, k3⟩ g⟩
    show f_X11_walls_c99 (some m) (iI s) (iI ((cN (bitE (fun c => it s.toNat c.toNat = iI 1)) i : Nat) : Int)) (iI (i : Int)) h1 = _
    unfold f_X11_walls_c99
    simp only [iI_lit, iI_add, iI_sub, iI_mul, iI_neg]
    rw [if_neg (nLe (by omega)), Mg0 k1.1, Option.bind_some, Mg8 k1.1, Option.bind_some, y8, Option.bind_some, wv.1, M_set k1 (by omega) (by omega), Option.bind_some, Mg0 M1.1, Option.bind_some, M_all M1 (by omega) (by omega), Option.bind_some, uI_s, iI_add, wv.2]
    rfl
  · rintro st ⟨h1, rfl, Y1, k1, k2, k3⟩
    refine ⟨(iI ((cN (bitE (fun c => it s.toNat c.toNat = iI 1)) 64 : Nat) : Int), h1), ?_, rfl, Y1, MR_cg k1 (fun j hj => ?_), k2, k3⟩
    · show f_X11_walls_c99 (some m) (iI s) (iI ((cN (bitE (fun c => it s.toNat c.toNat = iI 1)) 64 : Nat) : Int)) (iI ((64 : Nat) : Int)) h1 = _
      unfold f_X11_walls_c99
      simp only [iI_lit, iI_add, iI_sub, iI_mul, iI_neg]
      rw [if_pos (cLe (by omega))]
      rfl
    · by_cases q : (j : Int) < 64
      · rw [if_pos (by omega)]
      · rw [if_neg (by omega), wlA_n (by omega)]
theorem K_walls (hW : WF A) (hI : SHI ln le it) {s : Int} (hs : rgI s) : ∃ r A', (∀ h n F, h X = oX X n → SR h (X + 1) A U F → SHT h X ln le it → ∃ h', f_X10_walls (some X) (iI s) h = some (r, h') ∧ SR h' (X + 1) A' U F ∧ fr (X + 1) 30 h h') ∧ (∀ h Y, MR h m A Y → RSH Y ln le it → ∃ h', f_X11_walls (some m) (iI s) h = some (r, h') ∧ go1 m h Y A' h') ∧ WF A' ∧ kX A A' := by
  have hn := hW.n
  have no : ∀ r, (∀ h n F S, h X = oX X n → SAt h (X + 1) S → SRel A U F S → SHT h X ln le it → f_X10_walls (some X) (iI s) h = some (r, h)) → (∀ h Y, MR h m A Y → RSH Y ln le it → f_X11_walls (some m) (iI s) h = some (r, h)) → ∃ r A', (∀ h n F, h X = oX X n → SR h (X + 1) A U F → SHT h X ln le it → ∃ h', f_X10_walls (some X) (iI s) h = some (r, h') ∧ SR h' (X + 1) A' U F ∧ fr (X + 1) 30 h h') ∧ (∀ h Y, MR h m A Y → RSH Y ln le it → ∃ h', f_X11_walls (some m) (iI s) h = some (r, h') ∧ go1 m h Y A' h') ∧ WF A' ∧ kX A A' := fun r h1 h2 =>
    ⟨r, A, fun h n F hX hS hT => by obtain ⟨S, s1, s2⟩ := id hS; exact ⟨h, h1 h n F S hX s1 s2 hT, hS, fr_rf _ _ _⟩, fun h Y hM hT => ⟨h, h2 h Y hM hT, go1_rf hM⟩, hW, kX_rf A⟩
  by_cases c1 : 0 ≤ s ∧ s < 4
  · have c1n : s.toNat < 4 := by omega
    have lr := lnR hI c1n
    have lg := lnG hI c1n
    have leg := (hI s.toNat c1n).2.1
    have lng := (hI s.toNat c1n).1
    have rg := refS_rg ln le s.toNat 0 0 64
    have CE : ∀ h n, h X = oX X n → SHT h X ln le it → f_X10_walls (some X) (iI s) h = if refS ln le s.toNat 0 0 64 = 0 then
        z_b2 (f_X7_asCells (some (X + 194 + 2 * s.toNat)) h) (fun v13 h12 => (z_gA h12 10 0 (some X)).bind fun v14 => (z_ck h12 6 v14).bind fun _ => z_b2 (f_X6_inUse v14 h12) fun v17 h16 =>
          if (lg_cmp (v17 &&& v13) (0 : Int64)) = iI 0 then (z_gA h16 10 0 (some X)).bind fun v18 => (z_pF h16 6 0 v18 (tJ v13)).bind fun h19 => z_b2 (f_J13_bitCount_95d88 v13 h19) fun v21 h20 => some (v21, h20) else some (iI (-2), h16)) else some (iI (refS ln le s.toNat 0 0 64), h) := by
      intro h n hX hT
      unfold f_X10_walls
      rw [Xck hX, Option.bind_some, C_isSheet hX hT hs, z_b2_some]
      simp only [iI_lit, iI_neg]
      rw [ite_tb, if_pos c1, Xg2 hX, Option.bind_some, XshA hT c1, Option.bind_some, Hck hT c1n, Option.bind_some, C_refS hT hI c1n (by unfold rgI; omega) (by unfold rgI; omega) (by unfold rgI; omega), z_b2_some, iteEq (by omega), Xg2 hX, Option.bind_some, XshA hT c1, Option.bind_some, Hck hT c1n, Option.bind_some]
    have RE : ∀ h Y, MR h m A Y → RSH Y ln le it → f_X11_walls (some m) (iI s) h = if refS ln le s.toNat 0 0 64 = 0 then f_X11_walls_b49 (some m) (iI s) (iI 0) h else some (iI (refS ln le s.toNat 0 0 64), h) := by
      intro h Y hM hT
      unfold f_X11_walls refS
      rw [R_isSheet hs, z_b2_some]
      simp only [iI_lit, iI_add, iI_sub, iI_mul, iI_neg]
      rw [ite_tb, if_pos c1, Mg6 hM.1, Option.bind_some, Y6 hM hT c1, Option.bind_some, Option.bind_some, Y6 hM hT c1, Option.bind_some]
      by_cases q1 : ln s.toNat < 0
      · rw [if_pos q1, if_pos q1, if_neg (nLe (by omega))]; rfl
      · rw [if_neg q1, if_neg q1, if_pos (cLe (by omega)), iteEq (by omega)]
        by_cases q2 : ln s.toNat = 0
        · rw [if_pos q2, if_pos q2, Mg7 hM.1, Option.bind_some, Y7 hM hT c1 (by omega), Option.bind_some, iteLe (by omega)]
          by_cases q3 : 64 ≤ le s.toNat
          · rw [if_pos q3, if_pos (show (0 : Int) ≤ 0 ∧ (0 : Int) ≤ 64 ∧ 0 + 64 ≤ le s.toNat by omega), if_pos rfl]
          · rw [if_neg q3, if_neg (show ¬ ((0 : Int) ≤ 0 ∧ (0 : Int) ≤ 64 ∧ 0 + 64 ≤ le s.toNat) by omega)]; rfl
        · rw [if_neg q2, if_neg q2]; rfl
    by_cases c3 : refS ln le s.toNat 0 0 64 = 0
    · have l0 : ln s.toNat = 0 := by
        unfold refS at c3
        by_cases q1 : ln s.toNat < 0
        · rw [if_pos q1] at c3; omega
        · rw [if_neg q1] at c3
          by_cases q2 : ln s.toNat = 0
          · exact q2
          · rw [if_neg q2] at c3; omega
      have hi := (hI s.toNat c1n).2.2 l0
      by_cases c4 : ∃ c : Int, (((0 : Nat) : Int) ≤ c ∧ c < 64) ∧ busy A (it s.toNat) c
      · refine no (iI (-2)) (fun h n F S hX s1 s2 hT => ?_) (fun h Y hM hT => ?_)
        · rw [CE h n hX hT, if_pos c3, C_asCells hT c1n hi, z_b2_some, Xg0 hX, Option.bind_some, Sck s1, Option.bind_some, C_inUse s1 s2 hW, z_b2_some, bset_and, cmpite0, if_pos ?_]
          obtain ⟨c, q1, q2⟩ := c4
          exact ⟨c, by omega, q2.2, q2.1⟩
        · rw [RE h Y hM hT, if_pos c3]
          exact (R_wl1 hM hW hT c1 hi 64 0 (by omega)).1 c4
      · refine ⟨iI ((cN (bitE (fun c => it s.toNat c.toNat = iI 1)) 64 : Nat) : Int), wlA (it s.toNat) A, fun h n F hX hS hT => ?_, fun h Y hM hT => ?_, WF_walls hW (fun c g1 g2 q => c4 ⟨c, by omega, q⟩), fun j hj => wlA_n (by omega)⟩
        · obtain ⟨S, s1, s2⟩ := hS
          refine ⟨_, ?_, ⟨_, SAt_o s1 (S' := sW S (bset (fun c => it s.toNat c.toNat = iI 1))) rfl rfl rfl rfl rfl, SRel_walls s2 hW _⟩, fr_up (by omega) (by omega)⟩
          rw [CE h n hX hT, if_pos c3, C_asCells hT c1n hi, z_b2_some, Xg0 hX, Option.bind_some, Sck s1, Option.bind_some, C_inUse s1 s2 hW, z_b2_some, bset_and, cmpite0, if_neg (fun ⟨c, q1, q2, q3⟩ => c4 ⟨c, by omega, q3, q2⟩), Xg0 hX, Option.bind_some, SpW s1, Option.bind_some, bcount_set, z_b2_some]
        · obtain ⟨h', k1, k2⟩ := R_wl2 hM hT c1 hi
          refine ⟨h', ?_, k2⟩
          rw [RE h Y hM hT, if_pos c3]
          exact ((R_wl1 hM hW hT c1 hi 64 0 (by omega)).2 c4).trans k1
    · refine no (iI (refS ln le s.toNat 0 0 64)) (fun h n F S hX s1 s2 hT => ?_) (fun h Y hM hT => ?_)
      · rw [CE h n hX hT, if_neg c3]
      · rw [RE h Y hM hT, if_neg c3]
  · refine no (iI (-1)) (fun h n F S hX s1 s2 hT => ?_) (fun h Y hM hT => ?_)
    · unfold f_X10_walls
      rw [Xck hX, Option.bind_some, C_isSheet hX hT hs, z_b2_some]
      simp only [iI_lit, iI_neg]
      rw [ite_tb, if_neg c1]
    · unfold f_X11_walls
      rw [R_isSheet hs, z_b2_some]
      simp only [iI_lit, iI_add, iI_sub, iI_mul, iI_neg]
      rw [ite_tb, if_neg c1]
end WM
