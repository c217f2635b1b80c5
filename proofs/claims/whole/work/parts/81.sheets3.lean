section SJ
variable {X m : Nat} {U : Int → Option Nat} {A : Int → Int} {ln le : Nat → Int} {it : Nat → Nat → Int32}
noncomputable def narV (l v : Int) : Int32 := if l = 0 then (if v = 0 then iI 0 else iI 1) else if l = 1 then (Int32.toInt8 (iI v)).toInt32 else iI v
theorem K_item (hI : SHI ln le it) {s l i v : Int} (hs : rgI s) (hl : rgI l) (hi : rgI i) (hv : rgI v) : KH X m U A ln le it (f_X10_item (some X) (iI s) (iI l) (iI i) (iI v)) (f_X11_item (some m) (iI s) (iI l) (iI i) (iI v)) := by
  have hl' : -2147483648 ≤ l ∧ l < 2147483648 := hl
  have hi' : -2147483648 ≤ i ∧ i < 2147483648 := hi
  have hv' : -2147483648 ≤ v ∧ v < 2147483648 := hv
  by_cases c1 : 0 ≤ s ∧ s < 4
  · have c1n : s.toNat < 4 := by omega
    by_cases c2 : 0 ≤ l ∧ l ≤ 2
    · have lr := lnR hI c1n
      have lg := lnG hI c1n
      have leg := (hI s.toNat c1n).2.1
      have lng := (hI s.toNat c1n).1
      have CE : ∀ h n, h X = oX X n → SHT h X ln le it → f_X10_item (some X) (iI s) (iI l) (iI i) (iI v) h = if refS ln le s.toNat l i 1 = 0 then (z_sI h (some (X + 195 + 2 * s.toNat)) (iI i) (narV l v)).bind (fun h16 => some (iI 1, h16)) else some (iI (refS ln le s.toNat l i 1), h) := by
        intro h n hX hT
        have rg : -13 ≤ refS ln le s.toNat l i 1 ∧ refS ln le s.toNat l i 1 ≤ 0 := by
          unfold refS; split; omega; split; (split <;> omega); omega
        unfold f_X10_item
        rw [Xck hX, Option.bind_some, C_isSheet hX hT hs, z_b2_some]
        simp only [iI_lit, iI_add, iI_sub, iI_mul, iI_neg]
        rw [ite_tb, if_pos c1, C_isLane hl, z_b2_some, ite_tb, if_pos c2, Xg2 hX, Option.bind_some, XshA hT c1, Option.bind_some, Hck hT c1n, Option.bind_some, C_refS hT hI c1n hl hi (by unfold rgI; omega), z_b2_some, iteEq (by omega)]
        refine ite_c (fun q => ?_) (fun q => ?_)
        · rw [if_pos q, Xg2 hX, Option.bind_some, XshA hT c1, Option.bind_some, Hg2 hT c1n, Option.bind_some]
          have nv : f_X10_narrowed (iI l) (iI v) h = some (narV l v, h) := by
            unfold f_X10_narrowed narV
            simp (disch := omega) only [iI_lit, iI_add, iI_sub, iI_mul, iI_neg, iteEq]
            by_cases l0 : l = 0
            · rw [if_pos l0, if_pos l0]
              by_cases v0 : v = 0
              · rw [if_pos v0, if_pos v0]
              · rw [if_neg v0, if_neg v0]
            · rw [if_neg l0, if_neg l0]
              by_cases l1 : l = 1
              · rw [if_pos l1, if_pos l1]
              · rw [if_neg l1, if_neg l1]
          rw [nv, z_b2_some]
        · rw [if_neg q]
      have RE : ∀ h Y, MR h m A Y → RSH Y ln le it → f_X11_item (some m) (iI s) (iI l) (iI i) (iI v) h = if refS ln le s.toNat l i 1 = 0 then (z_sI h (some (m + 8)) (iI (64 * s + i)) (narV l v)).bind (fun h16 => some (iI 1, h16)) else some (iI (refS ln le s.toNat l i 1), h) := by
        intro h Y hM hT
        unfold f_X11_item
        rw [R_isSheet hs, z_b2_some]
        simp only [iI_lit, iI_add, iI_sub, iI_mul, iI_neg]
        rw [ite_tb, if_pos c1, R_in2 (by omega), z_b2_some, ite_tb, if_pos c2, Mg6 hM.1, Option.bind_some, Y6 hM hT c1, Option.bind_some, Option.bind_some, Y6 hM hT c1, Option.bind_some]
        unfold refS
        by_cases q1 : ln s.toNat < 0
        · rw [if_pos q1, if_pos q1, if_neg (nLe (by omega))]; rfl
        · rw [if_neg q1, if_neg q1, if_pos (cLe (by omega)), iteEq (by omega)]
          by_cases q2 : ln s.toNat = l
          · rw [if_pos q2, if_pos q2, Mg7 hM.1, Option.bind_some, Y7 hM hT c1 (by omega), Option.bind_some, iI_sub, R_in2 (by omega), z_b2_some, ite_tb]
            by_cases q3 : 0 ≤ i ∧ i ≤ le s.toNat - 1
            · rw [if_pos q3, if_pos (show 0 ≤ i ∧ (0 : Int) ≤ 1 ∧ i + 1 ≤ le s.toNat by omega), if_pos rfl, Mg8 hM.1, Option.bind_some]
              unfold narV
              simp (disch := omega) only [iteEq]
              by_cases l0 : l = 0
              · rw [if_pos l0, if_pos l0]
                by_cases v0 : v = 0
                · rw [if_pos v0, if_pos v0]
                · rw [if_neg v0, if_neg v0]
              · rw [if_neg l0, if_neg l0]
                by_cases l1 : l = 1
                · rw [if_pos l1, if_pos l1]
                · rw [if_neg l1, if_neg l1]
            · rw [if_neg q3, if_neg (show ¬ (0 ≤ i ∧ (0 : Int) ≤ 1 ∧ i + 1 ≤ le s.toNat) by omega)]; rfl
          · rw [if_neg q2, if_neg q2]; rfl
      by_cases c3 : refS ln le s.toNat l i 1 = 0
      · have c4 : ln s.toNat = l ∧ 0 ≤ i ∧ i + 1 ≤ le s.toNat := by
          unfold refS at c3
          by_cases q1 : ln s.toNat < 0
          · rw [if_pos q1] at c3; omega
          · rw [if_neg q1] at c3
            by_cases q2 : ln s.toNat = l
            · rw [if_pos q2] at c3
              by_cases q3 : 0 ≤ i ∧ (0 : Int) ≤ 1 ∧ i + 1 ≤ le s.toNat
              · exact ⟨q2, q3.1, q3.2.2⟩
              · rw [if_neg q3] at c3; omega
            · rw [if_neg q2] at c3; omega
        refine ⟨iI 1, ln, le, updR it s.toNat (upd (it s.toNat) i.toNat (narV l v)), fun h n F hX hS hT => ?_, fun h Y hM hT => ?_, SHI_it hI c1n (fun q j hj => ?_)⟩
        · obtain ⟨h', k1, k2, k3⟩ := Hsi hT c1n (e := i) (by omega) (narV l v)
          refine ⟨h', ?_, k2, k3⟩
          rw [CE h n hX hT, if_pos c3, k1, Option.bind_some]
        · have M1 := MR_up hM (k := 8) (by omega) (by omega) (upd (Y 8) (64 * s + i).toNat (narV l v))
          refine ⟨_, _, ?_, M1, ?_, oS_up _ _ (by omega), fr_up (by omega) (by omega)⟩
          · rw [RE h Y hM hT, if_pos c3, S8 hM (by omega), Option.bind_some]
          · have q := RSH_8 hT (s := s.toNat) c1n (e := i.toNat) (by omega) (narV l v)
            rw [show (64 * s + i).toNat = 64 * s.toNat + i.toNat by omega]
            exact q
        · by_cases e : j = i.toNat
          · subst e
            rw [pk_us]
            unfold narV
            rw [if_pos (by omega)]
            by_cases v0 : v = 0
            · rw [if_pos v0]; exact Or.inl rfl
            · rw [if_neg v0]; exact Or.inr rfl
          · rw [pk_un e]; exact (hI s.toNat c1n).2.2 q j hj
      · refine KH_no (iI (refS ln le s.toNat l i 1)) hI (fun h n F S hX s1 s2 hT => ?_) (fun h Y hM hT => ?_)
        · rw [CE h n hX hT, if_neg c3]
        · rw [RE h Y hM hT, if_neg c3]
    · refine KH_no (iI (-1)) hI (fun h n F S hX s1 s2 hT => ?_) (fun h Y hM hT => ?_)
      · unfold f_X10_item
        rw [Xck hX, Option.bind_some, C_isSheet hX hT hs, z_b2_some]
        simp only [iI_lit, iI_add, iI_sub, iI_mul, iI_neg]
        rw [ite_tb, if_pos c1, C_isLane hl, z_b2_some, ite_tb, if_neg c2]
      · unfold f_X11_item
        rw [R_isSheet hs, z_b2_some]
        simp only [iI_lit, iI_add, iI_sub, iI_mul, iI_neg]
        rw [ite_tb, if_pos c1, R_in2 (by omega), z_b2_some, ite_tb, if_neg c2]
  · refine KH_no (iI (-1)) hI (fun h n F S hX s1 s2 hT => ?_) (fun h Y hM hT => ?_)
    · unfold f_X10_item
      rw [Xck hX, Option.bind_some, C_isSheet hX hT hs, z_b2_some]
      simp only [iI_lit, iI_add, iI_sub, iI_mul, iI_neg]
      rw [ite_tb, if_neg c1]
    · unfold f_X11_item
      rw [R_isSheet hs, z_b2_some]
      simp only [iI_lit, iI_add, iI_sub, iI_mul, iI_neg]
      rw [ite_tb, if_neg c1]
/-! films -/
noncomputable def flR (A : Int → Int) (ln le : Nat → Int) (a s l i : Int) : Int := if 0 ≤ a ∧ a < A 64 then (if 0 ≤ s ∧ s < 4 then (if l = 1 ∨ l = 2 then refS ln le s.toNat l i (A (70 + 40 * a)) else -1) else -1) else -1
theorem refS_rg (ln le : Nat → Int) (s : Nat) (l i c : Int) : -13 ≤ refS ln le s l i c ∧ refS ln le s l i c ≤ 0 := by
  unfold refS; split; omega; split; (split <;> omega); omega
theorem flR_rg (A : Int → Int) (ln le : Nat → Int) (a s l i : Int) : -13 ≤ flR A ln le a s l i ∧ flR A ln le a s l i ≤ 0 := by
  unfold flR; split; (split; (split; exact refS_rg _ _ _ _ _ _; omega); omega); omega
theorem flR_0 {a s l i : Int} (h : flR A ln le a s l i = 0) : (0 ≤ a ∧ a < A 64) ∧ (0 ≤ s ∧ s < 4) ∧ (l = 1 ∨ l = 2) ∧ ln s.toNat = l ∧ 0 ≤ i ∧ i + A (70 + 40 * a) ≤ le s.toNat := by
  unfold flR at h
  by_cases q1 : 0 ≤ a ∧ a < A 64
  · rw [if_pos q1] at h
    by_cases q2 : 0 ≤ s ∧ s < 4
    · rw [if_pos q2] at h
      by_cases q3 : l = 1 ∨ l = 2
      · rw [if_pos q3] at h
        unfold refS at h
        by_cases q4 : ln s.toNat < 0
        · rw [if_pos q4] at h; omega
        · rw [if_neg q4] at h
          by_cases q5 : ln s.toNat = l
          · rw [if_pos q5] at h
            by_cases q6 : 0 ≤ i ∧ 0 ≤ A (70 + 40 * a) ∧ i + A (70 + 40 * a) ≤ le s.toNat
            · exact ⟨q1, q2, q3, q5, q6.1, q6.2.2⟩
            · rw [if_neg q6] at h; omega
          · rw [if_neg q5] at h; omega
      · rw [if_neg q3] at h; omega
    · rw [if_neg q2] at h; omega
  · rw [if_neg q1] at h; omega
theorem C_flR {h : zH} {n : Int32} {F : Nat → Nat → Int32} {S : zS} (hX : h X = oX X n) (hS : SAt h (X + 1) S) (hR : SRel A U F S) (hW : WF A) (hT : SHT h X ln le it) (hI : SHI ln le it) {a s l i : Int} (ha : rgI a) (hs : rgI s) (hl : rgI l) (hi : rgI i) : f_X10_refusesFilm (some X) (iI a) (iI s) (iI l) (iI i) h = some (iI (flR A ln le a s l i), h) := by
  have hn := hW.n
  have hl' : -2147483648 ≤ l ∧ l < 2147483648 := hl
  unfold f_X10_refusesFilm f_X10_refusesFilm_b28 flR
  rw [Xck hX, Option.bind_some, C_isArm hX hS hR hW ha, z_b2_some]
  simp only [iI_lit, iI_add, iI_sub, iI_mul, iI_neg]
  rw [ite_tb]
  by_cases q1 : 0 ≤ a ∧ a < A 64
  · rw [if_pos q1, if_pos q1, Xck hX, Option.bind_some, C_isSheet hX hT hs, z_b2_some, ite_tb]
    by_cases q2 : 0 ≤ s ∧ s < 4
    · have m0 := hR.m0 a q1.1 q1.2
      have pc := hW.pc q1
      have e : (z_gA h 10 2 (some X)).bind (fun v1 => (z_aA h v1 (iI s)).bind fun v2 => (z_gA h 10 0 (some X)).bind fun v3 => (z_gA h 6 3 v3).bind fun v4 => (z_aA h v4 (iI a)).bind fun v5 => (z_gI h 0 0 v5).bind fun v6 => (z_ck h 7 v2).bind fun _ => z_b2 (f_X7_refuses v2 (iI l) (iI i) v6 h) fun v9 h8 => some (v9, h8)) = some (iI (refS ln le s.toNat l i (A (70 + 40 * a))), h) := by
        rw [Xg2 hX, Option.bind_some, XshA hT q2, Option.bind_some, Xg0 hX, Option.bind_some, Sg3 hS, Option.bind_some, Sarm hS (by omega) (by omega), Option.bind_some, An0 hS (by omega), Option.bind_some, m0, Hck hT (by omega), Option.bind_some, C_refS hT hI (by omega) hl hi (by unfold rgI; omega), z_b2_some]
      rw [if_pos q2, if_pos q2, e, iteEq (by omega), iteEq (by omega)]
      by_cases l1 : l = 1
      · rw [if_pos l1, if_pos (Or.inl l1)]
      · rw [if_neg l1]
        by_cases l2 : l = 2
        · rw [if_pos l2, if_pos (Or.inr l2)]
        · rw [if_neg l2, if_neg (by omega)]
    · rw [if_neg q2, if_neg q2]
  · rw [if_neg q1, if_neg q1]
theorem R_flR {h : zH} {Y : Nat → Nat → Int32} (hM : MR h m A Y) (hW : WF A) (hT : RSH Y ln le it) (hI : SHI ln le it) {a s l i : Int} (ha : rgI a) (hs : rgI s) (hl : rgI l) (hi : rgI i) : f_X11_bars (some m) (iI a) (iI s) (iI l) (iI i) h = some (iI (flR A ln le a s l i), h) := by
  have hn := hW.n
  have hl' : -2147483648 ≤ l ∧ l < 2147483648 := hl
  have hi' : -2147483648 ≤ i ∧ i < 2147483648 := hi
  unfold f_X11_bars flR
  rw [Mck hM.1, Option.bind_some, R_isArm hM ha hn.1, z_b2_some]
  simp only [iI_lit, iI_add, iI_sub, iI_mul, iI_neg]
  rw [ite_tb]
  by_cases q1 : 0 ≤ a ∧ a < A 64
  · rw [if_pos q1, if_pos q1, R_isSheet hs, z_b2_some, ite_tb]
    by_cases q2 : 0 ≤ s ∧ s < 4
    · have pc := hW.pc q1
      have c1n : s.toNat < 4 := by omega
      have lr := lnR hI c1n
      have lg := lnG hI c1n
      have leg := (hI s.toNat c1n).2.1
      have lng := (hI s.toNat c1n).1
      rw [if_pos q2, if_pos q2, R_in2 (by omega), z_b2_some, ite_tb]
      by_cases q3 : 1 ≤ l ∧ l ≤ 2
      · rw [if_pos q3, if_pos (show l = 1 ∨ l = 2 by omega), Mg6 hM.1, Option.bind_some, Y6 hM hT q2, Option.bind_some, Option.bind_some, Y6 hM hT q2, Option.bind_some]
        unfold refS
        by_cases q4 : ln s.toNat < 0
        · rw [if_pos q4, if_pos q4, if_neg (nLe (by omega))]
        · rw [if_neg q4, if_neg q4, if_pos (cLe (by omega)), iteEq (by omega)]
          by_cases q5 : ln s.toNat = l
          · rw [if_pos q5, if_pos q5, iteLt (by omega)]
            by_cases q6 : i < 0
            · rw [if_pos q6, if_neg (by omega)]
            · rw [if_neg q6, Mg7 hM.1, Option.bind_some, Y7 hM hT q2 (by omega), Option.bind_some, Mck hM.1, Option.bind_some, R_pieces hM (by omega), z_b2_some, iI_sub, iteLe (by omega)]
              by_cases q7 : i ≤ le s.toNat - A (70 + 40 * a)
              · rw [if_pos q7, if_pos (by omega)]
              · rw [if_neg q7, if_neg (by omega)]
          · rw [if_neg q5, if_neg q5]
      · rw [if_neg q3, if_neg (show ¬ (l = 1 ∨ l = 2) by omega)]
    · rw [if_neg q2, if_neg q2]
  · rw [if_neg q1, if_neg q1]
end SJ
