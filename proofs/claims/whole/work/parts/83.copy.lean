section SL
variable {X m : Nat} {U : Int → Option Nat} {A : Int → Int} {ln le : Nat → Int} {it : Nat → Nat → Int32}
theorem ls_int {a b : Int} (ha : -2147483648 ≤ a ∧ a < 2147483648) (hb : -2147483648 ≤ b ∧ b < 2147483648) : (Int32.toInt64 (iI a) + Int32.toInt64 (iI b)).toInt = a + b := by
  rw [Int64.toInt_add, Int32.toInt_toInt64, Int32.toInt_toInt64, iI_toInt ha.1 ha.2, iI_toInt hb.1 hb.2]
  exact Int.bmod_eq_of_le (by omega) (by omega)
theorem lgt3 {a b c : Int} (ha : -2147483648 ≤ a ∧ a < 2147483648) (hb : -2147483648 ≤ b ∧ b < 2147483648) (hc : -2147483648 ≤ c ∧ c < 2147483648) : (iI 0 < lg_cmp (Int32.toInt64 (iI a) + Int32.toInt64 (iI b)) (Int32.toInt64 (iI c))) ↔ c < a + b := by
  rw [show iI 0 = (0 : Int32) from rfl, lg_cmp_gt, Int64.lt_iff_toInt_lt, ls_int ha hb, Int32.toInt_toInt64, iI_toInt hc.1 hc.2]
theorem lle3 {a b c : Int} (ha : -2147483648 ≤ a ∧ a < 2147483648) (hb : -2147483648 ≤ b ∧ b < 2147483648) (hc : -2147483648 ≤ c ∧ c < 2147483648) : (lg_cmp (Int32.toInt64 (iI a) + Int32.toInt64 (iI b)) (Int32.toInt64 (iI c)) ≤ iI 0) ↔ a + b ≤ c := by
  rw [show iI 0 = (0 : Int32) from rfl, lg_cmp_le, Int64.le_iff_toInt_le, ls_int ha hb, Int32.toInt_toInt64, iI_toInt hc.1 hc.2]
theorem R_cp1 {h : zH} {Y : Nat → Nat → Int32} (hM : MR h m A Y) (hT : RSH Y ln le it) {s1 i1 s2 i2 k : Int} (hs1 : 0 ≤ s1 ∧ s1 < 4) (hs2 : 0 ≤ s2 ∧ s2 < 4) (h1 : 0 ≤ i1 ∧ i1 + k ≤ 64) (h2 : 0 ≤ i2 ∧ i2 + k ≤ 64) (hk : 0 ≤ k) :
    ∃ h' Y', f_X11_copy_b110 (some m) (iI s1) (iI i1) (iI s2) (iI i2) (iI k) (iI 0) h = some (iI k, h') ∧ MR h' m A Y' ∧ RSH Y' ln le (updR it s2.toNat (va_cpy (it s1.toNat) (it s2.toNat) i1.toNat i2.toNat k.toNat)) ∧ oS Y Y' ∧ fr m 19 h h' := by
  have L2 : ∀ (h1 : zH) (Y1 : Nat → Nat → Int32), MR h1 m A Y1 → RSH Y1 ln le it → (∀ j, j < k.toNat → Y1 18 j = it s1.toNat (i1.toNat + j)) → ∃ h' Y', f_X11_copy_b147 (some m) (iI s2) (iI i2) (iI k) (iI 0) h1 = some (iI k, h') ∧ MR h' m A Y' ∧ RSH Y' ln le (updR it s2.toNat (va_cpy (it s1.toNat) (it s2.toNat) i1.toNat i2.toNat k.toNat)) ∧ oS Y1 Y' ∧ fr m 19 h1 h' := by
    intro h1 Y1 M1 T1 hr
    have key := z_forI (body := fun s : (Option Nat) × Int32 × Int32 × Int32 × Int32 × zH => f_X11_copy_c147 s.1 s.2.1 s.2.2.1 s.2.2.2.1 s.2.2.2.2.1 s.2.2.2.2.2) (Q := fun r => r.1 = iI k ∧ ∃ Y', MR r.2 m A Y' ∧ RSH Y' ln le (updR it s2.toNat (va_cpy (it s1.toNat) (it s2.toNat) i1.toNat i2.toNat k.toNat)) ∧ oS Y1 Y' ∧ fr m 19 h1 r.2)
      (fun i st => ∃ h' Y', st = (some m, iI s2, iI i2, iI k, iI (i : Int), h') ∧ MR h' m A Y' ∧ RSH Y' ln le (updR it s2.toNat (va_cpy (it s1.toNat) (it s2.toNat) i1.toNat i2.toNat i)) ∧ Y' 18 = Y1 18 ∧ oS Y1 Y' ∧ fr m 19 h1 h') k.toNat ?_ ?_ k.toNat 0 (some m, iI s2, iI i2, iI k, iI 0, h1) (by omega) ⟨h1, Y1, rfl, M1, ?_, rfl, oS_rf _, fr_rf _ _ _⟩
    · obtain ⟨r, k1, k2, Y', k3, k4, k5, k6⟩ := key
      refine ⟨r.2, Y', ?_, k3, k4, k5, k6⟩
      unfold f_X11_copy_b147
      rw [k1, ← k2]
    · rintro i st hi ⟨h2, Y2, rfl, k1, k2, k3, k4, k5⟩
      have M2 := MR_up k1 (k := 8) (by omega) (by omega) (upd (Y2 8) (64 * s2 + i2 + (i : Int)).toNat (it s1.toNat (i1.toNat + i)))
      refine Or.inl ⟨_, ?_, _, _, rfl, M2, ?_, ?_, oS_tr k4 (oS_up _ _ (by omega)), fr_tr k5 (fr_up (by omega) (by omega))⟩
      · show f_X11_copy_c147 (some m) (iI s2) (iI i2) (iI k) (iI (i : Int)) h2 = _
        unfold f_X11_copy_c147
        simp only [iI_lit, iI_add, iI_sub, iI_mul, iI_neg]
        rw [if_neg (nLe (by omega)), Mg8 k1.1, Option.bind_some, Mg21 k1.1, Option.bind_some, z_aI_k (k1.1 18 (by omega)) (Or.inl rfl) (by omega) (by omega) (by decide), Option.bind_some, show ((i : Int)).toNat = i by omega, k3, hr i hi, S8 k1 (by omega), Option.bind_some]
        rfl
      · have q := RSH_8 k2 (s := s2.toNat) (by omega) (e := i2.toNat + i) (by omega) (it s1.toNat (i1.toNat + i))
        rw [updR_s, updR_2] at q
        have e : upd (va_cpy (it s1.toNat) (it s2.toNat) i1.toNat i2.toNat i) (i2.toNat + i) (it s1.toNat (i1.toNat + i)) = va_cpy (it s1.toNat) (it s2.toNat) i1.toNat i2.toNat (i + 1) := by
          funext j
          by_cases e : j = i2.toNat + i
          · subst e; rw [pk_us]; unfold va_cpy; rw [if_pos (by omega), show i2.toNat + i - i2.toNat = i by omega]
          · rw [pk_un e]; unfold va_cpy
            by_cases q : i2.toNat ≤ j ∧ j < i2.toNat + i
            · rw [if_pos q, if_pos (by omega)]
            · rw [if_neg q, if_neg (by omega)]
        rw [e] at q
        rw [show (64 * s2 + i2 + (i : Int)).toNat = 64 * s2.toNat + (i2.toNat + i) by omega]
        exact q
      · rw [updR_n _ _ (by omega)]; exact k3
    · rintro st ⟨h2, Y2, rfl, k1, k2, k3, k4, k5⟩
      refine ⟨(iI k, h2), ?_, rfl, Y2, k1, k2, k4, k5⟩
      show f_X11_copy_c147 (some m) (iI s2) (iI i2) (iI k) (iI (k.toNat : Int)) h2 = _
      unfold f_X11_copy_c147
      rw [if_pos (cLe (by omega))]
      rfl
    · have e : va_cpy (it s1.toNat) (it s2.toNat) i1.toNat i2.toNat 0 = it s2.toNat := by funext j; unfold va_cpy; rw [if_neg (by omega)]
      rw [e, updR_self]; exact T1
  have key := z_forI (body := fun s : (Option Nat) × Int32 × Int32 × Int32 × Int32 × Int32 × Int32 × zH => f_X11_copy_c110 s.1 s.2.1 s.2.2.1 s.2.2.2.1 s.2.2.2.2.1 s.2.2.2.2.2.1 s.2.2.2.2.2.2.1 s.2.2.2.2.2.2.2) (Q := fun r => r.1 = iI k ∧ ∃ Y', MR r.2 m A Y' ∧ RSH Y' ln le (updR it s2.toNat (va_cpy (it s1.toNat) (it s2.toNat) i1.toNat i2.toNat k.toNat)) ∧ oS Y Y' ∧ fr m 19 h r.2)
    (fun i st => ∃ h' Y', st = (some m, iI s1, iI i1, iI s2, iI i2, iI k, iI (i : Int), h') ∧ MR h' m A Y' ∧ RSH Y' ln le it ∧ (∀ j, j < i → Y' 18 j = it s1.toNat (i1.toNat + j)) ∧ oS Y Y' ∧ fr m 19 h h') k.toNat ?_ ?_ k.toNat 0 (some m, iI s1, iI i1, iI s2, iI i2, iI k, iI 0, h) (by omega) ⟨h, Y, rfl, hM, hT, fun j hj => absurd hj (by omega), oS_rf _, fr_rf _ _ _⟩
  · obtain ⟨r, k1, k2, Y', k3, k4, k5, k6⟩ := key
    refine ⟨r.2, Y', ?_, k3, k4, k5, k6⟩
    unfold f_X11_copy_b110
    rw [k1, ← k2]
  · rintro i st hi ⟨h2, Y2, rfl, k1, k2, k3, k4, k5⟩
    have M2 := MR_up k1 (k := 18) (by omega) (by omega) (upd (Y2 18) i (it s1.toNat (i1.toNat + i)))
    refine Or.inl ⟨_, ?_, _, _, rfl, M2, ?_, fun j hj => ?_, oS_tr k4 (oS_up _ _ (by omega)), fr_tr k5 (fr_up (by omega) (by omega))⟩
    · show f_X11_copy_c110 (some m) (iI s1) (iI i1) (iI s2) (iI i2) (iI k) (iI (i : Int)) h2 = _
      unfold f_X11_copy_c110
      simp only [iI_lit, iI_add, iI_sub, iI_mul, iI_neg]
      rw [if_neg (nLe (by omega)), Mg21 k1.1, Option.bind_some, Mg8 k1.1, Option.bind_some, show 64 * s1 + i1 + (i : Int) = 64 * s1 + (i1 + (i : Int)) by omega, Y8 k1 k2 hs1 (by omega), Option.bind_some, z_sI_k (k1.1 18 (by omega)) (by omega) (by omega) (by decide), Option.bind_some, show ((i : Int)).toNat = i by omega, show (i1 + (i : Int)).toNat = i1.toNat + i by omega]
      rfl
    · intro s' hs'
      rw [updR_n _ _ (by omega), updR_n _ _ (by omega), updR_n _ _ (by omega)]; exact k2 s' hs'
    · rw [updR_s]
      by_cases e : j = i
      · subst e; exact pk_us
      · rw [pk_un e]; exact k3 j (by omega)
  · rintro st ⟨h2, Y2, rfl, k1, k2, k3, k4, k5⟩
    obtain ⟨h3, Y3, q1, q2, q3, q4, q5⟩ := L2 h2 Y2 k1 k2 k3
    refine ⟨(iI k, h3), ?_, rfl, Y3, q2, q3, oS_tr k4 q4, fr_tr k5 q5⟩
    show f_X11_copy_c110 (some m) (iI s1) (iI i1) (iI s2) (iI i2) (iI k) (iI (k.toNat : Int)) h2 = _
    unfold f_X11_copy_c110
    simp only [iI_lit, iI_add, iI_sub, iI_mul, iI_neg]
    rw [if_pos (cLe (by omega)), q1]
    rfl
theorem K_copy (hI : SHI ln le it) {s1 i1 s2 i2 k : Int} (hs1 : rgI s1) (hi1 : rgI i1) (hs2 : rgI s2) (hi2 : rgI i2) (hk : rgI k) : KH X m U A ln le it (f_X10_copy (some X) (iI s1) (iI i1) (iI s2) (iI i2) (iI k)) (f_X11_copy (some m) (iI s1) (iI i1) (iI s2) (iI i2) (iI k)) := by
  have hi1' : -2147483648 ≤ i1 ∧ i1 < 2147483648 := hi1
  have hi2' : -2147483648 ≤ i2 ∧ i2 < 2147483648 := hi2
  have hk' : -2147483648 ≤ k ∧ k < 2147483648 := hk
  by_cases c1 : 0 ≤ s1 ∧ s1 < 4
  · by_cases c2 : 0 ≤ s2 ∧ s2 < 4
    · have n1 : s1.toNat < 4 := by omega
      have n2 : s2.toNat < 4 := by omega
      have lr1 := lnR hI n1
      have lg1 := lnG hI n1
      have lr2 := lnR hI n2
      have lg2 := lnG hI n2
      have le1 := (hI s1.toNat n1).2.1
      have le2 := (hI s2.toNat n2).2.1
      have lng1 := (hI s1.toNat n1).1
      have lng2 := (hI s2.toNat n2).1
      have CE : ∀ h n, h X = oX X n → SHT h X ln le it → f_X10_copy (some X) (iI s1) (iI i1) (iI s2) (iI i2) (iI k) h = if ln s1.toNat < 0 then some (iI (-11), h) else if ln s2.toNat < 0 then some (iI (-11), h) else if ln s1.toNat = ln s2.toNat then (if (0 ≤ i1 ∧ 0 ≤ k ∧ i1 + k ≤ le s1.toNat) ∧ (0 ≤ i2 ∧ 0 ≤ k ∧ i2 + k ≤ le s2.toNat) then (z_cp h (some (X + 195 + 2 * s1.toNat)) (iI i1) (some (X + 195 + 2 * s2.toNat)) (iI i2) (iI k)).bind (fun h27 => some (iI k, h27)) else some (iI (-13), h)) else some (iI (-12), h) := by
        intro h n hX hT
        unfold f_X10_copy
        rw [Xck hX, Option.bind_some, C_isSheet hX hT hs1, z_b2_some]
        simp only [iI_lit, iI_add, iI_sub, iI_mul, iI_neg]
        rw [ite_tb, if_pos c1, Xck hX, Option.bind_some, C_isSheet hX hT hs2, z_b2_some, ite_tb, if_pos c2, Xg2 hX, Option.bind_some, XshA hT c1, Option.bind_some, Option.bind_some, XshA hT c2, Option.bind_some, Hck hT n1, Option.bind_some, C_holdsN hT hI n1, z_b2_some, ite_tb]
        by_cases q1 : ln s1.toNat < 0
        · rw [if_pos q1, if_pos q1]
        rw [if_neg q1, if_neg q1, Hck hT n2, Option.bind_some, C_holdsN hT hI n2, z_b2_some, ite_tb]
        by_cases q2 : ln s2.toNat < 0
        · rw [if_pos q2, if_pos q2]
        rw [if_neg q2, if_neg q2, Hi0 hT n1, Option.bind_some, Hi0 hT n2, Option.bind_some, iteEq (by omega)]
        by_cases q3 : ln s1.toNat = ln s2.toNat
        · rw [if_pos q3, if_pos q3, Hck hT n1, Option.bind_some, C_spans hT hI n1 hi1 hk, z_b2_some, ite_tb]
          by_cases q4 : 0 ≤ i1 ∧ 0 ≤ k ∧ i1 + k ≤ le s1.toNat
          · rw [if_pos q4, Hck hT n2, Option.bind_some, C_spans hT hI n2 hi2 hk, z_b2_some, ite_tb]
            by_cases q5 : 0 ≤ i2 ∧ 0 ≤ k ∧ i2 + k ≤ le s2.toNat
            · rw [if_pos q5, if_pos ⟨q4, q5⟩, Hg2 hT n1, Option.bind_some, Hg2 hT n2, Option.bind_some]
            · rw [if_neg q5, if_neg (fun q => q5 q.2)]
          · rw [if_neg q4, if_neg (fun q => q4 q.1)]
        · rw [if_neg q3, if_neg q3]
      have RE : ∀ h Y, MR h m A Y → RSH Y ln le it → f_X11_copy (some m) (iI s1) (iI i1) (iI s2) (iI i2) (iI k) h = if ln s1.toNat < 0 then some (iI (-11), h) else if ln s2.toNat < 0 then some (iI (-11), h) else if ln s1.toNat = ln s2.toNat then (if (0 ≤ i1 ∧ 0 ≤ k ∧ i1 + k ≤ le s1.toNat) ∧ (0 ≤ i2 ∧ 0 ≤ k ∧ i2 + k ≤ le s2.toNat) then f_X11_copy_b110 (some m) (iI s1) (iI i1) (iI s2) (iI i2) (iI k) (iI 0) h else some (iI (-13), h)) else some (iI (-12), h) := by
        intro h Y hM hT
        unfold f_X11_copy
        rw [R_isSheet hs1, z_b2_some]
        simp only [iI_lit, iI_add, iI_sub, iI_mul, iI_neg]
        rw [ite_tb, if_pos c1, R_isSheet hs2, z_b2_some, ite_tb, if_pos c2, Mg6 hM.1, Option.bind_some, Y6 hM hT c1, Option.bind_some]
        by_cases q1 : ln s1.toNat < 0
        · rw [if_pos q1, if_pos (show ln s1.toNat < 0 from q1), if_pos (cLt (by omega))]
        rw [if_neg q1, if_neg (show ¬ ln s1.toNat < 0 from q1), if_neg (nLt (by omega)), Option.bind_some, Y6 hM hT c2, Option.bind_some]
        by_cases q2 : ln s2.toNat < 0
        · rw [if_pos q2, if_pos (show ln s2.toNat < 0 from q2), if_neg (nLe (by omega))]
        rw [if_neg q2, if_neg (show ¬ ln s2.toNat < 0 from q2), if_pos (cLe (by omega)), Option.bind_some, Y6 hM hT c1, Option.bind_some, Option.bind_some, Y6 hM hT c2, Option.bind_some, if_neg q1, if_neg q2, iteEq (by omega)]
        by_cases q3 : ln s1.toNat = ln s2.toNat
        · rw [if_pos q3, if_pos q3, iteLt (by omega)]
          by_cases p1 : i1 < 0
          · rw [if_pos p1, if_neg (by omega)]
          rw [if_neg p1, iteLt (by omega)]
          by_cases p2 : i2 < 0
          · rw [if_pos p2, if_neg (by omega)]
          rw [if_neg p2, iteLt (by omega)]
          by_cases p3 : k < 0
          · rw [if_pos p3, if_neg (by omega)]
          rw [if_neg p3, Mg7 hM.1, Option.bind_some, Y7 hM hT c1 (by omega), Option.bind_some]
          by_cases p4 : i1 + k ≤ le s1.toNat
          · rw [if_neg (by rw [lgt3 hi1' hk' (by omega)]; omega), Option.bind_some, Y7 hM hT c2 (by omega), Option.bind_some]
            by_cases p5 : i2 + k ≤ le s2.toNat
            · rw [if_pos ((lle3 hi2' hk' (by omega)).mpr p5), if_pos (by omega)]
            · rw [if_neg (by rw [lle3 hi2' hk' (by omega)]; exact p5), if_neg (by omega)]
          · rw [if_pos ((lgt3 hi1' hk' (by omega)).mpr (by omega)), if_neg (by omega)]
        · rw [if_neg q3, if_neg q3]
      by_cases q1 : ln s1.toNat < 0
      · refine KH_no (iI (-11)) hI (fun h n F S hX s1 s2 hT => ?_) (fun h Y hM hT => ?_)
        · rw [CE h n hX hT, if_pos q1]
        · rw [RE h Y hM hT, if_pos q1]
      by_cases q2 : ln s2.toNat < 0
      · refine KH_no (iI (-11)) hI (fun h n F S hX s1 s2 hT => ?_) (fun h Y hM hT => ?_)
        · rw [CE h n hX hT, if_neg q1, if_pos q2]
        · rw [RE h Y hM hT, if_neg q1, if_pos q2]
      by_cases q3 : ln s1.toNat = ln s2.toNat
      · by_cases q4 : (0 ≤ i1 ∧ 0 ≤ k ∧ i1 + k ≤ le s1.toNat) ∧ (0 ≤ i2 ∧ 0 ≤ k ∧ i2 + k ≤ le s2.toNat)
        · refine ⟨iI k, ln, le, updR it s2.toNat (va_cpy (it s1.toNat) (it s2.toNat) i1.toNat i2.toNat k.toNat), fun h n F hX hS hT => ?_, fun h Y hM hT => ?_, SHI_it hI n2 (fun q j hj => ?_)⟩
          · obtain ⟨-, g1, a1, a2⟩ := hT.2 s1.toNat n1
            obtain ⟨-, g2, b1, b2⟩ := hT.2 s2.toNat n2
            refine ⟨_, ?_, SHT_it hT n2 (z_up_s _ _ _) (fun q hq => z_up_n _ _ hq) (i' := va_cpy (it s1.toNat) (it s2.toNat) i1.toNat i2.toNat k.toNat) (g := va_cpy g1 g2 i1.toNat i2.toNat k.toNat) (fun j hj => ?_), fr_up (by omega) (by omega)⟩
            · rw [CE h n hX hT, if_neg q1, if_neg q2, if_pos q3, if_pos q4, z_cp_k a1 b1 (by omega) (by omega) (by omega) (by omega) (by omega) (by decide) (by decide), Option.bind_some]
            · unfold va_cpy
              by_cases e : i2.toNat ≤ j ∧ j < i2.toNat + k.toNat
              · rw [if_pos e, if_pos e]; exact a2 _ (by omega)
              · rw [if_neg e, if_neg e]; exact b2 _ hj
          · obtain ⟨h', Y', k1, k2, k3, k4, k5⟩ := R_cp1 hM hT c1 c2 (i1 := i1) (i2 := i2) (k := k) (by omega) (by omega) (by omega)
            refine ⟨h', Y', ?_, k2, k3, k4, k5⟩
            rw [RE h Y hM hT, if_neg q1, if_neg q2, if_pos q3, if_pos q4, k1]
          · unfold va_cpy
            by_cases e : i2.toNat ≤ j ∧ j < i2.toNat + k.toNat
            · rw [if_pos e]; exact (hI s1.toNat n1).2.2 (by omega) _ (by omega)
            · rw [if_neg e]; exact (hI s2.toNat n2).2.2 q j hj
        · refine KH_no (iI (-13)) hI (fun h n F S hX s1 s2 hT => ?_) (fun h Y hM hT => ?_)
          · rw [CE h n hX hT, if_neg q1, if_neg q2, if_pos q3, if_neg q4]
          · rw [RE h Y hM hT, if_neg q1, if_neg q2, if_pos q3, if_neg q4]
      · refine KH_no (iI (-12)) hI (fun h n F S hX s1 s2 hT => ?_) (fun h Y hM hT => ?_)
        · rw [CE h n hX hT, if_neg q1, if_neg q2, if_neg q3]
        · rw [RE h Y hM hT, if_neg q1, if_neg q2, if_neg q3]
    · refine KH_no (iI (-1)) hI (fun h n F S hX t1 t2 hT => ?_) (fun h Y hM hT => ?_)
      · unfold f_X10_copy
        rw [Xck hX, Option.bind_some, C_isSheet hX hT hs1, z_b2_some]
        simp only [iI_lit, iI_add, iI_sub, iI_mul, iI_neg]
        rw [ite_tb, if_pos c1, Xck hX, Option.bind_some, C_isSheet hX hT hs2, z_b2_some, ite_tb, if_neg c2]
      · unfold f_X11_copy
        rw [R_isSheet hs1, z_b2_some]
        simp only [iI_lit, iI_add, iI_sub, iI_mul, iI_neg]
        rw [ite_tb, if_pos c1, R_isSheet hs2, z_b2_some, ite_tb, if_neg c2]
  · refine KH_no (iI (-1)) hI (fun h n F S hX t1 t2 hT => ?_) (fun h Y hM hT => ?_)
    · unfold f_X10_copy
      rw [Xck hX, Option.bind_some, C_isSheet hX hT hs1, z_b2_some]
      simp only [iI_lit, iI_add, iI_sub, iI_mul, iI_neg]
      rw [ite_tb, if_neg c1]
    · unfold f_X11_copy
      rw [R_isSheet hs1, z_b2_some]
      simp only [iI_lit, iI_add, iI_sub, iI_mul, iI_neg]
      rw [ite_tb, if_neg c1]
end SL
