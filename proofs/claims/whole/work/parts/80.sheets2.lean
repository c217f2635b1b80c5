section SI
variable {X m : Nat} {U : Int → Option Nat} {A : Int → Int} {ln le : Nat → Int} {it : Nat → Nat → Int32}
theorem lnR (hI : SHI ln le it) {s : Nat} (hs : s < 4) : (0 ≤ (if ln s < 0 then -4 else ln s)) ↔ ¬ ln s < 0 := by
  have q := (hI s hs).1
  split <;> omega
theorem lnG (hI : SHI ln le it) {s : Nat} (hs : s < 4) : -4 ≤ (if ln s < 0 then -4 else ln s) ∧ (if ln s < 0 then -4 else ln s) ≤ 2 := by
  have q := (hI s hs).1
  split <;> omega
theorem SHI_up (hI : SHI ln le it) {s : Nat} {l k : Int} {i' : Nat → Int32} (h1 : l = -1 ∨ (0 ≤ l ∧ l ≤ 2)) (h2 : 0 ≤ k ∧ k ≤ 64) (h3 : l = 0 → ∀ j, j < 64 → i' j = iI 0 ∨ i' j = iI 1) : SHI (updR ln s l) (updR le s k) (updR it s i') := by
  intro s' hs'
  by_cases e : s' = s
  · subst e; rw [updR_s, updR_s, updR_s]; exact ⟨h1, h2, h3⟩
  · rw [updR_n _ _ e, updR_n _ _ e, updR_n _ _ e]; exact hI s' hs'
theorem SHI_it (hI : SHI ln le it) {s : Nat} (hs : s < 4) {i' : Nat → Int32} (h3 : ln s = 0 → ∀ j, j < 64 → i' j = iI 0 ∨ i' j = iI 1) : SHI ln le (updR it s i') := by
  intro s' hs'
  by_cases e : s' = s
  · subst e; rw [updR_s]; exact ⟨(hI s' hs').1, (hI s' hs').2.1, h3⟩
  · rw [updR_n _ _ e]; exact hI s' hs'
theorem updR_self {α : Type} (f : Nat → α) (k : Nat) : updR f k (f k) = f := by
  funext j
  by_cases e : j = k
  · subst e; rw [updR_s]
  · rw [updR_n _ _ e]
theorem K_drop (hI : SHI ln le it) {s : Int} (hs : rgI s) : KH X m U A ln le it (f_X10_drop (some X) (iI s)) (f_X11_drop (some m) (iI s)) := by
  by_cases c1 : 0 ≤ s ∧ s < 4
  · have c1n : s.toNat < 4 := by omega
    have lr := lnR hI c1n
    have lg := lnG hI c1n
    by_cases c2 : ln s.toNat < 0
    · refine KH_no (iI (-11)) hI (fun h n F S hX s1 s2 hT => ?_) (fun h Y hM hT => ?_)
      · unfold f_X10_drop
        rw [Xck hX, Option.bind_some, C_isSheet hX hT hs, z_b2_some]
        simp only [iI_lit, iI_add, iI_sub, iI_mul, iI_neg]
        rw [ite_tb, if_pos c1, Xg2 hX, Option.bind_some, XshA hT c1, Option.bind_some, Hck hT c1n, Option.bind_some, C_holdsN hT hI c1n, z_b2_some, ite_tb, if_pos c2]
      · unfold f_X11_drop
        rw [R_isSheet hs, z_b2_some]
        simp only [iI_lit, iI_add, iI_sub, iI_mul, iI_neg]
        rw [ite_tb, if_pos c1, Mg6 hM.1, Option.bind_some, Y6 hM hT c1, Option.bind_some, if_neg (nLe (by omega))]
    · refine ⟨iI (le s.toNat), updR ln s.toNat (-1), updR le s.toNat 0, it, fun h n F hX hS hT => ?_, fun h Y hM hT => ?_, ?_⟩
      · have T1 := SHT_ob hT c1n (-1) (le s.toNat)
        have T2 := SHT_ob T1 c1n (-1) 0
        have e1 : updR (updR ln s.toNat (-1)) s.toNat (-1) = updR ln s.toNat (-1) := by funext j; by_cases e : j = s.toNat; (subst e; rw [updR_s, updR_s]); rw [updR_n _ _ e]
        have e2 : updR (updR le s.toNat (le s.toNat)) s.toNat 0 = updR le s.toNat 0 := by rw [updR_self]
        rw [e1, e2] at T2
        refine ⟨_, ?_, T2, fr_tr (fr_up (by omega) (by omega)) (fr_up (by omega) (by omega))⟩
        unfold f_X10_drop
        rw [Xck hX, Option.bind_some, C_isSheet hX hT hs, z_b2_some]
        simp only [iI_lit, iI_add, iI_sub, iI_mul, iI_neg]
        rw [ite_tb, if_pos c1, Xg2 hX, Option.bind_some, XshA hT c1, Option.bind_some, Hck hT c1n, Option.bind_some, C_holdsN hT hI c1n, z_b2_some, ite_tb, if_neg c2, Xg2 hX, Option.bind_some, XshA hT c1, Option.bind_some, Hi1 hT c1n, Option.bind_some, Option.bind_some, XshA hT c1, Option.bind_some, Hck hT c1n, Option.bind_some]
        unfold f_X7_forget
        simp only [iI_lit, iI_add, iI_sub, iI_mul, iI_neg]
        have p1 := Hp1 T1 c1n 0
        rw [updR_s] at p1
        rw [Hp0 hT c1n, Option.bind_some, p1, Option.bind_some, Option.bind_some]
      · have M1 := MR_up hM (k := 6) (by omega) (by omega) (upd (Y 6) s.toNat (iI (-4)))
        refine ⟨_, _, ?_, M1, ?_, oS_up _ _ (by omega), fr_up (by omega) (by omega)⟩
        · have r7 : z_aI (z_up h (m + 6) (mL m 6 (upd (Y 6) s.toNat (iI (-4))))) (some (m + 7)) (iI s) = some (iI (le s.toNat)) := by
            rw [z_aI_k (M1.1 7 (by omega)) (Or.inl rfl) c1.1 (by omega) (by decide), updR_n _ _ (by omega), (hT s.toNat (by omega)).2.1 (by omega)]
          unfold f_X11_drop
          rw [R_isSheet hs, z_b2_some]
          simp only [iI_lit, iI_add, iI_sub, iI_mul, iI_neg]
          rw [ite_tb, if_pos c1, Mg6 hM.1, Option.bind_some, Y6 hM hT c1, Option.bind_some, if_pos (cLe (by omega)), Option.bind_some, S6 hM c1, Option.bind_some, Mg7 M1.1, Option.bind_some, r7, Option.bind_some]
        · intro s' hs'
          obtain ⟨k1, k2, k3⟩ := hT s' hs'
          rw [updR_s, updR_n _ _ (show (7 : Nat) ≠ 6 by omega), updR_n _ _ (show (8 : Nat) ≠ 6 by omega)]
          by_cases e : s' = s.toNat
          · subst e; rw [updR_s, pk_us]; exact ⟨rfl, fun q => absurd q (by omega), k3⟩
          · rw [pk_un e, updR_n _ _ e, updR_n _ _ e]; exact ⟨k1, k2, k3⟩
      · have q := SHI_up hI (s := s.toNat) (l := -1) (k := 0) (i' := it s.toNat) (Or.inl rfl) (by omega) (fun q => absurd q (by omega))
        rw [updR_self] at q; exact q
  · refine KH_no (iI (-1)) hI (fun h n F S hX s1 s2 hT => ?_) (fun h Y hM hT => ?_)
    · unfold f_X10_drop
      rw [Xck hX, Option.bind_some, C_isSheet hX hT hs, z_b2_some]
      simp only [iI_lit, iI_add, iI_sub, iI_mul, iI_neg]
      rw [ite_tb, if_neg c1]
    · unfold f_X11_drop
      rw [R_isSheet hs, z_b2_some]
      simp only [iI_lit, iI_add, iI_sub, iI_mul, iI_neg]
      rw [ite_tb, if_neg c1]
theorem C_isLane {h : zH} {v : Int} (hv : rgI v) : f_X10_isLane (iI v) h = some (tb (0 ≤ v ∧ v ≤ 2), h) := by
  unfold rgI at hv
  simp (disch := omega) only [f_X10_isLane, iI_lit, iI_add, iI_sub, iI_mul, iI_neg, iteLt]
  refine ite_c (fun q => ?_) (fun q => ite_c (fun q2 => ?_) (fun q2 => ?_))
  · rw [tb_f (by omega)]
  · rw [tb_f (by omega)]
  · rw [tb_t (by omega)]
theorem R_sheetL {h : zH} {Y : Nat → Nat → Int32} (hM : MR h m A Y) {s k : Int} (hs : 0 ≤ s ∧ s < 4) (hT : RSH Y ln le it) : ∃ h' Y', f_X11_sheet_b48 (some m) (iI s) (iI k) (iI 0) h = some (iI k, h') ∧ MR h' m A Y' ∧ RSH Y' ln le (updR it s.toNat (fun _ => iI 0)) ∧ oS Y Y' ∧ fr m 19 h h' := by
  have key := z_forI (body := fun s : (Option Nat) × Int32 × Int32 × Int32 × zH => f_X11_sheet_c48 s.1 s.2.1 s.2.2.1 s.2.2.2.1 s.2.2.2.2) (Q := fun r => r.1 = iI k ∧ ∃ Y', MR r.2 m A Y' ∧ RSH Y' ln le (updR it s.toNat (fun _ => iI 0)) ∧ oS Y Y' ∧ fr m 19 h r.2)
    (fun i st => ∃ h' Y' i', st = (some m, iI s, iI k, iI (i : Int), h') ∧ MR h' m A Y' ∧ RSH Y' ln le (updR it s.toNat i') ∧ (∀ j, j < i → i' j = iI 0) ∧ oS Y Y' ∧ fr m 19 h h') 64 ?_ ?_ 64 0 (some m, iI s, iI k, iI 0, h) (by omega) ⟨h, Y, it s.toNat, rfl, hM, by rw [updR_self]; exact hT, fun j hj => absurd hj (by omega), oS_rf _, fr_rf _ _ _⟩
  · obtain ⟨r, k1, k2, Y', k3, k4, k5, k6⟩ := key
    refine ⟨r.2, Y', ?_, k3, k4, k5, k6⟩
    unfold f_X11_sheet_b48
    rw [k1, ← k2]
  · rintro i st hi ⟨h1, Y1, i1, rfl, k1, k2, k3, k4, k5⟩
    have M1 := MR_up k1 (k := 8) (by omega) (by omega) (upd (Y1 8) (64 * s + (i : Int)).toNat (iI 0))
    refine Or.inl ⟨_, ?_, _, _, upd i1 i (iI 0), rfl, M1, ?_, fun j hj => ?_, oS_tr k4 (oS_up _ _ (by omega)), fr_tr k5 (fr_up (by omega) (by omega))⟩
    · show f_X11_sheet_c48 (some m) (iI s) (iI k) (iI (i : Int)) h1 = _
      unfold f_X11_sheet_c48
      simp only [iI_lit, iI_add, iI_sub, iI_mul, iI_neg]
      rw [if_neg (nLe (by omega)), Mg8 k1.1, Option.bind_some, S8 k1 (by omega), Option.bind_some]
      rfl
    · have q := RSH_8 k2 (s := s.toNat) (by omega) (e := i) hi (iI 0)
      rw [updR_s] at q
      have e1 : updR (updR it s.toNat i1) s.toNat (upd i1 i (iI 0)) = updR it s.toNat (upd i1 i (iI 0)) := by funext j; by_cases e : j = s.toNat; (subst e; rw [updR_s, updR_s]); rw [updR_n _ _ e, updR_n _ _ e, updR_n _ _ e]
      rw [e1] at q
      rw [show (64 * s + (i : Int)).toNat = 64 * s.toNat + i by omega]
      exact q
    · by_cases e : j = i
      · subst e; exact pk_us
      · rw [pk_un e]; exact k3 j (by omega)
  · rintro st ⟨h1, Y1, i1, rfl, k1, k2, k3, k4, k5⟩
    refine ⟨(iI k, h1), ?_, rfl, Y1, k1, ?_, k4, k5⟩
    · show f_X11_sheet_c48 (some m) (iI s) (iI k) (iI ((64 : Nat) : Int)) h1 = _
      unfold f_X11_sheet_c48
      simp only [iI_lit, iI_add, iI_sub, iI_mul, iI_neg]
      rw [if_pos (cLe (by omega))]
      rfl
    · intro s' hs'
      obtain ⟨q1, q2, q3⟩ := k2 s' hs'
      refine ⟨q1, q2, fun j hj => ?_⟩
      rw [q3 j hj]
      by_cases e : s' = s.toNat
      · subst e; rw [updR_s, updR_s]; exact k3 j hj
      · rw [updR_n _ _ e, updR_n _ _ e]
theorem K_sheet (hI : SHI ln le it) {s l k : Int} (hs : rgI s) (hl : rgI l) (hk : rgI k) : KH X m U A ln le it (f_X10_sheet (some X) (iI s) (iI l) (iI k)) (f_X11_sheet (some m) (iI s) (iI l) (iI k)) := by
  have hl' : -2147483648 ≤ l ∧ l < 2147483648 := hl
  have hk' : -2147483648 ≤ k ∧ k < 2147483648 := hk
  by_cases c1 : 0 ≤ s ∧ s < 4
  · have c1n : s.toNat < 4 := by omega
    by_cases c2 : 0 ≤ l ∧ l ≤ 2
    · have CE : ∀ h n, h X = oX X n → SHT h X ln le it → f_X10_sheet (some X) (iI s) (iI l) (iI k) h = if k ≤ 64 then (if 0 ≤ k then (f_X7_begin (some (X + 194 + 2 * s.toNat)) (iI l) (iI k) h).bind fun h9 => some (iI k, h9) else some (iI (-14), h)) else some (iI (-1), h) := by
        intro h n hX hT
        unfold f_X10_sheet
        rw [Xck hX, Option.bind_some, C_isSheet hX hT hs, z_b2_some]
        simp only [iI_lit, iI_add, iI_sub, iI_mul, iI_neg]
        rw [ite_tb, if_pos c1, C_isLane hl, z_b2_some, ite_tb, if_pos c2, iteLe (by omega), iteLe (by omega), Xg2 hX, Option.bind_some, XshA hT c1, Option.bind_some, Hck hT c1n, Option.bind_some]
      have RE : ∀ h Y, MR h m A Y → f_X11_sheet (some m) (iI s) (iI l) (iI k) h = if k ≤ 64 then (if 0 ≤ k then (z_sI h (some (m + 6)) (iI s) (iI l)).bind (fun h6 => (z_gA h6 11 7 (some m)).bind fun v7 => (z_sI h6 v7 (iI s) (iI k)).bind fun h8 => f_X11_sheet_b48 (some m) (iI s) (iI k) (iI 0) h8) else some (iI (-14), h)) else some (iI (-1), h) := by
        intro h Y hM
        unfold f_X11_sheet
        rw [R_isSheet hs, z_b2_some]
        simp only [iI_lit, iI_add, iI_sub, iI_mul, iI_neg]
        rw [ite_tb, if_pos c1, R_in2 (by omega), z_b2_some, ite_tb, if_pos c2, iteLe (by omega), iteLe (by omega), Mg6 hM.1, Option.bind_some]
      by_cases c3 : 0 ≤ k ∧ k ≤ 64
      · refine ⟨iI k, updR ln s.toNat l, updR le s.toNat k, updR it s.toNat (fun _ => iI 0), fun h n F hX hS hT => ?_, fun h Y hM hT => ?_, SHI_up hI (by omega) c3 (fun _ _ _ => Or.inl rfl)⟩
        · have T1 := SHT_ob hT c1n l (le s.toNat)
          have T2 := SHT_ob T1 c1n l k
          have e1 : updR (updR ln s.toNat l) s.toNat l = updR ln s.toNat l := by funext j; by_cases e : j = s.toNat; (subst e; rw [updR_s, updR_s]); rw [updR_n _ _ e]
          rw [e1, updR_self] at T2
          obtain ⟨-, g, g1, g2⟩ := T2.2 s.toNat c1n
          obtain ⟨h', g', q1, q2, q3, q4⟩ := C_fill g1 (by omega) (iI 0)
          have T3 := SHT_it T2 c1n q2 q4 q3
          have p1 := Hp1 T1 c1n k
          rw [updR_s] at p1
          refine ⟨h', ?_, T3, fr_tr (fr_tr (fr_up (by omega) (by omega)) (fr_up (by omega) (by omega))) (fun q hq => q4 q (by omega))⟩
          rw [CE h n hX hT, if_pos c3.2, if_pos c3.1]
          unfold f_X7_begin
          simp only [iI_lit, iI_add, iI_sub, iI_mul, iI_neg]
          rw [Hp0 hT c1n, Option.bind_some, p1, Option.bind_some, Hg2 T2 c1n, Option.bind_some, q1, Option.bind_some, Option.bind_some]
        · have M1 := MR_up hM (k := 6) (by omega) (by omega) (upd (Y 6) s.toNat (iI l))
          have M2 := MR_up M1 (k := 7) (by omega) (by omega) (upd (updR Y 6 (upd (Y 6) s.toNat (iI l)) 7) s.toNat (iI k))
          have T2 : RSH (updR (updR Y 6 (upd (Y 6) s.toNat (iI l))) 7 (upd (updR Y 6 (upd (Y 6) s.toNat (iI l)) 7) s.toNat (iI k))) (updR ln s.toNat l) (updR le s.toNat k) it := by
            intro s' hs'
            obtain ⟨k1, k2, k3⟩ := hT s' hs'
            rw [updR_s, updR_n _ _ (show (6 : Nat) ≠ 7 by omega), updR_n _ _ (show (8 : Nat) ≠ 7 by omega), updR_s, updR_n _ _ (show (8 : Nat) ≠ 6 by omega), updR_n _ _ (show (7 : Nat) ≠ 6 by omega)]
            by_cases e : s' = s.toNat
            · subst e; rw [updR_s, updR_s, pk_us, pk_us, if_neg (by omega)]; exact ⟨rfl, fun _ => rfl, k3⟩
            · rw [pk_un e, pk_un e, updR_n _ _ e, updR_n _ _ e]; exact ⟨k1, k2, k3⟩
          obtain ⟨h', Y', q1, q2, q3, q4, q5⟩ := R_sheetL M2 (k := k) c1 T2
          refine ⟨h', Y', ?_, q2, q3, oS_tr (oS_tr (oS_up _ _ (by omega)) (oS_up _ _ (by omega))) q4, fr_tr (fr_tr (fr_up (by omega) (by omega)) (fr_up (by omega) (by omega))) q5⟩
          rw [RE h Y hM, if_pos c3.2, if_pos c3.1, S6 hM c1, Option.bind_some, Mg7 M1.1, Option.bind_some, S7 M1 c1, Option.bind_some, q1]
      · by_cases c4 : k ≤ 64
        · refine KH_no (iI (-14)) hI (fun h n F S hX s1 s2 hT => ?_) (fun h Y hM hT => ?_)
          · rw [CE h n hX hT, if_pos c4, if_neg (by omega)]
          · rw [RE h Y hM, if_pos c4, if_neg (by omega)]
        · refine KH_no (iI (-1)) hI (fun h n F S hX s1 s2 hT => ?_) (fun h Y hM hT => ?_)
          · rw [CE h n hX hT, if_neg c4]
          · rw [RE h Y hM, if_neg c4]
    · refine KH_no (iI (-1)) hI (fun h n F S hX s1 s2 hT => ?_) (fun h Y hM hT => ?_)
      · unfold f_X10_sheet
        rw [Xck hX, Option.bind_some, C_isSheet hX hT hs, z_b2_some]
        simp only [iI_lit, iI_add, iI_sub, iI_mul, iI_neg]
        rw [ite_tb, if_pos c1, C_isLane hl, z_b2_some, ite_tb, if_neg c2]
      · unfold f_X11_sheet
        rw [R_isSheet hs, z_b2_some]
        simp only [iI_lit, iI_add, iI_sub, iI_mul, iI_neg]
        rw [ite_tb, if_pos c1, R_in2 (by omega), z_b2_some, ite_tb, if_neg c2]
  · refine KH_no (iI (-1)) hI (fun h n F S hX s1 s2 hT => ?_) (fun h Y hM hT => ?_)
    · unfold f_X10_sheet
      rw [Xck hX, Option.bind_some, C_isSheet hX hT hs, z_b2_some]
      simp only [iI_lit, iI_add, iI_sub, iI_mul, iI_neg]
      rw [ite_tb, if_neg c1]
    · unfold f_X11_sheet
      rw [R_isSheet hs, z_b2_some]
      simp only [iI_lit, iI_add, iI_sub, iI_mul, iI_neg]
      rw [ite_tb, if_neg c1]
end SI
