/-! WHAT THE NUMBERS SAY: the sea as a row of whole numbers, as the reference lays it -/
/-- a piece of an arm -/
def vP (A : Int → Int) (a p : Int) : Prop := (0 ≤ a ∧ a < A 64) ∧ 0 ≤ p ∧ p < A (70 + 40 * a)
def hasP (A : Int → Int) (c : Int) : Prop := ∃ a p : Int, vP A a p ∧ A (75 + 40 * a + p) = c
def ly (A : Int → Int) (t c : Int) : Prop := (0 ≤ t ∧ t < A 65) ∧ A (490 + 4 * t) = 0 ∧ A (491 + 4 * t) = c
/-- the thing that lies there, or -4 -/
noncomputable def lyAt (A : Int → Int) (c : Int) : Int := @dite _ (∃ t, ly A t c) (Classical.propDecidable _) (fun h => Classical.choose h) (fun _ => -4)
def free (A : Int → Int) (c : Int) : Prop := 0 ≤ c ∧ A c = 0 ∧ ¬ hasP A c
def bes (c s : Int) : Int :=
  if (0 ≤ c % 8 + (if s = 0 then 1 else if s = 2 then -1 else 0) ∧ c % 8 + (if s = 0 then 1 else if s = 2 then -1 else 0) ≤ 7) ∧ 0 ≤ c / 8 + (if s = 1 then 1 else if s = 3 then -1 else 0) ∧ c / 8 + (if s = 1 then 1 else if s = 3 then -1 else 0) ≤ 7
  then 8 * (c / 8 + (if s = 1 then 1 else if s = 3 then -1 else 0)) + (c % 8 + (if s = 0 then 1 else if s = 2 then -1 else 0)) else -4
/-- one arm -/
def WA (A : Int → Int) (a : Int) : Prop :=
  (2 ≤ A (70 + 40 * a) ∧ A (70 + 40 * a) ≤ 7) ∧ (A (71 + 40 * a) = -4 ∨ (1 ≤ A (71 + 40 * a) ∧ A (71 + 40 * a) < A (70 + 40 * a))) ∧ (0 ≤ A (72 + 40 * a) ∧ A (72 + 40 * a) ≤ 3) ∧
  (∀ p, 0 ≤ p → p < A (70 + 40 * a) → (0 ≤ A (75 + 40 * a + p) ∧ A (75 + 40 * a + p) < 64) ∧ (0 ≤ A (82 + 40 * a + p) ∧ A (82 + 40 * a + p) ≤ 3) ∧ (0 ≤ A (96 + 40 * a + p) ∧ A (96 + 40 * a + p) ≤ 3) ∧ A (A (75 + 40 * a + p)) = 0 ∧
    (A (89 + 40 * a + p) = -4 ∨ ((0 ≤ A (89 + 40 * a + p) ∧ A (89 + 40 * a + p) < A 65) ∧ A (490 + 4 * A (89 + 40 * a + p)) = 1 ∧ A (493 + 4 * A (89 + 40 * a + p)) = 10 * a + p))) ∧
  (∀ p, 0 < p → p < A (70 + 40 * a) → p ≠ A (71 + 40 * a) → ∃ s, (0 ≤ s ∧ s ≤ 3) ∧ A (75 + 40 * a + p) = bes (A (75 + 40 * a + (p - 1))) s)
/-- one thing -/
def WT (A : Int → Int) (t : Int) : Prop :=
  (A (490 + 4 * t) = 0 ∨ A (490 + 4 * t) = 1 ∨ A (490 + 4 * t) = 2) ∧ (0 ≤ A (491 + 4 * t) ∧ A (491 + 4 * t) < 64) ∧ (0 ≤ A (492 + 4 * t) ∧ A (492 + 4 * t) ≤ 3) ∧ (A (490 + 4 * t) = 0 → A (A (491 + 4 * t)) = 0 ∧ A (493 + 4 * t) = -4) ∧
  (A (490 + 4 * t) = 1 → ∃ a p, vP A a p ∧ A (493 + 4 * t) = 10 * a + p ∧ A (89 + 40 * a + p) = t) ∧ (A (490 + 4 * t) = 2 → ∃ a, (0 ≤ a ∧ a < A 64) ∧ A (493 + 4 * t) = 10 * a)
def WF (A : Int → Int) : Prop :=
  ((0 ≤ A 64 ∧ A 64 ≤ 3) ∧ (0 ≤ A 65 ∧ A 65 ≤ 8) ∧ (0 ≤ A 66 ∧ A 66 ≤ 3)) ∧ (∀ c, 0 ≤ c → c < 64 → A c = 0 ∨ A c = 1) ∧ (∀ a, 0 ≤ a → a < A 64 → WA A a) ∧ (∀ t, 0 ≤ t → t < A 65 → WT A t) ∧
  (∀ a p a' p', vP A a p → vP A a' p' → A (75 + 40 * a + p) = A (75 + 40 * a' + p') → a = a' ∧ p = p') ∧ (∀ t t' c, ly A t c → ly A t' c → t = t')
section WFs
variable {A : Int → Int}
theorem WF.n (h : WF A) : (0 ≤ A 64 ∧ A 64 ≤ 3) ∧ (0 ≤ A 65 ∧ A 65 ≤ 8) ∧ (0 ≤ A 66 ∧ A 66 ≤ 3) := h.1
theorem WF.w (h : WF A) {c : Int} (h1 : 0 ≤ c) (h2 : c < 64) : A c = 0 ∨ A c = 1 := h.2.1 c h1 h2
theorem WF.a (h : WF A) {a : Int} (ha : 0 ≤ a ∧ a < A 64) : WA A a := h.2.2.1 a ha.1 ha.2
theorem WF.t (h : WF A) {t : Int} (ht : 0 ≤ t ∧ t < A 65) : WT A t := h.2.2.2.1 t ht.1 ht.2
theorem WF.d (h : WF A) {a p a' p' : Int} (h1 : vP A a p) (h2 : vP A a' p') (e : A (75 + 40 * a + p) = A (75 + 40 * a' + p')) : a = a' ∧ p = p' := h.2.2.2.2.1 a p a' p' h1 h2 e
theorem WF.l (h : WF A) {t t' c : Int} (h1 : ly A t c) (h2 : ly A t' c) : t = t' := h.2.2.2.2.2 t t' c h1 h2
theorem WF.pc (h : WF A) {a : Int} (ha : 0 ≤ a ∧ a < A 64) : 2 ≤ A (70 + 40 * a) ∧ A (70 + 40 * a) ≤ 7 := (h.a ha).1
theorem WF.ce (h : WF A) {a p : Int} (hv : vP A a p) : 0 ≤ A (75 + 40 * a + p) ∧ A (75 + 40 * a + p) < 64 := ((h.a hv.1).2.2.2.1 p hv.2.1 hv.2.2).1
theorem WF.me (h : WF A) {a p : Int} (hv : vP A a p) : 0 ≤ A (82 + 40 * a + p) ∧ A (82 + 40 * a + p) ≤ 3 := ((h.a hv.1).2.2.2.1 p hv.2.1 hv.2.2).2.1
theorem WF.sa (h : WF A) {a p : Int} (hv : vP A a p) : 0 ≤ A (96 + 40 * a + p) ∧ A (96 + 40 * a + p) ≤ 3 := ((h.a hv.1).2.2.2.1 p hv.2.1 hv.2.2).2.2.1
theorem WF.pw (h : WF A) {a p : Int} (hv : vP A a p) : A (A (75 + 40 * a + p)) = 0 := ((h.a hv.1).2.2.2.1 p hv.2.1 hv.2.2).2.2.2.1
theorem WF.ho (h : WF A) {a p : Int} (hv : vP A a p) : A (89 + 40 * a + p) = -4 ∨ ((0 ≤ A (89 + 40 * a + p) ∧ A (89 + 40 * a + p) < A 65) ∧ A (490 + 4 * A (89 + 40 * a + p)) = 1 ∧ A (493 + 4 * A (89 + 40 * a + p)) = 10 * a + p) := ((h.a hv.1).2.2.2.1 p hv.2.1 hv.2.2).2.2.2.2
theorem WF.ad (h : WF A) {a p : Int} (hv : vP A a p) (h0 : 0 < p) (h1 : p ≠ A (71 + 40 * a)) : ∃ s, (0 ≤ s ∧ s ≤ 3) ∧ A (75 + 40 * a + p) = bes (A (75 + 40 * a + (p - 1))) s := (h.a hv.1).2.2.2.2 p h0 hv.2.2 h1
theorem WF.cu (h : WF A) {a : Int} (ha : 0 ≤ a ∧ a < A 64) : A (71 + 40 * a) = -4 ∨ (1 ≤ A (71 + 40 * a) ∧ A (71 + 40 * a) < A (70 + 40 * a)) := (h.a ha).2.1
theorem WF.vp (h : WF A) {a p : Int} (hv : vP A a p) : (0 ≤ a ∧ a ≤ 2) ∧ 0 ≤ p ∧ p ≤ 6 := by
  have := h.n; have := h.pc hv.1; obtain ⟨h1, h2⟩ := hv; omega
theorem bes_rg {c s : Int} (h1 : 0 ≤ c) (h2 : c < 64) : bes c s = -4 ∨ (0 ≤ bes c s ∧ bes c s < 64) := by
  unfold bes
  generalize (if s = 0 then (1 : Int) else if s = 2 then -1 else 0) = dx
  generalize (if s = 1 then (1 : Int) else if s = 3 then -1 else 0) = dy
  split
  · right; omega
  · left; rfl
theorem ly_at (h : WF A) {t c : Int} (hl : ly A t c) : lyAt A c = t := by
  have hx : ∃ t, ly A t c := ⟨t, hl⟩
  unfold lyAt
  rw [dif_pos hx]
  exact h.l (Classical.choose_spec hx) hl
theorem ly_no {c : Int} (hl : ¬ ∃ t, ly A t c) : lyAt A c = -4 := by
  unfold lyAt
  rw [dif_neg hl]
theorem ly_cs (h : WF A) (c : Int) : (lyAt A c = -4 ∧ ¬ ∃ t, ly A t c) ∨ ∃ t, lyAt A c = t ∧ ly A t c ∧ 0 ≤ t ∧ t ≤ 7 := by
  by_cases hx : ∃ t, ly A t c
  · obtain ⟨t, ht⟩ := hx
    have := h.n
    have h1 := ht.1
    exact Or.inr ⟨t, ly_at h ht, ht, by omega, by omega⟩
  · exact Or.inl ⟨ly_no hx, hx⟩
theorem lyAt_ge (h : WF A) (c : Int) : (0 ≤ lyAt A c) = ∃ t, ly A t c := by
  apply propext
  rcases ly_cs h c with ⟨h1, h2⟩ | ⟨t, h1, h2, h3⟩
  · rw [h1]; exact ⟨fun q => absurd q (by omega), fun q => absurd q h2⟩
  · rw [h1]; exact ⟨fun _ => ⟨t, h2⟩, fun _ => h3.1⟩
theorem lyAt_rg (h : WF A) (c : Int) : -4 ≤ lyAt A c ∧ lyAt A c ≤ 7 := by
  rcases ly_cs h c with ⟨h1, h2⟩ | ⟨t, h1, h2, h3⟩ <;> omega
end WFs
section R2
variable {h : zH} {m : Nat} {Y : Nat → Nat → Int32} {A : Int → Int}
theorem R_hasP_n (hM : MR h m A Y) (hW : WF A) {a c : Int} (ha : 0 ≤ a ∧ a < A 64) (hc : -4 ≤ c ∧ c < 64) (hn : ∀ p, 0 ≤ p → p < A (70 + 40 * a) → A (75 + 40 * a + p) ≠ c) : f_X11_hasPiece_b15 (some m) (iI c) (iI a) (iI 0) h = some (.inl (some m, iI c, iI (a + 1), h)) := by
  have hp := hW.pc ha
  have hn3 := hW.n
  refine z_for0 (fun i : Nat => ((some m, iI c, iI a, iI i, h) : Option Nat × Int32 × Int32 × Int32 × zH)) (A (70 + 40 * a)).toNat (fun i hi => ?_) ?_
  · have hce := hW.ce (a := a) (p := i) ⟨ha, by omega, by omega⟩
    have hne := hn i (by omega) (by omega)
    simp (disch := omega) only [f_X11_hasPiece_c15, Mck hM.1, R_pieces hM, R_cell hM, Option.bind_some, z_b2_some, z_i1_some, iI_lit, iI_lt, iI_le, iI_eq, iI_add, if_neg]
    rfl
  · simp (disch := omega) only [f_X11_hasPiece_c15, Mck hM.1, R_pieces hM, Option.bind_some, z_b2_some, z_i1_some, iI_lit, iI_lt, iI_le, iI_eq, iI_add, if_pos]
theorem R_hasP_y (hM : MR h m A Y) (hW : WF A) {a c p : Int} (ha : 0 ≤ a ∧ a < A 64) (hc : -4 ≤ c ∧ c < 64) (hp0 : 0 ≤ p) (hp1 : p < A (70 + 40 * a)) (he : A (75 + 40 * a + p) = c) (hn : ∀ q, 0 ≤ q → q < p → A (75 + 40 * a + q) ≠ c) : f_X11_hasPiece_b15 (some m) (iI c) (iI a) (iI 0) h = some (.inr (iI 1, h)) := by
  have hp := hW.pc ha
  have hn3 := hW.n
  refine z_for0 (fun i : Nat => ((some m, iI c, iI a, iI i, h) : Option Nat × Int32 × Int32 × Int32 × zH)) p.toNat (fun i hi => ?_) ?_
  · have hce := hW.ce (a := a) (p := i) ⟨ha, by omega, by omega⟩
    have hne := hn i (by omega) (by omega)
    simp (disch := omega) only [f_X11_hasPiece_c15, Mck hM.1, R_pieces hM, R_cell hM, Option.bind_some, z_b2_some, z_i1_some, iI_lit, iI_lt, iI_le, iI_eq, iI_add, if_neg]
    rfl
  · rw [Int.toNat_of_nonneg hp0]
    simp (disch := omega) only [f_X11_hasPiece_c15, Mck hM.1, R_pieces hM, R_cell hM, Option.bind_some, z_b2_some, z_i1_some, iI_lit, iI_lt, iI_le, iI_eq, iI_add, if_neg, if_pos]
/-- the first of some -/
theorem least_of {P : Int → Prop} {p : Int} (h0 : 0 ≤ p) (h : P p) : ∃ q, 0 ≤ q ∧ q ≤ p ∧ P q ∧ ∀ r, 0 ≤ r → r < q → ¬ P r := by
  obtain ⟨k, h1, h2⟩ := pk_least (fun k : Nat => P (k : Int)) ⟨p.toNat, by rw [Int.toNat_of_nonneg h0]; exact h⟩
  have hk : (k : Int) ≤ p := by
    rcases Int.lt_or_le p (k : Int) with hl | hl
    · exfalso
      exact h2 p.toNat (by omega) (by rw [Int.toNat_of_nonneg h0]; exact h)
    · exact hl
  refine ⟨k, by omega, hk, h1, fun r hr0 hr => ?_⟩
  have := h2 r.toNat (by omega)
  rwa [Int.toNat_of_nonneg hr0] at this
theorem R_hasPiece (hM : MR h m A Y) (hW : WF A) {c : Int} (hc : -4 ≤ c ∧ c < 64) : f_X11_hasPiece (some m) (iI c) h = some (tb (hasP A c), h) := by
  have hn3 := hW.n
  rw [f_X11_hasPiece, iI_lit]
  by_cases hx : hasP A c
  · rw [tb_t hx]
    obtain ⟨a0, p0, hv, he⟩ := hx
    obtain ⟨a, ha0, ha1, ⟨p1, hv1, he1⟩, hmin⟩ := least_of (P := fun a => ∃ p, vP A a p ∧ A (75 + 40 * a + p) = c) hv.1.1 ⟨p0, hv, he⟩
    obtain ⟨p, hp0, hp1, ⟨hv2, he2⟩, hpm⟩ := least_of (P := fun p => vP A a p ∧ A (75 + 40 * a + p) = c) hv1.2.1 ⟨hv1, he1⟩
    refine z_for0 (fun i : Nat => ((some m, iI c, iI i, h) : Option Nat × Int32 × Int32 × zH)) a.toNat (fun i hi => ?_) ?_
    · have := hv2.1
      simp (disch := omega) only [f_X11_hasPiece_c2, Mg0 hM.1, M_all hM, Option.bind_some, z_b2_some, z_i1_some, iI_lit, iI_lt, iI_le, iI_eq, if_neg]
      rw [R_hasP_n hM hW (a := i) (by omega) hc (fun q h1 h2 h3 => hmin i (by omega) (by omega) ⟨q, ⟨by omega, h1, h2⟩, h3⟩)]
      rfl
    · rw [Int.toNat_of_nonneg ha0]
      have := hv2.1
      simp (disch := omega) only [f_X11_hasPiece_c2, Mg0 hM.1, M_all hM, Option.bind_some, z_b2_some, z_i1_some, iI_lit, iI_lt, iI_le, iI_eq, if_neg]
      rw [R_hasP_y hM hW hv2.1 hc hv2.2.1 hv2.2.2 he2 (fun q h1 h2 h3 => hpm q h1 h2 ⟨⟨hv2.1, h1, by have := hv2.2.2; omega⟩, h3⟩)]
  · rw [tb_f hx]
    refine z_for0 (fun i : Nat => ((some m, iI c, iI i, h) : Option Nat × Int32 × Int32 × zH)) (A 64).toNat (fun i hi => ?_) ?_
    · simp (disch := omega) only [f_X11_hasPiece_c2, Mg0 hM.1, M_all hM, Option.bind_some, z_b2_some, z_i1_some, iI_lit, iI_lt, iI_le, iI_eq, if_neg]
      rw [R_hasP_n hM hW (a := i) (by omega) hc (fun q h1 h2 h3 => hx ⟨i, q, ⟨by omega, h1, h2⟩, h3⟩)]
      rfl
    · rw [Int.toNat_of_nonneg hn3.1.1]
      simp (disch := omega) only [f_X11_hasPiece_c2, Mg0 hM.1, M_all hM, Option.bind_some, z_b2_some, z_i1_some, iI_lit, iI_lt, iI_le, iI_eq, if_pos]
theorem R_lyingAt (hM : MR h m A Y) (hW : WF A) {c : Int} (hc : -4 ≤ c ∧ c < 64) : f_X11_lyingAt (some m) (iI c) h = some (iI (lyAt A c), h) := by
  have hn3 := hW.n
  rw [f_X11_lyingAt, iI_lit]
  have step : ∀ i : Nat, (i : Int) < A 65 → ¬ ly A i c → f_X11_lyingAt_c2 (some m) (iI c) (iI i) h = some (.inl (some m, iI c, iI (i + 1 : Nat), h)) := by
    intro i hi hno
    have ht := hW.t (t := i) ⟨by omega, hi⟩
    have ht1 := ht.1
    have ht2 := ht.2.1
    by_cases h1 : A (490 + 4 * i) = 0
    · have h2 : A (491 + 4 * i) ≠ c := fun e => hno ⟨⟨by omega, hi⟩, h1, e⟩
      have e3 : (490 + 4 * (i : Int)) + 1 = 491 + 4 * i := by omega
      simp (disch := omega) only [f_X11_lyingAt_c2, f_X11_lyingAt_b42, Mg0 hM.1, M_all hM, R_thingAt, Option.bind_some, z_b2_some, z_i1_some, iI_lit, iI_lt, iI_le, iI_eq, iI_add, if_neg, if_pos, e3]
      rfl
    · simp (disch := omega) only [f_X11_lyingAt_c2, f_X11_lyingAt_b42, Mg0 hM.1, M_all hM, R_thingAt, Option.bind_some, z_b2_some, z_i1_some, iI_lit, iI_lt, iI_le, iI_eq, iI_add, if_neg, if_pos]
      rfl
  by_cases hx : ∃ t, ly A t c
  · obtain ⟨t, ht⟩ := hx
    rw [ly_at hW ht]
    have h1 := ht.1
    refine z_for0 (fun i : Nat => ((some m, iI c, iI i, h) : Option Nat × Int32 × Int32 × zH)) t.toNat (fun i hi => step i (by omega) (fun q => ?_)) ?_
    · have := hW.l q ht; omega
    · rw [Int.toNat_of_nonneg h1.1]
      have h2 := ht.2.1
      have h3 := ht.2.2
      have e3 : (490 + 4 * t) + 1 = 491 + 4 * t := by omega
      simp (disch := omega) only [f_X11_lyingAt_c2, Mg0 hM.1, M_all hM, R_thingAt, Option.bind_some, z_b2_some, z_i1_some, iI_lit, iI_lt, iI_le, iI_eq, iI_add, if_neg, if_pos, e3]
  · rw [ly_no hx]
    refine z_for0 (fun i : Nat => ((some m, iI c, iI i, h) : Option Nat × Int32 × Int32 × zH)) (A 65).toNat (fun i hi => step i (by omega) (fun q => hx ⟨_, q⟩)) ?_
    rw [Int.toNat_of_nonneg hn3.2.1.1]
    simp (disch := omega) only [f_X11_lyingAt_c2, Mg0 hM.1, M_all hM, Option.bind_some, z_b2_some, z_i1_some, iI_lit, iI_add, iI_sub, iI_mul, iI_neg, iI_lt, iI_le, iI_eq, if_pos]
theorem R_beside {c s : Int} (h1 : 0 ≤ c) (h2 : c < 64) (h3 : -100 ≤ s ∧ s ≤ 100) : f_X11_beside (iI c) (iI s) h = some (iI (bes c s), h) := by
  have key : ∀ x y u : Int, (-10 ≤ x ∧ x ≤ 20) → (-10 ≤ y ∧ y ≤ 20) → (-10 ≤ u ∧ u ≤ 20) → f_X11_beside_b47 (iI x) (iI y) (iI u) h = some (iI (if (0 ≤ x ∧ x ≤ 7) ∧ 0 ≤ y + u ∧ y + u ≤ 7 then 8 * (y + u) + x else -4), h) := by
    intro x y u hx hy hu
    simp (disch := omega) only [f_X11_beside_b47, iI_add, R_isCell, Option.bind_some, z_b2_some, z_i1_some, iI_lit, tb_eq0, iI_mul, iI_neg]
    by_cases hq : (0 ≤ x ∧ x ≤ 7) ∧ 0 ≤ y + u ∧ y + u ≤ 7
    · rw [if_neg (fun q => q hq), if_pos hq]
    · rw [if_pos hq, if_neg hq]
  have key2 : ∀ x u : Int, (0 ≤ x ∧ x ≤ 7) → (-1 ≤ u ∧ u ≤ 1) → f_X11_beside_b22 (iI c) (iI s) (iI x) (iI u) h = some (iI (if (0 ≤ x + u ∧ x + u ≤ 7) ∧ 0 ≤ c / 8 + (if s = 1 then 1 else if s = 3 then -1 else 0) ∧ c / 8 + (if s = 1 then 1 else if s = 3 then -1 else 0) ≤ 7 then 8 * (c / 8 + (if s = 1 then 1 else if s = 3 then -1 else 0)) + (x + u) else -4), h) := by
    intro x u hx hu
    have hy : 0 ≤ c / 8 ∧ c / 8 ≤ 7 := by omega
    simp (disch := omega) only [f_X11_beside_b22, iI_lit, iI_add, iI_sub, iI_mul, iI_neg, iI_eq, iI_div]
    by_cases q1 : s = 1
    · simp only [q1, if_pos]
      exact key _ _ _ (by omega) (by omega) (by omega)
    · by_cases q3 : s = 3
      · simp only [q3, if_pos, if_neg (show ¬ (3 : Int) = 1 by decide)]
        exact key _ _ _ (by omega) (by omega) (by omega)
      · simp only [q1, q3, if_neg, if_false]
        exact key _ _ _ (by omega) (by omega) (by omega)
  have hx : 0 ≤ c % 8 ∧ c % 8 ≤ 7 := by omega
  simp (disch := omega) only [f_X11_beside, iI_lit, iI_add, iI_sub, iI_mul, iI_neg, iI_eq]
  rw [show iI c - iI c / iI 8 * iI 8 = iI (c % 8) from iI_rem h1 (by omega) (by omega) (by omega)]
  unfold bes
  by_cases q0 : s = 0
  · simp only [q0, if_pos]
    subst q0
    rw [key2 _ _ hx (by omega)]
  · by_cases q2 : s = 2
    · simp only [q2, if_pos, if_neg (show ¬ (2 : Int) = 0 by decide)]
      subst q2
      rw [key2 _ _ hx (by omega)]
    · simp only [q0, q2, if_false]
      rw [key2 _ _ hx (by omega)]
end R2
