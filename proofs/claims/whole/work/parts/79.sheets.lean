/-! THE SHEETS -/
def SHT (h : zH) (X : Nat) (ln le : Nat → Int) (it : Nat → Nat → Int32) : Prop :=
  h (X + 32) = .inl (7, 4, .inr (.inr (fun i => if i < 4 then some (X + 194 + 2 * i) else none))) ∧
  ∀ s, s < 4 → h (X + 194 + 2 * s) = .inr (7, [tI (iI (ln s)), tI (iI (le s)), tA (some (X + 195 + 2 * s))]) ∧ ∃ g, h (X + 195 + 2 * s) = .inl (0, 64, .inl g) ∧ ∀ j, j < 64 → g j = it s j
def RSH (Y : Nat → Nat → Int32) (ln le : Nat → Int) (it : Nat → Nat → Int32) : Prop :=
  ∀ s, s < 4 → Y 6 s = iI (if ln s < 0 then -4 else ln s) ∧ (0 ≤ ln s → Y 7 s = iI (le s)) ∧ ∀ j, j < 64 → Y 8 (64 * s + j) = it s j
def SHI (ln le : Nat → Int) (it : Nat → Nat → Int32) : Prop :=
  ∀ s, s < 4 → (ln s = -1 ∨ (0 ≤ ln s ∧ ln s ≤ 2)) ∧ (0 ≤ le s ∧ le s ≤ 64) ∧ (ln s = 0 → ∀ j, j < 64 → it s j = iI 0 ∨ it s j = iI 1)
def oS (Y Y' : Nat → Nat → Int32) : Prop := ∀ k, k ≠ 6 → k ≠ 7 → k ≠ 8 → k ≠ 18 → Y' k = Y k
theorem oS_rf (Y : Nat → Nat → Int32) : oS Y Y := fun _ _ _ _ _ => rfl
theorem oS_tr {Y Y1 Y2 : Nat → Nat → Int32} (a : oS Y Y1) (b : oS Y1 Y2) : oS Y Y2 := fun k h1 h2 h3 h4 => (b k h1 h2 h3 h4).trans (a k h1 h2 h3 h4)
theorem oS_up (Y : Nat → Nat → Int32) {k : Nat} (r : Nat → Int32) (hk : k = 6 ∨ k = 7 ∨ k = 8 ∨ k = 18) : oS Y (updR Y k r) := fun j h1 h2 h3 h4 => updR_n _ _ (by omega)
def stCH (X : Nat) (U : Int → Option Nat) (A : Int → Int) (ln le : Nat → Int) (it : Nat → Nat → Int32) (f : zH → Option (Int32 × zH)) (r : Int32) (ln' le' : Nat → Int) (it' : Nat → Nat → Int32) : Prop :=
  ∀ h n F, h X = oX X n → SR h (X + 1) A U F → SHT h X ln le it → ∃ h', f h = some (r, h') ∧ SHT h' X ln' le' it' ∧ fr (X + 194) 8 h h'
def stRH (m : Nat) (A : Int → Int) (ln le : Nat → Int) (it : Nat → Nat → Int32) (f : zH → Option (Int32 × zH)) (r : Int32) (ln' le' : Nat → Int) (it' : Nat → Nat → Int32) : Prop :=
  ∀ h Y, MR h m A Y → RSH Y ln le it → ∃ h' Y', f h = some (r, h') ∧ MR h' m A Y' ∧ RSH Y' ln' le' it' ∧ oS Y Y' ∧ fr m 19 h h'
def KH (X m : Nat) (U : Int → Option Nat) (A : Int → Int) (ln le : Nat → Int) (it : Nat → Nat → Int32) (fc fR : zH → Option (Int32 × zH)) : Prop :=
  ∃ r ln' le' it', stCH X U A ln le it fc r ln' le' it' ∧ stRH m A ln le it fR r ln' le' it' ∧ SHI ln' le' it'
section SH
variable {X m : Nat} {U : Int → Option Nat} {A : Int → Int} {ln le : Nat → Int} {it : Nat → Nat → Int32}
theorem KH_no {fc fR : zH → Option (Int32 × zH)} (r : Int32) (hI : SHI ln le it) (hc : ∀ h n F S, h X = oX X n → SAt h (X + 1) S → SRel A U F S → SHT h X ln le it → fc h = some (r, h)) (hr : ∀ h Y, MR h m A Y → RSH Y ln le it → fR h = some (r, h)) : KH X m U A ln le it fc fR := by
  refine ⟨r, ln, le, it, fun h n F hX hS hT => ?_, fun h Y hM hT => ⟨h, Y, hr h Y hM hT, hM, hT, oS_rf Y, fr_rf _ _ _⟩, hI⟩
  obtain ⟨S, s1, s2⟩ := id hS
  exact ⟨h, hc h n F S hX s1 s2 hT, hT, fr_rf _ _ _⟩
variable {h : zH} {n : Int32}
theorem SHT_ob (hT : SHT h X ln le it) {s : Nat} (hs : s < 4) (l k : Int) : SHT (z_up h (X + 194 + 2 * s) (.inr (7, [tI (iI l), tI (iI k), tA (some (X + 195 + 2 * s))]))) X (updR ln s l) (updR le s k) it := by
  refine ⟨by rw [z_up_n _ _ (by omega)]; exact hT.1, fun s' hs' => ?_⟩
  obtain ⟨k1, g, k2, k3⟩ := hT.2 s' hs'
  refine ⟨?_, g, by rw [z_up_n _ _ (by omega)]; exact k2, k3⟩
  by_cases e : s' = s
  · subst e; rw [z_up_s, updR_s, updR_s]
  · rw [z_up_n _ _ (by omega), updR_n _ _ e, updR_n _ _ e]; exact k1
theorem SHT_it (hT : SHT h X ln le it) {s : Nat} (hs : s < 4) {h' : zH} {g i' : Nat → Int32} (h1 : h' (X + 195 + 2 * s) = .inl (0, 64, .inl g)) (h2 : ∀ q, q ≠ X + 195 + 2 * s → h' q = h q) (hg : ∀ j, j < 64 → g j = i' j) : SHT h' X ln le (updR it s i') := by
  refine ⟨by rw [h2 _ (by omega)]; exact hT.1, fun s' hs' => ?_⟩
  obtain ⟨k1, g0, k2, k3⟩ := hT.2 s' hs'
  refine ⟨by rw [h2 _ (by omega)]; exact k1, ?_⟩
  by_cases e : s' = s
  · subst e; exact ⟨g, h1, by rw [updR_s]; exact hg⟩
  · exact ⟨g0, by rw [h2 _ (by omega)]; exact k2, by rw [updR_n _ _ e]; exact k3⟩
theorem XshA (hT : SHT h X ln le it) {s : Int} (h1 : 0 ≤ s ∧ s < 4) : z_aA h (some (X + 32)) (iI s) = some (some (X + 194 + 2 * s.toNat)) := by
  rw [z_aA_k hT.1 (by omega) h1.1 (by have := h1.2; omega) (by decide), if_pos (by omega)]
theorem C_isSheet (hX : h X = oX X n) (hT : SHT h X ln le it) {s : Int} (hs : rgI s) : f_X10_isSheet (some X) (iI s) h = some (tb (0 ≤ s ∧ s < 4), h) := by
  unfold rgI at hs
  have e : z_len h (some (X + 32)) = some (iI 4) := z_len_o hT.1 (by omega)
  simp (disch := omega) only [f_X10_isSheet, Xg2 hX, Option.bind_some, z_b2_some, z_i1_some, e, iI_lit, iI_add, iI_sub, iI_mul, iI_neg, iteLt, iteLe]
  refine ite_c (fun q => ?_) (fun q => ite_c (fun q2 => ?_) (fun q2 => ?_))
  · rw [tb_f (by omega)]
  · rw [tb_f (by omega)]
  · rw [tb_t (by omega)]
theorem R_isSheet {s : Int} (hs : rgI s) : f_X11_isSheet (iI s) h = some (tb (0 ≤ s ∧ s < 4), h) := by
  unfold rgI at hs
  unfold f_X11_isSheet
  simp only [iI_lit, iI_add, iI_sub, iI_mul, iI_neg]
  rw [R_in2 (by omega), z_b2_some]
  have e : tb (0 ≤ s ∧ s ≤ 3) = tb (0 ≤ s ∧ s < 4) := tb_cg (by omega)
  rw [e]
  have q := tb_or (0 ≤ s ∧ s < 4)
  simp only [q, if_true]
theorem Hck (hT : SHT h X ln le it) {s : Nat} (hs : s < 4) : z_ck h 7 (some (X + 194 + 2 * s)) = some (X + 194 + 2 * s) := z_ck_k (hT.2 s hs).1
theorem Hi0 (hT : SHT h X ln le it) {s : Nat} (hs : s < 4) : z_gI h 7 0 (some (X + 194 + 2 * s)) = some (iI (ln s)) := z_gI_k (hT.2 s hs).1 rfl
theorem Hi1 (hT : SHT h X ln le it) {s : Nat} (hs : s < 4) : z_gI h 7 1 (some (X + 194 + 2 * s)) = some (iI (le s)) := z_gI_k (hT.2 s hs).1 rfl
theorem Hg2 (hT : SHT h X ln le it) {s : Nat} (hs : s < 4) : z_gA h 7 2 (some (X + 194 + 2 * s)) = some (some (X + 195 + 2 * s)) := z_gA_k (hT.2 s hs).1 rfl
theorem Hp0 (hT : SHT h X ln le it) {s : Nat} (hs : s < 4) (l : Int) : z_pF h 7 0 (some (X + 194 + 2 * s)) (tI (iI l)) = some (z_up h (X + 194 + 2 * s) (.inr (7, [tI (iI l), tI (iI (le s)), tA (some (X + 195 + 2 * s))]))) := z_pF_k (hT.2 s hs).1 (Nat.le_of_ble_eq_true rfl)
theorem Hp1 (hT : SHT h X ln le it) {s : Nat} (hs : s < 4) (l : Int) : z_pF h 7 1 (some (X + 194 + 2 * s)) (tI (iI l)) = some (z_up h (X + 194 + 2 * s) (.inr (7, [tI (iI (ln s)), tI (iI l), tA (some (X + 195 + 2 * s))]))) := z_pF_k (hT.2 s hs).1 (Nat.le_of_ble_eq_true rfl)
theorem Hit (hT : SHT h X ln le it) {s : Nat} (hs : s < 4) {e : Int} (he : 0 ≤ e ∧ e < 64) : z_aI h (some (X + 195 + 2 * s)) (iI e) = some (it s e.toNat) := by
  obtain ⟨-, g, k2, k3⟩ := hT.2 s hs
  rw [z_aI_k k2 (Or.inl rfl) he.1 (by have := he.2; omega) (by decide), k3 _ (by omega)]
theorem Hsi (hT : SHT h X ln le it) {s : Nat} (hs : s < 4) {e : Int} (he : 0 ≤ e ∧ e < 64) (v : Int32) : ∃ h', z_sI h (some (X + 195 + 2 * s)) (iI e) v = some h' ∧ SHT h' X ln le (updR it s (upd (it s) e.toNat v)) ∧ fr (X + 194) 8 h h' := by
  obtain ⟨-, g, k2, k3⟩ := hT.2 s hs
  refine ⟨_, z_sI_k k2 he.1 (by have := he.2; omega) (by decide), SHT_it hT hs (z_up_s _ _ _) (fun q hq => z_up_n _ _ hq) (fun j hj => ?_), fr_up (by omega) (by omega)⟩
  by_cases q : j = e.toNat
  · subst q; rw [pk_us, pk_us]
  · rw [pk_un q, pk_un q]; exact k3 j hj
theorem C_holdsN (hT : SHT h X ln le it) (hI : SHI ln le it) {s : Nat} (hs : s < 4) : f_X7_holdsNothing (some (X + 194 + 2 * s)) h = some (tb (ln s < 0), h) := by
  have q := (hI s hs).1
  simp (disch := omega) only [f_X7_holdsNothing, Hi0 hT, Option.bind_some, z_b2_some, z_i1_some, iI_lit, iI_add, iI_sub, iI_mul, iI_neg, iteEq]
  refine ite_c (fun q => ?_) (fun q => ?_)
  · rw [tb_t (by omega)]
  · rw [tb_f (by omega)]
theorem C_spans (hT : SHT h X ln le it) (hI : SHI ln le it) {s : Nat} (hs : s < 4) {i c : Int} (hi : rgI i) (hc : rgI c) : f_X7_spans (some (X + 194 + 2 * s)) (iI i) (iI c) h = some (tb (0 ≤ i ∧ 0 ≤ c ∧ i + c ≤ le s), h) := by
  have q := (hI s hs).2.1
  unfold rgI at hi hc
  unfold f_X7_spans
  rw [Hi1 hT hs, Option.bind_some, Option.bind_some]
  simp only [iI_lit, iI_add, iI_sub, iI_mul, iI_neg]
  rw [iteLt (by omega)]
  refine ite_c (fun q => ?_) (fun q1 => ?_)
  · rw [tb_f (by omega)]
  rw [iteLt (by omega)]
  refine ite_c (fun q => ?_) (fun q2 => ?_)
  · rw [tb_f (by omega)]
  rw [iteLt (by omega)]
  refine ite_c (fun q => ?_) (fun q3 => ?_)
  · rw [tb_f (by omega)]
  rw [iteLt (by omega)]
  refine ite_c (fun q => ?_) (fun q4 => ?_)
  · rw [tb_f (by omega)]
  · rw [tb_t (by omega)]
noncomputable def refS (ln le : Nat → Int) (s : Nat) (l i c : Int) : Int := if ln s < 0 then -11 else if ln s = l then (if 0 ≤ i ∧ 0 ≤ c ∧ i + c ≤ le s then 0 else -13) else -12
theorem C_refS (hT : SHT h X ln le it) (hI : SHI ln le it) {s : Nat} (hs : s < 4) {l i c : Int} (hl : rgI l) (hi : rgI i) (hc : rgI c) : f_X7_refuses (some (X + 194 + 2 * s)) (iI l) (iI i) (iI c) h = some (iI (refS ln le s l i c), h) := by
  have q := (hI s hs).1
  unfold f_X7_refuses refS
  rw [Hck hT hs, Option.bind_some, C_holdsN hT hI hs, z_b2_some]
  simp only [iI_lit, iI_add, iI_sub, iI_mul, iI_neg]
  rw [ite_tb]
  refine ite_c (fun q => ?_) (fun q1 => ?_)
  · rw [if_pos q]
  rw [if_neg q1, Hi0 hT hs, Option.bind_some]
  have hl' : -2147483648 ≤ l ∧ l < 2147483648 := hl
  rw [iteEq (by omega)]
  refine ite_c (fun q => ?_) (fun q2 => ?_)
  · rw [if_pos q, Hck hT hs, Option.bind_some, C_spans hT hI hs hi hc, z_b2_some, ite_tb]
    refine ite_c (fun q => ?_) (fun q => ?_)
    · rw [if_pos q]
    · rw [if_neg q]
  · rw [if_neg q2]
/-! the reference's rows -/
variable {Y : Nat → Nat → Int32}
theorem Y6 (hM : MR h m A Y) (hT : RSH Y ln le it) {s : Int} (hs : 0 ≤ s ∧ s < 4) : z_aI h (some (m + 6)) (iI s) = some (iI (if ln s.toNat < 0 then -4 else ln s.toNat)) := by
  rw [z_aI_k (hM.1 6 (by omega)) (Or.inl rfl) hs.1 (by have := hs.2; omega) (by decide), (hT s.toNat (by omega)).1]
theorem Y7 (hM : MR h m A Y) (hT : RSH Y ln le it) {s : Int} (hs : 0 ≤ s ∧ s < 4) (hl : 0 ≤ ln s.toNat) : z_aI h (some (m + 7)) (iI s) = some (iI (le s.toNat)) := by
  rw [z_aI_k (hM.1 7 (by omega)) (Or.inl rfl) hs.1 (by have := hs.2; omega) (by decide), (hT s.toNat (by omega)).2.1 hl]
theorem Y8 (hM : MR h m A Y) (hT : RSH Y ln le it) {s j : Int} (hs : 0 ≤ s ∧ s < 4) (hj : 0 ≤ j ∧ j < 64) : z_aI h (some (m + 8)) (iI (64 * s + j)) = some (it s.toNat j.toNat) := by
  rw [z_aI_k (hM.1 8 (by omega)) (Or.inl rfl) (by omega) (by omega) (by decide), ← (hT s.toNat (by omega)).2.2 j.toNat (by omega)]
  congr 2
  omega
theorem S6 (hM : MR h m A Y) {s : Int} (hs : 0 ≤ s ∧ s < 4) (v : Int32) : z_sI h (some (m + 6)) (iI s) v = some (z_up h (m + 6) (mL m 6 (upd (Y 6) s.toNat v))) := z_sI_k (hM.1 6 (by omega)) hs.1 (by have := hs.2; omega) (by decide)
theorem S7 (hM : MR h m A Y) {s : Int} (hs : 0 ≤ s ∧ s < 4) (v : Int32) : z_sI h (some (m + 7)) (iI s) v = some (z_up h (m + 7) (mL m 7 (upd (Y 7) s.toNat v))) := z_sI_k (hM.1 7 (by omega)) hs.1 (by have := hs.2; omega) (by decide)
theorem S8 (hM : MR h m A Y) {e : Int} (he : 0 ≤ e ∧ e < 256) (v : Int32) : z_sI h (some (m + 8)) (iI e) v = some (z_up h (m + 8) (mL m 8 (upd (Y 8) e.toNat v))) := z_sI_k (hM.1 8 (by omega)) he.1 (by have := he.2; omega) (by decide)
theorem RSH_8 (hT : RSH Y ln le it) {s : Nat} (hs : s < 4) {e : Nat} (he : e < 64) (v : Int32) : RSH (updR Y 8 (upd (Y 8) (64 * s + e) v)) ln le (updR it s (upd (it s) e v)) := by
  intro s' hs'
  obtain ⟨k1, k2, k3⟩ := hT s' hs'
  refine ⟨by rw [updR_n _ _ (by omega)]; exact k1, by rw [updR_n _ _ (by omega)]; exact k2, fun j hj => ?_⟩
  rw [updR_s]
  by_cases q : s' = s
  · subst q
    rw [updR_s]
    by_cases q2 : j = e
    · subst q2; rw [pk_us, pk_us]
    · rw [pk_un (by omega), pk_un q2]; exact k3 j hj
  · rw [pk_un (by omega), updR_n _ _ q]; exact k3 j hj
end SH
