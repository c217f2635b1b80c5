/-! TICKS: what one does to the numbers -/
theorem fnd_cs (A : Int → Int) (a p : Int) : ∀ (q : List zKl) (k : Int), (fndx A a p q k = -4 ∧ fndC A a p q = none) ∨ ∃ (j : Nat) (c : zKl), q[j]? = some c ∧ fndx A a p q k = k + j ∧ fndC A a p q = some c.2
  | [], k => Or.inl ⟨rfl, rfl⟩
  | c :: l, k => by
    by_cases ev : evL (evX (sn A a p) 4) c.1 True
    · exact Or.inr ⟨0, c, rfl, by simp only [fndx, if_pos ev]; omega, by simp only [fndC, if_pos ev]⟩
    · have e1 : fndx A a p (c :: l) k = fndx A a p l (k + 1) := by rw [fndx, if_neg ev]
      have e2 : fndC A a p (c :: l) = fndC A a p l := by rw [fndC, if_neg ev]
      rw [e1, e2]
      rcases fnd_cs A a p l (k + 1) with h | ⟨j, d, h1, h2, h3⟩
      · exact Or.inl h
      · exact Or.inr ⟨j + 1, d, by simpa using h1, by rw [h2]; omega, h3⟩
/-- the acts that a piece does in a tick -/
noncomputable def gfc (A : Int → Int) (Q : Int → List zKl) (a p : Int) : Option (List (Int × Int)) := if p = A (71 + 40 * a) then none else fndC A a p (Q a)
noncomputable def stP (g : Option (List (Int × Int))) (A : Int → Int) (a p : Int) : Int → Int := match g with
  | none => uI A (96 + 40 * a + p) 0
  | some l => uI (actsA A a p l) (96 + 40 * a + p) (actsW 0 l)
noncomputable def tkP (G : Int → Int → Option (List (Int × Int))) (a : Int) (A : Int → Int) : Nat → Int → Int
  | 0 => A
  | k + 1 => stP (G a ((k : Int) + 1)) (tkP G a A k) a ((k : Int) + 1)
noncomputable def tk0 (A : Int → Int) (a : Int) : Int → Int := uI A (96 + 40 * a) (A (72 + 40 * a))
noncomputable def tkA (G : Int → Int → Option (List (Int × Int))) (A : Int → Int) : Nat → Int → Int
  | 0 => A
  | k + 1 => tkP G (k : Int) (tk0 (tkA G A k) (k : Int)) (A (70 + 40 * (k : Int)) - 1).toNat
noncomputable def tickA (A : Int → Int) (Q : Int → List zKl) : Int → Int := uI (tkA (gfc A Q) A (A 64).toNat) 67 (tkA (gfc A Q) A (A 64).toNat 67 + 1)
def vG (G : Int → Int → Option (List (Int × Int))) (A : Int → Int) : Prop := ∀ a p l, vP A a p → G a p = some l → ∀ y, y ∈ l → vAct y
section TK
variable {A : Int → Int} {Q : Int → List zKl} {G : Int → Int → Option (List (Int × Int))}
theorem vG_gfc (hQ : ∀ a, 0 ≤ a → a < A 64 → ∀ c, c ∈ Q a → vK c) : vG (gfc A Q) A := by
  intro a p l hv hg y hy
  unfold gfc at hg
  split at hg
  · cases hg
  · rcases fnd_cs A a p (Q a) 0 with ⟨-, h⟩ | ⟨j, c, h1, -, h3⟩
    · rw [h] at hg; cases hg
    · rw [h3] at hg
      cases hg
      exact (hQ a hv.1.1 hv.1.2 c (List.mem_of_getElem? h1)).2.2 y hy
theorem stP_ok (hW : WF A) {a p : Int} (hv : vP A a p) (hp : 1 ≤ p) {g : Option (List (Int × Int))} (hg : ∀ l, g = some l → ∀ y, y ∈ l → vAct y) : WF (stP g A a p) ∧ kT A (stP g A a p) := by
  have v1 := hW.vp hv
  match g, hg with
  | none, _ => exact ⟨WF_dig hW (dg_s v1.1 v1.2) (by omega), kT_uI _ _ (by omega)⟩
  | some l, hg =>
    obtain ⟨h1, h2⟩ := acts_ok hp l A hW hv (hg l rfl)
    exact ⟨WF_dig h1 (dg_s v1.1 v1.2) (actsW_rg l 0 (by omega) (hg l rfl)), kT_tr h2 (kT_uI _ _ (by omega))⟩
theorem tkP_ok (hW : WF A) {a : Int} (ha : 0 ≤ a ∧ a < A 64) (hG : vG G A) : ∀ k : Nat, (k : Int) < A (70 + 40 * a) → WF (tkP G a A k) ∧ kT A (tkP G a A k)
  | 0, _ => ⟨hW, kT_rf A⟩
  | k + 1, hk => by
    obtain ⟨h1, h2⟩ := tkP_ok hW ha hG k (by omega)
    have hv : vP A a ((k : Int) + 1) := ⟨ha, by omega, by omega⟩
    obtain ⟨h3, h4⟩ := stP_ok h1 ((kT_vP h2 hW.n.1.2 a _).mpr hv) (by omega) (g := G a ((k : Int) + 1)) (fun l e => hG a _ l hv e)
    exact ⟨h3, kT_tr h2 h4⟩
theorem tk0_ok (hW : WF A) {a : Int} (ha : 0 ≤ a ∧ a < A 64) : WF (tk0 A a) ∧ kT A (tk0 A a) := by
  have hn := hW.n
  have hh := (hW.a ha).2.2.1
  exact ⟨WF_dig hW ⟨a, by omega, by omega⟩ hh, kT_uI _ _ (by omega)⟩
theorem vG_kT {A' : Int → Int} (hW : WF A) (hk : kT A A') (hG : vG G A) : vG G A' := fun a p l hv e => hG a p l ((kT_vP hk hW.n.1.2 a p).mp hv) e
theorem tkA_ok (hW : WF A) (hG : vG G A) : ∀ k : Nat, (k : Int) ≤ A 64 → WF (tkA G A k) ∧ kT A (tkA G A k)
  | 0, _ => ⟨hW, kT_rf A⟩
  | k + 1, hk => by
    have hn := hW.n
    obtain ⟨h1, h2⟩ := tkA_ok hW hG k (by omega)
    have e64 : tkA G A k 64 = A 64 := h2 64 (by omega)
    obtain ⟨h3, h4⟩ := tk0_ok h1 (a := (k : Int)) (by omega)
    have h5 := kT_tr h2 h4
    have e64' : tk0 (tkA G A k) (k : Int) 64 = A 64 := h5 64 (by omega)
    have e70 : tk0 (tkA G A k) (k : Int) (70 + 40 * (k : Int)) = A (70 + 40 * (k : Int)) := h5 _ (by omega)
    have pc := hW.pc (a := (k : Int)) (by omega)
    obtain ⟨h6, h7⟩ := tkP_ok h3 (a := (k : Int)) (by omega) (vG_kT hW h5 hG) (A (70 + 40 * (k : Int)) - 1).toNat (by omega)
    exact ⟨h6, kT_tr h5 h7⟩
theorem tickA_ok (hW : WF A) (hQ : ∀ a, 0 ≤ a → a < A 64 → ∀ c, c ∈ Q a → vK c) : WF (tickA A Q) ∧ kT A (tickA A Q) := by
  have hn := hW.n
  obtain ⟨h1, h2⟩ := tkA_ok hW (vG_gfc hQ) (A 64).toNat (by omega)
  refine ⟨WF_cg h1 (fun j hj => uI_n _ _ (by unfold dW at hj; omega)), kT_tr h2 (kT_uI _ _ (by omega))⟩
end TK
/-! the reference's tick -/
/-- what a tick leaves of the reference's other rows -/
def ky (Y Y' : Nat → Nat → Int32) : Prop := (∀ j, j ≠ 0 → j ≠ 1 → j ≠ 10 → j ≠ 11 → j ≠ 12 → j ≠ 13 → Y' j = Y j) ∧ ∀ j, j ≠ 14 → Y' 0 j = Y 0 j
theorem ky_rf (Y : Nat → Nat → Int32) : ky Y Y := ⟨fun _ _ _ _ _ _ _ => rfl, fun _ _ => rfl⟩
theorem ky_tr {Y Y1 Y2 : Nat → Nat → Int32} (a : ky Y Y1) (c : ky Y1 Y2) : ky Y Y2 := ⟨fun j h0 h1 h2 h3 h4 h5 => (c.1 j h0 h1 h2 h3 h4 h5).trans (a.1 j h0 h1 h2 h3 h4 h5), fun j hj => (c.2 j hj).trans (a.2 j hj)⟩
theorem ky_sm {k : Nat} {Y Y' : Nat → Nat → Int32} (s : sm k Y Y') : ky Y Y' := ⟨fun j h0 _ h2 h3 h4 _ => s.1 j h0 h2 h3 h4, s.2.1⟩
theorem ky_o1 {Y Y' : Nat → Nat → Int32} (s : o1 Y Y') : ky Y Y' := ⟨fun j _ h1 _ _ _ _ => s j h1, fun _ _ => by rw [s 0 (by omega)]⟩
theorem ky_13 (Y : Nat → Nat → Int32) (r : Nat → Int32) : ky Y (updR Y 13 r) := ⟨fun j _ _ _ _ _ h5 => updR_n _ _ h5, fun _ _ => by rw [updR_n _ _ (by omega)]⟩
/-- what is kept of the clause that a piece has found -/
def BG (A : Int → Int) (a : Int) (g : Option (List (Int × Int))) (x : Int32) : Prop := match g with
  | none => x = iI (-4)
  | some l => ∃ i, x = iI i ∧ actAt A a i l
section RT
variable {m : Nat} {A : Int → Int} {Q : Int → List zKl}
theorem Mset13 {h : zH} {Y : Nat → Nat → Int32} (hM : MR h m A Y) {e : Int} (x : Int32) (h1 : 0 ≤ e) (h2 : e < 21) : z_sI h (some (m + 13)) (iI e) x = some (z_up h (m + 13) (mL m 13 (upd (Y 13) e.toNat x))) := by
  rw [z_sI_k (hM.1 13 (by omega)) h1 (by simpa using h2) (by decide)]; rfl
theorem Mget13 {h : zH} {Y : Nat → Nat → Int32} (hM : MR h m A Y) {e : Int} (h1 : 0 ≤ e) (h2 : e < 21) : z_aI h (some (m + 13)) (iI e) = some (Y 13 e.toNat) :=
  z_aI_k (hM.1 13 (by omega)) (Or.inl rfl) h1 (by simpa using h2) (by decide)
/-- one piece finds -/
theorem R_tk1 {h : zH} {Y : Nat → Nat → Int32} (hM : MR h m A Y) (hW : WF A) {a p : Int} (hv : vP A a p) (hp : 1 ≤ p) (hT : TX A a (Q a)) :
    ∃ h' Y', f_X11_tick_c15 (some m) (iI a) (iI p) h = some (.inl (some m, iI a, iI (p + 1), h')) ∧ MR h' m A Y' ∧ ky Y Y' ∧ fr m 19 h h' ∧ BG A a (gfc A Q a p) (Y' 13 (7 * a + p).toNat) ∧ ∀ j, j ≠ (7 * a + p).toNat → Y' 13 j = Y 13 j := by
  have v1 := hW.vp hv
  have hv2 := hv.2
  have cu := hW.cu hv.1
  have pc := hW.pc hv.1
  obtain ⟨h1, Y1, k1, k2, k3, k4, k5⟩ := R_findsOf hM hW hv hp hT
  have e13 : Y1 13 = Y 13 := k3.1 13 (by omega) (by omega) (by omega) (by omega)
  have fin : ∀ x : Int32, BG A a (gfc A Q a p) x → ∃ h' Y', f_X11_tick_b61 (some m) (iI a) (iI p) (some (m + 13)) (iI (7 * a + p)) x h1 = some (.inl (some m, iI a, iI (p + 1), h')) ∧ MR h' m A Y' ∧ ky Y Y' ∧ fr m 19 h h' ∧ BG A a (gfc A Q a p) (Y' 13 (7 * a + p).toNat) ∧ ∀ j, j ≠ (7 * a + p).toNat → Y' 13 j = Y 13 j := by
    intro x hx
    refine ⟨_, _, ?_, MR_up k2 (k := 13) (by omega) (by omega) (upd (Y1 13) (7 * a + p).toNat x), ky_tr (ky_sm k3) (ky_13 _ _), fr_tr k4 (fr_up (by omega) (by omega)), ?_, fun j hj => ?_⟩
    · rw [f_X11_tick_b61, Mset13 k2 x (by omega) (by omega), Option.bind_some, iI_lit, iI_add]
    · rw [updR_s, pk_us]; exact hx
    · rw [updR_s, pk_un hj, e13]
  unfold f_X11_tick_c15
  rw [Mck hM.1, Option.bind_some, R_pieces hM v1.1, z_b2_some, if_neg (nLe (by omega)), Mg15 hM.1, Option.bind_some, Mck hM.1, Option.bind_some, k1, z_b2_some]
  simp only [iI_lit, iI_add, iI_sub, iI_mul, iI_neg]
  rcases fnd_cs A a p (Q a) 0 with ⟨q1, q2⟩ | ⟨j, c, q1, q2, q3⟩
  · rw [q1, if_pos (by decide), f_X11_tick_b52]
    refine fin _ ?_
    unfold gfc
    split
    · rfl
    · rw [q2]; rfl
  · have hj : j < (Q a).length := (List.getElem?_eq_some_iff.mp q1).1
    have hq := hT.1.1
    rw [q2, if_neg (nLt (by omega)), Mck k2.1, Option.bind_some, R_cutOf k2 v1.1, z_b2_some]
    by_cases q : p = A (71 + 40 * a)
    · rw [if_pos (cEq q), f_X11_tick_b52]
      refine fin _ ?_
      unfold gfc
      rw [if_pos q]; rfl
    · obtain ⟨i', g1, g2⟩ := k5 c.2 q3
      rw [if_neg (nEq (by omega)), Mi14 k2.1, Option.bind_some, g1]
      refine fin _ ?_
      unfold gfc
      rw [if_neg q, q3]
      exact ⟨i', rfl, g2⟩
def BGs (A : Int → Int) (Q : Int → List zKl) (Y : Nat → Nat → Int32) (a n : Int) : Prop := ∀ p, 1 ≤ p → p < n → BG A a (gfc A Q a p) (Y 13 (7 * a + p).toNat)
theorem R_tk2 {h : zH} {Y : Nat → Nat → Int32} (hM : MR h m A Y) (hW : WF A) {a : Int} (ha : 0 ≤ a ∧ a < A 64) (hT : TX A a (Q a)) :
    ∃ h' Y', f_X11_tick_b15 (some m) (iI a) (iI 1) h = some (.inl (some m, iI (a + 1), h')) ∧ MR h' m A Y' ∧ ky Y Y' ∧ fr m 19 h h' ∧ BGs A Q Y' a (A (70 + 40 * a)) ∧ ∀ j : Nat, (j : Int) < 7 * a → Y' 13 j = Y 13 j := by
  have pc := hW.pc ha
  have hn := hW.n
  have key := z_forI (body := fun s : (Option Nat) × Int32 × Int32 × zH => f_X11_tick_c15 s.1 s.2.1 s.2.2.1 s.2.2.2) (Q := fun r => ∃ h' Y', r = .inl (some m, iI (a + 1), h') ∧ MR h' m A Y' ∧ ky Y Y' ∧ fr m 19 h h' ∧ BGs A Q Y' a (A (70 + 40 * a)) ∧ ∀ j : Nat, (j : Int) < 7 * a → Y' 13 j = Y 13 j)
    (fun i s => ∃ h' Y', s = (some m, iI a, iI ((i : Int) + 1), h') ∧ MR h' m A Y' ∧ ky Y Y' ∧ fr m 19 h h' ∧ BGs A Q Y' a ((i : Int) + 1) ∧ ∀ j : Nat, (j : Int) < 7 * a → Y' 13 j = Y 13 j) (A (70 + 40 * a) - 1).toNat ?_ ?_ (A (70 + 40 * a) - 1).toNat 0 (some m, iI a, iI 1, h) (by omega) ⟨h, Y, rfl, hM, ky_rf Y, fr_rf _ _ _, fun p h1 h2 => absurd h2 (by omega), fun _ _ => rfl⟩
  · obtain ⟨r, k1, h', Y', rfl, k2⟩ := key
    exact ⟨h', Y', k1, k2⟩
  · rintro i s hi ⟨h1, Y1, rfl, k1, k2, k3, k4, k5⟩
    obtain ⟨h2, Y2, q1, q2, q3, q4, q5, q6⟩ := R_tk1 k1 hW (a := a) (p := (i : Int) + 1) ⟨ha, by omega, by omega⟩ (by omega) hT
    refine Or.inl ⟨_, q1, h2, Y2, by simp, q2, ky_tr k2 q3, fr_tr k3 q4, fun p h1 h2 => ?_, fun j hj => ?_⟩
    · by_cases e : p = (i : Int) + 1
      · subst e; exact q5
      · rw [q6 _ (by omega)]; exact k4 p h1 (by omega)
    · rw [q6 _ (by omega)]; exact k5 j hj
  · rintro s ⟨h1, Y1, rfl, k1, k2, k3, k4, k5⟩
    have e : (((A (70 + 40 * a) - 1).toNat : Int) + 1) = A (70 + 40 * a) := by omega
    rw [e] at k4 ⊢
    refine ⟨_, ?_, h1, Y1, rfl, k1, k2, k3, k4, k5⟩
    simp (disch := omega) only [f_X11_tick_c15, Mck k1.1, R_pieces k1, Option.bind_some, z_b2_some, z_i1_some, iI_lit, iI_add, iI_sub, iI_mul, iI_neg, iI_le, if_pos]
end RT
