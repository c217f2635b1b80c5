/-! THE REFERENCE's SEARCH -/
def RB (Y : Nat → Nat → Int32) (B : zB) : Prop := (∀ f, f < 4096 → Y 14 f = iI (B.1 f)) ∧ (∀ i, i < B.2.2.1 → Y 15 i = iI ((B.2.1 i : Nat) : Int)) ∧ (∀ c, c < 64 → Y 16 c = iI (B.2.2.2 c)) ∧ Y 0 19 = iI (B.2.2.1 : Int)
/-- what the search leaves of the reference's other rows -/
def kz (Y Y' : Nat → Nat → Int32) : Prop := (∀ j, j ≠ 0 → j ≠ 1 → j ≠ 14 → j ≠ 15 → j ≠ 16 → Y' j = Y j) ∧ ∀ j, j ≠ 19 → Y' 0 j = Y 0 j
theorem kz_rf (Y : Nat → Nat → Int32) : kz Y Y := ⟨fun _ _ _ _ _ _ => rfl, fun _ _ => rfl⟩
theorem kz_tr {Y Y1 Y2 : Nat → Nat → Int32} (p : kz Y Y1) (q : kz Y1 Y2) : kz Y Y2 := ⟨fun j h0 h1 h2 h3 h4 => (q.1 j h0 h1 h2 h3 h4).trans (p.1 j h0 h1 h2 h3 h4), fun j hj => (q.2 j hj).trans (p.2 j hj)⟩
theorem kz_o1 {Y Y' : Nat → Nat → Int32} (s : o1 Y Y') : kz Y Y' := ⟨fun j _ h1 _ _ _ => s j h1, fun _ _ => by rw [s 0 (by omega)]⟩
theorem RB_o1 {Y Y' : Nat → Nat → Int32} {B : zB} (h : RB Y B) (s : o1 Y Y') : RB Y' B := ⟨fun f hf => by rw [s 14 (by omega)]; exact h.1 f hf, fun i hi => by rw [s 15 (by omega)]; exact h.2.1 i hi, fun c hc => by rw [s 16 (by omega)]; exact h.2.2.1 c hc, by rw [s 0 (by omega)]; exact h.2.2.2⟩
section RRe
variable {m : Nat} {A : Int → Int} {a : Int}
theorem Ma14 {h : zH} {Y : Nat → Nat → Int32} (hM : MAt h m Y) {e : Int} (h1 : 0 ≤ e) (h2 : e < 4096) : z_aI h (some (m + 14)) (iI e) = some (Y 14 e.toNat) := z_aI_k (hM 14 (by omega)) (Or.inl rfl) h1 (by simpa using h2) (by decide)
theorem Ma15 {h : zH} {Y : Nat → Nat → Int32} (hM : MAt h m Y) {e : Int} (h1 : 0 ≤ e) (h2 : e < 4096) : z_aI h (some (m + 15)) (iI e) = some (Y 15 e.toNat) := z_aI_k (hM 15 (by omega)) (Or.inl rfl) h1 (by simpa using h2) (by decide)
theorem Ma16 {h : zH} {Y : Nat → Nat → Int32} (hM : MAt h m Y) {e : Int} (h1 : 0 ≤ e) (h2 : e < 64) : z_aI h (some (m + 16)) (iI e) = some (Y 16 e.toNat) := z_aI_k (hM 16 (by omega)) (Or.inl rfl) h1 (by simpa using h2) (by decide)
theorem Ma17 {h : zH} {Y : Nat → Nat → Int32} (hM : MAt h m Y) {e : Int} (h1 : 0 ≤ e) (h2 : e < 7) : z_aI h (some (m + 17)) (iI e) = some (Y 17 e.toNat) := z_aI_k (hM 17 (by omega)) (Or.inl rfl) h1 (by simpa using h2) (by decide)
theorem Ms14 {h : zH} {Y : Nat → Nat → Int32} (hM : MAt h m Y) {e : Int} (x : Int32) (h1 : 0 ≤ e) (h2 : e < 4096) : z_sI h (some (m + 14)) (iI e) x = some (z_up h (m + 14) (mL m 14 (upd (Y 14) e.toNat x))) := by rw [z_sI_k (hM 14 (by omega)) h1 (by simpa using h2) (by decide)]; rfl
theorem Ms15 {h : zH} {Y : Nat → Nat → Int32} (hM : MAt h m Y) {e : Int} (x : Int32) (h1 : 0 ≤ e) (h2 : e < 4096) : z_sI h (some (m + 15)) (iI e) x = some (z_up h (m + 15) (mL m 15 (upd (Y 15) e.toNat x))) := by rw [z_sI_k (hM 15 (by omega)) h1 (by simpa using h2) (by decide)]; rfl
theorem Ms16 {h : zH} {Y : Nat → Nat → Int32} (hM : MAt h m Y) {e : Int} (x : Int32) (h1 : 0 ≤ e) (h2 : e < 64) : z_sI h (some (m + 16)) (iI e) x = some (z_up h (m + 16) (mL m 16 (upd (Y 16) e.toNat x))) := by rw [z_sI_k (hM 16 (by omega)) h1 (by simpa using h2) (by decide)]; rfl
theorem Ms17 {h : zH} {Y : Nat → Nat → Int32} (hM : MAt h m Y) {e : Int} (x : Int32) (h1 : 0 ≤ e) (h2 : e < 7) : z_sI h (some (m + 17)) (iI e) x = some (z_up h (m + 17) (mL m 17 (upd (Y 17) e.toNat x))) := by rw [z_sI_k (hM 17 (by omega)) h1 (by simpa using h2) (by decide)]; rfl
/-- the form as a number -/
theorem fmK_num {A : Int → Int} {g : Nat → Nat} : ∀ K : Nat, K ≤ 6 → (∀ k : Nat, k < K → sideTo (A (75 + 40 * a + (k : Int))) (A (75 + 40 * a + ((k : Int) + 1))) = ((g k : Nat) : Int) ∧ g k < 4) → fmK A a K = iI ((nmK g K : Nat) : Int)
  | 0, _, _ => rfl
  | K + 1, hK, h => by
    simp only [fmK, nmK]
    rw [fmK_num K (by omega) (fun k hk => h k (by omega)), (h K (by omega)).1]
    exact or4 (nmK_lt K (fun j hj => (h j (by omega)).2)) (h K (by omega)).2 (by omega)
theorem fmO_lyd (hW : WF A) (ha : 0 ≤ a ∧ a < A 64) {f : Nat} (hV : VF (wA A) (A (75 + 40 * a)) (A (70 + 40 * a)).toNat (fmA A a) f) : fmO (lyd A a f) a = iI (f : Int) := by
  have pc := hW.pc ha
  have e70 : lyd A a f (70 + 40 * a) = A (70 + 40 * a) := lyd_n (by omega)
  unfold fmO
  rw [e70, fmK_num (g := dgf f) _ (by omega) (fun k hk => ?_), nmK_dgf (by omega) (by have := hV.1; rwa [show (A (70 + 40 * a) - 1).toNat = (A (70 + 40 * a)).toNat - 1 by omega])]
  have v0 := (hV.2.1 k (by omega)).1
  have v1 := (hV.2.1 (k + 1) (by omega)).1
  have d := dgf_lt f k
  rw [lyd_c (by omega) (by omega), lyd_c (by omega) (by omega), show (k : Int).toNat = k by omega, show ((k : Int) + 1).toNat = k + 1 by omega]
  exact ⟨(side_adj v0.1 v0.2 (by omega) (by omega) v1.1).1, d⟩
theorem R_come {A1 : Int → Int} {h : zH} {Y : Nat → Nat → Int32} {B : zB} (hM : MR h m A1 Y) (ha : 0 ≤ a ∧ a ≤ 2) (hpc : 2 ≤ A1 (70 + 40 * a) ∧ A1 (70 + 40 * a) ≤ 7) (hce : ∀ p, 0 ≤ p → p < A1 (70 + 40 * a) → 0 ≤ A1 (75 + 40 * a + p) ∧ A1 (75 + 40 * a + p) < 64) (hB : RB Y B) (hmv : ∀ f, B.1 f = -4 ∨ (0 ≤ B.1 f ∧ B.1 f ≤ 4096)) (hcn : B.2.2.1 ≤ 4096) {f : Nat} (hf : f < 4096) (hfm : fmO A1 a = iI (f : Int)) (hlt : B.1 f < 0 → B.2.2.1 < 4096) (v : Int) :
    ∃ h' Y', f_X11_come (some m) (iI a) (iI v) h = some h' ∧ MR h' m A1 Y' ∧ RB Y' (seeB B f v) ∧ kz Y Y' ∧ fr m 19 h h' := by
  have e14 := hB.1 f hf
  have hv := hmv f
  unfold f_X11_come
  rw [Mck hM.1, Option.bind_some, R_formOf hM ha hpc hce, z_b2_some, hfm, Mg16 hM.1, Option.bind_some, Ma14 hM.1 (by omega) (by omega), Option.bind_some, show (f : Int).toNat = f by omega, e14]
  simp only [iI_lit, iI_add, iI_sub, iI_mul, iI_neg]
  rw [iteLe (by omega)]
  unfold seeB
  by_cases q : B.1 f < 0
  · have hl := hlt q
    rw [if_neg (by omega), if_pos q, Option.bind_some, Ms14 hM.1 _ (by omega) (by omega), Option.bind_some, show (f : Int).toNat = f by omega]
    have M1 := MR_up hM (k := 14) (by omega) (by omega) (upd (Y 14) f (iI v))
    have e19 : updR Y 14 (upd (Y 14) f (iI v)) 0 19 = iI (B.2.2.1 : Int) := by rw [updR_n _ _ (by omega)]; exact hB.2.2.2
    rw [Mg17 M1.1, Option.bind_some, Mi19 M1.1, Option.bind_some, e19, Ms15 M1.1 _ (by omega) (by omega), Option.bind_some, show (B.2.2.1 : Int).toNat = B.2.2.1 by omega]
    have M2 := MR_up M1 (k := 15) (by omega) (by omega) (upd (updR Y 14 (upd (Y 14) f (iI v)) 15) B.2.2.1 (iI (f : Int)))
    have e19' : updR (updR Y 14 (upd (Y 14) f (iI v))) 15 (upd (updR Y 14 (upd (Y 14) f (iI v)) 15) B.2.2.1 (iI (f : Int))) 0 19 = iI (B.2.2.1 : Int) := by rw [updR_n _ _ (by omega)]; exact e19
    rw [Mi19 M2.1, Option.bind_some, e19', iI_add, Mp19 M2.1, Option.bind_some]
    refine ⟨_, _, rfl, MR_up M2 (k := 0) (by omega) (by omega) _, ⟨fun x hx => ?_, fun i hi => ?_, fun c hc => ?_, ?_⟩, ⟨fun j h0 h1 h2 h3 h4 => ?_, fun j hj => ?_⟩, fr_tr (fr_up (by omega) (by omega)) (fr_tr (fr_up (by omega) (by omega)) (fr_up (by omega) (by omega)))⟩
    · rw [updR_n _ _ (by omega), updR_n _ _ (by omega), updR_s]
      simp only
      by_cases e : x = f
      · subst e; rw [pk_us, updR_s]
      · rw [pk_un e, updR_n _ _ e]; exact hB.1 x hx
    · rw [updR_n _ _ (by omega), updR_s, updR_n _ _ (by omega)]
      simp only at hi ⊢
      by_cases e : i = B.2.2.1
      · subst e; rw [pk_us, updR_s]
      · rw [pk_un e, updR_n _ _ e]; exact hB.2.1 i (by omega)
    · rw [updR_n _ _ (by omega), updR_n _ _ (by omega), updR_n _ _ (by omega)]; exact hB.2.2.1 c hc
    · rw [updR_s, pk_us]; rfl
    · rw [updR_n _ _ h0, updR_n _ _ h3, updR_n _ _ h2]
    · rw [updR_s, pk_un hj, updR_n _ _ (by omega), updR_n _ _ (by omega)]
  · rw [if_pos (by omega), if_neg q]
    exact ⟨h, Y, rfl, hM, hB, kz_rf Y, fr_rf _ _ _⟩
noncomputable def mixL (A : Int → Int) (a : Int) (f f2 : Nat) (k : Int) : Int → Int := fun j => if 75 + 40 * a ≤ j ∧ j < 75 + 40 * a + k then pth (A (75 + 40 * a)) f2 (j - (75 + 40 * a)).toNat else lyd A a f j
theorem R_lay {h : zH} {Y : Nat → Nat → Int32} (hW : WF A) (ha : 0 ≤ a ∧ a < A 64) {f f2 : Nat} (hM : MR h m (lyd A a f) Y) (hV : VF (wA A) (A (75 + 40 * a)) (A (70 + 40 * a)).toNat (fmA A a) f2) : ∃ h', f_X11_lay (some m) (iI a) (iI (f2 : Int)) h = some h' ∧ go1 m h Y (lyd A a f2) h' := by
  have hn := hW.n
  have pc := hW.pc ha
  have hf2 : f2 < 4096 := Nat.lt_of_lt_of_le hV.1 (pow_le6 (by omega))
  have mx : ∀ k : Nat, (k : Int) + 1 < A (70 + 40 * a) → uI (mixL A a f f2 ((k : Int) + 1)) (75 + 40 * a + ((k : Int) + 1)) (pth (A (75 + 40 * a)) f2 (k + 1)) = mixL A a f f2 (((k + 1 : Nat) : Int) + 1) := by
    intro k hk
    funext j
    unfold mixL
    by_cases e : j = 75 + 40 * a + ((k : Int) + 1)
    · subst e; rw [uI_s, if_pos (by omega)]; congr 1; omega
    · rw [uI_n _ _ e]
      by_cases q : 75 + 40 * a ≤ j ∧ j < 75 + 40 * a + ((k : Int) + 1)
      · rw [if_pos q, if_pos (by omega)]
      · rw [if_neg q, if_neg (by omega)]
  have key := z_forI (body := fun s : (Option Nat) × Int32 × Int32 × Int32 × zH => f_X11_lay_c2 s.1 s.2.1 s.2.2.1 s.2.2.2.1 s.2.2.2.2) (Q := fun r => go1 m h Y (lyd A a f2) r)
    (fun i s => ∃ h', s = (some m, iI a, iI (f2 : Int), iI ((i : Int) + 1), h') ∧ go1 m h Y (mixL A a f f2 ((i : Int) + 1)) h') (A (70 + 40 * a) - 1).toNat ?_ ?_ (A (70 + 40 * a) - 1).toNat 0 (some m, iI a, iI (f2 : Int), iI 1, h) (by omega) ⟨h, rfl, Y, MR_cg hM (fun j hj => ?_), o1_rf Y, fr_rf _ _ _⟩
  · obtain ⟨r, k1, k2⟩ := key
    refine ⟨r, ?_, k2⟩
    unfold f_X11_lay
    rw [iI_lit]; exact k1
  · rintro i s hi ⟨h1, rfl, Y1, k1, k2, k3⟩
    have d := dgf_lt f2 i
    have v0 := (hV.2.1 i (by omega)).1
    have e70 : (mixL A a f f2 ((i : Int) + 1)) (70 + 40 * a) = A (70 + 40 * a) := by
      unfold mixL; rw [if_neg (by omega), lyd_n (by omega)]
    have ec : (mixL A a f f2 ((i : Int) + 1)) (75 + 40 * a + ((i : Int) + 1 - 1)) = pth (A (75 + 40 * a)) f2 i := by
      unfold mixL; rw [if_pos (by omega)]; congr 1; omega
    have g := go1_ms k1 (e := 75 + 40 * a + ((i : Int) + 1)) (v := pth (A (75 + 40 * a)) f2 (i + 1)) (by omega) (by omega)
    rw [mx i (by omega)] at g
    refine Or.inl ⟨_, ?_, _, rfl, go1_tr ⟨k1, k2, k3⟩ g⟩
    show f_X11_lay_c2 (some m) (iI a) (iI (f2 : Int)) (iI ((i : Int) + 1)) h1 = _
    unfold f_X11_lay_c2
    simp only [iI_lit, iI_add, iI_sub, iI_mul, iI_neg]
    rw [Mck k1.1, Option.bind_some, R_pieces k1 (by omega), z_b2_some, e70, if_neg (nLe (by omega)), Mg0 k1.1, Option.bind_some, R_of, z_b2_some, Mck k1.1, Option.bind_some, R_cell k1 (by omega) (by omega), z_b2_some, ec, show 2 * ((i : Int) + 1 - 1) = 2 * (i : Int) by omega, dg4 (by omega) (by omega), R_beside v0.1 v0.2 (by omega), z_b2_some, iI_add, show 70 + 40 * a + 5 + ((i : Int) + 1) = 75 + 40 * a + ((i : Int) + 1) by omega]
    have hp : bes (pth (A (75 + 40 * a)) f2 i) ((f2 / 4 ^ i % 4 : Nat) : Int) = pth (A (75 + 40 * a)) f2 (i + 1) := rfl
    rw [hp, M_set k1 (by omega) (by omega), Option.bind_some]
    rfl
  · rintro s ⟨h1, rfl, Y1, k1, k2, k3⟩
    have e : (((A (70 + 40 * a) - 1).toNat : Int) + 1) = A (70 + 40 * a) := by omega
    have el : mixL A a f f2 (((A (70 + 40 * a) - 1).toNat : Int) + 1) = lyd A a f2 := by
      funext j
      unfold mixL
      rw [e]
      by_cases q : 75 + 40 * a ≤ j ∧ j < 75 + 40 * a + A (70 + 40 * a)
      · rw [if_pos q]; unfold lyd; rw [if_pos q]
      · rw [if_neg q, lyd_n (by omega), lyd_n (by omega)]
    rw [el] at k1
    refine ⟨h1, ?_, Y1, k1, k2, k3⟩
    show f_X11_lay_c2 (some m) (iI a) (iI (f2 : Int)) (iI (((A (70 + 40 * a) - 1).toNat : Int) + 1)) h1 = _
    have e70 : lyd A a f2 (70 + 40 * a) = A (70 + 40 * a) := lyd_n (by omega)
    unfold f_X11_lay_c2
    rw [Mck k1.1, Option.bind_some, R_pieces k1 (by omega), z_b2_some, e70, e, if_pos (Int32.le_refl _)]
    rfl
  · unfold mixL
    by_cases q : 75 + 40 * a ≤ (j : Int) ∧ (j : Int) < 75 + 40 * a + (((0 : Nat) : Int) + 1)
    · rw [if_pos q]
      have : (j : Int) = 75 + 40 * a + 0 := by omega
      rw [this, lyd_c (by omega) (by omega), show (75 + 40 * a + 0 - (75 + 40 * a)).toNat = 0 by omega]
      rfl
    · rw [if_neg q]
/-- a flip, a turn, in the reference's own words -/
theorem flp_fl (hW : WF A) (ha : 0 ≤ a ∧ a < A 64) (hcut : A (71 + 40 * a) < 0) {f p : Nat} (hV : VF (wA A) (A (75 + 40 * a)) (A (70 + 40 * a)).toNat (fmA A a) f) (hp : (p : Int) + 2 < A (70 + 40 * a)) :
    (fl (wA A) (A (75 + 40 * a)) (A (70 + 40 * a)).toNat (fmA A a) f p = none ∧ flp (lyd A a f) (pth (A (75 + 40 * a)) f p) (pth (A (75 + 40 * a)) f (p + 2)) (pth (A (75 + 40 * a)) f (p + 1)) = -4) ∨
    (fl (wA A) (A (75 + 40 * a)) (A (70 + 40 * a)).toNat (fmA A a) f p = some (swp f p) ∧ flp (lyd A a f) (pth (A (75 + 40 * a)) f p) (pth (A (75 + 40 * a)) f (p + 2)) (pth (A (75 + 40 * a)) f (p + 1)) = bes (pth (A (75 + 40 * a)) f p) ((dgf f (p + 1) : Nat) : Int) ∧ 0 ≤ bes (pth (A (75 + 40 * a)) f p) ((dgf f (p + 1) : Nat) : Int) ∧ uI (lyd A a f) (75 + 40 * a + ((p : Int) + 1)) (bes (pth (A (75 + 40 * a)) f p) ((dgf f (p + 1) : Nat) : Int)) = lyd A a (swp f p)) := by
  have pc := hW.pc ha
  have hN : 2 ≤ (A (70 + 40 * a)).toNat ∧ (A (70 + 40 * a)).toNat ≤ 7 := by omega
  have v0 := (hV.2.1 p (by omega)).1
  have v1 := (hV.2.1 (p + 1) (by omega)).1
  have v2 := (hV.2.1 (p + 2) (by omega)).1
  have dp := dgf_lt f p
  have dq := dgf_lt f (p + 1)
  have co := corner v0.1 v0.2 (s := ((dgf f p : Nat) : Int)) (s' := ((dgf f (p + 1) : Nat) : Int)) (by omega) (by omega) v1.1 v2.1
  by_cases odd : (dgf f p + dgf f (p + 1)) % 2 = 1
  · have cq := co.mpr (by omega)
    have ac := across v0.1 v0.2 (s := ((dgf f p : Nat) : Int)) (s' := ((dgf f (p + 1) : Nat) : Int)) (by omega) (by omega) rfl rfl v1.1 v2.1 cq
    obtain ⟨e1, e2, e3, e4⟩ := pth_swp hN (by omega) hV odd
    have eb : bes (pth (A (75 + 40 * a)) f p) ((dgf f (p + 1) : Nat) : Int) = pth (A (75 + 40 * a)) f p + pth (A (75 + 40 * a)) f (p + 2) - pth (A (75 + 40 * a)) f (p + 1) := ac.2.2.1
    have ef : flp (lyd A a f) (pth (A (75 + 40 * a)) f p) (pth (A (75 + 40 * a)) f (p + 2)) (pth (A (75 + 40 * a)) f (p + 1)) = pick (lyd A a f) (bes (pth (A (75 + 40 * a)) f p) ((dgf f (p + 1) : Nat) : Int)) := by
      unfold flp
      have cq' : (pth (A (75 + 40 * a)) f p % 8 - pth (A (75 + 40 * a)) f (p + 2) % 8) * (pth (A (75 + 40 * a)) f p % 8 - pth (A (75 + 40 * a)) f (p + 2) % 8) = 1 ∧ (pth (A (75 + 40 * a)) f p / 8 - pth (A (75 + 40 * a)) f (p + 2) / 8) * (pth (A (75 + 40 * a)) f p / 8 - pth (A (75 + 40 * a)) f (p + 2) / 8) = 1 := cq
      rw [if_pos cq', eb]
      congr 1
      exact ac.1
    have fr' := lyd_free hW ha hcut (f := f) (c := bes (pth (A (75 + 40 * a)) f p) ((dgf f (p + 1) : Nat) : Int)) e2.2
    unfold fl
    rw [ef]
    by_cases u : usd (wA A) (A (75 + 40 * a)) (A (70 + 40 * a)).toNat (fmA A a) f (bes (pth (A (75 + 40 * a)) f p) ((dgf f (p + 1) : Nat) : Int))
    · left
      exact ⟨if_neg (fun q => q.2 u), pick_f (fun q => (fr'.mp q).2 u)⟩
    · right
      refine ⟨if_pos ⟨odd, u⟩, pick_t (fr'.mpr ⟨e2.1, u⟩), e2.1, ?_⟩
      funext j
      by_cases e : j = 75 + 40 * a + ((p : Int) + 1)
      · subst e
        rw [uI_s, lyd_c (by omega) (by omega), show ((p : Int) + 1).toNat = p + 1 by omega, e1]
      · rw [uI_n _ _ e]
        unfold lyd
        split
        · rw [e3 _ (by omega) (by omega)]
        · rfl
  · left
    unfold fl flp
    have cq' : ¬ ((pth (A (75 + 40 * a)) f p % 8 - pth (A (75 + 40 * a)) f (p + 2) % 8) * (pth (A (75 + 40 * a)) f p % 8 - pth (A (75 + 40 * a)) f (p + 2) % 8) = 1 ∧ (pth (A (75 + 40 * a)) f p / 8 - pth (A (75 + 40 * a)) f (p + 2) / 8) * (pth (A (75 + 40 * a)) f p / 8 - pth (A (75 + 40 * a)) f (p + 2) / 8) = 1) := fun q => odd (by have := co.mp q; omega)
    exact ⟨if_neg (fun q => odd q.1), by rw [if_neg cq']⟩
theorem trn_tn (hW : WF A) (ha : 0 ≤ a ∧ a < A 64) (hcut : A (71 + 40 * a) < 0) {f s : Nat} (hs : s < 4) (hV : VF (wA A) (A (75 + 40 * a)) (A (70 + 40 * a)).toNat (fmA A a) f) :
    (tn (wA A) (A (75 + 40 * a)) (A (70 + 40 * a)).toNat (fmA A a) f s = none ∧ ¬ free (lyd A a f) (bes (pth (A (75 + 40 * a)) f ((A (70 + 40 * a)).toNat - 2)) (s : Int))) ∨
    (tn (wA A) (A (75 + 40 * a)) (A (70 + 40 * a)).toNat (fmA A a) f s = some (tnf f ((A (70 + 40 * a)).toNat - 2) s) ∧ free (lyd A a f) (bes (pth (A (75 + 40 * a)) f ((A (70 + 40 * a)).toNat - 2)) (s : Int)) ∧ uI (lyd A a f) (75 + 40 * a + (A (70 + 40 * a) - 1)) (bes (pth (A (75 + 40 * a)) f ((A (70 + 40 * a)).toNat - 2)) (s : Int)) = lyd A a (tnf f ((A (70 + 40 * a)).toNat - 2) s)) := by
  have pc := hW.pc ha
  have hN : 2 ≤ (A (70 + 40 * a)).toNat ∧ (A (70 + 40 * a)).toNat ≤ 7 := by omega
  have v0 := (hV.2.1 ((A (70 + 40 * a)).toNat - 2) (by omega)).1
  have r := bes_rg (s := (s : Int)) v0.1 v0.2
  have fr' := lyd_free hW ha hcut (f := f) (c := bes (pth (A (75 + 40 * a)) f ((A (70 + 40 * a)).toNat - 2)) (s : Int)) (by omega)
  unfold tn
  by_cases u : 0 ≤ bes (pth (A (75 + 40 * a)) f ((A (70 + 40 * a)).toNat - 2)) (s : Int) ∧ ¬ usd (wA A) (A (75 + 40 * a)) (A (70 + 40 * a)).toNat (fmA A a) f (bes (pth (A (75 + 40 * a)) f ((A (70 + 40 * a)).toNat - 2)) (s : Int))
  · right
    obtain ⟨e1, e3⟩ := pth_tnf (c0 := A (75 + 40 * a)) (f := f) hN hs
    refine ⟨if_pos u, fr'.mpr u, ?_⟩
    funext j
    by_cases e : j = 75 + 40 * a + (A (70 + 40 * a) - 1)
    · subst e
      rw [uI_s, lyd_c (by omega) (by omega), show (A (70 + 40 * a) - 1).toNat = (A (70 + 40 * a)).toNat - 1 by omega, e1]
    · rw [uI_n _ _ e]
      unfold lyd
      split
      · rw [e3 _ (by omega)]
      · rfl
  · left
    exact ⟨if_neg u, fun q => u (fr'.mp q)⟩
end RRe
